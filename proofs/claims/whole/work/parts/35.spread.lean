/-! ===== A TEXT: its STATEMENTS one behind another ===== -/
theorem tk_E_ge (T : Nat → Int32) (n q : Nat) : q ≤ tk_E T n q := by
  by_cases h : q < n
  · have := tk_E_lo h (T := T); omega
  · rw [tk_E, if_pos (by omega)]; exact Nat.le_refl _
theorem tk_N_ge (T : Nat → Int32) (n q : Nat) : q ≤ tk_N T n q := Nat.le_trans (tk_E_ge T n q) (ts_run_lo _ _ _ _)
theorem tk_K_lt {T : Nat → Int32} {n q : Nat} (h : ¬ tk_K T n q = 0) : q < n := tk_lt_of_C (fun z => h (tk_end_iff.mp z))
theorem tk_N_gt {T : Nat → Int32} {n q : Nat} (h : ¬ tk_K T n q = 0) : q + 1 ≤ tk_N T n q := Nat.le_trans (tk_E_lo (tk_K_lt h)) (ts_run_lo _ _ _ _)
theorem sp_part_ge (T : Nat → Int32) (n : Nat) (nf : Int32 → Nat) (sg : Int32) (q : Nat) : q ≤ (sp_part T n nf sg q).2.1 := by
  have h1 := tk_N_ge T n q
  have h2 := tk_N_ge T n (tk_N T n q)
  have h3 := tk_N_ge T n (tk_N T n (tk_N T n q))
  unfold sp_part
  split
  · split
    · split
      · exact Nat.le_trans h1 h2
      · exact Nat.le_trans h1 (Nat.le_trans h2 h3)
    · exact h1
  · split
    · exact Nat.le_refl _
    · exact h1
theorem sp_line_ge (T : Nat → Int32) (n : Nat) (nf : Int32 → Nat) : ∀ (f : Nat) (sg : Int32) (q : Nat) (acc : Nat → Int32), q ≤ (sp_line T n nf f sg q acc).2.1 := by
  intro f
  induction f with
  | zero => intro sg q acc; exact Nat.le_refl _
  | succ f ih =>
    intro sg q acc
    have h1 := sp_part_ge T n nf sg q
    rw [sp_line]
    split
    · exact h1
    · split
      · exact h1
      · split
        · exact h1
        · exact Nat.le_trans (Nat.le_trans h1 (tk_N_ge T n _)) (ih _ _ _)
theorem sp_want_ge (T : Nat → Int32) (n : Nat) (c : Int32) (r : Bool × Nat) : r.2 ≤ (sp_want T n c r).2 := by
  unfold sp_want
  split
  · exact Nat.le_refl _
  · split
    · exact tk_N_ge T n _
    · exact Nat.le_refl _
theorem sp_want_gt {T : Nat → Int32} {n : Nat} {c : Int32} {r : Bool × Nat} (hc : ¬ c = 0) (h : (sp_want T n c r).1 = false) : r.1 = false ∧ r.2 + 1 ≤ (sp_want T n c r).2 := by
  unfold sp_want at h ⊢
  split
  · rename_i z
    rw [if_pos z] at h
    rw [z] at h; cases h
  · rename_i z
    rw [if_neg z] at h
    split
    · rename_i y
      exact ⟨by simpa using z, tk_N_gt (by rw [y]; exact hc)⟩
    · rename_i y
      rw [if_neg y] at h; cases h
theorem sp_ln_ge (T : Nat → Int32) (n : Nat) (nf : Int32 → Nat) (r : Bool × Nat) : r.2 ≤ (sp_ln T n nf r).2.1 := by
  unfold sp_ln
  split
  · exact Nat.le_refl _
  · exact sp_line_ge _ _ _ _ _ _ _
theorem sp_stmt_ge {T : Nat → Int32} {n : Nat} {nm : Nat → Int32} {deep held q : Nat} (h : (sp_stmt T n nm deep held q).1 = false) : q + 2 ≤ (sp_stmt T n nm deep held q).2.1 ∧ ((sp_stmt T n nm deep held q).2.2.1 = 0 ∨ (sp_stmt T n nm deep held q).2.2.1 = 1 ∨ (sp_stmt T n nm deep held q).2.2.1 = 2 ∨ (sp_stmt T n nm deep held q).2.2.1 = 3) ∧ ((sp_stmt T n nm deep held q).2.2.1 = 2 → deep < 4 ∨ 4 < deep) := by
  unfold sp_stmt at h ⊢
  by_cases hL : 119 ≤ tk_l T n q ∧ tk_l T n q ≤ 122
  · rw [if_pos hL] at h ⊢
    have hK : ¬ tk_K T n q = 0 := fun z => by
      have : tk_l T n q = 0 := by unfold tk_l; rw [z]; rfl
      rw [this] at hL
      exact absurd hL.1 (by decide)
    have h1 := tk_N_gt hK
    by_cases h59 : tk_K T n (tk_N T n q) = 59
    · rw [if_pos h59]
      have h2 := tk_N_gt (show ¬ tk_K T n (tk_N T n q) = 0 by rw [h59]; decide)
      exact ⟨by show q + 2 ≤ tk_N T n (tk_N T n q); omega, Or.inl rfl, fun z => absurd (show (0 : Int32) = 2 from z) (by decide)⟩
    · rw [if_neg h59] at h ⊢
      have h2 := (sp_want_gt (by decide) h).2
      have h3 := sp_ln_ge T n (sp_nf nm deep) (false, tk_N T n q)
      exact ⟨by dsimp only at h2 h3 ⊢; omega, Or.inr (Or.inl rfl), fun z => absurd (show (1 : Int32) = 2 from z) (by decide)⟩
  · rw [if_neg hL] at h ⊢
    by_cases h3 : tk_K T n q = 3
    · rw [if_pos h3] at h ⊢
      have h1 := tk_N_gt (show ¬ tk_K T n q = 0 by rw [h3]; decide)
      by_cases h4 : deep = 4
      · rw [if_pos h4] at h; cases h
      · rw [if_neg h4] at h ⊢
        split at h
        · cases h
        · rename_i hz
          rw [if_neg hz]
          have hg := (sp_want_gt (by decide) h).2
          have g1 := sp_want_ge T n 61 (false, tk_N T n (tk_N T n q))
          have g2 := sp_ln_ge T n (sp_nf nm deep) (sp_want T n 61 (false, tk_N T n (tk_N T n q)))
          have g3 := sp_want_ge T n 46 (sp_2 (sp_ln T n (sp_nf nm deep) (sp_want T n 61 (false, tk_N T n (tk_N T n q)))))
          have g4 := sp_ln_ge T n (sp_nf nm deep) (sp_want T n 46 (sp_2 (sp_ln T n (sp_nf nm deep) (sp_want T n 61 (false, tk_N T n (tk_N T n q))))))
          have g0 := tk_N_ge T n (tk_N T n q)
          refine ⟨?_, Or.inr (Or.inr (Or.inl rfl)), fun _ => by omega⟩
          show q + 2 ≤ (sp_want T n 123 _).2
          dsimp only at hg g1 g2 g3 g4
          omega
    · rw [if_neg h3] at h ⊢
      by_cases h4 : tk_K T n q = 4
      · rw [if_pos h4] at h ⊢
        have h1 := tk_N_gt (show ¬ tk_K T n q = 0 by rw [h4]; decide)
        split at h
        · cases h
        · rename_i hz
          rw [if_neg hz]
          have hg := (sp_want_gt (by decide) h).2
          have g5 := sp_want_ge T n 41 (sp_2 (sp_ln T n (sp_nf nm deep) (sp_want T n 44 (sp_2 (sp_ln T n (sp_nf nm deep) (sp_want T n 40 (false, tk_N T n (tk_N T n q))))))))
          have g1 := sp_want_ge T n 40 (false, tk_N T n (tk_N T n q))
          have g2 := sp_ln_ge T n (sp_nf nm deep) (sp_want T n 40 (false, tk_N T n (tk_N T n q)))
          have g3 := sp_want_ge T n 44 (sp_2 (sp_ln T n (sp_nf nm deep) (sp_want T n 40 (false, tk_N T n (tk_N T n q)))))
          have g4 := sp_ln_ge T n (sp_nf nm deep) (sp_want T n 44 (sp_2 (sp_ln T n (sp_nf nm deep) (sp_want T n 40 (false, tk_N T n (tk_N T n q))))))
          have g0 := tk_N_ge T n (tk_N T n q)
          refine ⟨?_, Or.inr (Or.inr (Or.inr rfl)), fun z => absurd (show (3 : Int32) = 2 from z) (by decide)⟩
          show q + 2 ≤ (sp_want T n 59 _).2
          dsimp only at hg g1 g2 g3 g4 g5
          omega
      · rw [if_neg h4] at h; cases h
/-- sort, kind (letter, number), depth, behind, the lines, the letters of the fors around: of each STATEMENT -/
abbrev pTab : Type := (Nat → Int32) × (Nat → Int32) × (Nat → Nat) × (Nat → Nat) × (Nat → Nat → Int32) × (Nat → Nat → Int32) × (Nat → Nat → Int32)
def sp_read (T : Nat → Int32) (n held : Nat) (fu q deep many : Nat) (nm : Nat → Int32) (ar : Nat → Nat) (t : pTab) : Bool × Nat × Nat × pTab := match fu with
  | 0 => (true, q, many, t)
  | f + 1 => if tk_K T n q = 0 ∧ deep = 0 then (false, q, many, t)
    else if 0 < deep ∧ tk_K T n q = 125 then sp_read T n held f (tk_N T n q) (deep - 1) many nm ar (t.1, t.2.1, t.2.2.1, va_up t.2.2.2.1 (ar (deep - 1)) many, t.2.2.2.2)
    else if (sp_stmt T n nm deep held q).1 = true then (true, (sp_stmt T n nm deep held q).2.1, many, t)
    else sp_read T n held f (sp_stmt T n nm deep held q).2.1 (if (sp_stmt T n nm deep held q).2.2.1 = 2 then deep + 1 else deep) (many + 1)
      (if (sp_stmt T n nm deep held q).2.2.1 = 2 then va_up nm deep (sp_stmt T n nm deep held q).2.2.2.1 else nm) (if (sp_stmt T n nm deep held q).2.2.1 = 2 then va_up ar deep many else ar)
      (va_up t.1 many (sp_stmt T n nm deep held q).2.2.1, va_up t.2.1 many (sp_stmt T n nm deep held q).2.2.2.1, va_up t.2.2.1 many deep, va_up t.2.2.2.1 many (many + 1), va_up t.2.2.2.2.1 many (sp_stmt T n nm deep held q).2.2.2.2.1, va_up t.2.2.2.2.2.1 many (sp_stmt T n nm deep held q).2.2.2.2.2, va_up t.2.2.2.2.2.2 many nm)
/-- the reference's new rows hold the table -/
def mtab (t : pTab) (many : Nat) (op : Nat → Prop) (I : qa_I) : Prop := ∀ s, s < many → I 105 s = t.1 s ∧ I 106 s = (if t.1 s = 2 then t.2.1 s - 105 else t.2.1 s) ∧ I 108 s = nI (t.2.2.1 s) ∧ (¬ t.1 s = 0 → ∀ j, j < 8 → I 109 (16 * s + j) = t.2.2.2.2.1 s j) ∧ ((t.1 s = 2 ∨ t.1 s = 3) → ∀ j, j < 8 → I 109 (16 * s + 8 + j) = t.2.2.2.2.2.1 s j) ∧ (¬ op s → I 107 s = nI (t.2.2.2.1 s))
/-- what read changes before it knows whether there is room -/
def rd_P (a k : Nat) : Prop := (a = 96 ∧ ¬ k = 1 ∧ ¬ k = 8 ∧ k < 18) ∨ a = 104 ∨ a = 105 ∨ a = 106 ∨ a = 107 ∨ a = 108 ∨ a = 109
theorem st_rd {row deep : Nat} : ∀ a k, st_P row deep a k → rd_P a k := fun a k z => by
  unfold st_P mb_P mw_P at z
  unfold rd_P
  omega
theorem mt_rd : ∀ a k, mt_P a k → rd_P a k := fun a k z => by
  unfold mt_P at z
  unfold rd_P
  omega
