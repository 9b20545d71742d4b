/-! ===== the table of a text is well formed ===== -/
theorem pa_congr {t t' : pTab} {dd : Nat} : ∀ m, (∀ s, s < m → pt_ty t s = pt_ty t' s ∧ pt_dp t s = pt_dp t' s) → pa t m dd = pa t' m dd := by
  intro m
  induction m with
  | zero => intro _; rfl
  | succ m ih =>
    intro h
    rw [pa, pa, ih (fun s hs => h s (by omega)), (h m (by omega)).1, (h m (by omega)).2]
theorem ln_ok_0 {nm : Nat → Int32} {D : Nat} : ln_ok (fun _ => 0) nm D := fun _ _ _ => rfl
theorem sp_nf_no {nm : Nat → Int32} {deep j : Nat} (hj : j < 5) (h : ∀ d, d < deep → ¬ nm d = nI (105 + j)) (c : Int32) : ¬ sp_nf nm deep c = 3 + j := by
  unfold sp_nf
  split
  · omega
  · split
    · omega
    · split
      · rename_i hz
        obtain ⟨j', hj', e⟩ := nx_of hz.1
        intro he
        have : nx c = j' := by rw [e]; exact nx_nI hj'
        unfold nx at this
        have hjj : j' = j := by omega
        have hany := hz.2
        unfold sp_any at hany
        rw [List.any_eq_true] at hany
        obtain ⟨d, hd, hdd⟩ := hany
        exact h d (List.mem_range.mp hd) (by rw [of_decide_eq_true hdd, e, hjj])
      · omega
theorem sp_part_no {T : Nat → Int32} {n : Nat} {nm : Nat → Int32} {deep j : Nat} (hj : j < 5) (h : ∀ d, d < deep → ¬ nm d = nI (105 + j)) (sg : Int32) (q : Nat) : ¬ (sp_part T n (sp_nf nm deep) sg q).2.2.1 = 3 + j := by
  unfold sp_part
  split
  · split
    · split
      · show ¬ 0 = 3 + j; omega
      · exact sp_nf_no hj h _
    · show ¬ 0 = 3 + j; omega
  · split
    · show ¬ 0 = 3 + j; omega
    · exact sp_nf_no hj h _
theorem sp_line_ok {T : Nat → Int32} {n : Nat} {nm : Nat → Int32} {deep : Nat} : ∀ (f : Nat) (sg : Int32) (q : Nat) (acc : Nat → Int32), ln_ok acc nm deep → ln_ok (sp_line T n (sp_nf nm deep) f sg q acc).2.2 nm deep := by
  intro f
  induction f with
  | zero => intro sg q acc h; exact h
  | succ f ih =>
    intro sg q acc h
    have ha : ln_ok (sp_add acc (sp_part T n (sp_nf nm deep) sg q).2.2.1 (sp_part T n (sp_nf nm deep) sg q).2.2.2) nm deep := fun j hj hn => by
      unfold sp_add
      rw [if_neg (fun z => sp_part_no hj hn sg q z.symm)]
      exact h j hj hn
    rw [sp_line]
    split
    · exact h
    · split
      · exact ha
      · split
        · exact ha
        · exact ih _ _ _ ha
/-- a LINE keeps to its names, and is small -/
def lgd (l nm : Nat → Int32) (deep : Nat) : Prop := ln_ok l nm deep ∧ ∀ j, ib (l j) 792
theorem lgd_0 {nm : Nat → Int32} {deep : Nat} : lgd (fun _ => 0) nm deep := ⟨ln_ok_0, fun _ => ib_0 _⟩
theorem sp_ln_gd {T : Nat → Int32} {n : Nat} {nm : Nat → Int32} {deep : Nat} (r : Bool × Nat) : lgd (sp_ln T n (sp_nf nm deep) r).2.2 nm deep := by
  unfold sp_ln
  split
  · exact lgd_0
  · exact ⟨sp_line_ok _ _ _ _ ln_ok_0, fun j => ib_mono (sp_line_bd 8 1 _ _ 0 (Or.inl rfl) (fun _ => ib_0 0) (by decide) j) (by decide)⟩
/-- what a STATEMENT is -/
theorem stmt_gd {T : Nat → Int32} {n : Nat} {nm : Nat → Int32} {deep held q : Nat} (hh : held < 2 ^ 31) (h : (sp_stmt T n nm deep held q).1 = false) : lgd (sp_stmt T n nm deep held q).2.2.2.2.1 nm deep ∧ lgd (sp_stmt T n nm deep held q).2.2.2.2.2 nm deep ∧ ((((sp_stmt T n nm deep held q).2.2.1 = 0 ∨ (sp_stmt T n nm deep held q).2.2.1 = 1) ∧ ∃ k, k < 4 ∧ (sp_stmt T n nm deep held q).2.2.2.1 = nI k) ∨ ((sp_stmt T n nm deep held q).2.2.1 = 2 ∧ ¬ deep = 4 ∧ (105 ≤ (sp_stmt T n nm deep held q).2.2.2.1 ∧ (sp_stmt T n nm deep held q).2.2.2.1 ≤ 109) ∧ ¬ sp_any nm deep (sp_stmt T n nm deep held q).2.2.2.1 = true) ∨ ((sp_stmt T n nm deep held q).2.2.1 = 3 ∧ ∃ k, k < held ∧ (sp_stmt T n nm deep held q).2.2.2.1 = nI k)) := by
  by_cases hL : 119 ≤ tk_l T n q ∧ tk_l T n q ≤ 122
  · have hk : ∃ k, k < 4 ∧ tk_l T n q - 119 = nI k := by
      have b1 := Int32.le_iff_toInt_le.mp hL.1
      have b2 := Int32.le_iff_toInt_le.mp hL.2
      have e1 : (119 : Int32).toInt = 119 := rfl
      have e2 : (122 : Int32).toInt = 122 := rfl
      refine ⟨(tk_l T n q).toInt.toNat - 119, by omega, ?_⟩
      apply Int32.toInt_inj.mp
      rw [nI_toInt (by omega), Int32.toInt_sub, e1, Int.bmod_def]
      split <;> omega
    rw [sp_stmt, if_pos hL]
    split
    · exact ⟨lgd_0, lgd_0, Or.inl ⟨Or.inl rfl, hk⟩⟩
    · exact ⟨sp_ln_gd _, lgd_0, Or.inl ⟨Or.inr rfl, hk⟩⟩
  · by_cases h3 : tk_K T n q = 3
    · have h2 : (sp_stmt T n nm deep held q).2.2.1 = 2 := by rw [st_F h3, stF_ty]
      have hf := stmt_for h h2
      refine ⟨?_, ?_, Or.inr (Or.inl ⟨h2, hf⟩)⟩
      · rw [st_F h3]
        unfold sp_stF
        split
        · exact lgd_0
        · split
          · exact lgd_0
          · exact sp_ln_gd _
      · rw [st_F h3]
        unfold sp_stF
        split
        · exact lgd_0
        · split
          · exact lgd_0
          · exact sp_ln_gd _
    · by_cases h4 : tk_K T n q = 4
      · have h2 : (sp_stmt T n nm deep held q).2.2.1 = 3 := by rw [st_R h4, stR_ty]
        have hf := stmt_run hh h h2
        refine ⟨?_, ?_, Or.inr (Or.inr ⟨h2, hf⟩)⟩
        · rw [st_R h4]
          unfold sp_stR
          split
          · exact lgd_0
          · exact sp_ln_gd _
        · rw [st_R h4]
          unfold sp_stR
          split
          · exact lgd_0
          · exact sp_ln_gd _
      · rw [sp_stmt, if_neg hL, if_neg h3, if_neg h4] at h
        cases h
abbrev pput (t : pTab) (m : Nat) (ty wh : Int32) (dp en : Nat) (l1 l2 nm : Nat → Int32) : pTab := (va_up t.1 m ty, va_up t.2.1 m wh, va_up t.2.2.1 m dp, va_up t.2.2.2.1 m en, va_up t.2.2.2.2.1 m l1, va_up t.2.2.2.2.2.1 m l2, va_up t.2.2.2.2.2.2 m nm)
abbrev pcl (t : pTab) (s m : Nat) : pTab := (t.1, t.2.1, t.2.2.1, va_up t.2.2.2.1 s m, t.2.2.2.2)
/-- s is a for that is open -/
def opn (deep : Nat) (ar : Nat → Nat) (s : Nat) : Prop := ∃ d, d < deep ∧ ar d = s
def rA (deep : Nat) (nm : Nat → Int32) : Prop := deep ≤ 4 ∧ nm_ok nm deep
def rB (deep many : Nat) (nm : Nat → Int32) (ar : Nat → Nat) (t : pTab) : Prop := ∀ d, d < deep → ar d < many ∧ pt_ty t (ar d) = 2 ∧ pt_dp t (ar d) = d ∧ pt_wh t (ar d) = nm d ∧ (∀ d', d' < d → pt_nm t (ar d) d' = nm d') ∧ (∀ d', d' < d → ar d' < ar d) ∧ pa t many d = ar d
def rD (p : Nat) (t : pTab) (s : Nat) : Prop := pt_dp t s ≤ 4 ∧ nm_ok (pt_nm t s) (pt_dp t s) ∧ lgd (pt_l1 t s) (pt_nm t s) (pt_dp t s) ∧ lgd (pt_l2 t s) (pt_nm t s) (pt_dp t s) ∧ (((pt_ty t s = 0 ∨ pt_ty t s = 1) ∧ pt_en t s = s + 1 ∧ ∃ k, k < 4 ∧ pt_wh t s = nI k) ∨ (pt_ty t s = 2 ∧ pt_dp t s < 4 ∧ (∃ j, j < 5 ∧ pt_wh t s = nI (105 + j)) ∧ ∀ d, d < pt_dp t s → ¬ pt_nm t s d = pt_wh t s) ∨ (pt_ty t s = 3 ∧ pt_en t s = s + 1 ∧ ∃ q, q < p ∧ pt_wh t s = nI q))
def rE (deep many : Nat) (ar : Nat → Nat) (t : pTab) (s : Nat) : Prop := s + 1 ≤ pt_en t s ∧ pt_en t s ≤ many ∧ (pt_en t s < many → pt_dp t (pt_en t s) ≤ pt_dp t s) ∧ (pt_en t s = many → deep ≤ pt_dp t s) ∧ (pt_ty t s = 2 → (s + 1 < pt_en t s → pt_dp t (s + 1) = pt_dp t s + 1) ∧ ∀ r, s < r → r < pt_en t s → ¬ opn deep ar r ∧ pt_dp t s + 1 ≤ pt_dp t r ∧ pt_en t r ≤ pt_en t s ∧ pt_nm t r (pt_dp t s) = pt_wh t s ∧ ∀ d, d < pt_dp t s → pt_nm t r d = pt_nm t s d)
def rF (many : Nat) (nm : Nat → Int32) (ar : Nat → Nat) (t : pTab) (d : Nat) : Prop := (ar d + 1 < many → pt_dp t (ar d + 1) = d + 1) ∧ ∀ r, ar d < r → r < many → d + 1 ≤ pt_dp t r ∧ ∀ d', d' ≤ d → pt_nm t r d' = nm d'
def rG (deep : Nat) (ar : Nat → Nat) (t : pTab) (s : Nat) : Prop := ∀ dd, dd < pt_dp t s → pa t s dd < s ∧ pt_ty t (pa t s dd) = 2 ∧ pt_dp t (pa t s dd) = dd ∧ (¬ opn deep ar (pa t s dd) → s < pt_en t (pa t s dd))
def RI (p deep many : Nat) (nm : Nat → Int32) (ar : Nat → Nat) (t : pTab) : Prop := rA deep nm ∧ rB deep many nm ar t ∧ ((0 < many → pt_dp t 0 = 0) ∧ (many = 0 → deep = 0)) ∧ (∀ s, s < many → rD p t s) ∧ (∀ s, s < many → ¬ opn deep ar s → rE deep many ar t s) ∧ (∀ d, d < deep → rF many nm ar t d) ∧ ∀ s, s < many → rG deep ar t s
theorem RI_close {p deep many : Nat} {nm : Nat → Int32} {ar : Nat → Nat} {t : pTab} (h : RI p deep many nm ar t) (hd : 0 < deep) : RI p (deep - 1) many nm ar (pcl t (ar (deep - 1)) many) := by
  obtain ⟨hA, hB, ⟨hC1, hC2⟩, hD, hE, hF, hG⟩ := h
  obtain ⟨b1, b2, b3, b4, b5, b6, b7⟩ := hB (deep - 1) (by omega)
  have en_at : pt_en (pcl t (ar (deep - 1)) many) (ar (deep - 1)) = many := up_at
  have en_ne : ∀ s, ¬ s = ar (deep - 1) → pt_en (pcl t (ar (deep - 1)) many) s = pt_en t s := fun s hs => up_ne hs
  have op_of : ∀ s, ¬ s = ar (deep - 1) → ¬ opn (deep - 1) ar s → ¬ opn deep ar s := fun s hs hn => fun ⟨d, h1, h2⟩ => hn ⟨d, by
    have : ¬ d = deep - 1 := fun z => hs (by rw [← h2, z])
    omega, h2⟩
  have op_mono : ∀ s, ¬ opn deep ar s → ¬ opn (deep - 1) ar s := fun s hn => fun ⟨d, h1, h2⟩ => hn ⟨d, by omega, h2⟩
  have hpa : ∀ m dd, pa (pcl t (ar (deep - 1)) many) m dd = pa t m dd := fun m dd => pa_congr m (fun s _ => ⟨rfl, rfl⟩)
  refine ⟨⟨by have := hA.1; omega, fun d hdd => hA.2 d (by omega)⟩, fun d hdd => ?_, ⟨hC1, fun z => by have := hC2 z; omega⟩, fun s hs => ?_, fun s hs hn => ?_, fun d hdd => hF d (by omega), fun s hs dd hdd => ?_⟩
  · obtain ⟨a1, a2, a3, a4, a5, a6, a7⟩ := hB d (by omega)
    exact ⟨a1, a2, a3, a4, a5, a6, (hpa many d).trans a7⟩
  · obtain ⟨a1, a2, a3, a4, a5⟩ := hD s hs
    refine ⟨a1, a2, a3, a4, ?_⟩
    by_cases hz : s = ar (deep - 1)
    · subst hz
      rcases a5 with ⟨z, -⟩ | z | ⟨z, -⟩
      · rcases z with z | z <;> exact absurd (b2.symm.trans z) (by decide)
      · exact Or.inr (Or.inl z)
      · exact absurd (b2.symm.trans z) (by decide)
    · rw [en_ne s hz]
      exact a5
  · by_cases hz : s = ar (deep - 1)
    · subst hz
      obtain ⟨f1, f2⟩ := hF (deep - 1) (by omega)
      unfold rE
      rw [en_at]
      refine ⟨by omega, Nat.le_refl _, fun z => absurd z (by omega), fun _ => by show deep - 1 ≤ pt_dp t (ar (deep - 1)); omega, fun _ => ⟨fun z => ?_, fun r h1 h2 => ?_⟩⟩
      · show pt_dp t (ar (deep - 1) + 1) = pt_dp t (ar (deep - 1)) + 1
        rw [f1 z, b3]
      · obtain ⟨g1, g2⟩ := f2 r h1 h2
        have hno : ¬ opn (deep - 1) ar r := fun ⟨d, y1, y2⟩ => by have := b6 d y1; omega
        refine ⟨hno, ?_, ?_, ?_, fun d hdd => ?_⟩
        · show pt_dp t (ar (deep - 1)) + 1 ≤ pt_dp t r
          rw [b3]; exact g1
        · rw [en_ne r (by omega)]
          exact (hE r h2 (op_of r (by omega) hno)).2.1
        · show pt_nm t r (pt_dp t (ar (deep - 1))) = pt_wh t (ar (deep - 1))
          rw [b3, b4]; exact g2 _ (Nat.le_refl _)
        · have hdd : d < pt_dp t (ar (deep - 1)) := hdd
          rw [b3] at hdd
          show pt_nm t r d = pt_nm t (ar (deep - 1)) d
          rw [g2 d (by omega), b5 d hdd]
    · obtain ⟨e1, e2, e3, e4, e5⟩ := hE s hs (op_of s hz hn)
      unfold rE
      rw [en_ne s hz]
      refine ⟨e1, e2, e3, fun z => by have := e4 z; show deep - 1 ≤ pt_dp t s; omega, fun z => ⟨(e5 z).1, fun r h1 h2 => ?_⟩⟩
      obtain ⟨g1, g2, g3, g4, g5⟩ := (e5 z).2 r h1 h2
      refine ⟨op_mono r g1, g2, ?_, g4, g5⟩
      rw [en_ne r (fun y => g1 ⟨deep - 1, by omega, y.symm⟩)]
      exact g3
  · rw [hpa]
    obtain ⟨g1, g2, g3, g4⟩ := hG s hs dd hdd
    refine ⟨g1, g2, g3, fun z => ?_⟩
    by_cases hz : pa t s dd = ar (deep - 1)
    · rw [hz, en_at]; exact hs
    · rw [en_ne _ hz]; exact g4 (op_of _ hz z)
theorem RI_put {p deep many : Nat} {nm : Nat → Int32} {ar : Nat → Nat} {t : pTab} (h : RI p deep many nm ar t) {ty wh : Int32} {l1 l2 : Nat → Int32} (hl1 : lgd l1 nm deep) (hl2 : lgd l2 nm deep) (hty : ((ty = 0 ∨ ty = 1) ∧ ∃ k, k < 4 ∧ wh = nI k) ∨ (ty = 2 ∧ ¬ deep = 4 ∧ (105 ≤ wh ∧ wh ≤ 109) ∧ ¬ sp_any nm deep wh = true) ∨ (ty = 3 ∧ ∃ k, k < p ∧ wh = nI k)) : RI p (if ty = 2 then deep + 1 else deep) (many + 1) (if ty = 2 then va_up nm deep wh else nm) (if ty = 2 then va_up ar deep many else ar) (pput t many ty wh deep (many + 1) l1 l2 nm) := by
  obtain ⟨hA, hB, ⟨hC1, hC2⟩, hD, hE, hF, hG⟩ := h
  have hA1 := hA.1
  generalize ht' : pput t many ty wh deep (many + 1) l1 l2 nm = t'
  have y1 : pt_ty t' many = ty := by rw [← ht']; exact up_at
  have y2 : pt_wh t' many = wh := by rw [← ht']; exact up_at
  have y3 : pt_dp t' many = deep := by rw [← ht']; exact up_at
  have y4 : pt_en t' many = many + 1 := by rw [← ht']; exact up_at
  have y5 : pt_l1 t' many = l1 := by rw [← ht']; exact up_at
  have y6 : pt_l2 t' many = l2 := by rw [← ht']; exact up_at
  have y7 : pt_nm t' many = nm := by rw [← ht']; exact up_at
  have x1 : ∀ s, s < many → pt_ty t' s = pt_ty t s := fun s hs => by rw [← ht']; exact up_ne (by omega)
  have x2 : ∀ s, s < many → pt_wh t' s = pt_wh t s := fun s hs => by rw [← ht']; exact up_ne (by omega)
  have x3 : ∀ s, s < many → pt_dp t' s = pt_dp t s := fun s hs => by rw [← ht']; exact up_ne (by omega)
  have x4 : ∀ s, s < many → pt_en t' s = pt_en t s := fun s hs => by rw [← ht']; exact up_ne (by omega)
  have x5 : ∀ s, s < many → pt_l1 t' s = pt_l1 t s := fun s hs => by rw [← ht']; exact up_ne (by omega)
  have x6 : ∀ s, s < many → pt_l2 t' s = pt_l2 t s := fun s hs => by rw [← ht']; exact up_ne (by omega)
  have x7 : ∀ s, s < many → pt_nm t' s = pt_nm t s := fun s hs => by rw [← ht']; exact up_ne (by omega)
  have hpa : ∀ m dd, m ≤ many → pa t' m dd = pa t m dd := fun m dd hm => pa_congr m (fun s hs => ⟨x1 s (by omega), x3 s (by omega)⟩)
  clear ht'
  -- the new names and rows agree with the old ones below deep
  have nm_lo : ∀ d, d < deep → (if ty = 2 then va_up nm deep wh else nm) d = nm d := fun d hd => by
    split
    · exact up_ne (by omega)
    · rfl
  have ar_lo : ∀ d, d < deep → (if ty = 2 then va_up ar deep many else ar) d = ar d := fun d hd => by
    split
    · exact up_ne (by omega)
    · rfl
  have dp_lo : deep ≤ (if ty = 2 then deep + 1 else deep) := by split <;> omega
  have op_of : ∀ s, ¬ opn (if ty = 2 then deep + 1 else deep) (if ty = 2 then va_up ar deep many else ar) s → ¬ opn deep ar s := fun s hn => fun ⟨d, h1, h2⟩ => hn ⟨d, by omega, by rw [ar_lo d h1]; exact h2⟩
  have op_to : ∀ s, s < many → ¬ opn deep ar s → ¬ opn (if ty = 2 then deep + 1 else deep) (if ty = 2 then va_up ar deep many else ar) s := fun s hs hn => fun ⟨d, h1, h2⟩ => by
    by_cases hd : d < deep
    · rw [ar_lo d hd] at h2
      exact hn ⟨d, hd, h2⟩
    · by_cases h2' : ty = 2
      · rw [if_pos h2'] at h1
        have : d = deep := by omega
        subst this
        rw [if_pos h2', up_at] at h2
        omega
      · rw [if_neg h2'] at h1
        omega
  refine ⟨?_, ?_, ⟨fun _ => ?_, fun z => by omega⟩, fun s hs => ?_, fun s hs hn => ?_, ?_, fun s hs => ?_⟩
  · rcases hty with ⟨z, -⟩ | ⟨z, n4, hr, hna⟩ | ⟨z, -⟩
    · have : ¬ ty = 2 := fun y => by rcases z with z | z <;> exact absurd (y.symm.trans z) (by decide)
      rw [if_neg this, if_neg this]; exact hA
    · rw [if_pos z, if_pos z]
      exact ⟨by omega, nm_ok_up hA.2 hr hna⟩
    · have : ¬ ty = 2 := fun y => absurd (y.symm.trans z) (by decide)
      rw [if_neg this, if_neg this]; exact hA
  · intro d hd
    by_cases hdd : d < deep
    · rw [ar_lo d hdd, nm_lo d hdd]
      obtain ⟨a1, a2, a3, a4, a5, a6, a7⟩ := hB d hdd
      refine ⟨by omega, (x1 _ a1).trans a2, (x3 _ a1).trans a3, (x2 _ a1).trans a4, fun d' h' => ?_, fun d' h' => ?_, ?_⟩
      · rw [x7 _ a1, nm_lo d' (by omega)]; exact a5 d' h'
      · rw [ar_lo d' (by omega)]; exact a6 d' h'
      · rw [pa, if_neg (fun z => by rw [y3] at z; omega), hpa many d (Nat.le_refl _)]; exact a7
    · by_cases h2 : ty = 2
      · rw [if_pos h2] at hd ⊢
        have : d = deep := by omega
        subst this
        rw [if_pos h2, up_at, up_at]
        refine ⟨by omega, y1.trans h2, y3, y2, fun d' h' => ?_, fun d' h' => ?_, ?_⟩
        · rw [y7, up_ne (by omega)]
        · rw [up_ne (by omega)]; exact (hB d' h').1
        · rw [pa, if_pos ⟨y1.trans h2, y3⟩]
      · rw [if_neg h2] at hd
        omega
  · by_cases hm : many = 0
    · subst hm
      rw [y3]; exact hC2 rfl
    · rw [x3 0 (by omega)]; exact hC1 (by omega)
  · by_cases hz : s = many
    · subst hz
      unfold rD
      rw [y1, y2, y3, y4, y5, y6, y7]
      refine ⟨hA1, hA.2, hl1, hl2, ?_⟩
      rcases hty with ⟨z, hk⟩ | ⟨z, n4, hr, hna⟩ | ⟨z, hk⟩
      · exact Or.inl ⟨z, rfl, hk⟩
      · refine Or.inr (Or.inl ⟨z, by omega, nx_of hr, fun d hd he => hna ?_⟩)
        unfold sp_any
        rw [List.any_eq_true]
        exact ⟨d, List.mem_range.mpr hd, decide_eq_true he⟩
      · exact Or.inr (Or.inr ⟨z, rfl, hk⟩)
    · have hs : s < many := by omega
      unfold rD
      rw [x1 s hs, x2 s hs, x3 s hs, x4 s hs, x5 s hs, x6 s hs, x7 s hs]
      exact hD s hs
  · by_cases hz : s = many
    · subst hz
      have h2 : ¬ ty = 2 := fun z => hn ⟨deep, by rw [if_pos z]; omega, by rw [if_pos z]; exact up_at⟩
      unfold rE
      rw [y1, y3, y4]
      exact ⟨Nat.le_refl _, Nat.le_refl _, fun z => absurd z (by omega), fun _ => by rw [if_neg h2]; exact Nat.le_refl _, fun z => absurd z h2⟩
    · have hs : s < many := by omega
      obtain ⟨e1, e2, e3, e4, e5⟩ := hE s hs (op_of s hn)
      unfold rE
      rw [x4 s hs, x3 s hs, x1 s hs, x2 s hs]
      refine ⟨e1, by omega, fun z => ?_, fun z => by omega, fun z => ⟨fun y => ?_, fun r h1 h2 => ?_⟩⟩
      · by_cases hem : pt_en t s = many
        · rw [hem, y3]; exact e4 hem
        · rw [x3 _ (by omega)]; exact e3 (by omega)
      · rw [x3 _ (by omega)]; exact (e5 z).1 y
      · obtain ⟨g1, g2, g3, g4, g5⟩ := (e5 z).2 r h1 h2
        have hr : r < many := by omega
        refine ⟨op_to r hr g1, by rw [x3 r hr]; exact g2, by rw [x4 r hr]; exact g3, by rw [x7 r hr]; exact g4, fun d hd => by rw [x7 r hr, x7 s hs]; exact g5 d hd⟩
  · intro d hd
    by_cases hdd : d < deep
    · obtain ⟨f1, f2⟩ := hF d hdd
      obtain ⟨a1, a2, a3, a4, a5, a6, a7⟩ := hB d hdd
      unfold rF
      rw [ar_lo d hdd]
      refine ⟨fun z => ?_, fun r h1 h2 => ?_⟩
      · by_cases hem : ar d + 1 = many
        · rw [hem, y3]
          refine Classical.byContradiction (fun hne => ?_)
          obtain ⟨c1, -, -, -, -, c6, -⟩ := hB (d + 1) (by omega)
          have := c6 d (by omega)
          omega
        · rw [x3 _ (by omega)]; exact f1 (by omega)
      · by_cases hem : r = many
        · subst hem
          rw [y3, y7]
          exact ⟨by omega, fun d' h' => (nm_lo d' (by omega)).symm⟩
        · have hr : r < many := by omega
          obtain ⟨g1, g2⟩ := f2 r h1 hr
          rw [x3 r hr, x7 r hr]
          exact ⟨g1, fun d' h' => (g2 d' h').trans (nm_lo d' (by omega)).symm⟩
    · by_cases h2 : ty = 2
      · rw [if_pos h2] at hd
        have : d = deep := by omega
        subst this
        unfold rF
        rw [if_pos h2, up_at]
        exact ⟨fun z => by omega, fun r h1 h3 => by omega⟩
      · rw [if_neg h2] at hd
        omega
  · intro dd hdd
    by_cases hz : s = many
    · subst hz
      rw [y3] at hdd
      obtain ⟨a1, a2, a3, a4, a5, a6, a7⟩ := hB dd hdd
      rw [hpa s dd (Nat.le_refl _), a7]
      exact ⟨a1, (x1 _ a1).trans a2, (x3 _ a1).trans a3, fun z => absurd ⟨dd, by omega, ar_lo dd hdd⟩ z⟩
    · have hs : s < many := by omega
      rw [x3 s hs] at hdd
      obtain ⟨g1, g2, g3, g4⟩ := hG s hs dd hdd
      rw [hpa s dd (by omega)]
      refine ⟨g1, (x1 _ (by omega)).trans g2, (x3 _ (by omega)).trans g3, fun z => ?_⟩
      rw [x4 _ (by omega)]
      exact g4 (op_of _ z)
theorem RI_read {T : Nat → Int32} {n p : Nat} (hp : p < 2 ^ 31) : ∀ (f q deep many : Nat) (nm : Nat → Int32) (ar : Nat → Nat) (t : pTab), RI p deep many nm ar t → (sp_read T n p f q deep many nm ar t).1 = false → ∃ nm' ar', RI p 0 (sp_read T n p f q deep many nm ar t).2.2.1 nm' ar' (sp_read T n p f q deep many nm ar t).2.2.2 := by
  intro f
  induction f with
  | zero => intro q deep many nm ar t _ h; cases h
  | succ f ih =>
    intro q deep many nm ar t hR h
    rw [sp_read] at h ⊢
    by_cases hA : tk_K T n q = 0 ∧ deep = 0
    · rw [if_pos hA]
      obtain ⟨-, rfl⟩ := hA
      exact ⟨nm, ar, hR⟩
    · rw [if_neg hA] at h ⊢
      by_cases hB : 0 < deep ∧ tk_K T n q = 125
      · rw [if_pos hB] at h ⊢
        exact ih _ _ _ _ _ _ (RI_close hR hB.1) h
      · rw [if_neg hB] at h ⊢
        by_cases hw : (sp_stmt T n nm deep p q).1 = true
        · rw [if_pos hw] at h; cases h
        · rw [if_neg hw] at h ⊢
          obtain ⟨g1, g2, g3⟩ := stmt_gd hp (by simpa using hw)
          exact ih _ _ _ _ _ _ (RI_put hR g1 g2 g3) h
theorem RI_0 (p : Nat) : RI p 0 0 (fun _ => 0) (fun _ => 0) pt0 := by
  refine ⟨⟨by omega, fun d hd => absurd hd (by omega)⟩, fun d hd => absurd hd (by omega), ⟨fun z => absurd z (by omega), fun _ => rfl⟩, fun s hs => absurd hs (by omega), fun s hs => absurd hs (by omega), fun d hd => absurd hd (by omega), fun s hs => absurd hs (by omega)⟩
theorem RI_end {p N : Nat} {nm : Nat → Int32} {ar : Nat → Nat} {t : pTab} (h : RI p 0 N nm ar t) : pwa t N ∧ pb t N ∧ (N ≤ 40 → pw p t N) := by
  obtain ⟨hA, hB, ⟨hC1, hC2⟩, hD, hE, hF, hG⟩ := h
  have no : ∀ s, ¬ opn 0 ar s := fun s ⟨d, h1, _⟩ => by omega
  refine ⟨fun s hs dd hdd => ?_, fun s hs j => ?_, fun h40 => ⟨h40, hC1, fun s hs => ?_⟩⟩
  · obtain ⟨g1, g2, g3, g4⟩ := hG s hs dd hdd
    exact ⟨g1, g2, g3, g4 (no _)⟩
  · obtain ⟨-, -, a3, a4, -⟩ := hD s hs
    have b1 := a3.2 j
    have b2 := a4.2 j
    unfold ib at b1 b2
    unfold sml
    omega
  · obtain ⟨a1, a2, a3, a4, a5⟩ := hD s hs
    obtain ⟨e1, e2, e3, e4, e5⟩ := hE s hs (no s)
    refine ⟨a1, e1, e2, e3, a2, fun _ => a3.1, fun _ => a4.1, ?_⟩
    rcases a5 with z | ⟨z, z1, z2, z3⟩ | z
    · exact Or.inl z
    · refine Or.inr (Or.inl ⟨z, z1, z2, z3, (e5 z).1, fun r h1 h2 => ?_⟩)
      obtain ⟨g1, g2, g3, g4, g5⟩ := (e5 z).2 r h1 h2
      exact ⟨g2, g3, g4, g5⟩
    · exact Or.inr (Or.inr z)
theorem text_wf {T : Nat → Int32} {n p : Nat} (hp : p < 2 ^ 31) (h : (sp_text T n p).1 = false) : pwa (sp_text T n p).2.2.2 (sp_text T n p).2.2.1 ∧ pb (sp_text T n p).2.2.2 (sp_text T n p).2.2.1 ∧ ((sp_text T n p).2.2.1 ≤ 40 → pw p (sp_text T n p).2.2.2 (sp_text T n p).2.2.1) ∧ ∀ s, s < (sp_text T n p).2.2.1 → (sp_text T n p).2.2.2.2.2.1 s ≤ 4 ∧ ((sp_text T n p).2.2.2.1 s = 3 → ∃ k, k < p ∧ (sp_text T n p).2.2.2.2.1 s = nI k) := by
  obtain ⟨nm', ar', hR⟩ := RI_read hp (n + 1) (ts_run tsB T n 0) 0 0 (fun _ => 0) (fun _ => 0) pt0 (RI_0 p) h
  obtain ⟨h1, h2, h3⟩ := RI_end hR
  refine ⟨h1, h2, h3, fun s hs => ?_⟩
  obtain ⟨a1, -, -, -, a5⟩ := hR.2.2.2.1 s hs
  refine ⟨a1, fun h3 => ?_⟩
  rcases a5 with ⟨z, -⟩ | ⟨z, -⟩ | ⟨-, -, z⟩
  · rcases z with z | z <;> exact absurd (h3.symm.trans z) (by decide)
  · exact absurd (h3.symm.trans z) (by decide)
  · exact z
