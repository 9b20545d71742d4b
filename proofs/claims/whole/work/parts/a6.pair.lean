/-! ===== the two sides beside each other ===== -/
variable {P : Nat → pTab} {N : Nat → Nat} {held d n : Nat} {T : Nat → Int32} {X : Nat × (Nat → Int32)} {dg fa fb : Nat → Nat} {sh : Nat → Bool} {c : Nat → Nat → Nat → Int32} {mm : Nat → Nat → Nat → Nat → Int64} {pr : Nat → Int32} {I I' : qa_I} {J J' : qa_J}
/-- the reference holds the PROGRAMS -/
def mK (P : Nat → pTab) (N : Nat → Nat) (held : Nat) (dg fa fb : Nat → Nat) (sh : Nat → Bool) (c : Nat → Nat → Nat → Int32) (mm : Nat → Nat → Nat → Nat → Int64) (I : qa_I) (J : qa_J) : Prop := I 96 8 = nI held ∧ gS P N held I ∧ ∀ p, p < held → I 110 p = nI (dg p) ∧ I 119 p = (if sh p = true then 1 else 0) ∧ (sh p = true → I 120 p = nI (fa p) ∧ I 121 p = nI (fb p)) ∧ (hasF dg sh c p → I 122 p = 1 ∧ ∀ k i j, k < 4 → i < 6 → j < 6 → J 124 (144 * p + (36 * k + 6 * i + j)) = fsp (dg p) (mm p) k i j) ∧ (¬ hasF dg sh c p → I 122 p = 0)
def cL (n : Nat) (T : Nat → Int32) (P : Nat → pTab) (N : Nat → Nat) (held : Nat) (dg fa fb : Nat → Nat) (sh : Nat → Bool) (c : Nat → Nat → Nat → Int32) (mm : Nat → Nat → Nat → Nat → Int64) (pr : Nat → Int32) (I : qa_I) (J : qa_J) : Prop := cta T n I ∧ cK P N held dg fa fb sh c mm I J ∧ ∀ k, k < 4 → J 4 k = (pr k).toInt64
def mL (n : Nat) (T : Nat → Int32) (P : Nat → pTab) (N : Nat → Nat) (held : Nat) (dg fa fb : Nat → Nat) (sh : Nat → Bool) (c : Nat → Nat → Nat → Int32) (mm : Nat → Nat → Nat → Nat → Int64) (pr : Nat → Int32) (I : qa_I) (J : qa_J) : Prop := (I 96 1 = nI n ∧ ∀ j, j < n → I 97 j = T j) ∧ mK P N held dg fa fb sh c mm I J ∧ ∀ k, k < 4 → I 126 k = pr k
def pL (P : Nat → pTab) (N : Nat → Nat) (held : Nat) (dg fa fb : Nat → Nat) (sh : Nat → Bool) (c : Nat → Nat → Nat → Int32) (mm : Nat → Nat → Nat → Nat → Int64) (pr : Nat → Int32) : Prop := pK P N held dg fa fb sh c mm ∧ (∀ p, p < held → dg p ≤ 5 + 4 * p) ∧ prK pr
/-- what holds between two calls -/
def LI (I : qa_I) (J : qa_J) : Prop := ∃ (n : Nat) (T : Nat → Int32) (P : Nat → pTab) (N : Nat → Nat) (held : Nat) (dg fa fb : Nat → Nat) (sh : Nat → Bool) (c : Nat → Nat → Nat → Int32) (mm : Nat → Nat → Nat → Nat → Int64) (pr : Nat → Int32), pL P N held dg fa fb sh c mm pr ∧ cL n T P N held dg fa fb sh c mm pr I J ∧ mL n T P N held dg fa fb sh c mm pr I J
/-- the reference's cells that matter -/
def mLI (a k : Nat) : Prop := (a = 96 ∧ (k = 1 ∨ k = 8)) ∨ a = 97 ∨ (98 ≤ a ∧ a ≤ 103) ∨ a = 110 ∨ (119 ≤ a ∧ a ≤ 122) ∨ a = 126
def moI (a k : Nat) : Prop := 96 ≤ a ∧ ¬ mLI a k
def moJ (a k : Nat) : Prop := 96 ≤ a ∧ ¬ a = 124
theorem mprog.kept {p : Nat} {t : pTab} {many : Nat} (h : mprog p t many I) (hI : ∀ a k, 98 ≤ a → a ≤ 103 → I' a k = I a k) : mprog p t many I' := by
  refine ⟨(hI _ _ (by omega) (by omega)).trans h.1, fun s hs => ?_⟩
  obtain ⟨a1, a2, a3, a4, a5, a6⟩ := h.2 s hs
  exact ⟨(hI _ _ (by omega) (by omega)).trans a1, (hI _ _ (by omega) (by omega)).trans a2, (hI _ _ (by omega) (by omega)).trans a3, (hI _ _ (by omega) (by omega)).trans a4, fun z j hj => (hI _ _ (by omega) (by omega)).trans (a5 z j hj), fun z j hj => (hI _ _ (by omega) (by omega)).trans (a6 z j hj)⟩
theorem mL.kept (h : mL n T P N held dg fa fb sh c mm pr I J) (hI : ∀ a k, mLI a k → I' a k = I a k) (hJ : ∀ k, J' 124 k = J 124 k) : mL n T P N held dg fa fb sh c mm pr I' J' := by
  obtain ⟨⟨a1, a2⟩, ⟨b1, b2, b3⟩, c1⟩ := h
  refine ⟨⟨(hI _ _ (by unfold mLI; omega)).trans a1, fun j hj => (hI _ _ (by unfold mLI; omega)).trans (a2 j hj)⟩, ⟨(hI _ _ (by unfold mLI; omega)).trans b1, fun p hp => (b2 p hp).kept (fun a k h1 h2 => hI a k (by unfold mLI; omega)), fun p hp => ?_⟩, fun k hk => (hI _ _ (by unfold mLI; omega)).trans (c1 k hk)⟩
  obtain ⟨e1, e2, e3, e4, e5⟩ := b3 p hp
  refine ⟨(hI _ _ (by unfold mLI; omega)).trans e1, (hI _ _ (by unfold mLI; omega)).trans e2, fun z => ⟨(hI _ _ (by unfold mLI; omega)).trans (e3 z).1, (hI _ _ (by unfold mLI; omega)).trans (e3 z).2⟩, fun z => ⟨(hI _ _ (by unfold mLI; omega)).trans (e4 z).1, fun k i j h1 h2 h3 => (hJ _).trans ((e4 z).2 k i j h1 h2 h3)⟩, fun z => (hI _ _ (by unfold mLI; omega)).trans (e5 z)⟩
theorem cL.kept (h : cL n T P N held dg fa fb sh c mm pr I J) (h8 : held ≤ 8) (hI : ∀ a k, a < 96 → I' a k = I a k) (hJ : ∀ a k, a < 96 → J' a k = J a k) : cL n T P N held dg fa fb sh c mm pr I' J' :=
  ⟨h.1.kept (hI _ _ (by omega)) (fun k => hI _ _ (by omega)), h.2.1.kept h8 (hI _ _ (by omega)) (fun a k _ h2 => hI a k (by omega)) (fun a k _ h2 => hJ a k (by omega)), fun k hk => (hJ _ _ (by omega)).trans (h.2.2 k hk)⟩
def Wi (r r2 : Option Value) : Prop := ∃ v : Int32, r = some (.int v) ∧ r2 = some (.int v)
def Wl (r r2 : Option Value) : Prop := ∃ v : Int64, r = some (.long v) ∧ r2 = some (.long v)
/-- a call of the component, the same of the reference: the same answer, and all holds again -/
def pair (d : Nat) (Mx Mm : qa_M) (av : List Value) (X : Nat × (Nat → Int32)) (I : qa_I) (J : qa_J) (W : Option Value → Option Value → Prop) : Prop := ∀ t1 t2 : Nat, ∃ Q1 : qa_Q, qa_Call d Mx (.ref 0 :: av) qk_b (qk_g X) I J (qk_R t1 t2) Q1 ∧ ∀ r g1 I1 J1 R1, Q1 r g1 I1 J1 R1 → qk_g X = g1 ∧ W r r ∧ ∃ s1 s2, qk_R s1 s2 = R1 ∧ ∃ Q2 : qa_Q, qa_Call d Mm (.ref 96 :: av) qk_b (qk_g X) I1 J1 (qk_R s1 s2) Q2 ∧ ∀ r2 g2 I2 J2 R2, Q2 r2 g2 I2 J2 R2 → qk_g X = g2 ∧ (∃ u1 u2, qk_R u1 u2 = R2) ∧ LI I2 J2 ∧ W r r2
/-- the reference's ends: answer, what changes -/
def m_post (A : Option Value → Prop) (I : qa_I) (J : qa_J) (r : Option Value) (I' : qa_I) (J' : qa_J) : Prop := A r ∧ (∀ a k, ¬ moI a k → I' a k = I a k) ∧ (∀ a k, ¬ moJ a k → J' a k = J a k)
theorem pair_ro {Mx Mm : qa_M} {av : List Value} {W : Option Value → Option Value → Prop} {A B : Option Value → Prop} (hAB : ∀ r, A r → B r) (hpl : pL P N held dg fa fb sh c mm pr) (hc : cL n T P N held dg fa fb sh c mm pr I J) (hm : mL n T P N held dg fa fb sh c mm pr I J) (h1 : ∀ t1 t2, qa_Call d Mx (.ref 0 :: av) qk_b (qk_g X) I J (qk_R t1 t2) (qk_Z X (ck_post P N held dg fa fb sh c mm I J A))) (h2 : ∀ I1 J1 t1 t2, mL n T P N held dg fa fb sh c mm pr I1 J1 → qa_Call d Mm (.ref 96 :: av) qk_b (qk_g X) I1 J1 (qk_R t1 t2) (qk_Z X (m_post B I1 J1))) (h3 : ∀ r r2, A r → B r2 → W r r2) : pair d Mx Mm av X I J W := by
  have h8 := hpl.1.1
  intro t1 t2
  refine ⟨_, h1 t1 t2, ?_⟩
  rintro r g1 I1 J1 R1 ⟨rfl, ⟨s1, s2, rfl⟩, hA, hk, hK⟩
  have hm1 : mL n T P N held dg fa fb sh c mm pr I1 J1 := hm.kept (fun a k z => hk.1 a k (by unfold mLI at z; omega)) (fun k => hk.2.1 _ _ (by omega))
  have hc1 : cL n T P N held dg fa fb sh c mm pr I1 J1 := ⟨hc.1.kept hk.2.2.1 hk.2.2.2.1, hK, fun k hk' => (hk.2.2.2.2 k).trans (hc.2.2 k hk')⟩
  refine ⟨rfl, h3 r r hA (hAB r hA), s1, s2, rfl, _, h2 I1 J1 s1 s2 hm1, ?_⟩
  rintro r2 g2 I2 J2 R2 ⟨rfl, ⟨u1, u2, rfl⟩, hB, hI, hJ⟩
  refine ⟨rfl, ⟨u1, u2, rfl⟩, ⟨n, T, P, N, held, dg, fa, fb, sh, c, mm, pr, hpl, ?_, ?_⟩, h3 r r2 hA hB⟩
  · exact hc1.kept h8 (fun a k z => hI a k (by unfold moI; omega)) (fun a k z => hJ a k (by unfold moJ; omega))
  · exact hm1.kept (fun a k z => hI a k (fun y => y.2 z)) (fun k => hJ _ _ (by unfold moJ; omega))
/-- an end of the component that keeps the PROGRAMS -/
theorem ro_E {Mx : qa_M} {av : List Value} {t1 t2 : Nat} {v : Value} (hK : cK P N held dg fa fb sh c mm I J) (h : qa_Call d Mx av qk_b (qk_g X) I J (qk_R t1 t2) (qk_E (some v) X I J t1 t2)) : qa_Call d Mx av qk_b (qk_g X) I J (qk_R t1 t2) (qk_Z X (ck_post P N held dg fa fb sh c mm I J (fun r => r = some v))) := by
  refine qa_Call_mono h ?_
  rintro _ _ _ _ _ ⟨rfl, rfl, rfl, rfl, rfl⟩
  exact ⟨rfl, ⟨_, _, rfl⟩, rfl, ckeep.refl, hK⟩
theorem ro_H {Mx : qa_M} {av : List Value} {t1 t2 : Nat} {A : Option Value → Prop} (h : qa_Call d Mx av qk_b (qk_g X) I J (qk_R t1 t2) (qk_H X t1 t2 (ck_post P N held dg fa fb sh c mm I J A))) : qa_Call d Mx av qk_b (qk_g X) I J (qk_R t1 t2) (qk_Z X (ck_post P N held dg fa fb sh c mm I J A)) := by
  refine qa_Call_mono h ?_
  rintro _ _ _ _ _ ⟨rfl, rfl, h⟩
  exact ⟨rfl, ⟨_, _, rfl⟩, h⟩
theorem ro_B {Mx : qa_M} {av : List Value} {t1 t2 : Nat} {ok : Prop} {bad : Value} {A : Option Value → Prop} (hK : cK P N held dg fa fb sh c mm I J) (h : qa_Call d Mx av qk_b (qk_g X) I J (qk_R t1 t2) (qk_H X t1 t2 (qk_B ok bad I J (ck_post P N held dg fa fb sh c mm I J A)))) : qa_Call d Mx av qk_b (qk_g X) I J (qk_R t1 t2) (qk_Z X (ck_post P N held dg fa fb sh c mm I J (fun r => (¬ ok → r = some bad) ∧ (ok → A r)))) := by
  refine qa_Call_mono h ?_
  rintro _ _ _ _ _ ⟨rfl, rfl, h1, h2⟩
  refine ⟨rfl, ⟨_, _, rfl⟩, ?_⟩
  by_cases hz : ok
  · obtain ⟨a1, a2, a3⟩ := h2 hz
    exact ⟨⟨fun z => absurd hz z, fun _ => a1⟩, a2, a3⟩
  · obtain ⟨a1, rfl, rfl⟩ := h1 hz
    exact ⟨⟨fun _ => a1, fun z => absurd z hz⟩, ckeep.refl, hK⟩
theorem mo_E {Mm : qa_M} {av : List Value} {t1 t2 : Nat} {v : Value} (h : qa_Call d Mm av qk_b (qk_g X) I J (qk_R t1 t2) (qk_E (some v) X I J t1 t2)) : qa_Call d Mm av qk_b (qk_g X) I J (qk_R t1 t2) (qk_Z X (m_post (fun r => r = some v) I J)) := by
  refine qa_Call_mono h ?_
  rintro _ _ _ _ _ ⟨rfl, rfl, rfl, rfl, rfl⟩
  exact ⟨rfl, ⟨_, _, rfl⟩, rfl, fun _ _ _ => rfl, fun _ _ _ => rfl⟩
theorem gf_mo {g : Bool} : ∀ a k, ¬ moI a k → gf (qa_u I 96 42 0) g a k = I a k := fun a k hz => by
  have hn : ¬ (a = 96 ∧ k = 42) := fun y => hz (by unfold moI mLI; omega)
  rw [gf_ne hn, qu_if, if_neg hn]
/-! told, degree, count, shown, factor -/
theorem pr_told (hpl : pL P N held dg fa fb sh c mm pr) (hc : cL n T P N held dg fa fb sh c mm pr I J) (hm : mL n T P N held dg fa fb sh c mm pr I J) (what : Int32) : pair (d + 90) mX8_told mX9_told [.int what] X I J Wi := by
  refine pair_ro (A := (fun r => r = some (.int (ct I J what)))) (B := (fun r => r = some (.int (ct I J what)))) (fun _ h => h) hpl hc hm (fun t1 t2 => ro_E hc.2.1 (c_told (d := d + 89) what)) (fun I1 J1 t1 t2 hm1 => ?_) (fun r r2 h1 h2 => ⟨_, h1, h2⟩)
  have e : tl I1 what = ct I J what := by
    unfold tl ct
    rw [hm1.2.1.1, hm1.1.1, hc.2.1.1, hc.1.2.1]
    by_cases h0 : what = 0
    · rw [if_pos h0, if_pos h0]
    · rw [if_neg h0, if_neg h0]
      by_cases h1 : what = 1
      · rw [if_pos h1, if_pos h1]
      · rw [if_neg h1, if_neg h1]
        have hi : (2 ≤ what ∧ what ≤ 5) ↔ (0 ≤ what - 2 ∧ what - 2 < 4) := by
          rw [Int32.le_iff_toInt_le, Int32.le_iff_toInt_le, Int32.le_iff_toInt_le, Int32.lt_iff_toInt_lt, Int32.toInt_sub, show (2 : Int32).toInt = 2 from rfl, show (5 : Int32).toInt = 5 from rfl, show (0 : Int32).toInt = 0 from rfl, show (4 : Int32).toInt = 4 from rfl, Int.bmod_def]
          have l1 := Int32.le_toInt what
          have l2 := Int32.toInt_lt what
          split <;> omega
        by_cases hz : 2 ≤ what ∧ what ≤ 5
        · rw [if_pos hz, if_pos (hi.mp hz)]
          obtain ⟨k, hk1, hk2⟩ := nI_ofk (h := 4) (by decide) (hi.mp hz).1 (hi.mp hz).2
          rw [hk2, nI_clamp (by omega), hm1.2.2 k hk1, hc.2.2 k hk1, Int32.toInt32_toInt64]
        · rw [if_neg hz, if_neg (fun y => hz (hi.mpr y))]
  rw [← e]
  exact mo_E (k_told (d := d + 89) what)
theorem pr_degree (hpl : pL P N held dg fa fb sh c mm pr) (hc : cL n T P N held dg fa fb sh c mm pr I J) (hm : mL n T P N held dg fa fb sh c mm pr I J) (p : Int32) : pair (d + 90) mX8_degree mX9_degree [.int p] X I J Wi := by
  have h8 := hpl.1.1
  refine pair_ro (A := (fun r => r = some (.int (if 0 ≤ p ∧ p < nI held then I (9 + 8 * p.toNatClampNeg) 7 else -1)))) (B := (fun r => r = some (.int (if 0 ≤ p ∧ p < nI held then I (9 + 8 * p.toNatClampNeg) 7 else -1)))) (fun _ h => h) hpl hc hm (fun t1 t2 => ro_E hc.2.1 (c_degree (d := d + 89) h8 hc.2.1.1 p)) (fun I1 J1 t1 t2 hm1 => ?_) (fun r r2 h1 h2 => ⟨_, h1, h2⟩)
  have e : (if 0 ≤ p ∧ p < nI held then I1 110 p.toNatClampNeg else -1) = (if 0 ≤ p ∧ p < nI held then I (9 + 8 * p.toNatClampNeg) 7 else -1) := by
    by_cases hz : 0 ≤ p ∧ p < nI held
    · rw [if_pos hz, if_pos hz]
      obtain ⟨k, hk1, hk2⟩ := nI_ofk (by omega) hz.1 hz.2
      rw [hk2, nI_clamp (by omega), (hm1.2.1.2.2 k hk1).1, (hc.2.1.2.2 k hk1).1]
    · rw [if_neg hz, if_neg hz]
  rw [← e]
  exact mo_E (k_degree (d := d + 88) h8 hm1.2.1.1 p)
theorem pr_count (hpl : pL P N held dg fa fb sh c mm pr) (hc : cL n T P N held dg fa fb sh c mm pr I J) (hm : mL n T P N held dg fa fb sh c mm pr I J) (p kind a b : Int32) : pair (d + 90) mX8_count mX9_count [.int p, .int kind, .int a, .int b] X I J Wl := by
  have h8 := hpl.1.1
  have hrun : ∃ c0 m' tu', ct_ok held p kind a b → rnB P N p.toNatClampNeg 0 (N p.toNatClampNeg) (sm_v0 a.toInt64 b.toInt64) (fun _ => 0) 0 c0 m' tu' := by
    by_cases hz : ct_ok held p kind a b
    · obtain ⟨k, hk1, hk2⟩ := nI_ofk (by omega) hz.1.1 hz.1.2
      rw [hk2, nI_clamp (by omega)]
      obtain ⟨c0, m', tu', h⟩ := rx_run hpl.1.w hk1 a.toInt64 b.toInt64
      exact ⟨c0, m', tu', fun _ => h⟩
    · exact ⟨0, fun _ => 0, 0, fun z => absurd z hz⟩
  obtain ⟨c0, m', tu', hr⟩ := hrun
  refine pair_ro (A := (fun r => (¬ ct_ok held p kind a b → r = some (.long (-1))) ∧ (ct_ok held p kind a b → r = some (.long (if c0 = 0 then m' kind.toNatClampNeg else c0.toInt64))))) (B := (fun r => (¬ ct_ok held p kind a b → r = some (.long (-1))) ∧ (ct_ok held p kind a b → r = some (.long (if c0 = 0 then m' kind.toNatClampNeg else c0.toInt64))))) (fun _ h => h) hpl hc hm (fun t1 t2 => ?_) (fun I1 J1 t1 t2 hm1 => ?_) (fun r r2 h1 h2 => ?_)
  · refine qa_Call_mono (c_count (d := d + 6) hpl.1 hc.2.1 hr) ?_
    rintro _ _ _ _ _ ⟨rfl, rfl, h1, h2⟩
    refine ⟨rfl, ⟨_, _, rfl⟩, ?_⟩
    by_cases hz : ct_ok held p kind a b
    · obtain ⟨a1, a2, a3⟩ := h2 hz
      exact ⟨⟨fun z => absurd hz z, fun _ => a1⟩, a2, a3⟩
    · obtain ⟨a1, rfl, rfl⟩ := h1 hz
      exact ⟨⟨fun _ => a1, fun z => absurd z hz⟩, ckeep.refl, hc.2.1⟩
  · refine qa_Call_mono (k_count (d := d + 85) hpl.1.w h8 hm1.2.1.1 hm1.2.1.2.1 hr) ?_
    rintro _ _ _ _ _ ⟨rfl, rfl, h1, h2⟩
    refine ⟨rfl, ⟨_, _, rfl⟩, ?_⟩
    by_cases hz : ct_ok held p kind a b
    · obtain ⟨a1, a2, a3⟩ := h2 hz
      exact ⟨⟨fun z => absurd hz z, fun _ => a1⟩, fun a k y => a2 a k (by unfold moI mLI at y; unfold goI; omega), fun a k y => a3 a k (by unfold moJ at y; unfold goJ; omega)⟩
    · obtain ⟨a1, rfl, rfl⟩ := h1 hz
      exact ⟨⟨fun _ => a1, fun z => absurd z hz⟩, fun _ _ _ => rfl, fun _ _ _ => rfl⟩
  · by_cases hz : ct_ok held p kind a b
    · exact ⟨_, h1.2 hz, h2.2 hz⟩
    · exact ⟨_, h1.1 hz, h2.1 hz⟩
theorem mL.f (hm : mL n T P N held dg fa fb sh c mm pr I J) {p : Nat} (hp : p < held) : ¬ I 122 p = 0 ↔ hasF dg sh c p := by
  obtain ⟨-, -, -, e4, e5⟩ := hm.2.1.2.2 p hp
  constructor
  · intro h; exact Classical.byContradiction (fun z => h (e5 z))
  · intro h z; rw [(e4 h).1] at z; exact absurd z (by decide)
theorem pr_shown (hpl : pL P N held dg fa fb sh c mm pr) (hc : cL n T P N held dg fa fb sh c mm pr I J) (hm : mL n T P N held dg fa fb sh c mm pr I J) (p what : Int32) : pair (d + 90) mX8_shown mX9_shown [.int p, .int what] X I J Wi := by
  have h8 := hpl.1.1
  refine pair_ro (A := (fun r => (¬ sw_ok held p what → r = some (.int (-1))) ∧ (sw_ok held p what → sw_A dg fa fb sh c p.toNatClampNeg what r))) (B := (fun r => (¬ sw_ok held p what → r = some (.int (-1))) ∧ (sw_ok held p what → sw_A dg fa fb sh c p.toNatClampNeg what r))) (fun _ h => h) hpl hc hm (fun t1 t2 => ro_B hc.2.1 (c_shown (d := d + 4) hpl.1 hc.2.1 p what)) (fun I1 J1 t1 t2 hm1 => ?_) (fun r r2 h1 h2 => ?_)
  · refine qa_Call_mono (k_shown (d := d + 88) h8 hm1.2.1.1 p what) ?_
    rintro r _ _ _ _ ⟨rfl, rfl, h1, h2⟩
    refine ⟨rfl, ⟨_, _, rfl⟩, ?_⟩
    by_cases hz : sw_ok held p what
    · obtain ⟨rfl, rfl, rfl⟩ := h2 hz
      refine ⟨⟨fun z => absurd hz z, fun _ => ?_⟩, fun _ _ _ => rfl, fun _ _ _ => rfl⟩
      obtain ⟨k, hk1, hk2⟩ := nI_ofk (by omega) hz.1.1 hz.1.2
      rw [hk2, nI_clamp (by omega)]
      obtain ⟨e1, e2, e3, e4, e5⟩ := hm1.2.1.2.2 k hk1
      unfold sw_A sw
      refine ⟨fun h2 => ⟨fun hf => ?_, fun hf => ?_⟩, fun h2 => ?_⟩
      · rw [if_pos h2, (e4 hf).1]; rfl
      · rw [if_pos h2, e5 hf]; rfl
      · rw [if_neg h2, e2]
        cases hs : sh k with
        | false => rfl
        | true =>
          obtain ⟨f1, f2⟩ := e3 hs
          rw [if_pos rfl, if_pos rfl, if_neg (by decide), f1, f2]
    · obtain ⟨rfl, rfl, rfl⟩ := h1 hz
      exact ⟨⟨fun _ => rfl, fun z => absurd z hz⟩, fun _ _ _ => rfl, fun _ _ _ => rfl⟩
  · by_cases hz : sw_ok held p what
    · obtain ⟨a1, a2⟩ := h1.2 hz
      obtain ⟨b1, b2⟩ := h2.2 hz
      by_cases hw : what = 2
      · by_cases hf : hasF dg sh c p.toNatClampNeg
        · exact ⟨_, (a1 hw).1 hf, (b1 hw).1 hf⟩
        · exact ⟨_, (a1 hw).2 hf, (b1 hw).2 hf⟩
      · exact ⟨_, a2 hw, b2 hw⟩
    · exact ⟨_, h1.1 hz, h2.1 hz⟩
theorem pr_factor (hpl : pL P N held dg fa fb sh c mm pr) (hc : cL n T P N held dg fa fb sh c mm pr I J) (hm : mL n T P N held dg fa fb sh c mm pr I J) (p kind i j : Int32) : pair (d + 90) mX8_factor mX9_factor [.int p, .int kind, .int i, .int j] X I J Wl := by
  have h8 := hpl.1.1
  refine pair_ro (A := (fun r => (¬ fk_ok held p kind i j → r = some (.long (-9000000000000000000))) ∧ (fk_ok held p kind i j → fk_A dg sh c mm p.toNatClampNeg kind.toNatClampNeg i.toNatClampNeg j.toNatClampNeg r))) (B := (fun r => (¬ fk_ok held p kind i j → r = some (.long (-9000000000000000000))) ∧ (fk_ok held p kind i j → fk_A dg sh c mm p.toNatClampNeg kind.toNatClampNeg i.toNatClampNeg j.toNatClampNeg r))) (fun _ h => h) hpl hc hm (fun t1 t2 => ro_B hc.2.1 (c_factor (d := d + 4) hpl.1 hc.2.1 p kind i j)) (fun I1 J1 t1 t2 hm1 => ?_) (fun r r2 h1 h2 => ?_)
  · refine qa_Call_mono (k_factor (d := d + 88) h8 hm1.2.1.1 p kind i j) ?_
    rintro r _ _ _ _ ⟨rfl, rfl, h1, h2⟩
    refine ⟨rfl, ⟨_, _, rfl⟩, ?_⟩
    by_cases hz : fc_ok I1 held p kind i j
    · obtain ⟨rfl, rfl, rfl⟩ := h2 hz
      obtain ⟨y1, y2, y3, y4, y5⟩ := hz
      refine ⟨⟨fun z => absurd ⟨y1, y2, y3, y4⟩ z, fun _ => ?_⟩, fun _ _ _ => rfl, fun _ _ _ => rfl⟩
      obtain ⟨k, hk1, rfl⟩ := nI_ofk (by omega) y1.1 y1.2
      obtain ⟨kn, hkn, rfl⟩ := nI_ofk (h := 4) (by decide) y2.1 (k43.mpr y2.2)
      obtain ⟨i', hi1, rfl⟩ := nI_ofk (h := 6) (by decide) y3.1 (Int32.lt_of_le_of_lt y3.2 (by decide))
      obtain ⟨j', hj1, rfl⟩ := nI_ofk (h := 6) (by decide) y4.1 (Int32.lt_of_le_of_lt y4.2 (by decide))
      rw [nI_clamp (show k < 2 ^ 31 by omega)] at y5 ⊢
      rw [nI_clamp (show kn < 2 ^ 31 by omega), nI_clamp (show i' < 2 ^ 31 by omega), nI_clamp (show j' < 2 ^ 31 by omega)]
      have hf := (hm1.f hk1).mp y5
      obtain ⟨e1, e2, e3, e4, e5⟩ := hm1.2.1.2.2 k hk1
      refine ⟨fun _ => ?_, fun z => absurd hf z⟩
      rw [← (e4 hf).2 kn i' j' hkn hi1 hj1, show 144 * k + (36 * kn + 6 * i' + j') = 144 * k + 36 * kn + 6 * i' + j' by omega]
    · obtain ⟨rfl, rfl, rfl⟩ := h1 hz
      refine ⟨⟨fun _ => rfl, fun y => ?_⟩, fun _ _ _ => rfl, fun _ _ _ => rfl⟩
      obtain ⟨y1, y2, y3, y4⟩ := y
      refine ⟨fun hf => ?_, fun _ => rfl⟩
      refine absurd ⟨y1, y2, y3, y4, ?_⟩ hz
      obtain ⟨k, hk1, rfl⟩ := nI_ofk (by omega) y1.1 y1.2
      rw [nI_clamp (show k < 2 ^ 31 by omega)] at hf ⊢
      exact (hm1.f hk1).mpr hf
  · by_cases hz : fk_ok held p kind i j
    · obtain ⟨a1, a2⟩ := h1.2 hz
      obtain ⟨b1, b2⟩ := h2.2 hz
      by_cases hf : hasF dg sh c p.toNatClampNeg
      · exact ⟨_, a1 hf, b1 hf⟩
      · exact ⟨_, a2 hf, b2 hf⟩
    · exact ⟨_, h1.1 hz, h2.1 hz⟩
