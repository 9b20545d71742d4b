variable {P : Nat → pTab} {N : Nat → Nat} {held d n : Nat} {T : Nat → Int32} {X : Nat × (Nat → Int32)} {dg fa fb : Nat → Nat} {sh : Nat → Bool} {c : Nat → Nat → Nat → Int32} {mm : Nat → Nat → Nat → Nat → Int64} {pr : Nat → Int32} {I I' : qa_I} {J J' : qa_J}
theorem pr_cut (hpl : pL P N held dg fa fb sh c mm pr) (hc : cL n T P N held dg fa fb sh c mm pr I J) (hm : mL n T P N held dg fa fb sh c mm pr I J) (x : Int32) : pair (d + 90) mX8_cut mX9_cut [.int x] X I J Wi := by
  have h8 := hpl.1.1
  have hn := hc.1.1
  intro t1 t2
  refine ⟨_, c_cut (d := d + 90) hc.1.2.1 x, ?_⟩
  rintro r g1 I1 J1 R1 ⟨rfl, rfl, hA, hB⟩
  have hs : Wi r r := by
    by_cases hz : 0 ≤ x ∧ x ≤ nI n
    · exact ⟨_, (hB hz).1, (hB hz).1⟩
    · exact ⟨_, (hA hz).1, (hA hz).1⟩
  refine ⟨rfl, hs, t1, t2, rfl, ?_⟩
  by_cases hz : 0 ≤ x ∧ x ≤ nI n
  · obtain ⟨rfl, rfl, rfl⟩ := hB hz
    have e1 : qa_u I 1 1 x 96 1 = nI n := by rw [qu_if, if_neg (by omega)]; exact hm.1.1
    refine ⟨_, k_cut (d := d + 89) hn e1 x, ?_⟩
    rintro r2 g2 I2 J2 R2 ⟨rfl, rfl, -, hB2⟩
    obtain ⟨rfl, rfl, rfl⟩ := hB2 hz
    have hlt : x < nI (n + 1) := Int32.lt_of_le_of_lt hz.2 (nI_lt (by omega) (by omega))
    obtain ⟨k, hk1, rfl⟩ := nI_ofk (show n + 1 < 2 ^ 31 by omega) hz.1 hlt
    have keep : ∀ a j, ¬ (a = 1 ∧ j = 1) → ¬ (a = 96 ∧ j = 1) → qa_u (qa_u I 1 1 (nI k)) 96 1 (nI k) a j = I a j := fun a j h1 h2 => by rw [qu_if, if_neg h2, qu_if, if_neg h1]
    refine ⟨rfl, ⟨_, _, rfl⟩, ⟨k, T, P, N, held, dg, fa, fb, sh, c, mm, pr, hpl, ⟨⟨by omega, ?_, fun j hj => ?_⟩, ?_, hc.2.2⟩, ⟨⟨?_, fun j hj => ?_⟩, ?_, fun k hk => ?_⟩⟩, _, rfl, rfl⟩
    · rw [qu_if, if_neg (by omega), qu_if, if_pos ⟨rfl, rfl⟩]
    · rw [keep _ _ (by omega) (by omega)]; exact hc.1.2.2 j (by omega)
    · exact hc.2.1.kept h8 (keep _ _ (by omega) (by omega)) (fun a k h1 h2 => keep _ _ (by omega) (by omega)) (fun _ _ _ _ => rfl)
    · rw [qu_if, if_pos ⟨rfl, rfl⟩]
    · rw [keep _ _ (by omega) (by omega)]; exact hm.1.2 j (by omega)
    · exact hm.2.1.of (fun a j h0 h1 h2 => (keep a j (by omega) h1).symm)
    · rw [keep _ _ (by omega) (by omega)]; exact hm.2.2 k hk
  · obtain ⟨rfl, rfl, rfl⟩ := hA hz
    refine ⟨_, k_cut (d := d + 89) hn hm.1.1 x, ?_⟩
    rintro r2 g2 I2 J2 R2 ⟨rfl, rfl, hA2, -⟩
    obtain ⟨rfl, rfl, rfl⟩ := hA2 hz
    exact ⟨rfl, ⟨_, _, rfl⟩, ⟨n, T, P, N, held, dg, fa, fb, sh, c, mm, pr, hpl, hc, hm⟩, _, rfl, rfl⟩
theorem pr_drop (hpl : pL P N held dg fa fb sh c mm pr) (hc : cL n T P N held dg fa fb sh c mm pr I J) (hm : mL n T P N held dg fa fb sh c mm pr I J) : pair (d + 90) mX8_drop mX9_drop [] X I J Wi := by
  have h8 := hpl.1.1
  intro t1 t2
  refine ⟨_, c_drop (d := d + 90) h8 hc.2.1.1, ?_⟩
  rintro r g1 I1 J1 R1 ⟨rfl, rfl, rfl, hA, hB⟩
  have hs : Wi r r := by
    cases held with
    | zero => exact ⟨_, (hA rfl).1, (hA rfl).1⟩
    | succ h => exact ⟨_, (hB h rfl).1, (hB h rfl).1⟩
  refine ⟨rfl, hs, t1, t2, rfl, ?_⟩
  cases held with
  | zero =>
    obtain ⟨rfl, rfl⟩ := hA rfl
    refine ⟨_, k_drop (d := d + 90) h8 hm.2.1.1, ?_⟩
    rintro r2 g2 I2 J2 R2 ⟨rfl, rfl, rfl, hA2, -⟩
    obtain ⟨rfl, rfl⟩ := hA2 rfl
    exact ⟨rfl, ⟨_, _, rfl⟩, ⟨n, T, P, N, 0, dg, fa, fb, sh, c, mm, pr, hpl, hc, hm⟩, _, rfl, rfl⟩
  | succ h =>
    obtain ⟨rfl, rfl⟩ := hB h rfl
    have e1 : qa_u I 0 11 (nI h) 96 8 = nI (h + 1) := by rw [qu_if, if_neg (by omega)]; exact hm.2.1.1
    refine ⟨_, k_drop (d := d + 90) h8 e1, ?_⟩
    rintro r2 g2 I2 J2 R2 ⟨rfl, rfl, rfl, -, hB2⟩
    obtain ⟨rfl, rfl⟩ := hB2 h rfl
    have keep : ∀ a j, ¬ (a = 0 ∧ j = 11) → ¬ (a = 96 ∧ j = 8) → qa_u (qa_u I 0 11 (nI h)) 96 8 (nI h) a j = I a j := fun a j h1 h2 => by rw [qu_if, if_neg h2, qu_if, if_neg h1]
    refine ⟨rfl, ⟨_, _, rfl⟩, ⟨n, T, P, N, h, dg, fa, fb, sh, c, mm, pr, ⟨⟨by omega, fun p hp => hpl.1.2 p (by omega)⟩, fun p hp => hpl.2.1 p (by omega), hpl.2.2⟩, ⟨?_, ⟨?_, fun p hp => ?_, fun p hp => ?_⟩, hc.2.2⟩, ⟨⟨?_, fun j hj => ?_⟩, ⟨?_, fun p hp => ?_, fun p hp => ?_⟩, fun k hk => ?_⟩⟩, _, rfl, rfl⟩
    · exact hc.1.kept (keep _ _ (by omega) (by omega)) (fun k => keep _ _ (by omega) (by omega))
    · rw [qu_if, if_neg (by omega), qu_if, if_pos ⟨rfl, rfl⟩]
    · exact (hc.2.1.2.1 p (by omega)).kept (fun a k h1 h2 h3 => keep _ _ (by omega) (by omega)) (fun _ _ _ _ => rfl)
    · obtain ⟨a1, a2, a3⟩ := hc.2.1.2.2 p (by omega)
      exact ⟨(keep _ _ (by omega) (by omega)).trans a1, fun z => by rw [keep _ _ (by omega) (by omega)]; exact a2 z, fun z => (a3 z).kept (fun k => keep _ _ (by omega) (by omega)) (fun _ => rfl)⟩
    · rw [keep _ _ (by omega) (by omega)]; exact hm.1.1
    · rw [keep _ _ (by omega) (by omega)]; exact hm.1.2 j hj
    · rw [qu_if, if_pos ⟨rfl, rfl⟩]
    · exact (hm.2.1.2.1 p (by omega)).kept (fun a k h1 h2 => keep _ _ (by omega) (by omega))
    · obtain ⟨b1, b2, b3, b4, b5⟩ := hm.2.1.2.2 p (by omega)
      exact ⟨(keep _ _ (by omega) (by omega)).trans b1, (keep _ _ (by omega) (by omega)).trans b2, fun z => ⟨(keep _ _ (by omega) (by omega)).trans (b3 z).1, (keep _ _ (by omega) (by omega)).trans (b3 z).2⟩, fun z => ⟨(keep _ _ (by omega) (by omega)).trans (b4 z).1, (b4 z).2⟩, fun z => (keep _ _ (by omega) (by omega)).trans (b5 z)⟩
    · rw [keep _ _ (by omega) (by omega)]; exact hm.2.2 k hk
theorem pr_price (hpl : pL P N held dg fa fb sh c mm pr) (hc : cL n T P N held dg fa fb sh c mm pr I J) (hm : mL n T P N held dg fa fb sh c mm pr I J) (kind p : Int32) : pair (d + 90) mX8_price mX9_price [.int kind, .int p] X I J Wi := by
  have h8 := hpl.1.1
  intro t1 t2
  refine ⟨_, c_price (d := d + 89) kind p, ?_⟩
  rintro r g1 I1 J1 R1 ⟨rfl, rfl, hA, hB⟩
  have hs : Wi r r := by
    by_cases hz : cp_ok kind p
    · exact ⟨_, (hB hz).1, (hB hz).1⟩
    · exact ⟨_, (hA hz).1, (hA hz).1⟩
  refine ⟨rfl, hs, t1, t2, rfl, ?_⟩
  by_cases hz : cp_ok kind p
  · obtain ⟨rfl, rfl, rfl⟩ := hB hz
    have hz2 : pr_ok kind p := ⟨⟨hz.1.1, k43.mp hz.1.2⟩, hz.2⟩
    refine ⟨_, k_price (d := d + 88) kind p, ?_⟩
    rintro r2 g2 I2 J2 R2 ⟨rfl, rfl, -, hB2⟩
    obtain ⟨rfl, rfl, rfl⟩ := hB2 hz2
    obtain ⟨k, hk1, rfl⟩ := nI_ofk (h := 4) (by decide) hz.1.1 hz.1.2
    rw [nI_clamp (show k < 2 ^ 31 by omega)]
    refine ⟨rfl, ⟨_, _, rfl⟩, ⟨n, T, P, N, held, dg, fa, fb, sh, c, mm, va_up pr k p, ⟨hpl.1, hpl.2.1, fun k' hk' => ?_⟩, ⟨?_, ?_, fun k' hk' => ?_⟩, ?_⟩, _, rfl, ?_⟩
    · by_cases he : k' = k
      · rw [he, up_at]; exact hz.2
      · rw [up_ne he]; exact hpl.2.2 k' hk'
    · exact hc.1.kept (by rw [qu_if, if_neg (by omega)]) (fun j => by rw [qu_if, if_neg (by omega)])
    · exact hc.2.1.kept h8 (by rw [qu_if, if_neg (by omega)]) (fun a j h1 h2 => by rw [qu_if, if_neg (by omega)]) (fun a j h1 h2 => by rw [qu_if, if_neg (by omega)])
    · by_cases he : k' = k
      · rw [he, up_at, qu_if, if_pos ⟨rfl, rfl⟩]
      · rw [up_ne he, qu_if, if_neg (by omega)]; exact hc.2.2 k' hk'
    · refine ⟨⟨?_, fun j hj => ?_⟩, ?_, fun k' hk' => ?_⟩
      · rw [qu_if, if_neg (by omega)]; exact hm.1.1
      · rw [qu_if, if_neg (by omega)]; exact hm.1.2 j hj
      · obtain ⟨b1, b2, b3⟩ := hm.2.1
        refine ⟨by rw [qu_if, if_neg (by omega)]; exact b1, fun q hq => (b2 q hq).kept (fun a j h1 h2 => by rw [qu_if, if_neg (by omega)]), fun q hq => ?_⟩
        obtain ⟨e1, e2, e3, e4, e5⟩ := b3 q hq
        refine ⟨by rw [qu_if, if_neg (by omega)]; exact e1, by rw [qu_if, if_neg (by omega)]; exact e2, fun z => ⟨by rw [qu_if, if_neg (by omega)]; exact (e3 z).1, by rw [qu_if, if_neg (by omega)]; exact (e3 z).2⟩, fun z => ⟨by rw [qu_if, if_neg (by omega)]; exact (e4 z).1, fun k' i j h1 h2 h3 => by rw [qu_if, if_neg (by omega)]; exact (e4 z).2 k' i j h1 h2 h3⟩, fun z => by rw [qu_if, if_neg (by omega)]; exact e5 z⟩
      · by_cases he : k' = k
        · rw [he, up_at, qu_if, if_pos ⟨rfl, rfl⟩]
        · rw [up_ne he, qu_if, if_neg (by omega)]; exact hm.2.2 k' hk'
    · rw [hm.2.2 k hk1, hc.2.2 k hk1, Int32.toInt32_toInt64]
  · obtain ⟨rfl, rfl, rfl⟩ := hA hz
    have hz2 : ¬ pr_ok kind p := fun y => hz ⟨⟨y.1.1, k43.mpr y.1.2⟩, y.2⟩
    refine ⟨_, k_price (d := d + 88) kind p, ?_⟩
    rintro r2 g2 I2 J2 R2 ⟨rfl, rfl, hA2, -⟩
    obtain ⟨rfl, rfl, rfl⟩ := hA2 hz2
    exact ⟨rfl, ⟨_, _, rfl⟩, ⟨n, T, P, N, held, dg, fa, fb, sh, c, mm, pr, hpl, hc, hm⟩, _, rfl, rfl⟩
/-! judge -/
theorem jd_run (hpl : pL P N held dg fa fb sh c mm pr) (p a b : Int32) : ∃ (c0 : Nat → Nat → Int32) (mm0 : Nat → Nat → Nat → Int64), (jd_ok held p a b → fits P N p.toNatClampNeg (dg p.toNatClampNeg) a.toNatClampNeg b.toNatClampNeg c0 mm0) ∧ (jd_ok held p a b → sh p.toNatClampNeg = true → nI (fa p.toNatClampNeg) = a → nI (fb p.toNatClampNeg) = b → c0 = c p.toNatClampNeg ∧ mm0 = mm p.toNatClampNeg) := by
  have h8 := hpl.1.1
  by_cases hz : jd_ok held p a b
  · obtain ⟨k, hk1, rfl⟩ := nI_ofk (by omega) hz.1.1 hz.1.2
    rw [nI_clamp (show k < 2 ^ 31 by omega)]
    by_cases hs : sh k = true ∧ nI (fa k) = a ∧ nI (fb k) = b
    · obtain ⟨s1, rfl, rfl⟩ := hs
      obtain ⟨b1, b2, b3, b4⟩ := (hpl.1.2 k hk1).2.2.2.2 s1
      refine ⟨c k, mm k, fun _ => ?_, fun _ _ _ _ => ⟨rfl, rfl⟩⟩
      rw [nI_clamp (by omega), nI_clamp (by omega)]
      exact b4
    · have hx : ∀ i j : Nat, ∃ c0 m' tu', rnB P N k 0 (N k) (sm_v0 (nI (a.toNatClampNeg + i)).toInt64 (nI (b.toNatClampNeg + j)).toInt64) (fun _ => 0) 0 c0 m' tu' := fun i j => rx_run hpl.1.w hk1 _ _
      refine ⟨fun i j => Classical.choose (hx i j), fun i j => Classical.choose (Classical.choose_spec (hx i j)), fun _ i j _ => Classical.choose_spec (Classical.choose_spec (hx i j)), fun _ y1 y2 y3 => absurd ⟨y1, y2, y3⟩ hs⟩
  · exact ⟨fun _ _ => 0, fun _ _ _ => 0, fun z => absurd z hz, fun z => absurd z hz⟩
theorem pr_judge (hpl : pL P N held dg fa fb sh c mm pr) (hc : cL n T P N held dg fa fb sh c mm pr I J) (hm : mL n T P N held dg fa fb sh c mm pr I J) (p a b : Int32) : pair (d + 90) mX8_judge mX9_judge [.int p, .int a, .int b] X I J Wi := by
  have h8 := hpl.1.1
  obtain ⟨c0, mm0, hfit, hold⟩ := jd_run hpl p a b
  intro t1 t2
  refine ⟨_, c_judge (d := d + 85) hpl.1 hc.2.1 c0 mm0 hold, ?_⟩
  rintro r g1 I1 J1 R1 ⟨rfl, ⟨s1, s2, rfl⟩, hA, hB⟩
  have hs : Wi r r := by
    by_cases hz : jd_ok held p a b
    · exact ⟨_, (hB hz).1, (hB hz).1⟩
    · exact ⟨_, (hA hz).1, (hA hz).1⟩
  refine ⟨rfl, hs, s1, s2, rfl, ?_⟩
  have hK : ∀ I1 J1, mL n T P N held dg fa fb sh c mm pr I1 J1 → qa_Call (d + 90) mX9_judge [.ref 96, .int p, .int a, .int b] qk_b (qk_g X) I1 J1 (qk_R s1 s2) (qk_H X s1 s2 (qk_B (jd_ok held p a b) (.int (-1)) I1 J1 (jd_post (decide (dg p.toNatClampNeg ≤ 5) && sj_all (P p.toNatClampNeg) sh (fun q => nI (fa q)) (fun q => nI (fb q)) a.toInt64 b.toInt64 (N p.toNatClampNeg)) p.toNatClampNeg (dg p.toNatClampNeg) a b c0 mm0 I1 J1))) := fun I1 J1 hm1 =>
    k_judge (d := d + 84) hpl.1.w (fun q hq => (hpl.1.2 q hq).2.1) h8 hm1.2.1.1 hm1.2.1.2.1 dg (fun q hq => ⟨(hpl.1.2 q hq).2.2.2.1, (hm1.2.1.2.2 q hq).1⟩) sh (fun q => nI (fa q)) (fun q => nI (fb q)) (fun q hq => ⟨(hm1.2.1.2.2 q hq).2.1, (hm1.2.1.2.2 q hq).2.2.1⟩) c0 mm0 hfit
  by_cases hz : jd_ok held p a b
  · obtain ⟨rfl, hk, kF, kT⟩ := hB hz
    have hm1 : mL n T P N held dg fa fb sh c mm pr I1 J1 := hm.kept (fun a k z => hk.1 a k (by unfold mLI at z; omega)) (fun k => hk.2.1 _ _ (by omega))
    refine ⟨_, hK I1 J1 hm1, ?_⟩
    rintro r2 g2 I2 J2 R2 ⟨rfl, rfl, -, hB2⟩
    obtain ⟨rfl, f2, j2, e119, eF, eT⟩ := hB2 hz
    refine ⟨rfl, ⟨_, _, rfl⟩, ?_, _, rfl, rfl⟩
    have hfit := hfit hz
    obtain ⟨pn, hp1, rfl⟩ := nI_ofk (by omega) hz.1.1 hz.1.2
    obtain ⟨an, ha1, rfl⟩ := nI_ofk (h := 9) (by decide) hz.2.1.1 (Int32.lt_of_le_of_lt hz.2.1.2 (by decide))
    obtain ⟨bn, hb1, rfl⟩ := nI_ofk (h := 9) (by decide) hz.2.2.1 (Int32.lt_of_le_of_lt hz.2.2.2 (by decide))
    rw [nI_clamp (show pn < 2 ^ 31 by omega)] at f2 j2 e119 eF eT kF kT hfit
    rw [nI_clamp (show an < 2 ^ 31 by omega), nI_clamp (show bn < 2 ^ 31 by omega)] at kT hfit
    have fI : ∀ a k, ¬ jdI pn a k → I2 a k = I1 a k := f2
    have fJ : ∀ a k, ¬ jdJ pn a k → J2 a k = J1 a k := j2
    have c2 : cta T n I2 := (hc.1.kept hk.2.2.1 hk.2.2.2.1).kept (fI _ _ (by unfold jdI ffI goI; omega)) (fun k => fI _ _ (by unfold jdI ffI goI; omega))
    have c4 : ∀ k, k < 4 → J2 4 k = (pr k).toInt64 := fun k hk' => by
      rw [fJ _ _ (by unfold jdJ ffJ goJ t8_P; omega), hk.2.2.2.2 k]; exact hc.2.2 k hk'
    have mT : I2 96 1 = nI n ∧ ∀ j, j < n → I2 97 j = T j := ⟨by rw [fI _ _ (by unfold jdI ffI goI; omega)]; exact hm1.1.1, fun j hj => by rw [fI _ _ (by unfold jdI ffI goI; omega)]; exact hm1.1.2 j hj⟩
    have m8 : I2 96 8 = nI held := by rw [fI _ _ (by unfold jdI ffI goI; omega)]; exact hm1.2.1.1
    have mS : gS P N held I2 := fun q hq => (hm1.2.1.2.1 q hq).kept (fun a k h1 h2 => fI _ _ (by unfold jdI ffI goI; omega))
    have m6 : ∀ k, k < 4 → I2 126 k = pr k := fun k hk' => by rw [fI _ _ (by unfold jdI ffI goI; omega)]; exact hm1.2.2 k hk'
    have m10 : ∀ q, q < held → I2 110 q = nI (dg q) := fun q hq => by rw [fI _ _ (by unfold jdI ffI goI; omega)]; exact (hm1.2.1.2.2 q hq).1
    have hdg5 : (decide (dg pn ≤ 5) && sj_all (P pn) sh (fun q => nI (fa q)) (fun q => nI (fb q)) (nI an).toInt64 (nI bn).toInt64 (N pn)) = true → dg pn ≤ 5 := fun z => of_decide_eq_true (by simp only [Bool.and_eq_true] at z; simpa using z.1)
    generalize (decide (dg pn ≤ 5) && sj_all (P pn) sh (fun q => nI (fa q)) (fun q => nI (fb q)) (nI an).toInt64 (nI bn).toInt64 (N pn)) = is at hdg5 e119 eF eT kF kT
    cases is with
    | false =>
      have hcK := kF rfl
      refine ⟨n, T, P, N, held, dg, fa, fb, va_up sh pn false, c, mm, pr, ⟨⟨h8, fun q hq => ?_⟩, hpl.2⟩, ⟨c2, hcK.kept h8 (fI _ _ (by unfold jdI ffI goI; omega)) (fun a k h1 h2 => fI _ _ (by unfold jdI ffI goI; omega)) (fun a k h1 h2 => fJ _ _ (by unfold jdJ ffJ goJ t8_P; omega)), c4⟩, mT, ⟨m8, mS, fun q hq => ?_⟩, m6⟩
      · obtain ⟨a1, a2, a3, a4, a5⟩ := hpl.1.2 q hq
        refine ⟨a1, a2, a3, a4, fun z => ?_⟩
        by_cases hqp : q = pn
        · rw [hqp, up_at] at z; cases z
        · rw [up_ne hqp] at z; exact a5 z
      · by_cases hqp : q = pn
        · subst hqp
          rw [up_at]
          refine ⟨m10 q hq, e119, fun z => by (cases z), fun z => ?_, fun _ => eF rfl⟩
          have := z.1
          rw [up_at] at this
          cases this
        · obtain ⟨e1, e2, e3, e4, e5⟩ := hm1.2.1.2.2 q hq
          have hiff : hasF dg (va_up sh pn false) c q ↔ hasF dg sh c q := by unfold hasF; rw [up_ne hqp]
          rw [up_ne hqp, hiff]
          refine ⟨m10 q hq, by rw [fI _ _ (by unfold jdI ffI goI; omega)]; exact e2, fun z => ⟨by rw [fI _ _ (by unfold jdI ffI goI; omega)]; exact (e3 z).1, by rw [fI _ _ (by unfold jdI ffI goI; omega)]; exact (e3 z).2⟩, fun z => ⟨by rw [fI _ _ (by unfold jdI ffI goI; omega)]; exact (e4 z).1, fun k i j h1 h2 h3 => by rw [fJ _ _ (by unfold jdJ ffJ goJ t8_P; omega)]; exact (e4 z).2 k i j h1 h2 h3⟩, fun z => by rw [fI _ _ (by unfold jdI ffI goI; omega)]; exact e5 z⟩
    | true =>
      have hcK := kT rfl
      have hd5 : dg pn ≤ 5 := hdg5 rfl
      obtain ⟨g1, g2, g3, g4⟩ := eT rfl
      refine ⟨n, T, P, N, held, dg, va_up fa pn an, va_up fb pn bn, va_up sh pn true, va_up c pn c0, va_up mm pn mm0, pr, ⟨⟨h8, fun q hq => ?_⟩, hpl.2⟩, ⟨c2, hcK.kept h8 (fI _ _ (by unfold jdI ffI goI; omega)) (fun a k h1 h2 => fI _ _ (by unfold jdI ffI goI; omega)) (fun a k h1 h2 => fJ _ _ (by unfold jdJ ffJ goJ t8_P; omega)), c4⟩, mT, ⟨m8, mS, fun q hq => ?_⟩, m6⟩
      · obtain ⟨a1, a2, a3, a4, a5⟩ := hpl.1.2 q hq
        refine ⟨a1, a2, a3, a4, fun z => ?_⟩
        by_cases hqp : q = pn
        · subst hqp
          rw [up_at, up_at, up_at, up_at]
          exact ⟨hd5, by omega, by omega, hfit⟩
        · rw [up_ne hqp] at z
          rw [up_ne hqp, up_ne hqp, up_ne hqp, up_ne hqp]; exact a5 z
      · by_cases hqp : q = pn
        · subst hqp
          have hiff : hasF dg (va_up sh q true) (va_up c q c0) q ↔ ∀ i j, i + j ≤ dg q → c0 i j = 0 := by
            unfold hasF all0
            rw [up_at, up_at]
            exact ⟨fun z => z.2, fun z => ⟨rfl, z⟩⟩
          rw [up_at, up_at, up_at, up_at, hiff]
          exact ⟨m10 q hq, e119, fun _ => ⟨g1, g2⟩, fun z => g3 z, fun z => g4 z⟩
        · obtain ⟨e1, e2, e3, e4, e5⟩ := hm1.2.1.2.2 q hq
          have hiff : hasF dg (va_up sh pn true) (va_up c pn c0) q ↔ hasF dg sh c q := by unfold hasF; rw [up_ne hqp, up_ne hqp]
          rw [up_ne hqp, up_ne hqp, up_ne hqp, up_ne hqp, hiff]
          refine ⟨m10 q hq, by rw [fI _ _ (by unfold jdI ffI goI; omega)]; exact e2, fun z => ⟨by rw [fI _ _ (by unfold jdI ffI goI; omega)]; exact (e3 z).1, by rw [fI _ _ (by unfold jdI ffI goI; omega)]; exact (e3 z).2⟩, fun z => ⟨by rw [fI _ _ (by unfold jdI ffI goI; omega)]; exact (e4 z).1, fun k i j h1 h2 h3 => by rw [fJ _ _ (by unfold jdJ ffJ goJ t8_P; omega)]; exact (e4 z).2 k i j h1 h2 h3⟩, fun z => by rw [fI _ _ (by unfold jdI ffI goI; omega)]; exact e5 z⟩
  · obtain ⟨rfl, rfl, rfl⟩ := hA hz
    refine ⟨_, hK _ _ hm, ?_⟩
    rintro r2 g2 I2 J2 R2 ⟨rfl, rfl, hA2, -⟩
    obtain ⟨rfl, rfl, rfl⟩ := hA2 hz
    exact ⟨rfl, ⟨_, _, rfl⟩, ⟨n, T, P, N, held, dg, fa, fb, sh, c, mm, pr, hpl, hc, hm⟩, _, rfl, rfl⟩
