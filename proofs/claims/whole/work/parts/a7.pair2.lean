variable {P : Nat → pTab} {N : Nat → Nat} {held d n : Nat} {T : Nat → Int32} {X : Nat × (Nat → Int32)} {dg fa fb : Nat → Nat} {sh : Nat → Bool} {c : Nat → Nat → Nat → Int32} {mm : Nat → Nat → Nat → Nat → Int64} {pr : Nat → Int32} {I I' : qa_I} {J J' : qa_J}
/-- the reference's FORMULAS -/
theorem mL.fm (hpl : pL P N held dg fa fb sh c mm pr) (hm : mL n T P N held dg fa fb sh c mm pr I J) : fm I J held dg fa fb (fun p => fsp (dg p) (mm p)) := by
  intro p hp h0
  have hf := (hm.f hp).mp h0
  obtain ⟨e1, e2, e3, e4, e5⟩ := hm.2.1.2.2 p hp
  obtain ⟨b1, b2, b3, b4⟩ := (hpl.1.2 p hp).2.2.2.2 hf.1
  refine ⟨⟨b1, e1⟩, ⟨(e3 hf.1).1, (e3 hf.1).2, b2, b3⟩, fun k i j h1 h2 h3 => ?_⟩
  dsimp only
  rw [← (e4 hf).2 k i j h1 h2 h3, show 144 * p + (36 * k + 6 * i + j) = 144 * p + 36 * k + 6 * i + j by omega]
theorem pr_steps (hpl : pL P N held dg fa fb sh c mm pr) (hc : cL n T P N held dg fa fb sh c mm pr I J) (hm : mL n T P N held dg fa fb sh c mm pr I J) (p kind a b : Int32) : pair (d + 90) mX8_steps mX9_steps [.int p, .int kind, .int a, .int b] X I J Wl := by
  have h8 := hpl.1.1
  refine pair_ro (A := (st_A held dg fa fb sh c mm pr p kind a b)) (B := (st_A held dg fa fb sh c mm pr p kind a b)) (fun _ h => h) hpl hc hm (fun t1 t2 => ro_H (c_steps (d := d + 4) hpl.1 hc.2.1 hpl.2.2 hc.2.2 p kind a b)) (fun I1 J1 t1 t2 hm1 => ?_) (fun r r2 h1 h2 => ?_)
  · have hfm := hm1.fm hpl
    refine qa_Call_mono (k_steps (d := d + 86) h8 hm1.2.1.1 p kind a b dg (fun p hp h0 => (hfm p hp h0).1) (fun p => fsp (dg p) (mm p)) pr (fun p hp h0 => (hfm p hp h0).2.2) hm1.2.2) ?_
    rintro r _ _ _ _ ⟨rfl, rfl, h1, h2⟩
    refine ⟨rfl, ⟨_, _, rfl⟩, ?_⟩
    have iff : sp5_ok I1 held p kind a b ↔ st_ok held dg fa fb sh c p kind a b := by
      unfold sp5_ok st_ok
      constructor
      · rintro ⟨y1, y2, y3, y4, y5⟩
        obtain ⟨k, hk1, rfl⟩ := nI_ofk (by omega) y1.1 y1.2
        rw [nI_clamp (show k < 2 ^ 31 by omega)] at y3 y4 y5 ⊢
        have hf := (hm1.f hk1).mp y3
        obtain ⟨f1, f2⟩ := (hm1.2.1.2.2 k hk1).2.2.1 hf.1
        rw [f1] at y4
        rw [f2] at y5
        exact ⟨y1, y2, hf, y4, y5⟩
      · rintro ⟨y1, y2, y3, y4, y5⟩
        obtain ⟨k, hk1, rfl⟩ := nI_ofk (by omega) y1.1 y1.2
        rw [nI_clamp (show k < 2 ^ 31 by omega)] at y3 y4 y5 ⊢
        obtain ⟨f1, f2⟩ := (hm1.2.1.2.2 k hk1).2.2.1 y3.1
        rw [f1, f2]
        exact ⟨y1, y2, (hm1.f hk1).mpr y3, y4, y5⟩
    by_cases hz : sp5_ok I1 held p kind a b
    · obtain ⟨rfl, rfl, rfl⟩ := h2 hz
      refine ⟨⟨fun z => absurd (iff.mp hz) z, fun z => ?_⟩, gf_mo, fun _ _ _ => rfl⟩
      obtain ⟨y1, y2, y3, y4, y5⟩ := z
      obtain ⟨k, hk1, rfl⟩ := nI_ofk (by omega) y1.1 y1.2
      rw [nI_clamp (show k < 2 ^ 31 by omega)] at y3 ⊢
      obtain ⟨f1, f2⟩ := (hm1.2.1.2.2 k hk1).2.2.1 y3.1
      rw [f1, f2]
      rfl
    · obtain ⟨rfl, rfl, rfl⟩ := h1 hz
      exact ⟨⟨fun _ => rfl, fun z => absurd (iff.mpr z) hz⟩, fun _ _ _ => rfl, fun _ _ _ => rfl⟩
  · by_cases hz : st_ok held dg fa fb sh c p kind a b
    · exact ⟨_, h1.2 hz, h2.2 hz⟩
    · exact ⟨_, h1.1 hz, h2.1 hz⟩
theorem pr_grows (hpl : pL P N held dg fa fb sh c mm pr) (hc : cL n T P N held dg fa fb sh c mm pr I J) (hm : mL n T P N held dg fa fb sh c mm pr I J) (p : Int32) : pair (d + 90) mX8_grows mX9_grows [.int p] X I J Wi := by
  have h8 := hpl.1.1
  refine pair_ro (A := (gr_A held dg sh c mm pr p)) (B := (gr_A held dg sh c mm pr p)) (fun _ h => h) hpl hc hm (fun t1 t2 => ro_H (c_grows (d := d + 4) hpl.1 hc.2.1 hpl.2.2 hc.2.2 p)) (fun I1 J1 t1 t2 hm1 => ?_) (fun r r2 h1 h2 => ?_)
  · have hfm := hm1.fm hpl
    refine qa_Call_mono (k_grows (d := d + 87) h8 hm1.2.1.1 p dg (fun p hp h0 => (hfm p hp h0).1) (fun p => fsp (dg p) (mm p)) pr (fun p hp h0 => (hfm p hp h0).2.2) hm1.2.2) ?_
    rintro r _ _ _ _ ⟨rfl, rfl, h1, h2⟩
    refine ⟨rfl, ⟨_, _, rfl⟩, ?_⟩
    by_cases hz : 0 ≤ p ∧ p < nI held
    · obtain ⟨g1, g2⟩ := h2 hz
      obtain ⟨k, hk1, rfl⟩ := nI_ofk (by omega) hz.1 hz.2
      have ec : (nI k).toNatClampNeg = k := nI_clamp (by omega)
      unfold gr_A
      rw [ec] at g1 g2 ⊢
      by_cases hf : I1 122 k = 0
      · obtain ⟨rfl, rfl, rfl⟩ := g1 hf
        exact ⟨⟨fun z => absurd hz z, fun _ => ⟨fun _ => rfl, fun z => absurd hf ((hm1.f hk1).mpr z)⟩⟩, fun _ _ _ => rfl, fun _ _ _ => rfl⟩
      · obtain ⟨rfl, rfl, rfl⟩ := g2 hf
        exact ⟨⟨fun z => absurd hz z, fun _ => ⟨fun z => absurd ((hm1.f hk1).mp hf) z, fun _ => rfl⟩⟩, gf_mo, fun _ _ _ => rfl⟩
    · obtain ⟨rfl, rfl, rfl⟩ := h1 hz
      exact ⟨⟨fun _ => rfl, fun z => absurd z hz⟩, fun _ _ _ => rfl, fun _ _ _ => rfl⟩
  · by_cases hz : 0 ≤ p ∧ p < nI held
    · by_cases hf : hasF dg sh c p.toNatClampNeg
      · exact ⟨_, (h1.2 hz).2 hf, (h2.2 hz).2 hf⟩
      · exact ⟨_, (h1.2 hz).1 hf, (h2.2 hz).1 hf⟩
    · exact ⟨_, h1.1 hz, h2.1 hz⟩
theorem pr_compare (hpl : pL P N held dg fa fb sh c mm pr) (hc : cL n T P N held dg fa fb sh c mm pr I J) (hm : mL n T P N held dg fa fb sh c mm pr I J) (p q : Int32) : pair (d + 90) mX8_compare mX9_compare [.int p, .int q] X I J Wi := by
  have h8 := hpl.1.1
  refine pair_ro (A := (cp_A held dg fa fb sh c mm pr ((0 ≤ p ∧ p < nI held) ∧ (0 ≤ q ∧ q < nI held)) p.toNatClampNeg q.toNatClampNeg)) (B := (cp_A held dg fa fb sh c mm pr ((0 ≤ p ∧ p < nI held) ∧ (0 ≤ q ∧ q < nI held)) p.toNatClampNeg q.toNatClampNeg)) (fun _ h => h) hpl hc hm (fun t1 t2 => ro_H (c_compare (d := d + 4) hpl.1 hc.2.1 hpl.2.2 hc.2.2 p q)) (fun I1 J1 t1 t2 hm1 => ?_) (fun r r2 h1 h2 => ?_)
  · have hfm := hm1.fm hpl
    refine qa_Call_mono (k_compare (d := d + 85) h8 hm1.2.1.1 p q dg fa fb (fun p => fsp (dg p) (mm p)) pr hfm hm1.2.2) ?_
    rintro r _ _ _ _ ⟨rfl, rfl, h1, h2⟩
    refine ⟨rfl, ⟨_, _, rfl⟩, ?_⟩
    by_cases hz : (0 ≤ p ∧ p < nI held) ∧ (0 ≤ q ∧ q < nI held)
    · obtain ⟨g1, g2⟩ := h2 hz
      obtain ⟨k, hk1, rfl⟩ := nI_ofk (by omega) hz.1.1 hz.1.2
      obtain ⟨l, hl1, rfl⟩ := nI_ofk (by omega) hz.2.1 hz.2.2
      unfold cp_A
      rw [nI_clamp (show k < 2 ^ 31 by omega), nI_clamp (show l < 2 ^ 31 by omega)] at g1 g2 ⊢
      by_cases hf : I1 122 k = 0 ∨ I1 122 l = 0
      · obtain ⟨rfl, rfl, rfl⟩ := g1 hf
        exact ⟨⟨fun z => absurd hz z, fun _ => ⟨fun _ => rfl, fun y1 y2 => hf.elim (fun z => absurd z ((hm1.f hk1).mpr y1)) (fun z => absurd z ((hm1.f hl1).mpr y2))⟩⟩, fun _ _ _ => rfl, fun _ _ _ => rfl⟩
      · obtain ⟨rfl, rfl, rfl⟩ := g2 (fun z => hf (Or.inl z)) (fun z => hf (Or.inr z))
        exact ⟨⟨fun z => absurd hz z, fun _ => ⟨fun z => z.elim (fun z => absurd ((hm1.f hk1).mp (fun y => hf (Or.inl y))) z) (fun z => absurd ((hm1.f hl1).mp (fun y => hf (Or.inr y))) z), fun _ _ => rfl⟩⟩, gf_mo, fun _ _ _ => rfl⟩
    · obtain ⟨rfl, rfl, rfl⟩ := h1 hz
      exact ⟨⟨fun _ => rfl, fun z => absurd z hz⟩, fun _ _ _ => rfl, fun _ _ _ => rfl⟩
  · by_cases hz : (0 ≤ p ∧ p < nI held) ∧ (0 ≤ q ∧ q < nI held)
    · by_cases hf : hasF dg sh c p.toNatClampNeg
      · by_cases hg : hasF dg sh c q.toNatClampNeg
        · exact ⟨_, (h1.2 hz).2 hf hg, (h2.2 hz).2 hf hg⟩
        · exact ⟨_, (h1.2 hz).1 (Or.inr hg), (h2.2 hz).1 (Or.inr hg)⟩
      · exact ⟨_, (h1.2 hz).1 (Or.inl hf), (h2.2 hz).1 (Or.inl hf)⟩
    · exact ⟨_, h1.1 hz, h2.1 hz⟩
theorem pr_overtakes (hpl : pL P N held dg fa fb sh c mm pr) (hc : cL n T P N held dg fa fb sh c mm pr I J) (hm : mL n T P N held dg fa fb sh c mm pr I J) (p q b : Int32) : pair (d + 90) mX8_overtakes mX9_overtakes [.int p, .int q, .int b] X I J Wi := by
  have h8 := hpl.1.1
  refine pair_ro (A := (oa_A held dg fa fb sh c mm pr (ov_ok held p q b) p.toNatClampNeg q.toNatClampNeg b)) (B := (oa_A held dg fa fb sh c mm pr (ov_ok held p q b) p.toNatClampNeg q.toNatClampNeg b)) (fun _ h => h) hpl hc hm (fun t1 t2 => ro_H (c_overtakes (d := d + 4) hpl.1 hc.2.1 hpl.2.2 hc.2.2 p q b)) (fun I1 J1 t1 t2 hm1 => ?_) (fun r r2 h1 h2 => ?_)
  · have hfm := hm1.fm hpl
    refine qa_Call_mono (k_overtakes (d := d + 86) h8 hm1.2.1.1 p q b dg fa fb (fun p => fsp (dg p) (mm p)) pr hfm hm1.2.2) ?_
    rintro r _ _ _ _ ⟨rfl, rfl, h1, h2⟩
    refine ⟨rfl, ⟨_, _, rfl⟩, ?_⟩
    by_cases hz : ov_ok held p q b
    · obtain ⟨g1, g2⟩ := h2 hz
      obtain ⟨k, hk1, rfl⟩ := nI_ofk (by omega) hz.1.1 hz.1.2
      obtain ⟨l, hl1, rfl⟩ := nI_ofk (by omega) hz.2.1.1 hz.2.1.2
      unfold oa_A
      rw [nI_clamp (show k < 2 ^ 31 by omega), nI_clamp (show l < 2 ^ 31 by omega)] at g1 g2 ⊢
      by_cases hf : I1 122 k = 0 ∨ I1 122 l = 0
      · obtain ⟨rfl, rfl, rfl⟩ := g1 hf
        exact ⟨⟨fun z => absurd hz z, fun _ => ⟨fun _ => rfl, fun y1 y2 => hf.elim (fun z => absurd z ((hm1.f hk1).mpr y1)) (fun z => absurd z ((hm1.f hl1).mpr y2))⟩⟩, fun _ _ _ => rfl, fun _ _ _ => rfl⟩
      · obtain ⟨e1, e2⟩ := g2 (fun z => hf (Or.inl z)) (fun z => hf (Or.inr z))
        by_cases hb : b < nI (max (fb k) (fb l))
        · obtain ⟨rfl, rfl, rfl⟩ := e1 hb
          exact ⟨⟨fun z => absurd hz z, fun _ => ⟨fun z => z.elim (fun z => absurd ((hm1.f hk1).mp (fun y => hf (Or.inl y))) z) (fun z => absurd ((hm1.f hl1).mp (fun y => hf (Or.inr y))) z), fun _ _ => ⟨fun _ => rfl, fun z => absurd hb z⟩⟩⟩, fun _ _ _ => rfl, fun _ _ _ => rfl⟩
        · obtain ⟨rfl, rfl, rfl⟩ := e2 hb
          exact ⟨⟨fun z => absurd hz z, fun _ => ⟨fun z => z.elim (fun z => absurd ((hm1.f hk1).mp (fun y => hf (Or.inl y))) z) (fun z => absurd ((hm1.f hl1).mp (fun y => hf (Or.inr y))) z), fun _ _ => ⟨fun z => absurd z hb, fun _ => rfl⟩⟩⟩, gf_mo, fun _ _ _ => rfl⟩
    · obtain ⟨rfl, rfl, rfl⟩ := h1 hz
      exact ⟨⟨fun _ => rfl, fun z => absurd z hz⟩, fun _ _ _ => rfl, fun _ _ _ => rfl⟩
  · by_cases hz : ov_ok held p q b
    · by_cases hf : hasF dg sh c p.toNatClampNeg
      · by_cases hg : hasF dg sh c q.toNatClampNeg
        · by_cases hb : b < nI (max (fb p.toNatClampNeg) (fb q.toNatClampNeg))
          · exact ⟨_, ((h1.2 hz).2 hf hg).1 hb, ((h2.2 hz).2 hf hg).1 hb⟩
          · exact ⟨_, ((h1.2 hz).2 hf hg).2 hb, ((h2.2 hz).2 hf hg).2 hb⟩
        · exact ⟨_, (h1.2 hz).1 (Or.inr hg), (h2.2 hz).1 (Or.inr hg)⟩
      · exact ⟨_, (h1.2 hz).1 (Or.inl hf), (h2.2 hz).1 (Or.inl hf)⟩
    · exact ⟨_, h1.1 hz, h2.1 hz⟩
/-- mK does not look at the tape -/
theorem mK.of (h : mK P N held dg fa fb sh c mm I J) (hI : ∀ a k, 96 ≤ a → ¬ (a = 96 ∧ k = 1) → ¬ a = 97 → I a k = I' a k) : mK P N held dg fa fb sh c mm I' J := by
  obtain ⟨b1, b2, b3⟩ := h
  have hI' : ∀ a k, 96 ≤ a → ¬ (a = 96 ∧ k = 1) → ¬ a = 97 → I' a k = I a k := fun a k h1 h2 h3 => (hI a k h1 h2 h3).symm
  refine ⟨(hI' _ _ (by omega) (by omega) (by omega)).trans b1, fun p hp => (b2 p hp).kept (fun a k h1 h2 => hI' a k (by omega) (by omega) (by omega)), fun p hp => ?_⟩
  obtain ⟨e1, e2, e3, e4, e5⟩ := b3 p hp
  exact ⟨(hI' _ _ (by omega) (by omega) (by omega)).trans e1, (hI' _ _ (by omega) (by omega) (by omega)).trans e2, fun z => ⟨(hI' _ _ (by omega) (by omega) (by omega)).trans (e3 z).1, (hI' _ _ (by omega) (by omega) (by omega)).trans (e3 z).2⟩, fun z => ⟨(hI' _ _ (by omega) (by omega) (by omega)).trans (e4 z).1, (e4 z).2⟩, fun z => (hI' _ _ (by omega) (by omega) (by omega)).trans (e5 z)⟩
/-! feed, cut, drop, price -/
theorem pr_feed (hpl : pL P N held dg fa fb sh c mm pr) (hc : cL n T P N held dg fa fb sh c mm pr I J) (hm : mL n T P N held dg fa fb sh c mm pr I J) (a b x e : Int32) : pair (d + 90) mX8_feed mX9_feed [.int a, .int b, .int x, .int e] X I J Wi := by
  have h8 := hpl.1.1
  have hn := hc.1.1
  intro t1 t2
  refine ⟨_, c_feed (d := d + 89) hn hc.1.2.1 a b x e, ?_⟩
  rintro r g1 I1 J1 R1 ⟨rfl, rfl, rfl, hA, hB⟩
  have hs : Wi r r := by
    by_cases hz : 256 < n + 16
    · exact ⟨_, (hA hz).1, (hA hz).1⟩
    · exact ⟨_, (hB (by omega)).1, (hB (by omega)).1⟩
  refine ⟨rfl, hs, t1, t2, rfl, ?_⟩
  by_cases hz : 256 < n + 16
  · obtain ⟨rfl, rfl⟩ := hA hz
    refine ⟨_, k_feed (d := d + 90) hn hm.1.1 a b x e, ?_⟩
    rintro r2 g2 I2 J2 R2 ⟨rfl, rfl, rfl, hA2, -⟩
    obtain ⟨rfl, rfl⟩ := hA2 hz
    exact ⟨rfl, ⟨_, _, rfl⟩, ⟨n, T, P, N, held, dg, fa, fb, sh, c, mm, pr, hpl, hc, hm⟩, _, rfl, rfl⟩
  · obtain ⟨rfl, f1, e1, e2⟩ := hB (by omega)
    have hm1 : mL n T P N held dg fa fb sh c mm pr I1 J := hm.kept (fun a k z => f1 a k (by unfold mLI at z; unfold cf_P; omega)) (fun _ => rfl)
    refine ⟨_, k_feed (d := d + 90) hn hm1.1.1 a b x e, ?_⟩
    rintro r2 g2 I2 J2 R2 ⟨rfl, rfl, rfl, -, hB2⟩
    obtain ⟨rfl, f2, e3, e4⟩ := hB2 (by omega)
    refine ⟨rfl, ⟨_, _, rfl⟩, ⟨n + 16, fun j => if j < n then T j else fd a b x e (j - n), P, N, held, dg, fa, fb, sh, c, mm, pr, hpl, ⟨⟨by omega, ?_, fun j hj => ?_⟩, ?_, hc.2.2⟩, ⟨⟨e3, fun j hj => ?_⟩, ?_, fun k hk => ?_⟩⟩, _, rfl, rfl⟩
    · rw [f2 _ _ (by unfold fd_P; omega)]; exact e1
    · rw [f2 _ _ (by unfold fd_P; omega)]
      dsimp only
      by_cases hjn : j < n
      · rw [if_pos hjn, f1 _ _ (by unfold cf_P; omega)]; exact hc.1.2.2 j hjn
      · rw [if_neg hjn, ← e2 (j - n) (by omega), show n + (j - n) = j by omega]
    · refine hc.2.1.kept h8 ?_ (fun a k h1 h2 => ?_) (fun _ _ _ _ => rfl)
      · rw [f2 _ _ (by unfold fd_P; omega), f1 _ _ (by unfold cf_P; omega)]
      · rw [f2 _ _ (by unfold fd_P; omega), f1 _ _ (by unfold cf_P; omega)]
    · dsimp only
      by_cases hjn : j < n
      · rw [if_pos hjn, f2 _ _ (by unfold fd_P; omega)]; exact hm1.1.2 j hjn
      · rw [if_neg hjn, ← e4 (j - n) (by omega), show n + (j - n) = j by omega]
    · exact hm1.2.1.of (fun a k h0 h1 h2 => (f2 a k (by unfold fd_P; omega)).symm)
    · rw [f2 _ _ (by unfold fd_P; omega)]; exact hm1.2.2 k hk
