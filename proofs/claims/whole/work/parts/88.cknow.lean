variable {P : Nat → pTab} {N : Nat → Nat} {held d : Nat} {X : Nat × (Nat → Int32)} {t1 t2 : Nat} {dg fa fb : Nat → Nat} {sh : Nat → Bool} {c : Nat → Nat → Nat → Int32} {mm : Nat → Nat → Nat → Nat → Int64} {I I' : qa_I} {J J' : qa_J}
/-- what is so of the held PROGRAMS, whoever holds them -/
def pK (P : Nat → pTab) (N : Nat → Nat) (held : Nat) (dg fa fb : Nat → Nat) (sh : Nat → Bool) (c : Nat → Nat → Nat → Int32) (mm : Nat → Nat → Nat → Nat → Int64) : Prop := held ≤ 8 ∧ ∀ p, p < held → pw p (P p) (N p) ∧ pwa (P p) (N p) ∧ pb (P p) (N p) ∧ dg p ≤ 100 ∧ (sh p = true → dg p ≤ 5 ∧ fa p ≤ 8 ∧ fb p ≤ 8 ∧ fits P N p (dg p) (fa p) (fb p) (c p) (mm p))
/-- the component holds them -/
def cK (P : Nat → pTab) (N : Nat → Nat) (held : Nat) (dg fa fb : Nat → Nat) (sh : Nat → Bool) (c : Nat → Nat → Nat → Int32) (mm : Nat → Nat → Nat → Nat → Int64) (I : qa_I) (J : qa_J) : Prop := I 0 11 = nI held ∧ cS P N held I J ∧ ∀ p, p < held → I (9 + 8 * p) 7 = nI (dg p) ∧ (sh p = false → I (9 + 8 * p) 8 < 0) ∧ (sh p = true → cfk p (dg p) (fa p) (fb p) (c p) (mm p) I J)
/-- PROGRAM p has FORMULAS -/
def hasF (dg : Nat → Nat) (sh : Nat → Bool) (c : Nat → Nat → Nat → Int32) (p : Nat) : Prop := sh p = true ∧ all0 (dg p) (c p)
/-- the reference, the tape and the prices are as they were -/
def ckeep (I : qa_I) (J : qa_J) (I' : qa_I) (J' : qa_J) : Prop := (∀ a k, 96 ≤ a → I' a k = I a k) ∧ (∀ a k, 96 ≤ a → J' a k = J a k) ∧ I' 1 1 = I 1 1 ∧ (∀ k, I' 2 k = I 2 k) ∧ ∀ k, J' 4 k = J 4 k
theorem ckeep.refl : ckeep I J I J := ⟨fun _ _ _ => rfl, fun _ _ _ => rfl, rfl, fun _ => rfl, fun _ => rfl⟩
theorem ckeep.trans {I1 : qa_I} {J1 : qa_J} (h : ckeep I J I1 J1) (h2 : ckeep I1 J1 I' J') : ckeep I J I' J' := ⟨fun a k z => (h2.1 a k z).trans (h.1 a k z), fun a k z => (h2.2.1 a k z).trans (h.2.1 a k z), h2.2.2.1.trans h.2.2.1, fun k => (h2.2.2.2.1 k).trans (h.2.2.2.1 k), fun k => (h2.2.2.2.2 k).trans (h.2.2.2.2 k)⟩
theorem cfk.kept {p dg fa fb : Nat} {c : Nat → Nat → Int32} {mm : Nat → Nat → Nat → Int64} (h : cfk p dg fa fb c mm I J) (hI : ∀ k, I' (9 + 8 * p) k = I (9 + 8 * p) k) (hJ : ∀ k, J' (9 + 8 * p + 7) k = J (9 + 8 * p + 7) k) : cfk p dg fa fb c mm I' J' := by
  obtain ⟨h1, h2, h3⟩ := h
  refine ⟨(hI 8).trans h1, (hI 9).trans h2, ?_⟩
  rw [hI 10]
  rcases h3 with h3 | ⟨h3, h4, h5⟩ | h3
  · exact Or.inl h3
  · exact Or.inr (Or.inl ⟨h3, h4, fun k i j a1 a2 a3 => (hJ _).trans (h5 k i j a1 a2 a3)⟩)
  · exact Or.inr (Or.inr h3)
theorem cK.kept (h : cK P N held dg fa fb sh c mm I J) (h8 : held ≤ 8) (h0 : I' 0 11 = I 0 11) (hI : ∀ a k, 9 ≤ a → a < 81 → I' a k = I a k) (hJ : ∀ a k, 9 ≤ a → a < 81 → J' a k = J a k) : cK P N held dg fa fb sh c mm I' J' := by
  refine ⟨h0.trans h.1, h.2.1.kept (fun p a k h1 h2 h3 h4 => hI a k (by omega) (by omega)) (fun p a k h1 h2 h3 => hJ a k (by omega) (by omega)), fun p hp => ?_⟩
  obtain ⟨a1, a2, a3⟩ := h.2.2 p hp
  exact ⟨(hI _ _ (by omega) (by omega)).trans a1, fun z => by rw [hI _ _ (by omega) (by omega)]; exact a2 z, fun z => (a3 z).kept (fun k => hI _ _ (by omega) (by omega)) (fun k => hJ _ _ (by omega) (by omega))⟩
theorem pK.w (h : pK P N held dg fa fb sh c mm) : ∀ p, p < held → pw p (P p) (N p) := fun p hp => (h.2 p hp).1
/-- what hasFormulas leaves -/
def ha_post (P : Nat → pTab) (N : Nat → Nat) (held : Nat) (dg fa fb : Nat → Nat) (sh : Nat → Bool) (c : Nat → Nat → Nat → Int32) (mm : Nat → Nat → Nat → Nat → Int64) (p : Nat) (I : qa_I) (J : qa_J) (r : Option Value) (I' : qa_I) (J' : qa_J) : Prop := ckeep I J I' J' ∧ cK P N held dg fa fb sh c mm I' J' ∧ (hasF dg sh c p → r = some (.int 1) ∧ I' (9 + 8 * p) 10 = 1) ∧ (¬ hasF dg sh c p → r = some (.int 0)) ∧ ∀ q, q < held → I (9 + 8 * q) 10 = 1 → hasF dg sh c q → I' (9 + 8 * q) 10 = 1
theorem c_has (hp : pK P N held dg fa fb sh c mm) (hK : cK P N held dg fa fb sh c mm I J) {p : Nat} (hph : p < held) : qa_Call (d + 85) mX0_hasFormulas [.ref 94, .int (nI p)] qk_b (qk_g X) I J (qk_R t1 t2) (qk_H X t1 t2 (ha_post P N held dg fa fb sh c mm p I J)) := by
  have h8 := hp.1
  obtain ⟨a1, a2, a3⟩ := hK.2.2 p hph
  cases hs : sh p with
  | false =>
    refine qa_Call_mono (c_hasNot (d := d + 84) (by omega) (a2 hs)) ?_
    rintro _ _ _ _ _ ⟨rfl, rfl, rfl, rfl, rfl⟩
    exact ⟨rfl, rfl, ckeep.refl, hK, fun z => absurd z.1 (by rw [hs]; decide), fun _ => rfl, fun q _ z _ => z⟩
  | true =>
    obtain ⟨b1, b2, b3, b4⟩ := (hp.2 p hph).2.2.2.2 hs
    refine qa_Call_mono (c_hasFormulas (d := d) hp.w h8 hK.2.1 hph (dg p) (fa p) (fb p) b1 b2 b3 a1 (c p) (mm p) b4 (a3 hs)) ?_
    rintro r _ I1 J1 _ ⟨rfl, rfl, f1, f2, f3, f4, f5⟩
    refine ⟨rfl, rfl, ?_, ?_, fun z => ⟨(f4 z.2).1, (f4 z.2).2.1⟩, fun z => f5 (fun y => z ⟨hs, y⟩), fun q hq z hz => ?_⟩
    · refine ⟨fun a k z => f1 a k ?_, fun a k z => f2 a k ?_, f1 1 1 ?_, fun k => f1 2 k ?_, fun k => f2 4 k ?_⟩ <;> (first | unfold hfI crI | unfold ft_P) <;> omega
    · refine ⟨(f1 0 11 (by unfold hfI crI; omega)).trans hK.1, hK.2.1.kept (fun q a k h1 h2 h3 h4 => f1 a k (by unfold hfI crI; omega)) (fun q a k h1 h2 h3 => f2 a k (by unfold ft_P; omega)), fun q hq => ?_⟩
      obtain ⟨e1, e2, e3⟩ := hK.2.2 q hq
      refine ⟨(f1 _ _ (by unfold hfI crI; omega)).trans e1, fun z => by rw [f1 _ _ (by unfold hfI crI; omega)]; exact e2 z, fun z => ?_⟩
      by_cases hqp : q = p
      · subst hqp; exact f3
      · exact (e3 z).kept (fun k => f1 _ _ (by unfold hfI crI; omega)) (fun k => f2 _ _ (by unfold ft_P; omega))
    · by_cases hqp : q = p
      · subst hqp; exact (f4 hz.2).2.1
      · rw [f1 _ _ (by unfold hfI crI; omega)]; exact z
/-- the factors that the component has found -/
theorem cK.fac (hp : pK P N held dg fa fb sh c mm) (hK : cK P N held dg fa fb sh c mm I J) {p : Nat} (hph : p < held) (hh : hasF dg sh c p) (h10 : I (9 + 8 * p) 10 = 1) : (I (9 + 8 * p) 7 = nI (dg p) ∧ I (9 + 8 * p) 8 = nI (fa p) ∧ I (9 + 8 * p) 9 = nI (fb p)) ∧ (dg p ≤ 5 ∧ fa p ≤ 8 ∧ fb p ≤ 8) ∧ ∀ k i j, k < 4 → i < 6 → j < 6 → J (9 + 8 * p + 7) (36 * k + 6 * i + j) = fsp (dg p) (mm p) k i j := by
  obtain ⟨a1, a2, a3⟩ := hK.2.2 p hph
  obtain ⟨b1, b2, b3, b4⟩ := (hp.2 p hph).2.2.2.2 hh.1
  obtain ⟨c1, c2, c3⟩ := a3 hh.1
  refine ⟨⟨a1, c1, c2⟩, ⟨b1, b2, b3⟩, ?_⟩
  rcases c3 with z | z | z
  · rw [z] at h10; exact absurd h10 (by decide)
  · exact z.2.2
  · rw [z.1] at h10; exact absurd h10 (by decide)
theorem fsp_sm (hp : pK P N held dg fa fb sh c mm) {p : Nat} (hph : p < held) (hh : hasF dg sh c p) (k i j : Nat) : sm9 (fsp (dg p) (mm p) k i j) := by
  obtain ⟨b1, b2, b3, b4⟩ := (hp.2 p hph).2.2.2.2 hh.1
  unfold fsp
  split
  · exact ⟨by decide, by decide⟩
  · refine df_bd (by omega) (fun x y h1 h2 => ?_)
    obtain ⟨tu', hr⟩ := b4 x y (by omega)
    rw [hh.2 x y (by omega)] at hr
    exact rn_made hp.w hph hr k
