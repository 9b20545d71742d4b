/-! ===== the reference runs as the rules say ===== -/
theorem i64_succ {v : Int64} (h : v.toInt < 9223372036854775807) : (v + 1).toInt = v.toInt + 1 := by
  have h1 := Int64.le_toInt v
  have e : (1 : Int64).toInt = 1 := by decide
  rw [Int64.toInt_add, e, Int.bmod_def]
  split <;> omega
theorem i64_more {v last : Int64} (h1 : v ≤ last) (h2 : ¬ v = last) : v + 1 ≤ last := by
  have a := Int64.le_iff_toInt_le.mp h1
  have b := Int64.toInt_lt last
  have c : ¬ v.toInt = last.toInt := fun z => h2 (Int64.toInt_inj.mp z)
  rw [Int64.le_iff_toInt_le, i64_succ (by omega)]
  omega
theorem i64_end {v last : Int64} (h1 : v = last) (h2 : last ≤ 100000000000) : last < v + 1 := by
  have b := Int64.le_iff_toInt_le.mp h2
  have e : (100000000000 : Int64).toInt = 100000000000 := by decide
  rw [e] at b
  rw [h1, Int64.lt_iff_toInt_lt, i64_succ (by omega)]
  omega
theorem gR.to {P : Nat → pTab} {N : Nat → Nat} {i p s e D : Nat} {nm : Nat → Int32} {w m : Nat → Int64} {tu : Nat} {I I' : qa_I} {J J' : qa_J} (h : gR P N i p s e D nm w m tu I J) {s' tu' : Nat} {m' : Nat → Int64} (htu : tu' ≤ 20000) (h33 : I' 96 33 = I 96 33) (h32 : I' 96 32 = nI tu') (h111 : I' 111 i = I 111 i) (h112 : I' 112 i = nI s') (h114 : I' 114 i = I 114 i) (h115 : ∀ k, k < 4 * i + D → I' 115 k = I 115 k) (hm : ∀ k, k < 4 → J' 118 k = m' k) (hv : ∀ k, k < 7 → J' 113 (7 * i + k) = J 113 (7 * i + k)) : gR P N i p s' e D nm w m' tu' I' J' := by
  obtain ⟨a1, a2, a3, a4, a5, a6, a7, a8, a9, a10, a11, a12⟩ := h
  refine ⟨a1, htu, h33.trans a3, h32, h111.trans a5, h112, h114.trans a7, fun D' hD => ?_, hm, (hv 0 (by omega)).trans a10, (hv 1 (by omega)).trans a11, fun dd hdd => ?_⟩
  · obtain ⟨r, r1, r2, r3⟩ := a8 D' hD
    exact ⟨r, r1, (h115 _ (by omega)).trans r2, r3⟩
  · obtain ⟨b1, b2⟩ := a12 dd hdd
    refine ⟨b1, ?_⟩
    have := hv (2 + nx (nm dd)) (by omega)
    rw [← Nat.add_assoc] at this
    exact this.trans b2
section
variable {P : Nat → pTab} {N : Nat → Nat} {held d : Nat} {X : Nat × (Nat → Int32)} {t1 t2 : Nat} {x1 : Int32} {x2 x4 : Int64} {Q : qa_Q}
theorem gB_0 (hw : ∀ p, p < held → pw p (P p) (N p)) (h8 : held ≤ 8) : ∀ p s e w m tu c m' tu', s < e → pt_ty (P p) s = 0 → gB P N held d X t1 t2 x1 x2 x4 Q p (pt_en (P p) s) e w (mk_up m (pt_wh (P p) s).toNatClampNeg 1) tu c m' tu' → gB P N held d X t1 t2 x1 x2 x4 Q p s e w m tu c m' tu' := by
  intro p s e w m tu c m' tu' hs h0 ih i D nm I J hi hp hg hS hR hk
  have hwp := hw p hp
  have hN := hwp.1
  have he := hg.2.1
  obtain ⟨-, w2, w3, -, -, -, -, w5⟩ := hwp.2.2 s (by omega)
  obtain ⟨p98, pr⟩ := hS p hp
  obtain ⟨r1, r2, r3, r4, -, -⟩ := pr s (by omega)
  have htop := hR.top hp hS hwp hg hs
  rcases w5 with ⟨-, en, k, hk4, hwh⟩ | ⟨z, -⟩ | ⟨z, -⟩
  · rw [if_neg (show ¬ (P p).1 s = 2 from fun z => absurd (h0.symm.trans z) (by decide))] at r2
    have r2 : I 100 (40 * p + s) = nI k := r2.trans hwh
    obtain ⟨a1, a2, a3, a4, a5, a6, a7, a8, a9, a10, a11, a12⟩ := id hR
    have hc := k_step0 (d := d + 3) (X := X) (t1 := t1) (t2 := t2) (I := I) (J := J) i p s D (N p) k (by omega) (by omega) a1 hN (by omega) a3 a5 a6 a7 p98 htop hk4 (r1.trans h0) r2
    refine go_one (i := i) (by omega) a3 (S := fun r I' J' => r = some (.int 0) ∧ I' = qa_u I 112 i (nI (s + 1)) ∧ J' = qa_u J 118 k (J 118 k + 1)) (qa_Call_mono hc ?_) ?_
    · rintro r g I' J' R ⟨rfl, rfl, rfl, rfl, rfl⟩
      exact ⟨rfl, rfl, rfl, rfl, rfl⟩
    · rintro r I' J' ⟨rfl, rfl, rfl⟩
      refine ⟨0, rfl, ?_⟩
      have f1 : qf (gI i D) I (qa_u I 112 i (nI (s + 1))) := qf.u (by unfold gI; omega)
      have f2 : qj (gJ i D) J (qa_u J 118 k (J 118 k + 1)) := qj.u (by unfold gJ; omega)
      refine ih i D nm _ _ hi hp (gb_next hwp hg hs) (hS.fr f1) (hR.to a2 (by simp only [qu_if, eq_self, and_self, and_false, false_and, Nat.reduceEqDiff, if_true, if_false]) (by simp only [qu_if, eq_self, and_self, and_false, false_and, Nat.reduceEqDiff, if_true, if_false]; exact a4) (by simp only [qu_if, eq_self, and_self, and_false, false_and, Nat.reduceEqDiff, if_true, if_false]) (by simp only [qu_if, eq_self, and_self, and_false, false_and, Nat.reduceEqDiff, if_true, if_false]; exact congrArg nI en.symm) (by simp only [qu_if, eq_self, and_self, and_false, false_and, Nat.reduceEqDiff, if_true, if_false]) (fun k _ => by simp only [qu_if, eq_self, and_self, and_false, false_and, Nat.reduceEqDiff, if_true, if_false]) (fun j hj => ?_) (fun k _ => by simp only [qu_if, eq_self, and_self, and_false, false_and, Nat.reduceEqDiff, if_true, if_false])) (fun I2 J2 g1 g2 g3 => hk I2 J2 (f1.trans g1) (f2.trans g2) g3)
      have e1 : (pt_wh (P p) s).toNatClampNeg = k := by rw [hwh, nI_clamp (by omega)]
      rw [e1]
      unfold mk_up va_up
      rw [qu_if]
      by_cases hjk : j = k
      · rw [if_pos ⟨rfl, hjk⟩, if_pos hjk, a9 k hk4]
      · rw [if_neg (fun z => hjk z.2), if_neg hjk, a9 j hj]
  · exact absurd (h0.symm.trans z) (by decide)
  · exact absurd (h0.symm.trans z) (by decide)
theorem gB_1 (hw : ∀ p, p < held → pw p (P p) (N p)) (h8 : held ≤ 8) : ∀ p s e w m tu c m' tu', s < e → pt_ty (P p) s = 1 → (rk_b (v1 (P p) s w) = true ∧ 0 ≤ v1 (P p) s w → gB P N held d X t1 t2 x1 x2 x4 Q p (pt_en (P p) s) e w (mk_up m (pt_wh (P p) s).toNatClampNeg (v1 (P p) s w)) tu c m' tu') → (rk_b (v1 (P p) s w) = false ∨ ¬ 0 ≤ v1 (P p) s w → c = -5) → gB P N held d X t1 t2 x1 x2 x4 Q p s e w m tu c m' tu' := by
  intro p s e w m tu c m' tu' hs h0 ih ihc i D nm I J hi hp hg hS hR hk
  have hwp := hw p hp
  have hN := hwp.1
  have he := hg.2.1
  obtain ⟨-, w2, w3, -, -, wl, -, w5⟩ := hwp.2.2 s (by omega)
  have hne : ¬ pt_ty (P p) s = 0 := fun z => absurd (h0.symm.trans z) (by decide)
  have hval := hR.val hwp hg hs (wl hne)
  obtain ⟨p98, pr⟩ := hS p hp
  obtain ⟨r1, r2, r3, r4, r5, -⟩ := pr s (by omega)
  have htop := hR.top hp hS hwp hg hs
  rcases w5 with ⟨-, en, k, hk4, hwh⟩ | ⟨z, -⟩ | ⟨z, -⟩
  · rw [if_neg (show ¬ (P p).1 s = 2 from fun z => absurd (h0.symm.trans z) (by decide))] at r2
    have r2 : I 100 (40 * p + s) = nI k := r2.trans hwh
    obtain ⟨a1, a2, a3, a4, a5, a6, a7, a8, a9, a10, a11, a12⟩ := id hR
    have hc := k_step1 (d := d + 1) (X := X) (t1 := t1) (t2 := t2) (I := I) (J := J) i p s D (N p) k (by omega) (by omega) a1 hN (by omega) a3 a5 a6 a7 p98 htop hk4 (r1.trans h0) r2 (pt_l1 (P p) s) (fun k => J 113 (7 * i + k)) (r5 hne) (fun k _ => rfl)
    rw [hval] at hc
    refine go_one (i := i) (by omega) a3 hc ?_
    intro r I' J' hpost
    unfold s1_post at hpost
    by_cases hz : rk_b (v1 (P p) s w) = false ∨ ¬ 0 ≤ v1 (P p) s w
    · rw [if_pos hz] at hpost
      obtain ⟨rfl, rfl, rfl⟩ := hpost
      have hc5 := ihc hz
      subst hc5
      exact ⟨-5, rfl, hk _ _ qf.refl (qj.u (by unfold gJ; omega)) (fun z => absurd z (by decide))⟩
    · rw [if_neg hz] at hpost
      obtain ⟨rfl, rfl, rfl⟩ := hpost
      refine ⟨0, rfl, ?_⟩
      have hz1 : rk_b (v1 (P p) s w) = true := by
        cases h : rk_b (v1 (P p) s w) with
        | true => rfl
        | false => exact absurd (Or.inl h) hz
      have hz2 : 0 ≤ v1 (P p) s w := Classical.byContradiction (fun h => hz (Or.inr h))
      have f1 : qf (gI i D) I (qa_u I 112 i (nI (s + 1))) := qf.u (by unfold gI; omega)
      have f2 : qj (gJ i D) J (qa_u (qa_u J 96 34 (v1 (P p) s w)) 118 k (J 118 k + v1 (P p) s w)) := (qj.u (by unfold gJ; omega)).pu (by unfold gJ; omega)
      refine ih ⟨hz1, hz2⟩ i D nm _ _ hi hp (gb_next hwp hg hs) (hS.fr f1) (hR.to a2 (by simp only [qu_if, eq_self, and_self, and_false, false_and, Nat.reduceEqDiff, if_true, if_false]) (by simp only [qu_if, eq_self, and_self, and_false, false_and, Nat.reduceEqDiff, if_true, if_false]; exact a4) (by simp only [qu_if, eq_self, and_self, and_false, false_and, Nat.reduceEqDiff, if_true, if_false]) (by simp only [qu_if, eq_self, and_self, and_false, false_and, Nat.reduceEqDiff, if_true, if_false]; exact congrArg nI en.symm) (by simp only [qu_if, eq_self, and_self, and_false, false_and, Nat.reduceEqDiff, if_true, if_false]) (fun k _ => by simp only [qu_if, eq_self, and_self, and_false, false_and, Nat.reduceEqDiff, if_true, if_false]) (fun j hj => ?_) (fun k _ => by simp only [qu_if, eq_self, and_self, and_false, false_and, Nat.reduceEqDiff, if_true, if_false])) (fun I2 J2 g1 g2 g3 => hk I2 J2 (f1.trans g1) (f2.trans g2) g3)
      have e1 : (pt_wh (P p) s).toNatClampNeg = k := by rw [hwh, nI_clamp (by omega)]
      rw [e1]
      unfold mk_up va_up
      rw [qu_if]
      by_cases hjk : j = k
      · rw [if_pos ⟨rfl, hjk⟩, if_pos hjk, a9 k hk4]
      · rw [if_neg (fun z => hjk z.2), if_neg hjk]
        simp only [qu_if, eq_self, and_self, and_false, false_and, Nat.reduceEqDiff, if_true, if_false]
        exact a9 j hj
  · exact absurd (h0.symm.trans z) (by decide)
  · exact absurd (h0.symm.trans z) (by decide)
end
