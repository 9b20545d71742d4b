section
variable {P : Nat → pTab} {N : Nat → Nat} {held d : Nat} {X : Nat × (Nat → Int32)} {t1 t2 : Nat} {x1 : Int32} {x2 x4 : Int64} {Q : qa_Q}
theorem rk_bt {x : Int64} (h : rk_b x = true) : -100000000000 ≤ x ∧ x ≤ 100000000000 := by
  unfold rk_b at h
  simpa only [Bool.and_eq_true, decide_eq_true_eq] using h
theorem g_for (hw : ∀ p, p < held → pw p (P p) (N p)) (h8 : held ≤ 8) {p s e : Nat} {w m m1 : Nat → Int64} {tu tu1 : Nat} {c : Int32} (hs : s < e) (h0 : pt_ty (P p) s = 2) (ih : rk_b (v1 (P p) s w) = true ∧ rk_b (v2 (P p) s w) = true → gF P N held d X t1 t2 x1 x2 x4 Q p s w m tu (v1 (P p) s w) (v2 (P p) s w) c m1 tu1) (ihc : rk_b (v1 (P p) s w) = false ∨ rk_b (v2 (P p) s w) = false → c = -5)
    {i D : Nat} {nm : Nat → Int32} {I : qa_I} {J : qa_J} (hi : i + p < 8) (hp : p < held) (hg : gb (P p) (N p) nm D s e) (hS : gS P N held I) (hR : gR P N i p s e D nm w m tu I J)
    (hk : ∀ I' J', qf (gI i D) I I' → qj (gJ i D) J J' → (c = 0 → gR P N i p (pt_en (P p) s) e D nm w m1 tu1 I' J') → gW d X t1 t2 x1 x2 x4 Q c I' J') : gW d X t1 t2 x1 x2 x4 Q 0 I J := by
  have hwp := hw p hp
  have hN := hwp.1
  have he := hg.2.1
  have hD := hg.2.2.1 hs
  obtain ⟨-, w2, w3, -, -, wl, wl2, w5⟩ := hwp.2.2 s (by omega)
  have hne : ¬ pt_ty (P p) s = 0 := fun z => absurd (h0.symm.trans z) (by decide)
  have hval1 := hR.val hwp hg hs (wl hne)
  have hval2 := hR.val hwp hg hs (wl2 (Or.inl h0))
  obtain ⟨p98, pr⟩ := hS p hp
  obtain ⟨r1, r2, r3, r4, r5, r6⟩ := pr s (by omega)
  have htop := hR.top hp hS hwp hg hs
  rcases w5 with ⟨z, -⟩ | ⟨-, y1, ⟨x, hx, hwh⟩, y3, -, -⟩ | ⟨z, -⟩
  · exfalso
    rcases z with z | z <;> exact absurd (h0.symm.trans z) (by decide)
  · rw [hD] at y1 y3
    rw [if_pos h0] at r2
    have hwh' : (P p).2.1 s = nI (105 + x) := hwh
    have r2 : I 100 (40 * p + s) = nI x := by
      rw [r2, hwh']
      have : x = 0 ∨ x = 1 ∨ x = 2 ∨ x = 3 ∨ x = 4 := by omega
      rcases this with rfl | rfl | rfl | rfl | rfl <;> rfl
    have hnx : nx (pt_wh (P p) s) = x := by rw [hwh]; exact nx_nI hx
    obtain ⟨a1, a2, a3, a4, a5, a6, a7, a8, a9, a10, a11, a12⟩ := id hR
    have hc := k_step2 (d := d) (X := X) (t1 := t1) (t2 := t2) (I := I) (J := J) i p s D (N p) tu x (by omega) (by omega) y1 hN (by omega) a3 a4 (by omega) a5 a6 a7 p98 htop hx (r1.trans h0) r2 (pt_l1 (P p) s) (pt_l2 (P p) s) (fun k => J 113 (7 * i + k)) (r5 hne) (r6 (Or.inl h0)) (fun k _ => rfl)
    rw [hval1, hval2] at hc
    refine go_one (i := i) (by omega) a3 hc ?_
    intro r I' J' hpost
    unfold bf_post at hpost
    by_cases hz1 : rk_b (v1 (P p) s w) = false
    · rw [if_pos hz1] at hpost
      obtain ⟨rfl, rfl, rfl⟩ := hpost
      have hc5 := ihc (Or.inl hz1)
      subst hc5
      exact ⟨-5, rfl, hk _ _ qf.refl (qj.u (by unfold gJ; omega)) (fun z => absurd z (by decide))⟩
    rw [if_neg hz1] at hpost
    by_cases hz2 : rk_b (v2 (P p) s w) = false
    · rw [if_pos hz2] at hpost
      obtain ⟨rfl, rfl, rfl⟩ := hpost
      have hc5 := ihc (Or.inr hz2)
      subst hc5
      exact ⟨-5, rfl, hk _ _ qf.refl (qj.u (by unfold gJ; omega)) (fun z => absurd z (by decide))⟩
    rw [if_neg hz2] at hpost
    have hz1 : rk_b (v1 (P p) s w) = true := by simpa using hz1
    have hz2 : rk_b (v2 (P p) s w) = true := by simpa using hz2
    have F := ih ⟨hz1, hz2⟩
    by_cases hlt : v2 (P p) s w < v1 (P p) s w
    · rw [if_pos hlt] at hpost
      obtain ⟨rfl, rfl, rfl⟩ := hpost
      obtain ⟨rfl, rfl, rfl⟩ := F.1 hlt
      refine ⟨0, rfl, hk _ _ (qf.u (by unfold gI; omega)) (qj.u (by unfold gJ; omega)) (fun _ => ?_)⟩
      exact hR.to a2 (by simp only [qu_if, eq_self, and_self, and_false, false_and, Nat.reduceEqDiff, if_true, if_false]) (by simp only [qu_if, eq_self, and_self, and_false, false_and, Nat.reduceEqDiff, if_true, if_false]; exact a4) (by simp only [qu_if, eq_self, and_self, and_false, false_and, Nat.reduceEqDiff, if_true, if_false]) (by simp only [qu_if, eq_self, and_self, and_false, false_and, Nat.reduceEqDiff, if_true, if_false]; exact r3) (by simp only [qu_if, eq_self, and_self, and_false, false_and, Nat.reduceEqDiff, if_true, if_false]) (fun k _ => by simp only [qu_if, eq_self, and_self, and_false, false_and, Nat.reduceEqDiff, if_true, if_false]) (fun j hj => by simp only [qu_if, eq_self, and_self, and_false, false_and, Nat.reduceEqDiff, if_true, if_false]; exact a9 j hj) (fun k _ => by simp only [qu_if, eq_self, and_self, and_false, false_and, Nat.reduceEqDiff, if_true, if_false])
    rw [if_neg hlt] at hpost
    have hle := Int64.not_lt.mp hlt
    by_cases hsp : 20000 < tu + 1
    · rw [if_pos hsp] at hpost
      obtain ⟨rfl, rfl, rfl⟩ := hpost
      have hc4 := F.2.1 hle hsp
      subst hc4
      exact ⟨-4, rfl, hk _ _ (qf.u (by unfold gI; omega)) (qj.u (by unfold gJ; omega)) (fun z => absurd z (by decide))⟩
    rw [if_neg hsp] at hpost
    obtain ⟨rfl, rfl, rfl⟩ := hpost
    refine ⟨0, rfl, ?_⟩
    have f1 : qf (gI i D) I (qa_u (qa_u (qa_u (qa_u I 96 32 (nI (tu + 1))) 114 i (nI (D + 1))) 115 (4 * i + D) (nI s)) 112 i (nI (s + 1))) := (((qf.u (by unfold gI; omega)).pu (by unfold gI; omega)).pu (by unfold gI; omega)).pu (by unfold gI; omega)
    have f2 : qj (gJ i D) J (qa_u (qa_u (qa_u (qa_u J 96 34 (v2 (P p) s w)) 116 (4 * i + D) (v1 (P p) s w)) 117 (4 * i + D) (v2 (P p) s w)) 113 (7 * i + 2 + x) (v1 (P p) s w)) := (((qj.u (by unfold gJ; omega)).pu (by unfold gJ; omega)).pu (by unfold gJ; omega)).pu (by unfold gJ; omega)
    refine F.2.2 hle (by omega) (rk_bt hz2).2 i D nm e _ _ hi hp hg hs h0 (hS.fr f1) ⟨by omega, by omega, by simp only [qu_if, eq_self, and_self, and_false, false_and, Nat.reduceEqDiff, if_true, if_false]; exact a3, by simp only [qu_if, eq_self, and_self, and_false, false_and, Nat.reduceEqDiff, if_true, if_false], by simp only [qu_if, eq_self, and_self, and_false, false_and, Nat.reduceEqDiff, if_true, if_false]; exact a5, by simp only [qu_if, eq_self, and_self, and_false, false_and, Nat.reduceEqDiff, if_true, if_false], by simp only [qu_if, eq_self, and_self, and_false, false_and, Nat.reduceEqDiff, if_true, if_false], fun D' hD' => ⟨s, by omega, ?_, rfl⟩, fun k hk => by simp only [qu_if, eq_self, and_self, and_false, false_and, Nat.reduceEqDiff, if_true, if_false]; exact a9 k hk, ?_, ?_, fun dd hdd => ?_⟩ ?_ ?_ ?_ (fun D' hD' => ?_) (fun I2 J2 g1 g2 g3 => hk I2 J2 (f1.trans g1) (f2.trans g2) g3)
    · have : D' = D := by omega
      subst this
      simp only [qu_if, eq_self, and_self, and_false, false_and, Nat.reduceEqDiff, if_true, if_false]
    · simp only [qu_if, eq_self, true_and]
      rw [if_neg (by omega)]
      simp only [qu_if, eq_self, and_self, and_false, false_and, Nat.reduceEqDiff, if_true, if_false]
      unfold va_up
      rw [if_neg (by omega)]
      exact a10
    · simp only [qu_if, eq_self, true_and]
      rw [if_neg (by omega)]
      simp only [qu_if, eq_self, and_self, and_false, false_and, Nat.reduceEqDiff, if_true, if_false]
      unfold va_up
      rw [if_neg (by omega)]
      exact a11
    · unfold va_up
      by_cases hdD : dd = D
      · subst hdD
        rw [if_pos rfl, if_pos rfl, hnx]
        refine ⟨hx, ?_⟩
        simp only [qu_if, eq_self, and_self, and_false, false_and, Nat.reduceEqDiff, if_true, if_false]
      · rw [if_neg hdD, if_neg (by omega)]
        obtain ⟨b1, b2⟩ := a12 dd (by omega)
        refine ⟨b1, ?_⟩
        have hxx : ¬ nx (nm dd) = x := fun z => by
          obtain ⟨q1, q2, q3, q4⟩ := hg
          have q5 := (q4 s (Nat.le_refl _) hs).2.2 dd (by omega)
          have q6 := y3 dd (by omega)
          obtain ⟨-, -, -, -, hnok, -⟩ := hwp.2.2 s (by omega)
          obtain ⟨⟨j, hj, hj2⟩, -⟩ := hnok dd (by omega)
          rw [← q5, hj2, nx_nI hj] at z
          exact q6 (by rw [hj2, hwh, z])
        simp only [qu_if, eq_self, true_and]
        rw [if_neg (by omega)]
        simp only [qu_if, eq_self, and_self, and_false, false_and, Nat.reduceEqDiff, if_true, if_false]
        exact b2
    · simp only [qu_if, eq_self, and_self, and_false, false_and, Nat.reduceEqDiff, if_true, if_false]
    · simp only [qu_if, eq_self, and_self, and_false, false_and, Nat.reduceEqDiff, if_true, if_false]
    · simp only [qu_if, eq_self, and_self, and_false, false_and, Nat.reduceEqDiff, if_true, if_false]
    · obtain ⟨r, q1, q2, q3⟩ := a8 D' hD'
      refine ⟨r, q1, ?_, q3⟩
      simp only [qu_if, eq_self, true_and, Nat.reduceEqDiff, false_and, if_false]
      rw [if_neg (by omega)]
      exact q2
  · exact absurd (h0.symm.trans z) (by decide)
end
