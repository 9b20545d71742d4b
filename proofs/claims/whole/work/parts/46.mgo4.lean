section
variable {P : Nat → pTab} {N : Nat → Nat} {held d : Nat} {X : Nat × (Nat → Int32)} {t1 t2 : Nat} {x1 : Int32} {x2 x4 : Int64} {Q : qa_Q}
theorem g_run (hw : ∀ p, p < held → pw p (P p) (N p)) (h8 : held ≤ 8) {p s e : Nat} {w m m1 : Nat → Int64} {tu tu1 : Nat} {c : Int32} (hs : s < e) (h0 : pt_ty (P p) s = 3) (hc4 : 20000 < tu + 1 → c = -4) (hc5 : tu + 1 ≤ 20000 → rk_a (v1 (P p) s w) = false ∨ rk_a (v2 (P p) s w) = false → c = -5) (ih : tu + 1 ≤ 20000 → rk_a (v1 (P p) s w) = true ∧ rk_a (v2 (P p) s w) = true → ∃ q, q < p ∧ pt_wh (P p) s = nI q ∧ gB P N held d X t1 t2 x1 x2 x4 Q q 0 (N q) (sm_v0 (v1 (P p) s w) (v2 (P p) s w)) m (tu + 1) c m1 tu1)
    {i D : Nat} {nm : Nat → Int32} {I : qa_I} {J : qa_J} (hi : i + p < 8) (hp : p < held) (hg : gb (P p) (N p) nm D s e) (hS : gS P N held I) (hR : gR P N i p s e D nm w m tu I J)
    (hk : ∀ I' J', qf (gI i D) I I' → qj (gJ i D) J J' → (c = 0 → gR P N i p (pt_en (P p) s) e D nm w m1 tu1 I' J') → gW d X t1 t2 x1 x2 x4 Q c I' J') : gW d X t1 t2 x1 x2 x4 Q 0 I J := by
  have hwp := hw p hp
  have hN := hwp.1
  have he := hg.2.1
  have hD := hg.2.2.1 hs
  obtain ⟨-, w2, w3, -, -, wl, wl2, w5⟩ := hwp.2.2 s (by omega)
  have hne : ¬ pt_ty (P p) s = 0 := fun z => absurd (h0.symm.trans z) (by decide)
  have hval1 := hR.val hwp hg hs (wl hne)
  have hval2 := hR.val hwp hg hs (wl2 (Or.inr h0))
  obtain ⟨p98, pr⟩ := hS p hp
  obtain ⟨r1, r2, r3, r4, r5, r6⟩ := pr s (by omega)
  have htop := hR.top hp hS hwp hg hs
  rcases w5 with ⟨z, -⟩ | ⟨z, -⟩ | ⟨-, en, q, hq, hwh⟩
  · exfalso
    rcases z with z | z <;> exact absurd (h0.symm.trans z) (by decide)
  · exact absurd (h0.symm.trans z) (by decide)
  · rw [if_neg (show ¬ (P p).1 s = 2 from fun z => absurd (h0.symm.trans z) (by decide))] at r2
    have r2 : I 100 (40 * p + s) = nI q := r2.trans hwh
    obtain ⟨a1, a2, a3, a4, a5, a6, a7, a8, a9, a10, a11, a12⟩ := id hR
    have hc := k_step3 (d := d) (X := X) (t1 := t1) (t2 := t2) (I := I) (J := J) i p s D (N p) tu q (by omega) (by omega) a1 hN (by omega) a3 a4 (by omega) a5 a6 a7 p98 htop (r1.trans h0) r2 (pt_l1 (P p) s) (pt_l2 (P p) s) (fun k => J 113 (7 * i + k)) (r5 hne) (r6 (Or.inr h0)) (fun k _ => rfl)
    rw [hval1, hval2] at hc
    refine go_one (i := i) (by omega) a3 hc ?_
    intro r I' J' hpost
    unfold br_post at hpost
    by_cases hsp : 20000 < tu + 1
    · rw [if_pos hsp] at hpost
      obtain ⟨rfl, rfl, rfl⟩ := hpost
      have hc4 := hc4 hsp
      subst hc4
      exact ⟨-4, rfl, hk _ _ (qf.u (by unfold gI; omega)) qj.refl (fun z => absurd z (by decide))⟩
    rw [if_neg hsp] at hpost
    by_cases hz1 : rk_a (v1 (P p) s w) = false
    · rw [if_pos hz1] at hpost
      obtain ⟨rfl, rfl, rfl⟩ := hpost
      have hc5 := hc5 (by omega) (Or.inl hz1)
      subst hc5
      exact ⟨-5, rfl, hk _ _ (qf.u (by unfold gI; omega)) (qj.u (by unfold gJ; omega)) (fun z => absurd z (by decide))⟩
    rw [if_neg hz1] at hpost
    by_cases hz2 : rk_a (v2 (P p) s w) = false
    · rw [if_pos hz2] at hpost
      obtain ⟨rfl, rfl, rfl⟩ := hpost
      have hc5 := hc5 (by omega) (Or.inr hz2)
      subst hc5
      exact ⟨-5, rfl, hk _ _ (qf.u (by unfold gI; omega)) (qj.u (by unfold gJ; omega)) (fun z => absurd z (by decide))⟩
    rw [if_neg hz2] at hpost
    have hz1 : rk_a (v1 (P p) s w) = true := by simpa using hz1
    have hz2 : rk_a (v2 (P p) s w) = true := by simpa using hz2
    obtain ⟨rfl, rfl, hj1, hj2⟩ := hpost
    refine ⟨0, rfl, ?_⟩
    obtain ⟨q', hq', hwh', B⟩ := ih (by omega) ⟨hz1, hz2⟩
    have hqq : q' = q := (nI_eq (by omega) (by omega)).mp (hwh'.symm.trans hwh)
    subst hqq
    have f1 : qf (gI i D) I (qa_u (qa_u (qa_u (qa_u (qa_u (qa_u I 96 32 (nI (tu + 1))) 112 i (nI (s + 1))) 96 33 (nI (i + 1))) 111 (i + 1) (nI q')) 112 (i + 1) 0) 114 (i + 1) 0) := (((((qf.u (by unfold gI; omega)).pu (by unfold gI; omega)).pu (by unfold gI; omega)).pu (by unfold gI; omega)).pu (by unfold gI; omega)).pu (by unfold gI; omega)
    have f2 : qj (gJ i D) J J' := (qj.u (by unfold gJ; omega)).trans (hj1.mono (fun a k z => by unfold gJ; omega))
    have e33 : (qa_u (qa_u (qa_u (qa_u (qa_u (qa_u I 96 32 (nI (tu + 1))) 112 i (nI (s + 1))) 96 33 (nI (i + 1))) 111 (i + 1) (nI q')) 112 (i + 1) 0) 114 (i + 1) 0) 96 33 = nI (i + 1) := by simp only [qu_if, eq_self, and_self, and_false, false_and, Nat.reduceEqDiff, if_true, if_false]
    have e32 : (qa_u (qa_u (qa_u (qa_u (qa_u (qa_u I 96 32 (nI (tu + 1))) 112 i (nI (s + 1))) 96 33 (nI (i + 1))) 111 (i + 1) (nI q')) 112 (i + 1) 0) 114 (i + 1) 0) 96 32 = nI (tu + 1) := by simp only [qu_if, eq_self, and_self, and_false, false_and, Nat.reduceEqDiff, if_true, if_false]
    have e111 : (qa_u (qa_u (qa_u (qa_u (qa_u (qa_u I 96 32 (nI (tu + 1))) 112 i (nI (s + 1))) 96 33 (nI (i + 1))) 111 (i + 1) (nI q')) 112 (i + 1) 0) 114 (i + 1) 0) 111 (i + 1) = nI q' := by simp only [qu_if, eq_self, and_self, and_false, false_and, Nat.reduceEqDiff, if_true, if_false]
    have e112 : (qa_u (qa_u (qa_u (qa_u (qa_u (qa_u I 96 32 (nI (tu + 1))) 112 i (nI (s + 1))) 96 33 (nI (i + 1))) 111 (i + 1) (nI q')) 112 (i + 1) 0) 114 (i + 1) 0) 112 (i + 1) = nI 0 := by simp only [qu_if, eq_self, and_self, and_false, false_and, Nat.reduceEqDiff, if_true, if_false]; rfl
    have e114 : (qa_u (qa_u (qa_u (qa_u (qa_u (qa_u I 96 32 (nI (tu + 1))) 112 i (nI (s + 1))) 96 33 (nI (i + 1))) 111 (i + 1) (nI q')) 112 (i + 1) 0) 114 (i + 1) 0) 114 (i + 1) = nI 0 := by simp only [qu_if, eq_self, and_self, and_false, false_and, Nat.reduceEqDiff, if_true, if_false]; rfl
    have i111 : (qa_u (qa_u (qa_u (qa_u (qa_u (qa_u I 96 32 (nI (tu + 1))) 112 i (nI (s + 1))) 96 33 (nI (i + 1))) 111 (i + 1) (nI q')) 112 (i + 1) 0) 114 (i + 1) 0) 111 i = I 111 i := by
      simp only [qu_if, eq_self, and_self, and_false, false_and, Nat.reduceEqDiff, if_true, if_false]
      rw [if_neg (by omega)]
    have i112 : (qa_u (qa_u (qa_u (qa_u (qa_u (qa_u I 96 32 (nI (tu + 1))) 112 i (nI (s + 1))) 96 33 (nI (i + 1))) 111 (i + 1) (nI q')) 112 (i + 1) 0) 114 (i + 1) 0) 112 i = nI (s + 1) := by
      simp only [qu_if, eq_self, and_self, and_false, false_and, Nat.reduceEqDiff, if_true, if_false]
      rw [if_neg (by omega)]
    have i114 : (qa_u (qa_u (qa_u (qa_u (qa_u (qa_u I 96 32 (nI (tu + 1))) 112 i (nI (s + 1))) 96 33 (nI (i + 1))) 111 (i + 1) (nI q')) 112 (i + 1) 0) 114 (i + 1) 0) 114 i = I 114 i := by
      simp only [qu_if, eq_self, and_self, and_false, false_and, Nat.reduceEqDiff, if_true, if_false]
      rw [if_neg (by omega)]
    have i115 : ∀ k, (qa_u (qa_u (qa_u (qa_u (qa_u (qa_u I 96 32 (nI (tu + 1))) 112 i (nI (s + 1))) 96 33 (nI (i + 1))) 111 (i + 1) (nI q')) 112 (i + 1) 0) 114 (i + 1) 0) 115 k = I 115 k := fun k => by simp only [qu_if, eq_self, and_self, and_false, false_and, Nat.reduceEqDiff, if_true, if_false]
    generalize qa_u (qa_u (qa_u (qa_u (qa_u (qa_u I 96 32 (nI (tu + 1))) 112 i (nI (s + 1))) 96 33 (nI (i + 1))) 111 (i + 1) (nI q')) 112 (i + 1) 0) 114 (i + 1) 0 = I1 at f1 e33 e32 e111 e112 e114 i111 i112 i114 i115 ⊢
    have m118 : ∀ k, J' 118 k = J 118 k := fun k => by rw [hj1 118 k (by omega)]; simp only [qu_if, eq_self, and_self, and_false, false_and, Nat.reduceEqDiff, if_true, if_false]
    have k113 : ∀ k, k < 7 → J' 113 (7 * i + k) = J 113 (7 * i + k) := fun k hk => by rw [hj1 113 _ (by omega)]; simp only [qu_if, eq_self, and_self, and_false, false_and, Nat.reduceEqDiff, if_true, if_false]
    have hwq := hw q' (by omega)
    have hRq : gR P N (i + 1) q' 0 (N q') 0 (fun _ => 0) (sm_v0 (v1 (P p) s w) (v2 (P p) s w)) m (tu + 1) I1 J' := ⟨by omega, by omega, e33, e32, e111, e112, e114, fun D' hD' => absurd hD' (by omega), fun k hk => (m118 k).trans (a9 k hk), hj2 0 (by omega), hj2 1 (by omega), fun dd hdd => absurd hdd (by omega)⟩
    refine B (i + 1) 0 (fun _ => 0) I1 J' (by omega) (by omega) (gb_top hwq) (hS.fr f1) hRq (fun I2 J2 g1 g2 g3 => ?_)
    have F1 : qf (gI i D) I I2 := f1.trans (g1.mono (gI_N a1))
    have F2 : qj (gJ i D) J J2 := f2.trans (g2.mono (gJ_N a1))
    by_cases hc0 : c = 0
    · subst hc0
      obtain ⟨b1, b2, b3, b4, b5, b6, b7, b8, b9, b10, b11, b12⟩ := g3 rfl
      have hSq := (hS.fr F1) q' (by omega)
      have hret := k_stepRet (d := d + 3) (X := X) (t1 := t1) (t2 := t2) (I := I2) (J := J2) (i + 1) q' (N q') (by omega) (by omega) hwq.1 b3 b5 b6 b7 hSq.1
      refine go_one (i := i + 1) (by omega) b3 (S := fun r I' J' => r = some (.int 0) ∧ I' = qa_u I2 96 33 (nI (i + 1) - 1) ∧ J' = J2) (qa_Call_mono hret ?_) ?_
      · rintro r g I' J' R ⟨rfl, rfl, rfl, rfl, rfl⟩
        exact ⟨rfl, rfl, rfl, rfl, rfl⟩
      · rintro r I' J' ⟨rfl, rfl, rfl⟩
        refine ⟨0, rfl, hk _ _ (F1.pu (by unfold gI; omega)) F2 (fun _ => ?_)⟩
        refine hR.to b2 ?_ ?_ ?_ ?_ ?_ (fun k hk => ?_) (fun k hk => b9 k hk) (fun k hk => ?_)
        · simp only [qu_if, eq_self, and_self, and_false, false_and, Nat.reduceEqDiff, if_true, if_false]; rw [nI_pred, a3]
        · simp only [qu_if, eq_self, and_self, and_false, false_and, Nat.reduceEqDiff, if_true, if_false]; exact b4
        · simp only [qu_if, eq_self, and_self, and_false, false_and, Nat.reduceEqDiff, if_true, if_false]; rw [g1 111 i (by unfold gI; omega)]; exact i111
        · simp only [qu_if, eq_self, and_self, and_false, false_and, Nat.reduceEqDiff, if_true, if_false]; rw [g1 112 i (by unfold gI; omega), i112, en]
        · simp only [qu_if, eq_self, and_self, and_false, false_and, Nat.reduceEqDiff, if_true, if_false]; rw [g1 114 i (by unfold gI; omega)]; exact i114
        · simp only [qu_if, eq_self, and_self, and_false, false_and, Nat.reduceEqDiff, if_true, if_false]; rw [g1 115 k (by unfold gI; omega)]; exact i115 k
        · rw [g2 113 _ (by unfold gJ; omega)]; exact k113 k hk
    · exact hk I2 J2 F1 F2 (fun z => absurd z hc0)
theorem gF_body (hw : ∀ p, p < held → pw p (P p) (N p)) (h8 : held ≤ 8) : ∀ p s w m tu v last m1 tu1 c c1 m' tu', v ≤ last → tu + 1 ≤ 20000 → gB P N held d X t1 t2 x1 x2 x4 Q p (s + 1) (pt_en (P p) s) (va_up w (2 + pt_dp (P p) s) v) m (tu + 1) c1 m1 tu1 → (c1 = 0 → gF P N held d X t1 t2 x1 x2 x4 Q p s w m1 tu1 (v + 1) last c m' tu') → (¬ c1 = 0 → c = c1) → gF P N held d X t1 t2 x1 x2 x4 Q p s w m tu v last c m' tu' := by
  intro p s w m tu v last m1 tu1 c c1 m' tu' hv htu B F hcc
  refine ⟨fun h => absurd hv (Int64.not_le.mpr h), fun _ h => absurd htu (by omega), fun _ _ hlast i D nm e I J hi hp hg hs h0 hS hR h116 h117 h115 htop hk => ?_⟩
  have hwp := hw p hp
  have hN := hwp.1
  have he := hg.2.1
  have hD := hg.2.2.1 hs
  obtain ⟨-, w2, w3, -, -, -, -, w5⟩ := hwp.2.2 s (by omega)
  rw [hD] at B
  refine B i (D + 1) _ I J hi hp (gb_body hwp hg hs h0) hS hR (fun I1 J1 g1 g2 g3 => ?_)
  have F1 : qf (gI i D) I I1 := g1.mono gI_S
  have F2 : qj (gJ i D) J J1 := g2.mono gJ_S
  by_cases hc1 : c1 = 0
  · subst hc1
    have hF := F rfl
    have hR1 := g3 rfl
    obtain ⟨a1, a2, a3, a4, a5, a6, a7, a8, a9, a10, a11, a12⟩ := id hR1
    obtain ⟨p98, pr⟩ := (hS.fr F1) p hp
    obtain ⟨r1, r2, r3, r4, -, -⟩ := pr s (by omega)
    have j115 : I1 115 (4 * i + D) = nI s := by rw [g1 115 _ (by unfold gI; omega)]; exact h115
    have j116 : J1 116 (4 * i + D) = v := by rw [g2 116 _ (by unfold gJ; omega)]; exact h116
    have j117 : J1 117 (4 * i + D) = last := by rw [g2 117 _ (by unfold gJ; omega)]; exact h117
    rcases w5 with ⟨z, -⟩ | ⟨-, y1, ⟨x, hx, hwh⟩, y3, -, -⟩ | ⟨z, -⟩
    · exfalso
      rcases z with z | z <;> exact absurd (h0.symm.trans z) (by decide)
    · rw [hD] at y1 y3
      rw [if_pos h0] at r2
      have hwh' : (P p).2.1 s = nI (105 + x) := hwh
      have r2 : I1 100 (40 * p + s) = nI x := by
        rw [r2, hwh']
        have : x = 0 ∨ x = 1 ∨ x = 2 ∨ x = 3 ∨ x = 4 := by omega
        rcases this with rfl | rfl | rfl | rfl | rfl <;> rfl
      have hnx : nx (pt_wh (P p) s) = x := by rw [hwh]; exact nx_nI hx
      have hc := k_stepAgain (d := d + 1) (X := X) (t1 := t1) (t2 := t2) (I := I1) (J := J1) i p s tu1 D x (pt_en (P p) s) (by omega) (by omega) (by omega) y1 hx (by omega) a3 a4 (by omega) a5 a6 a7 j115 r2 r3
      rw [j116, j117] at hc
      have hout : ∀ D', D = D' + 1 → ∃ r, r < N p ∧ I1 115 (4 * i + D') = nI r ∧ pt_en (P p) r = e := fun D' hD' => by
        obtain ⟨r, q1, q2, q3⟩ := htop D' hD'
        exact ⟨r, q1, by rw [g1 115 _ (by unfold gI; omega)]; exact q2, q3⟩
      refine go_one (i := i) (by omega) a3 hc ?_
      intro r I' J' hpost
      unfold ag_post at hpost
      by_cases hvl : v = last
      · rw [if_pos hvl] at hpost
        obtain ⟨rfl, rfl, rfl⟩ := hpost
        obtain ⟨rfl, rfl, rfl⟩ := hF.1 (i64_end hvl hlast)
        refine ⟨0, rfl, hk _ _ ((F1.pu (by unfold gI; omega)).pu (by unfold gI; omega)) F2 (fun _ => ?_)⟩
        refine ⟨by omega, a2, by simp only [qu_if, eq_self, and_self, and_false, false_and, Nat.reduceEqDiff, if_true, if_false]; exact a3, by simp only [qu_if, eq_self, and_self, and_false, false_and, Nat.reduceEqDiff, if_true, if_false]; exact a4, by simp only [qu_if, eq_self, and_self, and_false, false_and, Nat.reduceEqDiff, if_true, if_false]; exact a5, by simp only [qu_if, eq_self, and_self, and_false, false_and, Nat.reduceEqDiff, if_true, if_false], by simp only [qu_if, eq_self, and_self, and_false, false_and, Nat.reduceEqDiff, if_true, if_false], fun D' hD' => ?_, a9, ?_, ?_, fun dd hdd => ?_⟩
        · obtain ⟨r, q1, q2, q3⟩ := hout D' hD'
          exact ⟨r, q1, by simp only [qu_if, eq_self, and_self, and_false, false_and, Nat.reduceEqDiff, if_true, if_false]; exact q2, q3⟩
        · rw [a10]; unfold va_up; rw [if_neg (by omega)]
        · rw [a11]; unfold va_up; rw [if_neg (by omega)]
        · obtain ⟨b1, b2⟩ := a12 dd (by omega)
          unfold va_up at b1 b2
          rw [if_neg (by omega)] at b1
          rw [if_neg (by omega), if_neg (by omega)] at b2
          exact ⟨b1, b2⟩
      rw [if_neg hvl] at hpost
      have hmore := i64_more hv hvl
      by_cases hsp : 20000 < tu1 + 1
      · rw [if_pos hsp] at hpost
        obtain ⟨rfl, rfl, rfl⟩ := hpost
        have hc4 := hF.2.1 hmore hsp
        subst hc4
        exact ⟨-4, rfl, hk _ _ (F1.pu (by unfold gI; omega)) F2 (fun z => absurd z (by decide))⟩
      rw [if_neg hsp] at hpost
      obtain ⟨rfl, rfl, rfl⟩ := hpost
      refine ⟨0, rfl, ?_⟩
      have f1 : qf (gI i D) I1 (qa_u (qa_u I1 96 32 (nI (tu1 + 1))) 112 i (nI (s + 1))) := (qf.u (by unfold gI; omega)).pu (by unfold gI; omega)
      have f2 : qj (gJ i D) J1 (qa_u (qa_u J1 116 (4 * i + D) (v + 1)) 113 (7 * i + 2 + x) (v + 1)) := (qj.u (by unfold gJ; omega)).pu (by unfold gJ; omega)
      refine hF.2.2 hmore (by omega) hlast i D nm e _ _ hi hp hg hs h0 ((hS.fr F1).fr f1) ⟨by omega, by omega, by simp only [qu_if, eq_self, and_self, and_false, false_and, Nat.reduceEqDiff, if_true, if_false]; exact a3, by simp only [qu_if, eq_self, and_self, and_false, false_and, Nat.reduceEqDiff, if_true, if_false], by simp only [qu_if, eq_self, and_self, and_false, false_and, Nat.reduceEqDiff, if_true, if_false]; exact a5, by simp only [qu_if, eq_self, and_self, and_false, false_and, Nat.reduceEqDiff, if_true, if_false], by simp only [qu_if, eq_self, and_self, and_false, false_and, Nat.reduceEqDiff, if_true, if_false]; exact a7, fun D' hD' => ⟨s, by omega, ?_, rfl⟩, fun k hk => by simp only [qu_if, eq_self, and_self, and_false, false_and, Nat.reduceEqDiff, if_true, if_false]; exact a9 k hk, ?_, ?_, fun dd hdd => ?_⟩ ?_ ?_ ?_ (fun D' hD' => ?_) (fun I2 J2 e1 e2 e3 => hk I2 J2 ((F1.trans f1).trans e1) ((F2.trans f2).trans e2) e3)
      · have : D' = D := by omega
        subst this
        simp only [qu_if, eq_self, and_self, and_false, false_and, Nat.reduceEqDiff, if_true, if_false]
        exact j115
      · simp only [qu_if, eq_self, true_and]
        rw [if_neg (by omega)]
        simp only [qu_if, eq_self, and_self, and_false, false_and, Nat.reduceEqDiff, if_true, if_false]
        rw [a10]
        unfold va_up
        rw [if_neg (by omega), if_neg (by omega)]
      · simp only [qu_if, eq_self, true_and]
        rw [if_neg (by omega)]
        simp only [qu_if, eq_self, and_self, and_false, false_and, Nat.reduceEqDiff, if_true, if_false]
        rw [a11]
        unfold va_up
        rw [if_neg (by omega), if_neg (by omega)]
      · by_cases hdD : dd = D
        · subst hdD
          unfold va_up
          rw [if_pos rfl, if_pos rfl, hnx]
          refine ⟨hx, ?_⟩
          simp only [qu_if, eq_self, and_self, and_false, false_and, Nat.reduceEqDiff, if_true, if_false]
        · obtain ⟨b1, b2⟩ := a12 dd (by omega)
          unfold va_up at b1 b2 ⊢
          rw [if_neg hdD] at b1
          rw [if_neg hdD, if_neg (by omega)] at b2
          rw [if_neg hdD, if_neg (by omega)]
          refine ⟨b1, ?_⟩
          have hxx : ¬ nx (nm dd) = x := fun z => by
            obtain ⟨q1, q2, q3, q4⟩ := hg
            have q5 := (q4 s (Nat.le_refl _) hs).2.2 dd (by omega)
            have q6 := y3 dd (by omega)
            obtain ⟨-, -, -, -, hnok, -⟩ := hwp.2.2 s (by omega)
            obtain ⟨⟨j, hj, hj2⟩, -⟩ := hnok dd (by omega)
            rw [← q5, hj2, nx_nI hj] at z
            exact q6 (by rw [hj2, hwh, z])
          simp only [qu_if, eq_self, true_and]
          rw [if_neg (by omega)]
          simp only [qu_if, eq_self, and_self, and_false, false_and, Nat.reduceEqDiff, if_true, if_false]
          exact b2
      · simp only [qu_if, eq_self, and_self, and_false, false_and, Nat.reduceEqDiff, if_true, if_false]
      · simp only [qu_if, eq_self, and_self, and_false, false_and, Nat.reduceEqDiff, if_true, if_false]
        exact j117
      · simp only [qu_if, eq_self, and_self, and_false, false_and, Nat.reduceEqDiff, if_true, if_false]
        exact j115
      · obtain ⟨r, q1, q2, q3⟩ := hout D' hD'
        exact ⟨r, q1, by simp only [qu_if, eq_self, and_self, and_false, false_and, Nat.reduceEqDiff, if_true, if_false]; exact q2, q3⟩
    · exact absurd (h0.symm.trans z) (by decide)
  · have hcc' := hcc hc1
    subst hcc'
    exact hk I1 J1 F1 F2 (fun z => absurd z hc1)
end
