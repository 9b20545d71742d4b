def crI (a k : Nat) : Prop := a = 88 ∧ (k = 3 ∨ k = 4)
def crJ (p D a k : Nat) : Prop := a = 89 ∨ (a = 90 ∧ (k < 7 * p ∨ (7 * p + 3 + D ≤ k ∧ k < 7 * p + 7)))
theorem crJ_S {p D : Nat} : ∀ a k, crJ p (D + 1) a k → crJ p D a k := fun a k z => by unfold crJ at z ⊢; omega
theorem crJ_N {p q D : Nat} (h : q < p) : ∀ a k, crJ q 0 a k → crJ p D a k := fun a k z => by unfold crJ at z ⊢; omega
/-- the component's runner, at work in PROGRAM p -/
def cR (p D : Nat) (w m : Nat → Int64) (tu : Nat) (I : qa_I) (J : qa_J) : Prop := I 88 3 = nI tu ∧ tu ≤ 20000 ∧ I 88 4 = 0 ∧ (∀ k, k < 4 → J 89 k = m k) ∧ J 90 (7 * p) = 1 ∧ J 90 (7 * p + 1) = w 0 ∧ J 90 (7 * p + 2) = w 1 ∧ ∀ d, d < D → J 90 (7 * p + (3 + d)) = w (2 + d)
def cq (p D : Nat) (c : Int32) (m' : Nat → Int64) (tu' : Nat) (I : qa_I) (J : qa_J) (r : Option Value) (I' : qa_I) (J' : qa_J) : Prop := r = none ∧ qf crI I I' ∧ qj (crJ p D) J J' ∧ I' 88 4 = c ∧ (c = 0 → (∀ k, k < 4 → J' 89 k = m' k) ∧ I' 88 3 = nI tu' ∧ tu' ≤ 20000)
theorem cS.fr {P : Nat → pTab} {N : Nat → Nat} {held p D : Nat} {I I' : qa_I} {J J' : qa_J} (h : cS P N held I J) (h8 : held ≤ 8) (hI : qf crI I I') (hJ : qj (crJ p D) J J') : cS P N held I' J' := h.kept (fun p a k h1 h2 h3 h4 => hI a k (by unfold crI; omega)) (fun p a k h1 h2 h3 => hJ a k (by unfold crJ; omega))
theorem cR.step {p D : Nat} {w m m1 : Nat → Int64} {tu tu1 : Nat} {I I' : qa_I} {J J' : qa_J} {r : Option Value} (h : cR p D w m tu I J) (q : cq p D 0 m1 tu1 I J r I' J') (hD : D ≤ 4) : cR p D w m1 tu1 I' J' := by
  obtain ⟨a1, a2, a3, a4, a5, a6, a7, a8⟩ := h
  obtain ⟨b1, b2, b3, b4, b5⟩ := q
  obtain ⟨b6, b7, b8⟩ := b5 rfl
  exact ⟨b7, b8, b4, b6, (b3 90 _ (by unfold crJ; omega)).trans a5, (b3 90 _ (by unfold crJ; omega)).trans a6, (b3 90 _ (by unfold crJ; omega)).trans a7, fun d hd => (b3 90 _ (by unfold crJ; omega)).trans (a8 d hd)⟩
theorem cq.from {p D : Nat} {c : Int32} {m m1 : Nat → Int64} {tu tu1 : Nat} {I I1 I' : qa_I} {J J1 J' : qa_J} {r : Option Value} (hI : qf crI I I1) (hJ : qj (crJ p D) J J1) (h : cq p D c m1 tu1 I1 J1 r I' J') : cq p D c m1 tu1 I J r I' J' := ⟨h.1, hI.trans h.2.1, hJ.trans h.2.2.1, h.2.2.2⟩
/-- what the component reckons is what the LINE is worth -/
theorem c_rk {d : Nat} {X : Nat × (Nat → Int32)} {t1 t2 : Nat} {I : qa_I} {J : qa_J} {P : Nat → pTab} {N : Nat → Nat} {held : Nat} (h8 : held ≤ 8) {p s D a : Nat} (hp : p < held) (hs : s < N p) (hN : N p ≤ 40) (hD : pt_dp (P p) s = D) (hD4 : D ≤ 4) (hS : cS P N held I J) {w m : Nat → Int64} {tu : Nat} (hR : J 90 (7 * p) = 1 ∧ J 90 (7 * p + 1) = w 0 ∧ J 90 (7 * p + 2) = w 1 ∧ ∀ d, d < D → J 90 (7 * p + (3 + d)) = w (2 + d)) (hy : qk_ly a = .inr (1, 280)) (l : Nat → Int32) (hl : ∀ k, k < 7 → J a (7 * s + k) = dl l (pt_nm (P p) s) (pt_dp (P p) s) k) : qa_Call d mX4_reckon [.ref 88, .int (nI p), .int (nI s), .ref a] qk_b (qk_g X) I J (qk_R t1 t2) (qk_E (some (.long (le_S l (pt_nm (P p) s) w (pt_dp (P p) s)))) X (if rk_b (le_S l (pt_nm (P p) s) w (pt_dp (P p) s)) = true then I else qa_u I 88 4 (-5)) J t1 t2) := by
  rw [hD] at hl ⊢
  have hW : ∀ k, k < 3 + D → J 90 (7 * p + k) = (fun k => J 90 (7 * p + k)) k := fun k hk => rfl
  have hd := ((hS p hp).2 s hs).2.2.1
  rw [hD] at hd
  have := c_reckon (d := d) (X := X) (t1 := t1) (t2 := t2) (I := I) (J := J) p s D a (by omega) (by omega) hD4 hy hd _ _ hl hW
  rw [cr_le (W := fun k => J 90 (7 * p + k)) (w := w) (D := D) hR.1 hR.2.1 hR.2.2.1 hR.2.2.2 D (Nat.le_refl _)] at this
  exact this
/-- a row STEP LINE -/
theorem c_makeSteps {d : Nat} {X : Nat × (Nat → Int32)} {t1 t2 : Nat} {I : qa_I} {J : qa_J} {P : Nat → pTab} {N : Nat → Nat} {held : Nat} (h8 : held ≤ 8) {p s D : Nat} (hp : p < held) (hw : pw p (P p) (N p)) (hs : s < N p) (hD : pt_dp (P p) s = D) (h1 : pt_ty (P p) s = 1) (hS : cS P N held I J) {w m : Nat → Int64} {tu : Nat} (hR : cR p D w m tu I J) : qa_Call (d + 1) mX4_makeSteps [.ref 88, .int (nI p), .int (nI s)] qk_b (qk_g X) I J (qk_R t1 t2) (qk_H X t1 t2 (cq p D (if rk_b (v1 (P p) s w) = true ∧ 0 ≤ v1 (P p) s w then 0 else -5) (mk_up m (pt_wh (P p) s).toNatClampNeg (v1 (P p) s w)) tu I J)) := by
  have hp9 : p < 9 := by omega
  have h40 := hw.1
  obtain ⟨w1, -, -, -, -, -, -, w8⟩ := hw.2.2 s hs
  obtain ⟨k, hk, hk2⟩ : ∃ k, k < 4 ∧ pt_wh (P p) s = nI k := by
    rcases w8 with ⟨-, -, z⟩ | ⟨z, -⟩ | ⟨z, -⟩
    · exact z
    · rw [h1] at z; exact absurd z (by decide)
    · rw [h1] at z; exact absurd z (by decide)
  obtain ⟨c1, c2, c3, c4, c5, c6⟩ := (hS p hp).2 s hs
  have c2' := c2 (by rw [h1]; decide)
  rw [hk2] at c2' ⊢
  rw [nI_clamp (show k < 2 ^ 31 by omega)]
  refine qa_call_of (lo := [some (.ref 88), some (.int (nI p)), some (.int (nI s)), none, none, none]) ok_mX4_makeSteps rfl (Nat.le_of_ble_eq_true rfl) ⟨Nat.le_refl _, Nat.le_refl _⟩ ?_
  ((first | apply b_X4_makeSteps_0 | apply b_X4_makeSteps_17 | apply b_X4_makeSteps_26 | apply b_X4_makeSteps_32); simp only [qa_sq, qi_ci, qi_cl, qi_iload, qi_lload, qi_aload, qi_istore, qi_lstore, qi_astore, qi_iinc, qi_iadd, qi_isub, qi_imul, qi_iand, qi_ior, qi_idiv, qi_irem, qi_ishr, qi_iushr, qi_ladd, qi_lsub, qi_lmul, qi_ldiv, qi_ineg, qi_lneg, qi_i2l, qi_l2i, qi_lcmp, qi_dup, qi_pop, qi_dup_x1, qi_dup2, qi_getI, qi_getJ, qi_getR, qi_putI, qi_putZ, qi_putJ, qi_putR, qi_iald, qi_lald, qi_zald, qi_aald, qi_iast, qi_last, qi_zast, qi_aast, qi_alen0, qi_alen1, qi_alen3, qi_choices, qi_chld, qi_sld, qi_slen, qe_if_eq, qe_if_ne, qe_if_lt, qe_if_ge, qe_if_gt, qe_if_le, qe_icmp_eq, qe_icmp_ne, qe_icmp_lt, qe_icmp_ge, qe_icmp_gt, qe_icmp_le, qa_get, qa_s1, qa_s2, va_rf, qk_y, qk_len, qk_n, qk_w, qa_cmp_lt, qa_cmp_eq, qa_cmp_gt, qa_cmp_ge, qa_cmp_le, Value.category, List.map_cons, List.map_nil, List.length_cons, List.length_nil, Option.toList, List.cons_append, List.nil_append, true_and, and_true, and_self, ite_true, ite_false, true_or, or_true, not_true_eq_false, not_false_eq_true, false_implies, true_implies, reduceIte, Nat.reduceEqDiff, List.sum_cons, List.sum_nil, Nat.reduceAdd, Nat.reduceLeDiff, Nat.le_refl, Nat.reduceMul, Nat.reduceLT, y_0, y_1, y_2, y_3, y_4, y_5, y_6, y_7, y_8, y_81, y_82, y_83, y_84, y_85, y_86, y_87, y_88, y_89, y_90, y_91, y_92, y_93, y_94, y_95, y_96, y_97, y_98, y_99, y_100, y_101, y_102, y_103, y_104, y_105, y_106, y_107, y_108, y_109, y_110, y_111, y_112, y_113, y_114, y_115, y_116, y_117, y_118, y_119, y_120, y_121, y_122, y_123, y_124, y_125, y_126, r_0_0, r_0_1, r_0_2, r_0_3, r_0_4, r_0_5, r_0_6, r_0_7, r_0_8, r_0_9, r_0_10, r_1_0, r_81_0, r_81_1, r_81_2, r_81_3, r_84_0, r_84_1, r_84_2, r_84_3, r_88_0, r_88_1, r_88_2, r_91_0, r_91_1, r_91_2, r_94_0, r_94_1, r_94_2, r_96_0, r_96_9, r_96_10, r_96_11, r_96_12, r_96_13, r_96_14, r_96_15, r_96_18, r_96_19, r_96_20, r_96_21, r_96_22, r_96_23, r_96_24, r_96_25, r_96_26, r_96_27, r_96_28, r_96_29, r_96_30, r_96_31, r_96_35, r_96_36, r_96_37, r_96_38, r_96_39, r_96_40, r_96_41, r_96_43, r_81_7, r_91_3, yp0 hp9, yp1 hp9, yp2 hp9, yp3 hp9, yp4 hp9, yp5 hp9, yp6 hp9, yp7 hp9, rq1 hp9, rq2 hp9, rq3 hp9, rq4 hp9, rq5 hp9, rq6 hp9, rq7 hp9, r_pr hp9, qk_ix (show p < 2 ^ 31 by omega)])
  repeat refine ⟨vp_in_nI (by omega) (by decide), ?_⟩
  refine ⟨_, c_rk h8 hp hs h40 hD (by omega) hS (w := w) (m := m) (tu := tu) ⟨hR.2.2.2.2.1, hR.2.2.2.2.2.1, hR.2.2.2.2.2.2.1, hR.2.2.2.2.2.2.2⟩ (yp5 hp9) (pt_l1 (P p) s) (c5 (by rw [h1]; decide)), ?_⟩
  rintro _ _ _ _ _ ⟨rfl, rfl, rfl, rfl, rfl⟩
  obtain ⟨r1, r2, r3, r4, -⟩ := hR
  show qa_WP (d + 1) mX4_makeSteps qk_b 17 _ _ _ _ _ _ _
  generalize hv : le_S (pt_l1 (P p) s) (pt_nm (P p) s) w (pt_dp (P p) s) = v
  have hv1 : v1 (P p) s w = v := hv
  rw [hv1]
  have h32 : ∀ I1 : qa_I, qf crI I I1 → I1 (9 + 8 * p + 2) s = nI k → I1 88 3 = nI tu → I1 88 4 = (if rk_b v = true ∧ 0 ≤ v then 0 else -5) → qa_WP (d + 1) mX4_makeSteps qk_b 32 [some (.ref 88), some (.int (nI p)), some (.int (nI s)), some (.ref (9 + 8 * p)), some (.long v), none] [] (qk_g X) I1 J (qk_R t1 t2) (qk_H X t1 t2 (cq p D (if rk_b v = true ∧ 0 ≤ v then 0 else -5) (mk_up m k v) tu I J)) := fun I1 hf e2 e3 e4 => by
    ((first | apply b_X4_makeSteps_0 | apply b_X4_makeSteps_17 | apply b_X4_makeSteps_26 | apply b_X4_makeSteps_32); simp only [qa_sq, qi_ci, qi_cl, qi_iload, qi_lload, qi_aload, qi_istore, qi_lstore, qi_astore, qi_iinc, qi_iadd, qi_isub, qi_imul, qi_iand, qi_ior, qi_idiv, qi_irem, qi_ishr, qi_iushr, qi_ladd, qi_lsub, qi_lmul, qi_ldiv, qi_ineg, qi_lneg, qi_i2l, qi_l2i, qi_lcmp, qi_dup, qi_pop, qi_dup_x1, qi_dup2, qi_getI, qi_getJ, qi_getR, qi_putI, qi_putZ, qi_putJ, qi_putR, qi_iald, qi_lald, qi_zald, qi_aald, qi_iast, qi_last, qi_zast, qi_aast, qi_alen0, qi_alen1, qi_alen3, qi_choices, qi_chld, qi_sld, qi_slen, qe_if_eq, qe_if_ne, qe_if_lt, qe_if_ge, qe_if_gt, qe_if_le, qe_icmp_eq, qe_icmp_ne, qe_icmp_lt, qe_icmp_ge, qe_icmp_gt, qe_icmp_le, qa_get, qa_s1, qa_s2, va_rf, qk_y, qk_len, qk_n, qk_w, qa_cmp_lt, qa_cmp_eq, qa_cmp_gt, qa_cmp_ge, qa_cmp_le, Value.category, List.map_cons, List.map_nil, List.length_cons, List.length_nil, Option.toList, List.cons_append, List.nil_append, true_and, and_true, and_self, ite_true, ite_false, true_or, or_true, not_true_eq_false, not_false_eq_true, false_implies, true_implies, reduceIte, Nat.reduceEqDiff, List.sum_cons, List.sum_nil, Nat.reduceAdd, Nat.reduceLeDiff, Nat.le_refl, Nat.reduceMul, Nat.reduceLT, y_0, y_1, y_2, y_3, y_4, y_5, y_6, y_7, y_8, y_81, y_82, y_83, y_84, y_85, y_86, y_87, y_88, y_89, y_90, y_91, y_92, y_93, y_94, y_95, y_96, y_97, y_98, y_99, y_100, y_101, y_102, y_103, y_104, y_105, y_106, y_107, y_108, y_109, y_110, y_111, y_112, y_113, y_114, y_115, y_116, y_117, y_118, y_119, y_120, y_121, y_122, y_123, y_124, y_125, y_126, r_0_0, r_0_1, r_0_2, r_0_3, r_0_4, r_0_5, r_0_6, r_0_7, r_0_8, r_0_9, r_0_10, r_1_0, r_81_0, r_81_1, r_81_2, r_81_3, r_84_0, r_84_1, r_84_2, r_84_3, r_88_0, r_88_1, r_88_2, r_91_0, r_91_1, r_91_2, r_94_0, r_94_1, r_94_2, r_96_0, r_96_9, r_96_10, r_96_11, r_96_12, r_96_13, r_96_14, r_96_15, r_96_18, r_96_19, r_96_20, r_96_21, r_96_22, r_96_23, r_96_24, r_96_25, r_96_26, r_96_27, r_96_28, r_96_29, r_96_30, r_96_31, r_96_35, r_96_36, r_96_37, r_96_38, r_96_39, r_96_40, r_96_41, r_96_43, r_81_7, r_91_3, yp0 hp9, yp1 hp9, yp2 hp9, yp3 hp9, yp4 hp9, yp5 hp9, yp6 hp9, yp7 hp9, rq1 hp9, rq2 hp9, rq3 hp9, rq4 hp9, rq5 hp9, rq6 hp9, rq7 hp9, r_pr hp9, qk_ix (show s < 2 ^ 31 by omega), e2, qk_ix (show k < 2 ^ 31 by omega), r4 k hk])
    repeat refine ⟨vp_in_nI (by omega) (by decide), ?_⟩
    refine ⟨rfl, rfl, rfl, hf, qj.u (Or.inl rfl), e4, fun _ => ⟨fun j hj => ?_, e3, r2⟩⟩
    rw [qu_if]
    unfold mk_up va_up
    by_cases hjk : j = k
    · rw [if_pos ⟨rfl, hjk⟩, if_pos hjk]
    · rw [if_neg (fun z => hjk z.2), if_neg hjk]
      exact r4 j hj
  ((first | apply b_X4_makeSteps_0 | apply b_X4_makeSteps_17 | apply b_X4_makeSteps_26 | apply b_X4_makeSteps_32); simp only [qa_sq, qi_ci, qi_cl, qi_iload, qi_lload, qi_aload, qi_istore, qi_lstore, qi_astore, qi_iinc, qi_iadd, qi_isub, qi_imul, qi_iand, qi_ior, qi_idiv, qi_irem, qi_ishr, qi_iushr, qi_ladd, qi_lsub, qi_lmul, qi_ldiv, qi_ineg, qi_lneg, qi_i2l, qi_l2i, qi_lcmp, qi_dup, qi_pop, qi_dup_x1, qi_dup2, qi_getI, qi_getJ, qi_getR, qi_putI, qi_putZ, qi_putJ, qi_putR, qi_iald, qi_lald, qi_zald, qi_aald, qi_iast, qi_last, qi_zast, qi_aast, qi_alen0, qi_alen1, qi_alen3, qi_choices, qi_chld, qi_sld, qi_slen, qe_if_eq, qe_if_ne, qe_if_lt, qe_if_ge, qe_if_gt, qe_if_le, qe_icmp_eq, qe_icmp_ne, qe_icmp_lt, qe_icmp_ge, qe_icmp_gt, qe_icmp_le, qa_get, qa_s1, qa_s2, va_rf, qk_y, qk_len, qk_n, qk_w, qa_cmp_lt, qa_cmp_eq, qa_cmp_gt, qa_cmp_ge, qa_cmp_le, Value.category, List.map_cons, List.map_nil, List.length_cons, List.length_nil, Option.toList, List.cons_append, List.nil_append, true_and, and_true, and_self, ite_true, ite_false, true_or, or_true, not_true_eq_false, not_false_eq_true, false_implies, true_implies, reduceIte, Nat.reduceEqDiff, List.sum_cons, List.sum_nil, Nat.reduceAdd, Nat.reduceLeDiff, Nat.le_refl, Nat.reduceMul, Nat.reduceLT, y_0, y_1, y_2, y_3, y_4, y_5, y_6, y_7, y_8, y_81, y_82, y_83, y_84, y_85, y_86, y_87, y_88, y_89, y_90, y_91, y_92, y_93, y_94, y_95, y_96, y_97, y_98, y_99, y_100, y_101, y_102, y_103, y_104, y_105, y_106, y_107, y_108, y_109, y_110, y_111, y_112, y_113, y_114, y_115, y_116, y_117, y_118, y_119, y_120, y_121, y_122, y_123, y_124, y_125, y_126, r_0_0, r_0_1, r_0_2, r_0_3, r_0_4, r_0_5, r_0_6, r_0_7, r_0_8, r_0_9, r_0_10, r_1_0, r_81_0, r_81_1, r_81_2, r_81_3, r_84_0, r_84_1, r_84_2, r_84_3, r_88_0, r_88_1, r_88_2, r_91_0, r_91_1, r_91_2, r_94_0, r_94_1, r_94_2, r_96_0, r_96_9, r_96_10, r_96_11, r_96_12, r_96_13, r_96_14, r_96_15, r_96_18, r_96_19, r_96_20, r_96_21, r_96_22, r_96_23, r_96_24, r_96_25, r_96_26, r_96_27, r_96_28, r_96_29, r_96_30, r_96_31, r_96_35, r_96_36, r_96_37, r_96_38, r_96_39, r_96_40, r_96_41, r_96_43, r_81_7, r_91_3])
  refine ⟨fun h => ?_, fun h => ?_⟩
  · cases hb : rk_b v with
    | true =>
      rw [if_pos rfl]
      have := h32 I qf.refl c2' r1 (by rw [if_pos ⟨hb, h⟩]; exact r3)
      rw [hb] at this
      exact this
    | false =>
      rw [if_neg (by decide)]
      have := h32 (qa_u I 88 4 (-5)) (qf.u ⟨rfl, Or.inr rfl⟩) (by rw [qu_if, if_neg (by omega)]; exact c2') (by rw [qu_if, if_neg (by omega)]; exact r1) (by rw [qu_if, if_pos ⟨rfl, rfl⟩, hb, if_neg (fun z => absurd z.1 (by decide))])
      rw [hb] at this
      exact this
  · ((first | apply b_X4_makeSteps_0 | apply b_X4_makeSteps_17 | apply b_X4_makeSteps_26 | apply b_X4_makeSteps_32); simp only [qa_sq, qi_ci, qi_cl, qi_iload, qi_lload, qi_aload, qi_istore, qi_lstore, qi_astore, qi_iinc, qi_iadd, qi_isub, qi_imul, qi_iand, qi_ior, qi_idiv, qi_irem, qi_ishr, qi_iushr, qi_ladd, qi_lsub, qi_lmul, qi_ldiv, qi_ineg, qi_lneg, qi_i2l, qi_l2i, qi_lcmp, qi_dup, qi_pop, qi_dup_x1, qi_dup2, qi_getI, qi_getJ, qi_getR, qi_putI, qi_putZ, qi_putJ, qi_putR, qi_iald, qi_lald, qi_zald, qi_aald, qi_iast, qi_last, qi_zast, qi_aast, qi_alen0, qi_alen1, qi_alen3, qi_choices, qi_chld, qi_sld, qi_slen, qe_if_eq, qe_if_ne, qe_if_lt, qe_if_ge, qe_if_gt, qe_if_le, qe_icmp_eq, qe_icmp_ne, qe_icmp_lt, qe_icmp_ge, qe_icmp_gt, qe_icmp_le, qa_get, qa_s1, qa_s2, va_rf, qk_y, qk_len, qk_n, qk_w, qa_cmp_lt, qa_cmp_eq, qa_cmp_gt, qa_cmp_ge, qa_cmp_le, Value.category, List.map_cons, List.map_nil, List.length_cons, List.length_nil, Option.toList, List.cons_append, List.nil_append, true_and, and_true, and_self, ite_true, ite_false, true_or, or_true, not_true_eq_false, not_false_eq_true, false_implies, true_implies, reduceIte, Nat.reduceEqDiff, List.sum_cons, List.sum_nil, Nat.reduceAdd, Nat.reduceLeDiff, Nat.le_refl, Nat.reduceMul, Nat.reduceLT, y_0, y_1, y_2, y_3, y_4, y_5, y_6, y_7, y_8, y_81, y_82, y_83, y_84, y_85, y_86, y_87, y_88, y_89, y_90, y_91, y_92, y_93, y_94, y_95, y_96, y_97, y_98, y_99, y_100, y_101, y_102, y_103, y_104, y_105, y_106, y_107, y_108, y_109, y_110, y_111, y_112, y_113, y_114, y_115, y_116, y_117, y_118, y_119, y_120, y_121, y_122, y_123, y_124, y_125, y_126, r_0_0, r_0_1, r_0_2, r_0_3, r_0_4, r_0_5, r_0_6, r_0_7, r_0_8, r_0_9, r_0_10, r_1_0, r_81_0, r_81_1, r_81_2, r_81_3, r_84_0, r_84_1, r_84_2, r_84_3, r_88_0, r_88_1, r_88_2, r_91_0, r_91_1, r_91_2, r_94_0, r_94_1, r_94_2, r_96_0, r_96_9, r_96_10, r_96_11, r_96_12, r_96_13, r_96_14, r_96_15, r_96_18, r_96_19, r_96_20, r_96_21, r_96_22, r_96_23, r_96_24, r_96_25, r_96_26, r_96_27, r_96_28, r_96_29, r_96_30, r_96_31, r_96_35, r_96_36, r_96_37, r_96_38, r_96_39, r_96_40, r_96_41, r_96_43, r_81_7, r_91_3])
    have h0 : ¬ (rk_b v = true ∧ 0 ≤ v) := fun z => h z.2
    refine h32 _ ?_ ?_ ?_ ?_
    · split
      · exact qf.u ⟨rfl, Or.inr rfl⟩
      · exact (qf.u ⟨rfl, Or.inr rfl⟩).pu ⟨rfl, Or.inr rfl⟩
    · rw [qu_if, if_neg (by omega)]
      split
      · exact c2'
      · rw [qu_if, if_neg (by omega)]; exact c2'
    · rw [qu_if, if_neg (by omega)]
      split
      · exact r1
      · rw [qu_if, if_neg (by omega)]; exact r1
    · rw [qu_if, if_pos ⟨rfl, rfl⟩, if_neg h0]
