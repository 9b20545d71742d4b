/-! ===== constructors: worlds that are the first k cells ===== -/
def qt (k : Nat) : qa_L := fun a => if a < k then qk_ly a else .inr (9, 0)
def tg (k w : Nat) (X : Nat × (Nat → Int32)) : qa_G := (k, w, qt k, X)
theorem tg_n {k w : Nat} {X : Nat × (Nat → Int32)} : (tg k w X).1 = k := rfl
theorem tg_w {k w : Nat} {X : Nat × (Nat → Int32)} : (tg k w X).2.1 = w := rfl
theorem tg_y {k w : Nat} {X : Nat × (Nat → Int32)} : (tg k w X).2.2.1 = qt k := rfl
theorem tg_x {k w : Nat} {X : Nat × (Nat → Int32)} : (tg k w X).2.2.2 = X := rfl
theorem tg_len {k w kd a : Nat} {X : Nat × (Nat → Int32)} : qa_len (tg k w X) kd a = match qt k a with | .inr (k, n) => if k = kd then n else 0 | _ => 0 := rfl
theorem qt_if {k a : Nat} : qt k a = if a < k then qk_ly a else .inr (9, 0) := rfl
theorem qt_lt {k a : Nat} (h : a < k) : qt k a = qk_ly a := by rw [qt_if, if_pos h]
theorem tg_g1 {k w w' : Nat} {X : Nat × (Nat → Int32)} {y : Nat ⊕ (Nat × Nat)} (h : qk_ly k = y) : qa_g1 (tg k w X) w' y = tg (k + 1) (w + w') X := by
  have e : (fun a => if a = k then y else qt k a) = qt (k + 1) := by
    funext a
    rw [qt_if, qt_if]
    by_cases h1 : a = k
    · rw [if_pos h1, if_pos (by omega), h1, h]
    · by_cases h2 : a < k
      · rw [if_neg h1, if_pos h2, if_pos (by omega)]
      · rw [if_neg h1, if_neg h2, if_neg (by omega)]
  show (k + 1, w + w', (fun a => if a = k then y else qt k a), X) = (k + 1, w + w', qt (k + 1), X)
  rw [e]
theorem qt_127 : qt 127 = qk_ly := by
  funext a
  rw [qt_if]
  by_cases h : a < 127
  · rw [if_pos h]
  · rw [if_neg h]
    unfold qk_ly
    rw [List.getD_eq_getElem?_getD, List.getElem?_eq_none (by show 127 ≤ a; omega)]
    rfl
theorem tg_127 {X : Nat × (Nat → Int32)} : tg 127 20173 X = qk_g X := by unfold tg qk_g; rw [qt_127]
/-- nothing stands from the cell n on -/
def fsh {α : Type} (z : α) (n : Nat) (f : Nat → Nat → α) : Prop := ∀ a k, n ≤ a → f a k = z
theorem fsh.z {α : Type} {z : α} {n m : Nat} {f : Nat → Nat → α} (h : fsh z n f) (hm : n ≤ m) : qa_z f m z = f := by
  funext a k
  unfold qa_z
  by_cases he : a = m
  · rw [if_pos he, h a k (by omega)]
  · rw [if_neg he]
theorem fsh.u {α : Type} {z : α} {n : Nat} {f : Nat → Nat → α} (h : fsh z n f) {a k : Nat} {v : α} (ha : a < n) : fsh z n (qa_u f a k v) := fun b j hb => by
  rw [qu_if, if_neg (by omega)]; exact h b j hb
theorem fsh.mono {α : Type} {z : α} {n m : Nat} {f : Nat → Nat → α} (h : fsh z n f) (hm : n ≤ m) : fsh z m f := fun a k ha => h a k (by omega)
def wvb (n : Nat) (v : Value) : Bool := match v with
  | .ref a => decide (a < n ∨ a = qa_CH ∨ a = qa_SC)
  | _ => true
theorem wvb_ok {n : Nat} {v : Value} (h : wvb n v = true) : qa_wv n v := by
  cases v <;> first | exact of_decide_eq_true h | trivial
theorem wf_of {n : Nat} {lo : qa_V} {st : List Value} (h1 : st.all (wvb n) = true) (h2 : lo.all (fun o => match o with | none => true | some v => wvb n v) = true) : qa_wf n lo st := by
  refine ⟨fun v hv => wvb_ok (List.all_eq_true.mp h1 v hv), fun v hv => wvb_ok ?_⟩
  exact List.all_eq_true.mp h2 (some v) hv
theorem c_init6 {d : Nat} {X : Nat × (Nat → Int32)} {I : qa_I} {J : qa_J} {R : qa_R} (hI : fsh 0 2 I) (hJ : fsh 0 2 J) (hR : fsh none 2 R) : qa_Call (d + 1) mX6_init [.ref 1] (3, 270) (tg 2 14 X) I J R (fun r g' I' J' R' => r = none ∧ g' = tg 3 270 X ∧ I' = I ∧ J' = J ∧ R' = qa_u R 1 0 (some 2)) := by
  refine qa_call_of (lo := [some (.ref 1)]) ok_mX6_init rfl (Nat.le_of_ble_eq_true rfl) ⟨by show 2 ≤ 3; decide, by show 14 ≤ 270; decide⟩ ?_
  ((first | apply b_X6_init_0 | apply b_X6_init_4 | apply b_X6_init_10); simp only [qa_sq, qi_ci, qi_cl, qi_iload, qi_lload, qi_aload, qi_istore, qi_lstore, qi_astore, qi_iinc, qi_iadd, qi_isub, qi_imul, qi_iand, qi_ior, qi_idiv, qi_irem, qi_ishr, qi_iushr, qi_ladd, qi_lsub, qi_lmul, qi_ldiv, qi_ineg, qi_lneg, qi_i2l, qi_l2i, qi_lcmp, qi_dup, qi_pop, qi_dup_x1, qi_dup2, qi_getI, qi_getJ, qi_getR, qi_putI, qi_putZ, qi_putJ, qi_putR, qi_iald, qi_lald, qi_zald, qi_aald, qi_iast, qi_last, qi_zast, qi_aast, qi_alen0, qi_alen1, qi_alen3, qi_choices, qi_chld, qi_sld, qi_slen, qe_if_eq, qe_if_ne, qe_if_lt, qe_if_ge, qe_if_gt, qe_if_le, qe_icmp_eq, qe_icmp_ne, qe_icmp_lt, qe_icmp_ge, qe_icmp_gt, qe_icmp_le, qa_get, qa_s1, qa_s2, va_rf, qk_y, qk_len, qk_n, qk_w, qa_cmp_lt, qa_cmp_eq, qa_cmp_gt, qa_cmp_ge, qa_cmp_le, Value.category, List.map_cons, List.map_nil, List.length_cons, List.length_nil, Option.toList, List.cons_append, List.nil_append, true_and, and_true, and_self, ite_true, ite_false, true_or, or_true, not_true_eq_false, not_false_eq_true, false_implies, true_implies, reduceIte, Nat.reduceEqDiff, List.sum_cons, List.sum_nil, Nat.reduceAdd, Nat.reduceLeDiff, Nat.le_refl, Nat.reduceMul, Nat.reduceLT, y_0, y_1, y_2, y_3, y_4, y_5, y_6, y_7, y_8, y_81, y_82, y_83, y_84, y_85, y_86, y_87, y_88, y_89, y_90, y_91, y_92, y_93, y_94, y_95, y_96, y_97, y_98, y_99, y_100, y_101, y_102, y_103, y_104, y_105, y_106, y_107, y_108, y_109, y_110, y_111, y_112, y_113, y_114, y_115, y_116, y_117, y_118, y_119, y_120, y_121, y_122, y_123, y_124, y_125, y_126, r_0_0, r_0_1, r_0_2, r_0_3, r_0_4, r_0_5, r_0_6, r_0_7, r_0_8, r_0_9, r_0_10, r_1_0, r_81_0, r_81_1, r_81_2, r_81_3, r_84_0, r_84_1, r_84_2, r_84_3, r_88_0, r_88_1, r_88_2, r_91_0, r_91_1, r_91_2, r_94_0, r_94_1, r_94_2, r_96_0, r_96_9, r_96_10, r_96_11, r_96_12, r_96_13, r_96_14, r_96_15, r_96_18, r_96_19, r_96_20, r_96_21, r_96_22, r_96_23, r_96_24, r_96_25, r_96_26, r_96_27, r_96_28, r_96_29, r_96_30, r_96_31, r_96_35, r_96_36, r_96_37, r_96_38, r_96_39, r_96_40, r_96_41, r_96_43, r_81_7, r_91_3, tg_n, tg_w, tg_y, tg_len])
  ((first | apply b_X6_init_0 | apply b_X6_init_4 | apply b_X6_init_10); simp only [qa_sq, qi_ci, qi_cl, qi_iload, qi_lload, qi_aload, qi_istore, qi_lstore, qi_astore, qi_iinc, qi_iadd, qi_isub, qi_imul, qi_iand, qi_ior, qi_idiv, qi_irem, qi_ishr, qi_iushr, qi_ladd, qi_lsub, qi_lmul, qi_ldiv, qi_ineg, qi_lneg, qi_i2l, qi_l2i, qi_lcmp, qi_dup, qi_pop, qi_dup_x1, qi_dup2, qi_getI, qi_getJ, qi_getR, qi_putI, qi_putZ, qi_putJ, qi_putR, qi_iald, qi_lald, qi_zald, qi_aald, qi_iast, qi_last, qi_zast, qi_aast, qi_alen0, qi_alen1, qi_alen3, qi_choices, qi_chld, qi_sld, qi_slen, qe_if_eq, qe_if_ne, qe_if_lt, qe_if_ge, qe_if_gt, qe_if_le, qe_icmp_eq, qe_icmp_ne, qe_icmp_lt, qe_icmp_ge, qe_icmp_gt, qe_icmp_le, qa_get, qa_s1, qa_s2, va_rf, qk_y, qk_len, qk_n, qk_w, qa_cmp_lt, qa_cmp_eq, qa_cmp_gt, qa_cmp_ge, qa_cmp_le, Value.category, List.map_cons, List.map_nil, List.length_cons, List.length_nil, Option.toList, List.cons_append, List.nil_append, true_and, and_true, and_self, ite_true, ite_false, true_or, or_true, not_true_eq_false, not_false_eq_true, false_implies, true_implies, reduceIte, Nat.reduceEqDiff, List.sum_cons, List.sum_nil, Nat.reduceAdd, Nat.reduceLeDiff, Nat.le_refl, Nat.reduceMul, Nat.reduceLT, y_0, y_1, y_2, y_3, y_4, y_5, y_6, y_7, y_8, y_81, y_82, y_83, y_84, y_85, y_86, y_87, y_88, y_89, y_90, y_91, y_92, y_93, y_94, y_95, y_96, y_97, y_98, y_99, y_100, y_101, y_102, y_103, y_104, y_105, y_106, y_107, y_108, y_109, y_110, y_111, y_112, y_113, y_114, y_115, y_116, y_117, y_118, y_119, y_120, y_121, y_122, y_123, y_124, y_125, y_126, r_0_0, r_0_1, r_0_2, r_0_3, r_0_4, r_0_5, r_0_6, r_0_7, r_0_8, r_0_9, r_0_10, r_1_0, r_81_0, r_81_1, r_81_2, r_81_3, r_84_0, r_84_1, r_84_2, r_84_3, r_88_0, r_88_1, r_88_2, r_91_0, r_91_1, r_91_2, r_94_0, r_94_1, r_94_2, r_96_0, r_96_9, r_96_10, r_96_11, r_96_12, r_96_13, r_96_14, r_96_15, r_96_18, r_96_19, r_96_20, r_96_21, r_96_22, r_96_23, r_96_24, r_96_25, r_96_26, r_96_27, r_96_28, r_96_29, r_96_30, r_96_31, r_96_35, r_96_36, r_96_37, r_96_38, r_96_39, r_96_40, r_96_41, r_96_43, r_81_7, r_91_3, tg_n, tg_w, tg_y, tg_len])
  refine ⟨⟨by decide, by decide, by decide, by decide, wf_of rfl rfl⟩, ?_⟩
  sorry
