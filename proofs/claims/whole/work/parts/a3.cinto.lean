/-! ===== the component reads a text ===== -/
theorem stmt_for {T : Nat → Int32} {n : Nat} {nm : Nat → Int32} {deep held q : Nat} (h1 : (sp_stmt T n nm deep held q).1 = false) (h2 : (sp_stmt T n nm deep held q).2.2.1 = 2) : ¬ deep = 4 ∧ (105 ≤ (sp_stmt T n nm deep held q).2.2.2.1 ∧ (sp_stmt T n nm deep held q).2.2.2.1 ≤ 109) ∧ ¬ sp_any nm deep (sp_stmt T n nm deep held q).2.2.2.1 = true := by
  by_cases hL : 119 ≤ tk_l T n q ∧ tk_l T n q ≤ 122
  · rw [sp_stmt, if_pos hL] at h2
    split at h2
    · exact absurd (show (0 : Int32) = 2 from h2) (by decide)
    · exact absurd (show (1 : Int32) = 2 from h2) (by decide)
  · by_cases h3 : tk_K T n q = 3
    · rw [st_F h3] at h1 h2 ⊢
      unfold sp_stF at h1 ⊢
      by_cases hd : deep = 4
      · rw [if_pos hd] at h1; cases h1
      · rw [if_neg hd] at h1 ⊢
        by_cases hw : ¬ (105 ≤ tk_l T n (tk_N T n q) ∧ tk_l T n (tk_N T n q) ≤ 109) ∨ sp_any nm deep (tk_l T n (tk_N T n q)) = true
        · rw [if_pos hw] at h1; cases h1
        · rw [if_neg hw]
          exact ⟨hd, Classical.byContradiction (fun z => hw (Or.inl z)), fun z => hw (Or.inr z)⟩
    · by_cases h4 : tk_K T n q = 4
      · rw [st_R h4, stR_ty] at h2
        exact absurd h2 (by decide)
      · rw [sp_stmt, if_neg hL, if_neg h3, if_neg h4] at h1
        cases h1
theorem stmt_run {T : Nat → Int32} {n : Nat} {nm : Nat → Int32} {deep held q : Nat} (hh : held < 2 ^ 31) (h1 : (sp_stmt T n nm deep held q).1 = false) (h3 : (sp_stmt T n nm deep held q).2.2.1 = 3) : ∃ k, k < held ∧ (sp_stmt T n nm deep held q).2.2.2.1 = nI k := by
  by_cases hL : 119 ≤ tk_l T n q ∧ tk_l T n q ≤ 122
  · rw [sp_stmt, if_pos hL] at h3
    split at h3
    · exact absurd (show (0 : Int32) = 3 from h3) (by decide)
    · exact absurd (show (1 : Int32) = 3 from h3) (by decide)
  · by_cases hK3 : tk_K T n q = 3
    · rw [st_F hK3, stF_ty] at h3
      exact absurd h3 (by decide)
    · by_cases h4 : tk_K T n q = 4
      · rw [st_R h4] at h1 ⊢
        unfold sp_stR at h1 ⊢
        by_cases hw : ¬ tk_K T n (tk_N T n q) = 2 ∨ ¬ tk_V T n (tk_N T n q) < nI held
        · rw [if_pos hw] at h1; cases h1
        · rw [if_neg hw]
          have y1 : tk_K T n (tk_N T n q) = 2 := Classical.byContradiction (fun z => hw (Or.inl z))
          have y2 : tk_V T n (tk_N T n q) < nI held := Classical.byContradiction (fun z => hw (Or.inr z))
          exact nI_ofk hh (Int32.le_iff_toInt_le.mpr (tk_V_bd y1).1) y2
      · rw [sp_stmt, if_neg hL, if_neg hK3, if_neg h4] at h1
        cases h1
theorem nm_ok_up {nm : Nat → Int32} {deep : Nat} {c : Int32} (h : nm_ok nm deep) (hc : 105 ≤ c ∧ c ≤ 109) (hn : ¬ sp_any nm deep c = true) : nm_ok (va_up nm deep c) (deep + 1) := by
  intro d hd
  by_cases hz : d = deep
  · subst hz
    rw [up_at]
    refine ⟨nx_of hc, fun d' hd' he => hn ?_⟩
    rw [up_ne (by omega)] at he
    unfold sp_any
    rw [List.any_eq_true]
    exact ⟨d', List.mem_range.mpr hd', decide_eq_true he⟩
  · rw [up_ne hz]
    obtain ⟨a1, a2⟩ := h d (by omega)
    refine ⟨a1, fun d' hd' => ?_⟩
    rw [up_ne (by omega)]
    exact a2 d' hd'
/-- the rows that the component has kept -/
def ctb (p : Nat) (t : pTab) (many : Nat) (op : Nat → Prop) (I : qa_I) (J : qa_J) : Prop := ∀ s, s < many → s < 40 → I (9 + 8 * p + 1) s = pt_ty t s ∧ (¬ pt_ty t s = 2 → I (9 + 8 * p + 2) s = pt_wh t s) ∧ I (9 + 8 * p + 3) s = nI (pt_dp t s) ∧ (¬ op s → I (9 + 8 * p + 4) s = nI (pt_en t s)) ∧ (¬ pt_ty t s = 0 → ∀ k, k < 7 → J (9 + 8 * p + 5) (7 * s + k) = dl (pt_l1 t s) (pt_nm t s) (pt_dp t s) k) ∧ ((pt_ty t s = 2 ∨ pt_ty t s = 3) → ∀ k, k < 7 → J (9 + 8 * p + 6) (7 * s + k) = dl (pt_l2 t s) (pt_nm t s) (pt_dp t s) k)
def czr (p many : Nat) (J : qa_J) : Prop := ∀ s, many ≤ s → s < 40 → ∀ k, k < 7 → J (9 + 8 * p + 5) (7 * s + k) = 0 ∧ J (9 + 8 * p + 6) (7 * s + k) = 0
theorem ctb.put {p : Nat} {t : pTab} {many deep : Nat} {op op' : Nat → Prop} {ty wh : Int32} {nm l1 l2 : Nat → Int32} {I I' : qa_I} {J J' : qa_J} (h : ctb p t many op I J) (hp : p < 9) (hf : qf (sI p many deep) I I') (hj : qj (sJ p many) J J') (hr : many < 40 → crow p many ty wh (many + 1) deep nm l1 l2 I' J') (ho : ∀ s, s < many → ¬ op' s → ¬ op s) : ctb p (va_up t.1 many ty, va_up t.2.1 many wh, va_up t.2.2.1 many deep, va_up t.2.2.2.1 many (many + 1), va_up t.2.2.2.2.1 many l1, va_up t.2.2.2.2.2.1 many l2, va_up t.2.2.2.2.2.2 many nm) (many + 1) op' I' J' := by
  intro s hs h40
  by_cases hz : s = many
  · subst hz
    obtain ⟨a1, a2, a3, a4, a5, a6⟩ := hr h40
    simp only [pt_ty, pt_wh, pt_dp, pt_en, pt_l1, pt_l2, pt_nm, up_at]
    exact ⟨a1, a2, a3, fun _ => a4, a5, a6⟩
  · obtain ⟨a1, a2, a3, a4, a5, a6⟩ := h s (by omega) h40
    simp only [pt_ty, pt_wh, pt_dp, pt_en, pt_l1, pt_l2, pt_nm, up_ne hz]
    refine ⟨?_, fun z => ?_, ?_, fun z => ?_, fun z k hk => ?_, fun z k hk => ?_⟩
    · rw [hf _ _ (by unfold sI; omega)]; exact a1
    · rw [hf _ _ (by unfold sI; omega)]; exact a2 z
    · rw [hf _ _ (by unfold sI; omega)]; exact a3
    · rw [hf _ _ (by unfold sI; omega)]; exact a4 (ho s (by omega) z)
    · rw [hj _ _ (by unfold sJ; omega)]; exact a5 z k hk
    · rw [hj _ _ (by unfold sJ; omega)]; exact a6 z k hk
theorem ctb.close {p : Nat} {t : pTab} {many s0 : Nat} {op op' : Nat → Prop} {I I' : qa_I} {J : qa_J} (h : ctb p t many op I J) (hp : p < 9) (hf : qf (clI p s0) I I') (hr : s0 < 40 → I' (9 + 8 * p + 4) s0 = nI many) (ho : ∀ s, ¬ s = s0 → ¬ op' s → ¬ op s) : ctb p (t.1, t.2.1, t.2.2.1, va_up t.2.2.2.1 s0 many, t.2.2.2.2) many op' I' J := by
  intro s hs h40
  obtain ⟨a1, a2, a3, a4, a5, a6⟩ := h s hs h40
  refine ⟨?_, fun z => ?_, ?_, fun z => ?_, a5, a6⟩
  · rw [hf _ _ (by unfold clI; omega)]; exact a1
  · rw [hf _ _ (by unfold clI; omega)]; exact a2 z
  · rw [hf _ _ (by unfold clI; omega)]; exact a3
  · by_cases hz : s = s0
    · subst hz
      rw [hr h40]
      show nI many = nI (va_up t.2.2.2.1 s many s)
      rw [up_at]
    · rw [hf _ _ (by unfold clI; omega), a4 (ho s hz z)]
      show nI (t.2.2.2.1 s) = nI (va_up t.2.2.2.1 s0 many s)
      rw [up_ne hz]
theorem sp_dg_congr {ty ty' : Nat → Int32} {dp dp' pw pw' degs : Nat → Nat} : ∀ m, (∀ s, s < m → ty s = ty' s ∧ dp s = dp' s ∧ pw s = pw' s) → sp_dg ty dp pw degs m = sp_dg ty' dp' pw' degs m := by
  intro m
  induction m with
  | zero => intro _; rfl
  | succ m ih =>
    intro h
    obtain ⟨h1, h2, h3⟩ := h m (by omega)
    rw [sp_dg, sp_dg, ih (fun s hs => h s (by omega)), h1, h2, h3]
theorem sp_degree_put {degs : Nat → Nat} {t : pTab} {many deep : Nat} {R : Bool × Nat × Int32 × Int32 × (Nat → Int32) × (Nat → Int32)} {nm : Nat → Int32} : sp_degree degs (va_up t.1 many R.2.2.1, va_up t.2.1 many R.2.2.2.1, va_up t.2.2.1 many deep, va_up t.2.2.2.1 many (many + 1), va_up t.2.2.2.2.1 many R.2.2.2.2.1, va_up t.2.2.2.2.2.1 many R.2.2.2.2.2, va_up t.2.2.2.2.2.2 many nm) (many + 1) = max (sp_degree degs t many) (deep + dga degs R) := by
  unfold sp_degree
  rw [sp_dg]
  simp only [up_at]
  rw [sp_dg_congr (ty' := t.1) (dp' := t.2.2.1) (pw' := fun s => (t.2.1 s).toNatClampNeg) many (fun s hs => ?_)]
  · rfl
  · refine ⟨?_, ?_, ?_⟩ <;> simp only [up_ne (show ¬ s = many by omega)]
def rdI (p a k : Nat) : Prop := (81 ≤ a ∧ a ≤ 87 ∧ ¬ (a = 81 ∧ 6 ≤ k)) ∨ (9 + 8 * p ≤ a ∧ a ≤ 9 + 8 * p + 4 ∧ (a = 9 + 8 * p → k = 0 ∨ k = 7))
def rdJ (p a k : Nat) : Prop := a = 9 + 8 * p + 5 ∨ a = 9 + 8 * p + 6
theorem sI_rd {p many deep : Nat} : ∀ a k, sI p many deep a k → rdI p a k := fun a k z => by unfold sI at z; unfold rdI; omega
theorem cl_rd {p s : Nat} : ∀ a k, clI p s a k → rdI p a k := fun a k z => by unfold clI at z; unfold rdI; omega
theorem sJ_rd {p many : Nat} : ∀ a k, sJ p many a k → rdJ p a k := fun a k z => by unfold sJ at z; unfold rdJ; omega
theorem tq_mono (T : Nat → Int32) (n : Nat) {i : Nat} : ∀ k, tq T n i ≤ tq T n (i + k) := by
  intro k
  induction k with
  | zero => exact Nat.le_refl _
  | succ k ih => exact Nat.le_trans ih (tk_N_ge T n _)
/-- what a text leaves -/
def ri_post (T : Nat → Int32) (n p : Nat) (degs : Nat → Nat) (r : Bool × Nat × Nat × pTab) (I : qa_I) (J : qa_J) (I' : qa_I) (J' : qa_J) : Prop := qf (rdI p) I I' ∧ qj (rdJ p) J J' ∧ r.2.1 ≤ 256 ∧ I' 81 5 = (if r.1 = true then -10 - nI r.2.1 else 0) ∧ (r.1 = false → I' (9 + 8 * p) 0 = nI r.2.2.1 ∧ r.2.2.1 ≤ 128 ∧ I' (9 + 8 * p) 7 = nI (sp_degree degs r.2.2.2 r.2.2.1) ∧ ctb p r.2.2.2 r.2.2.1 (fun _ => False) I' J')
theorem l_cread {d : Nat} {X : Nat × (Nat → Int32)} {t2 : Nat} {I : qa_I} {J : qa_J} {T : Nat → Int32} {n p : Nat} (hp : p < 9) {degs : Nat → Nat} {Q : qa_Q} : ∀ (f q deep many : Nat) (nm : Nat → Int32) (ar : Nat → Nat) (t : pTab) (times : Nat) (I1 : qa_I) (J1 : qa_J), n < q + f → (∀ i, i < times → tq T n i < q) → qf (rdI p) I I1 → qj (rdJ p) J J1 → cr2 T n (false, q) I1 → cnm nm ar deep I1 → nm_ok nm deep → 2 * many ≤ q → (∀ d, d < deep → ar d < many) → chd p degs I1 → I1 (9 + 8 * p) 0 = nI many → sp_degree degs t many ≤ 104 → I1 (9 + 8 * p) 7 = nI (sp_degree degs t many) → czr p many J1 → ctb p t many (fun s => ∃ d, d < deep ∧ ar d = s) I1 J1 →
    (∀ I' J' x2 x3, ri_post T n p degs (sp_read T n p f q deep many nm ar t) I J I' J' → qa_WP (d + 6) mX3_readInto qk_b 76 [some (.ref 81), some (.int (nI p)), x2, x3] [] (qk_g X) I' J' (qk_R (9 + 8 * p) t2) Q) →
    qa_WP (d + 6) mX3_readInto qk_b 43 [some (.ref 81), some (.int (nI p)), some (.int 1), some (.int (nI times))] [] (qk_g X) I1 J1 (qk_R (9 + 8 * p) t2) Q := by
  intro f
  induction f with
  | zero =>
    intro q deep many nm ar t times I1 J1 hlt htm hf hj h
    obtain ⟨⟨hn, m, i, -, -, -, hq⟩, -⟩ := h.q
    have := tq_hi T n i
    omega
  | succ f ih =>
    intro q deep many nm ar t times I1 J1 hlt htm hf hj h hn hok h2 har hh h0 hg h7 hzr ht hk
    have hd4 := hn.1
    obtain ⟨c1, c2⟩ := h.q
    obtain ⟨hn256, m, i, ⟨b1, b2, b3, b4⟩, him, hi5, hqi⟩ := id c1
    have hqn := tq_hi T n i
    have hti : times ≤ i := Nat.le_of_not_lt (fun z => by have := htm i z; omega)
    have hti2 : tq T n times ≤ q := by
      have := tq_mono T n (i := times) (i - times)
      rw [show times + (i - times) = i by omega] at this
      omega
    have hm128 : many ≤ 128 := by omega
    have hcz : cpz p many (sp_degree degs t many) I1 J1 := ⟨hp, by omega, by omega, h0, h7, fun h40 k hk => hzr many (Nat.le_refl _) h40 k hk⟩
    rw [sp_read] at hk
    ((first | apply b_X3_readInto_0 | apply b_X3_readInto_22 | apply b_X3_readInto_39 | apply b_X3_readInto_43 | apply b_X3_readInto_47 | apply b_X3_readInto_54 | apply b_X3_readInto_65 | apply b_X3_readInto_69 | apply b_X3_readInto_76); simp only [qa_sq, qi_ci, qi_cl, qi_iload, qi_lload, qi_aload, qi_istore, qi_lstore, qi_astore, qi_iinc, qi_iadd, qi_isub, qi_imul, qi_iand, qi_ior, qi_idiv, qi_irem, qi_ishr, qi_iushr, qi_ladd, qi_lsub, qi_lmul, qi_ldiv, qi_ineg, qi_lneg, qi_i2l, qi_l2i, qi_lcmp, qi_dup, qi_pop, qi_dup_x1, qi_dup2, qi_getI, qi_getJ, qi_getR, qi_putI, qi_putZ, qi_putJ, qi_putR, qi_iald, qi_lald, qi_zald, qi_aald, qi_iast, qi_last, qi_zast, qi_aast, qi_alen0, qi_alen1, qi_alen3, qi_choices, qi_chld, qi_sld, qi_slen, qe_if_eq, qe_if_ne, qe_if_lt, qe_if_ge, qe_if_gt, qe_if_le, qe_icmp_eq, qe_icmp_ne, qe_icmp_lt, qe_icmp_ge, qe_icmp_gt, qe_icmp_le, qa_get, qa_s1, qa_s2, va_rf, qk_y, qk_len, qk_n, qk_w, qa_cmp_lt, qa_cmp_eq, qa_cmp_gt, qa_cmp_ge, qa_cmp_le, Value.category, List.map_cons, List.map_nil, List.length_cons, List.length_nil, Option.toList, List.cons_append, List.nil_append, true_and, and_true, and_self, ite_true, ite_false, true_or, or_true, not_true_eq_false, not_false_eq_true, false_implies, true_implies, reduceIte, Nat.reduceEqDiff, List.sum_cons, List.sum_nil, Nat.reduceAdd, Nat.reduceLeDiff, Nat.le_refl, Nat.reduceMul, Nat.reduceLT, y_0, y_1, y_2, y_3, y_4, y_5, y_6, y_7, y_8, y_81, y_82, y_83, y_84, y_85, y_86, y_87, y_88, y_89, y_90, y_91, y_92, y_93, y_94, y_95, y_96, y_97, y_98, y_99, y_100, y_101, y_102, y_103, y_104, y_105, y_106, y_107, y_108, y_109, y_110, y_111, y_112, y_113, y_114, y_115, y_116, y_117, y_118, y_119, y_120, y_121, y_122, y_123, y_124, y_125, y_126, r_0_0, r_0_1, r_0_2, r_0_3, r_0_4, r_0_5, r_0_6, r_0_7, r_0_8, r_0_9, r_0_10, r_1_0, r_81_0, r_81_1, r_81_2, r_81_3, r_84_0, r_84_1, r_84_2, r_84_3, r_88_0, r_88_1, r_88_2, r_91_0, r_91_1, r_91_2, r_94_0, r_94_1, r_94_2, r_96_0, r_96_9, r_96_10, r_96_11, r_96_12, r_96_13, r_96_14, r_96_15, r_96_18, r_96_19, r_96_20, r_96_21, r_96_22, r_96_23, r_96_24, r_96_25, r_96_26, r_96_27, r_96_28, r_96_29, r_96_30, r_96_31, r_96_35, r_96_36, r_96_37, r_96_38, r_96_39, r_96_40, r_96_41, r_96_43, r_81_7, r_91_3])
    refine ⟨fun z => absurd z (by decide), fun _ => ?_⟩
    ((first | apply b_X3_readInto_0 | apply b_X3_readInto_22 | apply b_X3_readInto_39 | apply b_X3_readInto_43 | apply b_X3_readInto_47 | apply b_X3_readInto_54 | apply b_X3_readInto_65 | apply b_X3_readInto_69 | apply b_X3_readInto_76); simp only [qa_sq, qi_ci, qi_cl, qi_iload, qi_lload, qi_aload, qi_istore, qi_lstore, qi_astore, qi_iinc, qi_iadd, qi_isub, qi_imul, qi_iand, qi_ior, qi_idiv, qi_irem, qi_ishr, qi_iushr, qi_ladd, qi_lsub, qi_lmul, qi_ldiv, qi_ineg, qi_lneg, qi_i2l, qi_l2i, qi_lcmp, qi_dup, qi_pop, qi_dup_x1, qi_dup2, qi_getI, qi_getJ, qi_getR, qi_putI, qi_putZ, qi_putJ, qi_putR, qi_iald, qi_lald, qi_zald, qi_aald, qi_iast, qi_last, qi_zast, qi_aast, qi_alen0, qi_alen1, qi_alen3, qi_choices, qi_chld, qi_sld, qi_slen, qe_if_eq, qe_if_ne, qe_if_lt, qe_if_ge, qe_if_gt, qe_if_le, qe_icmp_eq, qe_icmp_ne, qe_icmp_lt, qe_icmp_ge, qe_icmp_gt, qe_icmp_le, qa_get, qa_s1, qa_s2, va_rf, qk_y, qk_len, qk_n, qk_w, qa_cmp_lt, qa_cmp_eq, qa_cmp_gt, qa_cmp_ge, qa_cmp_le, Value.category, List.map_cons, List.map_nil, List.length_cons, List.length_nil, Option.toList, List.cons_append, List.nil_append, true_and, and_true, and_self, ite_true, ite_false, true_or, or_true, not_true_eq_false, not_false_eq_true, false_implies, true_implies, reduceIte, Nat.reduceEqDiff, List.sum_cons, List.sum_nil, Nat.reduceAdd, Nat.reduceLeDiff, Nat.le_refl, Nat.reduceMul, Nat.reduceLT, y_0, y_1, y_2, y_3, y_4, y_5, y_6, y_7, y_8, y_81, y_82, y_83, y_84, y_85, y_86, y_87, y_88, y_89, y_90, y_91, y_92, y_93, y_94, y_95, y_96, y_97, y_98, y_99, y_100, y_101, y_102, y_103, y_104, y_105, y_106, y_107, y_108, y_109, y_110, y_111, y_112, y_113, y_114, y_115, y_116, y_117, y_118, y_119, y_120, y_121, y_122, y_123, y_124, y_125, y_126, r_0_0, r_0_1, r_0_2, r_0_3, r_0_4, r_0_5, r_0_6, r_0_7, r_0_8, r_0_9, r_0_10, r_1_0, r_81_0, r_81_1, r_81_2, r_81_3, r_84_0, r_84_1, r_84_2, r_84_3, r_88_0, r_88_1, r_88_2, r_91_0, r_91_1, r_91_2, r_94_0, r_94_1, r_94_2, r_96_0, r_96_9, r_96_10, r_96_11, r_96_12, r_96_13, r_96_14, r_96_15, r_96_18, r_96_19, r_96_20, r_96_21, r_96_22, r_96_23, r_96_24, r_96_25, r_96_26, r_96_27, r_96_28, r_96_29, r_96_30, r_96_31, r_96_35, r_96_36, r_96_37, r_96_38, r_96_39, r_96_40, r_96_41, r_96_43, r_81_7, r_91_3, c2])
    ((first | apply b_X3_readInto_0 | apply b_X3_readInto_22 | apply b_X3_readInto_39 | apply b_X3_readInto_43 | apply b_X3_readInto_47 | apply b_X3_readInto_54 | apply b_X3_readInto_65 | apply b_X3_readInto_69 | apply b_X3_readInto_76); simp only [qa_sq, qi_ci, qi_cl, qi_iload, qi_lload, qi_aload, qi_istore, qi_lstore, qi_astore, qi_iinc, qi_iadd, qi_isub, qi_imul, qi_iand, qi_ior, qi_idiv, qi_irem, qi_ishr, qi_iushr, qi_ladd, qi_lsub, qi_lmul, qi_ldiv, qi_ineg, qi_lneg, qi_i2l, qi_l2i, qi_lcmp, qi_dup, qi_pop, qi_dup_x1, qi_dup2, qi_getI, qi_getJ, qi_getR, qi_putI, qi_putZ, qi_putJ, qi_putR, qi_iald, qi_lald, qi_zald, qi_aald, qi_iast, qi_last, qi_zast, qi_aast, qi_alen0, qi_alen1, qi_alen3, qi_choices, qi_chld, qi_sld, qi_slen, qe_if_eq, qe_if_ne, qe_if_lt, qe_if_ge, qe_if_gt, qe_if_le, qe_icmp_eq, qe_icmp_ne, qe_icmp_lt, qe_icmp_ge, qe_icmp_gt, qe_icmp_le, qa_get, qa_s1, qa_s2, va_rf, qk_y, qk_len, qk_n, qk_w, qa_cmp_lt, qa_cmp_eq, qa_cmp_gt, qa_cmp_ge, qa_cmp_le, Value.category, List.map_cons, List.map_nil, List.length_cons, List.length_nil, Option.toList, List.cons_append, List.nil_append, true_and, and_true, and_self, ite_true, ite_false, true_or, or_true, not_true_eq_false, not_false_eq_true, false_implies, true_implies, reduceIte, Nat.reduceEqDiff, List.sum_cons, List.sum_nil, Nat.reduceAdd, Nat.reduceLeDiff, Nat.le_refl, Nat.reduceMul, Nat.reduceLT, y_0, y_1, y_2, y_3, y_4, y_5, y_6, y_7, y_8, y_81, y_82, y_83, y_84, y_85, y_86, y_87, y_88, y_89, y_90, y_91, y_92, y_93, y_94, y_95, y_96, y_97, y_98, y_99, y_100, y_101, y_102, y_103, y_104, y_105, y_106, y_107, y_108, y_109, y_110, y_111, y_112, y_113, y_114, y_115, y_116, y_117, y_118, y_119, y_120, y_121, y_122, y_123, y_124, y_125, y_126, r_0_0, r_0_1, r_0_2, r_0_3, r_0_4, r_0_5, r_0_6, r_0_7, r_0_8, r_0_9, r_0_10, r_1_0, r_81_0, r_81_1, r_81_2, r_81_3, r_84_0, r_84_1, r_84_2, r_84_3, r_88_0, r_88_1, r_88_2, r_91_0, r_91_1, r_91_2, r_94_0, r_94_1, r_94_2, r_96_0, r_96_9, r_96_10, r_96_11, r_96_12, r_96_13, r_96_14, r_96_15, r_96_18, r_96_19, r_96_20, r_96_21, r_96_22, r_96_23, r_96_24, r_96_25, r_96_26, r_96_27, r_96_28, r_96_29, r_96_30, r_96_31, r_96_35, r_96_36, r_96_37, r_96_38, r_96_39, r_96_40, r_96_41, r_96_43, r_81_7, r_91_3, b3])
    refine ⟨fun z => absurd ((nI_leI (by omega) (by omega)).mp z) (by omega), fun _ => ?_⟩
    ((first | apply b_X3_readInto_0 | apply b_X3_readInto_22 | apply b_X3_readInto_39 | apply b_X3_readInto_43 | apply b_X3_readInto_47 | apply b_X3_readInto_54 | apply b_X3_readInto_65 | apply b_X3_readInto_69 | apply b_X3_readInto_76); simp only [qa_sq, qi_ci, qi_cl, qi_iload, qi_lload, qi_aload, qi_istore, qi_lstore, qi_astore, qi_iinc, qi_iadd, qi_isub, qi_imul, qi_iand, qi_ior, qi_idiv, qi_irem, qi_ishr, qi_iushr, qi_ladd, qi_lsub, qi_lmul, qi_ldiv, qi_ineg, qi_lneg, qi_i2l, qi_l2i, qi_lcmp, qi_dup, qi_pop, qi_dup_x1, qi_dup2, qi_getI, qi_getJ, qi_getR, qi_putI, qi_putZ, qi_putJ, qi_putR, qi_iald, qi_lald, qi_zald, qi_aald, qi_iast, qi_last, qi_zast, qi_aast, qi_alen0, qi_alen1, qi_alen3, qi_choices, qi_chld, qi_sld, qi_slen, qe_if_eq, qe_if_ne, qe_if_lt, qe_if_ge, qe_if_gt, qe_if_le, qe_icmp_eq, qe_icmp_ne, qe_icmp_lt, qe_icmp_ge, qe_icmp_gt, qe_icmp_le, qa_get, qa_s1, qa_s2, va_rf, qk_y, qk_len, qk_n, qk_w, qa_cmp_lt, qa_cmp_eq, qa_cmp_gt, qa_cmp_ge, qa_cmp_le, Value.category, List.map_cons, List.map_nil, List.length_cons, List.length_nil, Option.toList, List.cons_append, List.nil_append, true_and, and_true, and_self, ite_true, ite_false, true_or, or_true, not_true_eq_false, not_false_eq_true, false_implies, true_implies, reduceIte, Nat.reduceEqDiff, List.sum_cons, List.sum_nil, Nat.reduceAdd, Nat.reduceLeDiff, Nat.le_refl, Nat.reduceMul, Nat.reduceLT, y_0, y_1, y_2, y_3, y_4, y_5, y_6, y_7, y_8, y_81, y_82, y_83, y_84, y_85, y_86, y_87, y_88, y_89, y_90, y_91, y_92, y_93, y_94, y_95, y_96, y_97, y_98, y_99, y_100, y_101, y_102, y_103, y_104, y_105, y_106, y_107, y_108, y_109, y_110, y_111, y_112, y_113, y_114, y_115, y_116, y_117, y_118, y_119, y_120, y_121, y_122, y_123, y_124, y_125, y_126, r_0_0, r_0_1, r_0_2, r_0_3, r_0_4, r_0_5, r_0_6, r_0_7, r_0_8, r_0_9, r_0_10, r_1_0, r_81_0, r_81_1, r_81_2, r_81_3, r_84_0, r_84_1, r_84_2, r_84_3, r_88_0, r_88_1, r_88_2, r_91_0, r_91_1, r_91_2, r_94_0, r_94_1, r_94_2, r_96_0, r_96_9, r_96_10, r_96_11, r_96_12, r_96_13, r_96_14, r_96_15, r_96_18, r_96_19, r_96_20, r_96_21, r_96_22, r_96_23, r_96_24, r_96_25, r_96_26, r_96_27, r_96_28, r_96_29, r_96_30, r_96_31, r_96_35, r_96_36, r_96_37, r_96_38, r_96_39, r_96_40, r_96_41, r_96_43, r_81_7, r_91_3])
    refine ⟨_, c_readNext (d := d) hcz h hn hok har hh, ?_⟩
    rintro r _ I2 J2 _ ⟨rfl, rfl, pA, pB, pC⟩
    by_cases hA : tk_K T n q = 0 ∧ deep = 0
    · obtain ⟨rfl, rfl, rfl⟩ := pA hA
      rw [if_pos hA] at hk
      ((first | apply b_X3_readInto_0 | apply b_X3_readInto_22 | apply b_X3_readInto_39 | apply b_X3_readInto_43 | apply b_X3_readInto_47 | apply b_X3_readInto_54 | apply b_X3_readInto_65 | apply b_X3_readInto_69 | apply b_X3_readInto_76); simp only [qa_sq, qi_ci, qi_cl, qi_iload, qi_lload, qi_aload, qi_istore, qi_lstore, qi_astore, qi_iinc, qi_iadd, qi_isub, qi_imul, qi_iand, qi_ior, qi_idiv, qi_irem, qi_ishr, qi_iushr, qi_ladd, qi_lsub, qi_lmul, qi_ldiv, qi_ineg, qi_lneg, qi_i2l, qi_l2i, qi_lcmp, qi_dup, qi_pop, qi_dup_x1, qi_dup2, qi_getI, qi_getJ, qi_getR, qi_putI, qi_putZ, qi_putJ, qi_putR, qi_iald, qi_lald, qi_zald, qi_aald, qi_iast, qi_last, qi_zast, qi_aast, qi_alen0, qi_alen1, qi_alen3, qi_choices, qi_chld, qi_sld, qi_slen, qe_if_eq, qe_if_ne, qe_if_lt, qe_if_ge, qe_if_gt, qe_if_le, qe_icmp_eq, qe_icmp_ne, qe_icmp_lt, qe_icmp_ge, qe_icmp_gt, qe_icmp_le, qa_get, qa_s1, qa_s2, va_rf, qk_y, qk_len, qk_n, qk_w, qa_cmp_lt, qa_cmp_eq, qa_cmp_gt, qa_cmp_ge, qa_cmp_le, Value.category, List.map_cons, List.map_nil, List.length_cons, List.length_nil, Option.toList, List.cons_append, List.nil_append, true_and, and_true, and_self, ite_true, ite_false, true_or, or_true, not_true_eq_false, not_false_eq_true, false_implies, true_implies, reduceIte, Nat.reduceEqDiff, List.sum_cons, List.sum_nil, Nat.reduceAdd, Nat.reduceLeDiff, Nat.le_refl, Nat.reduceMul, Nat.reduceLT, y_0, y_1, y_2, y_3, y_4, y_5, y_6, y_7, y_8, y_81, y_82, y_83, y_84, y_85, y_86, y_87, y_88, y_89, y_90, y_91, y_92, y_93, y_94, y_95, y_96, y_97, y_98, y_99, y_100, y_101, y_102, y_103, y_104, y_105, y_106, y_107, y_108, y_109, y_110, y_111, y_112, y_113, y_114, y_115, y_116, y_117, y_118, y_119, y_120, y_121, y_122, y_123, y_124, y_125, y_126, r_0_0, r_0_1, r_0_2, r_0_3, r_0_4, r_0_5, r_0_6, r_0_7, r_0_8, r_0_9, r_0_10, r_1_0, r_81_0, r_81_1, r_81_2, r_81_3, r_84_0, r_84_1, r_84_2, r_84_3, r_88_0, r_88_1, r_88_2, r_91_0, r_91_1, r_91_2, r_94_0, r_94_1, r_94_2, r_96_0, r_96_9, r_96_10, r_96_11, r_96_12, r_96_13, r_96_14, r_96_15, r_96_18, r_96_19, r_96_20, r_96_21, r_96_22, r_96_23, r_96_24, r_96_25, r_96_26, r_96_27, r_96_28, r_96_29, r_96_30, r_96_31, r_96_35, r_96_36, r_96_37, r_96_38, r_96_39, r_96_40, r_96_41, r_96_43, r_81_7, r_91_3, nI_1])
      ((first | apply b_X3_readInto_0 | apply b_X3_readInto_22 | apply b_X3_readInto_39 | apply b_X3_readInto_43 | apply b_X3_readInto_47 | apply b_X3_readInto_54 | apply b_X3_readInto_65 | apply b_X3_readInto_69 | apply b_X3_readInto_76); simp only [qa_sq, qi_ci, qi_cl, qi_iload, qi_lload, qi_aload, qi_istore, qi_lstore, qi_astore, qi_iinc, qi_iadd, qi_isub, qi_imul, qi_iand, qi_ior, qi_idiv, qi_irem, qi_ishr, qi_iushr, qi_ladd, qi_lsub, qi_lmul, qi_ldiv, qi_ineg, qi_lneg, qi_i2l, qi_l2i, qi_lcmp, qi_dup, qi_pop, qi_dup_x1, qi_dup2, qi_getI, qi_getJ, qi_getR, qi_putI, qi_putZ, qi_putJ, qi_putR, qi_iald, qi_lald, qi_zald, qi_aald, qi_iast, qi_last, qi_zast, qi_aast, qi_alen0, qi_alen1, qi_alen3, qi_choices, qi_chld, qi_sld, qi_slen, qe_if_eq, qe_if_ne, qe_if_lt, qe_if_ge, qe_if_gt, qe_if_le, qe_icmp_eq, qe_icmp_ne, qe_icmp_lt, qe_icmp_ge, qe_icmp_gt, qe_icmp_le, qa_get, qa_s1, qa_s2, va_rf, qk_y, qk_len, qk_n, qk_w, qa_cmp_lt, qa_cmp_eq, qa_cmp_gt, qa_cmp_ge, qa_cmp_le, Value.category, List.map_cons, List.map_nil, List.length_cons, List.length_nil, Option.toList, List.cons_append, List.nil_append, true_and, and_true, and_self, ite_true, ite_false, true_or, or_true, not_true_eq_false, not_false_eq_true, false_implies, true_implies, reduceIte, Nat.reduceEqDiff, List.sum_cons, List.sum_nil, Nat.reduceAdd, Nat.reduceLeDiff, Nat.le_refl, Nat.reduceMul, Nat.reduceLT, y_0, y_1, y_2, y_3, y_4, y_5, y_6, y_7, y_8, y_81, y_82, y_83, y_84, y_85, y_86, y_87, y_88, y_89, y_90, y_91, y_92, y_93, y_94, y_95, y_96, y_97, y_98, y_99, y_100, y_101, y_102, y_103, y_104, y_105, y_106, y_107, y_108, y_109, y_110, y_111, y_112, y_113, y_114, y_115, y_116, y_117, y_118, y_119, y_120, y_121, y_122, y_123, y_124, y_125, y_126, r_0_0, r_0_1, r_0_2, r_0_3, r_0_4, r_0_5, r_0_6, r_0_7, r_0_8, r_0_9, r_0_10, r_1_0, r_81_0, r_81_1, r_81_2, r_81_3, r_84_0, r_84_1, r_84_2, r_84_3, r_88_0, r_88_1, r_88_2, r_91_0, r_91_1, r_91_2, r_94_0, r_94_1, r_94_2, r_96_0, r_96_9, r_96_10, r_96_11, r_96_12, r_96_13, r_96_14, r_96_15, r_96_18, r_96_19, r_96_20, r_96_21, r_96_22, r_96_23, r_96_24, r_96_25, r_96_26, r_96_27, r_96_28, r_96_29, r_96_30, r_96_31, r_96_35, r_96_36, r_96_37, r_96_38, r_96_39, r_96_40, r_96_41, r_96_43, r_81_7, r_91_3])
      refine hk _ _ _ _ ⟨hf, hj, by show q ≤ 256; omega, by simpa using c2, fun _ => ⟨h0, hm128, h7, ?_⟩⟩
      intro s hs h40
      obtain ⟨a1, a2, a3, a4, a5, a6⟩ := ht s hs h40
      exact ⟨a1, a2, a3, fun _ => a4 (fun ⟨dd, hdd, _⟩ => by omega), a5, a6⟩
    · rw [if_neg hA] at hk
      by_cases hB : 0 < deep ∧ tk_K T n q = 125
      · obtain ⟨rfl, -, rfl, hf2, h2', e4, hend⟩ := pB hB
        rw [if_pos hB] at hk
        have hgt := tk_N_gt (T := T) (n := n) (q := q) (by rw [hB.2]; decide)
        ((first | apply b_X3_readInto_0 | apply b_X3_readInto_22 | apply b_X3_readInto_39 | apply b_X3_readInto_43 | apply b_X3_readInto_47 | apply b_X3_readInto_54 | apply b_X3_readInto_65 | apply b_X3_readInto_69 | apply b_X3_readInto_76); simp only [qa_sq, qi_ci, qi_cl, qi_iload, qi_lload, qi_aload, qi_istore, qi_lstore, qi_astore, qi_iinc, qi_iadd, qi_isub, qi_imul, qi_iand, qi_ior, qi_idiv, qi_irem, qi_ishr, qi_iushr, qi_ladd, qi_lsub, qi_lmul, qi_ldiv, qi_ineg, qi_lneg, qi_i2l, qi_l2i, qi_lcmp, qi_dup, qi_pop, qi_dup_x1, qi_dup2, qi_getI, qi_getJ, qi_getR, qi_putI, qi_putZ, qi_putJ, qi_putR, qi_iald, qi_lald, qi_zald, qi_aald, qi_iast, qi_last, qi_zast, qi_aast, qi_alen0, qi_alen1, qi_alen3, qi_choices, qi_chld, qi_sld, qi_slen, qe_if_eq, qe_if_ne, qe_if_lt, qe_if_ge, qe_if_gt, qe_if_le, qe_icmp_eq, qe_icmp_ne, qe_icmp_lt, qe_icmp_ge, qe_icmp_gt, qe_icmp_le, qa_get, qa_s1, qa_s2, va_rf, qk_y, qk_len, qk_n, qk_w, qa_cmp_lt, qa_cmp_eq, qa_cmp_gt, qa_cmp_ge, qa_cmp_le, Value.category, List.map_cons, List.map_nil, List.length_cons, List.length_nil, Option.toList, List.cons_append, List.nil_append, true_and, and_true, and_self, ite_true, ite_false, true_or, or_true, not_true_eq_false, not_false_eq_true, false_implies, true_implies, reduceIte, Nat.reduceEqDiff, List.sum_cons, List.sum_nil, Nat.reduceAdd, Nat.reduceLeDiff, Nat.le_refl, Nat.reduceMul, Nat.reduceLT, y_0, y_1, y_2, y_3, y_4, y_5, y_6, y_7, y_8, y_81, y_82, y_83, y_84, y_85, y_86, y_87, y_88, y_89, y_90, y_91, y_92, y_93, y_94, y_95, y_96, y_97, y_98, y_99, y_100, y_101, y_102, y_103, y_104, y_105, y_106, y_107, y_108, y_109, y_110, y_111, y_112, y_113, y_114, y_115, y_116, y_117, y_118, y_119, y_120, y_121, y_122, y_123, y_124, y_125, y_126, r_0_0, r_0_1, r_0_2, r_0_3, r_0_4, r_0_5, r_0_6, r_0_7, r_0_8, r_0_9, r_0_10, r_1_0, r_81_0, r_81_1, r_81_2, r_81_3, r_84_0, r_84_1, r_84_2, r_84_3, r_88_0, r_88_1, r_88_2, r_91_0, r_91_1, r_91_2, r_94_0, r_94_1, r_94_2, r_96_0, r_96_9, r_96_10, r_96_11, r_96_12, r_96_13, r_96_14, r_96_15, r_96_18, r_96_19, r_96_20, r_96_21, r_96_22, r_96_23, r_96_24, r_96_25, r_96_26, r_96_27, r_96_28, r_96_29, r_96_30, r_96_31, r_96_35, r_96_36, r_96_37, r_96_38, r_96_39, r_96_40, r_96_41, r_96_43, r_81_7, r_91_3, nI_1])
        refine ih (tk_N T n q) (deep - 1) many nm ar (t.1, t.2.1, t.2.2.1, va_up t.2.2.2.1 (ar (deep - 1)) many, t.2.2.2.2) (times + 1) I2 J1 (by omega) (fun i' hi' => ?_) (hf.trans (hf2.mono cl_rd)) hj h2' ?_ (fun d hd => hok d (by omega)) (by omega) (fun d hd => har d (by omega)) ?_ ?_ hg ?_ hzr ?_ hk
        · by_cases hz : i' = times
          · rw [hz]; omega
          · have := htm i' (by omega); omega
        · exact ⟨by omega, e4, fun d hd => ⟨by rw [hf2 _ _ (by unfold clI; omega)]; exact (hn.2.2 d (by omega)).1, by rw [hf2 _ _ (by unfold clI; omega)]; exact (hn.2.2 d (by omega)).2⟩⟩
        · exact ⟨by rw [hf2 _ _ (by unfold clI; omega)]; exact hh.1, fun k hk => ⟨by rw [hf2 _ _ (by unfold clI; omega)]; exact (hh.2 k hk).1, (hh.2 k hk).2⟩⟩
        · rw [hf2 _ _ (by unfold clI; omega)]; exact h0
        · rw [hf2 _ _ (by unfold clI; omega)]; exact h7
        · refine ht.close hp hf2 hend (fun s hs hno => fun ⟨dd, hd1, hd2⟩ => hno ⟨dd, ?_, hd2⟩)
          have : ¬ dd = deep - 1 := fun z => hs (by rw [← hd2, z])
          omega
      · rw [if_neg hB] at hk
        obtain ⟨v, rfl, hv, -, hf2, hj2, r2, hsuc⟩ := pC hA hB
        have hsd := stmt_for (T := T) (n := n) (nm := nm) (deep := deep) (held := p) (q := q)
        have hge := sp_stmt_ge (T := T) (n := n) (nm := nm) (deep := deep) (held := p) (q := q)
        generalize hR : sp_stmt T n nm deep p q = R at hk hv r2 hsuc hsd hge
        obtain ⟨w, q2, ty, wh, l1, l2⟩ := R
        dsimp only at hk hv r2 hsuc hsd hge
        have f2 : qf (rdI p) I I2 := hf.trans (hf2.mono sI_rd)
        have j2 : qj (rdJ p) J J2 := hj.trans (hj2.mono sJ_rd)
        cases w with
        | true =>
          rw [if_pos rfl] at hk
          have fin : ∀ x2 x3, qa_WP (d + 6) mX3_readInto qk_b 76 [some (.ref 81), some (.int (nI p)), x2, x3] [] (qk_g X) I2 J2 (qk_R (9 + 8 * p) t2) Q := fun x2 x3 => by
            refine hk _ _ _ _ ⟨f2, j2, r2.2.1, r2.2.2, fun z => by cases z⟩
          ((first | apply b_X3_readInto_0 | apply b_X3_readInto_22 | apply b_X3_readInto_39 | apply b_X3_readInto_43 | apply b_X3_readInto_47 | apply b_X3_readInto_54 | apply b_X3_readInto_65 | apply b_X3_readInto_69 | apply b_X3_readInto_76); simp only [qa_sq, qi_ci, qi_cl, qi_iload, qi_lload, qi_aload, qi_istore, qi_lstore, qi_astore, qi_iinc, qi_iadd, qi_isub, qi_imul, qi_iand, qi_ior, qi_idiv, qi_irem, qi_ishr, qi_iushr, qi_ladd, qi_lsub, qi_lmul, qi_ldiv, qi_ineg, qi_lneg, qi_i2l, qi_l2i, qi_lcmp, qi_dup, qi_pop, qi_dup_x1, qi_dup2, qi_getI, qi_getJ, qi_getR, qi_putI, qi_putZ, qi_putJ, qi_putR, qi_iald, qi_lald, qi_zald, qi_aald, qi_iast, qi_last, qi_zast, qi_aast, qi_alen0, qi_alen1, qi_alen3, qi_choices, qi_chld, qi_sld, qi_slen, qe_if_eq, qe_if_ne, qe_if_lt, qe_if_ge, qe_if_gt, qe_if_le, qe_icmp_eq, qe_icmp_ne, qe_icmp_lt, qe_icmp_ge, qe_icmp_gt, qe_icmp_le, qa_get, qa_s1, qa_s2, va_rf, qk_y, qk_len, qk_n, qk_w, qa_cmp_lt, qa_cmp_eq, qa_cmp_gt, qa_cmp_ge, qa_cmp_le, Value.category, List.map_cons, List.map_nil, List.length_cons, List.length_nil, Option.toList, List.cons_append, List.nil_append, true_and, and_true, and_self, ite_true, ite_false, true_or, or_true, not_true_eq_false, not_false_eq_true, false_implies, true_implies, reduceIte, Nat.reduceEqDiff, List.sum_cons, List.sum_nil, Nat.reduceAdd, Nat.reduceLeDiff, Nat.le_refl, Nat.reduceMul, Nat.reduceLT, y_0, y_1, y_2, y_3, y_4, y_5, y_6, y_7, y_8, y_81, y_82, y_83, y_84, y_85, y_86, y_87, y_88, y_89, y_90, y_91, y_92, y_93, y_94, y_95, y_96, y_97, y_98, y_99, y_100, y_101, y_102, y_103, y_104, y_105, y_106, y_107, y_108, y_109, y_110, y_111, y_112, y_113, y_114, y_115, y_116, y_117, y_118, y_119, y_120, y_121, y_122, y_123, y_124, y_125, y_126, r_0_0, r_0_1, r_0_2, r_0_3, r_0_4, r_0_5, r_0_6, r_0_7, r_0_8, r_0_9, r_0_10, r_1_0, r_81_0, r_81_1, r_81_2, r_81_3, r_84_0, r_84_1, r_84_2, r_84_3, r_88_0, r_88_1, r_88_2, r_91_0, r_91_1, r_91_2, r_94_0, r_94_1, r_94_2, r_96_0, r_96_9, r_96_10, r_96_11, r_96_12, r_96_13, r_96_14, r_96_15, r_96_18, r_96_19, r_96_20, r_96_21, r_96_22, r_96_23, r_96_24, r_96_25, r_96_26, r_96_27, r_96_28, r_96_29, r_96_30, r_96_31, r_96_35, r_96_36, r_96_37, r_96_38, r_96_39, r_96_40, r_96_41, r_96_43, r_81_7, r_91_3, nI_1])
          ((first | apply b_X3_readInto_0 | apply b_X3_readInto_22 | apply b_X3_readInto_39 | apply b_X3_readInto_43 | apply b_X3_readInto_47 | apply b_X3_readInto_54 | apply b_X3_readInto_65 | apply b_X3_readInto_69 | apply b_X3_readInto_76); simp only [qa_sq, qi_ci, qi_cl, qi_iload, qi_lload, qi_aload, qi_istore, qi_lstore, qi_astore, qi_iinc, qi_iadd, qi_isub, qi_imul, qi_iand, qi_ior, qi_idiv, qi_irem, qi_ishr, qi_iushr, qi_ladd, qi_lsub, qi_lmul, qi_ldiv, qi_ineg, qi_lneg, qi_i2l, qi_l2i, qi_lcmp, qi_dup, qi_pop, qi_dup_x1, qi_dup2, qi_getI, qi_getJ, qi_getR, qi_putI, qi_putZ, qi_putJ, qi_putR, qi_iald, qi_lald, qi_zald, qi_aald, qi_iast, qi_last, qi_zast, qi_aast, qi_alen0, qi_alen1, qi_alen3, qi_choices, qi_chld, qi_sld, qi_slen, qe_if_eq, qe_if_ne, qe_if_lt, qe_if_ge, qe_if_gt, qe_if_le, qe_icmp_eq, qe_icmp_ne, qe_icmp_lt, qe_icmp_ge, qe_icmp_gt, qe_icmp_le, qa_get, qa_s1, qa_s2, va_rf, qk_y, qk_len, qk_n, qk_w, qa_cmp_lt, qa_cmp_eq, qa_cmp_gt, qa_cmp_ge, qa_cmp_le, Value.category, List.map_cons, List.map_nil, List.length_cons, List.length_nil, Option.toList, List.cons_append, List.nil_append, true_and, and_true, and_self, ite_true, ite_false, true_or, or_true, not_true_eq_false, not_false_eq_true, false_implies, true_implies, reduceIte, Nat.reduceEqDiff, List.sum_cons, List.sum_nil, Nat.reduceAdd, Nat.reduceLeDiff, Nat.le_refl, Nat.reduceMul, Nat.reduceLT, y_0, y_1, y_2, y_3, y_4, y_5, y_6, y_7, y_8, y_81, y_82, y_83, y_84, y_85, y_86, y_87, y_88, y_89, y_90, y_91, y_92, y_93, y_94, y_95, y_96, y_97, y_98, y_99, y_100, y_101, y_102, y_103, y_104, y_105, y_106, y_107, y_108, y_109, y_110, y_111, y_112, y_113, y_114, y_115, y_116, y_117, y_118, y_119, y_120, y_121, y_122, y_123, y_124, y_125, y_126, r_0_0, r_0_1, r_0_2, r_0_3, r_0_4, r_0_5, r_0_6, r_0_7, r_0_8, r_0_9, r_0_10, r_1_0, r_81_0, r_81_1, r_81_2, r_81_3, r_84_0, r_84_1, r_84_2, r_84_3, r_88_0, r_88_1, r_88_2, r_91_0, r_91_1, r_91_2, r_94_0, r_94_1, r_94_2, r_96_0, r_96_9, r_96_10, r_96_11, r_96_12, r_96_13, r_96_14, r_96_15, r_96_18, r_96_19, r_96_20, r_96_21, r_96_22, r_96_23, r_96_24, r_96_25, r_96_26, r_96_27, r_96_28, r_96_29, r_96_30, r_96_31, r_96_35, r_96_36, r_96_37, r_96_38, r_96_39, r_96_40, r_96_41, r_96_43, r_81_7, r_91_3])
          refine ⟨fun _ => fin _ _, fun _ => ?_⟩
          ((first | apply b_X3_readInto_0 | apply b_X3_readInto_22 | apply b_X3_readInto_39 | apply b_X3_readInto_43 | apply b_X3_readInto_47 | apply b_X3_readInto_54 | apply b_X3_readInto_65 | apply b_X3_readInto_69 | apply b_X3_readInto_76); simp only [qa_sq, qi_ci, qi_cl, qi_iload, qi_lload, qi_aload, qi_istore, qi_lstore, qi_astore, qi_iinc, qi_iadd, qi_isub, qi_imul, qi_iand, qi_ior, qi_idiv, qi_irem, qi_ishr, qi_iushr, qi_ladd, qi_lsub, qi_lmul, qi_ldiv, qi_ineg, qi_lneg, qi_i2l, qi_l2i, qi_lcmp, qi_dup, qi_pop, qi_dup_x1, qi_dup2, qi_getI, qi_getJ, qi_getR, qi_putI, qi_putZ, qi_putJ, qi_putR, qi_iald, qi_lald, qi_zald, qi_aald, qi_iast, qi_last, qi_zast, qi_aast, qi_alen0, qi_alen1, qi_alen3, qi_choices, qi_chld, qi_sld, qi_slen, qe_if_eq, qe_if_ne, qe_if_lt, qe_if_ge, qe_if_gt, qe_if_le, qe_icmp_eq, qe_icmp_ne, qe_icmp_lt, qe_icmp_ge, qe_icmp_gt, qe_icmp_le, qa_get, qa_s1, qa_s2, va_rf, qk_y, qk_len, qk_n, qk_w, qa_cmp_lt, qa_cmp_eq, qa_cmp_gt, qa_cmp_ge, qa_cmp_le, Value.category, List.map_cons, List.map_nil, List.length_cons, List.length_nil, Option.toList, List.cons_append, List.nil_append, true_and, and_true, and_self, ite_true, ite_false, true_or, or_true, not_true_eq_false, not_false_eq_true, false_implies, true_implies, reduceIte, Nat.reduceEqDiff, List.sum_cons, List.sum_nil, Nat.reduceAdd, Nat.reduceLeDiff, Nat.le_refl, Nat.reduceMul, Nat.reduceLT, y_0, y_1, y_2, y_3, y_4, y_5, y_6, y_7, y_8, y_81, y_82, y_83, y_84, y_85, y_86, y_87, y_88, y_89, y_90, y_91, y_92, y_93, y_94, y_95, y_96, y_97, y_98, y_99, y_100, y_101, y_102, y_103, y_104, y_105, y_106, y_107, y_108, y_109, y_110, y_111, y_112, y_113, y_114, y_115, y_116, y_117, y_118, y_119, y_120, y_121, y_122, y_123, y_124, y_125, y_126, r_0_0, r_0_1, r_0_2, r_0_3, r_0_4, r_0_5, r_0_6, r_0_7, r_0_8, r_0_9, r_0_10, r_1_0, r_81_0, r_81_1, r_81_2, r_81_3, r_84_0, r_84_1, r_84_2, r_84_3, r_88_0, r_88_1, r_88_2, r_91_0, r_91_1, r_91_2, r_94_0, r_94_1, r_94_2, r_96_0, r_96_9, r_96_10, r_96_11, r_96_12, r_96_13, r_96_14, r_96_15, r_96_18, r_96_19, r_96_20, r_96_21, r_96_22, r_96_23, r_96_24, r_96_25, r_96_26, r_96_27, r_96_28, r_96_29, r_96_30, r_96_31, r_96_35, r_96_36, r_96_37, r_96_38, r_96_39, r_96_40, r_96_41, r_96_43, r_81_7, r_91_3])
          exact ⟨fun _ => fin _ _, fun z => absurd z r2.w.2⟩
        | false =>
          rw [if_neg (by decide)] at hk
          have hv := hv rfl
          subst hv
          obtain ⟨s1, s2, s3, s4, s5⟩ := hsuc rfl
          obtain ⟨hge1, hge2, -⟩ := hge rfl
          have hgp := sp_degree_put (degs := degs) (t := t) (many := many) (deep := deep) (R := (false, q2, ty, wh, l1, l2)) (nm := nm)
          dsimp only at hgp
          have hhi := (r2.q).1
          have hq2 : q2 ≤ n := by
            obtain ⟨-, m', i', -, -, -, e⟩ := hhi
            rw [e]; exact tq_hi T n i'
          have hda : dga degs (false, q2, ty, wh, l1, l2) ≤ 100 := by
            unfold dga
            dsimp only
            split
            · omega
            · split
              · rename_i h3
                have hw : ∃ k, k < p ∧ wh = nI k := by
                  have := stmt_run (T := T) (n := n) (nm := nm) (deep := deep) (held := p) (q := q) (by omega) (by rw [hR]) (by rw [hR]; exact h3)
                  rw [hR] at this
                  exact this
                obtain ⟨k, hk1, hk2⟩ := hw
                rw [hk2, nI_clamp (by omega)]
                exact (hh.2 k hk1).2
              · omega
          ((first | apply b_X3_readInto_0 | apply b_X3_readInto_22 | apply b_X3_readInto_39 | apply b_X3_readInto_43 | apply b_X3_readInto_47 | apply b_X3_readInto_54 | apply b_X3_readInto_65 | apply b_X3_readInto_69 | apply b_X3_readInto_76); simp only [qa_sq, qi_ci, qi_cl, qi_iload, qi_lload, qi_aload, qi_istore, qi_lstore, qi_astore, qi_iinc, qi_iadd, qi_isub, qi_imul, qi_iand, qi_ior, qi_idiv, qi_irem, qi_ishr, qi_iushr, qi_ladd, qi_lsub, qi_lmul, qi_ldiv, qi_ineg, qi_lneg, qi_i2l, qi_l2i, qi_lcmp, qi_dup, qi_pop, qi_dup_x1, qi_dup2, qi_getI, qi_getJ, qi_getR, qi_putI, qi_putZ, qi_putJ, qi_putR, qi_iald, qi_lald, qi_zald, qi_aald, qi_iast, qi_last, qi_zast, qi_aast, qi_alen0, qi_alen1, qi_alen3, qi_choices, qi_chld, qi_sld, qi_slen, qe_if_eq, qe_if_ne, qe_if_lt, qe_if_ge, qe_if_gt, qe_if_le, qe_icmp_eq, qe_icmp_ne, qe_icmp_lt, qe_icmp_ge, qe_icmp_gt, qe_icmp_le, qa_get, qa_s1, qa_s2, va_rf, qk_y, qk_len, qk_n, qk_w, qa_cmp_lt, qa_cmp_eq, qa_cmp_gt, qa_cmp_ge, qa_cmp_le, Value.category, List.map_cons, List.map_nil, List.length_cons, List.length_nil, Option.toList, List.cons_append, List.nil_append, true_and, and_true, and_self, ite_true, ite_false, true_or, or_true, not_true_eq_false, not_false_eq_true, false_implies, true_implies, reduceIte, Nat.reduceEqDiff, List.sum_cons, List.sum_nil, Nat.reduceAdd, Nat.reduceLeDiff, Nat.le_refl, Nat.reduceMul, Nat.reduceLT, y_0, y_1, y_2, y_3, y_4, y_5, y_6, y_7, y_8, y_81, y_82, y_83, y_84, y_85, y_86, y_87, y_88, y_89, y_90, y_91, y_92, y_93, y_94, y_95, y_96, y_97, y_98, y_99, y_100, y_101, y_102, y_103, y_104, y_105, y_106, y_107, y_108, y_109, y_110, y_111, y_112, y_113, y_114, y_115, y_116, y_117, y_118, y_119, y_120, y_121, y_122, y_123, y_124, y_125, y_126, r_0_0, r_0_1, r_0_2, r_0_3, r_0_4, r_0_5, r_0_6, r_0_7, r_0_8, r_0_9, r_0_10, r_1_0, r_81_0, r_81_1, r_81_2, r_81_3, r_84_0, r_84_1, r_84_2, r_84_3, r_88_0, r_88_1, r_88_2, r_91_0, r_91_1, r_91_2, r_94_0, r_94_1, r_94_2, r_96_0, r_96_9, r_96_10, r_96_11, r_96_12, r_96_13, r_96_14, r_96_15, r_96_18, r_96_19, r_96_20, r_96_21, r_96_22, r_96_23, r_96_24, r_96_25, r_96_26, r_96_27, r_96_28, r_96_29, r_96_30, r_96_31, r_96_35, r_96_36, r_96_37, r_96_38, r_96_39, r_96_40, r_96_41, r_96_43, r_81_7, r_91_3, nI_1])
          refine ih q2 (if ty = 2 then deep + 1 else deep) (many + 1) (if ty = 2 then va_up nm deep wh else nm) (if ty = 2 then va_up ar deep many else ar) _ (times + 1) I2 J2 (by omega) (fun i' hi' => ?_) f2 j2 r2 ?_ ?_ (by omega) (fun d hd => ?_) ?_ s1 ?_ ?_ ?_ ?_ hk
          · by_cases hz : i' = times
            · rw [hz]; omega
            · have := htm i' (by omega); omega
          · by_cases hty : ty = 2
            · rw [if_pos hty, if_pos hty, if_pos hty]
              obtain ⟨e1, e2, e3⟩ := s4 hty
              have hdd := (hsd rfl hty).1
              refine ⟨by omega, e1, fun d hd => ?_⟩
              by_cases hz : d = deep
              · subst hz
                rw [up_at, up_at]
                exact ⟨e2, e3⟩
              · rw [up_ne hz, up_ne hz, hf2 _ _ (by unfold sI; omega), hf2 _ _ (by unfold sI; omega)]
                exact hn.2.2 d (by omega)
            · rw [if_neg hty, if_neg hty, if_neg hty]
              refine ⟨hd4, s5 hty, fun d hd => ?_⟩
              rw [hf2 _ _ (by unfold sI; omega), hf2 _ _ (by unfold sI; omega)]
              exact hn.2.2 d hd
          · by_cases hty : ty = 2
            · rw [if_pos hty, if_pos hty]
              obtain ⟨-, e2, e3⟩ := hsd rfl hty
              exact nm_ok_up hok e2 e3
            · rw [if_neg hty, if_neg hty]
              exact hok
          · by_cases hty : ty = 2
            · rw [if_pos hty] at hd ⊢
              by_cases hz : d = deep
              · rw [hz, up_at]; omega
              · rw [up_ne hz]
                have := har d (by omega); omega
            · rw [if_neg hty] at hd ⊢
              have := har d hd; omega
          · exact ⟨by rw [hf2 _ _ (by unfold sI; omega)]; exact hh.1, fun k hk => ⟨by rw [hf2 _ _ (by unfold sI; omega)]; exact (hh.2 k hk).1, (hh.2 k hk).2⟩⟩
          · rw [hgp]
            omega
          · rw [hgp]; exact s2
          · intro s hs h40 k hk
            rw [hj2 _ _ (by unfold sJ; omega), hj2 _ _ (by unfold sJ; omega)]
            exact hzr s (by omega) h40 k hk
          · refine ht.put hp hf2 hj2 s3 (fun s hs hno => fun ⟨dd, hd1, hd2⟩ => hno ?_)
            by_cases hty : ty = 2
            · simp only [if_pos hty]
              exact ⟨dd, by omega, by rw [up_ne (by omega)]; exact hd2⟩
            · simp only [if_neg hty]
              exact ⟨dd, hd1, hd2⟩
