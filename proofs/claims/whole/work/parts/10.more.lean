theorem qx_newq {M : qa_M} {pc idx len : Nat} {d : Nat} {b : Nat × Nat} {lo : qa_V} {n : Int32} {st : List Value} {g : qa_G} {I : qa_I} {J : qa_J} {R : qa_R} {Q : qa_Q} (h : decode M.2.2.1 pc = .ok (.anewarray idx, 3)) (hw1 : Cond.classLink M.1 idx RX1 ∈ lw_tbl)
    (hnn : ¬ n < 0) (hlen : n.toNatClampNeg = len) (hby : len * 4 ≤ 536870912) (hn : g.1 ≠ qa_CH ∧ g.1 ≠ qa_SC) (hb : g.1 + 1 ≤ b.1 ∧ g.2.1 + len ≤ b.2) (hwf : qa_wf g.1 lo st)
    (hk : qa_WP d M b (pc + 3) lo (.ref g.1 :: st) (qa_g1 g len (.inr (3, len))) (qa_z I g.1 0) (qa_z J g.1 0) (qa_z R g.1 none) Q) : qa_WP d M b pc lo (.int n :: st) g I J R Q := by
  intro p l e rm s m args below meth c D dA A t X0 φ0 n0 w0 Z hA hG hR hT H locs cells slots ls φ hH hl
  refine va_newq hA.1 hA.2.1 hA.2.2.2.2.1 (hA.2.2.2.2.2.1 _ (qa_mem hw1 rfl)) hA.2.2.2.2.2.2.1.2 hG.1 hH.1 hH.2.1 hH.2.2.1 hG.2.1 hnn hlen hby ?_ ?_ h (fun q cA H1 hK hP hD hS => ?_)
  · have := hR.2.2.1; have := hH.2.2.2.2.1; have := hb.1; omega
  · have := hR.2.2.2; have := hH.2.2.2.2.2.1; have := hb.2; omega
  · obtain ⟨f1, f2⟩ := qa_frame_push (φ := φ) (q := q) hn hwf
    have hcA : cA = dA 3 := by
      have h5 := (hK.2 (qa_tys dA).length (cA, .object RX1) (by simp)).2
      obtain ⟨_, _, -, -, -, h6⟩ := h5
      exact qa_dA (k := 3) (ty := .object RX1) hG.1 rfl h6
    subst hcA
    have he : (Sum.inl (dA 3, len, .inr (.inr (.inr (.inr (fun _ => none))))) : va_E) = qa_cell dA (fun a => if a = g.1 then q else φ a) (.inr (3, len)) (fun _ => 0) (fun _ => 0) (fun _ => none) := rfl
    have hW := hk p l e rm s m args below meth c D dA A t X0 φ0 n0 w0 Z hA hG hR hT H1 locs (cells + 1) (slots + len) ls _ (qa_Hp_push (w := len) (q := q) (y := .inr (3, len)) hH hn he hP hD hS) (hl.same f2)
    have e1 : (Value.ref g.1 :: st).map (qa_c (fun a => if a = g.1 then q else φ a)) = .ref q :: st.map (qa_c φ) := by
      rw [List.map_cons, qa_map_same f1]
      show Value.ref (if g.1 = g.1 then q else φ g.1) :: _ = _
      rw [if_pos rfl]
    rw [e1] at hW
    exact hW
def qa_row {α : Type} (f : Nat → Nat → α) (a : Nat) (r : Nat → α) : Nat → Nat → α := fun b => if b = a then r else f b
theorem qx_copyl {M : qa_M} {pc idx : Nat} {d : Nat} {b : Nat × Nat} {lo : qa_V} {n dp sp : Int32} {a a0 : Nat} {g : qa_G} {I : qa_I} {J : qa_J} {R : qa_R} {Q : qa_Q} (h : decode M.2.2.1 pc = .ok (.invokestatic idx, 3)) (hw1 : Cond.methodLink M.1 idx arraycopyName ∈ lw_tbl) (hw2 : Cond.native arraycopyName ∈ lw_tbl) (hw3 : Cond.static arraycopyName ∈ lw_tbl) (hw4 : Cond.initialized "java/lang/System" ∈ lw_tbl)
    {n0 n1 : Nat} (ha0 : g.2.2.1 a0 = .inr (1, n0)) (ha : g.2.2.1 a = .inr (1, n1)) (h1 : ¬ sp < 0) (h2 : ¬ dp < 0) (h3 : ¬ n < 0) (h4 : sp.toNatClampNeg + n.toNatClampNeg ≤ n0) (h5 : dp.toNatClampNeg + n.toNatClampNeg ≤ n1)
    (hk : qa_WP (d + 1) M b (pc + 3) lo [] g I (qa_row J a (va_cpy (J a0) (J a) sp.toNatClampNeg dp.toNatClampNeg n.toNatClampNeg)) R Q) : qa_WP (d + 1) M b pc lo [.int n, .int dp, .ref a, .int sp, .ref a0] g I J R Q := by
  intro p l e rm s m args below meth c D dA A t X0 φ0 n0' w0 Z hA hG hR hT H locs cells slots ls φ hH hl
  have hg := hH.2.2.2.1
  refine va_copyl (rest := []) (ty := .long) hA.1 hA.2.1 (hA.2.2.1.trans hl.1.symm) hA.2.2.2.2.1 (hA.2.2.2.2.2.1 _ (qa_mem hw1 rfl)) (hA.2.2.2.2.2.1 _ (qa_mem hw2 rfl)) (hA.2.2.2.2.2.1 _ (qa_mem hw3 rfl)) (hA.2.2.2.2.2.1 _ (qa_mem hw4 rfl)) hG.1 hH.1 hH.2.1 hH.2.2.1 a0 a 1 1 (qa_arr hg ha0 (by decide)) (qa_arr hg ha (by decide)) rfl rfl rfl h1 h2 h3 h4 h5 (fun _ _ => rfl) ?_ ?_ h (fun H1 locs1 hP hD hS => ?_)
  · have := hR.1; omega
  · have := hR.2.1
    have e : (([] : List Value).map fun v => v.category).sum + (nativeFrameWords "java/lang/System" "arraycopy" 5 + 11) ≤ 60 := by decide +kernel
    omega
  · have he := qa_W_set (dA := dA) (φ := φ) (I := I) (J := J) (R := R) (I' := I) (J' := qa_row J a (va_cpy (J a0) (J a) sp.toNatClampNeg dp.toNatClampNeg n.toNatClampNeg)) (R' := R) (a := a) (e := .inl (dA 1, n1, .inr (.inl (va_cpy (J a0) (J a) sp.toNatClampNeg dp.toNatClampNeg n.toNatClampNeg)))) (qa_lt2 hg ha (by decide)) (by rw [ha]; simp [qa_row, qa_cell, qa_ar]) (fun b hb => ⟨rfl, by simp [qa_row, hb], rfl⟩)
    rw [he] at hP hD
    exact hk p l e rm s m args below meth c D dA A t X0 φ0 n0' w0 Z hA hG hR hT H1 locs1 cells slots ls φ ⟨hP, hD, hS, hH.2.2.2⟩ hl
theorem qa_mono {d : Nat} {M : qa_M} {b : Nat × Nat} {pc : Nat} {lo : qa_V} {st : List Value} {g : qa_G} {I : qa_I} {J : qa_J} {R : qa_R} {Q Q' : qa_Q} (hq : ∀ r g I J R, Q r g I J R → Q' r g I J R) (h : qa_WP d M b pc lo st g I J R Q) : qa_WP d M b pc lo st g I J R Q' := by
  intro p l e rm s m args below meth c D dA A t X0 φ0 n0 w0 Z hA hG hR hT H locs cells slots ls φ hH hl
  exact h p l e rm s m args below meth c D dA A t X0 φ0 n0 w0 Z hA hG hR (fun r φ g I J R H locs cells slots pc ls i q1 q2 q3 q4 q5 q6 => hT r φ g I J R H locs cells slots pc ls i (hq _ _ _ _ _ q1) q2 q3 q4 q5 q6) H locs cells slots ls φ hH hl
-- compares of longs
theorem qa_cmp_lt (x y : Int64) : (lg_cmp x y < 0) = (x < y) := by
  unfold lg_cmp
  rcases lg_tri x y with h | h | h
  · have h2 := lg_lt_not h
    have h3 := lg_lt_ne h
    simp only [gt_iff_lt, h2, h3, if_false, h, eq_iff_iff, iff_true]; decide
  · subst h; simp
  · have h2 := lg_lt_not h
    simp only [gt_iff_lt, h, if_true, h2, eq_iff_iff, iff_false]; decide
theorem qa_cmp_eq (x y : Int64) : (lg_cmp x y = 0) = (x = y) := by
  unfold lg_cmp
  rcases lg_tri x y with h | h | h
  · have h2 := lg_lt_not h
    have h3 := lg_lt_ne h
    simp only [gt_iff_lt, h2, h3, if_false, eq_iff_iff, iff_false]; decide
  · subst h; simp
  · have h3 : ¬ x = y := fun q => lg_lt_ne h q.symm
    simp only [gt_iff_lt, h, if_true, h3, eq_iff_iff, iff_false]; decide
theorem qa_cmp_gt (x y : Int64) : (0 < lg_cmp x y) = (y < x) := by
  unfold lg_cmp
  rcases lg_tri x y with h | h | h
  · have h2 := lg_lt_not h
    have h3 := lg_lt_ne h
    simp only [gt_iff_lt, h2, h3, if_false, eq_iff_iff, iff_false]; decide
  · subst h; simp
  · simp only [gt_iff_lt, h, if_true, eq_iff_iff, iff_true]; decide
theorem qa_cmp_ge (x y : Int64) : (0 ≤ lg_cmp x y) = (y ≤ x) := by
  have h := qa_cmp_lt x y
  rw [← Int32.not_lt, ← Int64.not_lt, h]
theorem qa_cmp_le (x y : Int64) : (lg_cmp x y ≤ 0) = (x ≤ y) := by
  have h := qa_cmp_gt x y
  rw [← Int32.not_lt, ← Int64.not_lt, h]
-- Math.max, Math.abs: by the kit's row, by the library's contract
theorem qx_max {M : qa_M} {pc idx : Nat} {d : Nat} {b : Nat × Nat} {lo : qa_V} {x y : Int32} {st : List Value} {g : qa_G} {I : qa_I} {J : qa_J} {R : qa_R} {Q : qa_Q} (h : decode M.2.2.1 pc = .ok (.invokestatic idx, 3)) (hw1 : Cond.methodLink M.1 idx Lib.Math.max.name ∈ lw_tbl) (hw2 : Cond.static Lib.Math.max.name ∈ lw_tbl) (hw3 : Cond.initialized "java/lang/Math" ∈ lw_tbl) (hw4 : Cond.code Lib.Math.max.name Lib.Math.max.code 2 (some .int) ∈ lw_tbl)
    (hst : (st.map fun v => v.category).sum ≤ 8) (hb : g.1 ≤ b.1 ∧ g.2.1 ≤ b.2) (hk : qa_WP (d + 1) M b (pc + 3) lo (.int (if x < y then y else x) :: st) g I J R Q) : qa_WP (d + 1) M b pc lo (.int y :: .int x :: st) g I J R Q := by
  intro p l e rm s m args below meth c D dA A t X0 φ0 n0 w0 Z hA hG hR hT H locs cells slots ls φ hH hl
  have hcats : ((st.map (qa_c φ)).map fun v => v.category).sum ≤ 8 := by
    rw [List.map_map]
    have e9 : ((fun v : Value => v.category) ∘ qa_c φ) = fun v : Value => v.category := funext (fun v => qa_c_cat φ v)
    rw [e9]
    exact hst
  refine va_mmax hA.1 hA.2.1 (hA.2.2.1.trans hl.1.symm) hA.2.2.2.2.1 (hA.2.2.2.2.2.1 _ (qa_mem hw1 rfl)) (hA.2.2.2.2.2.1 _ (qa_mem hw2 rfl)) (hA.2.2.2.2.2.1 _ (qa_mem hw3 rfl)) (hA.2.2.2.2.2.1 _ (qa_mem hw4 rfl)) ?_ ?_ ?_ ?_ h ?_
  · have := hR.1; omega
  · have := hR.2.1; omega
  · have := hR.2.2.1; have := hH.2.2.2.2.1; have := hb.1; omega
  · have := hR.2.2.2; have := hH.2.2.2.2.2.1; have := hb.2; omega
  · exact hk p l e rm s m args below meth c D dA A t X0 φ0 n0 w0 Z hA hG hR hT H locs cells slots ls φ hH hl
theorem qa_absl_post {args : Array Value} {first t2 : State} {o : Outcome} (h : Lib.MathLoose.abs_long.spec.post.after args first o t2 = true) :
    (Cond.returned).holds args first (some o) t2 [] = true ∧ ((Cond.lt (.long 0) (.arg 0)).holds args first (some o) t2 [] = true ∧ (Cond.eq .result (.arg 0)).holds args first (some o) t2 [] = true ∨ (Cond.eq (.arg 0) (.long 0)).holds args first (some o) t2 [] = true ∧ (Cond.eq .result (.arg 0)).holds args first (some o) t2 [] = true ∨ (Cond.not (.lt (.long 0) (.arg 0))).holds args first (some o) t2 [] = true ∧ (Cond.eq .result (.op1 .lneg (.arg 0))).holds args first (some o) t2 [] = true) := by
  have h : Lib.MathLoose.abs_long.spec.post.holds args first (some o) t2 [] = true := h
  simp only [Lib.MathLoose.abs_long.spec] at h
  rw [Cond.holds_or_iff] at h
  rcases h with h | ⟨-, h⟩
  · rw [Cond.holds_and, Bool.and_eq_true, Cond.holds_and, Bool.and_eq_true] at h
    exact ⟨h.2.1, Or.inl ⟨h.1, h.2.2⟩⟩
  · rw [Cond.holds_and, Bool.and_eq_true] at h
    obtain ⟨hn, h⟩ := h
    rw [Cond.holds_or_iff] at h
    rcases h with h | ⟨-, h⟩
    · rw [Cond.holds_and, Bool.and_eq_true, Cond.holds_and, Bool.and_eq_true] at h
      exact ⟨h.2.1, Or.inr (Or.inl ⟨h.1, h.2.2⟩)⟩
    · rw [Cond.holds_and, Bool.and_eq_true, Cond.holds_and, Bool.and_eq_true] at h
      exact ⟨h.2.1, Or.inr (Or.inr ⟨hn, h.2.2⟩)⟩
theorem qx_absl {M : qa_M} {pc idx : Nat} {d : Nat} {b : Nat × Nat} {lo : qa_V} {x : Int64} {st : List Value} {g : qa_G} {I : qa_I} {J : qa_J} {R : qa_R} {Q : qa_Q} (h : decode M.2.2.1 pc = .ok (.invokestatic idx, 3)) (hw1 : Cond.methodLink M.1 idx Lib.MathLoose.abs_long.x ∈ lw_tbl) (hw2 : Cond.static Lib.MathLoose.abs_long.x ∈ lw_tbl) (hw3 : Cond.initialized "java/lang/Math" ∈ lw_tbl) (hw4 : Cond.code Lib.MathLoose.abs_long.x Lib.MathLoose.abs_long.code 2 (some .long) ∈ lw_tbl)
    (hst : (st.map fun v => v.category).sum ≤ 8) (hb : g.1 ≤ b.1 ∧ g.2.1 ≤ b.2) (hk : qa_WP (d + 1) M b (pc + 3) lo (.long (if x < 0 then -x else x) :: st) g I J R Q) : qa_WP (d + 1) M b pc lo (.long x :: st) g I J R Q := by
  intro p l e rm s m args below meth c D dA A t X0 φ0 n0 w0 Z hA hG hR hT H locs cells slots ls φ hH hl
  have hcats : ((st.map (qa_c φ)).map fun v => v.category).sum ≤ 8 := by
    rw [List.map_map]
    have e9 : ((fun v : Value => v.category) ∘ qa_c φ) = fun v : Value => v.category := funext (fun v => qa_c_cat φ v)
    rw [e9]
    exact hst
  intro T hTT X
  have hcode := hA.2.2.2.2.2.1 _ (qa_mem hw4 rfl)
  obtain ⟨v, T', X', ⟨first, t2, hpost⟩, hstep⟩ := X.staticByContractV hA.1 hA.2.2.2.2.1 (hA.2.2.2.2.2.1 _ (qa_mem hw1 rfl)) (hA.2.2.2.2.2.1 _ (qa_mem hw2 rfl)) (hA.2.2.2.2.2.1 _ (qa_mem hw3 rfl)) hcode (by decide) (Lib.MathLoose.abs_long l) rfl rfl rfl rfl
    (fun args' first o s₂ h => by
      cases o with
      | returned r => exact ⟨r, rfl⟩
      | threw y =>
        exfalso
        have := (qa_absl_post h).1
        simp [Cond.holds, Cond.value] at this)
    (g := F0 m pc ls (.long x :: st.map (qa_c φ))) rfl (hl.1.trans hA.2.2.1.symm) (argsL := [.long x]) (rest := st.map (qa_c φ))
    (fun sig hs => by
      have h : parseMethodDescriptor "(J)J" = some { parameters := [.long], returnType := some .long } := by decide +kernel
      rw [show Lib.MathLoose.abs_long.x.desc = "(J)J" from rfl, h] at hs
      rw [← Option.some.inj hs]; rfl)
    rfl (by rw [hA.2.1]; exact h)
    (fun vm' hW => by
      simp only [Lib.MathLoose.abs_long.spec, Cond.before_and, Bool.and_eq_true]
      refine ⟨?_, rfl, rfl⟩
      have q := hcode
      rw [← Cond.code_setVm hW.alike] at q
      simp only [Cond.before, Cond.holds, Cond.value, State.methodNamed?, State.vm_setVm] at q ⊢
      exact q)
    (by show 0 + 1 ≤ rm.frames; have := hR.1; omega) (by show 2 * 0 + _ + (2 + 11) + 0 ≤ rm.locals; have := hR.2.1; omega) (by show cells + 0 ≤ rm.cells; have := hR.2.2.1; have := hH.2.2.2.2.1; have := hb.1; omega) (by show slots + 0 ≤ rm.slots; have := hR.2.2.2; have := hH.2.2.2.2.2.1; have := hb.2; omega)
  have hv : v = some (.long (if x < 0 then -x else x)) := by
    rcases (qa_absl_post hpost).2 with ⟨q, h⟩ | ⟨q, h⟩ | ⟨q, h⟩
    · obtain ⟨y, y1, y2⟩ := Cond.eq_one h
      have e1 : y = .long x := (Option.some.inj y2).symm
      have e2 : v = some y := by rw [← y1]; rfl
      have q2 : (0 : Int64) < x := by simpa [Cond.holds, Cond.value, Term.eval] using q
      rw [e2, e1, if_neg (lg_lt_not q2)]
    · obtain ⟨y, y1, y2⟩ := Cond.eq_one h
      have e1 : y = .long x := (Option.some.inj y2).symm
      have e2 : v = some y := by rw [← y1]; rfl
      have q2 : x = 0 := by simpa [Cond.holds, Cond.value, Term.eval] using q
      rw [e2, e1, q2]
      rfl
    · obtain ⟨y, y1, y2⟩ := Cond.eq_one h
      have e1 : y = .long (-x) := (Option.some.inj y2).symm
      have e2 : v = some y := by rw [← y1]; rfl
      have q2 : ¬ (0 : Int64) < x := by simpa [Cond.holds, Cond.value, Term.eval] using q
      rw [e2, e1]
      rcases lg_tri x 0 with z | z | z
      · rw [if_pos z]
      · subst z; rfl
      · exact absurd z q2
  subst hv
  obtain ⟨tt, a1, b1⟩ := hk p l e rm s m args below meth c D dA A t X0 φ0 n0 w0 Z hA hG hR hT H locs cells slots ls φ hH hl (T.setVm T') hTT X'
  exact ⟨tt, hstep tt a1, b1⟩
