def qa_z {α : Type} (f : Nat → Nat → α) (a : Nat) (v : α) : Nat → Nat → α := fun b j => if b = a then v else f b j
/-- one cell more -/
def qa_g1 (g : qa_G) (w : Nat) (y : Nat ⊕ (Nat × Nat)) : qa_G := (g.1 + 1, g.2.1 + w, (fun a => if a = g.1 then y else g.2.2.1 a), g.2.2.2)
theorem qa_cell_same {dA : Nat → ClassId} {φ φ' : Nat → Nat} {y : Nat ⊕ (Nat × Nat)} {I : Nat → Int32} {J : Nat → Int64} {R : Nat → Option Nat} (h : ∀ k, (R k).map φ' = (R k).map φ) : qa_cell dA φ' y I J R = qa_cell dA φ y I J R := by
  cases y with
  | inl ci =>
    show Sum.inr (ci, _) = Sum.inr (ci, _)
    congr 2
    apply List.map_congr_left
    intro k _
    unfold qa_fv
    split <;> first | rfl | rw [h]
  | inr q =>
    obtain ⟨k, n⟩ := q
    show Sum.inl (dA k, _) = Sum.inl (dA k, _)
    congr 2
    unfold qa_ar
    congr 1
    split <;> first | rfl | (congr 4; funext i; exact h i)
theorem qa_W_push {dA : Nat → ClassId} {φ : Nat → Nat} {g : qa_G} {I : qa_I} {J : qa_J} {R : qa_R} {w q : Nat} {y : Nat ⊕ (Nat × Nat)} {e : va_E} (hR : ∀ a k x, R a k = some x → x < g.1) (he : e = qa_cell dA (fun a => if a = g.1 then q else φ a) y (fun _ => 0) (fun _ => 0) (fun _ => none)) :
    qa_W dA φ g I J R ++ [(q, e)] = qa_W dA (fun a => if a = g.1 then q else φ a) (qa_g1 g w y) (qa_z I g.1 0) (qa_z J g.1 0) (qa_z R g.1 none) := by
  apply List.ext_getElem?
  intro i
  rcases Nat.lt_trichotomy i g.1 with h | h | h
  · rw [List.getElem?_append_left (by simp [qa_W, h]), qa_W_get h, qa_W_get (show i < (qa_g1 g w y).1 from Nat.lt_succ_of_lt h)]
    have hne : i ≠ g.1 := Nat.ne_of_lt h
    have e1 : (qa_g1 g w y).2.2.1 i = g.2.2.1 i := by simp [qa_g1, hne]
    have e2 : qa_z I g.1 0 i = I i := by funext j; simp [qa_z, hne]
    have e3 : qa_z J g.1 0 i = J i := by funext j; simp [qa_z, hne]
    have e4 : qa_z R g.1 none i = R i := by funext j; simp [qa_z, hne]
    rw [e1, e2, e3, e4, if_neg hne]
    rw [qa_cell_same (φ := φ) (φ' := fun a => if a = g.1 then q else φ a)]
    intro k
    cases hr : R i k with
    | none => rfl
    | some x =>
      have := hR i k x hr
      simp [Nat.ne_of_lt this]
  · subst h
    rw [List.getElem?_append_right (by simp [qa_W]), qa_W_get (show g.1 < (qa_g1 g w y).1 from Nat.lt_succ_self _)]
    have e1 : (qa_g1 g w y).2.2.1 g.1 = y := by simp [qa_g1]
    have e2 : qa_z I g.1 0 g.1 = fun _ => 0 := by funext j; simp [qa_z]
    have e3 : qa_z J g.1 0 g.1 = fun _ => 0 := by funext j; simp [qa_z]
    have e4 : qa_z R g.1 none g.1 = fun _ => none := by funext j; simp [qa_z]
    rw [e1, e2, e3, e4, if_pos rfl, ← he]
    simp [qa_W]
  · rw [List.getElem?_eq_none (by simp [qa_W]; omega), List.getElem?_eq_none (by simp [qa_W, qa_g1]; omega)]
/-- the frame's invariant with a cell more -/
theorem qa_Hp_push {own : String} {s : State} {D : va_G} {dA : Nat → ClassId} {A : Nat → Prop} {t : Nat} {X0 : Nat × (Nat → Int32)} {φ0 : Nat → Nat} {n0 w0 : Nat} {φ : Nat → Nat} {g : qa_G} {I : qa_I} {J : qa_J} {R : qa_R} {H H1 : Heap} {locs : List Loc} {cells slots w q : Nat} {y : Nat ⊕ (Nat × Nat)} {e : va_E}
    (hH : qa_Hp own s D dA A t X0 φ0 n0 w0 φ g I J R H locs cells slots) (hn : g.1 ≠ qa_CH ∧ g.1 ≠ qa_SC) (he : e = qa_cell dA (fun a => if a = g.1 then q else φ a) y (fun _ => 0) (fun _ => 0) (fun _ => none))
    (hP : va_P D qa_cl (qa_W dA φ g I J R ++ [(q, e)]) H1) (hD : va_D A (qa_W dA φ g I J R ++ [(q, e)])) (hS : va_S A s.heap H1 locs) :
    qa_Hp own s D dA A t X0 φ0 n0 w0 (fun a => if a = g.1 then q else φ a) (qa_g1 g w y) (qa_z I g.1 0) (qa_z J g.1 0) (qa_z R g.1 none) H1 locs (cells + 1) (slots + w) := by
  obtain ⟨q1, q2, q3, q4, q5, q6, ⟨q7, q8, q8x⟩, q9, q10, q11⟩ := hH
  rw [qa_W_push (w := w) q10 he] at hP hD
  refine ⟨hP, hD, hS, fun a ha => ?_, by show n0 + (cells + 1) = g.1 + 1; omega, by show w0 + (slots + w) = g.2.1 + w; omega, ⟨?_, ?_, q8x⟩, fun a ha => ?_, fun a k x hx => ?_, fun ho => ?_⟩
  · have ha2 : g.1 + 1 ≤ a := ha
    show (if a = g.1 then y else g.2.2.1 a) = _
    rw [if_neg (by omega)]
    exact q4 a (by omega)
  · show (if qa_CH = g.1 then q else φ qa_CH) = t
    rw [if_neg (fun z => hn.1 z.symm)]
    exact q7
  · show (if qa_SC = g.1 then q else φ qa_SC) = _
    rw [if_neg (fun z => hn.2 z.symm)]
    exact q8
  · have ha2 : a < n0 ∨ g.1 + 1 ≤ a := ha
    show (if a = g.1 then q else φ a) = _
    rw [if_neg (by omega)]
    exact q9 a (by omega)
  · show x < g.1 + 1
    unfold qa_z at hx
    split at hx
    · cases hx
    · have := q10 a k x hx; omega
  · obtain ⟨x1, x2, x3⟩ := q11 ho
    have e1 : (fun a => if a = g.1 then q else φ a) qa_SC = φ qa_SC := if_neg (fun z => hn.2 z.symm)
    rw [e1]
    exact ⟨x1, x2, x3⟩
theorem qa_frame_push {φ : Nat → Nat} {n q : Nat} {lo : qa_V} {st : List Value} (hn : n ≠ qa_CH ∧ n ≠ qa_SC) (hwf : qa_wf n lo st) : (∀ v ∈ st, qa_c (fun a => if a = n then q else φ a) v = qa_c φ v) ∧ ∀ v, some v ∈ lo → qa_c (fun a => if a = n then q else φ a) v = qa_c φ v := by
  have h1 : ∀ a, a < n → (fun a => if a = n then q else φ a) a = φ a := fun a ha => if_neg (by omega)
  have h2 : (fun a => if a = n then q else φ a) qa_CH = φ qa_CH := if_neg (fun z => hn.1 z.symm)
  have h3 : (fun a => if a = n then q else φ a) qa_SC = φ qa_SC := if_neg (fun z => hn.2 z.symm)
  exact ⟨fun v hv => qa_c_same h1 h2 h3 (hwf.1 v hv), fun v hv => qa_c_same h1 h2 h3 (hwf.2 v hv)⟩
theorem qa_deft {φ : Nat → Nat} {ty : FieldType} (h : ty = .int ∨ ty = .boolean ∨ ty = .long ∨ (∃ C, ty = .object C) ∨ ∃ u, ty = .array u) : defaultValue ty = qa_fv φ ty 0 0 none := by
  rcases h with rfl | rfl | rfl | ⟨C, rfl⟩ | ⟨u, rfl⟩ <;> rfl
theorem qx_new {M : qa_M} {pc idx ci N : Nat} {C : String} {T : u_T} {d : Nat} {b : Nat × Nat} {lo : qa_V} {st : List Value} {g : qa_G} {I : qa_I} {J : qa_J} {R : qa_R} {Q : qa_Q} (h : decode M.2.2.1 pc = .ok (.new idx, 3)) (hc : qa_cl[ci]? = some (C, T, N)) (hw1 : Cond.classLink M.1 idx C ∈ lw_tbl) (hw2 : Cond.instantiable C N ∈ lw_tbl) (hw3 : Cond.initialized C ∈ lw_tbl)
    (hty : ∀ k, k < N → (qa_ty ci k = .int ∨ qa_ty ci k = .boolean ∨ qa_ty ci k = .long ∨ (∃ C, qa_ty ci k = .object C) ∨ ∃ u, qa_ty ci k = .array u)) (hn : g.1 ≠ qa_CH ∧ g.1 ≠ qa_SC) (hb : g.1 + 1 ≤ b.1 ∧ g.2.1 + N ≤ b.2) (hwf : qa_wf g.1 lo st)
    (hk : qa_WP d M b (pc + 3) lo (.ref g.1 :: st) (qa_g1 g N (.inl ci)) (qa_z I g.1 0) (qa_z J g.1 0) (qa_z R g.1 none) Q) : qa_WP d M b pc lo st g I J R Q := by
  intro p l e rm s m args below meth c D dA A t X0 φ0 n0 w0 Z hA hG hR hT H locs cells slots ls φ hH hl
  obtain ⟨c1, c2, c3, c4⟩ := qa_clok hc
  refine va_new (fs := (List.range (qa_nf ci)).map fun k => qa_fv φ (qa_ty ci k) 0 0 none) hA.1 hA.2.1 hA.2.2.2.2.2.1 c1 (qa_ty ci) c2 hA.2.2.2.2.1 (hA.2.2.2.2.2.1 _ (qa_mem hw1 rfl)) (hA.2.2.2.2.2.1 _ (qa_mem hw2 rfl)) (hA.2.2.2.2.2.1 _ (qa_mem hw3 rfl)) hG.1 hH.1 hH.2.1 hH.2.2.1 hG.2.1 hc (fun j hj => ?_) ?_ ?_ h (fun q H1 hP hD hS => ?_)
  · rw [c4]
    simp only [vp_V, List.getD_eq_getElem?_getD, List.getElem?_map, List.getElem?_range hj, Option.map_some, Option.getD_some]
    exact qa_deft (hty j hj)
  · have := hR.2.2.1; have := hH.2.2.2.2.1; have := hb.1; omega
  · have := hR.2.2.2; have := hH.2.2.2.2.2.1; have := hb.2; omega
  · obtain ⟨f1, f2⟩ := qa_frame_push (φ := φ) (q := q) hn hwf
    have hW := hk p l e rm s m args below meth c D dA A t X0 φ0 n0 w0 Z hA hG hR hT H1 locs (cells + 1) (slots + N) ls _ (qa_Hp_push (w := N) (q := q) (y := .inl ci) hH hn rfl hP hD hS) (hl.same f2)
    have e1 : (Value.ref g.1 :: st).map (qa_c (fun a => if a = g.1 then q else φ a)) = .ref q :: st.map (qa_c φ) := by
      rw [List.map_cons, qa_map_same f1]
      show Value.ref (if g.1 = g.1 then q else φ g.1) :: _ = _
      rw [if_pos rfl]
    rw [e1] at hW
    exact hW
theorem qa_dA {s : State} {D : va_G} {dA : Nat → ClassId} {k : Nat} {cA : ClassId} {ty : FieldType} (hK : va_K D qa_cl (qa_tys dA) s) (hk : (qa_tys dA)[k]? = some (dA k, ty)) (h : s.vm.findClass ("[" ++ ty.toString) = some cA) : cA = dA k := by
  have h2 := (hK.2 k _ hk).2
  cases ty with
  | object C =>
    obtain ⟨_, _, -, -, -, h4⟩ := h2
    exact Option.some.inj (h.symm.trans h4)
  | _ => exact Option.some.inj (h.symm.trans h2)
theorem qx_newa {M : qa_M} {pc k len : Nat} {ty : FieldType} {at1 : ArrayType} {d : Nat} {b : Nat × Nat} {lo : qa_V} {n : Int32} {st : List Value} {g : qa_G} {I : qa_I} {J : qa_J} {R : qa_R} {Q : qa_Q} (h : decode M.2.2.1 pc = .ok (.newarray at1, 2)) (hty : newarray.typeOf at1 = ty) (hw1 : Cond.arrayClass ty ∈ lw_tbl) (hkt : ∀ dA : Nat → ClassId, (qa_tys dA)[k]? = some (dA k, ty))
    (ha : ∀ (φ : Nat → Nat) (cA : ClassId), vp_cell cA (qa_ar φ k len (fun _ => 0) (fun _ => 0) (fun _ => none)) = arrV cA len (fun _ => defaultValue ty)) (hnn : ¬ n < 0) (hlen : n.toNatClampNeg = len) (hby : len * componentBytes ty ≤ 536870912) (hn : g.1 ≠ qa_CH ∧ g.1 ≠ qa_SC) (hb : g.1 + 1 ≤ b.1 ∧ g.2.1 + len ≤ b.2) (hwf : qa_wf g.1 lo st)
    (hk : qa_WP d M b (pc + 2) lo (.ref g.1 :: st) (qa_g1 g len (.inr (k, len))) (qa_z I g.1 0) (qa_z J g.1 0) (qa_z R g.1 none) Q) : qa_WP d M b pc lo (.int n :: st) g I J R Q := by
  intro p l e rm s m args below meth c D dA A t X0 φ0 n0 w0 Z hA hG hR hT H locs cells slots ls φ hH hl
  subst hty
  refine va_newa (a0 := qa_ar φ k len (fun _ => 0) (fun _ => 0) (fun _ => none)) hA.1 hA.2.1 (hA.2.2.2.2.2.1 _ (qa_mem hw1 rfl)) rfl hG.1 hH.1 hH.2.1 hH.2.2.1 hG.2.1 (ha φ) hnn hlen hby ?_ ?_ h (fun q cA H1 hK hP hD hS => ?_)
  · have := hR.2.2.1; have := hH.2.2.2.2.1; have := hb.1; omega
  · have := hR.2.2.2; have := hH.2.2.2.2.2.1; have := hb.2; omega
  · obtain ⟨f1, f2⟩ := qa_frame_push (φ := φ) (q := q) hn hwf
    have hcA : cA = dA k := by
      have h5 := (hK.2 (qa_tys dA).length (cA, newarray.typeOf at1) (by simp)).2
      refine qa_dA (ty := newarray.typeOf at1) hG.1 (hkt dA) ?_
      cases at1 <;> exact h5
    subst hcA
    have he : (Sum.inl (dA k, qa_ar φ k len (fun _ => 0) (fun _ => 0) (fun _ => none)) : va_E) = qa_cell dA (fun a => if a = g.1 then q else φ a) (.inr (k, len)) (fun _ => 0) (fun _ => 0) (fun _ => none) := by
      rw [qa_cell_same (φ := φ)]
      · rfl
      · intro _; rfl
    have hW := hk p l e rm s m args below meth c D dA A t X0 φ0 n0 w0 Z hA hG hR hT H1 locs (cells + 1) (slots + len) ls _ (qa_Hp_push (w := len) (q := q) (y := .inr (k, len)) hH hn he hP hD hS) (hl.same f2)
    have e1 : (Value.ref g.1 :: st).map (qa_c (fun a => if a = g.1 then q else φ a)) = .ref q :: st.map (qa_c φ) := by
      rw [List.map_cons, qa_map_same f1]
      show Value.ref (if g.1 = g.1 then q else φ g.1) :: _ = _
      rw [if_pos rfl]
    rw [e1] at hW
    exact hW
theorem qx_objI {M : qa_M} {pc idx : Nat} {d : Nat} {b : Nat × Nat} {lo : qa_V} {a : Nat} {st : List Value} {g : qa_G} {I : qa_I} {J : qa_J} {R : qa_R} {Q : qa_Q} (h : decode M.2.2.1 pc = .ok (.invokespecial idx, 3)) (hw1 : Cond.methodLink M.1 idx objectInit ∈ lw_tbl) (hw2 : Cond.instanceMethod objectInit ∈ lw_tbl) (hw3 : Cond.code objectInit ⟨#[0xb1]⟩ 1 none ∈ lw_tbl) (hst : (st.map fun v => v.category).sum ≤ 8)
    (hk : qa_WP (d + 1) M b (pc + 3) lo st g I J R Q) : qa_WP (d + 1) M b pc lo (.ref a :: st) g I J R Q := by
  intro p l e rm s m args below meth c D dA A t X0 φ0 n0 w0 Z hA hG hR hT H locs cells slots ls φ hH hl
  have hcats : ((st.map (qa_c φ)).map fun v => v.category).sum ≤ 8 := by
    rw [List.map_map]
    have e9 : ((fun v : Value => v.category) ∘ qa_c φ) = fun v : Value => v.category := funext (fun v => qa_c_cat φ v)
    rw [e9]
    exact hst
  refine W.objInit hA.1 hA.2.1 hA.2.2.2.2.1 (hA.2.2.2.2.2.1 _ (qa_mem hw1 rfl)) (hA.2.2.2.2.2.1 _ (qa_mem hw2 rfl)) (hA.2.2.2.2.2.1 _ (qa_mem hw3 rfl)) rfl (hl.1.trans hA.2.2.1.symm) rfl h ?_ ?_ ?_
  · have := hR.1; omega
  · have := hR.2.1
    show 2 * 0 + _ + 12 ≤ rm.locals
    omega
  · exact hk p l e rm s m args below meth c D dA A t X0 φ0 n0 w0 Z hA hG hR hT H locs cells slots ls φ hH hl
