def qa_wv (n : Nat) (v : Value) : Prop := match v with
  | .ref a => a < n ∨ a = qa_CH ∨ a = qa_SC
  | _ => True
/-- all references of a frame are to cells that there are -/
def qa_wf (n : Nat) (lo : qa_V) (st : List Value) : Prop := (∀ v ∈ st, qa_wv n v) ∧ ∀ v, some v ∈ lo → qa_wv n v
theorem qa_c_same {φ φ' : Nat → Nat} {n : Nat} (h1 : ∀ a, a < n → φ' a = φ a) (h2 : φ' qa_CH = φ qa_CH) (h3 : φ' qa_SC = φ qa_SC) {v : Value} (hv : qa_wv n v) : qa_c φ' v = qa_c φ v := by
  cases v with
  | ref a =>
    rcases hv with h | h | h
    · show Value.ref (φ' a) = .ref (φ a)
      rw [h1 a h]
    · subst h
      show Value.ref (φ' _) = .ref (φ _)
      rw [h2]
    · subst h
      show Value.ref (φ' _) = .ref (φ _)
      rw [h3]
  | _ => rfl
theorem qa_map_same {φ φ' : Nat → Nat} {st : List Value} (h : ∀ v ∈ st, qa_c φ' v = qa_c φ v) : st.map (qa_c φ') = st.map (qa_c φ) := List.map_congr_left h
theorem qa_ls.same {φ φ' : Nat → Nat} {nL : Nat} {lo : qa_V} {ls : Array Slot} (h : qa_ls φ nL lo ls) (hc : ∀ v, some v ∈ lo → qa_c φ' v = qa_c φ v) : qa_ls φ' nL lo ls :=
  ⟨h.1, h.2.1, h.2.2.1, fun i v hi => by rw [hc v (List.mem_of_getElem? hi)]; exact h.2.2.2 i v hi⟩
/-- behind a call -/
theorem qa_after {p : Program} {l : Launch} {e : Env} {rm : Room} {s : State} {m : MethodId} {args a : Array Value} {below : List Frame} {meth : Method} {c : Code} {D : va_G} {dA : Nat → ClassId} {A : Nat → Prop} {t : Nat} {X0 : Nat × (Nat → Int32)} {φ0 : Nat → Nat} {n0 w0 : Nat} {Z : State → Prop} {M : qa_M} {d pc : Nat} {b b' : Nat × Nat} {lo : qa_V} {rest st0 : List Value} {g : qa_G} {I : qa_I} {J : qa_J} {R : qa_R} {Q Q' : qa_Q}
    (hA : qa_Am p s m args meth c M) (hG : qa_Gl s D dA A t) (hR : qa_Rm d b n0 w0 rm) (hT : qa_Rt p l e rm s m args below meth c D dA A t X0 φ0 n0 w0 M b Q Z)
    {H : Heap} {locs : List Loc} {cells slots : Nat} {ls : Array Slot} {φ : Nat → Nat} (hH : qa_Hp M.1 s D dA A t X0 φ0 n0 w0 φ g I J R H locs cells slots) (hl : qa_ls φ M.2.2.2.1 lo ls)
    (hb : g.1 ≤ b'.1 ∧ g.2.1 ≤ b'.2) (hwf : qa_wf g.1 lo rest ∨ g.1 = b'.1)
    (hrun : va_Run p l e rm s m args below meth c H locs cells slots (b'.1 - g.1) (b'.2 - g.2.1) (F0 m pc ls st0) (rest.map (qa_c φ)) (qa_Qc D dA t φ b' g I J R H.size Q' a) (va_A (qa_W dA φ g I J R) H.size))
    (hk : ∀ r g' I' J' R', Q' r g' I' J' R' → qa_WP d M b (pc + 3) lo (r.toList ++ rest) g' I' J' R' Q) : W p l e rm s m args below meth c H locs cells slots Z (F0 m pc ls st0) := by
  intro T hTT X
  obtain ⟨v, st₀, t2, T', L, h0, X', hL, e1, e2, ⟨⟨r, φ', g', I', J', R', hv, hQ, b1, b2, hg', hR', hch, ⟨hsc, hx⟩, hφ, hP', hD'⟩, hz, hkp⟩, stp⟩ := hrun T hTT X
  cases hv
  rw [h0] at hz hkp
  obtain ⟨q1, q2, q3, q4, q5, q6, ⟨q7, q8, q8x⟩, q9, q10, q11⟩ := hH
  have hfree : ∀ q, va_A (qa_W dA φ g I J R) H.size q → A q := by
    intro q hq
    rcases hq with ⟨k, ee, hh⟩ | hh
    · exact q2.2 k (q, ee) hh
    · exact hG.2.1 q (Nat.le_trans q3.1 hh)
  have hsame : (∀ v ∈ rest, qa_c φ' v = qa_c φ v) ∧ ∀ v, some v ∈ lo → qa_c φ' v = qa_c φ v := by
    rcases hwf with hw | hw
    · exact ⟨fun v hv => qa_c_same (fun a ha => hφ a (Or.inl ha)) (hch.trans q7.symm) hsc (hw.1 v hv), fun v hv => qa_c_same (fun a ha => hφ a (Or.inl ha)) (hch.trans q7.symm) hsc (hw.2 v hv)⟩
    · have : φ' = φ := by
        funext a
        rcases Nat.lt_or_ge a g.1 with z | z
        · exact hφ a (Or.inl z)
        · exact hφ a (Or.inr (by rw [b1, ← hw]; exact z))
      rw [this]
      exact ⟨fun _ _ => rfl, fun _ _ => rfl⟩
  have hS' : va_S A s.heap T'.heap (locs ++ L) := ⟨Nat.le_trans q3.1 (by rw [e1]; exact hz), fun q h1 h2 => by rw [e1, hkp q (Nat.lt_of_lt_of_le h1 q3.1) (fun z => h2 (hfree q z))]; exact q3.2.1 q h1 h2, fun q hq => by
      rcases List.mem_append.mp hq with h | h
      · exact q3.2.2 q h
      · exact hfree _ (hL q h)⟩
  have hW := hk r g' I' J' R' hQ p l e rm s m args below meth c D dA A t X0 φ0 n0 w0 Z hA hG hR hT T'.heap (locs ++ L) (cells + (b'.1 - g.1)) (slots + (b'.2 - g.2.1)) ls φ' ⟨by rw [e1]; exact hP', hD'.weaken (fun _ q _ hq => hfree q.1 hq), hS', hg', by omega, by omega, ⟨hch, hsc.trans q8, hx.trans q8x⟩, fun a ha => ?_, hR', fun ho => ?_⟩ (hl.same hsame.2)
  · have e3 : (r.toList ++ rest).map (qa_c φ') = (r.map (qa_c φ')).toList ++ rest.map (qa_c φ) := by
      rw [List.map_append, qa_map_same hsame.1]
      cases r <;> rfl
    rw [e3] at hW
    obtain ⟨tt, a1, b1⟩ := hW T' rfl X'
    exact ⟨tt, stp tt a1, b1⟩
  · rw [hφ a (by omega)]
    exact q9 a (by omega)
  · rw [hsc, hx]
    exact q11 ho
theorem qa_bef {D : va_G} {dA : Nat → ClassId} {t : Nat} {φ : Nat → Nat} {av : List Value} {g : qa_G} {I : qa_I} {J : qa_J} {R : qa_R} {sz : Nat} : FrameBlind (va_Pc (av.map (qa_c φ)) (qa_Gs D dA t φ g I J R sz)) := by
  intro a U gg mk q
  obtain ⟨q0, q1, q2, q3, q4, q5, q6, q7, q8⟩ := q
  refine ⟨q0, q1, q2, va_K.moved (u := U) (U := U.calling gg mk a) (Vm.Alike.refl U.vm) q3, q4, ?_, ?_, fun w hw hn => ?_, ?_⟩
  · exact va_Z.moved (u := U) (U := U.calling gg mk a) (Vm.Alike.refl U.vm) q5
  · exact va_T.moved (u := U) (U := U.calling gg mk a) (Vm.Alike.refl U.vm) q6
  · exact va_Nw.same (u := U) (U := U.calling gg mk a) (by cases w <;> first | rfl | cases hn) rfl (q7 w hw hn)
  · exact va_AO.moved (u := U) (U := U.calling gg mk a) (Vm.Alike.refl U.vm) q8
theorem qa_pre {p : Program} {s : State} {m : MethodId} {args : Array Value} {meth : Method} {c : Code} {D : va_G} {dA : Nat → ClassId} {A : Nat → Prop} {t : Nat} {X0 : Nat × (Nat → Int32)} {φ0 : Nat → Nat} {n0 w0 : Nat} {M : qa_M} {g : qa_G} {I : qa_I} {J : qa_J} {R : qa_R}
    (hA : qa_Am p s m args meth c M) (hG : qa_Gl s D dA A t) {H : Heap} {locs : List Loc} {cells slots : Nat} {φ : Nat → Nat} (hH : qa_Hp M.1 s D dA A t X0 φ0 n0 w0 φ g I J R H locs cells slots) (U : State) (hU : U.heap = H) (hW : s.WarmedH U.vm) : qa_Gs D dA t φ g I J R H.size U := by
  obtain ⟨q1, q2, q3, q4, -⟩ := hH
  have hfree : ∀ q, va_A (qa_W dA φ g I J R) H.size q → A q := by
    intro q hq
    rcases hq with ⟨k, ee, hh⟩ | hh
    · exact q2.2 k (q, ee) hh
    · exact hG.2.1 q (Nat.le_trans q3.1 hh)
  refine ⟨by rw [hU], by rw [hU]; exact q1, va_K.moved hW.alike hG.1, q2.weaken (fun _ _ _ _ => trivial), ?_, ?_, fun w hw hn => ?_, ?_⟩
  · have h1 := (hG.2.2.1.kept (H1 := H) (fun a ha hn => q3.2.1 a ha hn)).moved hW.alike
    rw [hU]
    exact h1.narrow hfree
  · have h1 := (hG.2.2.2.kept (H1 := H) (fun a ha hn => q3.2.1 a ha hn)).moved hW.alike
    rw [hU]
    exact h1.narrow hfree
  · have h1 := hA.2.2.2.2.2.2.1.1 w hw hn
    cases w with
    | fieldLinkNest a i b n d h => exact h1.warmF hW
    | methodLinkNest a i x h => exact h1.warmM hW
    | _ => cases hn
  · exact hA.2.2.2.2.2.2.1.2.moved hW.alike
theorem qa_words {s : State} {args : Array Value} (h : ∀ w ∈ qa_T, w.before args s = true) {y : MethodName} {cc : ByteArray} {nL : Nat} {ret : Option FieldType} (hc : Cond.code y cc nL ret ∈ lw_tbl) : ∀ w ∈ (Cond.code y cc nL ret :: qa_T), ∀ (a' : Array Value) (U : State), s.WarmedH U.vm → w.before a' U = true := by
  intro w hw a' U hW
  have hw2 : w ∈ qa_T := by
    rcases List.mem_cons.mp hw with q | q
    · rw [q]; exact qa_mem hc rfl
    · exact q
  exact word_at hW (good_of_word (List.mem_filter.mp hw2).2) (h w hw2)
theorem qx_callV {M N : qa_M} {pc idx n : Nat} {d : Nat} {b b' : Nat × Nat} {lo : qa_V} {av rest : List Value} {g : qa_G} {I : qa_I} {J : qa_J} {R : qa_R} {Q Q' : qa_Q} {a ci NF : Nat} {C : String} {T : u_T} (hci : qa_cl[ci]? = some (C, T, NF)) (hcl : g.2.2.1 a = .inl ci) (hi1 : Cond.instanceMethod N.2.1 ∈ lw_tbl) (hi2 : Cond.selects C N.2.1 N.2.1 ∈ lw_tbl) (h : decode M.2.2.1 pc = .ok (.invokevirtual idx, 3)) (hm : qa_mok N) (hn : (parseMethodDescriptor N.2.1.desc).map (fun d => d.parameters.length) = some n) (hl1 : Cond.methodLink M.1 idx N.2.1 ∈ lw_tbl) (hb : g.1 ≤ b'.1 ∧ g.2.1 ≤ b'.2) (hb2 : b'.1 ≤ b.1 ∧ b'.2 ≤ b.2) (hwf : qa_wf g.1 lo rest ∨ g.1 = b'.1) (hst : (rest.map fun v => v.category).sum ≤ 8) (hav : av.length = n)
    (hc : qa_Call d N (.ref a :: av) b' g I J R Q') (hk : ∀ r g' I' J' R', Q' r g' I' J' R' → qa_WP (d + 1) M b (pc + 3) lo (r.toList ++ rest) g' I' J' R' Q) : qa_WP (d + 1) M b pc lo (av.reverse ++ .ref a :: rest) g I J R Q := by
  intro p l e rm s m args below meth c D dA A t X0 φ0 n0 w0 Z hA hG hR hT H locs cells slots ls φ hH hl
  have hst1 : (av.reverse ++ .ref a :: rest).map (qa_c φ) = (av.map (qa_c φ)).reverse ++ .ref (φ a) :: rest.map (qa_c φ) := by simp [qa_c]
  rw [hst1]
  have hcats : ((rest.map (qa_c φ)).map fun v => v.category).sum ≤ 8 := by
    rw [List.map_map]
    have e9 : ((fun v : Value => v.category) ∘ qa_c φ) = fun v : Value => v.category := funext (fun v => qa_c_cat φ v)
    rw [e9]
    exact hst
  have hM := hc l D dA t φ H.size hH.2.2.2.2.2.2.1.1 hH.2.2.2.1 hH.2.2.2.2.2.2.2.2.1
  have hfr : d + 1 ≤ rm.frames := hR.1
  have hlo : 8 + (N.2.2.2.1 + 11) + 60 * d ≤ rm.locals := by
    have := hR.2.1
    have h41 : N.2.2.2.1 ≤ 41 := hm.2.2.2.2.2.2.1
    omega
  have hpn : ∀ sig, parseMethodDescriptor N.2.1.desc = some sig → n = sig.parameters.length := fun sig hs => by
    have hn := hn
    try dsimp only at hn
    rw [hs] at hn
    exact (Option.some.inj hn).symm
  have hc1 : cells + (b'.1 - g.1) ≤ rm.cells := by
    have := hR.2.2.1; have := hH.2.2.2.2.1; have := hb.1; have := hb2.1; omega
  have hc2 : slots + (b'.2 - g.2.1) ≤ rm.slots := by
    have := hR.2.2.2; have := hH.2.2.2.2.2.1; have := hb.2; have := hb2.2; omega
  exact qa_after hA hG hR hT hH hl hb hwf (Q' := Q') (va_runV (b := φ a) (C := C) (As := av.map (qa_c φ)) (rest := rest.map (qa_c φ)) (n := n) (nL := M.2.2.2.1) (Ts := qa_T) (own := M.1) ⟨hA.1, hA.2.1, hA.2.2.1, hA.2.2.2.2.1, hA.2.2.2.2.2.1⟩ hM ⟨⟨rfl, rfl, hfr, hlo, qa_words hA.2.2.2.2.2.1 hm.2.2.2.1, List.mem_cons_self, hA.2.2.2.2.2.1 _ (qa_mem hm.2.2.2.1 rfl), hA.2.2.2.2.2.1 _ (qa_mem hm.2.2.2.2.1 rfl), hm.2.2.2.2.2.1, hpn, hA.2.2.2.2.2.1 _ (qa_mem hl1 rfl)⟩, hA.2.2.2.2.2.1 _ (qa_mem hi1 rfl), hA.2.2.2.2.2.1 _ (qa_mem hi2 rfl)⟩ ⟨qa_bef, va_recv (q := (C, T, NF)) hG.1 hH.1 hci (qa_obj hH.2.2.2.1 hcl), fun U hU hW => ⟨rfl, qa_pre hA hG hH U hU hW⟩⟩ rfl (by rw [List.length_map]; exact hav) hl.1 rfl (lv_room hcats) h ⟨hc1, hc2⟩) hk
theorem qx_callVN {M N : qa_M} {pc idx n : Nat} {d : Nat} {b b' : Nat × Nat} {lo : qa_V} {av rest : List Value} {g : qa_G} {I : qa_I} {J : qa_J} {R : qa_R} {Q Q' : qa_Q} {host : String} {a ci NF : Nat} {C : String} {T : u_T} (hci : qa_cl[ci]? = some (C, T, NF)) (hcl : g.2.2.1 a = .inl ci) (hi1 : Cond.instanceMethod N.2.1 ∈ lw_tbl) (hi2 : Cond.selects C N.2.1 N.2.1 ∈ lw_tbl) (h : decode M.2.2.1 pc = .ok (.invokevirtual idx, 3)) (hm : qa_mok N) (hn : (parseMethodDescriptor N.2.1.desc).map (fun d => d.parameters.length) = some n) (hl1 : Cond.methodLinkNest M.1 idx N.2.1 host ∈ lw_tbl) (hb : g.1 ≤ b'.1 ∧ g.2.1 ≤ b'.2) (hb2 : b'.1 ≤ b.1 ∧ b'.2 ≤ b.2) (hwf : qa_wf g.1 lo rest ∨ g.1 = b'.1) (hst : (rest.map fun v => v.category).sum ≤ 8) (hav : av.length = n)
    (hc : qa_Call d N (.ref a :: av) b' g I J R Q') (hk : ∀ r g' I' J' R', Q' r g' I' J' R' → qa_WP (d + 1) M b (pc + 3) lo (r.toList ++ rest) g' I' J' R' Q) : qa_WP (d + 1) M b pc lo (av.reverse ++ .ref a :: rest) g I J R Q := by
  intro p l e rm s m args below meth c D dA A t X0 φ0 n0 w0 Z hA hG hR hT H locs cells slots ls φ hH hl
  have hst1 : (av.reverse ++ .ref a :: rest).map (qa_c φ) = (av.map (qa_c φ)).reverse ++ .ref (φ a) :: rest.map (qa_c φ) := by simp [qa_c]
  rw [hst1]
  have hcats : ((rest.map (qa_c φ)).map fun v => v.category).sum ≤ 8 := by
    rw [List.map_map]
    have e9 : ((fun v : Value => v.category) ∘ qa_c φ) = fun v : Value => v.category := funext (fun v => qa_c_cat φ v)
    rw [e9]
    exact hst
  have hM := hc l D dA t φ H.size hH.2.2.2.2.2.2.1.1 hH.2.2.2.1 hH.2.2.2.2.2.2.2.2.1
  have hfr : d + 1 ≤ rm.frames := hR.1
  have hlo : 8 + (N.2.2.2.1 + 11) + 60 * d ≤ rm.locals := by
    have := hR.2.1
    have h41 : N.2.2.2.1 ≤ 41 := hm.2.2.2.2.2.2.1
    omega
  have hpn : ∀ sig, parseMethodDescriptor N.2.1.desc = some sig → n = sig.parameters.length := fun sig hs => by
    have hn := hn
    try dsimp only at hn
    rw [hs] at hn
    exact (Option.some.inj hn).symm
  have hc1 : cells + (b'.1 - g.1) ≤ rm.cells := by
    have := hR.2.2.1; have := hH.2.2.2.2.1; have := hb.1; have := hb2.1; omega
  have hc2 : slots + (b'.2 - g.2.1) ≤ rm.slots := by
    have := hR.2.2.2; have := hH.2.2.2.2.2.1; have := hb.2; have := hb2.2; omega
  exact qa_after hA hG hR hT hH hl hb hwf (Q' := Q') (va_runVN (b := φ a) (C := C) (As := av.map (qa_c φ)) (rest := rest.map (qa_c φ)) (n := n) (nL := M.2.2.2.1) (Ts := qa_T) (own := M.1) ⟨hA.1, hA.2.1, hA.2.2.1, hA.2.2.2.2.1, hA.2.2.2.2.2.1⟩ hM ⟨⟨⟨rfl, rfl, hfr, hlo, qa_words hA.2.2.2.2.2.1 hm.2.2.2.1, List.mem_cons_self⟩, hA.2.2.2.2.2.1 _ (qa_mem hm.2.2.2.1 rfl), hA.2.2.2.2.2.1 _ (qa_mem hm.2.2.2.2.1 rfl), hm.2.2.2.2.2.1, hpn, (hA.2.2.2.2.2.2.1.1 _ hl1 rfl).use rfl⟩, hA.2.2.2.2.2.1 _ (qa_mem hi1 rfl), hA.2.2.2.2.2.1 _ (qa_mem hi2 rfl)⟩ ⟨qa_bef, va_recv (q := (C, T, NF)) hG.1 hH.1 hci (qa_obj hH.2.2.2.1 hcl), fun U hU hW => ⟨rfl, qa_pre hA hG hH U hU hW⟩⟩ rfl (by rw [List.length_map]; exact hav) hl.1 rfl (lv_room hcats) h ⟨hc1, hc2⟩) hk
theorem qx_callS {M N : qa_M} {pc idx n : Nat} {d : Nat} {b b' : Nat × Nat} {lo : qa_V} {av rest : List Value} {g : qa_G} {I : qa_I} {J : qa_J} {R : qa_R} {Q Q' : qa_Q} (hi1 : Cond.static N.2.1 ∈ lw_tbl) (h : decode M.2.2.1 pc = .ok (.invokestatic idx, 3)) (hm : qa_mok N) (hn : (parseMethodDescriptor N.2.1.desc).map (fun d => d.parameters.length) = some n) (hl1 : Cond.methodLink M.1 idx N.2.1 ∈ lw_tbl) (hb : g.1 ≤ b'.1 ∧ g.2.1 ≤ b'.2) (hb2 : b'.1 ≤ b.1 ∧ b'.2 ≤ b.2) (hwf : qa_wf g.1 lo rest ∨ g.1 = b'.1) (hst : (rest.map fun v => v.category).sum ≤ 8) (hav : av.length = n)
    (hc : qa_Call d N av b' g I J R Q') (hk : ∀ r g' I' J' R', Q' r g' I' J' R' → qa_WP (d + 1) M b (pc + 3) lo (r.toList ++ rest) g' I' J' R' Q) : qa_WP (d + 1) M b pc lo (av.reverse ++ rest) g I J R Q := by
  intro p l e rm s m args below meth c D dA A t X0 φ0 n0 w0 Z hA hG hR hT H locs cells slots ls φ hH hl
  have hst1 : (av.reverse ++ rest).map (qa_c φ) = (av.map (qa_c φ)).reverse ++ rest.map (qa_c φ) := by simp [qa_c]
  rw [hst1]
  have hcats : ((rest.map (qa_c φ)).map fun v => v.category).sum ≤ 8 := by
    rw [List.map_map]
    have e9 : ((fun v : Value => v.category) ∘ qa_c φ) = fun v : Value => v.category := funext (fun v => qa_c_cat φ v)
    rw [e9]
    exact hst
  have hM := hc l D dA t φ H.size hH.2.2.2.2.2.2.1.1 hH.2.2.2.1 hH.2.2.2.2.2.2.2.2.1
  have hfr : d + 1 ≤ rm.frames := hR.1
  have hlo : 8 + (N.2.2.2.1 + 11) + 60 * d ≤ rm.locals := by
    have := hR.2.1
    have h41 : N.2.2.2.1 ≤ 41 := hm.2.2.2.2.2.2.1
    omega
  have hpn : ∀ sig, parseMethodDescriptor N.2.1.desc = some sig → n = sig.parameters.length := fun sig hs => by
    have hn := hn
    try dsimp only at hn
    rw [hs] at hn
    exact (Option.some.inj hn).symm
  have hc1 : cells + (b'.1 - g.1) ≤ rm.cells := by
    have := hR.2.2.1; have := hH.2.2.2.2.1; have := hb.1; have := hb2.1; omega
  have hc2 : slots + (b'.2 - g.2.1) ≤ rm.slots := by
    have := hR.2.2.2; have := hH.2.2.2.2.2.1; have := hb.2; have := hb2.2; omega
  exact qa_after hA hG hR hT hH hl hb hwf (Q' := Q') (va_runS  (As := av.map (qa_c φ)) (rest := rest.map (qa_c φ)) (n := n) (nL := M.2.2.2.1) (Ts := qa_T) (own := M.1) ⟨hA.1, hA.2.1, hA.2.2.1, hA.2.2.2.2.1, hA.2.2.2.2.2.1⟩ hM ⟨⟨rfl, rfl, hfr, hlo, qa_words hA.2.2.2.2.2.1 hm.2.2.2.1, List.mem_cons_self, hA.2.2.2.2.2.1 _ (qa_mem hm.2.2.2.1 rfl), hA.2.2.2.2.2.1 _ (qa_mem hm.2.2.2.2.1 rfl), hm.2.2.2.2.2.1, hpn, hA.2.2.2.2.2.1 _ (qa_mem hl1 rfl)⟩, hA.2.2.2.2.2.1 _ (qa_mem hi1 rfl)⟩ ⟨qa_bef, fun U hU hW => ⟨rfl, qa_pre hA hG hH U hU hW⟩⟩ rfl (by rw [List.length_map]; exact hav) hl.1 rfl (lv_room hcats) h ⟨hc1, hc2⟩) hk
theorem qx_callI {M N : qa_M} {pc idx n : Nat} {d : Nat} {b b' : Nat × Nat} {lo : qa_V} {av rest : List Value} {g : qa_G} {I : qa_I} {J : qa_J} {R : qa_R} {Q Q' : qa_Q} {a : Nat} (hi1 : Cond.instanceMethod N.2.1 ∈ lw_tbl) (hi2 : N.2.1.name = "<init>") (hret : N.2.2.2.2.1 = none) (h : decode M.2.2.1 pc = .ok (.invokespecial idx, 3)) (hm : qa_mok N) (hn : (parseMethodDescriptor N.2.1.desc).map (fun d => d.parameters.length) = some n) (hl1 : Cond.methodLink M.1 idx N.2.1 ∈ lw_tbl) (hb : g.1 ≤ b'.1 ∧ g.2.1 ≤ b'.2) (hb2 : b'.1 ≤ b.1 ∧ b'.2 ≤ b.2) (hwf : qa_wf g.1 lo rest ∨ g.1 = b'.1) (hst : (rest.map fun v => v.category).sum ≤ 8) (hav : av.length = n)
    (hc : qa_Call d N (.ref a :: av) b' g I J R Q') (hk : ∀ r g' I' J' R', Q' r g' I' J' R' → qa_WP (d + 1) M b (pc + 3) lo (r.toList ++ rest) g' I' J' R' Q) : qa_WP (d + 1) M b pc lo (av.reverse ++ .ref a :: rest) g I J R Q := by
  obtain ⟨nn1, nn2, nn3, nn4, nn5, nn6⟩ := N
  dsimp only at hret
  subst hret
  intro p l e rm s m args below meth c D dA A t X0 φ0 n0 w0 Z hA hG hR hT H locs cells slots ls φ hH hl
  have hst1 : (av.reverse ++ .ref a :: rest).map (qa_c φ) = (av.map (qa_c φ)).reverse ++ .ref (φ a) :: rest.map (qa_c φ) := by simp [qa_c]
  rw [hst1]
  have hcats : ((rest.map (qa_c φ)).map fun v => v.category).sum ≤ 8 := by
    rw [List.map_map]
    have e9 : ((fun v : Value => v.category) ∘ qa_c φ) = fun v : Value => v.category := funext (fun v => qa_c_cat φ v)
    rw [e9]
    exact hst
  have hM := hc l D dA t φ H.size hH.2.2.2.2.2.2.1.1 hH.2.2.2.1 hH.2.2.2.2.2.2.2.2.1
  have hfr : d + 1 ≤ rm.frames := hR.1
  have hlo : 8 + (nn4 + 11) + 60 * d ≤ rm.locals := by
    have := hR.2.1
    have h41 : nn4 ≤ 41 := hm.2.2.2.2.2.2.1
    omega
  have hpn : ∀ sig, parseMethodDescriptor nn2.desc = some sig → n = sig.parameters.length := fun sig hs => by
    have hn := hn
    try dsimp only at hn
    rw [hs] at hn
    exact (Option.some.inj hn).symm
  have hc1 : cells + (b'.1 - g.1) ≤ rm.cells := by
    have := hR.2.2.1; have := hH.2.2.2.2.1; have := hb.1; have := hb2.1; omega
  have hc2 : slots + (b'.2 - g.2.1) ≤ rm.slots := by
    have := hR.2.2.2; have := hH.2.2.2.2.2.1; have := hb.2; have := hb2.2; omega
  exact qa_after hA hG hR hT hH hl hb hwf (Q' := Q') (va_runI (b := φ a) (As := av.map (qa_c φ)) (rest := rest.map (qa_c φ)) (n := n) (nL := M.2.2.2.1) (Ts := qa_T) (own := M.1) ⟨hA.1, hA.2.1, hA.2.2.1, hA.2.2.2.2.1, hA.2.2.2.2.2.1⟩ hM ⟨⟨rfl, rfl, hfr, hlo, qa_words hA.2.2.2.2.2.1 hm.2.2.2.1, List.mem_cons_self, hA.2.2.2.2.2.1 _ (qa_mem hm.2.2.2.1 rfl), hA.2.2.2.2.2.1 _ (qa_mem hm.2.2.2.2.1 rfl), hm.2.2.2.2.2.1, hpn, hA.2.2.2.2.2.1 _ (qa_mem hl1 rfl)⟩, hi2, hA.2.2.2.2.2.1 _ (qa_mem hi1 rfl)⟩ ⟨qa_bef, fun U hU hW => ⟨rfl, qa_pre hA hG hH U hU hW⟩⟩ rfl (by rw [List.length_map]; exact hav) hl.1 rfl (lv_room hcats) h ⟨hc1, hc2⟩) hk
theorem qx_callIN {M N : qa_M} {pc idx n : Nat} {d : Nat} {b b' : Nat × Nat} {lo : qa_V} {av rest : List Value} {g : qa_G} {I : qa_I} {J : qa_J} {R : qa_R} {Q Q' : qa_Q} {host : String} {a : Nat} (hi1 : Cond.instanceMethod N.2.1 ∈ lw_tbl) (hi2 : N.2.1.name = "<init>") (hret : N.2.2.2.2.1 = none) (h : decode M.2.2.1 pc = .ok (.invokespecial idx, 3)) (hm : qa_mok N) (hn : (parseMethodDescriptor N.2.1.desc).map (fun d => d.parameters.length) = some n) (hl1 : Cond.methodLinkNest M.1 idx N.2.1 host ∈ lw_tbl) (hb : g.1 ≤ b'.1 ∧ g.2.1 ≤ b'.2) (hb2 : b'.1 ≤ b.1 ∧ b'.2 ≤ b.2) (hwf : qa_wf g.1 lo rest ∨ g.1 = b'.1) (hst : (rest.map fun v => v.category).sum ≤ 8) (hav : av.length = n)
    (hc : qa_Call d N (.ref a :: av) b' g I J R Q') (hk : ∀ r g' I' J' R', Q' r g' I' J' R' → qa_WP (d + 1) M b (pc + 3) lo (r.toList ++ rest) g' I' J' R' Q) : qa_WP (d + 1) M b pc lo (av.reverse ++ .ref a :: rest) g I J R Q := by
  obtain ⟨nn1, nn2, nn3, nn4, nn5, nn6⟩ := N
  dsimp only at hret
  subst hret
  intro p l e rm s m args below meth c D dA A t X0 φ0 n0 w0 Z hA hG hR hT H locs cells slots ls φ hH hl
  have hst1 : (av.reverse ++ .ref a :: rest).map (qa_c φ) = (av.map (qa_c φ)).reverse ++ .ref (φ a) :: rest.map (qa_c φ) := by simp [qa_c]
  rw [hst1]
  have hcats : ((rest.map (qa_c φ)).map fun v => v.category).sum ≤ 8 := by
    rw [List.map_map]
    have e9 : ((fun v : Value => v.category) ∘ qa_c φ) = fun v : Value => v.category := funext (fun v => qa_c_cat φ v)
    rw [e9]
    exact hst
  have hM := hc l D dA t φ H.size hH.2.2.2.2.2.2.1.1 hH.2.2.2.1 hH.2.2.2.2.2.2.2.2.1
  have hfr : d + 1 ≤ rm.frames := hR.1
  have hlo : 8 + (nn4 + 11) + 60 * d ≤ rm.locals := by
    have := hR.2.1
    have h41 : nn4 ≤ 41 := hm.2.2.2.2.2.2.1
    omega
  have hpn : ∀ sig, parseMethodDescriptor nn2.desc = some sig → n = sig.parameters.length := fun sig hs => by
    have hn := hn
    try dsimp only at hn
    rw [hs] at hn
    exact (Option.some.inj hn).symm
  have hc1 : cells + (b'.1 - g.1) ≤ rm.cells := by
    have := hR.2.2.1; have := hH.2.2.2.2.1; have := hb.1; have := hb2.1; omega
  have hc2 : slots + (b'.2 - g.2.1) ≤ rm.slots := by
    have := hR.2.2.2; have := hH.2.2.2.2.2.1; have := hb.2; have := hb2.2; omega
  exact qa_after hA hG hR hT hH hl hb hwf (Q' := Q') (va_runIN (b := φ a) (As := av.map (qa_c φ)) (rest := rest.map (qa_c φ)) (n := n) (nL := M.2.2.2.1) (Ts := qa_T) (own := M.1) ⟨hA.1, hA.2.1, hA.2.2.1, hA.2.2.2.2.1, hA.2.2.2.2.2.1⟩ hM ⟨⟨⟨rfl, rfl, hfr, hlo, qa_words hA.2.2.2.2.2.1 hm.2.2.2.1, List.mem_cons_self⟩, hA.2.2.2.2.2.1 _ (qa_mem hm.2.2.2.1 rfl), hA.2.2.2.2.2.1 _ (qa_mem hm.2.2.2.2.1 rfl), hm.2.2.2.2.2.1, hpn, (hA.2.2.2.2.2.2.1.1 _ hl1 rfl).use rfl⟩, hi2, hA.2.2.2.2.2.1 _ (qa_mem hi1 rfl)⟩ ⟨qa_bef, fun U hU hW => ⟨rfl, qa_pre hA hG hH U hU hW⟩⟩ rfl (by rw [List.length_map]; exact hav) hl.1 rfl (lv_room hcats) h ⟨hc1, hc2⟩) hk
