/-! THE CLAIM OUT OF ONE WALK OF THE LAW'S BODY. Your part is whole_start (and what it stands on); all else here is the same for every law, but numbers. -/
def R_law : String := "CostFormulasLaw"
def lw_P (b : Addr) (xs : List Int32) (args : Array Value) (s : State) : Prop := args = #[.ref b] ∧ s.IntsAt b xs ∧ xs.length ≤ 2560 ∧ (Jvm.Cond.and given_1 narrow_1).before args s = true
def lw_Q (_ : Array Value) (s : State) (o : Outcome) (t : State) : Prop := o = .returned (some (.int 1)) ∧ Framed s o t [] 600000 7302250
def lw_Z (below : List Frame) (a : Array Value) (s : State) : State → Prop := fun t => ∃ o, t.status = .running ∧ Ended t below o ∧ lw_Q a s o t
/-- the law's own end, with 1 on the stack, nothing written that was there before, its room as the claim has it -/
theorem lw_ret {p : Program} {l : Launch} {e : Env} {s : State} {m : MethodId} {below : List Frame} {meth : Method} {c : Code} {b : Nat} (hx : p.tables.exec = Jvm.exec) (hb : c.code = code) (hr : meth.sig.returnType = ret) (hlocks : meth.locks = false) {pc : Nat} {H : Heap} {ls : Array Slot} (hdg : decode code pc = .ok (.ireturn, 1)) : W p l e room_1 s m #[Value.ref b] below meth c H [] 600000 7302250 (lw_Z below #[Value.ref b] s) (F0 m pc ls [.int 1]) := by
  intro T hT X
  obtain ⟨fs, hret, hrun, hended, hW, hframe⟩ := X.leave (v := some (.int 1)) (hlocks := hlocks) (fun h => by rw [hr] at h; cases h)
  have hmeth' : T.vm.method? m = some meth := X.method'
  refine ⟨T.setFrames fs, ?_, .returned (some (.int 1)), hrun, hended, rfl, ⟨_, rfl⟩, hW, hframe⟩
  jvm_step X.here [X.here.top, hx, hb, hdg, hmeth', hr, ret, narrow_b1]
  (try refine ⟨rfl, ?_⟩); (try refine ⟨rfl, ?_⟩)
  first | (intro acts; rw [hret _ acts rfl rfl rfl]) | rw [hret _ _ rfl rfl rfl]
  exact Steps.refl _
/-- what holds at the law's entry: the machine, the code, the tables' words (any of lw_tbl by 'hts w (by decide +kernel)'), the script of L ints xs at the cell b, what the Statement gives of the start (any of its parts by flat_of_before) -/
def lw_At (p : Program) (s : State) (m : MethodId) (meth : Method) (c : Code) (b L : Nat) (xs : Nat → Int32) : Prop :=
  p.tables.exec = Jvm.exec ∧ c.code = code ∧ meth.sig.returnType = ret ∧ c.maxLocals = 4 ∧ s.vm.findClass R_law = some m.cls ∧ (∀ w ∈ lw_tbl, w.before #[Value.ref b] s = true) ∧ va_X b L xs s s.heap ∧ b < s.heap.size ∧ meth.locks = false ∧ (Jvm.Cond.and given_1 narrow_1).before #[Value.ref b] s = true
def ch_st : Term := .static "CostFormulas$Sums" "CHOICES" "[I"
theorem ch_key : ∀ j : Fin 36, Cond.eq (.elem ch_st (.int (Int32.ofNat j.val))) (.int (qa_chi j.val)) ∈ flatC (Jvm.Cond.and given_1 narrow_1) := by decide +kernel
theorem whole_start {p : Program} {e : Env} {s : State} {m : MethodId} {below : List Frame} {meth : Method} {c : Code} (l : Launch) {b L : Nat} {xs : Nat → Int32} (hL : L ≤ 2560) (C0 : lw_At p s m meth c b L xs) : W p l e room_1 s m #[Value.ref b] below meth c s.heap [] 0 0 (lw_Z below #[Value.ref b] s) (entryFrame m ([Value.ref b] : List Value).toArray 4) := by
  obtain ⟨hx, hb, hr, hml, hown, hts, hX, hbl, hlocks, hgv⟩ := id C0
  have htsT : ∀ w ∈ qa_T, w.before #[Value.ref b] s = true := fun w hw => hts w (List.mem_filter.mp hw).1
  obtain ⟨c0, i0, k0⟩ := u_known (C := RX0) (T := TX0) (N := 3) (n := 3) htsT qa_inX0 (hts (.instantiable RX0 3) (by decide +kernel))
  obtain ⟨c1, i1, k1⟩ := u_known (C := RX1) (T := TX1) (N := 12) (n := 12) htsT qa_inX1 (hts (.instantiable RX1 12) (by decide +kernel))
  obtain ⟨c2, i2, k2⟩ := u_known (C := RX2) (T := TX2) (N := 6) (n := 6) htsT qa_inX2 (hts (.instantiable RX2 6) (by decide +kernel))
  obtain ⟨c3, i3, k3⟩ := u_known (C := RX3) (T := TX3) (N := 8) (n := 8) htsT qa_inX3 (hts (.instantiable RX3 8) (by decide +kernel))
  obtain ⟨c4, i4, k4⟩ := u_known (C := RX4) (T := TX4) (N := 5) (n := 5) htsT qa_inX4 (hts (.instantiable RX4 5) (by decide +kernel))
  obtain ⟨c5, i5, k5⟩ := u_known (C := RX6) (T := TX6) (N := 2) (n := 2) htsT qa_inX6 (hts (.instantiable RX6 2) (by decide +kernel))
  obtain ⟨c6, i6, k6⟩ := u_known (C := RX7) (T := TX7) (N := 6) (n := 6) htsT qa_inX7 (hts (.instantiable RX7 6) (by decide +kernel))
  obtain ⟨c7, i7, k7⟩ := u_known (C := RX8) (T := TX8) (N := 12) (n := 12) htsT qa_inX8 (hts (.instantiable RX8 12) (by decide +kernel))
  obtain ⟨c8, i8, k8⟩ := u_known (C := RX9) (T := TX9) (N := 44) (n := 44) htsT qa_inX9 (hts (.instantiable RX9 44) (by decide +kernel))
  obtain ⟨a0, ka0, co0, na0, qa0, za0⟩ := Cond.arrayClass_spec (hts (.arrayClass .int) (by decide +kernel))
  obtain ⟨a1, ka1, co1, na1, qa1, za1⟩ := Cond.arrayClass_spec (hts (.arrayClass .long) (by decide +kernel))
  obtain ⟨a2, ka2, co2, na2, qa2, za2⟩ := Cond.arrayClass_spec (hts (.arrayClass .boolean) (by decide +kernel))
  obtain ⟨co3, a3, ka3, m1, m2, m3, m4, m5⟩ := Cond.arrayOver_spec (hts (.arrayOver (.object RX1)) (by decide +kernel))
  obtain ⟨dC, dI, hKc⟩ : ∃ (dC : Nat → ClassId) (dI : Nat → Nat → Nat), ∀ (k : Nat) (q : vw_C), qa_cl[k]? = some q → u_Kn s q.1 q.2.1 q.2.2 (dC k) (dI k) := by
    refine ⟨fun k => match k with | 0 => c0 | 1 => c1 | 2 => c2 | 3 => c3 | 4 => c4 | 5 => c5 | 6 => c6 | 7 => c7 | _ => c8, fun k => match k with | 0 => i0 | 1 => i1 | 2 => i2 | 3 => i3 | 4 => i4 | 5 => i5 | 6 => i6 | 7 => i7 | _ => i8, ?_⟩
    intro k q hq
    match k, hq with
    | 0, hq => cases hq; exact k0
    | 1, hq => cases hq; exact k1
    | 2, hq => cases hq; exact k2
    | 3, hq => cases hq; exact k3
    | 4, hq => cases hq; exact k4
    | 5, hq => cases hq; exact k5
    | 6, hq => cases hq; exact k6
    | 7, hq => cases hq; exact k7
    | 8, hq => cases hq; exact k8
    | k + 9, hq => simp [qa_cl] at hq
  obtain ⟨dA, hKa⟩ : ∃ dA : Nat → ClassId, ∀ (k : Nat) (q : ClassId × FieldType), (qa_tys dA)[k]? = some q → ArrOfT s q.1 q.2 ∧ va_RA s q.1 q.2 := by
    refine ⟨fun k => match k with | 0 => a0 | 1 => a1 | 2 => a2 | _ => a3, ?_⟩
    intro k q hq
    match k, hq with
    | 0, hq => cases hq; exact ⟨fun n z => ⟨fun k h => (by cases h), ka0, qa0, co0, za0⟩, na0⟩
    | 1, hq => cases hq; exact ⟨fun n z => ⟨fun k h => (by cases h), ka1, qa1, co1, za1⟩, na1⟩
    | 2, hq => cases hq; exact ⟨fun n z => ⟨fun k h => (by cases h), ka2, qa2, co2, za2⟩, na2⟩
    | 3, hq => cases hq; exact ⟨fun n z => ⟨fun k h => (by cases h), ka3, m3, co3, m4⟩, ka3, co3, m3, m4, m1, m5⟩
    | k + 4, hq => simp [qa_tys] at hq
  have hK : va_K (dC, dI) qa_cl (qa_tys dA) s := ⟨hKc, hKa⟩
  have flat := flat_of_before _ hgv
  obtain ⟨t, ht, hT⟩ := va_Tof (tm := ch_st) (ty := .int) (N := 36) (f := fun j => .int (qa_chi j)) (A := fun q => s.heap.size ≤ q) (by decide) (flat (.arrayOf ch_st .int) (by decide +kernel)) (va_eqt (flat (.eq (.length ch_st) (.int 36)) (by decide +kernel))) (fun j hj => va_eqt (flat _ (ch_key ⟨j, hj⟩))) (fun a ha => Nat.not_le.mpr ha)
  have hZ : va_Z "CostFormulas$Sums" "CHOICES" "[I" (.ref t) (fun q => s.heap.size ≤ q) s s.heap := va_Zof (hts (.laysStatic "CostFormulas$Sums" "CHOICES" "[I") (by decide +kernel)) (hts (.initialized "CostFormulas$Sums") (by decide +kernel)) ht (fun a ha => Nat.not_le.mpr ha)
  have hAm : qa_Am p s m #[Value.ref b] meth c mL_law := ⟨hx, hb, hml, hr, hown, htsT, ⟨fun w hw hn => va_tabs (by cases w <;> first | rfl | cases hn) rfl (hts w hw), va_AO.of (hts (.arrayOver (.object RX1)) (by decide +kernel))⟩, hlocks, fun z => by cases z⟩
  have hGl : qa_Gl s (dC, dI) dA (fun q => s.heap.size ≤ q) t := ⟨hK, fun _ h => h, hZ, hT⟩
  have hφ1 : (fun a : Nat => if a = qa_CH then t else b) qa_CH = t := if_pos rfl
  have hφ2 : (fun a : Nat => if a = qa_CH then t else b) qa_SC = b := if_neg (by decide)
  have hen := lv_entry ([Value.ref b]) (n := 4) (Nat.le_of_ble_eq_true rfl)
  rw [lg_entry_eq]
  refine lw_begin (d := 0) (X := (L, xs)) hL p l e room_1 s m _ below meth c (dC, dI) dA (fun q => s.heap.size ≤ q) t (L, xs) (fun a => if a = qa_CH then t else b) 0 0 _ hAm hGl ⟨by decide, by decide, by decide, by decide⟩ ?_ s.heap [] 0 0 _ (fun a => if a = qa_CH then t else b) ⟨?_, ?_, va_S.rf, fun a _ => rfl, rfl, rfl, ⟨hφ1, rfl, rfl⟩, fun _ _ => rfl, fun a k x h => (by cases h), fun _ => ?_⟩ ⟨hen.1, hen.2.1, Nat.le_of_ble_eq_true rfl, ?_⟩
  · intro r φ g I J R H locs cells slots pc ls i hQ hg1 hg2 hH hri hdec
    have hQ : r = some (.int 1) := hQ
    subst hQ
    obtain ⟨q1, q2, q3, q4, q5, q6, q7⟩ := hH
    rcases hri with ⟨z, -⟩ | ⟨v, z, -⟩ | ⟨v, z1, z2, z3, rfl⟩ | ⟨v, z, -⟩
    · cases z
    · cases z
    · have e1 : cells = 127 := by have : g.1 = 127 := hg1; omega
      have e2 : slots = 20173 := by have : g.2.1 = 20173 := hg2; omega
      refine W.widen (k := 600000) (n := 7302250) (by omega) (by omega) ?_
      exact va_forget (fun q hq => q3.2.2 q hq) (lw_ret hx hb hr hlocks hdec)
    · cases z
  · intro k q h
    simp [qa_W, tg] at h
  · exact ⟨fun i j p q h => by simp [qa_W, tg] at h, fun k q h => by simp [qa_W, tg] at h⟩
  · rw [hφ2]
    exact ⟨hX, hbl, Nat.not_le.mpr hbl⟩
  · intro i v hi
    match i, hi with
    | 0, hi =>
      cases hi
      have := hen.2.2 (0, .ref b) (List.mem_cons_self ..)
      have e : qa_c (fun a : Nat => if a = qa_CH then t else b) (.ref qa_SC) = .ref b := congrArg Value.ref hφ2
      rw [e]
      exact this
    | 1, hi => cases hi
    | 2, hi => cases hi
    | 3, hi => cases hi
    | i + 4, hi => simp at hi
