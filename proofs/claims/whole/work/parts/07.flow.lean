theorem qx_goto {M : qa_M} {pc : Nat} {d : Nat} {b : Nat × Nat} {lo : qa_V} {st : List Value} {g : qa_G} {I : qa_I} {J : qa_J} {R : qa_R} {Q : qa_Q} {off : Int} {tgt : Nat} (h : decode M.2.2.1 pc = .ok (.goto off, 3)) (ht : (pc : Int) + off = (tgt : Int)) (k : qa_WP d M b tgt lo st g I J R Q) : qa_WP d M b pc lo st g I J R Q := by
  intro p l e rm s m args below meth c D dA A t X0 φ0 n0 w0 Z hA hG hR hT H locs cells slots ls φ hH hl
  exact lv_goto hA.1 hA.2.1 h ht (k _ _ _ _ _ _ _ _ _ _ _ _ _ _ _ _ _ _ _ hA hG hR hT _ _ _ _ _ _ hH hl)
def qe_if_eq (st : List Value) (kt kf : List Value → Prop) : Prop := match st with
  | .int x :: st => (x = 0 → kt st) ∧ (¬ x = 0 → kf st)
  | _ => False
theorem qx_if_eq {M : qa_M} {pc : Nat} {d : Nat} {b : Nat × Nat} {lo : qa_V} {st : List Value} {g : qa_G} {I : qa_I} {J : qa_J} {R : qa_R} {Q : qa_Q} {off : Int} {tgt : Nat} (h : decode M.2.2.1 pc = .ok (.ifCond .eq off, 3)) (ht : (pc : Int) + off = (tgt : Int)) (k : qe_if_eq st (fun st => qa_WP d M b tgt lo st g I J R Q) (fun st => qa_WP d M b (pc + 3) lo st g I J R Q)) : qa_WP d M b pc lo st g I J R Q := by
  unfold qe_if_eq at k
  split at k
  · intro p l e rm s m args below meth c D dA A t X0 φ0 n0 w0 Z hA hG hR hT H locs cells slots ls φ hH hl
    exact lv_if_eq hA.1 hA.2.1 h ht (fun q => k.1 q _ _ _ _ _ _ _ _ _ _ _ _ _ _ _ _ _ _ _ hA hG hR hT _ _ _ _ _ _ hH hl) (fun q => k.2 q _ _ _ _ _ _ _ _ _ _ _ _ _ _ _ _ _ _ _ hA hG hR hT _ _ _ _ _ _ hH hl)
  · exact k.elim
def qe_icmp_eq (st : List Value) (kt kf : List Value → Prop) : Prop := match st with
  | .int y :: .int x :: st => (x = y → kt st) ∧ (¬ x = y → kf st)
  | _ => False
theorem qx_icmp_eq {M : qa_M} {pc : Nat} {d : Nat} {b : Nat × Nat} {lo : qa_V} {st : List Value} {g : qa_G} {I : qa_I} {J : qa_J} {R : qa_R} {Q : qa_Q} {off : Int} {tgt : Nat} (h : decode M.2.2.1 pc = .ok (.if_icmp .eq off, 3)) (ht : (pc : Int) + off = (tgt : Int)) (k : qe_icmp_eq st (fun st => qa_WP d M b tgt lo st g I J R Q) (fun st => qa_WP d M b (pc + 3) lo st g I J R Q)) : qa_WP d M b pc lo st g I J R Q := by
  unfold qe_icmp_eq at k
  split at k
  · intro p l e rm s m args below meth c D dA A t X0 φ0 n0 w0 Z hA hG hR hT H locs cells slots ls φ hH hl
    exact lv_icmp_eq hA.1 hA.2.1 h ht (fun q => k.1 q _ _ _ _ _ _ _ _ _ _ _ _ _ _ _ _ _ _ _ hA hG hR hT _ _ _ _ _ _ hH hl) (fun q => k.2 q _ _ _ _ _ _ _ _ _ _ _ _ _ _ _ _ _ _ _ hA hG hR hT _ _ _ _ _ _ hH hl)
  · exact k.elim
def qe_if_ne (st : List Value) (kt kf : List Value → Prop) : Prop := match st with
  | .int x :: st => (¬ x = 0 → kt st) ∧ (x = 0 → kf st)
  | _ => False
theorem qx_if_ne {M : qa_M} {pc : Nat} {d : Nat} {b : Nat × Nat} {lo : qa_V} {st : List Value} {g : qa_G} {I : qa_I} {J : qa_J} {R : qa_R} {Q : qa_Q} {off : Int} {tgt : Nat} (h : decode M.2.2.1 pc = .ok (.ifCond .ne off, 3)) (ht : (pc : Int) + off = (tgt : Int)) (k : qe_if_ne st (fun st => qa_WP d M b tgt lo st g I J R Q) (fun st => qa_WP d M b (pc + 3) lo st g I J R Q)) : qa_WP d M b pc lo st g I J R Q := by
  unfold qe_if_ne at k
  split at k
  · intro p l e rm s m args below meth c D dA A t X0 φ0 n0 w0 Z hA hG hR hT H locs cells slots ls φ hH hl
    exact lv_if_ne hA.1 hA.2.1 h ht (fun q => k.1 q _ _ _ _ _ _ _ _ _ _ _ _ _ _ _ _ _ _ _ hA hG hR hT _ _ _ _ _ _ hH hl) (fun q => k.2 q _ _ _ _ _ _ _ _ _ _ _ _ _ _ _ _ _ _ _ hA hG hR hT _ _ _ _ _ _ hH hl)
  · exact k.elim
def qe_icmp_ne (st : List Value) (kt kf : List Value → Prop) : Prop := match st with
  | .int y :: .int x :: st => (¬ x = y → kt st) ∧ (x = y → kf st)
  | _ => False
theorem qx_icmp_ne {M : qa_M} {pc : Nat} {d : Nat} {b : Nat × Nat} {lo : qa_V} {st : List Value} {g : qa_G} {I : qa_I} {J : qa_J} {R : qa_R} {Q : qa_Q} {off : Int} {tgt : Nat} (h : decode M.2.2.1 pc = .ok (.if_icmp .ne off, 3)) (ht : (pc : Int) + off = (tgt : Int)) (k : qe_icmp_ne st (fun st => qa_WP d M b tgt lo st g I J R Q) (fun st => qa_WP d M b (pc + 3) lo st g I J R Q)) : qa_WP d M b pc lo st g I J R Q := by
  unfold qe_icmp_ne at k
  split at k
  · intro p l e rm s m args below meth c D dA A t X0 φ0 n0 w0 Z hA hG hR hT H locs cells slots ls φ hH hl
    exact lv_icmp_ne hA.1 hA.2.1 h ht (fun q => k.1 q _ _ _ _ _ _ _ _ _ _ _ _ _ _ _ _ _ _ _ hA hG hR hT _ _ _ _ _ _ hH hl) (fun q => k.2 q _ _ _ _ _ _ _ _ _ _ _ _ _ _ _ _ _ _ _ hA hG hR hT _ _ _ _ _ _ hH hl)
  · exact k.elim
def qe_if_lt (st : List Value) (kt kf : List Value → Prop) : Prop := match st with
  | .int x :: st => (x < 0 → kt st) ∧ (¬ x < 0 → kf st)
  | _ => False
theorem qx_if_lt {M : qa_M} {pc : Nat} {d : Nat} {b : Nat × Nat} {lo : qa_V} {st : List Value} {g : qa_G} {I : qa_I} {J : qa_J} {R : qa_R} {Q : qa_Q} {off : Int} {tgt : Nat} (h : decode M.2.2.1 pc = .ok (.ifCond .lt off, 3)) (ht : (pc : Int) + off = (tgt : Int)) (k : qe_if_lt st (fun st => qa_WP d M b tgt lo st g I J R Q) (fun st => qa_WP d M b (pc + 3) lo st g I J R Q)) : qa_WP d M b pc lo st g I J R Q := by
  unfold qe_if_lt at k
  split at k
  · intro p l e rm s m args below meth c D dA A t X0 φ0 n0 w0 Z hA hG hR hT H locs cells slots ls φ hH hl
    exact lv_if_lt hA.1 hA.2.1 h ht (fun q => k.1 q _ _ _ _ _ _ _ _ _ _ _ _ _ _ _ _ _ _ _ hA hG hR hT _ _ _ _ _ _ hH hl) (fun q => k.2 q _ _ _ _ _ _ _ _ _ _ _ _ _ _ _ _ _ _ _ hA hG hR hT _ _ _ _ _ _ hH hl)
  · exact k.elim
def qe_icmp_lt (st : List Value) (kt kf : List Value → Prop) : Prop := match st with
  | .int y :: .int x :: st => (x < y → kt st) ∧ (¬ x < y → kf st)
  | _ => False
theorem qx_icmp_lt {M : qa_M} {pc : Nat} {d : Nat} {b : Nat × Nat} {lo : qa_V} {st : List Value} {g : qa_G} {I : qa_I} {J : qa_J} {R : qa_R} {Q : qa_Q} {off : Int} {tgt : Nat} (h : decode M.2.2.1 pc = .ok (.if_icmp .lt off, 3)) (ht : (pc : Int) + off = (tgt : Int)) (k : qe_icmp_lt st (fun st => qa_WP d M b tgt lo st g I J R Q) (fun st => qa_WP d M b (pc + 3) lo st g I J R Q)) : qa_WP d M b pc lo st g I J R Q := by
  unfold qe_icmp_lt at k
  split at k
  · intro p l e rm s m args below meth c D dA A t X0 φ0 n0 w0 Z hA hG hR hT H locs cells slots ls φ hH hl
    exact lv_icmp_lt hA.1 hA.2.1 h ht (fun q => k.1 q _ _ _ _ _ _ _ _ _ _ _ _ _ _ _ _ _ _ _ hA hG hR hT _ _ _ _ _ _ hH hl) (fun q => k.2 q _ _ _ _ _ _ _ _ _ _ _ _ _ _ _ _ _ _ _ hA hG hR hT _ _ _ _ _ _ hH hl)
  · exact k.elim
def qe_if_ge (st : List Value) (kt kf : List Value → Prop) : Prop := match st with
  | .int x :: st => (0 ≤ x → kt st) ∧ (¬ 0 ≤ x → kf st)
  | _ => False
theorem qx_if_ge {M : qa_M} {pc : Nat} {d : Nat} {b : Nat × Nat} {lo : qa_V} {st : List Value} {g : qa_G} {I : qa_I} {J : qa_J} {R : qa_R} {Q : qa_Q} {off : Int} {tgt : Nat} (h : decode M.2.2.1 pc = .ok (.ifCond .ge off, 3)) (ht : (pc : Int) + off = (tgt : Int)) (k : qe_if_ge st (fun st => qa_WP d M b tgt lo st g I J R Q) (fun st => qa_WP d M b (pc + 3) lo st g I J R Q)) : qa_WP d M b pc lo st g I J R Q := by
  unfold qe_if_ge at k
  split at k
  · intro p l e rm s m args below meth c D dA A t X0 φ0 n0 w0 Z hA hG hR hT H locs cells slots ls φ hH hl
    exact lv_if_ge hA.1 hA.2.1 h ht (fun q => k.1 q _ _ _ _ _ _ _ _ _ _ _ _ _ _ _ _ _ _ _ hA hG hR hT _ _ _ _ _ _ hH hl) (fun q => k.2 q _ _ _ _ _ _ _ _ _ _ _ _ _ _ _ _ _ _ _ hA hG hR hT _ _ _ _ _ _ hH hl)
  · exact k.elim
def qe_icmp_ge (st : List Value) (kt kf : List Value → Prop) : Prop := match st with
  | .int y :: .int x :: st => (y ≤ x → kt st) ∧ (¬ y ≤ x → kf st)
  | _ => False
theorem qx_icmp_ge {M : qa_M} {pc : Nat} {d : Nat} {b : Nat × Nat} {lo : qa_V} {st : List Value} {g : qa_G} {I : qa_I} {J : qa_J} {R : qa_R} {Q : qa_Q} {off : Int} {tgt : Nat} (h : decode M.2.2.1 pc = .ok (.if_icmp .ge off, 3)) (ht : (pc : Int) + off = (tgt : Int)) (k : qe_icmp_ge st (fun st => qa_WP d M b tgt lo st g I J R Q) (fun st => qa_WP d M b (pc + 3) lo st g I J R Q)) : qa_WP d M b pc lo st g I J R Q := by
  unfold qe_icmp_ge at k
  split at k
  · intro p l e rm s m args below meth c D dA A t X0 φ0 n0 w0 Z hA hG hR hT H locs cells slots ls φ hH hl
    exact lv_icmp_ge hA.1 hA.2.1 h ht (fun q => k.1 q _ _ _ _ _ _ _ _ _ _ _ _ _ _ _ _ _ _ _ hA hG hR hT _ _ _ _ _ _ hH hl) (fun q => k.2 q _ _ _ _ _ _ _ _ _ _ _ _ _ _ _ _ _ _ _ hA hG hR hT _ _ _ _ _ _ hH hl)
  · exact k.elim
def qe_if_gt (st : List Value) (kt kf : List Value → Prop) : Prop := match st with
  | .int x :: st => (0 < x → kt st) ∧ (¬ 0 < x → kf st)
  | _ => False
theorem qx_if_gt {M : qa_M} {pc : Nat} {d : Nat} {b : Nat × Nat} {lo : qa_V} {st : List Value} {g : qa_G} {I : qa_I} {J : qa_J} {R : qa_R} {Q : qa_Q} {off : Int} {tgt : Nat} (h : decode M.2.2.1 pc = .ok (.ifCond .gt off, 3)) (ht : (pc : Int) + off = (tgt : Int)) (k : qe_if_gt st (fun st => qa_WP d M b tgt lo st g I J R Q) (fun st => qa_WP d M b (pc + 3) lo st g I J R Q)) : qa_WP d M b pc lo st g I J R Q := by
  unfold qe_if_gt at k
  split at k
  · intro p l e rm s m args below meth c D dA A t X0 φ0 n0 w0 Z hA hG hR hT H locs cells slots ls φ hH hl
    exact lv_if_gt hA.1 hA.2.1 h ht (fun q => k.1 q _ _ _ _ _ _ _ _ _ _ _ _ _ _ _ _ _ _ _ hA hG hR hT _ _ _ _ _ _ hH hl) (fun q => k.2 q _ _ _ _ _ _ _ _ _ _ _ _ _ _ _ _ _ _ _ hA hG hR hT _ _ _ _ _ _ hH hl)
  · exact k.elim
def qe_icmp_gt (st : List Value) (kt kf : List Value → Prop) : Prop := match st with
  | .int y :: .int x :: st => (y < x → kt st) ∧ (¬ y < x → kf st)
  | _ => False
theorem qx_icmp_gt {M : qa_M} {pc : Nat} {d : Nat} {b : Nat × Nat} {lo : qa_V} {st : List Value} {g : qa_G} {I : qa_I} {J : qa_J} {R : qa_R} {Q : qa_Q} {off : Int} {tgt : Nat} (h : decode M.2.2.1 pc = .ok (.if_icmp .gt off, 3)) (ht : (pc : Int) + off = (tgt : Int)) (k : qe_icmp_gt st (fun st => qa_WP d M b tgt lo st g I J R Q) (fun st => qa_WP d M b (pc + 3) lo st g I J R Q)) : qa_WP d M b pc lo st g I J R Q := by
  unfold qe_icmp_gt at k
  split at k
  · intro p l e rm s m args below meth c D dA A t X0 φ0 n0 w0 Z hA hG hR hT H locs cells slots ls φ hH hl
    exact lv_icmp_gt hA.1 hA.2.1 h ht (fun q => k.1 q _ _ _ _ _ _ _ _ _ _ _ _ _ _ _ _ _ _ _ hA hG hR hT _ _ _ _ _ _ hH hl) (fun q => k.2 q _ _ _ _ _ _ _ _ _ _ _ _ _ _ _ _ _ _ _ hA hG hR hT _ _ _ _ _ _ hH hl)
  · exact k.elim
def qe_if_le (st : List Value) (kt kf : List Value → Prop) : Prop := match st with
  | .int x :: st => (x ≤ 0 → kt st) ∧ (¬ x ≤ 0 → kf st)
  | _ => False
theorem qx_if_le {M : qa_M} {pc : Nat} {d : Nat} {b : Nat × Nat} {lo : qa_V} {st : List Value} {g : qa_G} {I : qa_I} {J : qa_J} {R : qa_R} {Q : qa_Q} {off : Int} {tgt : Nat} (h : decode M.2.2.1 pc = .ok (.ifCond .le off, 3)) (ht : (pc : Int) + off = (tgt : Int)) (k : qe_if_le st (fun st => qa_WP d M b tgt lo st g I J R Q) (fun st => qa_WP d M b (pc + 3) lo st g I J R Q)) : qa_WP d M b pc lo st g I J R Q := by
  unfold qe_if_le at k
  split at k
  · intro p l e rm s m args below meth c D dA A t X0 φ0 n0 w0 Z hA hG hR hT H locs cells slots ls φ hH hl
    exact lv_if_le hA.1 hA.2.1 h ht (fun q => k.1 q _ _ _ _ _ _ _ _ _ _ _ _ _ _ _ _ _ _ _ hA hG hR hT _ _ _ _ _ _ hH hl) (fun q => k.2 q _ _ _ _ _ _ _ _ _ _ _ _ _ _ _ _ _ _ _ hA hG hR hT _ _ _ _ _ _ hH hl)
  · exact k.elim
def qe_icmp_le (st : List Value) (kt kf : List Value → Prop) : Prop := match st with
  | .int y :: .int x :: st => (x ≤ y → kt st) ∧ (¬ x ≤ y → kf st)
  | _ => False
theorem qx_icmp_le {M : qa_M} {pc : Nat} {d : Nat} {b : Nat × Nat} {lo : qa_V} {st : List Value} {g : qa_G} {I : qa_I} {J : qa_J} {R : qa_R} {Q : qa_Q} {off : Int} {tgt : Nat} (h : decode M.2.2.1 pc = .ok (.if_icmp .le off, 3)) (ht : (pc : Int) + off = (tgt : Int)) (k : qe_icmp_le st (fun st => qa_WP d M b tgt lo st g I J R Q) (fun st => qa_WP d M b (pc + 3) lo st g I J R Q)) : qa_WP d M b pc lo st g I J R Q := by
  unfold qe_icmp_le at k
  split at k
  · intro p l e rm s m args below meth c D dA A t X0 φ0 n0 w0 Z hA hG hR hT H locs cells slots ls φ hH hl
    exact lv_icmp_le hA.1 hA.2.1 h ht (fun q => k.1 q _ _ _ _ _ _ _ _ _ _ _ _ _ _ _ _ _ _ _ hA hG hR hT _ _ _ _ _ _ hH hl) (fun q => k.2 q _ _ _ _ _ _ _ _ _ _ _ _ _ _ _ _ _ _ _ hA hG hR hT _ _ _ _ _ _ hH hl)
  · exact k.elim
theorem qx_table {M : qa_M} {pc : Nat} {d : Nat} {b : Nat × Nat} {lo : qa_V} {st : List Value} {g : qa_G} {I : qa_I} {J : qa_J} {R : qa_R} {Q : qa_Q} {dflt lw hi : Int} {offs : Array Int} {len : Nat} {x : Int32} (h : decode M.2.2.1 pc = .ok (.tableswitch dflt lw hi offs, len)) (hd : (0 : Int) ≤ pc + dflt) (ho : offs.all (fun o => decide ((0 : Int) ≤ pc + o)) = true) (hs : hi - lw + 1 = offs.size)
    (kin : ∀ (i : Nat) (off : Int), offs[i]? = some off → x.toInt = lw + i → qa_WP d M b ((pc : Int) + off).toNat lo st g I J R Q) (kout : x.toInt < lw ∨ hi < x.toInt → qa_WP d M b ((pc : Int) + dflt).toNat lo st g I J R Q) : qa_WP d M b pc lo (.int x :: st) g I J R Q := by
  intro p l e rm s m args below meth c D dA A t X0 φ0 n0 w0 Z hA hG hR hT H locs cells slots ls φ hH hl
  by_cases h1 : x.toInt < lw
  · exact lv_tableOut hA.1 hA.2.1 h (Or.inl h1) (Int.toNat_of_nonneg hd).symm (kout (Or.inl h1) _ _ _ _ _ _ _ _ _ _ _ _ _ _ _ _ _ _ _ hA hG hR hT _ _ _ _ _ _ hH hl)
  · by_cases h2 : hi < x.toInt
    · exact lv_tableOut hA.1 hA.2.1 h (Or.inr h2) (Int.toNat_of_nonneg hd).symm (kout (Or.inr h2) _ _ _ _ _ _ _ _ _ _ _ _ _ _ _ _ _ _ _ hA hG hR hT _ _ _ _ _ _ hH hl)
    · have hlt : (x.toInt - lw).toNat < offs.size := by omega
      have hget : offs[(x.toInt - lw).toNat]? = some offs[(x.toInt - lw).toNat] := Array.getElem?_eq_getElem hlt
      have hpos : (0 : Int) ≤ pc + offs[(x.toInt - lw).toNat] := by
        have := Array.all_eq_true.mp ho (x.toInt - lw).toNat hlt
        simpa using this
      exact lv_tableIn hA.1 hA.2.1 h h1 h2 hget (Int.toNat_of_nonneg hpos).symm (kin _ _ hget (by omega) _ _ _ _ _ _ _ _ _ _ _ _ _ _ _ _ _ _ _ hA hG hR hT _ _ _ _ _ _ hH hl)
def qe_lk (kk : Nat → Prop) (pc : Nat) (ps : List (Int × Int)) (dflt : Int) (x : Int32) : Prop := match ps with
  | [] => kk ((pc : Int) + dflt).toNat
  | q :: ps => (x = Int32.ofInt q.1 → kk ((pc : Int) + q.2).toNat) ∧ (¬ x = Int32.ofInt q.1 → qe_lk kk pc ps dflt x)
theorem qe_lk_off {kk : Nat → Prop} {pc : Nat} {ps : List (Int × Int)} {dflt : Int} {x : Int32} (hr : ps.all (fun q => decide ((Int32.ofInt q.1).toInt = q.1)) = true) (h : qe_lk kk pc ps dflt x) : kk ((pc : Int) + Op.lookupswitch.offset ps dflt x.toInt).toNat := by
  induction ps with
  | nil => exact h
  | cons q ps ih =>
    obtain ⟨a, o⟩ := q
    simp only [List.all_cons, Bool.and_eq_true, decide_eq_true_eq] at hr
    by_cases hx : x = Int32.ofInt a
    · rw [Op.lookupswitch.offset_cons, if_pos (by rw [hx]; exact hr.1.symm)]
      exact h.1 hx
    · rw [lv_osw hx hr.1]
      exact ih hr.2 (h.2 hx)
theorem qx_lookup {M : qa_M} {pc : Nat} {d : Nat} {b : Nat × Nat} {lo : qa_V} {st : List Value} {g : qa_G} {I : qa_I} {J : qa_J} {R : qa_R} {Q : qa_Q} {dflt : Int} {ps : Array (Int × Int)} {len : Nat} {x : Int32} (h : decode M.2.2.1 pc = .ok (.lookupswitch dflt ps, len)) (hp : (ps.toList.zip (ps.toList.drop 1)).all (fun (a, next) => a.1 < next.1) = true) (hr : ps.toList.all (fun q => decide ((Int32.ofInt q.1).toInt = q.1)) = true) (hd : (0 : Int) ≤ pc + dflt) (ho : ps.toList.all (fun q => decide ((0 : Int) ≤ pc + q.2)) = true)
    (k : qe_lk (fun tgt => qa_WP d M b tgt lo st g I J R Q) pc ps.toList dflt x) : qa_WP d M b pc lo (.int x :: st) g I J R Q := by
  intro p l e rm s m args below meth c D dA A t X0 φ0 n0 w0 Z hA hG hR hT H locs cells slots ls φ hH hl
  have hpos : ∀ (qs : List (Int × Int)), qs.all (fun q => decide ((0 : Int) ≤ pc + q.2)) = true → (0 : Int) ≤ pc + Op.lookupswitch.offset qs dflt x.toInt := by
    intro qs hq
    induction qs with
    | nil => exact hd
    | cons q qs ih =>
      obtain ⟨a, o⟩ := q
      simp only [List.all_cons, Bool.and_eq_true, decide_eq_true_eq] at hq
      rw [Op.lookupswitch.offset_cons]
      split
      · exact hq.1
      · exact ih hq.2
  exact lv_lookup hA.1 hA.2.1 h hp rfl (Int.toNat_of_nonneg (hpos _ ho)).symm ((qe_lk_off hr k) _ _ _ _ _ _ _ _ _ _ _ _ _ _ _ _ _ _ _ hA hG hR hT _ _ _ _ _ _ hH hl)
theorem qx_vret {M : qa_M} {pc : Nat} {d : Nat} {b : Nat × Nat} {lo : qa_V} {st : List Value} {g : qa_G} {I : qa_I} {J : qa_J} {R : qa_R} {Q : qa_Q} (h : decode M.2.2.1 pc = .ok (.return_, 1)) (hr : M.2.2.2.2.1 = none) (hs : st = []) (hb : g.1 = b.1 ∧ g.2.1 = b.2) (k : Q none g I J R) : qa_WP d M b pc lo st g I J R Q := by
  subst hs
  intro p l e rm s m args below meth c D dA A t X0 φ0 n0 w0 Z hA hG hR hT H locs cells slots ls φ hH hl
  exact hT none φ g I J R H locs cells slots pc ls .return_ k hb.1 hb.2 hH (Or.inl ⟨hr, rfl, rfl⟩) h
def qe_ret (st : List Value) (k : Value → Prop) : Prop := match st with
  | [v] => k v
  | _ => False
theorem qx_iret {M : qa_M} {pc : Nat} {d : Nat} {b : Nat × Nat} {lo : qa_V} {st : List Value} {g : qa_G} {I : qa_I} {J : qa_J} {R : qa_R} {Q : qa_Q} (h : decode M.2.2.1 pc = .ok (.ireturn, 1)) (hr : M.2.2.2.2.1 = some .int) (hb : g.1 = b.1 ∧ g.2.1 = b.2) (k : match st with | [.int v] => Q (some (.int v)) g I J R | _ => False) : qa_WP d M b pc lo st g I J R Q := by
  split at k
  next v =>
    intro p l e rm s m args below meth c D dA A t X0 φ0 n0 w0 Z hA hG hR hT H locs cells slots ls φ hH hl
    exact hT (some (.int v)) φ g I J R H locs cells slots pc ls .ireturn k hb.1 hb.2 hH (Or.inr (Or.inl ⟨v, hr, rfl, rfl⟩)) h
  · exact k.elim
theorem qx_zret {M : qa_M} {pc : Nat} {d : Nat} {b : Nat × Nat} {lo : qa_V} {st : List Value} {g : qa_G} {I : qa_I} {J : qa_J} {R : qa_R} {Q : qa_Q} (h : decode M.2.2.1 pc = .ok (.ireturn, 1)) (hr : M.2.2.2.2.1 = some .boolean) (hb : g.1 = b.1 ∧ g.2.1 = b.2) (k : match st with | [.int v] => qa_b v ∧ Q (some (.int v)) g I J R | _ => False) : qa_WP d M b pc lo st g I J R Q := by
  split at k
  next v =>
    intro p l e rm s m args below meth c D dA A t X0 φ0 n0 w0 Z hA hG hR hT H locs cells slots ls φ hH hl
    exact hT (some (.int v)) φ g I J R H locs cells slots pc ls .ireturn k.2 hb.1 hb.2 hH (Or.inr (Or.inr (Or.inl ⟨v, hr, rfl, k.1, rfl⟩))) h
  · exact k.elim
theorem qx_lret {M : qa_M} {pc : Nat} {d : Nat} {b : Nat × Nat} {lo : qa_V} {st : List Value} {g : qa_G} {I : qa_I} {J : qa_J} {R : qa_R} {Q : qa_Q} (h : decode M.2.2.1 pc = .ok (.lreturn, 1)) (hr : M.2.2.2.2.1 = some .long) (hb : g.1 = b.1 ∧ g.2.1 = b.2) (k : match st with | [.long v] => Q (some (.long v)) g I J R | _ => False) : qa_WP d M b pc lo st g I J R Q := by
  split at k
  next v =>
    intro p l e rm s m args below meth c D dA A t X0 φ0 n0 w0 Z hA hG hR hT H locs cells slots ls φ hH hl
    exact hT (some (.long v)) φ g I J R H locs cells slots pc ls .lreturn k hb.1 hb.2 hH (Or.inr (Or.inr (Or.inr ⟨v, hr, rfl, rfl⟩))) h
  · exact k.elim
-- contracts
def qa_rm (d : Nat) (b : Nat × Nat) (g : qa_G) : Room := { frames := d, cells := b.1 - g.1, slots := b.2 - g.2.1, locals := 60 * d }
def qa_Gs (D : va_G) (dA : Nat → ClassId) (t : Nat) (φ : Nat → Nat) (g : qa_G) (I : qa_I) (J : qa_J) (R : qa_R) (sz : Nat) (U : State) : Prop :=
  U.heap.size = sz ∧ va_P D qa_cl (qa_W dA φ g I J R) U.heap ∧ va_K D qa_cl (qa_tys dA) U ∧ va_D (fun _ => True) (qa_W dA φ g I J R) ∧ va_Z "CostFormulas$Sums" "CHOICES" "[I" (.ref t) (va_A (qa_W dA φ g I J R) sz) U U.heap ∧ va_T .int t 36 (fun j => .int (qa_chi j)) (va_A (qa_W dA φ g I J R) sz) U U.heap ∧ (∀ w ∈ lw_tbl, qa_nest w = true → va_Nw w U) ∧ va_AO RX1 U
def qa_Qc (D : va_G) (dA : Nat → ClassId) (t : Nat) (φ : Nat → Nat) (b : Nat × Nat) (g : qa_G) (I : qa_I) (J : qa_J) (R : qa_R) (sz : Nat) (Q : qa_Q) : Array Value → State → Outcome → State → Prop := fun _ st oc tt =>
  (∃ (r : Option Value) (φ' : Nat → Nat) (g' : qa_G) (I' : qa_I) (J' : qa_J) (R' : qa_R), oc = .returned (r.map (qa_c φ')) ∧ Q r g' I' J' R' ∧ g'.1 = b.1 ∧ g'.2.1 = b.2 ∧ (∀ a, g'.1 ≤ a → g'.2.2.1 a = .inr (9, 0)) ∧ (∀ a k x, R' a k = some x → x < g'.1) ∧ φ' qa_CH = t ∧ (φ' qa_SC = φ qa_SC ∧ g'.2.2.2 = g.2.2.2) ∧ (∀ a, a < g.1 ∨ g'.1 ≤ a → φ' a = φ a) ∧ va_P D qa_cl (qa_W dA φ' g' I' J' R') tt.heap ∧ va_D (va_A (qa_W dA φ g I J R) sz) (qa_W dA φ' g' I' J' R')) ∧ va_F (va_A (qa_W dA φ g I J R) sz) st tt
/-- method M, called with these arguments and these cells, ends, and Q holds of its answer and its cells -/
def qa_Call (d : Nat) (M : qa_M) (av : List Value) (b : Nat × Nat) (g : qa_G) (I : qa_I) (J : qa_J) (R : qa_R) (Q : qa_Q) : Prop :=
  ∀ (l : Launch) (D : va_G) (dA : Nat → ClassId) (t : Nat) (φ : Nat → Nat) (sz : Nat), φ qa_CH = t → (∀ a, g.1 ≤ a → g.2.2.1 a = .inr (9, 0)) → (∀ a k x, R a k = some x → x < g.1) →
    Met l M.2.1 (Cond.code M.2.1 M.2.2.1 M.2.2.2.1 M.2.2.2.2.1 :: qa_T) (qa_rm d b g) (va_Pc (av.map (qa_c φ)) (qa_Gs D dA t φ g I J R sz)) (qa_Qc D dA t φ b g I J R sz Q) (b.1 - g.1) (b.2 - g.2.1) (va_A (qa_W dA φ g I J R) sz)
/-- what a program decides of a method -/
def qa_mok (M : qa_M) : Prop := plainName M.2.1.cls = true ∧ M.1 = M.2.1.cls ∧ ¬ M.1 = RL ∧ Cond.code M.2.1 M.2.2.1 M.2.2.2.1 M.2.2.2.2.1 ∈ lw_tbl ∧ Cond.initialized M.2.1.cls ∈ lw_tbl ∧ (M.2.1.cls ≠ "java/lang/invoke/MethodHandle" ∧ M.2.1.cls ≠ "java/lang/invoke/VarHandle") ∧ M.2.2.2.1 ≤ 41 ∧ (M.2.2.2.2.2 = true → M.2.1.name = "<init>")
def qa_en (vs : List Value) : qa_V := match vs with
  | [] => []
  | v :: vs => if v.category = 2 then some v :: none :: qa_en vs else some v :: qa_en vs
theorem qa_en_len (φ : Nat → Nat) (vs : List Value) : (lg_sl (vs.map (qa_c φ))).length = (qa_en vs).length := by
  induction vs with
  | nil => rfl
  | cons v vs ih =>
    by_cases h : v.category = 2
    · simp only [qa_en, h, List.map_cons, lg_sl, List.flatMap_cons, qa_c_cat, if_true] at ih ⊢
      simp [ih]
    · simp only [qa_en, h, List.map_cons, lg_sl, List.flatMap_cons, qa_c_cat, if_false] at ih ⊢
      simp [ih]
theorem qa_en_mem (φ : Nat → Nat) (vs : List Value) : ∀ (k i : Nat) (v : Value), (qa_en vs)[i]? = some (some v) → (k + i, qa_c φ v) ∈ lv_args k (vs.map (qa_c φ)) := by
  induction vs with
  | nil => intro k i v h; simp [qa_en] at h
  | cons w vs ih =>
    intro k i v h
    simp only [List.map_cons, lv_args, qa_c_cat]
    by_cases hw : w.category = 2
    · simp only [qa_en, hw, if_true] at h
      simp only [hw, if_true]
      match i, h with
      | 0, h => simp at h; subst h; exact List.mem_cons_self
      | 1, h => simp at h
      | i + 2, h =>
        refine List.mem_cons_of_mem _ ?_
        have := ih (k + 2) i v (by simpa using h)
        rw [show k + (i + 2) = k + 2 + i by omega]
        exact this
    · simp only [qa_en, hw, if_false] at h
      simp only [hw, if_false]
      match i, h with
      | 0, h => simp at h; subst h; exact List.mem_cons_self
      | i + 1, h =>
        refine List.mem_cons_of_mem _ ?_
        have := ih (k + 1) i v (by simpa using h)
        rw [show k + (i + 1) = k + 1 + i by omega]
        exact this
theorem qa_call_of {d : Nat} {M : qa_M} {av : List Value} {b : Nat × Nat} {g : qa_G} {I : qa_I} {J : qa_J} {R : qa_R} {Q : qa_Q} {lo : qa_V} (hm : qa_mok M) (hlo : qa_en av ++ List.replicate (M.2.2.2.1 - (qa_en av).length) none = lo) (hle : (qa_en av).length ≤ M.2.2.2.1) (hb : g.1 ≤ b.1 ∧ g.2.1 ≤ b.2) (h : qa_WP d M b 0 lo [] g I J R Q) : qa_Call d M av b g I J R Q := by
  intro l D dA t φ sz hch hg hRw
  refine Met.ofW (cc := M.2.2.1) (maxL := M.2.2.2.1) (ret := M.2.2.2.2.1) hm.1 rfl ?_
  intro p e s m args below meth c s₁ B hml hv
  obtain ⟨rfl, hsz, hP, hK, hD0, hZ, hTb, hN, hAO⟩ := hv
  have hts := atoms_spec (ws := Cond.code M.2.1 M.2.2.1 M.2.2.2.1 M.2.2.2.2.1 :: qa_T) B.pre
  have hown : s.vm.findClass M.1 = some m.cls := by rw [hm.2.1]; exact findClass_of_methodNamed B.named
  have hlocks := B.notSynchronized
  have hnm : meth.name = M.2.1.name := (name_of_methodNamed B.named B.method).1
  have hen := lv_entry (av.map (qa_c φ)) (n := M.2.2.2.1) (by rw [qa_en_len]; exact hle)
  rw [lg_entry_eq]
  refine h p l e _ s m _ below meth c D dA (va_A (qa_W dA φ g I J R) sz) t g.2.2.2 φ g.1 g.2.1 _ ⟨B.exec, B.bytes, hml, B.returns, hown, fun w hw => hts w (List.mem_cons_of_mem _ hw), ⟨hN, hAO⟩, hlocks, fun q => hnm.trans (hm.2.2.2.2.2.2.2 q)⟩ ⟨hK, fun q hq => Or.inr (by rw [← hsz]; exact hq), hZ, hTb⟩ ⟨Nat.le_refl _, Nat.le_refl _, ?_, ?_⟩ ?_ s.heap [] 0 0 _ φ ⟨hP, hD0.self, va_S.rf, hg, Nat.add_zero _, Nat.add_zero _, ⟨hch, rfl, rfl⟩, fun _ _ => rfl, hRw, fun q => absurd q hm.2.2.1⟩ ⟨hen.1, hen.2.1, ?_, ?_⟩
  · show b.1 ≤ g.1 + (b.1 - g.1)
    omega
  · show b.2 ≤ g.2.1 + (b.2 - g.2.1)
    omega
  · intro r φ' g' I' J' R' H locs cells slots pc ls i hQ hg1 hg2 hH hri hdec
    obtain ⟨q1, q2, q3, q4, q5, q6, ⟨q7, q8, q8x⟩, q9, q10, -⟩ := hH
    have e1 : cells = b.1 - g.1 := by omega
    have e2 : slots = b.2 - g.2.1 := by omega
    subst e1
    subst e2
    have hq : ∀ tt : State, tt.heap = H → qa_Qc D dA t φ b g I J R sz Q (av.map (qa_c φ)).toArray s (.returned (r.map (qa_c φ'))) tt := fun tt ht => ⟨⟨r, φ', g', I', J', R', rfl, hQ, hg1, hg2, q4, q10, q7, ⟨q8, q8x⟩, q9, by rw [ht]; exact q1, q2⟩, q3.F ht⟩
    rcases hri with ⟨a1, rfl, rfl⟩ | ⟨v, a1, rfl, rfl⟩ | ⟨v, a1, rfl, a3, rfl⟩ | ⟨v, a1, rfl, rfl⟩
    · exact W.vret B.exec B.bytes (B.returns.trans a1) (fun tt ht _ => hq tt ht) q3.2.2 hdec
    · exact W.iret B.exec B.bytes (B.returns.trans a1) (fun tt ht _ => hq tt ht) q3.2.2 hdec
    · exact W.zret B.exec B.bytes (B.returns.trans a1) (by rcases a3 with z | z <;> rw [z] <;> rfl) (fun tt ht _ => hq tt ht) q3.2.2 hdec
    · exact W.lret B.exec B.bytes (B.returns.trans a1) (fun tt ht _ => hq tt ht) q3.2.2 hdec
  · rw [← hlo]
    simp
    omega
  · intro i v hi
    rw [← hlo] at hi
    have hi2 : (qa_en av)[i]? = some (some v) := by
      by_cases hlt : i < (qa_en av).length
      · rw [List.getElem?_append_left hlt] at hi
        exact hi
      · rw [List.getElem?_append_right (by omega)] at hi
        obtain ⟨hx, hy⟩ := List.getElem?_eq_some_iff.mp hi
        simp at hy
    have := qa_en_mem φ av 0 i v hi2
    rw [Nat.zero_add] at this
    exact hen.2.2 _ this
