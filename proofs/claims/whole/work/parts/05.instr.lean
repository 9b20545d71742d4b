def qi_ci (v : Int32) : qa_F := fun lo st g I J R k => k lo (.int v :: st) g I J R
theorem ok_ci_iconst {M : qa_M} {pc : Nat} {v : Int32} {n : Int} (hv : Int32.ofInt n = v) (h : decode M.2.2.1 pc = .ok (.iconst n, 1)) : qa_Ok M pc (pc + 1) (qi_ci v) := by
  intro d b lo st g I J R Q k hk hf
  intro p l e rm s m args below meth c D dA A t X0 φ0 n0 w0 Z hA hG hR hT H locs cells slots ls φ hH hl
  refine lv_iconst hA.1 hA.2.1 h hv ?_
  exact hk _ _ _ _ _ _ hf _ _ _ _ _ _ _ _ _ _ _ _ _ _ _ _ _ _ _ hA hG hR hT _ _ _ _ _ _ hH hl
theorem ok_ci_bipush {M : qa_M} {pc : Nat} {v : Int32} {n : Int} (hv : (Int8.ofInt n).toInt32 = v) (h : decode M.2.2.1 pc = .ok (.bipush n, 2)) : qa_Ok M pc (pc + 2) (qi_ci v) := by
  intro d b lo st g I J R Q k hk hf
  intro p l e rm s m args below meth c D dA A t X0 φ0 n0 w0 Z hA hG hR hT H locs cells slots ls φ hH hl
  refine lv_bipush hA.1 hA.2.1 h hv ?_
  exact hk _ _ _ _ _ _ hf _ _ _ _ _ _ _ _ _ _ _ _ _ _ _ _ _ _ _ hA hG hR hT _ _ _ _ _ _ hH hl
theorem ok_ci_sipush {M : qa_M} {pc : Nat} {v : Int32} {n : Int} (hv : (Int16.ofInt n).toInt32 = v) (h : decode M.2.2.1 pc = .ok (.sipush n, 3)) : qa_Ok M pc (pc + 3) (qi_ci v) := by
  intro d b lo st g I J R Q k hk hf
  intro p l e rm s m args below meth c D dA A t X0 φ0 n0 w0 Z hA hG hR hT H locs cells slots ls φ hH hl
  refine lv_sipush hA.1 hA.2.1 h hv ?_
  exact hk _ _ _ _ _ _ hf _ _ _ _ _ _ _ _ _ _ _ _ _ _ _ _ _ _ _ hA hG hR hT _ _ _ _ _ _ hH hl
def qi_cl (v : Int64) : qa_F := fun lo st g I J R k => k lo (.long v :: st) g I J R
theorem ok_cl_lconst {M : qa_M} {pc : Nat} {v : Int64} {n : Fin 2} (hv : Int64.ofNat (n : Nat) = v) (h : decode M.2.2.1 pc = .ok (.lconst n, 1)) : qa_Ok M pc (pc + 1) (qi_cl v) := by
  intro d b lo st g I J R Q k hk hf
  intro p l e rm s m args below meth c D dA A t X0 φ0 n0 w0 Z hA hG hR hT H locs cells slots ls φ hH hl
  refine lv_lconst hA.1 hA.2.1 h hv ?_
  exact hk _ _ _ _ _ _ hf _ _ _ _ _ _ _ _ _ _ _ _ _ _ _ _ _ _ _ hA hG hR hT _ _ _ _ _ _ hH hl
theorem ok_cl_ldc2 {M : qa_M} {pc : Nat} {v : Int64} {i : Nat} (hw : Cond.constantLong M.1 i v ∈ lw_tbl) (h : decode M.2.2.1 pc = .ok (.ldc2_w i, 3)) : qa_Ok M pc (pc + 3) (qi_cl v) := by
  intro d b lo st g I J R Q k hk hf
  intro p l e rm s m args below meth c D dA A t X0 φ0 n0 w0 Z hA hG hR hT H locs cells slots ls φ hH hl
  refine lv_ldc2 hA.1 hA.2.1 hA.2.2.2.2.1 (hA.2.2.2.2.2.1 _ (qa_mem hw rfl)) h ?_
  exact hk _ _ _ _ _ _ hf _ _ _ _ _ _ _ _ _ _ _ _ _ _ _ _ _ _ _ hA hG hR hT _ _ _ _ _ _ hH hl
def qi_iload (i : Nat) : qa_F := fun lo st g I J R k => match qa_get lo i with
  | some (.int x) => k lo (.int x :: st) g I J R
  | _ => False
theorem ok_iload_n {M : qa_M} {pc i : Nat} {j : Fin 4} (hj : (j : Nat) = i) (h : decode M.2.2.1 pc = .ok (.iload_n j, 1)) : qa_Ok M pc (pc + 1) (qi_iload i) := by
  intro d b lo st g I J R Q k hk hf
  unfold qi_iload at hf
  split at hf
  next x he =>
    intro p l e rm s m args below meth c D dA A t X0 φ0 n0 w0 Z hA hG hR hT H locs cells slots ls φ hH hl
    refine lv_iload_n hA.1 hA.2.1 h hj (hl.at he) ?_
    exact hk _ _ _ _ _ _ hf _ _ _ _ _ _ _ _ _ _ _ _ _ _ _ _ _ _ _ hA hG hR hT _ _ _ _ _ _ hH hl
  · exact hf.elim
theorem ok_iload {M : qa_M} {pc i : Nat} (h : decode M.2.2.1 pc = .ok (.iload i, 2)) : qa_Ok M pc (pc + 2) (qi_iload i) := by
  intro d b lo st g I J R Q k hk hf
  unfold qi_iload at hf
  split at hf
  next x he =>
    intro p l e rm s m args below meth c D dA A t X0 φ0 n0 w0 Z hA hG hR hT H locs cells slots ls φ hH hl
    refine lv_iload hA.1 hA.2.1 h (hl.at he) ?_
    exact hk _ _ _ _ _ _ hf _ _ _ _ _ _ _ _ _ _ _ _ _ _ _ _ _ _ _ hA hG hR hT _ _ _ _ _ _ hH hl
  · exact hf.elim
def qi_lload (i : Nat) : qa_F := fun lo st g I J R k => match qa_get lo i with
  | some (.long x) => k lo (.long x :: st) g I J R
  | _ => False
theorem ok_lload_n {M : qa_M} {pc i : Nat} {j : Fin 4} (hj : (j : Nat) = i) (h : decode M.2.2.1 pc = .ok (.lload_n j, 1)) : qa_Ok M pc (pc + 1) (qi_lload i) := by
  intro d b lo st g I J R Q k hk hf
  unfold qi_lload at hf
  split at hf
  next x he =>
    intro p l e rm s m args below meth c D dA A t X0 φ0 n0 w0 Z hA hG hR hT H locs cells slots ls φ hH hl
    refine lv_lload_n hA.1 hA.2.1 h hj (hl.at he) ?_
    exact hk _ _ _ _ _ _ hf _ _ _ _ _ _ _ _ _ _ _ _ _ _ _ _ _ _ _ hA hG hR hT _ _ _ _ _ _ hH hl
  · exact hf.elim
theorem ok_lload {M : qa_M} {pc i : Nat} (h : decode M.2.2.1 pc = .ok (.lload i, 2)) : qa_Ok M pc (pc + 2) (qi_lload i) := by
  intro d b lo st g I J R Q k hk hf
  unfold qi_lload at hf
  split at hf
  next x he =>
    intro p l e rm s m args below meth c D dA A t X0 φ0 n0 w0 Z hA hG hR hT H locs cells slots ls φ hH hl
    refine lv_lload hA.1 hA.2.1 h (hl.at he) ?_
    exact hk _ _ _ _ _ _ hf _ _ _ _ _ _ _ _ _ _ _ _ _ _ _ _ _ _ _ hA hG hR hT _ _ _ _ _ _ hH hl
  · exact hf.elim
def qi_aload (i : Nat) : qa_F := fun lo st g I J R k => match qa_get lo i with
  | some (.ref x) => k lo (.ref x :: st) g I J R
  | _ => False
theorem ok_aload_n {M : qa_M} {pc i : Nat} {j : Fin 4} (hj : (j : Nat) = i) (h : decode M.2.2.1 pc = .ok (.aload_n j, 1)) : qa_Ok M pc (pc + 1) (qi_aload i) := by
  intro d b lo st g I J R Q k hk hf
  unfold qi_aload at hf
  split at hf
  next x he =>
    intro p l e rm s m args below meth c D dA A t X0 φ0 n0 w0 Z hA hG hR hT H locs cells slots ls φ hH hl
    refine lv_aload_n hA.1 hA.2.1 h hj (hl.at he) ?_
    exact hk _ _ _ _ _ _ hf _ _ _ _ _ _ _ _ _ _ _ _ _ _ _ _ _ _ _ hA hG hR hT _ _ _ _ _ _ hH hl
  · exact hf.elim
theorem ok_aload {M : qa_M} {pc i : Nat} (h : decode M.2.2.1 pc = .ok (.aload i, 2)) : qa_Ok M pc (pc + 2) (qi_aload i) := by
  intro d b lo st g I J R Q k hk hf
  unfold qi_aload at hf
  split at hf
  next x he =>
    intro p l e rm s m args below meth c D dA A t X0 φ0 n0 w0 Z hA hG hR hT H locs cells slots ls φ hH hl
    refine lv_aload hA.1 hA.2.1 h (hl.at he) ?_
    exact hk _ _ _ _ _ _ hf _ _ _ _ _ _ _ _ _ _ _ _ _ _ _ _ _ _ _ hA hG hR hT _ _ _ _ _ _ hH hl
  · exact hf.elim
theorem qa_s1_get {lo : qa_V} {i : Nat} {v w : Value} {j : Nat} (h : (qa_s1 lo i v)[j]? = some (some w)) : (j = i ∧ w = v) ∨ (¬ j = i ∧ lo[j]? = some (some w) ∧ ¬ (j + 1 = i ∧ w.category = 2)) := by
  induction lo generalizing i j with
  | nil => simp [qa_s1] at h
  | cons y l ih =>
    cases i with
    | zero =>
      cases j with
      | zero => simp [qa_s1] at h; exact Or.inl ⟨rfl, h.symm⟩
      | succ j => simp [qa_s1] at h; exact Or.inr ⟨by omega, by simpa using h, by omega⟩
    | succ i =>
      cases j with
      | zero =>
        refine Or.inr ⟨by omega, ?_⟩
        cases i with
        | zero =>
          cases y with
          | none => simp [qa_s1] at h
          | some y => cases y <;> simp [qa_s1] at h <;> (subst h; refine ⟨rfl, ?_⟩; simp [Value.category])
        | succ i => simp [qa_s1] at h; subst h; exact ⟨rfl, by omega⟩
      | succ j =>
        have h' : (qa_s1 l i v)[j]? = some (some w) := by simpa [qa_s1] using h
        rcases ih h' with ⟨h1, h2⟩ | ⟨h1, h2, h3⟩
        · exact Or.inl ⟨by omega, h2⟩
        · exact Or.inr ⟨by omega, by simpa using h2, fun q => h3 ⟨by omega, q.2⟩⟩
theorem qa_s2_get {lo : qa_V} {i : Nat} {v w : Value} {j : Nat} (h : (qa_s2 lo i v)[j]? = some (some w)) : (j = i ∧ w = v) ∨ (¬ j = i ∧ ¬ j = i + 1 ∧ lo[j]? = some (some w) ∧ ¬ (j + 1 = i ∧ w.category = 2)) := by
  induction lo generalizing i j with
  | nil => simp [qa_s2] at h
  | cons y l ih =>
    cases l with
    | nil => cases i <;> cases j <;> simp [qa_s2] at h
    | cons z l =>
      cases i with
      | zero =>
        match j, h with
        | 0, h => simp [qa_s2] at h; exact Or.inl ⟨rfl, h.symm⟩
        | 1, h => simp [qa_s2] at h
        | j + 2, h => simp [qa_s2] at h; exact Or.inr ⟨by omega, by omega, by simpa using h, by omega⟩
      | succ i =>
        cases j with
        | zero =>
          refine Or.inr ⟨by omega, by omega, ?_⟩
          cases i with
          | zero =>
            cases y with
            | none => simp [qa_s2] at h
            | some y => cases y <;> simp [qa_s2] at h <;> (subst h; refine ⟨rfl, ?_⟩; simp [Value.category])
          | succ i => simp [qa_s2] at h; subst h; exact ⟨rfl, by omega⟩
        | succ j =>
          have h' : (qa_s2 (z :: l) i v)[j]? = some (some w) := by simpa [qa_s2] using h
          rcases ih h' with ⟨h1, h2⟩ | ⟨h1, h2, h3, h4⟩
          · exact Or.inl ⟨by omega, h2⟩
          · exact Or.inr ⟨by omega, by omega, by simpa using h3, fun q => h4 ⟨by omega, q.2⟩⟩
theorem qa_s1_len (lo : qa_V) (i : Nat) (v : Value) : (qa_s1 lo i v).length = lo.length := by
  induction lo generalizing i with
  | nil => rfl
  | cons y l ih => cases i <;> simp [qa_s1, ih]
theorem qa_s2_len (lo : qa_V) (i : Nat) (v : Value) : (qa_s2 lo i v).length = lo.length := by
  induction lo generalizing i with
  | nil => rfl
  | cons y l ih =>
    cases l with
    | nil => cases i <;> rfl
    | cons z l => cases i with
      | zero => simp [qa_s2]
      | succ i => simpa [qa_s2] using ih i
/-- the locals as the kit's list -/
def qa_al (φ : Nat → Nat) (lo : qa_V) : List (Nat × Value) := (List.range lo.length).filterMap fun i => (lo[i]?.join).map fun v => (i, qa_c φ v)
theorem qa_al_mem {φ : Nat → Nat} {lo : qa_V} {i : Nat} {v : Value} (h : lo[i]? = some (some v)) : (i, qa_c φ v) ∈ qa_al φ lo := by
  have hl : i < lo.length := (List.getElem?_eq_some_iff.mp h).1
  exact List.mem_filterMap.mpr ⟨i, List.mem_range.mpr hl, by rw [h]; rfl⟩
theorem qa_ls.has {φ : Nat → Nat} {nL : Nat} {lo : qa_V} {ls : Array Slot} (h : qa_ls φ nL lo ls) : lv_has ls nL (qa_al φ lo) := by
  refine ⟨h.1, h.2.1, fun q hq => ?_⟩
  obtain ⟨i, -, hi⟩ := List.mem_filterMap.mp hq
  cases hv : lo[i]? with
  | none => rw [hv] at hi; cases hi
  | some x =>
    cases x with
    | none => rw [hv] at hi; cases hi
    | some v =>
      rw [hv] at hi
      cases hi
      exact h.2.2.2 i v hv
theorem qa_ls.s1 {φ : Nat → Nat} {nL : Nat} {lo : qa_V} {ls ls' : Array Slot} {i : Nat} {v : Value} (h : qa_ls φ nL lo ls) (h' : lv_has ls' nL ((i, qa_c φ v) :: (qa_al φ lo).filter (fun q => !(q.1 == i) && !(q.1 + 1 == i && q.2.category == 2)))) : qa_ls φ nL (qa_s1 lo i v) ls' := by
  refine ⟨h'.1, h'.2.1, by rw [qa_s1_len]; exact h.2.2.1, fun j w hj => ?_⟩
  rcases qa_s1_get hj with ⟨rfl, rfl⟩ | ⟨h1, h2, h3⟩
  · exact h'.2.2 (j, qa_c φ w) List.mem_cons_self
  · refine h'.2.2 (j, qa_c φ w) (List.mem_cons_of_mem _ (List.mem_filter.mpr ⟨qa_al_mem h2, ?_⟩))
    simp only [qa_c_cat]
    simp [h1]
    exact Classical.not_and_iff_not_or_not.mp h3
theorem qa_ls.s2 {φ : Nat → Nat} {nL : Nat} {lo : qa_V} {ls ls' : Array Slot} {i : Nat} {v : Value} (h : qa_ls φ nL lo ls) (h' : lv_has ls' nL ((i, qa_c φ v) :: (qa_al φ lo).filter (fun q => !(q.1 == i) && (!(q.1 == i + 1) && !(q.1 + 1 == i && q.2.category == 2))))) : qa_ls φ nL (qa_s2 lo i v) ls' := by
  refine ⟨h'.1, h'.2.1, by rw [qa_s2_len]; exact h.2.2.1, fun j w hj => ?_⟩
  rcases qa_s2_get hj with ⟨rfl, rfl⟩ | ⟨h1, h2, h3, h4⟩
  · exact h'.2.2 (j, qa_c φ w) List.mem_cons_self
  · refine h'.2.2 (j, qa_c φ w) (List.mem_cons_of_mem _ (List.mem_filter.mpr ⟨qa_al_mem h3, ?_⟩))
    simp only [qa_c_cat]
    simp [h1, h2]
    exact Classical.not_and_iff_not_or_not.mp h4
def qi_istore (i : Nat) : qa_F := fun lo st g I J R k => match st with
  | .int x :: st => i < lo.length ∧ k (qa_s1 lo i (.int x)) st g I J R
  | _ => False
theorem ok_istore_n {M : qa_M} {pc i : Nat} {j : Fin 4} (hj : (j : Nat) = i) (h : decode M.2.2.1 pc = .ok (.istore_n j, 1)) : qa_Ok M pc (pc + 1) (qi_istore i) := by
  intro d b lo st g I J R Q k hk hf
  unfold qi_istore at hf
  split at hf
  · intro p l e rm s m args below meth c D dA A t X0 φ0 n0 w0 Z hA hG hR hT H locs cells slots ls φ hH hl
    refine lv_istore_n hA.1 hA.2.1 h hj hl.has (Nat.lt_of_lt_of_le hf.1 hl.2.2.1) rfl (fun ls2 hl2 => ?_)
    exact hk _ _ _ _ _ _ hf.2 _ _ _ _ _ _ _ _ _ _ _ _ _ _ _ _ _ _ _ hA hG hR hT _ _ _ _ _ _ hH (hl.s1 hl2)
  · exact hf.elim
theorem ok_istore {M : qa_M} {pc i : Nat} (h : decode M.2.2.1 pc = .ok (.istore i, 2)) : qa_Ok M pc (pc + 2) (qi_istore i) := by
  intro d b lo st g I J R Q k hk hf
  unfold qi_istore at hf
  split at hf
  · intro p l e rm s m args below meth c D dA A t X0 φ0 n0 w0 Z hA hG hR hT H locs cells slots ls φ hH hl
    refine lv_istore hA.1 hA.2.1 h hl.has (Nat.lt_of_lt_of_le hf.1 hl.2.2.1) rfl (fun ls2 hl2 => ?_)
    exact hk _ _ _ _ _ _ hf.2 _ _ _ _ _ _ _ _ _ _ _ _ _ _ _ _ _ _ _ hA hG hR hT _ _ _ _ _ _ hH (hl.s1 hl2)
  · exact hf.elim
def qi_lstore (i : Nat) : qa_F := fun lo st g I J R k => match st with
  | .long x :: st => i + 1 < lo.length ∧ k (qa_s2 lo i (.long x)) st g I J R
  | _ => False
theorem ok_lstore_n {M : qa_M} {pc i : Nat} {j : Fin 4} (hj : (j : Nat) = i) (h : decode M.2.2.1 pc = .ok (.lstore_n j, 1)) : qa_Ok M pc (pc + 1) (qi_lstore i) := by
  intro d b lo st g I J R Q k hk hf
  unfold qi_lstore at hf
  split at hf
  · intro p l e rm s m args below meth c D dA A t X0 φ0 n0 w0 Z hA hG hR hT H locs cells slots ls φ hH hl
    refine lv_lstore_n hA.1 hA.2.1 h hj hl.has (Nat.lt_of_lt_of_le hf.1 hl.2.2.1) rfl (fun ls2 hl2 => ?_)
    exact hk _ _ _ _ _ _ hf.2 _ _ _ _ _ _ _ _ _ _ _ _ _ _ _ _ _ _ _ hA hG hR hT _ _ _ _ _ _ hH (hl.s2 hl2)
  · exact hf.elim
theorem ok_lstore {M : qa_M} {pc i : Nat} (h : decode M.2.2.1 pc = .ok (.lstore i, 2)) : qa_Ok M pc (pc + 2) (qi_lstore i) := by
  intro d b lo st g I J R Q k hk hf
  unfold qi_lstore at hf
  split at hf
  · intro p l e rm s m args below meth c D dA A t X0 φ0 n0 w0 Z hA hG hR hT H locs cells slots ls φ hH hl
    refine lv_lstore hA.1 hA.2.1 h hl.has (Nat.lt_of_lt_of_le hf.1 hl.2.2.1) rfl (fun ls2 hl2 => ?_)
    exact hk _ _ _ _ _ _ hf.2 _ _ _ _ _ _ _ _ _ _ _ _ _ _ _ _ _ _ _ hA hG hR hT _ _ _ _ _ _ hH (hl.s2 hl2)
  · exact hf.elim
def qi_astore (i : Nat) : qa_F := fun lo st g I J R k => match st with
  | .ref x :: st => i < lo.length ∧ k (qa_s1 lo i (.ref x)) st g I J R
  | _ => False
theorem ok_astore_n {M : qa_M} {pc i : Nat} {j : Fin 4} (hj : (j : Nat) = i) (h : decode M.2.2.1 pc = .ok (.astore_n j, 1)) : qa_Ok M pc (pc + 1) (qi_astore i) := by
  intro d b lo st g I J R Q k hk hf
  unfold qi_astore at hf
  split at hf
  · intro p l e rm s m args below meth c D dA A t X0 φ0 n0 w0 Z hA hG hR hT H locs cells slots ls φ hH hl
    refine lv_astore_n hA.1 hA.2.1 h hj hl.has (Nat.lt_of_lt_of_le hf.1 hl.2.2.1) rfl (fun ls2 hl2 => ?_)
    exact hk _ _ _ _ _ _ hf.2 _ _ _ _ _ _ _ _ _ _ _ _ _ _ _ _ _ _ _ hA hG hR hT _ _ _ _ _ _ hH (hl.s1 hl2)
  · exact hf.elim
theorem ok_astore {M : qa_M} {pc i : Nat} (h : decode M.2.2.1 pc = .ok (.astore i, 2)) : qa_Ok M pc (pc + 2) (qi_astore i) := by
  intro d b lo st g I J R Q k hk hf
  unfold qi_astore at hf
  split at hf
  · intro p l e rm s m args below meth c D dA A t X0 φ0 n0 w0 Z hA hG hR hT H locs cells slots ls φ hH hl
    refine lv_astore hA.1 hA.2.1 h hl.has (Nat.lt_of_lt_of_le hf.1 hl.2.2.1) rfl (fun ls2 hl2 => ?_)
    exact hk _ _ _ _ _ _ hf.2 _ _ _ _ _ _ _ _ _ _ _ _ _ _ _ _ _ _ _ hA hG hR hT _ _ _ _ _ _ hH (hl.s1 hl2)
  · exact hf.elim
def qi_iinc (i : Nat) (n : Int32) : qa_F := fun lo st g I J R k => match qa_get lo i with
  | some (.int x) => i < lo.length ∧ k (qa_s1 lo i (.int (x + n))) st g I J R
  | _ => False
theorem ok_iinc {M : qa_M} {pc i : Nat} {n : Int32} {z : Int} (hz : Int32.ofInt z = n) (h : decode M.2.2.1 pc = .ok (.iinc i z, 3)) : qa_Ok M pc (pc + 3) (qi_iinc i n) := by
  intro d b lo st g I J R Q k hk hf
  unfold qi_iinc at hf
  split at hf
  next x he =>
    intro p l e rm s m args below meth c D dA A t X0 φ0 n0 w0 Z hA hG hR hT H locs cells slots ls φ hH hl
    obtain ⟨k1, hk1⟩ := List.getElem?_of_mem (qa_al_mem (φ := φ) (qa_get_at he))
    refine lv_iinc (v := x + n) hA.1 hA.2.1 h hl.has hk1 (by rw [← hz]) (Nat.lt_of_lt_of_le hf.1 hl.2.2.1) rfl (fun ls2 hl2 => ?_)
    exact hk _ _ _ _ _ _ hf.2 _ _ _ _ _ _ _ _ _ _ _ _ _ _ _ _ _ _ _ hA hG hR hT _ _ _ _ _ _ hH (hl.s1 hl2)
  · exact hf.elim
def qi_iadd : qa_F := fun lo st g I J R k => match st with
  | .int y :: .int x :: st => k lo (.int (x + y) :: st) g I J R
  | _ => False
theorem ok_iadd {M : qa_M} {pc : Nat} (h : decode M.2.2.1 pc = .ok (.iadd, 1)) : qa_Ok M pc (pc + 1) (qi_iadd) := by
  intro d b lo st g I J R Q k hk hf
  unfold qi_iadd at hf
  split at hf
  · intro p l e rm s m args below meth c D dA A t X0 φ0 n0 w0 Z hA hG hR hT H locs cells slots ls φ hH hl
    refine lv_iadd hA.1 hA.2.1 h ?_
    exact hk _ _ _ _ _ _ hf _ _ _ _ _ _ _ _ _ _ _ _ _ _ _ _ _ _ _ hA hG hR hT _ _ _ _ _ _ hH hl
  · exact hf.elim
def qi_isub : qa_F := fun lo st g I J R k => match st with
  | .int y :: .int x :: st => k lo (.int (x - y) :: st) g I J R
  | _ => False
theorem ok_isub {M : qa_M} {pc : Nat} (h : decode M.2.2.1 pc = .ok (.isub, 1)) : qa_Ok M pc (pc + 1) (qi_isub) := by
  intro d b lo st g I J R Q k hk hf
  unfold qi_isub at hf
  split at hf
  · intro p l e rm s m args below meth c D dA A t X0 φ0 n0 w0 Z hA hG hR hT H locs cells slots ls φ hH hl
    refine lv_isub hA.1 hA.2.1 h ?_
    exact hk _ _ _ _ _ _ hf _ _ _ _ _ _ _ _ _ _ _ _ _ _ _ _ _ _ _ hA hG hR hT _ _ _ _ _ _ hH hl
  · exact hf.elim
def qi_imul : qa_F := fun lo st g I J R k => match st with
  | .int y :: .int x :: st => k lo (.int (x * y) :: st) g I J R
  | _ => False
theorem ok_imul {M : qa_M} {pc : Nat} (h : decode M.2.2.1 pc = .ok (.imul, 1)) : qa_Ok M pc (pc + 1) (qi_imul) := by
  intro d b lo st g I J R Q k hk hf
  unfold qi_imul at hf
  split at hf
  · intro p l e rm s m args below meth c D dA A t X0 φ0 n0 w0 Z hA hG hR hT H locs cells slots ls φ hH hl
    refine lv_imul hA.1 hA.2.1 h ?_
    exact hk _ _ _ _ _ _ hf _ _ _ _ _ _ _ _ _ _ _ _ _ _ _ _ _ _ _ hA hG hR hT _ _ _ _ _ _ hH hl
  · exact hf.elim
def qi_iand : qa_F := fun lo st g I J R k => match st with
  | .int y :: .int x :: st => k lo (.int (x &&& y) :: st) g I J R
  | _ => False
theorem ok_iand {M : qa_M} {pc : Nat} (h : decode M.2.2.1 pc = .ok (.iand, 1)) : qa_Ok M pc (pc + 1) (qi_iand) := by
  intro d b lo st g I J R Q k hk hf
  unfold qi_iand at hf
  split at hf
  · intro p l e rm s m args below meth c D dA A t X0 φ0 n0 w0 Z hA hG hR hT H locs cells slots ls φ hH hl
    refine lv_iand hA.1 hA.2.1 h ?_
    exact hk _ _ _ _ _ _ hf _ _ _ _ _ _ _ _ _ _ _ _ _ _ _ _ _ _ _ hA hG hR hT _ _ _ _ _ _ hH hl
  · exact hf.elim
def qi_ior : qa_F := fun lo st g I J R k => match st with
  | .int y :: .int x :: st => k lo (.int (x ||| y) :: st) g I J R
  | _ => False
theorem ok_ior {M : qa_M} {pc : Nat} (h : decode M.2.2.1 pc = .ok (.ior, 1)) : qa_Ok M pc (pc + 1) (qi_ior) := by
  intro d b lo st g I J R Q k hk hf
  unfold qi_ior at hf
  split at hf
  · intro p l e rm s m args below meth c D dA A t X0 φ0 n0 w0 Z hA hG hR hT H locs cells slots ls φ hH hl
    refine lv_ior hA.1 hA.2.1 h ?_
    exact hk _ _ _ _ _ _ hf _ _ _ _ _ _ _ _ _ _ _ _ _ _ _ _ _ _ _ hA hG hR hT _ _ _ _ _ _ hH hl
  · exact hf.elim
def qi_idiv : qa_F := fun lo st g I J R k => match st with
  | .int y :: .int x :: st => ¬ y = 0 ∧ k lo (.int (x / y) :: st) g I J R
  | _ => False
theorem ok_idiv {M : qa_M} {pc : Nat} (h : decode M.2.2.1 pc = .ok (.idiv, 1)) : qa_Ok M pc (pc + 1) (qi_idiv) := by
  intro d b lo st g I J R Q k hk hf
  unfold qi_idiv at hf
  split at hf
  · intro p l e rm s m args below meth c D dA A t X0 φ0 n0 w0 Z hA hG hR hT H locs cells slots ls φ hH hl
    refine lv_idiv hA.1 hA.2.1 h hf.1 ?_
    exact hk _ _ _ _ _ _ hf.2 _ _ _ _ _ _ _ _ _ _ _ _ _ _ _ _ _ _ _ hA hG hR hT _ _ _ _ _ _ hH hl
  · exact hf.elim
def qi_irem : qa_F := fun lo st g I J R k => match st with
  | .int y :: .int x :: st => ¬ y = 0 ∧ k lo (.int (x - x / y * y) :: st) g I J R
  | _ => False
theorem ok_irem {M : qa_M} {pc : Nat} (h : decode M.2.2.1 pc = .ok (.irem, 1)) : qa_Ok M pc (pc + 1) (qi_irem) := by
  intro d b lo st g I J R Q k hk hf
  unfold qi_irem at hf
  split at hf
  · intro p l e rm s m args below meth c D dA A t X0 φ0 n0 w0 Z hA hG hR hT H locs cells slots ls φ hH hl
    refine lv_irem hA.1 hA.2.1 h hf.1 ?_
    exact hk _ _ _ _ _ _ hf.2 _ _ _ _ _ _ _ _ _ _ _ _ _ _ _ _ _ _ _ hA hG hR hT _ _ _ _ _ _ hH hl
  · exact hf.elim
def qi_ishr : qa_F := fun lo st g I J R k => match st with
  | .int y :: .int x :: st => k lo (.int (x >>> (y &&& 31)) :: st) g I J R
  | _ => False
theorem ok_ishr {M : qa_M} {pc : Nat} (h : decode M.2.2.1 pc = .ok (.ishr, 1)) : qa_Ok M pc (pc + 1) (qi_ishr) := by
  intro d b lo st g I J R Q k hk hf
  unfold qi_ishr at hf
  split at hf
  · intro p l e rm s m args below meth c D dA A t X0 φ0 n0 w0 Z hA hG hR hT H locs cells slots ls φ hH hl
    refine lv_ishr hA.1 hA.2.1 h ?_
    exact hk _ _ _ _ _ _ hf _ _ _ _ _ _ _ _ _ _ _ _ _ _ _ _ _ _ _ hA hG hR hT _ _ _ _ _ _ hH hl
  · exact hf.elim
def qi_iushr : qa_F := fun lo st g I J R k => match st with
  | .int y :: .int x :: st => k lo (.int ((x.toUInt32 >>> (y.toUInt32 &&& Int32.toUInt32 31)).toInt32) :: st) g I J R
  | _ => False
theorem ok_iushr {M : qa_M} {pc : Nat} (h : decode M.2.2.1 pc = .ok (.iushr, 1)) : qa_Ok M pc (pc + 1) (qi_iushr) := by
  intro d b lo st g I J R Q k hk hf
  unfold qi_iushr at hf
  split at hf
  · intro p l e rm s m args below meth c D dA A t X0 φ0 n0 w0 Z hA hG hR hT H locs cells slots ls φ hH hl
    refine lv_iushr hA.1 hA.2.1 h rfl ?_
    exact hk _ _ _ _ _ _ hf _ _ _ _ _ _ _ _ _ _ _ _ _ _ _ _ _ _ _ hA hG hR hT _ _ _ _ _ _ hH hl
  · exact hf.elim
def qi_ladd : qa_F := fun lo st g I J R k => match st with
  | .long y :: .long x :: st => k lo (.long (x + y) :: st) g I J R
  | _ => False
theorem ok_ladd {M : qa_M} {pc : Nat} (h : decode M.2.2.1 pc = .ok (.ladd, 1)) : qa_Ok M pc (pc + 1) (qi_ladd) := by
  intro d b lo st g I J R Q k hk hf
  unfold qi_ladd at hf
  split at hf
  · intro p l e rm s m args below meth c D dA A t X0 φ0 n0 w0 Z hA hG hR hT H locs cells slots ls φ hH hl
    refine lv_ladd hA.1 hA.2.1 h ?_
    exact hk _ _ _ _ _ _ hf _ _ _ _ _ _ _ _ _ _ _ _ _ _ _ _ _ _ _ hA hG hR hT _ _ _ _ _ _ hH hl
  · exact hf.elim
def qi_lsub : qa_F := fun lo st g I J R k => match st with
  | .long y :: .long x :: st => k lo (.long (x - y) :: st) g I J R
  | _ => False
theorem ok_lsub {M : qa_M} {pc : Nat} (h : decode M.2.2.1 pc = .ok (.lsub, 1)) : qa_Ok M pc (pc + 1) (qi_lsub) := by
  intro d b lo st g I J R Q k hk hf
  unfold qi_lsub at hf
  split at hf
  · intro p l e rm s m args below meth c D dA A t X0 φ0 n0 w0 Z hA hG hR hT H locs cells slots ls φ hH hl
    refine lv_lsub hA.1 hA.2.1 h ?_
    exact hk _ _ _ _ _ _ hf _ _ _ _ _ _ _ _ _ _ _ _ _ _ _ _ _ _ _ hA hG hR hT _ _ _ _ _ _ hH hl
  · exact hf.elim
def qi_lmul : qa_F := fun lo st g I J R k => match st with
  | .long y :: .long x :: st => k lo (.long (x * y) :: st) g I J R
  | _ => False
theorem ok_lmul {M : qa_M} {pc : Nat} (h : decode M.2.2.1 pc = .ok (.lmul, 1)) : qa_Ok M pc (pc + 1) (qi_lmul) := by
  intro d b lo st g I J R Q k hk hf
  unfold qi_lmul at hf
  split at hf
  · intro p l e rm s m args below meth c D dA A t X0 φ0 n0 w0 Z hA hG hR hT H locs cells slots ls φ hH hl
    refine lv_lmul hA.1 hA.2.1 h ?_
    exact hk _ _ _ _ _ _ hf _ _ _ _ _ _ _ _ _ _ _ _ _ _ _ _ _ _ _ hA hG hR hT _ _ _ _ _ _ hH hl
  · exact hf.elim
def qi_ldiv : qa_F := fun lo st g I J R k => match st with
  | .long y :: .long x :: st => ¬ y = 0 ∧ k lo (.long (x / y) :: st) g I J R
  | _ => False
theorem ok_ldiv {M : qa_M} {pc : Nat} (h : decode M.2.2.1 pc = .ok (.ldiv, 1)) : qa_Ok M pc (pc + 1) (qi_ldiv) := by
  intro d b lo st g I J R Q k hk hf
  unfold qi_ldiv at hf
  split at hf
  · intro p l e rm s m args below meth c D dA A t X0 φ0 n0 w0 Z hA hG hR hT H locs cells slots ls φ hH hl
    refine lv_ldiv hA.1 hA.2.1 h hf.1 ?_
    exact hk _ _ _ _ _ _ hf.2 _ _ _ _ _ _ _ _ _ _ _ _ _ _ _ _ _ _ _ hA hG hR hT _ _ _ _ _ _ hH hl
  · exact hf.elim
def qi_ineg : qa_F := fun lo st g I J R k => match st with
  | .int x :: st => k lo (.int (-x) :: st) g I J R
  | _ => False
theorem ok_ineg {M : qa_M} {pc : Nat} (h : decode M.2.2.1 pc = .ok (.ineg, 1)) : qa_Ok M pc (pc + 1) (qi_ineg) := by
  intro d b lo st g I J R Q k hk hf
  unfold qi_ineg at hf
  split at hf
  · intro p l e rm s m args below meth c D dA A t X0 φ0 n0 w0 Z hA hG hR hT H locs cells slots ls φ hH hl
    refine lv_ineg hA.1 hA.2.1 h ?_
    exact hk _ _ _ _ _ _ hf _ _ _ _ _ _ _ _ _ _ _ _ _ _ _ _ _ _ _ hA hG hR hT _ _ _ _ _ _ hH hl
  · exact hf.elim
def qi_lneg : qa_F := fun lo st g I J R k => match st with
  | .long x :: st => k lo (.long (-x) :: st) g I J R
  | _ => False
theorem ok_lneg {M : qa_M} {pc : Nat} (h : decode M.2.2.1 pc = .ok (.lneg, 1)) : qa_Ok M pc (pc + 1) (qi_lneg) := by
  intro d b lo st g I J R Q k hk hf
  unfold qi_lneg at hf
  split at hf
  · intro p l e rm s m args below meth c D dA A t X0 φ0 n0 w0 Z hA hG hR hT H locs cells slots ls φ hH hl
    refine lv_lneg hA.1 hA.2.1 h ?_
    exact hk _ _ _ _ _ _ hf _ _ _ _ _ _ _ _ _ _ _ _ _ _ _ _ _ _ _ hA hG hR hT _ _ _ _ _ _ hH hl
  · exact hf.elim
def qi_i2l : qa_F := fun lo st g I J R k => match st with
  | .int x :: st => k lo (.long x.toInt64 :: st) g I J R
  | _ => False
theorem ok_i2l {M : qa_M} {pc : Nat} (h : decode M.2.2.1 pc = .ok (.i2l, 1)) : qa_Ok M pc (pc + 1) (qi_i2l) := by
  intro d b lo st g I J R Q k hk hf
  unfold qi_i2l at hf
  split at hf
  · intro p l e rm s m args below meth c D dA A t X0 φ0 n0 w0 Z hA hG hR hT H locs cells slots ls φ hH hl
    refine lv_i2l hA.1 hA.2.1 h rfl ?_
    exact hk _ _ _ _ _ _ hf _ _ _ _ _ _ _ _ _ _ _ _ _ _ _ _ _ _ _ hA hG hR hT _ _ _ _ _ _ hH hl
  · exact hf.elim
def qi_l2i : qa_F := fun lo st g I J R k => match st with
  | .long x :: st => k lo (.int x.toInt32 :: st) g I J R
  | _ => False
theorem ok_l2i {M : qa_M} {pc : Nat} (h : decode M.2.2.1 pc = .ok (.l2i, 1)) : qa_Ok M pc (pc + 1) (qi_l2i) := by
  intro d b lo st g I J R Q k hk hf
  unfold qi_l2i at hf
  split at hf
  · intro p l e rm s m args below meth c D dA A t X0 φ0 n0 w0 Z hA hG hR hT H locs cells slots ls φ hH hl
    refine lv_l2i hA.1 hA.2.1 h rfl ?_
    exact hk _ _ _ _ _ _ hf _ _ _ _ _ _ _ _ _ _ _ _ _ _ _ _ _ _ _ hA hG hR hT _ _ _ _ _ _ hH hl
  · exact hf.elim
def qi_lcmp : qa_F := fun lo st g I J R k => match st with
  | .long y :: .long x :: st => k lo (.int (lg_cmp x y) :: st) g I J R
  | _ => False
theorem ok_lcmp {M : qa_M} {pc : Nat} (h : decode M.2.2.1 pc = .ok (.lcmp, 1)) : qa_Ok M pc (pc + 1) (qi_lcmp) := by
  intro d b lo st g I J R Q k hk hf
  unfold qi_lcmp at hf
  split at hf
  · intro p l e rm s m args below meth c D dA A t X0 φ0 n0 w0 Z hA hG hR hT H locs cells slots ls φ hH hl
    refine W.lcmp hA.1 hA.2.1 h ?_
    exact hk _ _ _ _ _ _ hf _ _ _ _ _ _ _ _ _ _ _ _ _ _ _ _ _ _ _ hA hG hR hT _ _ _ _ _ _ hH hl
  · exact hf.elim
def qi_dup : qa_F := fun lo st g I J R k => match st with
  | a :: st => a.category = 1 ∧ k lo (a :: a :: st) g I J R
  | _ => False
theorem ok_dup {M : qa_M} {pc : Nat} (h : decode M.2.2.1 pc = .ok (.dup, 1)) : qa_Ok M pc (pc + 1) (qi_dup) := by
  intro d b lo st g I J R Q k hk hf
  unfold qi_dup at hf
  split at hf
  · intro p l e rm s m args below meth c D dA A t X0 φ0 n0 w0 Z hA hG hR hT H locs cells slots ls φ hH hl
    refine lv_dup hA.1 hA.2.1 h (by rw [qa_c_cat]; exact hf.1) ?_
    exact hk _ _ _ _ _ _ hf.2 _ _ _ _ _ _ _ _ _ _ _ _ _ _ _ _ _ _ _ hA hG hR hT _ _ _ _ _ _ hH hl
  · exact hf.elim
def qi_pop : qa_F := fun lo st g I J R k => match st with
  | a :: st => a.category = 1 ∧ k lo (st) g I J R
  | _ => False
theorem ok_pop {M : qa_M} {pc : Nat} (h : decode M.2.2.1 pc = .ok (.pop, 1)) : qa_Ok M pc (pc + 1) (qi_pop) := by
  intro d b lo st g I J R Q k hk hf
  unfold qi_pop at hf
  split at hf
  · intro p l e rm s m args below meth c D dA A t X0 φ0 n0 w0 Z hA hG hR hT H locs cells slots ls φ hH hl
    refine lv_pop hA.1 hA.2.1 h (by rw [qa_c_cat]; exact hf.1) ?_
    exact hk _ _ _ _ _ _ hf.2 _ _ _ _ _ _ _ _ _ _ _ _ _ _ _ _ _ _ _ hA hG hR hT _ _ _ _ _ _ hH hl
  · exact hf.elim
def qi_dup_x1 : qa_F := fun lo st g I J R k => match st with
  | a :: a2 :: st => (a.category = 1 ∧ a2.category = 1) ∧ k lo (a :: a2 :: a :: st) g I J R
  | _ => False
theorem ok_dup_x1 {M : qa_M} {pc : Nat} (h : decode M.2.2.1 pc = .ok (.dup_x1, 1)) : qa_Ok M pc (pc + 1) (qi_dup_x1) := by
  intro d b lo st g I J R Q k hk hf
  unfold qi_dup_x1 at hf
  split at hf
  · intro p l e rm s m args below meth c D dA A t X0 φ0 n0 w0 Z hA hG hR hT H locs cells slots ls φ hH hl
    refine lv_dup_x1 hA.1 hA.2.1 h (by rw [qa_c_cat]; exact hf.1.1) (by rw [qa_c_cat]; exact hf.1.2) ?_
    exact hk _ _ _ _ _ _ hf.2 _ _ _ _ _ _ _ _ _ _ _ _ _ _ _ _ _ _ _ hA hG hR hT _ _ _ _ _ _ hH hl
  · exact hf.elim
def qi_dup2 : qa_F := fun lo st g I J R k => match st with
  | a :: a2 :: st => (a.category = 1 ∧ a2.category = 1) ∧ k lo (a :: a2 :: a :: a2 :: st) g I J R
  | _ => False
theorem ok_dup2 {M : qa_M} {pc : Nat} (h : decode M.2.2.1 pc = .ok (.dup2, 1)) : qa_Ok M pc (pc + 1) (qi_dup2) := by
  intro d b lo st g I J R Q k hk hf
  unfold qi_dup2 at hf
  split at hf
  · intro p l e rm s m args below meth c D dA A t X0 φ0 n0 w0 Z hA hG hR hT H locs cells slots ls φ hH hl
    refine lv_dup2_11 hA.1 hA.2.1 h (by rw [qa_c_cat]; exact hf.1.1) (by rw [qa_c_cat]; exact hf.1.2) ?_
    exact hk _ _ _ _ _ _ hf.2 _ _ _ _ _ _ _ _ _ _ _ _ _ _ _ _ _ _ _ hA hG hR hT _ _ _ _ _ _ hH hl
  · exact hf.elim
def qi_dup2l : qa_F := fun lo st g I J R k => match st with
  | .long x :: st => k lo (.long x :: .long x :: st) g I J R
  | _ => False
theorem ok_dup2l {M : qa_M} {pc : Nat} (h : decode M.2.2.1 pc = .ok (.dup2, 1)) : qa_Ok M pc (pc + 1) (qi_dup2l) := by
  intro d b lo st g I J R Q k hk hf
  unfold qi_dup2l at hf
  split at hf
  · intro p l e rm s m args below meth c D dA A t X0 φ0 n0 w0 Z hA hG hR hT H locs cells slots ls φ hH hl
    refine lv_dup2_2 hA.1 hA.2.1 h rfl ?_
    exact hk _ _ _ _ _ _ hf _ _ _ _ _ _ _ _ _ _ _ _ _ _ _ _ _ _ _ hA hG hR hT _ _ _ _ _ _ hH hl
  · exact hf.elim
