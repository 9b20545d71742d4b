theorem qa_lt {g : qa_G} (hg : ∀ a, g.1 ≤ a → g.2.2.1 a = .inr (9, 0)) {a ci : Nat} (h : g.2.2.1 a = .inl ci) : a < g.1 := by
  rcases Nat.lt_or_ge a g.1 with q | q
  · exact q
  · rw [hg a q] at h; cases h
theorem qa_len_at {g : qa_G} {kd a n : Nat} (h : qa_len g kd a = n) (hn : 0 < n) : g.2.2.1 a = .inr (kd, n) := by
  unfold qa_len at h
  split at h
  next k m e =>
    split at h
    next q => subst q; subst h; exact e
    · omega
  · omega
theorem qa_lt2 {g : qa_G} (hg : ∀ a, g.1 ≤ a → g.2.2.1 a = .inr (9, 0)) {a kd n : Nat} (h : g.2.2.1 a = .inr (kd, n)) (hk : kd ≠ 9) : a < g.1 := by
  rcases Nat.lt_or_ge a g.1 with q | q
  · exact q
  · rw [hg a q] at h; cases h; exact absurd rfl hk
theorem qa_in_pos {i : Int32} {n : Nat} (h : vp_in i n) : 0 < n := by
  rcases Nat.lt_or_ge 0 n with q | q
  · exact q
  · exact absurd (Or.inr (by omega)) h
theorem qa_obj {dA : Nat → ClassId} {φ : Nat → Nat} {g : qa_G} {I : qa_I} {J : qa_J} {R : qa_R} (hg : ∀ a, g.1 ≤ a → g.2.2.1 a = .inr (9, 0)) {a ci : Nat} (h : g.2.2.1 a = .inl ci) :
    (qa_W dA φ g I J R)[a]? = some (φ a, .inr (ci, (List.range (qa_nf ci)).map fun k => qa_fv φ (qa_ty ci k) (I a k) (J a k) (R a k))) := by
  rw [qa_W_get (qa_lt hg h), h]
  rfl
theorem qa_arr {dA : Nat → ClassId} {φ : Nat → Nat} {g : qa_G} {I : qa_I} {J : qa_J} {R : qa_R} (hg : ∀ a, g.1 ≤ a → g.2.2.1 a = .inr (9, 0)) {a kd n : Nat} (h : g.2.2.1 a = .inr (kd, n)) (hk : kd ≠ 9) :
    (qa_W dA φ g I J R)[a]? = some (φ a, .inl (dA kd, qa_ar φ kd n (I a) (J a) (R a))) := by
  rw [qa_W_get (qa_lt2 hg h hk), h]
  rfl
theorem qa_fs_set {φ : Nat → Nat} {ci k : Nat} {I I' : Nat → Int32} {J J' : Nat → Int64} {R R' : Nat → Option Nat} {v : Value} (hv : v = qa_fv φ (qa_ty ci k) (I' k) (J' k) (R' k)) (ho : ∀ j, j ≠ k → qa_fv φ (qa_ty ci j) (I' j) (J' j) (R' j) = qa_fv φ (qa_ty ci j) (I j) (J j) (R j)) :
    ((List.range (qa_nf ci)).map fun k => qa_fv φ (qa_ty ci k) (I k) (J k) (R k)).set k v = (List.range (qa_nf ci)).map fun k => qa_fv φ (qa_ty ci k) (I' k) (J' k) (R' k) := by
  apply List.ext_getElem?
  intro i
  rw [List.getElem?_set]
  by_cases h : k = i
  · subst h
    rw [if_pos rfl]
    by_cases hi : k < qa_nf ci
    · simp [hi, hv]
    · simp [hi]
  · rw [if_neg h]
    by_cases hi : i < qa_nf ci
    · simp [hi, ho i (fun q => h q.symm)]
    · simp [hi]
def qi_getI (ci f : Nat) : qa_F := fun lo st g I J R k => match st with
  | .ref a :: st => g.2.2.1 a = .inl ci ∧ k lo (.int (I a f) :: st) g I J R
  | _ => False
theorem ok_getI {M : qa_M} {pc idx ci f N : Nat} {C : String} {T : u_T} (h : decode M.2.2.1 pc = .ok (.getfield idx, 3)) (hc : qa_cl[ci]? = some (C, T, N)) (hn : f < N) (hty : qa_ty ci f = .int ∨ qa_ty ci f = .boolean) (hw : Cond.fieldLink M.1 idx (T f).1 (T f).2.1 (T f).2.2.1 ∈ lw_tbl) : qa_Ok M pc (pc + 3) (qi_getI ci f) := by
  intro d b lo st g I J R Q k hk hf
  unfold qi_getI at hf
  split at hf
  next a st =>
    intro p l e rm s m args below meth c D dA A t X0 φ0 n0 w0 Z hA hG hR hT H locs cells slots ls φ hH hl
    obtain ⟨c1, -, -, c4⟩ := qa_clok hc
    have hg := hH.2.2.2.1
    refine va_get (v := .int (I a f)) hA.1 hA.2.1 hA.2.2.2.2.2.1 c1 hA.2.2.2.2.1 hG.1 hH.1 _ (qa_obj hg hf.1) hc f hn (hA.2.2.2.2.2.1 _ (qa_mem hw rfl)) (fun _ q => q) ?_ h ?_
    · rw [c4]
      simp only [List.getElem?_map, List.getElem?_range hn, Option.map_some]
      exact congrArg some (by rcases hty with h2 | h2 <;> rw [h2] <;> rfl)
    · exact hk _ _ _ _ _ _ hf.2 _ _ _ _ _ _ _ _ _ _ _ _ _ _ _ _ _ _ _ hA hG hR hT _ _ _ _ _ _ hH hl
  · exact hf.elim
theorem ok_getIN {M : qa_M} {pc idx ci f N : Nat} {C : String} {T : u_T} {host : String} (h : decode M.2.2.1 pc = .ok (.getfield idx, 3)) (hc : qa_cl[ci]? = some (C, T, N)) (hn : f < N) (hty : qa_ty ci f = .int ∨ qa_ty ci f = .boolean) (hw : Cond.fieldLinkNest M.1 idx (T f).1 (T f).2.1 (T f).2.2.1 host ∈ lw_tbl) : qa_Ok M pc (pc + 3) (qi_getI ci f) := by
  intro d b lo st g I J R Q k hk hf
  unfold qi_getI at hf
  split at hf
  next a st =>
    intro p l e rm s m args below meth c D dA A t X0 φ0 n0 w0 Z hA hG hR hT H locs cells slots ls φ hH hl
    obtain ⟨c1, -, -, c4⟩ := qa_clok hc
    have hg := hH.2.2.2.1
    refine va_getN (v := .int (I a f)) hA.1 hA.2.1 hA.2.2.2.2.2.1 c1 hA.2.2.2.2.1 hG.1 hH.1 _ (qa_obj hg hf.1) hc f hn ((hA.2.2.2.2.2.2.1.1 _ hw rfl).use rfl) (fun _ q => q) ?_ h ?_
    · rw [c4]
      simp only [List.getElem?_map, List.getElem?_range hn, Option.map_some]
      exact congrArg some (by rcases hty with h2 | h2 <;> rw [h2] <;> rfl)
    · exact hk _ _ _ _ _ _ hf.2 _ _ _ _ _ _ _ _ _ _ _ _ _ _ _ _ _ _ _ hA hG hR hT _ _ _ _ _ _ hH hl
  · exact hf.elim
def qi_getJ (ci f : Nat) : qa_F := fun lo st g I J R k => match st with
  | .ref a :: st => g.2.2.1 a = .inl ci ∧ k lo (.long (J a f) :: st) g I J R
  | _ => False
theorem ok_getJ {M : qa_M} {pc idx ci f N : Nat} {C : String} {T : u_T} (h : decode M.2.2.1 pc = .ok (.getfield idx, 3)) (hc : qa_cl[ci]? = some (C, T, N)) (hn : f < N) (hty : qa_ty ci f = .long) (hw : Cond.fieldLink M.1 idx (T f).1 (T f).2.1 (T f).2.2.1 ∈ lw_tbl) : qa_Ok M pc (pc + 3) (qi_getJ ci f) := by
  intro d b lo st g I J R Q k hk hf
  unfold qi_getJ at hf
  split at hf
  next a st =>
    intro p l e rm s m args below meth c D dA A t X0 φ0 n0 w0 Z hA hG hR hT H locs cells slots ls φ hH hl
    obtain ⟨c1, -, -, c4⟩ := qa_clok hc
    have hg := hH.2.2.2.1
    refine va_get (v := .long (J a f)) hA.1 hA.2.1 hA.2.2.2.2.2.1 c1 hA.2.2.2.2.1 hG.1 hH.1 _ (qa_obj hg hf.1) hc f hn (hA.2.2.2.2.2.1 _ (qa_mem hw rfl)) (fun _ q => q) ?_ h ?_
    · rw [c4]
      simp only [List.getElem?_map, List.getElem?_range hn, Option.map_some]
      exact congrArg some (by rw [hty]; rfl)
    · exact hk _ _ _ _ _ _ hf.2 _ _ _ _ _ _ _ _ _ _ _ _ _ _ _ _ _ _ _ hA hG hR hT _ _ _ _ _ _ hH hl
  · exact hf.elim
theorem ok_getJN {M : qa_M} {pc idx ci f N : Nat} {C : String} {T : u_T} {host : String} (h : decode M.2.2.1 pc = .ok (.getfield idx, 3)) (hc : qa_cl[ci]? = some (C, T, N)) (hn : f < N) (hty : qa_ty ci f = .long) (hw : Cond.fieldLinkNest M.1 idx (T f).1 (T f).2.1 (T f).2.2.1 host ∈ lw_tbl) : qa_Ok M pc (pc + 3) (qi_getJ ci f) := by
  intro d b lo st g I J R Q k hk hf
  unfold qi_getJ at hf
  split at hf
  next a st =>
    intro p l e rm s m args below meth c D dA A t X0 φ0 n0 w0 Z hA hG hR hT H locs cells slots ls φ hH hl
    obtain ⟨c1, -, -, c4⟩ := qa_clok hc
    have hg := hH.2.2.2.1
    refine va_getN (v := .long (J a f)) hA.1 hA.2.1 hA.2.2.2.2.2.1 c1 hA.2.2.2.2.1 hG.1 hH.1 _ (qa_obj hg hf.1) hc f hn ((hA.2.2.2.2.2.2.1.1 _ hw rfl).use rfl) (fun _ q => q) ?_ h ?_
    · rw [c4]
      simp only [List.getElem?_map, List.getElem?_range hn, Option.map_some]
      exact congrArg some (by rw [hty]; rfl)
    · exact hk _ _ _ _ _ _ hf.2 _ _ _ _ _ _ _ _ _ _ _ _ _ _ _ _ _ _ _ hA hG hR hT _ _ _ _ _ _ hH hl
  · exact hf.elim
def qi_getR (ci f : Nat) : qa_F := fun lo st g I J R k => match st with
  | .ref a :: st => g.2.2.1 a = .inl ci ∧ k lo (va_rf (R a f) :: st) g I J R
  | _ => False
theorem ok_getR {M : qa_M} {pc idx ci f N : Nat} {C : String} {T : u_T} (h : decode M.2.2.1 pc = .ok (.getfield idx, 3)) (hc : qa_cl[ci]? = some (C, T, N)) (hn : f < N) (hty : ∀ i j r φ, qa_fv φ (qa_ty ci f) i j r = va_rf (r.map φ)) (hw : Cond.fieldLink M.1 idx (T f).1 (T f).2.1 (T f).2.2.1 ∈ lw_tbl) : qa_Ok M pc (pc + 3) (qi_getR ci f) := by
  intro d b lo st g I J R Q k hk hf
  unfold qi_getR at hf
  split at hf
  next a st =>
    intro p l e rm s m args below meth c D dA A t X0 φ0 n0 w0 Z hA hG hR hT H locs cells slots ls φ hH hl
    obtain ⟨c1, -, -, c4⟩ := qa_clok hc
    have hg := hH.2.2.2.1
    refine va_get (v := va_rf ((R a f).map φ)) hA.1 hA.2.1 hA.2.2.2.2.2.1 c1 hA.2.2.2.2.1 hG.1 hH.1 _ (qa_obj hg hf.1) hc f hn (hA.2.2.2.2.2.1 _ (qa_mem hw rfl)) (fun _ q => q) ?_ h ?_
    · rw [c4]
      simp only [List.getElem?_map, List.getElem?_range hn, Option.map_some]
      exact congrArg some (hty _ _ _ _)
    · rw [← qa_c_rf]
      exact hk _ _ _ _ _ _ hf.2 _ _ _ _ _ _ _ _ _ _ _ _ _ _ _ _ _ _ _ hA hG hR hT _ _ _ _ _ _ hH hl
  · exact hf.elim
theorem ok_getRN {M : qa_M} {pc idx ci f N : Nat} {C : String} {T : u_T} {host : String} (h : decode M.2.2.1 pc = .ok (.getfield idx, 3)) (hc : qa_cl[ci]? = some (C, T, N)) (hn : f < N) (hty : ∀ i j r φ, qa_fv φ (qa_ty ci f) i j r = va_rf (r.map φ)) (hw : Cond.fieldLinkNest M.1 idx (T f).1 (T f).2.1 (T f).2.2.1 host ∈ lw_tbl) : qa_Ok M pc (pc + 3) (qi_getR ci f) := by
  intro d b lo st g I J R Q k hk hf
  unfold qi_getR at hf
  split at hf
  next a st =>
    intro p l e rm s m args below meth c D dA A t X0 φ0 n0 w0 Z hA hG hR hT H locs cells slots ls φ hH hl
    obtain ⟨c1, -, -, c4⟩ := qa_clok hc
    have hg := hH.2.2.2.1
    refine va_getN (v := va_rf ((R a f).map φ)) hA.1 hA.2.1 hA.2.2.2.2.2.1 c1 hA.2.2.2.2.1 hG.1 hH.1 _ (qa_obj hg hf.1) hc f hn ((hA.2.2.2.2.2.2.1.1 _ hw rfl).use rfl) (fun _ q => q) ?_ h ?_
    · rw [c4]
      simp only [List.getElem?_map, List.getElem?_range hn, Option.map_some]
      exact congrArg some (hty _ _ _ _)
    · rw [← qa_c_rf]
      exact hk _ _ _ _ _ _ hf.2 _ _ _ _ _ _ _ _ _ _ _ _ _ _ _ _ _ _ _ hA hG hR hT _ _ _ _ _ _ hH hl
  · exact hf.elim
theorem qa_u_ref {R : qa_R} {n a k x : Nat} (h : ∀ a k x, R a k = some x → x < n) (hx : x < n) : ∀ b j z, qa_u R a k (some x) b j = some z → z < n := by
  intro b j z hz
  unfold qa_u at hz
  split at hz
  · split at hz
    · cases hz; exact hx
    · exact h _ _ _ hz
  · exact h _ _ _ hz
def qi_putI (ci f : Nat) : qa_F := fun lo st g I J R k => match st with
  | .int x :: .ref a :: st => g.2.2.1 a = .inl ci ∧ k lo st g (qa_u I a f x) J R
  | _ => False
theorem ok_putI {M : qa_M} {pc idx ci f N : Nat} {C : String} {T : u_T} (h : decode M.2.2.1 pc = .ok (.putfield idx, 3)) (hc : qa_cl[ci]? = some (C, T, N)) (hn : f < N) (hty : qa_ty ci f = .int) (hw : Cond.fieldLink M.1 idx (T f).1 (T f).2.1 (T f).2.2.1 ∈ lw_tbl) (hfin : (T f).2.2.2 = false) : qa_Ok M pc (pc + 3) (qi_putI ci f) := by
  intro d b lo st g I J R Q k hk hf
  unfold qi_putI at hf
  split at hf
  next x a st =>
    intro p l e rm s m args below meth c D dA A t X0 φ0 n0 w0 Z hA hG hR hT H locs cells slots ls φ hH hl
    have hg := hH.2.2.2.1
    obtain ⟨c1, c2, c3, c4⟩ := qa_clok hc
    have hlt := qa_lt hg hf.1
    refine va_put (v := .int x) hA.1 hA.2.1 hA.2.2.2.2.2.1 c1 (qa_ty ci) c2 c3 hA.2.2.2.2.1 hG.1 hH.1 hH.2.1 hH.2.2.1 a (qa_obj hg hf.1) hc f hn (hA.2.2.2.2.2.1 _ (qa_mem hw rfl)) (fun _ q => q) hfin (c2 f hn) (by rw [hty]; exact rfl) (by rw [hty]; exact rfl) (by simp [c4]; exact hn) h (fun H1 locs1 hP hD hS => ?_)
    have he := qa_W_set (dA := dA) (φ := φ) (I := I) (J := J) (R := R) (I' := (qa_u I a f x)) (J' := J) (R' := R) (a := a) (e := .inr (ci, ((List.range (qa_nf ci)).map fun k => qa_fv φ (qa_ty ci k) (I a k) (J a k) (R a k)).set f (.int x))) hlt (by rw [hf.1, qa_fs_set (I' := (qa_u I a f x) a) (J' := J a) (R' := R a) (by rw [hty, qa_u_self]; simp [qa_fv]) (fun j hj => by rw [qa_u_self]; simp [hj])]; rfl) (fun b hb => ⟨qa_u_ne _ _ _ _ hb, rfl, rfl⟩)
    rw [he] at hP hD
    exact hk _ _ _ _ _ _ hf.2 _ _ _ _ _ _ _ _ _ _ _ _ _ _ _ _ _ _ _ hA hG hR hT _ _ _ _ _ _ ⟨hP, hD, hS, hH.2.2.2⟩ hl
  · exact hf.elim
theorem ok_putIN {M : qa_M} {pc idx ci f N : Nat} {C : String} {T : u_T} (h : decode M.2.2.1 pc = .ok (.putfield idx, 3)) (hc : qa_cl[ci]? = some (C, T, N)) (hn : f < N) (hty : qa_ty ci f = .int) {host : String} (hw : Cond.fieldLinkNest M.1 idx (T f).1 (T f).2.1 (T f).2.2.1 host ∈ lw_tbl) (hfin : (T f).2.2.2 = false) : qa_Ok M pc (pc + 3) (qi_putI ci f) := by
  intro d b lo st g I J R Q k hk hf
  unfold qi_putI at hf
  split at hf
  next x a st =>
    intro p l e rm s m args below meth c D dA A t X0 φ0 n0 w0 Z hA hG hR hT H locs cells slots ls φ hH hl
    have hg := hH.2.2.2.1
    obtain ⟨c1, c2, c3, c4⟩ := qa_clok hc
    have hlt := qa_lt hg hf.1
    refine va_putN (v := .int x) hA.1 hA.2.1 hA.2.2.2.2.2.1 c1 (qa_ty ci) c2 c3 hA.2.2.2.2.1 hG.1 hH.1 hH.2.1 hH.2.2.1 a (qa_obj hg hf.1) hc f hn ((hA.2.2.2.2.2.2.1.1 _ hw rfl).use rfl) (fun _ q => q) hfin (c2 f hn) (by rw [hty]; exact rfl) (by rw [hty]; exact rfl) (by simp [c4]; exact hn) h (fun H1 locs1 hP hD hS => ?_)
    have he := qa_W_set (dA := dA) (φ := φ) (I := I) (J := J) (R := R) (I' := (qa_u I a f x)) (J' := J) (R' := R) (a := a) (e := .inr (ci, ((List.range (qa_nf ci)).map fun k => qa_fv φ (qa_ty ci k) (I a k) (J a k) (R a k)).set f (.int x))) hlt (by rw [hf.1, qa_fs_set (I' := (qa_u I a f x) a) (J' := J a) (R' := R a) (by rw [hty, qa_u_self]; simp [qa_fv]) (fun j hj => by rw [qa_u_self]; simp [hj])]; rfl) (fun b hb => ⟨qa_u_ne _ _ _ _ hb, rfl, rfl⟩)
    rw [he] at hP hD
    exact hk _ _ _ _ _ _ hf.2 _ _ _ _ _ _ _ _ _ _ _ _ _ _ _ _ _ _ _ hA hG hR hT _ _ _ _ _ _ ⟨hP, hD, hS, hH.2.2.2⟩ hl
  · exact hf.elim
theorem ok_putIF {M : qa_M} {pc idx ci f N : Nat} {C : String} {T : u_T} (h : decode M.2.2.1 pc = .ok (.putfield idx, 3)) (hc : qa_cl[ci]? = some (C, T, N)) (hn : f < N) (hty : qa_ty ci f = .int) (hw : Cond.fieldLink M.1 idx (T f).1 (T f).2.1 (T f).2.2.1 ∈ lw_tbl) (hfin : (T f).2.2.2 = true) (hin : M.2.2.2.2.2 = true) (hown : (T f).1 = M.1) : qa_Ok M pc (pc + 3) (qi_putI ci f) := by
  intro d b lo st g I J R Q k hk hf
  unfold qi_putI at hf
  split at hf
  next x a st =>
    intro p l e rm s m args below meth c D dA A t X0 φ0 n0 w0 Z hA hG hR hT H locs cells slots ls φ hH hl
    have hg := hH.2.2.2.1
    obtain ⟨c1, c2, c3, c4⟩ := qa_clok hc
    have hlt := qa_lt hg hf.1
    refine va_putF (v := .int x) hA.1 hA.2.1 hA.2.2.2.2.2.1 c1 (qa_ty ci) c2 c3 hA.2.2.2.2.1 hG.1 hH.1 hH.2.1 hH.2.2.1 a (qa_obj hg hf.1) hc f hn (hA.2.2.2.2.2.1 _ (qa_mem hw rfl)) (fun _ q => q) hfin (hA.2.2.2.2.2.2.2.2 hin) hown (c2 f hn) (by rw [hty]; exact rfl) (by rw [hty]; exact rfl) (by simp [c4]; exact hn) h (fun H1 locs1 hP hD hS => ?_)
    have he := qa_W_set (dA := dA) (φ := φ) (I := I) (J := J) (R := R) (I' := (qa_u I a f x)) (J' := J) (R' := R) (a := a) (e := .inr (ci, ((List.range (qa_nf ci)).map fun k => qa_fv φ (qa_ty ci k) (I a k) (J a k) (R a k)).set f (.int x))) hlt (by rw [hf.1, qa_fs_set (I' := (qa_u I a f x) a) (J' := J a) (R' := R a) (by rw [hty, qa_u_self]; simp [qa_fv]) (fun j hj => by rw [qa_u_self]; simp [hj])]; rfl) (fun b hb => ⟨qa_u_ne _ _ _ _ hb, rfl, rfl⟩)
    rw [he] at hP hD
    exact hk _ _ _ _ _ _ hf.2 _ _ _ _ _ _ _ _ _ _ _ _ _ _ _ _ _ _ _ hA hG hR hT _ _ _ _ _ _ ⟨hP, hD, hS, hH.2.2.2⟩ hl
  · exact hf.elim
def qi_putZ (ci f : Nat) : qa_F := fun lo st g I J R k => match st with
  | .int x :: .ref a :: st => g.2.2.1 a = .inl ci ∧ qa_b x ∧ k lo st g (qa_u I a f x) J R
  | _ => False
theorem ok_putZ {M : qa_M} {pc idx ci f N : Nat} {C : String} {T : u_T} (h : decode M.2.2.1 pc = .ok (.putfield idx, 3)) (hc : qa_cl[ci]? = some (C, T, N)) (hn : f < N) (hty : qa_ty ci f = .boolean) (hw : Cond.fieldLink M.1 idx (T f).1 (T f).2.1 (T f).2.2.1 ∈ lw_tbl) (hfin : (T f).2.2.2 = false) : qa_Ok M pc (pc + 3) (qi_putZ ci f) := by
  intro d b lo st g I J R Q k hk hf
  unfold qi_putZ at hf
  split at hf
  next x a st =>
    intro p l e rm s m args below meth c D dA A t X0 φ0 n0 w0 Z hA hG hR hT H locs cells slots ls φ hH hl
    have hg := hH.2.2.2.1
    obtain ⟨c1, c2, c3, c4⟩ := qa_clok hc
    have hlt := qa_lt hg hf.1
    refine va_put (v := .int x) hA.1 hA.2.1 hA.2.2.2.2.2.1 c1 (qa_ty ci) c2 c3 hA.2.2.2.2.1 hG.1 hH.1 hH.2.1 hH.2.2.1 a (qa_obj hg hf.1) hc f hn (hA.2.2.2.2.2.1 _ (qa_mem hw rfl)) (fun _ q => q) hfin (c2 f hn) (by rw [hty]; exact (by rcases hf.2.1 with q | q <;> rw [q] <;> rfl)) (by rw [hty]; exact (by rcases hf.2.1 with q | q <;> rw [q] <;> rfl)) (by simp [c4]; exact hn) h (fun H1 locs1 hP hD hS => ?_)
    have he := qa_W_set (dA := dA) (φ := φ) (I := I) (J := J) (R := R) (I' := (qa_u I a f x)) (J' := J) (R' := R) (a := a) (e := .inr (ci, ((List.range (qa_nf ci)).map fun k => qa_fv φ (qa_ty ci k) (I a k) (J a k) (R a k)).set f (.int x))) hlt (by rw [hf.1, qa_fs_set (I' := (qa_u I a f x) a) (J' := J a) (R' := R a) (by rw [hty, qa_u_self]; simp [qa_fv]) (fun j hj => by rw [qa_u_self]; simp [hj])]; rfl) (fun b hb => ⟨qa_u_ne _ _ _ _ hb, rfl, rfl⟩)
    rw [he] at hP hD
    exact hk _ _ _ _ _ _ hf.2.2 _ _ _ _ _ _ _ _ _ _ _ _ _ _ _ _ _ _ _ hA hG hR hT _ _ _ _ _ _ ⟨hP, hD, hS, hH.2.2.2⟩ hl
  · exact hf.elim
def qi_putJ (ci f : Nat) : qa_F := fun lo st g I J R k => match st with
  | .long x :: .ref a :: st => g.2.2.1 a = .inl ci ∧ k lo st g I (qa_u J a f x) R
  | _ => False
theorem ok_putJ {M : qa_M} {pc idx ci f N : Nat} {C : String} {T : u_T} (h : decode M.2.2.1 pc = .ok (.putfield idx, 3)) (hc : qa_cl[ci]? = some (C, T, N)) (hn : f < N) (hty : qa_ty ci f = .long) (hw : Cond.fieldLink M.1 idx (T f).1 (T f).2.1 (T f).2.2.1 ∈ lw_tbl) (hfin : (T f).2.2.2 = false) : qa_Ok M pc (pc + 3) (qi_putJ ci f) := by
  intro d b lo st g I J R Q k hk hf
  unfold qi_putJ at hf
  split at hf
  next x a st =>
    intro p l e rm s m args below meth c D dA A t X0 φ0 n0 w0 Z hA hG hR hT H locs cells slots ls φ hH hl
    have hg := hH.2.2.2.1
    obtain ⟨c1, c2, c3, c4⟩ := qa_clok hc
    have hlt := qa_lt hg hf.1
    refine va_put (v := .long x) hA.1 hA.2.1 hA.2.2.2.2.2.1 c1 (qa_ty ci) c2 c3 hA.2.2.2.2.1 hG.1 hH.1 hH.2.1 hH.2.2.1 a (qa_obj hg hf.1) hc f hn (hA.2.2.2.2.2.1 _ (qa_mem hw rfl)) (fun _ q => q) hfin (c2 f hn) (by rw [hty]; exact rfl) (by rw [hty]; exact rfl) (by simp [c4]; exact hn) h (fun H1 locs1 hP hD hS => ?_)
    have he := qa_W_set (dA := dA) (φ := φ) (I := I) (J := J) (R := R) (I' := I) (J' := (qa_u J a f x)) (R' := R) (a := a) (e := .inr (ci, ((List.range (qa_nf ci)).map fun k => qa_fv φ (qa_ty ci k) (I a k) (J a k) (R a k)).set f (.long x))) hlt (by rw [hf.1, qa_fs_set (I' := I a) (J' := (qa_u J a f x) a) (R' := R a) (by rw [hty, qa_u_self]; simp [qa_fv]) (fun j hj => by rw [qa_u_self]; simp [hj])]; rfl) (fun b hb => ⟨rfl, qa_u_ne _ _ _ _ hb, rfl⟩)
    rw [he] at hP hD
    exact hk _ _ _ _ _ _ hf.2 _ _ _ _ _ _ _ _ _ _ _ _ _ _ _ _ _ _ _ hA hG hR hT _ _ _ _ _ _ ⟨hP, hD, hS, hH.2.2.2⟩ hl
  · exact hf.elim
def qi_putR (ci f : Nat) : qa_F := fun lo st g I J R k => match st with
  | .ref x :: .ref a :: st => g.2.2.1 a = .inl ci ∧ x < g.1 ∧ k lo st g I J (qa_u R a f (some x))
  | _ => False
theorem ok_putR {M : qa_M} {pc idx ci f N : Nat} {C : String} {T : u_T} (h : decode M.2.2.1 pc = .ok (.putfield idx, 3)) (hc : qa_cl[ci]? = some (C, T, N)) (hn : f < N) (hty : ∀ i j r φ, qa_fv φ (qa_ty ci f) i j r = va_rf (r.map φ)) (hfr : ∀ y, narrow (qa_ty ci f) (.ref y) = .ref y ∧ fits (qa_ty ci f) (.ref y) = true) (hw : Cond.fieldLink M.1 idx (T f).1 (T f).2.1 (T f).2.2.1 ∈ lw_tbl) (hfin : (T f).2.2.2 = false) : qa_Ok M pc (pc + 3) (qi_putR ci f) := by
  intro d b lo st g I J R Q k hk hf
  unfold qi_putR at hf
  split at hf
  next x a st =>
    intro p l e rm s m args below meth c D dA A t X0 φ0 n0 w0 Z hA hG hR hT H locs cells slots ls φ hH hl
    have hg := hH.2.2.2.1
    obtain ⟨c1, c2, c3, c4⟩ := qa_clok hc
    have hlt := qa_lt hg hf.1
    refine va_put (v := .ref (φ x)) hA.1 hA.2.1 hA.2.2.2.2.2.1 c1 (qa_ty ci) c2 c3 hA.2.2.2.2.1 hG.1 hH.1 hH.2.1 hH.2.2.1 a (qa_obj hg hf.1) hc f hn (hA.2.2.2.2.2.1 _ (qa_mem hw rfl)) (fun _ q => q) hfin (c2 f hn) (by exact (hfr _).1) (by exact (hfr _).2) (by simp [c4]; exact hn) h (fun H1 locs1 hP hD hS => ?_)
    have he := qa_W_set (dA := dA) (φ := φ) (I := I) (J := J) (R := R) (I' := I) (J' := J) (R' := (qa_u R a f (some x))) (a := a) (e := .inr (ci, ((List.range (qa_nf ci)).map fun k => qa_fv φ (qa_ty ci k) (I a k) (J a k) (R a k)).set f (.ref (φ x)))) hlt (by rw [hf.1, qa_fs_set (I' := I a) (J' := J a) (R' := (qa_u R a f (some x)) a) (by rw [hty, qa_u_self]; simp [va_rf]) (fun j hj => by rw [qa_u_self]; simp [hj])]; rfl) (fun b hb => ⟨rfl, rfl, qa_u_ne _ _ _ _ hb⟩)
    rw [he] at hP hD
    exact hk _ _ _ _ _ _ hf.2.2 _ _ _ _ _ _ _ _ _ _ _ _ _ _ _ _ _ _ _ hA hG hR hT _ _ _ _ _ _ ⟨hP, hD, hS, hH.2.2.2.1, hH.2.2.2.2.1, hH.2.2.2.2.2.1, hH.2.2.2.2.2.2.1, hH.2.2.2.2.2.2.2.1, qa_u_ref hH.2.2.2.2.2.2.2.2.1 hf.2.1, hH.2.2.2.2.2.2.2.2.2⟩ hl
  · exact hf.elim
theorem ok_putRN {M : qa_M} {pc idx ci f N : Nat} {C : String} {T : u_T} (h : decode M.2.2.1 pc = .ok (.putfield idx, 3)) (hc : qa_cl[ci]? = some (C, T, N)) (hn : f < N) (hty : ∀ i j r φ, qa_fv φ (qa_ty ci f) i j r = va_rf (r.map φ)) (hfr : ∀ y, narrow (qa_ty ci f) (.ref y) = .ref y ∧ fits (qa_ty ci f) (.ref y) = true) {host : String} (hw : Cond.fieldLinkNest M.1 idx (T f).1 (T f).2.1 (T f).2.2.1 host ∈ lw_tbl) (hfin : (T f).2.2.2 = false) : qa_Ok M pc (pc + 3) (qi_putR ci f) := by
  intro d b lo st g I J R Q k hk hf
  unfold qi_putR at hf
  split at hf
  next x a st =>
    intro p l e rm s m args below meth c D dA A t X0 φ0 n0 w0 Z hA hG hR hT H locs cells slots ls φ hH hl
    have hg := hH.2.2.2.1
    obtain ⟨c1, c2, c3, c4⟩ := qa_clok hc
    have hlt := qa_lt hg hf.1
    refine va_putN (v := .ref (φ x)) hA.1 hA.2.1 hA.2.2.2.2.2.1 c1 (qa_ty ci) c2 c3 hA.2.2.2.2.1 hG.1 hH.1 hH.2.1 hH.2.2.1 a (qa_obj hg hf.1) hc f hn ((hA.2.2.2.2.2.2.1.1 _ hw rfl).use rfl) (fun _ q => q) hfin (c2 f hn) (by exact (hfr _).1) (by exact (hfr _).2) (by simp [c4]; exact hn) h (fun H1 locs1 hP hD hS => ?_)
    have he := qa_W_set (dA := dA) (φ := φ) (I := I) (J := J) (R := R) (I' := I) (J' := J) (R' := (qa_u R a f (some x))) (a := a) (e := .inr (ci, ((List.range (qa_nf ci)).map fun k => qa_fv φ (qa_ty ci k) (I a k) (J a k) (R a k)).set f (.ref (φ x)))) hlt (by rw [hf.1, qa_fs_set (I' := I a) (J' := J a) (R' := (qa_u R a f (some x)) a) (by rw [hty, qa_u_self]; simp [va_rf]) (fun j hj => by rw [qa_u_self]; simp [hj])]; rfl) (fun b hb => ⟨rfl, rfl, qa_u_ne _ _ _ _ hb⟩)
    rw [he] at hP hD
    exact hk _ _ _ _ _ _ hf.2.2 _ _ _ _ _ _ _ _ _ _ _ _ _ _ _ _ _ _ _ hA hG hR hT _ _ _ _ _ _ ⟨hP, hD, hS, hH.2.2.2.1, hH.2.2.2.2.1, hH.2.2.2.2.2.1, hH.2.2.2.2.2.2.1, hH.2.2.2.2.2.2.2.1, qa_u_ref hH.2.2.2.2.2.2.2.2.1 hf.2.1, hH.2.2.2.2.2.2.2.2.2⟩ hl
  · exact hf.elim
theorem ok_putRF {M : qa_M} {pc idx ci f N : Nat} {C : String} {T : u_T} (h : decode M.2.2.1 pc = .ok (.putfield idx, 3)) (hc : qa_cl[ci]? = some (C, T, N)) (hn : f < N) (hty : ∀ i j r φ, qa_fv φ (qa_ty ci f) i j r = va_rf (r.map φ)) (hfr : ∀ y, narrow (qa_ty ci f) (.ref y) = .ref y ∧ fits (qa_ty ci f) (.ref y) = true) (hw : Cond.fieldLink M.1 idx (T f).1 (T f).2.1 (T f).2.2.1 ∈ lw_tbl) (hfin : (T f).2.2.2 = true) (hin : M.2.2.2.2.2 = true) (hown : (T f).1 = M.1) : qa_Ok M pc (pc + 3) (qi_putR ci f) := by
  intro d b lo st g I J R Q k hk hf
  unfold qi_putR at hf
  split at hf
  next x a st =>
    intro p l e rm s m args below meth c D dA A t X0 φ0 n0 w0 Z hA hG hR hT H locs cells slots ls φ hH hl
    have hg := hH.2.2.2.1
    obtain ⟨c1, c2, c3, c4⟩ := qa_clok hc
    have hlt := qa_lt hg hf.1
    refine va_putF (v := .ref (φ x)) hA.1 hA.2.1 hA.2.2.2.2.2.1 c1 (qa_ty ci) c2 c3 hA.2.2.2.2.1 hG.1 hH.1 hH.2.1 hH.2.2.1 a (qa_obj hg hf.1) hc f hn (hA.2.2.2.2.2.1 _ (qa_mem hw rfl)) (fun _ q => q) hfin (hA.2.2.2.2.2.2.2.2 hin) hown (c2 f hn) (by exact (hfr _).1) (by exact (hfr _).2) (by simp [c4]; exact hn) h (fun H1 locs1 hP hD hS => ?_)
    have he := qa_W_set (dA := dA) (φ := φ) (I := I) (J := J) (R := R) (I' := I) (J' := J) (R' := (qa_u R a f (some x))) (a := a) (e := .inr (ci, ((List.range (qa_nf ci)).map fun k => qa_fv φ (qa_ty ci k) (I a k) (J a k) (R a k)).set f (.ref (φ x)))) hlt (by rw [hf.1, qa_fs_set (I' := I a) (J' := J a) (R' := (qa_u R a f (some x)) a) (by rw [hty, qa_u_self]; simp [va_rf]) (fun j hj => by rw [qa_u_self]; simp [hj])]; rfl) (fun b hb => ⟨rfl, rfl, qa_u_ne _ _ _ _ hb⟩)
    rw [he] at hP hD
    exact hk _ _ _ _ _ _ hf.2.2 _ _ _ _ _ _ _ _ _ _ _ _ _ _ _ _ _ _ _ hA hG hR hT _ _ _ _ _ _ ⟨hP, hD, hS, hH.2.2.2.1, hH.2.2.2.2.1, hH.2.2.2.2.2.1, hH.2.2.2.2.2.2.1, hH.2.2.2.2.2.2.2.1, qa_u_ref hH.2.2.2.2.2.2.2.2.1 hf.2.1, hH.2.2.2.2.2.2.2.2.2⟩ hl
  · exact hf.elim
def qi_iald : qa_F := fun lo st g I J R k => match st with
  | .int i :: .ref a :: st => vp_in i (qa_len g 0 a) ∧ k lo (.int (I a i.toNatClampNeg) :: st) g I J R
  | _ => False
theorem ok_iald {M : qa_M} {pc : Nat} (h : decode M.2.2.1 pc = .ok (.iaload, 1)) : qa_Ok M pc (pc + 1) qi_iald := by
  intro d b lo st g I J R Q k hk hf
  unfold qi_iald at hf
  split at hf
  next i a st =>
    intro p l e rm s m args below meth c D dA A t X0 φ0 n0 w0 Z hA hG hR hT H locs cells slots ls φ hH hl
    have hg := hH.2.2.2.1
    have hl2 := qa_len_at (kd := 0) (a := a) (g := g) rfl (qa_in_pos hf.1)
    refine va_iald hA.1 hA.2.1 hG.1 hH.1 a 0 (qa_arr hg hl2 (by decide)) rfl hf.1 h ?_
    exact hk _ _ _ _ _ _ hf.2 _ _ _ _ _ _ _ _ _ _ _ _ _ _ _ _ _ _ _ hA hG hR hT _ _ _ _ _ _ hH hl
  · exact hf.elim
def qi_lald : qa_F := fun lo st g I J R k => match st with
  | .int i :: .ref a :: st => vp_in i (qa_len g 1 a) ∧ k lo (.long (J a i.toNatClampNeg) :: st) g I J R
  | _ => False
theorem ok_lald {M : qa_M} {pc : Nat} (h : decode M.2.2.1 pc = .ok (.laload, 1)) : qa_Ok M pc (pc + 1) qi_lald := by
  intro d b lo st g I J R Q k hk hf
  unfold qi_lald at hf
  split at hf
  next i a st =>
    intro p l e rm s m args below meth c D dA A t X0 φ0 n0 w0 Z hA hG hR hT H locs cells slots ls φ hH hl
    have hg := hH.2.2.2.1
    have hl2 := qa_len_at (kd := 1) (a := a) (g := g) rfl (qa_in_pos hf.1)
    refine va_lald hA.1 hA.2.1 hG.1 hH.1 a 1 (qa_arr hg hl2 (by decide)) rfl hf.1 h ?_
    exact hk _ _ _ _ _ _ hf.2 _ _ _ _ _ _ _ _ _ _ _ _ _ _ _ _ _ _ _ hA hG hR hT _ _ _ _ _ _ hH hl
  · exact hf.elim
def qi_zald : qa_F := fun lo st g I J R k => match st with
  | .int i :: .ref a :: st => vp_in i (qa_len g 2 a) ∧ k lo (.int (I a i.toNatClampNeg) :: st) g I J R
  | _ => False
theorem ok_zald {M : qa_M} {pc : Nat} (h : decode M.2.2.1 pc = .ok (.baload, 1)) : qa_Ok M pc (pc + 1) qi_zald := by
  intro d b lo st g I J R Q k hk hf
  unfold qi_zald at hf
  split at hf
  next i a st =>
    intro p l e rm s m args below meth c D dA A t X0 φ0 n0 w0 Z hA hG hR hT H locs cells slots ls φ hH hl
    have hg := hH.2.2.2.1
    have hl2 := qa_len_at (kd := 2) (a := a) (g := g) rfl (qa_in_pos hf.1)
    refine va_zald hA.1 hA.2.1 hG.1 hH.1 a 2 (qa_arr hg hl2 (by decide)) rfl hf.1 h ?_
    exact hk _ _ _ _ _ _ hf.2 _ _ _ _ _ _ _ _ _ _ _ _ _ _ _ _ _ _ _ hA hG hR hT _ _ _ _ _ _ hH hl
  · exact hf.elim
def qi_aald : qa_F := fun lo st g I J R k => match st with
  | .int i :: .ref a :: st => vp_in i (qa_len g 3 a) ∧ k lo (va_rf (R a i.toNatClampNeg) :: st) g I J R
  | _ => False
theorem ok_aald {M : qa_M} {pc : Nat} (h : decode M.2.2.1 pc = .ok (.aaload, 1)) : qa_Ok M pc (pc + 1) qi_aald := by
  intro d b lo st g I J R Q k hk hf
  unfold qi_aald at hf
  split at hf
  next i a st =>
    intro p l e rm s m args below meth c D dA A t X0 φ0 n0 w0 Z hA hG hR hT H locs cells slots ls φ hH hl
    have hg := hH.2.2.2.1
    have hl2 := qa_len_at (kd := 3) (a := a) (g := g) rfl (qa_in_pos hf.1)
    refine va_aldq hA.1 hA.2.1 hG.1 hH.1 a 3 (qa_arr hg hl2 (by decide)) rfl hf.1 h ?_
    have e1 : va_rf ((R a i.toNatClampNeg).map φ) = qa_c φ (va_rf (R a i.toNatClampNeg)) := (qa_c_rf _ _).symm
    show W p l e rm s m args below meth c H locs cells slots Z (F0 m (pc + 1) ls (va_rf ((R a i.toNatClampNeg).map φ) :: st.map (qa_c φ)))
    rw [e1]
    exact hk _ _ _ _ _ _ hf.2 _ _ _ _ _ _ _ _ _ _ _ _ _ _ _ _ _ _ _ hA hG hR hT _ _ _ _ _ _ hH hl
  · exact hf.elim
def qi_iast : qa_F := fun lo st g I J R k => match st with
  | .int x :: .int i :: .ref a :: st => vp_in i (qa_len g 0 a) ∧ k lo st g (qa_u I a i.toNatClampNeg x) J R
  | _ => False
theorem ok_iast {M : qa_M} {pc : Nat} (h : decode M.2.2.1 pc = .ok (.iastore, 1)) : qa_Ok M pc (pc + 1) qi_iast := by
  intro d b lo st g I J R Q k hk hf
  unfold qi_iast at hf
  split at hf
  next x i a st =>
    intro p l e rm s m args below meth c D dA A t X0 φ0 n0 w0 Z hA hG hR hT H locs cells slots ls φ hH hl
    have hg := hH.2.2.2.1
    have hl2 := qa_len_at (kd := 0) (a := a) (g := g) rfl (qa_in_pos hf.1)
    refine va_iast hA.1 hA.2.1 hG.1 hH.1 hH.2.1 hH.2.2.1 a 0 (qa_arr hg hl2 (by decide)) rfl hf.1 h (fun H1 locs1 hP hD hS => ?_)
    have he := qa_W_set (dA := dA) (φ := φ) (I := I) (J := J) (R := R) (I' := (qa_u I a i.toNatClampNeg x)) (J' := J) (R' := R) (a := a) (e := .inl (dA 0, qa_len g 0 a, .inl (upd (I a) i.toNatClampNeg x))) (qa_lt2 hg hl2 (by decide)) (by rw [hl2, qa_u_self]; rfl) (fun b hb => ⟨qa_u_ne _ _ _ _ hb, rfl, rfl⟩)
    rw [he] at hP hD
    exact hk _ _ _ _ _ _ hf.2 _ _ _ _ _ _ _ _ _ _ _ _ _ _ _ _ _ _ _ hA hG hR hT _ _ _ _ _ _ ⟨hP, hD, hS, hH.2.2.2⟩ hl
  · exact hf.elim
def qi_last : qa_F := fun lo st g I J R k => match st with
  | .long x :: .int i :: .ref a :: st => vp_in i (qa_len g 1 a) ∧ k lo st g I (qa_u J a i.toNatClampNeg x) R
  | _ => False
theorem ok_last {M : qa_M} {pc : Nat} (h : decode M.2.2.1 pc = .ok (.lastore, 1)) : qa_Ok M pc (pc + 1) qi_last := by
  intro d b lo st g I J R Q k hk hf
  unfold qi_last at hf
  split at hf
  next x i a st =>
    intro p l e rm s m args below meth c D dA A t X0 φ0 n0 w0 Z hA hG hR hT H locs cells slots ls φ hH hl
    have hg := hH.2.2.2.1
    have hl2 := qa_len_at (kd := 1) (a := a) (g := g) rfl (qa_in_pos hf.1)
    refine va_last hA.1 hA.2.1 hG.1 hH.1 hH.2.1 hH.2.2.1 a 1 (qa_arr hg hl2 (by decide)) rfl hf.1 h (fun H1 locs1 hP hD hS => ?_)
    have he := qa_W_set (dA := dA) (φ := φ) (I := I) (J := J) (R := R) (I' := I) (J' := (qa_u J a i.toNatClampNeg x)) (R' := R) (a := a) (e := .inl (dA 1, qa_len g 1 a, .inr (.inl (vp_updL (J a) i.toNatClampNeg x)))) (qa_lt2 hg hl2 (by decide)) (by rw [hl2, qa_u_self]; rfl) (fun b hb => ⟨rfl, qa_u_ne _ _ _ _ hb, rfl⟩)
    rw [he] at hP hD
    exact hk _ _ _ _ _ _ hf.2 _ _ _ _ _ _ _ _ _ _ _ _ _ _ _ _ _ _ _ hA hG hR hT _ _ _ _ _ _ ⟨hP, hD, hS, hH.2.2.2⟩ hl
  · exact hf.elim
def qi_zast : qa_F := fun lo st g I J R k => match st with
  | .int x :: .int i :: .ref a :: st => vp_in i (qa_len g 2 a) ∧ qa_b x ∧ k lo st g (qa_u I a i.toNatClampNeg x) J R
  | _ => False
theorem ok_zast {M : qa_M} {pc : Nat} (h : decode M.2.2.1 pc = .ok (.bastore, 1)) : qa_Ok M pc (pc + 1) qi_zast := by
  intro d b lo st g I J R Q k hk hf
  unfold qi_zast at hf
  split at hf
  next x i a st =>
    intro p l e rm s m args below meth c D dA A t X0 φ0 n0 w0 Z hA hG hR hT H locs cells slots ls φ hH hl
    have hg := hH.2.2.2.1
    have hl2 := qa_len_at (kd := 2) (a := a) (g := g) rfl (qa_in_pos hf.1)
    have hnz : vp_nar .boolean x = x := by rcases hf.2.1 with q | q <;> rw [q] <;> rfl
    refine va_zast hA.1 hA.2.1 hG.1 hH.1 hH.2.1 hH.2.2.1 a 2 (qa_arr hg hl2 (by decide)) rfl hf.1 h (fun H1 locs1 hP hD hS => ?_)
    have he := qa_W_set (dA := dA) (φ := φ) (I := I) (J := J) (R := R) (I' := (qa_u I a i.toNatClampNeg x)) (J' := J) (R' := R) (a := a) (e := .inl (dA 2, qa_len g 2 a, .inl (upd (I a) i.toNatClampNeg (vp_nar .boolean x)))) (qa_lt2 hg hl2 (by decide)) (by rw [hl2, qa_u_self, hnz]; rfl) (fun b hb => ⟨qa_u_ne _ _ _ _ hb, rfl, rfl⟩)
    rw [he] at hP hD
    exact hk _ _ _ _ _ _ hf.2.2 _ _ _ _ _ _ _ _ _ _ _ _ _ _ _ _ _ _ _ hA hG hR hT _ _ _ _ _ _ ⟨hP, hD, hS, hH.2.2.2⟩ hl
  · exact hf.elim
def qi_aast : qa_F := fun lo st g I J R k => match st with
  | .ref x :: .int i :: .ref a :: st => vp_in i (qa_len g 3 a) ∧ g.2.2.1 x = .inl 1 ∧ k lo st g I J (qa_u R a i.toNatClampNeg (some x))
  | _ => False
theorem ok_aast {M : qa_M} {pc : Nat} (h : decode M.2.2.1 pc = .ok (.aastore, 1)) : qa_Ok M pc (pc + 1) qi_aast := by
  intro d b lo st g I J R Q k hk hf
  unfold qi_aast at hf
  split at hf
  next x i a st =>
    intro p l e rm s m args below meth c D dA A t X0 φ0 n0 w0 Z hA hG hR hT H locs cells slots ls φ hH hl
    have hg := hH.2.2.2.1
    have hl2 := qa_len_at (kd := 3) (a := a) (g := g) rfl (qa_in_pos hf.1)
    refine va_astq (r := (RX1, TX1, 12)) hA.1 hA.2.1 hG.1 hH.1 hH.2.1 hH.2.2.1 a 3 x 1 (qa_arr hg hl2 (by decide)) rfl (qa_obj hg hf.2.1) rfl hf.1 h (fun H1 locs1 hP hD hS => ?_)
    have he := qa_W_set (dA := dA) (φ := φ) (I := I) (J := J) (R := R) (I' := I) (J' := J) (R' := qa_u R a i.toNatClampNeg (some x)) (a := a) (e := .inl (dA 3, qa_len g 3 a, .inr (.inr (.inr (.inr (va_up (fun j => (R a j).map φ) i.toNatClampNeg (some (φ x)))))))) (qa_lt2 hg hl2 (by decide)) (by
      rw [hl2, qa_u_self]
      have e2 : va_up (fun j => (R a j).map φ) i.toNatClampNeg (some (φ x)) = fun j => (if j = i.toNatClampNeg then some x else R a j).map φ := by
        funext j
        by_cases q : j = i.toNatClampNeg <;> simp [va_up, q]
      rw [e2]
      rfl) (fun b hb => ⟨rfl, rfl, qa_u_ne _ _ _ _ hb⟩)
    rw [he] at hP hD
    exact hk _ _ _ _ _ _ hf.2.2 _ _ _ _ _ _ _ _ _ _ _ _ _ _ _ _ _ _ _ hA hG hR hT _ _ _ _ _ _ ⟨hP, hD, hS, hH.2.2.2.1, hH.2.2.2.2.1, hH.2.2.2.2.2.1, hH.2.2.2.2.2.2.1, hH.2.2.2.2.2.2.2.1, qa_u_ref hH.2.2.2.2.2.2.2.2.1 (qa_lt hg hf.2.1), hH.2.2.2.2.2.2.2.2.2⟩ hl
  · exact hf.elim
def qi_alen0 : qa_F := fun lo st g I J R k => match st with
  | .ref a :: st => g.2.2.1 a = .inr (0, qa_len g 0 a) ∧ k lo (.int (nI (qa_len g 0 a)) :: st) g I J R
  | _ => False
theorem ok_alen0 {M : qa_M} {pc : Nat} (h : decode M.2.2.1 pc = .ok (.arraylength, 1)) : qa_Ok M pc (pc + 1) qi_alen0 := by
  intro d b lo st g I J R Q k hk hf
  unfold qi_alen0 at hf
  split at hf
  next a st =>
    intro p l e rm s m args below meth c D dA A t X0 φ0 n0 w0 Z hA hG hR hT H locs cells slots ls φ hH hl
    have hg := hH.2.2.2.1
    refine va_alen (v := nI (qa_len g 0 a)) hA.1 hA.2.1 hG.1 hH.1 a 0 (qa_arr hg hf.1 (by decide)) rfl rfl h ?_
    exact hk _ _ _ _ _ _ hf.2 _ _ _ _ _ _ _ _ _ _ _ _ _ _ _ _ _ _ _ hA hG hR hT _ _ _ _ _ _ hH hl
  · exact hf.elim
def qi_alen1 : qa_F := fun lo st g I J R k => match st with
  | .ref a :: st => g.2.2.1 a = .inr (1, qa_len g 1 a) ∧ k lo (.int (nI (qa_len g 1 a)) :: st) g I J R
  | _ => False
theorem ok_alen1 {M : qa_M} {pc : Nat} (h : decode M.2.2.1 pc = .ok (.arraylength, 1)) : qa_Ok M pc (pc + 1) qi_alen1 := by
  intro d b lo st g I J R Q k hk hf
  unfold qi_alen1 at hf
  split at hf
  next a st =>
    intro p l e rm s m args below meth c D dA A t X0 φ0 n0 w0 Z hA hG hR hT H locs cells slots ls φ hH hl
    have hg := hH.2.2.2.1
    refine va_alen (v := nI (qa_len g 1 a)) hA.1 hA.2.1 hG.1 hH.1 a 1 (qa_arr hg hf.1 (by decide)) rfl rfl h ?_
    exact hk _ _ _ _ _ _ hf.2 _ _ _ _ _ _ _ _ _ _ _ _ _ _ _ _ _ _ _ hA hG hR hT _ _ _ _ _ _ hH hl
  · exact hf.elim
def qi_alen3 : qa_F := fun lo st g I J R k => match st with
  | .ref a :: st => g.2.2.1 a = .inr (3, qa_len g 3 a) ∧ k lo (.int (nI (qa_len g 3 a)) :: st) g I J R
  | _ => False
theorem ok_alen3 {M : qa_M} {pc : Nat} (h : decode M.2.2.1 pc = .ok (.arraylength, 1)) : qa_Ok M pc (pc + 1) qi_alen3 := by
  intro d b lo st g I J R Q k hk hf
  unfold qi_alen3 at hf
  split at hf
  next a st =>
    intro p l e rm s m args below meth c D dA A t X0 φ0 n0 w0 Z hA hG hR hT H locs cells slots ls φ hH hl
    have hg := hH.2.2.2.1
    refine va_alen (v := nI (qa_len g 3 a)) hA.1 hA.2.1 hG.1 hH.1 a 3 (qa_arr hg hf.1 (by decide)) rfl rfl h ?_
    exact hk _ _ _ _ _ _ hf.2 _ _ _ _ _ _ _ _ _ _ _ _ _ _ _ _ _ _ _ hA hG hR hT _ _ _ _ _ _ hH hl
  · exact hf.elim
def qi_choices : qa_F := fun lo st g I J R k => k lo (.ref qa_CH :: st) g I J R
theorem ok_choices {M : qa_M} {pc idx : Nat} (h : decode M.2.2.1 pc = .ok (.getstatic idx, 3)) (hw : Cond.fieldLink M.1 idx "CostFormulas$Sums" "CHOICES" "[I" ∈ lw_tbl) : qa_Ok M pc (pc + 3) qi_choices := by
  intro d b lo st g I J R Q k hk hf
  intro p l e rm s m args below meth c D dA A t X0 φ0 n0 w0 Z hA hG hR hT H locs cells slots ls φ hH hl
  refine va_gets hA.1 hA.2.1 hG.2.2.1 hH.2.2.1 hA.2.2.2.2.1 (hA.2.2.2.2.2.1 _ (qa_mem hw rfl)) (fun _ q => q) h ?_
  have e1 : Value.ref t = qa_c φ (.ref qa_CH) := by rw [← hH.2.2.2.2.2.2.1.1]; rfl
  rw [e1]
  exact hk _ _ _ _ _ _ hf _ _ _ _ _ _ _ _ _ _ _ _ _ _ _ _ _ _ _ hA hG hR hT _ _ _ _ _ _ hH hl
def qi_chld : qa_F := fun lo st g I J R k => match st with
  | .int i :: .ref a :: st => a = qa_CH ∧ vp_in i 36 ∧ k lo (.int (qa_chi i.toNatClampNeg) :: st) g I J R
  | _ => False
theorem ok_chld {M : qa_M} {pc : Nat} (h : decode M.2.2.1 pc = .ok (.iaload, 1)) : qa_Ok M pc (pc + 1) qi_chld := by
  intro d b lo st g I J R Q k hk hf
  unfold qi_chld at hf
  split at hf
  next i a st =>
    obtain ⟨rfl, hf1, hf2⟩ := hf
    intro p l e rm s m args below meth c D dA A t X0 φ0 n0 w0 Z hA hG hR hT H locs cells slots ls φ hH hl
    have e1 : t = φ qa_CH := hH.2.2.2.2.2.2.1.1.symm
    subst e1
    refine va_ti (v := .int (qa_chi i.toNatClampNeg)) hA.1 hA.2.1 hG.2.2.2 hH.2.2.1 hf1 rfl h ?_
    exact hk _ _ _ _ _ _ hf2 _ _ _ _ _ _ _ _ _ _ _ _ _ _ _ _ _ _ _ hA hG hR hT _ _ _ _ _ _ hH hl
  · exact hf.elim
def qi_sld : qa_F := fun lo st g I J R k => match st with
  | .int i :: .ref a :: st => a = qa_SC ∧ vp_in i g.2.2.2.1 ∧ k lo (.int (g.2.2.2.2 i.toNatClampNeg) :: st) g I J R
  | _ => False
theorem ok_sld {M : qa_M} {pc : Nat} (h : decode M.2.2.1 pc = .ok (.iaload, 1)) (ho : M.1 = RL) : qa_Ok M pc (pc + 1) qi_sld := by
  intro d b lo st g I J R Q k hk hf
  unfold qi_sld at hf
  split at hf
  next i a st =>
    obtain ⟨rfl, hf1, hf2⟩ := hf
    intro p l e rm s m args below meth c D dA A t X0 φ0 n0 w0 Z hA hG hR hT H locs cells slots ls φ hH hl
    obtain ⟨x1, x2, x3⟩ := hH.2.2.2.2.2.2.2.2.2 ho
    refine va_sld hA.1 hA.2.1 x1 x2 x3 hH.2.2.1 hf1 h ?_
    exact hk _ _ _ _ _ _ hf2 _ _ _ _ _ _ _ _ _ _ _ _ _ _ _ _ _ _ _ hA hG hR hT _ _ _ _ _ _ hH hl
  · exact hf.elim
def qi_slen : qa_F := fun lo st g I J R k => match st with
  | .ref a :: st => a = qa_SC ∧ k lo (.int (nI g.2.2.2.1) :: st) g I J R
  | _ => False
theorem ok_slen {M : qa_M} {pc : Nat} (h : decode M.2.2.1 pc = .ok (.arraylength, 1)) (ho : M.1 = RL) : qa_Ok M pc (pc + 1) qi_slen := by
  intro d b lo st g I J R Q k hk hf
  unfold qi_slen at hf
  split at hf
  next a st =>
    obtain ⟨rfl, hf2⟩ := hf
    intro p l e rm s m args below meth c D dA A t X0 φ0 n0 w0 Z hA hG hR hT H locs cells slots ls φ hH hl
    obtain ⟨x1, x2, x3⟩ := hH.2.2.2.2.2.2.2.2.2 ho
    refine va_slen hA.1 hA.2.1 x1 x2 x3 hH.2.2.1 h ?_
    exact hk _ _ _ _ _ _ hf2 _ _ _ _ _ _ _ _ _ _ _ _ _ _ _ _ _ _ _ hA hG hR hT _ _ _ _ _ _ hH hl
  · exact hf.elim
