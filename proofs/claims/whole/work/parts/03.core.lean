/-! ===== the abstract machine: cells numbered from 0 in the order in which they are made; I, J, R: what ints, longs, references stand at (cell, place); g = (cells, slots, layout) ===== -/
abbrev qa_L : Type := Nat → (Nat ⊕ (Nat × Nat))
/-- cells, slots, layout, and the law's script (its length, its ints) -/
abbrev qa_G : Type := Nat × Nat × qa_L × Nat × (Nat → Int32)
abbrev qa_I : Type := Nat → Nat → Int32
abbrev qa_J : Type := Nat → Nat → Int64
abbrev qa_R : Type := Nat → Nat → Option Nat
abbrev qa_V : Type := List (Option Value)
/-- a method: its class, its name, its bytes, its locals, what it answers, whether it is a constructor -/
abbrev qa_M : Type := String × MethodName × ByteArray × Nat × Option FieldType × Bool
abbrev qa_Q : Type := Option Value → qa_G → qa_I → qa_J → qa_R → Prop
abbrev qa_K : Type := qa_V → List Value → qa_G → qa_I → qa_J → qa_R → Prop
abbrev qa_F : Type := qa_V → List Value → qa_G → qa_I → qa_J → qa_R → qa_K → Prop
/-- the cell of the table of choices, the cell of the script: neither is among the numbered ones -/
def qa_CH : Nat := 1000000
def qa_SC : Nat := 1000001
abbrev qa_cl : List vw_C := [(RX0, TX0, 3), (RX1, TX1, 12), (RX2, TX2, 6), (RX3, TX3, 8), (RX4, TX4, 5), (RX6, TX6, 2), (RX7, TX7, 6), (RX8, TX8, 12), (RX9, TX9, 44)]
def qa_nf (c : Nat) : Nat := match c with
  | 0 => 3 | 1 => 12 | 2 => 6 | 3 => 8 | 4 => 5 | 5 => 2 | 6 => 6 | 7 => 12 | 8 => 44 | _ => 0
def qa_ty (c : Nat) : Nat → FieldType := match c with
  | 0 => tyX0 | 1 => tyX1 | 2 => tyX2 | 3 => tyX3 | 4 => tyX4 | 5 => tyX6 | 6 => tyX7 | 7 => tyX8 | _ => tyX9
def qa_c (φ : Nat → Nat) (v : Value) : Value := match v with
  | .ref a => .ref (φ a)
  | v => v
def qa_fv (φ : Nat → Nat) (ty : FieldType) (i : Int32) (j : Int64) (r : Option Nat) : Value := match ty with
  | .int => .int i
  | .boolean => .int i
  | .long => .long j
  | _ => va_rf (r.map φ)
def qa_ar (φ : Nat → Nat) (k n : Nat) (I : Nat → Int32) (J : Nat → Int64) (R : Nat → Option Nat) : vp_A := (n, match k with
  | 0 => .inl I
  | 1 => .inr (.inl J)
  | 2 => .inl I
  | _ => .inr (.inr (.inr (.inr (fun i => (R i).map φ)))))
def qa_cell (dA : Nat → ClassId) (φ : Nat → Nat) (y : Nat ⊕ (Nat × Nat)) (I : Nat → Int32) (J : Nat → Int64) (R : Nat → Option Nat) : va_E := match y with
  | .inl ci => .inr (ci, (List.range (qa_nf ci)).map fun k => qa_fv φ (qa_ty ci k) (I k) (J k) (R k))
  | .inr (k, n) => .inl (dA k, qa_ar φ k n I J R)
def qa_W (dA : Nat → ClassId) (φ : Nat → Nat) (g : qa_G) (I : qa_I) (J : qa_J) (R : qa_R) : va_W := (List.range g.1).map fun a => (φ a, qa_cell dA φ (g.2.2.1 a) (I a) (J a) (R a))
def qa_tys (dA : Nat → ClassId) : List (ClassId × FieldType) := [(dA 0, .int), (dA 1, .long), (dA 2, .boolean), (dA 3, .object RX1)]
def qa_chi (j : Nat) : Int32 := ([1, 0, 0, 0, 0, 0, 1, 1, 0, 0, 0, 0, 1, 2, 1, 0, 0, 0, 1, 3, 3, 1, 0, 0, 1, 4, 6, 4, 1, 0, 1, 5, 10, 10, 5, 1] : List Int32).getD j 0
def qa_u {α : Type} (f : Nat → Nat → α) (a k : Nat) (v : α) : Nat → Nat → α := fun b j => if b = a then (if j = k then v else f b j) else f b j
def qa_len (g : qa_G) (kd a : Nat) : Nat := match g.2.2.1 a with
  | .inr (k, n) => if k = kd then n else 0
  | _ => 0
def qa_b (x : Int32) : Prop := x = 0 ∨ x = 1
-- locals
def qa_ls (φ : Nat → Nat) (nL : Nat) (lo : qa_V) (ls : Array Slot) : Prop := ls.size = nL ∧ lv_wf ls ∧ lo.length ≤ nL ∧ ∀ (i : Nat) (v : Value), lo[i]? = some (some v) → ls[i]? = some (.val (qa_c φ v))
def qa_get (lo : qa_V) (i : Nat) : Option Value := match lo, i with
  | [], _ => none
  | x :: _, 0 => x
  | _ :: l, i + 1 => qa_get l i
def qa_s (lo : qa_V) (i : Nat) (x : Option Value) : qa_V := match lo, i with
  | [], _ => []
  | _ :: l, 0 => x :: l
  | y :: l, i + 1 => y :: qa_s l i x
/-- a store of one word: a long whose second half it hits is gone -/
def qa_s1 (lo : qa_V) (i : Nat) (v : Value) : qa_V := match lo, i with
  | [], _ => []
  | _ :: l, 0 => some v :: l
  | y :: l, i + 1 => (match i, y with
    | 0, some (.long _) => none
    | 0, some (.double _) => none
    | _, y => y) :: qa_s1 l i v
def qa_s2 (lo : qa_V) (i : Nat) (v : Value) : qa_V := match lo, i with
  | [], _ => []
  | [_], _ => [none]
  | _ :: _ :: l, 0 => some v :: none :: l
  | y :: l, i + 1 => (match i, y with
    | 0, some (.long _) => none
    | 0, some (.double _) => none
    | _, y => y) :: qa_s2 l i v
-- what stays in a frame; what moves
/-- the words that a callee is given; those of nest mates -/
def qa_T : List Cond := lw_tbl.filter goodWord
def qa_nest (w : Cond) : Bool := match w with
  | .fieldLinkNest .. => true
  | .methodLinkNest .. => true
  | _ => false
theorem qa_mem {w : Cond} (h : w ∈ lw_tbl) (hg : goodWord w = true) : w ∈ qa_T := List.mem_filter.mpr ⟨h, hg⟩
def qa_Am (p : Program) (s : State) (m : MethodId) (args : Array Value) (meth : Method) (c : Code) (M : qa_M) : Prop :=
  p.tables.exec = Jvm.exec ∧ c.code = M.2.2.1 ∧ c.maxLocals = M.2.2.2.1 ∧ meth.sig.returnType = M.2.2.2.2.1 ∧ s.vm.findClass M.1 = some m.cls ∧ (∀ w ∈ qa_T, w.before args s = true) ∧ ((∀ w ∈ lw_tbl, qa_nest w = true → va_Nw w s) ∧ va_AO RX1 s) ∧ meth.locks = false ∧ (M.2.2.2.2.2 = true → meth.name = "<init>")
def qa_Gl (s : State) (D : va_G) (dA : Nat → ClassId) (A : Nat → Prop) (t : Nat) : Prop :=
  va_K D qa_cl (qa_tys dA) s ∧ (∀ q, s.heap.size ≤ q → A q) ∧ va_Z "CostFormulas$Sums" "CHOICES" "[I" (.ref t) A s s.heap ∧ va_T .int t 36 (fun j => .int (qa_chi j)) A s s.heap
def qa_Rm (d : Nat) (b : Nat × Nat) (n0 w0 : Nat) (rm : Room) : Prop := d ≤ rm.frames ∧ 60 * d ≤ rm.locals ∧ b.1 ≤ n0 + rm.cells ∧ b.2 ≤ w0 + rm.slots
def qa_Hp (own : String) (s : State) (D : va_G) (dA : Nat → ClassId) (A : Nat → Prop) (t : Nat) (X0 : Nat × (Nat → Int32)) (φ0 : Nat → Nat) (n0 w0 : Nat) (φ : Nat → Nat) (g : qa_G) (I : qa_I) (J : qa_J) (R : qa_R) (H : Heap) (locs : List Loc) (cells slots : Nat) : Prop :=
  va_P D qa_cl (qa_W dA φ g I J R) H ∧ va_D A (qa_W dA φ g I J R) ∧ va_S A s.heap H locs ∧ (∀ a, g.1 ≤ a → g.2.2.1 a = .inr (9, 0)) ∧ n0 + cells = g.1 ∧ w0 + slots = g.2.1 ∧ (φ qa_CH = t ∧ φ qa_SC = φ0 qa_SC ∧ g.2.2.2 = X0) ∧ (∀ a, a < n0 ∨ g.1 ≤ a → φ a = φ0 a) ∧ (∀ a k x, R a k = some x → x < g.1) ∧ (own = RL → va_X (φ qa_SC) g.2.2.2.1 g.2.2.2.2 s s.heap ∧ φ qa_SC < s.heap.size ∧ ¬ A (φ qa_SC))
/-- which instruction ends with which answer -/
def qa_ri (ret : Option FieldType) (r : Option Value) (i : Instr) : Prop :=
  (ret = none ∧ r = none ∧ i = .return_) ∨ (∃ v : Int32, ret = some .int ∧ r = some (.int v) ∧ i = .ireturn) ∨ (∃ v : Int32, ret = some .boolean ∧ r = some (.int v) ∧ qa_b v ∧ i = .ireturn) ∨ (∃ v : Int64, ret = some .long ∧ r = some (.long v) ∧ i = .lreturn)
def qa_Rt (p : Program) (l : Launch) (e : Env) (rm : Room) (s : State) (m : MethodId) (args : Array Value) (below : List Frame) (meth : Method) (c : Code) (D : va_G) (dA : Nat → ClassId) (A : Nat → Prop) (t : Nat) (X0 : Nat × (Nat → Int32)) (φ0 : Nat → Nat) (n0 w0 : Nat) (M : qa_M) (b : Nat × Nat) (Q : qa_Q) (Z : State → Prop) : Prop :=
  ∀ (r : Option Value) (φ : Nat → Nat) (g : qa_G) (I : qa_I) (J : qa_J) (R : qa_R) (H : Heap) (locs : List Loc) (cells slots pc : Nat) (ls : Array Slot) (i : Instr), Q r g I J R → g.1 = b.1 → g.2.1 = b.2 → qa_Hp M.1 s D dA A t X0 φ0 n0 w0 φ g I J R H locs cells slots → qa_ri M.2.2.2.2.1 r i → decode M.2.2.1 pc = .ok (i, 1) → W p l e rm s m args below meth c H locs cells slots Z (F0 m pc ls (r.toList.map (qa_c φ)))
/-- at pc of M, with these locals, this stack, these cells: it comes to an end that Q holds of; d: how deep it may call; b: how many cells and slots there are at its end -/
def qa_WP (d : Nat) (M : qa_M) (b : Nat × Nat) (pc : Nat) (lo : qa_V) (st : List Value) (g : qa_G) (I : qa_I) (J : qa_J) (R : qa_R) (Q : qa_Q) : Prop :=
  ∀ (p : Program) (l : Launch) (e : Env) (rm : Room) (s : State) (m : MethodId) (args : Array Value) (below : List Frame) (meth : Method) (c : Code) (D : va_G) (dA : Nat → ClassId) (A : Nat → Prop) (t : Nat) (X0 : Nat × (Nat → Int32)) (φ0 : Nat → Nat) (n0 w0 : Nat) (Z : State → Prop),
    qa_Am p s m args meth c M → qa_Gl s D dA A t → qa_Rm d b n0 w0 rm → qa_Rt p l e rm s m args below meth c D dA A t X0 φ0 n0 w0 M b Q Z →
    ∀ (H : Heap) (locs : List Loc) (cells slots : Nat) (ls : Array Slot) (φ : Nat → Nat), qa_Hp M.1 s D dA A t X0 φ0 n0 w0 φ g I J R H locs cells slots → qa_ls φ M.2.2.2.1 lo ls →
      W p l e rm s m args below meth c H locs cells slots Z (F0 m pc ls (st.map (qa_c φ)))
def qa_Ok (M : qa_M) (pc pc' : Nat) (f : qa_F) : Prop := ∀ (d : Nat) (b : Nat × Nat) (lo : qa_V) (st : List Value) (g : qa_G) (I : qa_I) (J : qa_J) (R : qa_R) (Q : qa_Q) (k : qa_K),
  (∀ lo st g I J R, k lo st g I J R → qa_WP d M b pc' lo st g I J R Q) → f lo st g I J R k → qa_WP d M b pc lo st g I J R Q
def qa_sq (fs : List qa_F) : qa_F := match fs with
  | [] => fun lo st g I J R k => k lo st g I J R
  | f :: fs => fun lo st g I J R k => f lo st g I J R (fun lo st g I J R => qa_sq fs lo st g I J R k)
theorem ok_nil {M : qa_M} {pc : Nat} : qa_Ok M pc pc (qa_sq []) := fun _ _ _ _ _ _ _ _ _ _ hk hf => hk _ _ _ _ _ _ hf
theorem ok_cons {M : qa_M} {pc pc1 pc2 : Nat} {f : qa_F} {fs : List qa_F} (h1 : qa_Ok M pc pc1 f) (h2 : qa_Ok M pc1 pc2 (qa_sq fs)) : qa_Ok M pc pc2 (qa_sq (f :: fs)) :=
  fun d b lo st g I J R Q k hk hf => h1 d b lo st g I J R Q _ (fun lo st g I J R h => h2 d b lo st g I J R Q k hk h) hf
theorem ok_to {M : qa_M} {pc pc1 pc2 : Nat} {f : qa_F} (h : qa_Ok M pc pc1 f) (e : pc1 = pc2) : qa_Ok M pc pc2 f := e ▸ h
-- worlds
theorem qa_W_get {dA : Nat → ClassId} {φ : Nat → Nat} {g : qa_G} {I : qa_I} {J : qa_J} {R : qa_R} {a : Nat} (h : a < g.1) : (qa_W dA φ g I J R)[a]? = some (φ a, qa_cell dA φ (g.2.2.1 a) (I a) (J a) (R a)) := by
  simp [qa_W, h]
theorem qa_W_set {dA : Nat → ClassId} {φ : Nat → Nat} {g : qa_G} {I I' : qa_I} {J J' : qa_J} {R R' : qa_R} {a : Nat} {e : va_E} (ha : a < g.1) (he : e = qa_cell dA φ (g.2.2.1 a) (I' a) (J' a) (R' a)) (ho : ∀ b, b ≠ a → I' b = I b ∧ J' b = J b ∧ R' b = R b) :
    (qa_W dA φ g I J R).set a (φ a, e) = qa_W dA φ g I' J' R' := by
  apply List.ext_getElem?
  intro i
  rw [List.getElem?_set]
  by_cases h : a = i
  · subst h
    rw [if_pos rfl, qa_W_get ha, if_pos (by simp [qa_W, ha]), he]
  · rw [if_neg h]
    by_cases hi : i < g.1
    · obtain ⟨e1, e2, e3⟩ := ho i (fun q => h q.symm)
      rw [qa_W_get hi, qa_W_get hi, e1, e2, e3]
    · simp [qa_W, hi]
theorem qa_u_self {α : Type} (f : Nat → Nat → α) (a k : Nat) (v : α) : qa_u f a k v a = fun j => if j = k then v else f a j := by
  funext j; simp [qa_u]
theorem qa_u_ne {α : Type} (f : Nat → Nat → α) (a k : Nat) (v : α) {b : Nat} (h : b ≠ a) : qa_u f a k v b = f b := by
  funext j; simp [qa_u, h]
theorem qa_c_rf (φ : Nat → Nat) (r : Option Nat) : qa_c φ (va_rf r) = va_rf (r.map φ) := by cases r <;> rfl
theorem qa_c_cat (φ : Nat → Nat) (v : Value) : (qa_c φ v).category = v.category := by cases v <;> rfl
theorem qa_get_at {lo : qa_V} {i : Nat} {v : Value} (h : qa_get lo i = some v) : lo[i]? = some (some v) := by
  induction lo generalizing i with
  | nil => cases h
  | cons x l ih =>
    cases i with
    | zero => simpa [qa_get] using h
    | succ i => simpa using ih h
theorem qa_ls.at {φ : Nat → Nat} {nL : Nat} {lo : qa_V} {ls : Array Slot} (h : qa_ls φ nL lo ls) {i : Nat} {v : Value} (hi : qa_get lo i = some v) : ls[i]? = some (.val (qa_c φ v)) := h.2.2.2 i v (qa_get_at hi)
