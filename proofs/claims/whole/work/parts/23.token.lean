/-! ===== TOKENS: what a place of the tape begins ===== -/
def tsL (c : Int32) : Bool := decide (97 ≤ c ∧ c ≤ 122)
def tsD (c : Int32) : Bool := decide (48 ≤ c ∧ c ≤ 57)
def tsB (c : Int32) : Bool := decide (c = 32 ∨ c = 10)
def tsS (c : Int32) : Bool := decide (c = 61 ∨ c = 43 ∨ c = 45 ∨ c = 42 ∨ c = 59 ∨ c = 40 ∨ c = 41 ∨ c = 44 ∨ c = 123 ∨ c = 125)
def tsW (P : Int32 → Bool) (T : Nat → Int32) (n : Nat) (f p : Nat) : Nat := match f with
  | 0 => p
  | f + 1 => if p < n ∧ P (T p) = true then tsW P T n f (p + 1) else p
/-- the end of the run of P from p on -/
def ts_run (P : Int32 → Bool) (T : Nat → Int32) (n p : Nat) : Nat := tsW P T n (n - p) p
theorem ts_run_step (P : Int32 → Bool) (T : Nat → Int32) (n p : Nat) : ts_run P T n p = if p < n ∧ P (T p) = true then ts_run P T n (p + 1) else p := by
  unfold ts_run
  by_cases h : p < n
  · rw [show n - p = (n - (p + 1)) + 1 by omega]
    rfl
  · rw [show n - p = 0 by omega, if_neg (fun q => h q.1)]
    rfl
theorem ts_run_on {P : Int32 → Bool} {T : Nat → Int32} {n p : Nat} (h : p < n) (h2 : P (T p) = true) : ts_run P T n p = ts_run P T n (p + 1) := by rw [ts_run_step, if_pos ⟨h, h2⟩]
theorem ts_run_off {P : Int32 → Bool} {T : Nat → Int32} {n p : Nat} (h : ¬ (p < n ∧ P (T p) = true)) : ts_run P T n p = p := by rw [ts_run_step, if_neg h]
theorem ts_run_ge (P : Int32 → Bool) (T : Nat → Int32) (n : Nat) : ∀ (m p : Nat), n - p ≤ m → p ≤ ts_run P T n p ∧ (p ≤ n → ts_run P T n p ≤ n) := by
  intro m
  induction m with
  | zero =>
    intro p hm
    rw [ts_run_off (by omega)]
    exact ⟨Nat.le_refl _, id⟩
  | succ m ih =>
    intro p hm
    by_cases h : p < n ∧ P (T p) = true
    · rw [ts_run_on h.1 h.2]
      have := ih (p + 1) (by omega)
      exact ⟨by omega, fun _ => this.2 (by omega)⟩
    · rw [ts_run_off h]
      exact ⟨Nat.le_refl _, id⟩
theorem ts_run_lo (P : Int32 → Bool) (T : Nat → Int32) (n p : Nat) : p ≤ ts_run P T n p := (ts_run_ge P T n _ p (Nat.le_refl _)).1
theorem ts_run_hi {P : Int32 → Bool} {T : Nat → Int32} {n p : Nat} (h : p ≤ n) : ts_run P T n p ≤ n := (ts_run_ge P T n _ p (Nat.le_refl _)).2 h
theorem ts_run_at (P : Int32 → Bool) (T : Nat → Int32) (n : Nat) : ∀ (m p : Nat), n - p ≤ m → ¬ (ts_run P T n p < n ∧ P (T (ts_run P T n p)) = true) := by
  intro m
  induction m with
  | zero =>
    intro p hm
    rw [ts_run_off (by omega)]
    omega
  | succ m ih =>
    intro p hm
    by_cases h : p < n ∧ P (T p) = true
    · rw [ts_run_on h.1 h.2]
      exact ih (p + 1) (by omega)
    · rw [ts_run_off h]
      exact h
theorem ts_run_end (P : Int32 → Bool) (T : Nat → Int32) (n p : Nat) : ¬ (ts_run P T n p < n ∧ P (T (ts_run P T n p)) = true) := ts_run_at P T n _ p (Nat.le_refl _)
theorem ts_run_in (P : Int32 → Bool) (T : Nat → Int32) (n : Nat) : ∀ (m p : Nat), n - p ≤ m → ∀ j, p ≤ j → j < ts_run P T n p → j < n ∧ P (T j) = true := by
  intro m
  induction m with
  | zero =>
    intro p hm j h1 h2
    rw [ts_run_off (by omega)] at h2
    omega
  | succ m ih =>
    intro p hm j h1 h2
    by_cases h : p < n ∧ P (T p) = true
    · rw [ts_run_on h.1 h.2] at h2
      by_cases hj : j = p
      · subst hj; exact h
      · exact ih (p + 1) (by omega) j (by omega) h2
    · rw [ts_run_off h] at h2
      omega
def tk_dots (T : Nat → Int32) (n q : Nat) : Prop := T q = 46 ∧ q + 1 < n ∧ T (q + 1) = 46
/-- where the TOKEN at the place q ends -/
def tk_E (T : Nat → Int32) (n q : Nat) : Nat :=
  if n ≤ q then q else if tsL (T q) = true then ts_run tsL T n q else if tsD (T q) = true then ts_run tsD T n q else if T q = 46 ∧ q + 1 < n ∧ T (q + 1) = 46 then q + 2 else q + 1
/-- the reference's token -/
def tk_C (T : Nat → Int32) (n q : Nat) : Int32 :=
  if n ≤ q then 0 else if tsL (T q) = true then 1 else if tsD (T q) = true then (if ts_run tsD T n q ≤ q + 2 then 2 else 4) else if T q = 46 ∧ q + 1 < n ∧ T (q + 1) = 46 then 3 else if tsS (T q) = true then 3 else 4
/-- the class's kind -/
def tk_K (T : Nat → Int32) (n q : Nat) : Int32 :=
  if n ≤ q then 0
  else if tsL (T q) = true then (if ts_run tsL T n q = q + 1 then T q else if ts_run tsL T n q = q + 3 ∧ T q = 102 ∧ T (q + 1) = 111 ∧ T (q + 2) = 114 then 3 else if ts_run tsL T n q = q + 3 ∧ T q = 114 ∧ T (q + 1) = 117 ∧ T (q + 2) = 110 then 4 else 1)
  else if tsD (T q) = true then (if ts_run tsD T n q ≤ q + 2 then 2 else 1)
  else if T q = 46 then (if q + 1 < n ∧ T (q + 1) = 46 then 46 else 1)
  else if tsS (T q) = true then T q else 1
/-- what a NUMBER of one or two digits is -/
def tk_V (T : Nat → Int32) (n q : Nat) : Int32 := if ts_run tsD T n q = q + 1 then T q - 48 else 10 * (T q - 48) + T (q + 1) - 48
/-- what is changed -/
def qf (P : Nat → Nat → Prop) (I I' : qa_I) : Prop := ∀ a k, ¬ P a k → I' a k = I a k
theorem qf.refl {P : Nat → Nat → Prop} {I : qa_I} : qf P I I := fun _ _ _ => rfl
theorem qf.trans {P : Nat → Nat → Prop} {I I1 I2 : qa_I} (h1 : qf P I I1) (h2 : qf P I1 I2) : qf P I I2 := fun a k h => (h2 a k h).trans (h1 a k h)
theorem qf.mono {P P' : Nat → Nat → Prop} {I I' : qa_I} (hp : ∀ a k, P a k → P' a k) (h : qf P I I') : qf P' I I' := fun a k hn => h a k (fun q => hn (hp a k q))
theorem qf.u {P : Nat → Nat → Prop} {I : qa_I} {a k : Nat} {v : Int32} (h : P a k) : qf P I (qa_u I a k v) := fun b j hn => by
  unfold qa_u
  split
  · split
    · rename_i h1 h2; subst h1; subst h2; exact absurd h hn
    · rfl
  · rfl
theorem qf.pu {P : Nat → Nat → Prop} {I I' : qa_I} {a k : Nat} {v : Int32} (h : qf P I I') (hp : P a k) : qf P I (qa_u I' a k v) := h.trans (qf.u hp)
