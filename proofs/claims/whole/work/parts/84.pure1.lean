/-! ===== sums that may be too great: the component's numbers and the reference's flag ===== -/
def sm9 (x : Int64) : Prop := -9000000000000000000 < x.toInt ∧ x.toInt < 9000000000000000000
def rl (x : Int64) (A : Bool × Int64) : Prop := (A.1 = true → x = TG) ∧ (A.1 = false → x = A.2 ∧ sm9 x)
theorem sm9_ne {x : Int64} (h : sm9 x) : ¬ x = TG := fun z => by
  rw [z] at h
  exact absurd h.1 (by decide)
theorem rl_ne {x : Int64} {A : Bool × Int64} (h : rl x A) : x = TG ↔ A.1 = true := by
  constructor
  · intro z
    cases hA : A.1 with
    | true => rfl
    | false => exact absurd z (sm9_ne (h.2 hA).2)
  · exact h.1
theorem rl_eq {x : Int64} {A : Bool × Int64} (h : rl x A) : x = if A.1 = true then -9000000000000000000 else A.2 := by
  cases hA : A.1 with
  | true => rw [if_pos rfl]; exact h.1 hA
  | false => rw [if_neg (by decide)]; exact (h.2 hA).1
theorem i64_lo (x : Int64) : -9223372036854775808 ≤ x.toInt ∧ x.toInt < 9223372036854775808 := ⟨Int64.le_toInt x, Int64.toInt_lt x⟩
theorem neg_i {v : Int64} (h : sm9 v) : (-v).toInt = -v.toInt := by
  unfold sm9 at h
  rw [Int64.toInt_neg, Int.bmod_def]
  split <;> omega
theorem i64_lt0 {v : Int64} : v < 0 ↔ v.toInt < 0 := by
  rw [Int64.lt_iff_toInt_lt]
  rfl
theorem ab_i {v : Int64} (h : sm9 v) : (ab v).toInt = (v.toInt.natAbs : Int) := by
  unfold ab
  split
  · rename_i z
    have := i64_lt0.mp z
    rw [neg_i h]; omega
  · rename_i z
    have : ¬ v.toInt < 0 := fun y => z (i64_lt0.mpr y)
    omega
theorem div_i {a b : Int64} {m n : Nat} (ha : a.toInt = m) (hb : b.toInt = n) : (a / b).toInt = ((m / n : Nat) : Int) := by
  rw [Int64.toInt_div, ha, hb]
  have e : ((m : Int).tdiv (n : Int)) = ((m / n : Nat) : Int) := rfl
  have h1 := i64_lo a
  have h2 : m / n ≤ m := Nat.div_le_self m n
  rw [e, Int.bmod_def]
  generalize m / n = q at h2 ⊢
  split <;> omega
theorem mul_i {a b : Int64} (h : -9000000000000000000 ≤ a.toInt * b.toInt ∧ a.toInt * b.toInt ≤ 9000000000000000000) : (a * b).toInt = a.toInt * b.toInt := by
  rw [Int64.toInt_mul, Int.bmod_def]
  generalize a.toInt * b.toInt = q at h ⊢
  split <;> omega
theorem great_i {v y : Int64} (hv : sm9 v) (hy : sm9 y) : 1000000000000000000 / ab v < ab y ↔ (v.toInt.natAbs = 0 ∧ 0 < y.toInt.natAbs) ∨ (0 < v.toInt.natAbs ∧ 1000000000000000000 < y.toInt.natAbs * v.toInt.natAbs) := by
  rw [Int64.lt_iff_toInt_lt, ab_i hy, div_i (m := 1000000000000000000) (n := v.toInt.natAbs) rfl (ab_i hv)]
  by_cases h0 : v.toInt.natAbs = 0
  · rw [h0, Nat.div_zero]; omega
  · have := Nat.div_lt_iff_lt_mul (x := 1000000000000000000) (y := y.toInt.natAbs) (Nat.pos_of_ne_zero h0)
    omega
theorem i64_0 {v : Int64} : v = 0 ↔ v.toInt.natAbs = 0 := by
  constructor
  · intro h; rw [h]; rfl
  · intro h
    apply Int64.toInt_inj.mp
    have : (0 : Int64).toInt = 0 := rfl
    omega
theorem rl_tm {x : Int64} {A : Bool × Int64} {y : Int64} (h : rl x A) (hy : sm9 y) : rl (ctm x y) (A.1 || (tm A.2 y).1, (tm A.2 y).2) := by
  obtain ⟨g, v⟩ := A
  cases g with
  | true =>
    have hx := h.1 rfl
    refine ⟨fun _ => ?_, fun z => by simp at z⟩
    unfold ctm
    rw [if_pos (Or.inl hx)]
  | false =>
    obtain ⟨e, hv⟩ := h.2 rfl
    dsimp only at e ⊢
    subst e
    have hn : ¬ (x = TG ∨ y = TG) := fun z => z.elim (sm9_ne hv) (sm9_ne hy)
    have h1 := great_i hv hy
    have h2 := great_i hy hv
    have z1 := i64_0 (v := x)
    have z2 := i64_0 (v := y)
    have za : ab x = 0 ↔ x.toInt.natAbs = 0 := by
      rw [i64_0, ab_i hv]
      omega
    unfold ctm tm
    rw [if_neg hn]
    have hb : sm9 x := hv
    unfold sm9 at hb hy
    by_cases c0 : x = 0 ∨ y = 0
    · rw [if_pos c0]
      have hprod : x * y = 0 := by
        rcases c0 with c | c
        · rw [c, Int64.zero_mul]
        · rw [c, Int64.mul_zero]
      rw [if_neg]
      · refine ⟨fun z => by simp at z, fun _ => ⟨hprod.symm, ⟨by decide, by decide⟩⟩⟩
      · intro ⟨y1, y2⟩
        have y3 := h1.mp y2
        rcases c0 with c | c
        · exact y1 (za.mpr (z1.mp c))
        · have := z2.mp c
          rw [this] at y3
          omega
    · rw [if_neg c0]
      have n1 : 0 < x.toInt.natAbs := Nat.pos_of_ne_zero (fun z => c0 (Or.inl (z1.mpr z)))
      have n2 : 0 < y.toInt.natAbs := Nat.pos_of_ne_zero (fun z => c0 (Or.inr (z2.mpr z)))
      by_cases hg : 1000000000000000000 < y.toInt.natAbs * x.toInt.natAbs
      · rw [if_pos (h2.mpr (Or.inr ⟨n2, by rw [Nat.mul_comm]; exact hg⟩)), if_pos ⟨fun z => by have := za.mp z; omega, h1.mpr (Or.inr ⟨n1, hg⟩)⟩]
        exact ⟨fun _ => rfl, fun z => by simp at z⟩
      · rw [if_neg, if_neg]
        · refine ⟨fun z => by simp at z, fun _ => ⟨rfl, ?_⟩⟩
          have ha : (x.toInt * y.toInt).natAbs = y.toInt.natAbs * x.toInt.natAbs := by rw [Int.natAbs_mul, Nat.mul_comm]
          have hm := mul_i (a := x) (b := y) (by omega)
          unfold sm9
          rw [hm]
          omega
        · intro ⟨_, y2⟩
          rcases h1.mp y2 with y3 | y3
          · omega
          · exact hg y3.2
        · intro y2
          rcases h2.mp y2 with y3 | y3
          · omega
          · exact hg (by rw [Nat.mul_comm]; exact y3.2)
theorem rl_pl {x y : Int64} {A B : Bool × Int64} (hx : rl x A) (hy : rl y B) : rl (cpl x y) ((A.1 || B.1) || (pl A.2 B.2).1, (pl A.2 B.2).2) := by
  obtain ⟨g, v⟩ := A
  obtain ⟨k, w⟩ := B
  cases g with
  | true =>
    refine ⟨fun _ => ?_, fun z => by simp at z⟩
    unfold cpl
    rw [if_pos (Or.inl (hx.1 rfl))]
  | false =>
    cases k with
    | true =>
      refine ⟨fun _ => ?_, fun z => by simp at z⟩
      unfold cpl
      rw [if_pos (Or.inr (hy.1 rfl))]
    | false =>
      obtain ⟨e, hv⟩ := hx.2 rfl
      obtain ⟨e', hw⟩ := hy.2 rfl
      dsimp only at e e' ⊢
      subst e e'
      have hn : ¬ (x = TG ∨ y = TG) := fun z => z.elim (sm9_ne hv) (sm9_ne hw)
      unfold cpl pl
      rw [if_neg hn]
      by_cases hr : -1000000000000000000 ≤ x + y ∧ x + y ≤ 1000000000000000000
      · rw [if_pos hr, if_pos hr]
        refine ⟨fun z => by simp at z, fun _ => ⟨rfl, ?_⟩⟩
        have a1 := Int64.le_iff_toInt_le.mp hr.1
        have a2 := Int64.le_iff_toInt_le.mp hr.2
        have e1 : (-1000000000000000000 : Int64).toInt = -1000000000000000000 := rfl
        have e2 : (1000000000000000000 : Int64).toInt = 1000000000000000000 := rfl
        unfold sm9
        omega
      · rw [if_neg hr, if_neg hr]
        exact ⟨fun _ => rfl, fun z => by simp at z⟩
theorem rl_0 : rl 0 (false, 0) := ⟨fun z => by simp at z, fun _ => ⟨rfl, ⟨by decide, by decide⟩⟩⟩
theorem rl_as {x : Int64} {a b : Bool} {v : Int64} (h : rl x (a, v)) (e : a = b) : rl x (b, v) := e ▸ h
theorem rl_vl {G' : Nat → Nat → Int64} {G : Nat → Nat → Bool × Int64} {dg : Nat} {a b : Int64} (hG : ∀ i j, i + j ≤ dg → rl (G' i j) (G i j)) (hc : ∀ i j, i + j ≤ dg → sm9 (ch a i * ch b j)) : ∀ n, n ≤ dg + 1 → rl (vc G' dg a b n) (vl G dg a b n) := by
  intro n
  induction n with
  | zero => intro _; exact rl_0
  | succ i ih =>
    intro hi
    rw [vc, vl]
    have inner : ∀ j, i + j ≤ dg + 1 → rl (vc_j G' (ch a i) b i (vc G' dg a b i) j) (vl_j G (ch a i) b i (vl G dg a b i) j) := by
      intro j
      induction j with
      | zero => intro _; exact ih (by omega)
      | succ j ihj =>
        intro hj
        rw [vc_j, vl_j]
        have h := rl_pl (ihj (by omega)) (rl_tm (hG i j (by omega)) (hc i j (by omega)))
        refine rl_as h ?_
        simp only [Bool.or_assoc]
    exact inner (dg + 1 - i) (by omega)
def cc (F pr : Nat → Int64) : Nat → Int64
  | 0 => 0
  | k + 1 => cpl (cc F pr k) (ctm (F k) (pr k))
theorem rl_cf {F pr : Nat → Int64} (hF : ∀ k, k < 4 → sm9 (F k)) (hp : ∀ k, k < 4 → sm9 (pr k)) : ∀ n, n ≤ 4 → rl (cc F pr n) (cf F pr n) := by
  intro n
  induction n with
  | zero => intro _; exact rl_0
  | succ k ih =>
    intro hk
    rw [cc, cf]
    refine rl_as (rl_pl (ih (by omega)) (rl_tm (A := (false, F k)) ⟨fun z => by simp at z, fun _ => ⟨rfl, hF k (by omega)⟩⟩ (hp k (by omega)))) ?_
    simp only [Bool.or_assoc, Bool.false_or]
theorem rl_mv {V' : Nat → Nat → Int64} {V : Nat → Nat → Bool × Int64} {i j : Nat} (hV : ∀ x y, x ≤ i → y ≤ j → rl (V' x y) (V x y)) (hw : ∀ x y, x ≤ i → y ≤ j → sm9 (wt i j x y)) : ∀ n, n ≤ i + 1 → rl (mc V' i j n) (mv V i j n) := by
  intro n
  induction n with
  | zero => intro _; exact rl_0
  | succ x ih =>
    intro hx
    rw [mc, mv]
    have inner : ∀ y, y ≤ j + 1 → rl (mc_y V' i j x (mc V' i j x) y) (mv_y V i j x (mv V i j x) y) := by
      intro y
      induction y with
      | zero => intro _; exact ih (by omega)
      | succ y ihy =>
        intro hy
        rw [mc_y, mv_y]
        have h := rl_pl (ihy (by omega)) (rl_tm (hV x y (by omega) (by omega)) (hw x y (by omega) (by omega)))
        refine rl_as h ?_
        simp only [Bool.or_assoc]
        rfl
    exact inner (j + 1) (Nat.le_refl _)
