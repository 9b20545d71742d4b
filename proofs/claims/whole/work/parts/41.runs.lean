/-! ===== what a text is worth at a RUN: its LINES, its rows ===== -/
abbrev pt_ty (t : pTab) (s : Nat) : Int32 := t.1 s
abbrev pt_wh (t : pTab) (s : Nat) : Int32 := t.2.1 s
abbrev pt_dp (t : pTab) (s : Nat) : Nat := t.2.2.1 s
abbrev pt_en (t : pTab) (s : Nat) : Nat := t.2.2.2.1 s
abbrev pt_l1 (t : pTab) (s : Nat) : Nat → Int32 := t.2.2.2.2.1 s
abbrev pt_l2 (t : pTab) (s : Nat) : Nat → Int32 := t.2.2.2.2.2.1 s
abbrev pt_nm (t : pTab) (s : Nat) : Nat → Int32 := t.2.2.2.2.2.2 s
def nx (c : Int32) : Nat := (c - 105).toNatClampNeg
theorem nx_nI {j : Nat} (h : j < 5) : nx (nI (105 + j)) = j := by
  have : j = 0 ∨ j = 1 ∨ j = 2 ∨ j = 3 ∨ j = 4 := by omega
  rcases this with rfl | rfl | rfl | rfl | rfl <;> rfl
/-- a LINE by the fors around, outermost first -/
def le_S (l : Nat → Int32) (nm : Nat → Int32) (w : Nat → Int64) : Nat → Int64
  | 0 => (l 0).toInt64 + (l 1).toInt64 * w 0 + (l 2).toInt64 * w 1
  | D + 1 => le_S l nm w D + (l (3 + nx (nm D))).toInt64 * w (2 + D)
def nm_ok (nm : Nat → Int32) (D : Nat) : Prop := ∀ d, d < D → (∃ j, j < 5 ∧ nm d = nI (105 + j)) ∧ ∀ d', d' < d → ¬ nm d' = nm d
def ln_ok (l : Nat → Int32) (nm : Nat → Int32) (D : Nat) : Prop := ∀ j, j < 5 → (∀ d, d < D → ¬ nm d = nI (105 + j)) → l (3 + j) = 0
theorem le_congr {l l' : Nat → Int32} {nm : Nat → Int32} {w : Nat → Int64} (h0 : l 0 = l' 0) (h1 : l 1 = l' 1) (h2 : l 2 = l' 2) : ∀ D, (∀ d, d < D → l (3 + nx (nm d)) = l' (3 + nx (nm d))) → le_S l nm w D = le_S l' nm w D := by
  intro D
  induction D with
  | zero => intro _; simp only [le_S, h0, h1, h2]
  | succ D ih =>
    intro h
    simp only [le_S]
    rw [ih (fun d hd => h d (by omega)), h D (by omega)]
theorem i64_0mul (x : Int64) : (0 : Int32).toInt64 * x = 0 := by
  have : (0 : Int32).toInt64 = 0 := rfl
  rw [this, Int64.zero_mul]
theorem rk_off {l : Nat → Int32} {v : Nat → Int64} {j : Nat} (hj : j < 5) : rk l v = rk (fun k => if k = 3 + j then 0 else l k) v + (l (3 + j)).toInt64 * v (2 + j) := by
  have : j = 0 ∨ j = 1 ∨ j = 2 ∨ j = 3 ∨ j = 4 := by omega
  rcases this with rfl | rfl | rfl | rfl | rfl <;> simp [rk, rk_S, i64_0mul] <;> ac_rfl
theorem rk_le {nm : Nat → Int32} {v w : Nat → Int64} : ∀ (D : Nat) (l : Nat → Int32), nm_ok nm D → ln_ok l nm D → v 0 = w 0 → v 1 = w 1 → (∀ d, d < D → v (2 + nx (nm d)) = w (2 + d)) → rk l v = le_S l nm w D := by
  intro D
  induction D with
  | zero =>
    intro l _ hl h0 h1 _
    have z : ∀ j, j < 5 → l (3 + j) = 0 := fun j hj => hl j hj (fun d hd => absurd hd (by omega))
    have z0 := z 0 (by omega)
    have z1 := z 1 (by omega)
    have z2 := z 2 (by omega)
    have z3 := z 3 (by omega)
    have z4 := z 4 (by omega)
    simp only [Nat.reduceAdd] at z0 z1 z2 z3 z4
    simp only [rk, rk_S, le_S, Nat.reduceAdd, z0, z1, z2, z3, z4, i64_0mul, Int64.add_zero, h0, h1]
  | succ D ih =>
    intro l hn hl h0 h1 hv
    obtain ⟨⟨j, hj, hnm⟩, hdist⟩ := hn D (by omega)
    rw [rk_off hj, ih (fun k => if k = 3 + j then 0 else l k) (fun d hd => hn d (by omega)) (fun j' hj' hz => ?_) h0 h1 (fun d hd => hv d (by omega))]
    · simp only [le_S]
      have hx : nx (nm D) = j := by rw [hnm]; exact nx_nI hj
      rw [hx, ← hv D (by omega), hx]
      rw [le_congr (l := fun k => if k = 3 + j then 0 else l k) (l' := l) (by rw [if_neg (by omega)]) (by rw [if_neg (by omega)]) (by rw [if_neg (by omega)])]
      intro d hd
      rw [if_neg]
      intro z
      obtain ⟨⟨j2, hj2, hnm2⟩, -⟩ := hn d (by omega)
      rw [hnm2, nx_nI hj2] at z
      exact hdist d hd (by rw [hnm2, hnm, show j2 = j by omega])
    · dsimp only
      by_cases hjj : j' = j
      · rw [if_pos (by omega)]
      · rw [if_neg (by omega)]
        refine hl j' hj' (fun d hd z => ?_)
        by_cases hdD : d = D
        · subst hdD
          rw [hnm] at z
          have := congrArg nx z
          rw [nx_nI hj, nx_nI hj'] at this
          omega
        · exact hz d (by omega) z
/-- the rows of a text are in order: fors hold the rows up to their ends, letters differ, runs name lesser PROGRAMS -/
def pw (p : Nat) (t : pTab) (N : Nat) : Prop := N ≤ 40 ∧ (0 < N → pt_dp t 0 = 0) ∧ ∀ s, s < N → pt_dp t s ≤ 4 ∧ s + 1 ≤ pt_en t s ∧ pt_en t s ≤ N ∧ (pt_en t s < N → pt_dp t (pt_en t s) ≤ pt_dp t s) ∧ nm_ok (pt_nm t s) (pt_dp t s) ∧ (¬ pt_ty t s = 0 → ln_ok (pt_l1 t s) (pt_nm t s) (pt_dp t s)) ∧ (pt_ty t s = 2 ∨ pt_ty t s = 3 → ln_ok (pt_l2 t s) (pt_nm t s) (pt_dp t s)) ∧
  (((pt_ty t s = 0 ∨ pt_ty t s = 1) ∧ pt_en t s = s + 1 ∧ ∃ k, k < 4 ∧ pt_wh t s = nI k) ∨
   (pt_ty t s = 2 ∧ pt_dp t s < 4 ∧ (∃ j, j < 5 ∧ pt_wh t s = nI (105 + j)) ∧ (∀ d, d < pt_dp t s → ¬ pt_nm t s d = pt_wh t s) ∧ (s + 1 < pt_en t s → pt_dp t (s + 1) = pt_dp t s + 1) ∧ ∀ r, s < r → r < pt_en t s → pt_dp t s + 1 ≤ pt_dp t r ∧ pt_en t r ≤ pt_en t s ∧ pt_nm t r (pt_dp t s) = pt_wh t s ∧ ∀ d, d < pt_dp t s → pt_nm t r d = pt_nm t s d) ∨
   (pt_ty t s = 3 ∧ pt_en t s = s + 1 ∧ ∃ q, q < p ∧ pt_wh t s = nI q))
/-- the rows from s up to e are a block with D fors around, of these letters -/
def gb (t : pTab) (N : Nat) (nm : Nat → Int32) (D s e : Nat) : Prop := s ≤ e ∧ e ≤ N ∧ (s < e → pt_dp t s = D) ∧ ∀ r, s ≤ r → r < e → D ≤ pt_dp t r ∧ pt_en t r ≤ e ∧ ∀ d, d < D → pt_nm t r d = nm d
theorem gb_top {p : Nat} {t : pTab} {N : Nat} {nm : Nat → Int32} (h : pw p t N) : gb t N nm 0 0 N := ⟨Nat.zero_le _, Nat.le_refl _, h.2.1, fun r _ hr => ⟨Nat.zero_le _, (h.2.2 r hr).2.2.1, fun d hd => absurd hd (by omega)⟩⟩
theorem gb_next {p : Nat} {t : pTab} {N : Nat} {nm : Nat → Int32} {D s e : Nat} (h : pw p t N) (g : gb t N nm D s e) (hs : s < e) : gb t N nm D (pt_en t s) e := by
  obtain ⟨g1, g2, g3, g4⟩ := g
  obtain ⟨w1, w2, w3, w4, -⟩ := h.2.2 s (by omega)
  have a := g4 s (by omega) hs
  refine ⟨a.2.1, g2, fun z => ?_, fun r h1 h2 => g4 r (by omega) h2⟩
  have b := w4 (by omega)
  have c := (g4 (pt_en t s) (by omega) z).1
  rw [g3 hs] at b
  omega
theorem gb_body {p : Nat} {t : pTab} {N : Nat} {nm : Nat → Int32} {D s e : Nat} (h : pw p t N) (g : gb t N nm D s e) (hs : s < e) (h2 : pt_ty t s = 2) : gb t N (va_up nm D (pt_wh t s)) (D + 1) (s + 1) (pt_en t s) := by
  obtain ⟨g1, g2, g3, g4⟩ := g
  obtain ⟨w1, w2, w3, w4, -, -, -, w5⟩ := h.2.2 s (by omega)
  rcases w5 with ⟨z, -⟩ | ⟨-, y1, y2, y3, y4, y5⟩ | ⟨z, -⟩
  · rcases z with z | z <;> (rw [h2] at z; exact absurd z (by decide))
  · have e := g3 hs
    rw [e] at y4 y5
    refine ⟨w2, w3, y4, fun r h1 h3 => ?_⟩
    obtain ⟨x1, x2, x3, x4⟩ := y5 r (by omega) h3
    refine ⟨x1, x2, fun d hd => ?_⟩
    unfold va_up
    by_cases hz : d = D
    · rw [if_pos hz, hz]; exact x3
    · rw [if_neg hz, x4 d (by omega)]
      exact (g4 s (by omega) hs).2.2 d (by omega)
  · rw [h2] at z; exact absurd z (by decide)
/-! ===== RUNS ===== -/
abbrev rB_T : Type := Nat → Nat → Nat → (Nat → Int64) → (Nat → Int64) → Nat → Int32 → (Nat → Int64) → Nat → Prop
abbrev rF_T : Type := Nat → Nat → (Nat → Int64) → (Nat → Int64) → Nat → Int64 → Int64 → Int32 → (Nat → Int64) → Nat → Prop
abbrev v1 (t : pTab) (s : Nat) (w : Nat → Int64) : Int64 := le_S (pt_l1 t s) (pt_nm t s) w (pt_dp t s)
abbrev v2 (t : pTab) (s : Nat) (w : Nat → Int64) : Int64 := le_S (pt_l2 t s) (pt_nm t s) w (pt_dp t s)
def mk_up (m : Nat → Int64) (k : Nat) (x : Int64) : Nat → Int64 := va_up m k (m k + x)
/-- how the rows from s up to e run: p s e w m tu, then the end: the code, what is made, the turns -/
def rn_cl (P : Nat → pTab) (N : Nat → Nat) (B : rB_T) (F : rF_T) : Prop :=
  (∀ p e w m tu, B p e e w m tu 0 m tu) ∧
  (∀ p s e w m tu c m' tu', s < e → pt_ty (P p) s = 0 → B p (pt_en (P p) s) e w (mk_up m (pt_wh (P p) s).toNatClampNeg 1) tu c m' tu' → B p s e w m tu c m' tu') ∧
  (∀ p s e w m tu c m' tu', s < e → pt_ty (P p) s = 1 → rk_b (v1 (P p) s w) = true → 0 ≤ v1 (P p) s w → B p (pt_en (P p) s) e w (mk_up m (pt_wh (P p) s).toNatClampNeg (v1 (P p) s w)) tu c m' tu' → B p s e w m tu c m' tu') ∧
  (∀ p s e w m tu m' tu', s < e → pt_ty (P p) s = 1 → (rk_b (v1 (P p) s w) = false ∨ ¬ 0 ≤ v1 (P p) s w) → B p s e w m tu (-5) m' tu') ∧
  (∀ p s e w m tu m' tu', s < e → pt_ty (P p) s = 2 → (rk_b (v1 (P p) s w) = false ∨ rk_b (v2 (P p) s w) = false) → B p s e w m tu (-5) m' tu') ∧
  (∀ p s e w m tu m1 tu1 c m' tu', s < e → pt_ty (P p) s = 2 → rk_b (v1 (P p) s w) = true → rk_b (v2 (P p) s w) = true → F p s w m tu (v1 (P p) s w) (v2 (P p) s w) 0 m1 tu1 → B p (pt_en (P p) s) e w m1 tu1 c m' tu' → B p s e w m tu c m' tu') ∧
  (∀ p s e w m tu m1 tu1 c m' tu', s < e → pt_ty (P p) s = 2 → rk_b (v1 (P p) s w) = true → rk_b (v2 (P p) s w) = true → F p s w m tu (v1 (P p) s w) (v2 (P p) s w) c m1 tu1 → ¬ c = 0 → B p s e w m tu c m' tu') ∧
  (∀ p s e w m tu m' tu', s < e → pt_ty (P p) s = 3 → 20000 < tu + 1 → B p s e w m tu (-4) m' tu') ∧
  (∀ p s e w m tu m' tu', s < e → pt_ty (P p) s = 3 → tu + 1 ≤ 20000 → (rk_a (v1 (P p) s w) = false ∨ rk_a (v2 (P p) s w) = false) → B p s e w m tu (-5) m' tu') ∧
  (∀ p s e w m tu q m1 tu1 c m' tu', s < e → pt_ty (P p) s = 3 → tu + 1 ≤ 20000 → rk_a (v1 (P p) s w) = true → rk_a (v2 (P p) s w) = true → q < p → pt_wh (P p) s = nI q → B q 0 (N q) (sm_v0 (v1 (P p) s w) (v2 (P p) s w)) m (tu + 1) 0 m1 tu1 → B p (pt_en (P p) s) e w m1 tu1 c m' tu' → B p s e w m tu c m' tu') ∧
  (∀ p s e w m tu q m1 tu1 c m' tu', s < e → pt_ty (P p) s = 3 → tu + 1 ≤ 20000 → rk_a (v1 (P p) s w) = true → rk_a (v2 (P p) s w) = true → q < p → pt_wh (P p) s = nI q → B q 0 (N q) (sm_v0 (v1 (P p) s w) (v2 (P p) s w)) m (tu + 1) c m1 tu1 → ¬ c = 0 → B p s e w m tu c m' tu') ∧
  (∀ p s w m tu v last, last < v → F p s w m tu v last 0 m tu) ∧
  (∀ p s w m tu v last m' tu', v ≤ last → 20000 < tu + 1 → F p s w m tu v last (-4) m' tu') ∧
  (∀ p s w m tu v last m1 tu1 c m' tu', v ≤ last → tu + 1 ≤ 20000 → B p (s + 1) (pt_en (P p) s) (va_up w (2 + pt_dp (P p) s) v) m (tu + 1) 0 m1 tu1 → F p s w m1 tu1 (v + 1) last c m' tu' → F p s w m tu v last c m' tu') ∧
  (∀ p s w m tu v last m1 tu1 c m' tu', v ≤ last → tu + 1 ≤ 20000 → B p (s + 1) (pt_en (P p) s) (va_up w (2 + pt_dp (P p) s) v) m (tu + 1) c m1 tu1 → ¬ c = 0 → F p s w m tu v last c m' tu')
/-- the least such -/
def rnB (P : Nat → pTab) (N : Nat → Nat) : rB_T := fun p s e w m tu c m' tu' => ∀ B F, rn_cl P N B F → B p s e w m tu c m' tu'
def rnF (P : Nat → pTab) (N : Nat → Nat) : rF_T := fun p s w m tu v last c m' tu' => ∀ B F, rn_cl P N B F → F p s w m tu v last c m' tu'
theorem rn_ok (P : Nat → pTab) (N : Nat → Nat) : rn_cl P N (rnB P N) (rnF P N) := by
  refine ⟨?_, ?_, ?_, ?_, ?_, ?_, ?_, ?_, ?_, ?_, ?_, ?_, ?_, ?_, ?_⟩
  · intro p e w m tu B F h; exact h.1 p e w m tu
  · intro p s e w m tu c m' tu' h1 h2 h3 B F h; exact h.2.1 p s e w m tu c m' tu' h1 h2 (h3 B F h)
  · intro p s e w m tu c m' tu' h1 h2 h3 h4 h5 B F h; exact h.2.2.1 p s e w m tu c m' tu' h1 h2 h3 h4 (h5 B F h)
  · intro p s e w m tu m' tu' h1 h2 h3 B F h; exact h.2.2.2.1 p s e w m tu m' tu' h1 h2 h3
  · intro p s e w m tu m' tu' h1 h2 h3 B F h; exact h.2.2.2.2.1 p s e w m tu m' tu' h1 h2 h3
  · intro p s e w m tu m1 tu1 c m' tu' h1 h2 h3 h4 h5 h6 B F h; exact h.2.2.2.2.2.1 p s e w m tu m1 tu1 c m' tu' h1 h2 h3 h4 (h5 B F h) (h6 B F h)
  · intro p s e w m tu m1 tu1 c m' tu' h1 h2 h3 h4 h5 h6 B F h; exact h.2.2.2.2.2.2.1 p s e w m tu m1 tu1 c m' tu' h1 h2 h3 h4 (h5 B F h) h6
  · intro p s e w m tu m' tu' h1 h2 h3 B F h; exact h.2.2.2.2.2.2.2.1 p s e w m tu m' tu' h1 h2 h3
  · intro p s e w m tu m' tu' h1 h2 h3 h4 B F h; exact h.2.2.2.2.2.2.2.2.1 p s e w m tu m' tu' h1 h2 h3 h4
  · intro p s e w m tu q m1 tu1 c m' tu' h1 h2 h3 h4 h5 h6 h7 h8 h9 B F h; exact h.2.2.2.2.2.2.2.2.2.1 p s e w m tu q m1 tu1 c m' tu' h1 h2 h3 h4 h5 h6 h7 (h8 B F h) (h9 B F h)
  · intro p s e w m tu q m1 tu1 c m' tu' h1 h2 h3 h4 h5 h6 h7 h8 h9 B F h; exact h.2.2.2.2.2.2.2.2.2.2.1 p s e w m tu q m1 tu1 c m' tu' h1 h2 h3 h4 h5 h6 h7 (h8 B F h) h9
  · intro p s w m tu v last h1 B F h; exact h.2.2.2.2.2.2.2.2.2.2.2.1 p s w m tu v last h1
  · intro p s w m tu v last m' tu' h1 h2 B F h; exact h.2.2.2.2.2.2.2.2.2.2.2.2.1 p s w m tu v last m' tu' h1 h2
  · intro p s w m tu v last m1 tu1 c m' tu' h1 h2 h3 h4 B F h; exact h.2.2.2.2.2.2.2.2.2.2.2.2.2.1 p s w m tu v last m1 tu1 c m' tu' h1 h2 (h3 B F h) (h4 B F h)
  · intro p s w m tu v last m1 tu1 c m' tu' h1 h2 h3 h4 B F h; exact h.2.2.2.2.2.2.2.2.2.2.2.2.2.2 p s w m tu v last m1 tu1 c m' tu' h1 h2 (h3 B F h) h4
