/-! ===== bounds: of numbers of choices, of what RUNS make, of FACTORS ===== -/
theorem ch_bd {n : Nat} (hn : n ≤ 1100) : ∀ k, k ≤ 5 → ∃ v : Nat, (ch (nI n).toInt64 k).toInt = (v : Int) ∧ v ≤ 1100 ^ k ∧ (n < k → v = 0) := by
  intro k
  induction k with
  | zero => intro _; exact ⟨1, rfl, by decide, fun z => absurd z (by omega)⟩
  | succ k ih =>
    intro hk
    obtain ⟨v, hv, hb, hz⟩ := ih (by omega)
    have hp : 1100 ^ k ≤ 1100 ^ 4 := Nat.pow_le_pow_right (by decide) (by omega)
    have es : ((nI n).toInt64 - (nI k).toInt64).toInt = (n : Int) - (k : Int) := by
      rw [Int64.toInt_sub, nI64_toInt (by omega), nI64_toInt (by omega), Int.bmod_def]
      split <;> omega
    rw [ch]
    by_cases hnk : n ≤ k
    · have h0 : ch (nI n).toInt64 k * ((nI n).toInt64 - (nI k).toInt64) = 0 := by
        apply Int64.toInt_inj.mp
        by_cases he : n = k
        · rw [mul_i (by rw [es, he]; simp), es, he]; simp
        · have hv0 := hz (by omega)
          rw [mul_i (by rw [hv, hv0]; simp), hv, hv0]; simp
      rw [h0]
      refine ⟨0, ?_, Nat.zero_le _, fun _ => rfl⟩
      rw [div_i (m := 0) (n := k + 1) rfl (nI64_toInt (by omega)), Nat.zero_div]
    · have ep : v * (n - k) ≤ 1100 ^ (k + 1) := by
        rw [Nat.pow_succ]
        exact Nat.mul_le_mul hb (by omega)
      have hp1 : 1100 ^ (k + 1) ≤ 1100 ^ 5 := Nat.pow_le_pow_right (by decide) (by omega)
      have e5 : 1100 ^ 5 = 1610510000000000 := by decide
      have hm : (ch (nI n).toInt64 k * ((nI n).toInt64 - (nI k).toInt64)).toInt = ((v * (n - k) : Nat) : Int) := by
        have e : (v : Int) * ((n : Int) - (k : Int)) = ((v * (n - k) : Nat) : Int) := by
          rw [Int.natCast_mul, Int.natCast_sub (by omega)]
        rw [mul_i (by rw [es, hv, e]; omega), es, hv, e]
      refine ⟨v * (n - k) / (k + 1), div_i hm (nI64_toInt (by omega)), Nat.le_trans (Nat.div_le_self _ _) ep, fun z => absurd z (by omega)⟩
theorem ch_sm {a b : Nat} (ha : a ≤ 1100) (hb : b ≤ 1100) {i j : Nat} (h : i + j ≤ 5) : sm9 (ch (nI a).toInt64 i * ch (nI b).toInt64 j) := by
  obtain ⟨v, hv, v1, -⟩ := ch_bd ha i (by omega)
  obtain ⟨w, hw, w1, -⟩ := ch_bd hb j (by omega)
  have hm : v * w ≤ 1100 ^ 5 := Nat.le_trans (Nat.mul_le_mul v1 w1) (by rw [← Nat.pow_add]; exact Nat.pow_le_pow_right (by decide) h)
  have e5 : 1100 ^ 5 = 1610510000000000 := by decide
  have e : (v : Int) * (w : Int) = ((v * w : Nat) : Int) := by rw [Int.natCast_mul]
  unfold sm9
  rw [mul_i (by rw [hv, hw, e]; omega), hv, hw, e]
  omega
theorem wt_sm {i j p q : Nat} (hi : i < 6) (hj : j < 6) (hp : p ≤ i) (hq : q ≤ j) : sm9 (wt i j p q) := by
  obtain ⟨c1, c2, -, c4⟩ := chi_is i hi p (by omega)
  obtain ⟨e1, e2, -, e4⟩ := chi_is j hj q (by omega)
  have hm : c1 * e1 ≤ 10 * 10 := Nat.mul_le_mul c2 e2
  have e : (c1 : Int) * (e1 : Int) = ((c1 * e1 : Nat) : Int) := by rw [Int.natCast_mul]
  have hx : (ch (nI i).toInt64 p * ch (nI j).toInt64 q).toInt = ((c1 * e1 : Nat) : Int) := by
    rw [c4, e4, mul_i (by rw [nI64_toInt (by omega), nI64_toInt (by omega), e]; omega), nI64_toInt (by omega), nI64_toInt (by omega), e]
  have hs : sm9 (ch (nI i).toInt64 p * ch (nI j).toInt64 q) := by unfold sm9; rw [hx]; omega
  unfold wt
  split
  · exact hs
  · unfold sm9
    rw [neg_i hs, hx]
    omega
theorem pr_sm {x : Int32} (h : 0 ≤ x ∧ x ≤ 1000) : sm9 x.toInt64 := by
  have a1 := Int32.le_iff_toInt_le.mp h.1
  have a2 := Int32.le_iff_toInt_le.mp h.2
  have e1 : (0 : Int32).toInt = 0 := rfl
  have e2 : (1000 : Int32).toInt = 1000 := rfl
  unfold sm9
  rw [Int32.toInt_toInt64]
  omega
/-! what a RUN makes: at most a reach of LINES for each row, and each turn has 40 rows -/
def rbp (m : Nat → Int64) (n tu : Nat) : Prop := ∀ k, 0 ≤ (m k).toInt ∧ (m k).toInt + 100000000000 * (n : Int) + 4000000000000 * (20000 - (tu : Int)) ≤ 100000000000000000
def rbq (m : Nat → Int64) (n tu : Nat) (m' : Nat → Int64) (tu' : Nat) : Prop := tu ≤ tu' ∧ tu' ≤ 20000 ∧ ∀ k, 0 ≤ (m' k).toInt ∧ (m' k).toInt + 4000000000000 * (20000 - (tu' : Int)) ≤ (m k).toInt + 100000000000 * (n : Int) + 4000000000000 * (20000 - (tu : Int))
def rbB (P : Nat → pTab) (N : Nat → Nat) (held : Nat) : rB_T := fun p s e w m tu c m' tu' => ∀ (D : Nat) (nm : Nat → Int32), p < held → gb (P p) (N p) nm D s e → tu ≤ 20000 → rbp m (e - s) tu → c = 0 → rbq m (e - s) tu m' tu'
def rbF (P : Nat → pTab) (N : Nat → Nat) (held : Nat) : rF_T := fun p s w m tu v last c m' tu' => ∀ (D e : Nat) (nm : Nat → Int32), p < held → gb (P p) (N p) nm D s e → s < e → pt_ty (P p) s = 2 → tu ≤ 20000 → rbp m 0 tu → c = 0 → rbq m 0 tu m' tu'
theorem mk_bd {m : Nat → Int64} {k n tu : Nat} {x : Int64} (hx : 0 ≤ x.toInt ∧ x.toInt ≤ 100000000000) (htu : tu ≤ 20000) (hm : rbp m (n + 1) tu) : ∀ j, 0 ≤ (mk_up m k x j).toInt ∧ (mk_up m k x j).toInt ≤ (m j).toInt + 100000000000 := by
  intro j
  unfold mk_up va_up
  by_cases hj : j = k
  · rw [if_pos hj, hj, Int64.toInt_add, Int.bmod_def]
    have := hm k
    split <;> omega
  · rw [if_neg hj]
    have := hm j
    omega
theorem rn_bd {P : Nat → pTab} {N : Nat → Nat} {held : Nat} (hw : ∀ p, p < held → pw p (P p) (N p)) : rn_cl P N (rbB P N held) (rbF P N held) := by
  have en : ∀ {p s e D nm}, p < held → gb (P p) (N p) nm D s e → s < e → s + 1 ≤ pt_en (P p) s ∧ pt_en (P p) s ≤ e ∧ e ≤ 40 := fun {p s e D nm} hp hg hs => by
    have he := hg.2.1
    obtain ⟨-, w2, -, -⟩ := (hw p hp).2.2 s (by omega)
    have := (hw p hp).1
    exact ⟨w2, (hg.2.2.2 s (Nat.le_refl _) hs).2.1, by omega⟩
  -- a row that makes x, then the rest
  have step : ∀ {p s e D nm tu k x m m' tu'}, p < held → gb (P p) (N p) nm D s e → s < e → tu ≤ 20000 → rbp m (e - s) tu → (0 ≤ Int64.toInt x ∧ Int64.toInt x ≤ 100000000000) → (gb (P p) (N p) nm D (pt_en (P p) s) e → rbp (mk_up m k x) (e - pt_en (P p) s) tu → rbq (mk_up m k x) (e - pt_en (P p) s) tu m' tu') → rbq m (e - s) tu m' tu' := fun {p s e D nm tu k x m m' tu'} hp hg hs htu hm hx hB => by
    obtain ⟨e1, e2, e3⟩ := en hp hg hs
    obtain ⟨n, hn⟩ : ∃ n, e - s = n + 1 := ⟨e - s - 1, by omega⟩
    rw [hn] at hm
    have hmk := mk_bd (k := k) hx htu hm
    obtain ⟨q1, q2, q3⟩ := hB (gb_next (hw p hp) hg hs) (fun j => by have a := hmk j; have b := hm j; constructor; exact a.1; omega)
    refine ⟨q1, q2, fun j => ?_⟩
    have a := hmk j
    have b := q3 j
    constructor
    · exact b.1
    · omega
  -- a row that is made of turns, then the rest
  have turns : ∀ {p s e D nm tu tu1 m m1 m' tu'}, p < held → gb (P p) (N p) nm D s e → s < e → tu ≤ 20000 → rbp m (e - s) tu → rbq m 0 tu m1 tu1 → (gb (P p) (N p) nm D (pt_en (P p) s) e → tu1 ≤ 20000 → rbp m1 (e - pt_en (P p) s) tu1 → rbq m1 (e - pt_en (P p) s) tu1 m' tu') → rbq m (e - s) tu m' tu' := fun {p s e D nm tu tu1 m m1 m' tu'} hp hg hs htu hm hq hB => by
    obtain ⟨e1, e2, e3⟩ := en hp hg hs
    obtain ⟨q1, q2, q3⟩ := hq
    obtain ⟨r1, r2, r3⟩ := hB (gb_next (hw p hp) hg hs) q2 (fun j => by have a := q3 j; have b := hm j; constructor; exact a.1; omega)
    refine ⟨by omega, r2, fun j => ?_⟩
    have a := q3 j
    have b := r3 j
    constructor
    · exact b.1
    · omega
  have h0 : ∀ {p s e D nm tu m}, gb (P p) (N p) nm D s e → tu ≤ 20000 → rbp m (e - s) tu → rbp m 0 tu := fun {p s e D nm tu m} hg htu hm j => by
    have := hm j
    constructor
    · exact this.1
    · omega
  refine ⟨?_, ?_, ?_, ?_, ?_, ?_, ?_, ?_, ?_, ?_, ?_, ?_, ?_, ?_, ?_⟩
  · intro p e w m tu D nm hp hg htu hm _
    exact ⟨Nat.le_refl _, htu, fun k => ⟨(hm k).1, by omega⟩⟩
  · intro p s e w m tu c m' tu' hs h1 hB D nm hp hg htu hm hc
    exact step (k := (pt_wh (P p) s).toNatClampNeg) (x := 1) hp hg hs htu hm ⟨by decide, by decide⟩ (fun g r => hB D nm hp g htu r hc)
  · intro p s e w m tu c m' tu' hs h1 hb hv hB D nm hp hg htu hm hc
    have b1 := Int64.le_iff_toInt_le.mp hv
    have b2 := Int64.le_iff_toInt_le.mp (rk_bt hb).2
    exact step (k := (pt_wh (P p) s).toNatClampNeg) (x := v1 (P p) s w) hp hg hs htu hm ⟨b1, b2⟩ (fun g r => hB D nm hp g htu r hc)
  · intro p s e w m tu m' tu' hs h1 hb D nm hp hg htu hm hc
    exact absurd hc (by decide)
  · intro p s e w m tu m' tu' hs h1 hb D nm hp hg htu hm hc
    exact absurd hc (by decide)
  · intro p s e w m tu m1 tu1 c m' tu' hs h2 hb1 hb2 hF hB D nm hp hg htu hm hc
    exact turns hp hg hs htu hm (hF D e nm hp hg hs h2 htu (h0 hg htu hm) rfl) (fun g t r => hB D nm hp g t r hc)
  · intro p s e w m tu m1 tu1 c m' tu' hs h2 hb1 hb2 hF hne D nm hp hg htu hm hc
    exact absurd hc hne
  · intro p s e w m tu m' tu' hs h3 hsp D nm hp hg htu hm hc
    exact absurd hc (by decide)
  · intro p s e w m tu m' tu' hs h3 hsp hb D nm hp hg htu hm hc
    exact absurd hc (by decide)
  · intro p s e w m tu q m1 tu1 c m' tu' hs h3 hsp ha hb hq hwh hC hB D nm hp hg htu hm hc
    have hN := (hw q (by omega)).1
    obtain ⟨q1, q2, q3⟩ := hC 0 (fun _ => 0) (by omega) (gb_top (hw q (by omega))) hsp (fun j => by have := h0 hg htu hm j; constructor; exact this.1; omega) rfl
    refine turns hp hg hs htu hm ⟨by omega, q2, fun j => ?_⟩ (fun g t r => hB D nm hp g t r hc)
    have := q3 j
    constructor
    · exact this.1
    · omega
  · intro p s e w m tu q m1 tu1 c m' tu' hs h3 hsp ha hb hq hwh hC hne D nm hp hg htu hm hc
    exact absurd hc hne
  · intro p s w m tu v last hv D e nm hp hg hs h2 htu hm hc
    exact ⟨Nat.le_refl _, htu, fun k => ⟨(hm k).1, by omega⟩⟩
  · intro p s w m tu v last m' tu' hv hsp D e nm hp hg hs h2 htu hm hc
    exact absurd hc (by decide)
  · intro p s w m tu v last m1 tu1 c m' tu' hv hsp hB hF D e nm hp hg hs h2 htu hm hc
    obtain ⟨e1, e2, e3⟩ := en hp hg hs
    obtain ⟨q1, q2, q3⟩ := hB (D + 1) _ hp (gb_body (hw p hp) hg hs h2) hsp (fun j => by have := hm j; constructor; exact this.1; omega) rfl
    obtain ⟨r1, r2, r3⟩ := hF D e nm hp hg hs h2 q2 (fun j => by have a := q3 j; have b := hm j; constructor; exact a.1; omega) hc
    refine ⟨by omega, r2, fun j => ?_⟩
    have a := q3 j
    have b := r3 j
    constructor
    · exact b.1
    · omega
  · intro p s w m tu v last m1 tu1 c m' tu' hv hsp hB hne D e nm hp hg hs h2 htu hm hc
    exact absurd hc hne
theorem rn_made {P : Nat → pTab} {N : Nat → Nat} {held : Nat} (hw : ∀ p, p < held → pw p (P p) (N p)) {p : Nat} (hp : p < held) {a b : Int64} {m' : Nat → Int64} {tu' : Nat} (h : rnB P N p 0 (N p) (sm_v0 a b) (fun _ => 0) 0 0 m' tu') (k : Nat) : 0 ≤ (m' k).toInt ∧ (m' k).toInt ≤ 100000000000000000 := by
  have hN := (hw p hp).1
  have e0 : (0 : Int64).toInt = 0 := rfl
  obtain ⟨q1, q2, q3⟩ := h _ _ (rn_bd hw) 0 (fun _ => 0) hp (gb_top (hw p hp)) (by omega) (fun j => by rw [e0]; omega) rfl
  have := q3 k
  rw [e0] at this
  omega
/-- a FACTOR is below 9 * 10^18 -/
def bd (x : Int64) (B : Int) : Prop := -B ≤ x.toInt ∧ x.toInt ≤ B
theorem bd_add {x y : Int64} {A B : Int} (hx : bd x A) (hy : bd y B) (h : A + B < 9000000000000000000) : bd (x + y) (A + B) := by
  unfold bd at *
  rw [Int64.toInt_add, Int.bmod_def]
  split <;> omega
def smN (f : Nat → Nat) : Nat → Nat
  | 0 => 0
  | n + 1 => smN f n + f n
theorem bd_sm {f : Nat → Int64} {g : Nat → Nat} : ∀ n, (∀ p, p < n → bd (f p) (g p)) → smN g n < 9000000000000000000 → bd (sm f n) (smN g n) := by
  intro n
  induction n with
  | zero => intro _ _; exact (show bd 0 0 from ⟨by decide, by decide⟩)
  | succ n ih =>
    intro h hB
    rw [sm, smN]
    rw [smN] at hB
    have := bd_add (ih (fun p hp => h p (by omega)) (by omega)) (h n (by omega)) (by omega)
    rw [Int.natCast_add]
    exact this
theorem smN_le {f : Nat → Nat} {p : Nat} : ∀ n, p < n → f p ≤ smN f n := by
  intro n
  induction n with
  | zero => intro h; omega
  | succ n ih =>
    intro h
    rw [smN]
    by_cases he : p = n
    · rw [he]; omega
    · have := ih (by omega); omega
def chN (i p : Nat) : Nat := (qa_chi (6 * i + p)).toNatClampNeg
theorem df_bd {C : Nat → Nat → Int64} {i j : Nat} (hij : i + j ≤ 5) (hC : ∀ p q, p ≤ i → q ≤ j → 0 ≤ (C p q).toInt ∧ (C p q).toInt ≤ 100000000000000000) : sm9 (df C i j) := by
  have hW : ∀ i : Fin 6, ∀ j : Fin 6, i.val + j.val ≤ 5 → smN (fun p => smN (fun q => chN i.val p * chN j.val q * 100000000000000000) (j.val + 1)) (i.val + 1) ≤ 3200000000000000000 := by decide +kernel
  have hWij := hW ⟨i, by omega⟩ ⟨j, by omega⟩ hij
  dsimp only at hWij
  have key : bd (df C i j) ((smN (fun p => smN (fun q => chN i p * chN j q * 100000000000000000) (j + 1)) (i + 1) : Nat)) := by
    have o1 : ∀ p, p < i + 1 → smN (fun q => chN i p * chN j q * 100000000000000000) (j + 1) ≤ 3200000000000000000 := fun p hp => Nat.le_trans (smN_le (f := fun p => smN (fun q => chN i p * chN j q * 100000000000000000) (j + 1)) (i + 1) hp) hWij
    unfold df
    refine bd_sm _ (fun p hp => bd_sm _ (fun q hq => ?_) (by have := o1 p hp; omega)) (by omega)
    have o2 := Nat.le_trans (smN_le (f := fun q => chN i p * chN j q * 100000000000000000) (j + 1) hq) (o1 p hp)
    obtain ⟨c1, c2, c3, c4⟩ := chi_is i (by omega) p (by omega)
    obtain ⟨e1, e2, e3, e4⟩ := chi_is j (by omega) q (by omega)
    have k1 : chN i p = c1 := by unfold chN; rw [c3, nI_clamp (by omega)]
    have k2 : chN j q = e1 := by unfold chN; rw [e3, nI_clamp (by omega)]
    rw [k1, k2] at o2 ⊢
    have hm : c1 * e1 ≤ 10 * 10 := Nat.mul_le_mul c2 e2
    obtain ⟨v1, v2⟩ := hC p q (by omega) (by omega)
    obtain ⟨v, hv⟩ : ∃ v : Nat, (C p q).toInt = (v : Int) := ⟨(C p q).toInt.toNat, by omega⟩
    have e : (c1 : Int) * (e1 : Int) = ((c1 * e1 : Nat) : Int) := by rw [Int.natCast_mul]
    have hx : (ch (nI i).toInt64 p * ch (nI j).toInt64 q).toInt = ((c1 * e1 : Nat) : Int) := by
      rw [c4, e4, mul_i (by rw [nI64_toInt (by omega), nI64_toInt (by omega), e]; omega), nI64_toInt (by omega), nI64_toInt (by omega), e]
    have hv2 : v ≤ 100000000000000000 := by omega
    have hmv : c1 * e1 * v ≤ c1 * e1 * 100000000000000000 := Nat.mul_le_mul_left _ hv2
    have ev : ((c1 * e1 : Nat) : Int) * (v : Int) = ((c1 * e1 * v : Nat) : Int) := by rw [Int.natCast_mul (c1 * e1)]
    have hy : (ch (nI i).toInt64 p * ch (nI j).toInt64 q * C p q).toInt = ((c1 * e1 * v : Nat) : Int) := by
      rw [mul_i (by rw [hx, hv, ev]; omega), hx, hv, ev]
    unfold bd df_t
    split
    · rw [hy]; omega
    · rw [neg_i (by unfold sm9; rw [hy]; omega), hy]; omega
  unfold sm9
  unfold bd at key
  omega
theorem rn_same {P P' : Nat → pTab} {N N' : Nat → Nat} : rn_cl P N (fun p s e w m tu c m' tu' => (∀ q, q ≤ p → P q = P' q ∧ N q = N' q) → rnB P' N' p s e w m tu c m' tu') (fun p s w m tu v last c m' tu' => (∀ q, q ≤ p → P q = P' q ∧ N q = N' q) → rnF P' N' p s w m tu v last c m' tu') := by
  obtain ⟨b0, b1, b2, b3, b4, b5, b6, b7, b8, b9, b10, f0, f1, f2, f3⟩ := rn_ok P' N'
  refine ⟨?_, ?_, ?_, ?_, ?_, ?_, ?_, ?_, ?_, ?_, ?_, ?_, ?_, ?_, ?_⟩
  · intro p e w m tu _
    exact b0 p e w m tu
  · intro p s e w m tu c m' tu' hs h1 hB hq
    rw [(hq p (Nat.le_refl _)).1] at h1 hB
    exact b1 p s e w m tu c m' tu' hs h1 (hB hq)
  · intro p s e w m tu c m' tu' hs h1 hb hv hB hq
    rw [(hq p (Nat.le_refl _)).1] at h1 hb hv hB
    exact b2 p s e w m tu c m' tu' hs h1 hb hv (hB hq)
  · intro p s e w m tu m' tu' hs h1 hb hq
    rw [(hq p (Nat.le_refl _)).1] at h1 hb
    exact b3 p s e w m tu m' tu' hs h1 hb
  · intro p s e w m tu m' tu' hs h1 hb hq
    rw [(hq p (Nat.le_refl _)).1] at h1 hb
    exact b4 p s e w m tu m' tu' hs h1 hb
  · intro p s e w m tu m1 tu1 c m' tu' hs h2 hb1 hb2 hF hB hq
    rw [(hq p (Nat.le_refl _)).1] at h2 hb1 hb2 hF hB
    exact b5 p s e w m tu m1 tu1 c m' tu' hs h2 hb1 hb2 (hF hq) (hB hq)
  · intro p s e w m tu m1 tu1 c m' tu' hs h2 hb1 hb2 hF hne hq
    rw [(hq p (Nat.le_refl _)).1] at h2 hb1 hb2 hF
    exact b6 p s e w m tu m1 tu1 c m' tu' hs h2 hb1 hb2 (hF hq) hne
  · intro p s e w m tu m' tu' hs h3 hsp hq
    rw [(hq p (Nat.le_refl _)).1] at h3
    exact b7 p s e w m tu m' tu' hs h3 hsp
  · intro p s e w m tu m' tu' hs h3 hsp hb hq
    rw [(hq p (Nat.le_refl _)).1] at h3 hb
    exact b8 p s e w m tu m' tu' hs h3 hsp hb
  · intro p s e w m tu q m1 tu1 c m' tu' hs h3 hsp ha hb hqp hwh hC hB hq
    have hC' := hC (fun r hr => hq r (by omega))
    rw [(hq p (Nat.le_refl _)).1] at h3 ha hb hwh hB hC'
    rw [(hq q (by omega)).2] at hC'
    exact b9 p s e w m tu q m1 tu1 c m' tu' hs h3 hsp ha hb hqp hwh hC' (hB hq)
  · intro p s e w m tu q m1 tu1 c m' tu' hs h3 hsp ha hb hqp hwh hC hne hq
    have hC' := hC (fun r hr => hq r (by omega))
    rw [(hq p (Nat.le_refl _)).1] at h3 ha hb hwh hC'
    rw [(hq q (by omega)).2] at hC'
    exact b10 p s e w m tu q m1 tu1 c m' tu' hs h3 hsp ha hb hqp hwh hC' hne
  · intro p s w m tu v last hv hq
    exact f0 p s w m tu v last hv
  · intro p s w m tu v last m' tu' hv hsp hq
    exact f1 p s w m tu v last m' tu' hv hsp
  · intro p s w m tu v last m1 tu1 c m' tu' hv hsp hB hF hq
    rw [(hq p (Nat.le_refl _)).1] at hB
    exact f2 p s w m tu v last m1 tu1 c m' tu' hv hsp (hB hq) (hF hq)
  · intro p s w m tu v last m1 tu1 c m' tu' hv hsp hB hne hq
    rw [(hq p (Nat.le_refl _)).1] at hB
    exact f3 p s w m tu v last m1 tu1 c m' tu' hv hsp (hB hq) hne
theorem fits.same {P P' : Nat → pTab} {N N' : Nat → Nat} {p dg fa fb : Nat} {c : Nat → Nat → Int32} {mm : Nat → Nat → Nat → Int64} (h : fits P N p dg fa fb c mm) (hq : ∀ q, q ≤ p → P q = P' q ∧ N q = N' q) : fits P' N' p dg fa fb c mm := fun i j hij => by
  obtain ⟨tu', hr⟩ := h i j hij
  rw [(hq p (Nat.le_refl _)).2] at hr
  exact ⟨tu', hr _ _ rn_same hq⟩
