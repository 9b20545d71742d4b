/-! ===== every RUN comes to an end ===== -/
def rx (P : Nat → pTab) (N : Nat → Nat) (p s e : Nat) (w m : Nat → Int64) (tu : Nat) : Prop := ∃ c m' tu', rnB P N p s e w m tu c m' tu' ∧ (c = 0 → tu ≤ tu' ∧ tu' ≤ 20000)
theorem rx_for {P : Nat → pTab} {N : Nat → Nat} {p s : Nat} {w : Nat → Int64} {last : Int64} (body : ∀ v m tu, tu ≤ 20000 → rx P N p (s + 1) (pt_en (P p) s) (va_up w (2 + pt_dp (P p) s) v) m tu) : ∀ (n tu : Nat) (v : Int64) (m : Nat → Int64), tu + n = 20001 → tu ≤ 20000 → ∃ c m' tu', rnF P N p s w m tu v last c m' tu' ∧ (c = 0 → tu ≤ tu' ∧ tu' ≤ 20000) := by
  obtain ⟨-, -, -, -, -, -, -, -, -, -, -, f0, f1, f2, f3⟩ := rn_ok P N
  intro n
  induction n using Nat.strongRecOn with
  | ind n ih =>
    intro tu v m hn htu
    by_cases hv : v ≤ last
    · by_cases hsp : 20000 < tu + 1
      · exact ⟨-4, m, tu, f1 p s w m tu v last m tu hv hsp, fun z => absurd z (by decide)⟩
      · obtain ⟨c1, m1, tu1, h1, h2⟩ := body v m (tu + 1) (by omega)
        by_cases hc : c1 = 0
        · subst hc
          obtain ⟨h3, h4⟩ := h2 rfl
          obtain ⟨c, m', tu', g1, g2⟩ := ih (20001 - tu1) (by omega) tu1 (v + 1) m1 (by omega) h4
          exact ⟨c, m', tu', f2 p s w m tu v last m1 tu1 c m' tu' hv (by omega) h1 g1, fun z => ⟨by have := (g2 z).1; omega, (g2 z).2⟩⟩
        · exact ⟨c1, m1, tu1, f3 p s w m tu v last m1 tu1 c1 m1 tu1 hv (by omega) h1 hc, fun z => absurd z hc⟩
    · exact ⟨0, m, tu, f0 p s w m tu v last (Int64.not_le.mp hv), fun _ => ⟨Nat.le_refl _, htu⟩⟩
theorem rx_all {P : Nat → pTab} {N : Nat → Nat} {held : Nat} (hw : ∀ p, p < held → pw p (P p) (N p)) : ∀ p, p < held → ∀ (n s e D : Nat) (nm : Nat → Int32) (w m : Nat → Int64) (tu : Nat), e - s = n → gb (P p) (N p) nm D s e → tu ≤ 20000 → rx P N p s e w m tu := by
  obtain ⟨b0, b1, b2, b3, b4, b5, b6, b7, b8, b9, b10, f0, f1, f2, f3⟩ := rn_ok P N
  intro p
  induction p using Nat.strongRecOn with
  | ind p ihp =>
    intro hp n
    induction n using Nat.strongRecOn with
    | ind n ih =>
      intro s e D nm w m tu hn hg htu
      have hwp := hw p hp
      by_cases hse : s < e
      · have he := hg.2.1
        obtain ⟨-, w2, w3, -, -, -, -, w5⟩ := hwp.2.2 s (by omega)
        have hgn := gb_next hwp hg hse
        have rest : ∀ m1 tu1, tu1 ≤ 20000 → rx P N p (pt_en (P p) s) e w m1 tu1 := fun m1 tu1 h => ih (e - pt_en (P p) s) (by have := hgn.1; omega) _ e D nm w m1 tu1 rfl hgn h
        rcases w5 with ⟨h0 | h0, -⟩ | ⟨h0, -⟩ | ⟨h0, -, q, hq, hwh⟩
        · obtain ⟨c, m', tu', g1, g2⟩ := rest (mk_up m (pt_wh (P p) s).toNatClampNeg 1) tu htu
          exact ⟨c, m', tu', b1 p s e w m tu c m' tu' hse h0 g1, g2⟩
        · by_cases hz : rk_b (v1 (P p) s w) = true ∧ 0 ≤ v1 (P p) s w
          · obtain ⟨c, m', tu', g1, g2⟩ := rest (mk_up m (pt_wh (P p) s).toNatClampNeg (v1 (P p) s w)) tu htu
            exact ⟨c, m', tu', b2 p s e w m tu c m' tu' hse h0 hz.1 hz.2 g1, g2⟩
          · refine ⟨-5, m, tu, b3 p s e w m tu m tu hse h0 ?_, fun z => absurd z (by decide)⟩
            cases hb : rk_b (v1 (P p) s w) with
            | false => exact Or.inl rfl
            | true => exact Or.inr (fun z => hz ⟨hb, z⟩)
        · by_cases hz : rk_b (v1 (P p) s w) = true ∧ rk_b (v2 (P p) s w) = true
          · have hgb := gb_body hwp hg hse h0
            obtain ⟨c1, m1, tu1, g1, g2⟩ := rx_for (P := P) (N := N) (p := p) (s := s) (w := w) (last := v2 (P p) s w) (fun v m tu h => ih (pt_en (P p) s - (s + 1)) (by have := hgn.1; omega) (s + 1) (pt_en (P p) s) (D + 1) _ _ m tu rfl hgb h) (20001 - tu) tu (v1 (P p) s w) m (by omega) htu
            by_cases hc : c1 = 0
            · subst hc
              obtain ⟨h3, h4⟩ := g2 rfl
              obtain ⟨c, m', tu', k1, k2⟩ := rest m1 tu1 h4
              exact ⟨c, m', tu', b5 p s e w m tu m1 tu1 c m' tu' hse h0 hz.1 hz.2 g1 k1, fun z => ⟨by have := (k2 z).1; omega, (k2 z).2⟩⟩
            · exact ⟨c1, m1, tu1, b6 p s e w m tu m1 tu1 c1 m1 tu1 hse h0 hz.1 hz.2 g1 hc, fun z => absurd z hc⟩
          · refine ⟨-5, m, tu, b4 p s e w m tu m tu hse h0 ?_, fun z => absurd z (by decide)⟩
            cases hb : rk_b (v1 (P p) s w) with
            | false => exact Or.inl rfl
            | true =>
              cases hb2 : rk_b (v2 (P p) s w) with
              | false => exact Or.inr rfl
              | true => exact absurd ⟨hb, hb2⟩ hz
        · by_cases hsp : 20000 < tu + 1
          · exact ⟨-4, m, tu, b7 p s e w m tu m tu hse h0 hsp, fun z => absurd z (by decide)⟩
          · by_cases hz : rk_a (v1 (P p) s w) = true ∧ rk_a (v2 (P p) s w) = true
            · obtain ⟨c1, m1, tu1, g1, g2⟩ := ihp q hq (by omega) (N q - 0) 0 (N q) 0 (fun _ => 0) (sm_v0 (v1 (P p) s w) (v2 (P p) s w)) m (tu + 1) rfl (gb_top (hw q (by omega))) (by omega)
              by_cases hc : c1 = 0
              · subst hc
                obtain ⟨h3, h4⟩ := g2 rfl
                obtain ⟨c, m', tu', k1, k2⟩ := rest m1 tu1 h4
                exact ⟨c, m', tu', b9 p s e w m tu q m1 tu1 c m' tu' hse h0 (by omega) hz.1 hz.2 hq hwh g1 k1, fun z => ⟨by have := (k2 z).1; omega, (k2 z).2⟩⟩
              · exact ⟨c1, m1, tu1, b10 p s e w m tu q m1 tu1 c1 m1 tu1 hse h0 (by omega) hz.1 hz.2 hq hwh g1 hc, fun z => absurd z hc⟩
            · refine ⟨-5, m, tu, b8 p s e w m tu m tu hse h0 (by omega) ?_, fun z => absurd z (by decide)⟩
              cases hb : rk_a (v1 (P p) s w) with
              | false => exact Or.inl rfl
              | true =>
                cases hb2 : rk_a (v2 (P p) s w) with
                | false => exact Or.inr rfl
                | true => exact absurd ⟨hb, hb2⟩ hz
      · have : s = e := by have := hg.1; omega
        subst this
        exact ⟨0, m, tu, b0 p s w m tu, fun _ => ⟨Nat.le_refl _, htu⟩⟩
/-- a RUN of PROGRAM p with a, b: its code, what is made -/
theorem rx_run {P : Nat → pTab} {N : Nat → Nat} {held : Nat} (hw : ∀ p, p < held → pw p (P p) (N p)) {p : Nat} (hp : p < held) (a b : Int64) : ∃ c m' tu', rnB P N p 0 (N p) (sm_v0 a b) (fun _ => 0) 0 c m' tu' := by
  obtain ⟨c, m', tu', h, -⟩ := rx_all hw p hp (N p - 0) 0 (N p) 0 (fun _ => 0) (sm_v0 a b) (fun _ => 0) 0 rfl (gb_top (hw p hp)) (by omega)
  exact ⟨c, m', tu', h⟩
