variable {P : Nat → pTab} {N : Nat → Nat} {held d n : Nat} {T : Nat → Int32} {X : Nat × (Nat → Int32)} {dg fa fb : Nat → Nat} {sh : Nat → Bool} {c : Nat → Nat → Nat → Int32} {mm : Nat → Nat → Nat → Nat → Int64} {pr : Nat → Int32} {I I' : qa_I} {J J' : qa_J}
/-! read -/
theorem mK.kept (h : mK P N held dg fa fb sh c mm I J) (hI : ∀ a k, mLI a k → ¬ (a = 96 ∧ k = 1) → ¬ a = 97 → ¬ a = 126 → I' a k = I a k) (hJ : ∀ k, J' 124 k = J 124 k) : mK P N held dg fa fb sh c mm I' J' := by
  obtain ⟨b1, b2, b3⟩ := h
  have g : ∀ a k, mLI a k ∧ ¬ (a = 96 ∧ k = 1) ∧ ¬ a = 97 ∧ ¬ a = 126 → I' a k = I a k := fun a k z => hI a k z.1 z.2.1 z.2.2.1 z.2.2.2
  refine ⟨(g _ _ (by unfold mLI; omega)).trans b1, fun p hp => (b2 p hp).kept (fun a k h1 h2 => g a k (by unfold mLI; omega)), fun p hp => ?_⟩
  obtain ⟨e1, e2, e3, e4, e5⟩ := b3 p hp
  exact ⟨(g _ _ (by unfold mLI; omega)).trans e1, (g _ _ (by unfold mLI; omega)).trans e2, fun z => ⟨(g _ _ (by unfold mLI; omega)).trans (e3 z).1, (g _ _ (by unfold mLI; omega)).trans (e3 z).2⟩, fun z => ⟨(g _ _ (by unfold mLI; omega)).trans (e4 z).1, fun k i j h1 h2 h3 => (hJ _).trans ((e4 z).2 k i j h1 h2 h3)⟩, fun z => (g _ _ (by unfold mLI; omega)).trans (e5 z)⟩
/-- the held PROGRAMS of the component, whatever is read behind them -/
theorem cK.rd (hK : cK P N held dg fa fb sh c mm I J) (h8 : held ≤ 8) (f1 : qf (rcI held) I I') (j1 : qj (rdJ held) J J') : cS P N held I' J' ∧ ∀ p, p < held → I' (9 + 8 * p) 7 = nI (dg p) ∧ (sh p = false → I' (9 + 8 * p) 8 < 0) ∧ (sh p = true → cfk p (dg p) (fa p) (fb p) (c p) (mm p) I' J') := by
  refine ⟨hK.2.1.kept (fun p a k hp h1 h2 h3 => f1 a k (by unfold rcI riI; omega)) (fun p a k hp h1 h2 => j1 a k (by unfold rdJ; omega)), fun p hp => ?_⟩
  obtain ⟨a1, a2, a3⟩ := hK.2.2 p hp
  exact ⟨(f1 _ _ (by unfold rcI riI; omega)).trans a1, fun z => by rw [f1 _ _ (by unfold rcI riI; omega)]; exact a2 z, fun z => (a3 z).kept (fun k => f1 _ _ (by unfold rcI riI; omega)) (fun k => j1 _ _ (by unfold rdJ; omega))⟩
/-- a text that is refused -/
theorem LI_refused (hpl : pL P N held dg fa fb sh c mm pr) (hc : cL n T P N held dg fa fb sh c mm pr I J) {I1 I2 : qa_I} {J1 : qa_J} (hm1 : mL n T P N held dg fa fb sh c mm pr I1 J1) (f1 : qf (rcI held) I I1) (j1 : qj (rdJ held) J J1) (e1 : I1 1 1 = 0) (e11 : I1 0 11 = nI held) (f2 : qf rf_P I1 I2) (e2 : I2 96 1 = 0) : LI I2 J1 := by
  have h8 := hpl.1.1
  obtain ⟨k1, k2⟩ := hc.2.1.rd h8 f1 j1
  have hcK : cK P N held dg fa fb sh c mm I1 J1 := ⟨e11, k1, k2⟩
  have keep : ∀ a k, a < 96 → I2 a k = I1 a k := fun a k h => f2 a k (by unfold rf_P rd_P; omega)
  refine ⟨0, T, P, N, held, dg, fa, fb, sh, c, mm, pr, hpl, ⟨⟨by omega, ?_, fun j hj => absurd hj (by omega)⟩, ?_, fun k hk => ?_⟩, ⟨⟨?_, fun j hj => absurd hj (by omega)⟩, ?_, fun k hk => ?_⟩⟩
  · rw [keep _ _ (by omega), e1]; rfl
  · exact hcK.kept h8 (keep _ _ (by omega)) (fun a k _ h2 => keep _ _ (by omega)) (fun _ _ _ _ => rfl)
  · rw [j1 _ _ (by unfold rdJ; omega)]; exact hc.2.2 k hk
  · rw [e2]; rfl
  · exact hm1.2.1.kept (fun a k z h1 h2 h3 => f2 a k (by unfold mLI at z; unfold rf_P rd_P; omega)) (fun _ => rfl)
  · rw [f2 _ _ (by unfold rf_P rd_P; omega)]; exact hm1.2.2 k hk
theorem deg_bd {degs : Nat → Nat} {t : pTab} {many held : Nat} (hd : ∀ p, p < held → degs p ≤ 5 + 4 * p) (hw : ∀ s, s < many → t.2.2.1 s ≤ 4 ∧ (t.1 s = 3 → ∃ k, k < held ∧ t.2.1 s = nI k)) (h8 : held ≤ 8) : sp_degree degs t many ≤ 5 + 4 * held := by
  have := sp_dg_le (ty := t.1) (dp := t.2.2.1) (pw := fun s => (t.2.1 s).toNatClampNeg) (degs := degs) (m := many) (B := 4 * held + 1) (fun s hs => ⟨(hw s hs).1, fun h3 => ?_⟩) (by omega) many (Nat.le_refl _)
  · unfold sp_degree
    omega
  · obtain ⟨k, hk1, hk2⟩ := (hw s hs).2 h3
    rw [hk2, nI_clamp (by omega)]
    have := hd k hk1
    omega
theorem LI_read (hpl : pL P N held dg fa fb sh c mm pr) (hc : cL n T P N held dg fa fb sh c mm pr I J) {I1 I2 : qa_I} {J1 : qa_J} (hm1 : mL n T P N held dg fa fb sh c mm pr I1 J1) (f1 : qf (rcI held) I I1) (j1 : qj (rdJ held) J J1) (e1 : I1 1 1 = 0) {t : pTab} {many : Nat} (hlt : held < 8) (h40 : many ≤ 40) (wa : pwa t many) (wb : pb t many) (wp : pw held t many) (hwf : ∀ s, s < many → t.2.2.1 s ≤ 4 ∧ (t.1 s = 3 → ∃ k, k < held ∧ t.2.1 s = nI k)) (e11 : I1 0 11 = nI (held + 1)) (hP : cprog held t many I1 J1) (h7 : I1 (9 + 8 * held) 7 = nI (sp_degree dg t many)) (h8' : I1 (9 + 8 * held) 8 = -2) (f2 : qf (rs_P held) I1 I2) (e2 : I2 96 1 = 0) (m8 : I2 96 8 = nI (held + 1)) (mp : mprog held t many I2) (m110 : I2 110 held = nI (sp_degree dg t many)) (m119 : I2 119 held = 0) (m122 : I2 122 held = 0) : LI I2 J1 := by
  have h8 := hpl.1.1
  obtain ⟨k1, k2⟩ := hc.2.1.rd h8 f1 j1
  have hdb := deg_bd hpl.2.1 hwf h8
  have keep : ∀ a k, a < 96 → I2 a k = I1 a k := fun a k h => f2 a k (by unfold rs_P rf_P rd_P cp_P; omega)
  have same : ∀ p, p < held → ∀ q, q ≤ p → P q = va_up P held t q ∧ N q = va_up N held many q := fun p hp q hq => ⟨(up_ne (by omega)).symm, (up_ne (by omega)).symm⟩
  refine ⟨0, T, va_up P held t, va_up N held many, held + 1, va_up dg held (sp_degree dg t many), fa, fb, va_up sh held false, c, mm, pr, ⟨⟨by omega, fun p hp => ?_⟩, fun p hp => ?_, hpl.2.2⟩, ⟨⟨by omega, ?_, fun j hj => absurd hj (by omega)⟩, ⟨?_, fun p hp => ?_, fun p hp => ?_⟩, fun k hk => ?_⟩, ⟨⟨?_, fun j hj => absurd hj (by omega)⟩, ⟨m8, fun p hp => ?_, fun p hp => ?_⟩, fun k hk => ?_⟩⟩
  · by_cases hz : p = held
    · subst hz
      rw [up_at, up_at, up_at, up_at]
      exact ⟨wp, wa, wb, by omega, fun z => by cases z⟩
    · obtain ⟨a1, a2, a3, a4, a5⟩ := hpl.1.2 p (by omega)
      rw [up_ne hz, up_ne hz, up_ne hz, up_ne hz]
      refine ⟨a1, a2, a3, a4, fun z => ?_⟩
      obtain ⟨b1, b2, b3, b4⟩ := a5 z
      exact ⟨b1, b2, b3, b4.same (same p (by omega))⟩
  · by_cases hz : p = held
    · subst hz
      rw [up_at]; exact hdb
    · rw [up_ne hz]; exact hpl.2.1 p (by omega)
  · rw [keep _ _ (by omega), e1]; rfl
  · rw [keep _ _ (by omega)]; exact e11
  · by_cases hz : p = held
    · subst hz
      rw [up_at, up_at]
      exact hP.kept (fun a k h1 h2 _ => keep _ _ (by omega)) (fun _ _ _ _ => rfl)
    · rw [up_ne hz, up_ne hz]
      exact (k1 p (by omega)).kept (fun a k h1 h2 _ => keep _ _ (by omega)) (fun _ _ _ _ => rfl)
  · by_cases hz : p = held
    · subst hz
      rw [up_at, up_at]
      refine ⟨by rw [keep _ _ (by omega)]; exact h7, fun _ => ?_, fun z => by cases z⟩
      rw [keep _ _ (by omega), h8']
      decide
    · obtain ⟨a1, a2, a3⟩ := k2 p (by omega)
      rw [up_ne hz, up_ne hz]
      exact ⟨by rw [keep _ _ (by omega)]; exact a1, fun z => by rw [keep _ _ (by omega)]; exact a2 z, fun z => (a3 z).kept (fun k => keep _ _ (by omega)) (fun _ => rfl)⟩
  · rw [j1 _ _ (by unfold rdJ; omega)]; exact hc.2.2 k hk
  · rw [e2]; rfl
  · by_cases hz : p = held
    · subst hz
      rw [up_at, up_at]; exact mp
    · rw [up_ne hz, up_ne hz]
      have hN := (hpl.1.w p (by omega)).1
      obtain ⟨g1, g2⟩ := hm1.2.1.2.1 p (by omega)
      refine ⟨by rw [f2 _ _ (by unfold rs_P rf_P rd_P cp_P; omega)]; exact g1, fun s hs => ?_⟩
      obtain ⟨b1, b2, b3, b4, b5, b6⟩ := g2 s hs
      exact ⟨by rw [f2 _ _ (by unfold rs_P rf_P rd_P cp_P; omega)]; exact b1, by rw [f2 _ _ (by unfold rs_P rf_P rd_P cp_P; omega)]; exact b2, by rw [f2 _ _ (by unfold rs_P rf_P rd_P cp_P; omega)]; exact b3, by rw [f2 _ _ (by unfold rs_P rf_P rd_P cp_P; omega)]; exact b4, fun z j hj => by rw [f2 _ _ (by unfold rs_P rf_P rd_P cp_P; omega)]; exact b5 z j hj, fun z j hj => by rw [f2 _ _ (by unfold rs_P rf_P rd_P cp_P; omega)]; exact b6 z j hj⟩
  · by_cases hz : p = held
    · subst hz
      rw [up_at, up_at]
      refine ⟨m110, m119, fun z => (by cases z), fun z => ?_, fun _ => m122⟩
      have := z.1
      rw [up_at] at this
      cases this
    · obtain ⟨b1, b2, b3, b4, b5⟩ := hm1.2.1.2.2 p (by omega)
      have hiff : hasF (va_up dg held (sp_degree dg t many)) (va_up sh held false) c p ↔ hasF dg sh c p := by unfold hasF; rw [up_ne hz, up_ne hz]
      rw [up_ne hz, up_ne hz, hiff]
      exact ⟨by rw [f2 _ _ (by unfold rs_P rf_P rd_P cp_P; omega)]; exact b1, by rw [f2 _ _ (by unfold rs_P rf_P rd_P cp_P; omega)]; exact b2, fun z => ⟨by rw [f2 _ _ (by unfold rs_P rf_P rd_P cp_P; omega)]; exact (b3 z).1, by rw [f2 _ _ (by unfold rs_P rf_P rd_P cp_P; omega)]; exact (b3 z).2⟩, fun z => ⟨by rw [f2 _ _ (by unfold rs_P rf_P rd_P cp_P; omega)]; exact (b4 z).1, (b4 z).2⟩, fun z => by rw [f2 _ _ (by unfold rs_P rf_P rd_P cp_P; omega)]; exact b5 z⟩
  · rw [f2 _ _ (by unfold rs_P rf_P rd_P cp_P; omega)]; exact hm1.2.2 k hk
theorem pr_read (hpl : pL P N held dg fa fb sh c mm pr) (hc : cL n T P N held dg fa fb sh c mm pr I J) (hm : mL n T P N held dg fa fb sh c mm pr I J) : pair (d + 90) mX8_read mX9_read [] X I J Wi := by
  have h8 := hpl.1.1
  have hn := hc.1.1
  intro t1 t2
  refine ⟨_, c_read (d := d + 83) h8 hc.2.1.1 hc.1 (degs := dg) (fun k hk => ⟨(hc.2.1.2.2 k hk).1, (hpl.1.2 k hk).2.2.2.1⟩), ?_⟩
  rintro r g1 I1 J1 R1 ⟨rfl, rfl, f1, j1, e1, hA⟩
  have hs : Wi r r := by
    split at hA
    · exact ⟨_, hA.1, hA.1⟩
    · split at hA
      · exact ⟨_, hA.1, hA.1⟩
      · exact ⟨_, hA.1, hA.1⟩
  refine ⟨rfl, hs, 9 + 8 * held, t2, rfl, ?_⟩
  have hm1 : mL n T P N held dg fa fb sh c mm pr I1 J1 := hm.kept (fun a k z => f1 a k (by unfold mLI at z; unfold rcI riI; omega)) (fun k => j1 _ _ (by unfold rdJ; omega))
  have hwf := text_wf (T := T) (n := n) (p := held) (by omega)
  refine ⟨_, k_read (d := d + 84) hn hm1.1.1 hm1.1.2 hm1.2.1.1 h8 dg (fun k hk => ⟨(hm1.2.1.2.2 k hk).1, (hpl.1.2 k hk).2.2.2.1⟩) (fun hw => (hwf hw).2.2.2), ?_⟩
  rintro r2 g2 I2 J2 R2 ⟨rfl, rfl, rfl, e2, hB⟩
  generalize sp_text T n held = R at hA hB hwf
  obtain ⟨w, q, many, t⟩ := R
  dsimp only at hA hB hwf
  refine ⟨rfl, ⟨_, _, rfl⟩, ?_⟩
  cases w with
  | true =>
    rw [if_pos rfl] at hA hB
    obtain ⟨rfl, e11⟩ := hA
    obtain ⟨rfl, f2⟩ := hB
    exact ⟨LI_refused hpl hc hm1 f1 j1 e1 e11 f2 e2, _, rfl, rfl⟩
  | false =>
    rw [if_neg (by decide)] at hA hB
    obtain ⟨wa, wb, wp, wf⟩ := hwf rfl
    by_cases hf : held = 8 ∨ 40 < many
    · rw [if_pos hf] at hA hB
      obtain ⟨rfl, e11⟩ := hA
      obtain ⟨rfl, f2⟩ := hB
      exact ⟨LI_refused hpl hc hm1 f1 j1 e1 e11 f2 e2, _, rfl, rfl⟩
    · rw [if_neg hf] at hA hB
      obtain ⟨rfl, e11, hP, h7, h8'⟩ := hA
      obtain ⟨rfl, f2, m8, mp, m110, m119, m122⟩ := hB
      exact ⟨LI_read hpl hc hm1 f1 j1 e1 (by omega) (by omega) wa wb (wp (by omega)) wf e11 hP h7 h8' f2 e2 m8 mp m110 m119 m122, _, rfl, rfl⟩
