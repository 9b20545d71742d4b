/-- the cells behind both constructors: 0 .. 95 the class (9 + 8 p: PROGRAM p), 96 .. 126 the reference -/
def qk_lyl : List (Nat ⊕ (Nat × Nat)) := [.inl 7, .inl 5, .inr (0, 256), .inr (3, 9), .inr (1, 4), .inr (1, 36), .inr (1, 36), .inr (1, 36), .inr (1, 36), .inl 1, .inr (0, 40), .inr (0, 40), .inr (0, 40), .inr (0, 40), .inr (1, 280), .inr (1, 280), .inr (1, 144), .inl 1, .inr (0, 40), .inr (0, 40), .inr (0, 40), .inr (0, 40), .inr (1, 280), .inr (1, 280), .inr (1, 144), .inl 1, .inr (0, 40), .inr (0, 40), .inr (0, 40), .inr (0, 40), .inr (1, 280), .inr (1, 280), .inr (1, 144), .inl 1, .inr (0, 40), .inr (0, 40), .inr (0, 40), .inr (0, 40), .inr (1, 280), .inr (1, 280), .inr (1, 144), .inl 1, .inr (0, 40), .inr (0, 40), .inr (0, 40), .inr (0, 40), .inr (1, 280), .inr (1, 280), .inr (1, 144), .inl 1, .inr (0, 40), .inr (0, 40), .inr (0, 40), .inr (0, 40), .inr (1, 280), .inr (1, 280), .inr (1, 144), .inl 1, .inr (0, 40), .inr (0, 40), .inr (0, 40), .inr (0, 40), .inr (1, 280), .inr (1, 280), .inr (1, 144), .inl 1, .inr (0, 40), .inr (0, 40), .inr (0, 40), .inr (0, 40), .inr (1, 280), .inr (1, 280), .inr (1, 144), .inl 1, .inr (0, 40), .inr (0, 40), .inr (0, 40), .inr (0, 40), .inr (1, 280), .inr (1, 280), .inr (1, 144), .inl 3, .inr (0, 4), .inr (0, 4), .inl 6, .inr (0, 257), .inr (0, 257), .inr (0, 257), .inl 4, .inr (1, 4), .inr (1, 56), .inl 2, .inr (1, 7), .inr (0, 4), .inl 0, .inr (1, 144), .inl 8, .inr (0, 256), .inr (0, 8), .inr (0, 320), .inr (0, 320), .inr (0, 320), .inr (0, 320), .inr (0, 5120), .inr (0, 4), .inr (0, 130), .inr (0, 130), .inr (0, 130), .inr (0, 130), .inr (0, 2080), .inr (0, 8), .inr (0, 8), .inr (0, 8), .inr (1, 56), .inr (0, 8), .inr (0, 32), .inr (1, 32), .inr (1, 32), .inr (1, 4), .inr (2, 8), .inr (0, 8), .inr (0, 8), .inr (2, 8), .inr (1, 8), .inr (1, 1152), .inr (1, 144), .inr (0, 4)]
def qk_ly : qa_L := fun a => qk_lyl.getD a (.inr (9, 0))
def qk_g (X : Nat × (Nat → Int32)) : qa_G := (127, 20173, qk_ly, X)
/-- its references; t1: the text of the reader, t2: that of the prover -/
def qk_R (t1 t2 : Nat) : qa_R := fun a k => match a with
  | 0 => match k with | 0 => some 1 | 1 => some 3 | 2 => some 81 | 3 => some 88 | 4 => some 91 | 5 => some 94 | 6 => some 4 | 7 => some 5 | 8 => some 6 | 9 => some 7 | 10 => some 8 | _ => none
  | 1 => match k with | 0 => some 2 | _ => none
  | 81 => match k with | 0 => some 84 | 1 => some 3 | 2 => some 82 | 3 => some 83 | 7 => some t1 | _ => none
  | 84 => match k with | 0 => some 1 | 1 => some 85 | 2 => some 86 | 3 => some 87 | _ => none
  | 88 => match k with | 0 => some 3 | 1 => some 89 | 2 => some 90 | _ => none
  | 91 => match k with | 0 => some 3 | 1 => some 92 | 2 => some 93 | 3 => some t2 | _ => none
  | 94 => match k with | 0 => some 3 | 1 => some 88 | 2 => some 95 | _ => none
  | 96 => match k with | 0 => some 97 | 9 => some 98 | 10 => some 99 | 11 => some 100 | 12 => some 101 | 13 => some 102 | 14 => some 103 | 15 => some 104 | 18 => some 105 | 19 => some 106 | 20 => some 107 | 21 => some 108 | 22 => some 109 | 23 => some 110 | 24 => some 111 | 25 => some 112 | 26 => some 113 | 27 => some 114 | 28 => some 115 | 29 => some 116 | 30 => some 117 | 31 => some 118 | 35 => some 119 | 36 => some 120 | 37 => some 121 | 38 => some 122 | 39 => some 123 | 40 => some 124 | 41 => some 125 | 43 => some 126 | _ => none
  | 3 => if k < 9 then some (9 + 8 * k) else none
  | a => if 9 ≤ a ∧ a < 81 ∧ (a - 9) % 8 = 0 then (match k with | 1 => some (a + 1) | 2 => some (a + 2) | 3 => some (a + 3) | 4 => some (a + 4) | 5 => some (a + 5) | 6 => some (a + 6) | 11 => some (a + 7) | _ => none) else none
theorem y_0 : qk_ly 0 = .inl 7 := rfl
theorem y_1 : qk_ly 1 = .inl 5 := rfl
theorem y_2 : qk_ly 2 = .inr (0, 256) := rfl
theorem y_3 : qk_ly 3 = .inr (3, 9) := rfl
theorem y_4 : qk_ly 4 = .inr (1, 4) := rfl
theorem y_5 : qk_ly 5 = .inr (1, 36) := rfl
theorem y_6 : qk_ly 6 = .inr (1, 36) := rfl
theorem y_7 : qk_ly 7 = .inr (1, 36) := rfl
theorem y_8 : qk_ly 8 = .inr (1, 36) := rfl
theorem y_81 : qk_ly 81 = .inl 3 := rfl
theorem y_82 : qk_ly 82 = .inr (0, 4) := rfl
theorem y_83 : qk_ly 83 = .inr (0, 4) := rfl
theorem y_84 : qk_ly 84 = .inl 6 := rfl
theorem y_85 : qk_ly 85 = .inr (0, 257) := rfl
theorem y_86 : qk_ly 86 = .inr (0, 257) := rfl
theorem y_87 : qk_ly 87 = .inr (0, 257) := rfl
theorem y_88 : qk_ly 88 = .inl 4 := rfl
theorem y_89 : qk_ly 89 = .inr (1, 4) := rfl
theorem y_90 : qk_ly 90 = .inr (1, 56) := rfl
theorem y_91 : qk_ly 91 = .inl 2 := rfl
theorem y_92 : qk_ly 92 = .inr (1, 7) := rfl
theorem y_93 : qk_ly 93 = .inr (0, 4) := rfl
theorem y_94 : qk_ly 94 = .inl 0 := rfl
theorem y_95 : qk_ly 95 = .inr (1, 144) := rfl
theorem y_96 : qk_ly 96 = .inl 8 := rfl
theorem y_97 : qk_ly 97 = .inr (0, 256) := rfl
theorem y_98 : qk_ly 98 = .inr (0, 8) := rfl
theorem y_99 : qk_ly 99 = .inr (0, 320) := rfl
theorem y_100 : qk_ly 100 = .inr (0, 320) := rfl
theorem y_101 : qk_ly 101 = .inr (0, 320) := rfl
theorem y_102 : qk_ly 102 = .inr (0, 320) := rfl
theorem y_103 : qk_ly 103 = .inr (0, 5120) := rfl
theorem y_104 : qk_ly 104 = .inr (0, 4) := rfl
theorem y_105 : qk_ly 105 = .inr (0, 130) := rfl
theorem y_106 : qk_ly 106 = .inr (0, 130) := rfl
theorem y_107 : qk_ly 107 = .inr (0, 130) := rfl
theorem y_108 : qk_ly 108 = .inr (0, 130) := rfl
theorem y_109 : qk_ly 109 = .inr (0, 2080) := rfl
theorem y_110 : qk_ly 110 = .inr (0, 8) := rfl
theorem y_111 : qk_ly 111 = .inr (0, 8) := rfl
theorem y_112 : qk_ly 112 = .inr (0, 8) := rfl
theorem y_113 : qk_ly 113 = .inr (1, 56) := rfl
theorem y_114 : qk_ly 114 = .inr (0, 8) := rfl
theorem y_115 : qk_ly 115 = .inr (0, 32) := rfl
theorem y_116 : qk_ly 116 = .inr (1, 32) := rfl
theorem y_117 : qk_ly 117 = .inr (1, 32) := rfl
theorem y_118 : qk_ly 118 = .inr (1, 4) := rfl
theorem y_119 : qk_ly 119 = .inr (2, 8) := rfl
theorem y_120 : qk_ly 120 = .inr (0, 8) := rfl
theorem y_121 : qk_ly 121 = .inr (0, 8) := rfl
theorem y_122 : qk_ly 122 = .inr (2, 8) := rfl
theorem y_123 : qk_ly 123 = .inr (1, 8) := rfl
theorem y_124 : qk_ly 124 = .inr (1, 1152) := rfl
theorem y_125 : qk_ly 125 = .inr (1, 144) := rfl
theorem y_126 : qk_ly 126 = .inr (0, 4) := rfl
theorem r_0_0 {t1 t2 : Nat} : qk_R t1 t2 0 0 = some 1 := rfl
theorem r_0_1 {t1 t2 : Nat} : qk_R t1 t2 0 1 = some 3 := rfl
theorem r_0_2 {t1 t2 : Nat} : qk_R t1 t2 0 2 = some 81 := rfl
theorem r_0_3 {t1 t2 : Nat} : qk_R t1 t2 0 3 = some 88 := rfl
theorem r_0_4 {t1 t2 : Nat} : qk_R t1 t2 0 4 = some 91 := rfl
theorem r_0_5 {t1 t2 : Nat} : qk_R t1 t2 0 5 = some 94 := rfl
theorem r_0_6 {t1 t2 : Nat} : qk_R t1 t2 0 6 = some 4 := rfl
theorem r_0_7 {t1 t2 : Nat} : qk_R t1 t2 0 7 = some 5 := rfl
theorem r_0_8 {t1 t2 : Nat} : qk_R t1 t2 0 8 = some 6 := rfl
theorem r_0_9 {t1 t2 : Nat} : qk_R t1 t2 0 9 = some 7 := rfl
theorem r_0_10 {t1 t2 : Nat} : qk_R t1 t2 0 10 = some 8 := rfl
theorem r_1_0 {t1 t2 : Nat} : qk_R t1 t2 1 0 = some 2 := rfl
theorem r_81_0 {t1 t2 : Nat} : qk_R t1 t2 81 0 = some 84 := rfl
theorem r_81_1 {t1 t2 : Nat} : qk_R t1 t2 81 1 = some 3 := rfl
theorem r_81_2 {t1 t2 : Nat} : qk_R t1 t2 81 2 = some 82 := rfl
theorem r_81_3 {t1 t2 : Nat} : qk_R t1 t2 81 3 = some 83 := rfl
theorem r_84_0 {t1 t2 : Nat} : qk_R t1 t2 84 0 = some 1 := rfl
theorem r_84_1 {t1 t2 : Nat} : qk_R t1 t2 84 1 = some 85 := rfl
theorem r_84_2 {t1 t2 : Nat} : qk_R t1 t2 84 2 = some 86 := rfl
theorem r_84_3 {t1 t2 : Nat} : qk_R t1 t2 84 3 = some 87 := rfl
theorem r_88_0 {t1 t2 : Nat} : qk_R t1 t2 88 0 = some 3 := rfl
theorem r_88_1 {t1 t2 : Nat} : qk_R t1 t2 88 1 = some 89 := rfl
theorem r_88_2 {t1 t2 : Nat} : qk_R t1 t2 88 2 = some 90 := rfl
theorem r_91_0 {t1 t2 : Nat} : qk_R t1 t2 91 0 = some 3 := rfl
theorem r_91_1 {t1 t2 : Nat} : qk_R t1 t2 91 1 = some 92 := rfl
theorem r_91_2 {t1 t2 : Nat} : qk_R t1 t2 91 2 = some 93 := rfl
theorem r_94_0 {t1 t2 : Nat} : qk_R t1 t2 94 0 = some 3 := rfl
theorem r_94_1 {t1 t2 : Nat} : qk_R t1 t2 94 1 = some 88 := rfl
theorem r_94_2 {t1 t2 : Nat} : qk_R t1 t2 94 2 = some 95 := rfl
theorem r_96_0 {t1 t2 : Nat} : qk_R t1 t2 96 0 = some 97 := rfl
theorem r_96_9 {t1 t2 : Nat} : qk_R t1 t2 96 9 = some 98 := rfl
theorem r_96_10 {t1 t2 : Nat} : qk_R t1 t2 96 10 = some 99 := rfl
theorem r_96_11 {t1 t2 : Nat} : qk_R t1 t2 96 11 = some 100 := rfl
theorem r_96_12 {t1 t2 : Nat} : qk_R t1 t2 96 12 = some 101 := rfl
theorem r_96_13 {t1 t2 : Nat} : qk_R t1 t2 96 13 = some 102 := rfl
theorem r_96_14 {t1 t2 : Nat} : qk_R t1 t2 96 14 = some 103 := rfl
theorem r_96_15 {t1 t2 : Nat} : qk_R t1 t2 96 15 = some 104 := rfl
theorem r_96_18 {t1 t2 : Nat} : qk_R t1 t2 96 18 = some 105 := rfl
theorem r_96_19 {t1 t2 : Nat} : qk_R t1 t2 96 19 = some 106 := rfl
theorem r_96_20 {t1 t2 : Nat} : qk_R t1 t2 96 20 = some 107 := rfl
theorem r_96_21 {t1 t2 : Nat} : qk_R t1 t2 96 21 = some 108 := rfl
theorem r_96_22 {t1 t2 : Nat} : qk_R t1 t2 96 22 = some 109 := rfl
theorem r_96_23 {t1 t2 : Nat} : qk_R t1 t2 96 23 = some 110 := rfl
theorem r_96_24 {t1 t2 : Nat} : qk_R t1 t2 96 24 = some 111 := rfl
theorem r_96_25 {t1 t2 : Nat} : qk_R t1 t2 96 25 = some 112 := rfl
theorem r_96_26 {t1 t2 : Nat} : qk_R t1 t2 96 26 = some 113 := rfl
theorem r_96_27 {t1 t2 : Nat} : qk_R t1 t2 96 27 = some 114 := rfl
theorem r_96_28 {t1 t2 : Nat} : qk_R t1 t2 96 28 = some 115 := rfl
theorem r_96_29 {t1 t2 : Nat} : qk_R t1 t2 96 29 = some 116 := rfl
theorem r_96_30 {t1 t2 : Nat} : qk_R t1 t2 96 30 = some 117 := rfl
theorem r_96_31 {t1 t2 : Nat} : qk_R t1 t2 96 31 = some 118 := rfl
theorem r_96_35 {t1 t2 : Nat} : qk_R t1 t2 96 35 = some 119 := rfl
theorem r_96_36 {t1 t2 : Nat} : qk_R t1 t2 96 36 = some 120 := rfl
theorem r_96_37 {t1 t2 : Nat} : qk_R t1 t2 96 37 = some 121 := rfl
theorem r_96_38 {t1 t2 : Nat} : qk_R t1 t2 96 38 = some 122 := rfl
theorem r_96_39 {t1 t2 : Nat} : qk_R t1 t2 96 39 = some 123 := rfl
theorem r_96_40 {t1 t2 : Nat} : qk_R t1 t2 96 40 = some 124 := rfl
theorem r_96_41 {t1 t2 : Nat} : qk_R t1 t2 96 41 = some 125 := rfl
theorem r_96_43 {t1 t2 : Nat} : qk_R t1 t2 96 43 = some 126 := rfl
theorem r_81_7 {t1 t2 : Nat} : qk_R t1 t2 81 7 = some t1 := rfl
theorem r_91_3 {t1 t2 : Nat} : qk_R t1 t2 91 3 = some t2 := rfl
theorem y_p {p : Nat} (h : p < 9) : qk_ly (9 + 8 * p) = .inl 1 ∧ qk_ly (9 + 8 * p + 1) = .inr (0, 40) ∧ qk_ly (9 + 8 * p + 2) = .inr (0, 40) ∧ qk_ly (9 + 8 * p + 3) = .inr (0, 40) ∧ qk_ly (9 + 8 * p + 4) = .inr (0, 40) ∧ qk_ly (9 + 8 * p + 5) = .inr (1, 280) ∧ qk_ly (9 + 8 * p + 6) = .inr (1, 280) ∧ qk_ly (9 + 8 * p + 7) = .inr (1, 144) := by
  match p, h with
  | 0, _ => exact ⟨rfl, rfl, rfl, rfl, rfl, rfl, rfl, rfl⟩
  | 1, _ => exact ⟨rfl, rfl, rfl, rfl, rfl, rfl, rfl, rfl⟩
  | 2, _ => exact ⟨rfl, rfl, rfl, rfl, rfl, rfl, rfl, rfl⟩
  | 3, _ => exact ⟨rfl, rfl, rfl, rfl, rfl, rfl, rfl, rfl⟩
  | 4, _ => exact ⟨rfl, rfl, rfl, rfl, rfl, rfl, rfl, rfl⟩
  | 5, _ => exact ⟨rfl, rfl, rfl, rfl, rfl, rfl, rfl, rfl⟩
  | 6, _ => exact ⟨rfl, rfl, rfl, rfl, rfl, rfl, rfl, rfl⟩
  | 7, _ => exact ⟨rfl, rfl, rfl, rfl, rfl, rfl, rfl, rfl⟩
  | 8, _ => exact ⟨rfl, rfl, rfl, rfl, rfl, rfl, rfl, rfl⟩
  | n + 9, h => omega
theorem r_pr {p t1 t2 : Nat} (h : p < 9) : qk_R t1 t2 3 p = some (9 + 8 * p) := if_pos h
theorem r_p {p t1 t2 : Nat} (h : p < 9) : qk_R t1 t2 (9 + 8 * p) 1 = some (9 + 8 * p + 1) ∧ qk_R t1 t2 (9 + 8 * p) 2 = some (9 + 8 * p + 2) ∧ qk_R t1 t2 (9 + 8 * p) 3 = some (9 + 8 * p + 3) ∧ qk_R t1 t2 (9 + 8 * p) 4 = some (9 + 8 * p + 4) ∧ qk_R t1 t2 (9 + 8 * p) 5 = some (9 + 8 * p + 5) ∧ qk_R t1 t2 (9 + 8 * p) 6 = some (9 + 8 * p + 6) ∧ qk_R t1 t2 (9 + 8 * p) 11 = some (9 + 8 * p + 7) := by
  match p, h with
  | 0, _ => exact ⟨rfl, rfl, rfl, rfl, rfl, rfl, rfl⟩
  | 1, _ => exact ⟨rfl, rfl, rfl, rfl, rfl, rfl, rfl⟩
  | 2, _ => exact ⟨rfl, rfl, rfl, rfl, rfl, rfl, rfl⟩
  | 3, _ => exact ⟨rfl, rfl, rfl, rfl, rfl, rfl, rfl⟩
  | 4, _ => exact ⟨rfl, rfl, rfl, rfl, rfl, rfl, rfl⟩
  | 5, _ => exact ⟨rfl, rfl, rfl, rfl, rfl, rfl, rfl⟩
  | 6, _ => exact ⟨rfl, rfl, rfl, rfl, rfl, rfl, rfl⟩
  | 7, _ => exact ⟨rfl, rfl, rfl, rfl, rfl, rfl, rfl⟩
  | 8, _ => exact ⟨rfl, rfl, rfl, rfl, rfl, rfl, rfl⟩
  | n + 9, h => omega
theorem qk_n {X : Nat × (Nat → Int32)} : (qk_g X).1 = 127 := rfl
theorem qk_w {X : Nat × (Nat → Int32)} : (qk_g X).2.1 = 20173 := rfl
theorem qk_y {X : Nat × (Nat → Int32)} : (qk_g X).2.2.1 = qk_ly := rfl
theorem qk_x {X : Nat × (Nat → Int32)} : (qk_g X).2.2.2 = X := rfl
theorem qk_len {X : Nat × (Nat → Int32)} {kd a : Nat} : qa_len (qk_g X) kd a = match qk_ly a with | .inr (k, n) => if k = kd then n else 0 | _ => 0 := rfl
theorem qk_in {i : Int32} {n j : Nat} (h : i = nI j) (hj : j < n) (hn : n < 2 ^ 31) : vp_in i n := by rw [h]; exact vp_in_nI hj hn
theorem qa_u_at {α : Type} (f : Nat → Nat → α) (a k : Nat) (v : α) : qa_u f a k v a k = v := by simp [qa_u]
theorem qa_u_nk {α : Type} (f : Nat → Nat → α) (a k : Nat) (v : α) {j : Nat} (h : j ≠ k) : qa_u f a k v a j = f a j := by simp [qa_u, h]
/-- an end with this answer and these cells -/
def qk_E (r0 : Option Value) (X : Nat × (Nat → Int32)) (I : qa_I) (J : qa_J) (t1 t2 : Nat) : qa_Q := fun r g' I' J' R' => r0 = r ∧ qk_g X = g' ∧ I = I' ∧ J = J' ∧ qk_R t1 t2 = R'
abbrev qk_b : Nat × Nat := (127, 20173)
