theorem rtv_0_0 : rt 0 0 = 1 := by decide +kernel
theorem rtv_0_1 : rt 0 1 = 14 := by decide +kernel
theorem rtv_0_3 : rt 0 3 = 27 := by decide +kernel
theorem rtv_0_4 : rt 0 4 = 48 := by decide +kernel
theorem rtv_0_6 : rt 0 6 = 69 := by decide +kernel
theorem rtv_0_7 : rt 0 7 = 70 := by decide +kernel
theorem rtv_0_8 : rt 0 8 = 71 := by decide +kernel
theorem rtv_0_9 : rt 0 9 = 72 := by decide +kernel
theorem rtv_0_10 : rt 0 10 = 73 := by decide +kernel
theorem rtv_0_11 : rt 0 11 = 86 := by decide +kernel
theorem rtv_0_12 : rt 0 12 = 87 := by decide +kernel
theorem rtv_0_15 : rt 0 15 = 174 := by decide +kernel
theorem rtv_0_16 : rt 0 16 = 177 := by decide +kernel
theorem rtv_0_17 : rt 0 17 = 180 := by decide +kernel
theorem rtv_1_0 : rt 1 0 = 2 := by decide +kernel
theorem rtv_1_1 : rt 1 1 = 4 := by decide +kernel
theorem rtv_1_2 : rt 1 2 = 6 := by decide +kernel
theorem rtv_1_3 : rt 1 3 = 8 := by decide +kernel
theorem rtv_2_0 : rt 2 0 = 3 := by decide +kernel
theorem rtv_4_0 : rt 4 0 = 5 := by decide +kernel
theorem rtv_6_0 : rt 6 0 = 7 := by decide +kernel
theorem rtv_14_0 : rt 14 0 = 15 := by decide +kernel
theorem rtv_14_1 : rt 14 1 = 17 := by decide +kernel
theorem rtv_14_2 : rt 14 2 = 19 := by decide +kernel
theorem rtv_14_3 : rt 14 3 = 21 := by decide +kernel
theorem rtv_15_0 : rt 15 0 = 16 := by decide +kernel
theorem rtv_17_0 : rt 17 0 = 18 := by decide +kernel
theorem rtv_19_0 : rt 19 0 = 20 := by decide +kernel
theorem rtv_27_1 : rt 27 1 = 28 := by decide +kernel
theorem rtv_27_2 : rt 27 2 = 29 := by decide +kernel
theorem rtv_27_3 : rt 27 3 = 30 := by decide +kernel
theorem rtv_27_4 : rt 27 4 = 31 := by decide +kernel
theorem rtv_27_5 : rt 27 5 = 32 := by decide +kernel
theorem rtv_27_6 : rt 27 6 = 33 := by decide +kernel
theorem rtv_27_7 : rt 27 7 = 34 := by decide +kernel
theorem rtv_27_8 : rt 27 8 = 40 := by decide +kernel
theorem rtv_27_9 : rt 27 9 = 46 := by decide +kernel
theorem rtv_27_10 : rt 27 10 = 47 := by decide +kernel
theorem rtv_48_1 : rt 48 1 = 49 := by decide +kernel
theorem rtv_48_2 : rt 48 2 = 50 := by decide +kernel
theorem rtv_48_3 : rt 48 3 = 51 := by decide +kernel
theorem rtv_48_4 : rt 48 4 = 52 := by decide +kernel
theorem rtv_48_5 : rt 48 5 = 53 := by decide +kernel
theorem rtv_48_6 : rt 48 6 = 54 := by decide +kernel
theorem rtv_48_7 : rt 48 7 = 55 := by decide +kernel
theorem rtv_48_8 : rt 48 8 = 61 := by decide +kernel
theorem rtv_48_9 : rt 48 9 = 67 := by decide +kernel
theorem rtv_48_10 : rt 48 10 = 68 := by decide +kernel
theorem rtv_73_0 : rt 73 0 = 74 := by decide +kernel
theorem rtv_73_1 : rt 73 1 = 75 := by decide +kernel
theorem rtv_73_2 : rt 73 2 = 76 := by decide +kernel
theorem rtv_73_3 : rt 73 3 = 77 := by decide +kernel
theorem rtv_73_4 : rt 73 4 = 78 := by decide +kernel
theorem rtv_73_5 : rt 73 5 = 79 := by decide +kernel
theorem rtv_73_6 : rt 73 6 = 80 := by decide +kernel
theorem rtv_87_0 : rt 87 0 = 88 := by decide +kernel
theorem rtv_87_1 : rt 87 1 = 96 := by decide +kernel
theorem rtv_87_3 : rt 87 3 = 97 := by decide +kernel
theorem rtv_87_5 : rt 87 5 = 98 := by decide +kernel
theorem rtv_87_6 : rt 87 6 = 99 := by decide +kernel
theorem rtv_87_7 : rt 87 7 = 100 := by decide +kernel
theorem rtv_87_8 : rt 87 8 = 101 := by decide +kernel
theorem rtv_88_1 : rt 88 1 = 89 := by decide +kernel
theorem rtv_88_2 : rt 88 2 = 90 := by decide +kernel
theorem rtv_102_1 : rt 102 1 = 103 := by decide +kernel
theorem rtv_102_2 : rt 102 2 = 104 := by decide +kernel
theorem rtv_110_1 : rt 110 1 = 111 := by decide +kernel
theorem rtv_110_2 : rt 110 2 = 112 := by decide +kernel
theorem rtv_118_1 : rt 118 1 = 119 := by decide +kernel
theorem rtv_118_2 : rt 118 2 = 120 := by decide +kernel
theorem rtv_126_1 : rt 126 1 = 127 := by decide +kernel
theorem rtv_126_2 : rt 126 2 = 128 := by decide +kernel
theorem rtv_134_1 : rt 134 1 = 135 := by decide +kernel
theorem rtv_134_2 : rt 134 2 = 136 := by decide +kernel
theorem rtv_142_1 : rt 142 1 = 143 := by decide +kernel
theorem rtv_142_2 : rt 142 2 = 144 := by decide +kernel
theorem rtv_150_1 : rt 150 1 = 151 := by decide +kernel
theorem rtv_150_2 : rt 150 2 = 152 := by decide +kernel
theorem rtv_158_1 : rt 158 1 = 159 := by decide +kernel
theorem rtv_158_2 : rt 158 2 = 160 := by decide +kernel
theorem rtv_166_1 : rt 166 1 = 167 := by decide +kernel
theorem rtv_166_2 : rt 166 2 = 168 := by decide +kernel
theorem rtv_174_0 : rt 174 0 = 175 := by decide +kernel
theorem rtv_174_1 : rt 174 1 = 176 := by decide +kernel
theorem rtv_177_0 : rt 177 0 = 178 := by decide +kernel
theorem rtv_177_2 : rt 177 2 = 179 := by decide +kernel
theorem rtv_181_0 : rt 181 0 = 182 := by decide +kernel
theorem rtv_183_0 : rt 183 0 = 184 := by decide +kernel
theorem rtv_185_0 : rt 185 0 = 186 := by decide +kernel
theorem rtv_187_0 : rt 187 0 = 188 := by decide +kernel
theorem rtv_189_0 : rt 189 0 = 190 := by decide +kernel
theorem rtv_189_1 : rt 189 1 = 191 := by decide +kernel
theorem rtv_189_2 : rt 189 2 = 192 := by decide +kernel
theorem rtv_189_4 : rt 189 4 = 193 := by decide +kernel
theorem rtv_189_6 : rt 189 6 = 194 := by decide +kernel
theorem rtv_189_7 : rt 189 7 = 195 := by decide +kernel
theorem rtv_189_12 : rt 189 12 = 196 := by decide +kernel
theorem rtv_189_13 : rt 189 13 = 197 := by decide +kernel
theorem rtv_189_14 : rt 189 14 = 198 := by decide +kernel
theorem rtv_189_15 : rt 189 15 = 199 := by decide +kernel
theorem rtv_189_16 : rt 189 16 = 200 := by decide +kernel
theorem rtv_189_17 : rt 189 17 = 201 := by decide +kernel
theorem rtv_189_18 : rt 189 18 = 202 := by decide +kernel
theorem rtv_189_19 : rt 189 19 = 203 := by decide +kernel
theorem rtv_189_20 : rt 189 20 = 204 := by decide +kernel
theorem rtv_189_22 : rt 189 22 = 205 := by decide +kernel
theorem rtv_189_23 : rt 189 23 = 206 := by decide +kernel
theorem rtv_189_24 : rt 189 24 = 207 := by decide +kernel
theorem rtv_189_30 : rt 189 30 = 208 := by decide +kernel
theorem rtv_189_31 : rt 189 31 = 209 := by decide +kernel
theorem rtv_189_32 : rt 189 32 = 210 := by decide +kernel
theorem rtv_189_33 : rt 189 33 = 211 := by decide +kernel

/-! counting days -/
def cntP (p : Nat → Bool) : Nat → Nat
  | 0 => 0
  | k + 1 => cntP p k + if p (k + 1) then 1 else 0
theorem cntP_le (p : Nat → Bool) : ∀ n, cntP p n ≤ n
  | 0 => Nat.le_refl 0
  | n + 1 => by
    have := cntP_le p n
    unfold cntP
    split <;> omega
theorem cntP_congr {p q : Nat → Bool} : ∀ {n : Nat}, (∀ k, 1 ≤ k → k ≤ n → p k = q k) → cntP p n = cntP q n
  | 0, _ => rfl
  | n + 1, h => by
    unfold cntP
    rw [cntP_congr (n := n) (fun k h1 h2 => h k h1 (by omega)), h (n + 1) (by omega) (Nat.le_refl _)]
theorem cntP_mono (p : Nat → Bool) {m n : Nat} (h : m ≤ n) : cntP p m ≤ cntP p n := by
  induction n with
  | zero => rw [Nat.le_zero.mp h]; exact Nat.le_refl _
  | succ n ih =>
    rcases Nat.lt_or_ge m (n + 1) with q | q
    · have h1 := ih (by omega)
      have h2 : cntP p (n + 1) = cntP p n + if p (n + 1) then 1 else 0 := rfl
      omega
    · rw [show m = n + 1 by omega]; exact Nat.le_refl _
theorem X2_countTold_ok {a f : Nat} {M : Mem} {Q : Int → Prop} (hf : rt a 0 = f) (hl : ln f = 61) (hr : ∀ j, j ≤ 60 → R32 (M f j)) (hn : R32 (M a 1)) (h : Q (cntP (fun k => decide (M f k ≠ M a 1)) 60 : Nat)) : wp_X2_countTold a M Q := by
  refine ⟨fun x1 x2 => ∃ k : Nat, x2 = (k : Int) + 1 ∧ k ≤ 60 ∧ x1 = (cntP (fun k => decide (M f k ≠ M a 1)) k : Nat), fun x1 x2 => (61 - x2).toNat, ⟨0, rfl, by omega, rfl⟩, ?_⟩
  rintro x1 x2 ⟨k, rfl, hk, rfl⟩
  unfold wp_X2_countTold_B4 wp_X2_countTold_b26
  dsimp only
  rw [hf]
  have e1 : w32 ((k : Int) + 1) = (k : Int) + 1 := w32_id (by omega) (by omega)
  have e2 : ix ((k : Int) + 1) = k + 1 := by rw [show (k : Int) + 1 = ((k + 1 : Nat) : Int) by omega]; exact ixn (by omega)
  have e3 : w32 60 = 60 := rfl
  rw [e1, e2, e3, w32_R hn]
  refine ⟨fun h1 => ?_, fun h1 => ⟨⟨by rw [e1]; omega, by rw [e1, hl]; omega⟩, ?_⟩⟩
  · have : k = 60 := by omega
    rw [this]
    exact h
  · rw [w32_R (hr (k + 1) (by omega))]
    refine ⟨fun h2 => ⟨⟨k + 1, by omega, by omega, ?_⟩, by omega⟩, fun h2 => ⟨⟨k + 1, by omega, by omega, ?_⟩, by omega⟩⟩
    · simp [cntP, h2]
    · simp [cntP, h2]
theorem X12_many_ok {f : Nat} {M : Mem} {Q : Int → Prop} (hl : ln f = 61) (hr : ∀ j, j ≤ 60 → R32 (M f j)) (h : Q (cntP (fun k => decide (0 < M f k)) 60 : Nat)) : wp_X12_many f M Q := by
  refine ⟨fun x1 x2 => ∃ k : Nat, x2 = (k : Int) + 1 ∧ k ≤ 60 ∧ x1 = (cntP (fun k => decide (0 < M f k)) k : Nat), fun x1 x2 => (61 - x2).toNat, ⟨0, rfl, by omega, rfl⟩, ?_⟩
  rintro x1 x2 ⟨k, rfl, hk, rfl⟩
  unfold wp_X12_many_B4 wp_X12_many_b19
  dsimp only
  have e1 : w32 ((k : Int) + 1) = (k : Int) + 1 := w32_id (by omega) (by omega)
  have e2 : ix ((k : Int) + 1) = k + 1 := by rw [show (k : Int) + 1 = ((k + 1 : Nat) : Int) by omega]; exact ixn (by omega)
  have e3 : w32 60 = 60 := rfl
  rw [e1, e2, e3]
  refine ⟨fun h1 => ?_, fun h1 => ⟨⟨by rw [e1]; omega, by rw [e1, hl]; omega⟩, ?_⟩⟩
  · have : k = 60 := by omega
    rw [this]
    exact h
  · rw [w32_R (hr (k + 1) (by omega))]
    refine ⟨fun h2 => ⟨⟨k + 1, by omega, by omega, ?_⟩, by omega⟩, fun h2 => ⟨⟨k + 1, by omega, by omega, ?_⟩, by omega⟩⟩
    · simp [cntP, show ¬ 0 < M f (k + 1) by omega]
    · simp [cntP, show 0 < M f (k + 1) by omega]
