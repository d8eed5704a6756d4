/-! literals, lengths, places -/
theorem wl_0 : w32 0 = 0 := rfl
theorem wl_1 : w32 1 = 1 := rfl
theorem wl_2 : w32 2 = 2 := rfl
theorem wl_3 : w32 3 = 3 := rfl
theorem wl_4 : w32 4 = 4 := rfl
theorem wl_5 : w32 5 = 5 := rfl
theorem wl_6 : w32 6 = 6 := rfl
theorem wl_7 : w32 7 = 7 := rfl
theorem wl_8 : w32 8 = 8 := rfl
theorem wl_9 : w32 9 = 9 := rfl
theorem wl_10 : w32 10 = 10 := rfl
theorem wl_11 : w32 11 = 11 := rfl
theorem wl_12 : w32 12 = 12 := rfl
theorem wl_13 : w32 13 = 13 := rfl
theorem wl_14 : w32 14 = 14 := rfl
theorem wl_15 : w32 15 = 15 := rfl
theorem wl_16 : w32 16 = 16 := rfl
theorem wl_17 : w32 17 = 17 := rfl
theorem wl_18 : w32 18 = 18 := rfl
theorem wl_19 : w32 19 = 19 := rfl
theorem wl_20 : w32 20 = 20 := rfl
theorem wl_21 : w32 21 = 21 := rfl
theorem wl_22 : w32 22 = 22 := rfl
theorem wl_23 : w32 23 = 23 := rfl
theorem wl_24 : w32 24 = 24 := rfl
theorem wl_25 : w32 25 = 25 := rfl
theorem wl_26 : w32 26 = 26 := rfl
theorem wl_27 : w32 27 = 27 := rfl
theorem wl_28 : w32 28 = 28 := rfl
theorem wl_29 : w32 29 = 29 := rfl
theorem wl_30 : w32 30 = 30 := rfl
theorem wl_31 : w32 31 = 31 := rfl
theorem wl_32 : w32 32 = 32 := rfl
theorem wl_33 : w32 33 = 33 := rfl
theorem wl_34 : w32 34 = 34 := rfl
theorem wl_35 : w32 35 = 35 := rfl
theorem wl_36 : w32 36 = 36 := rfl
theorem wl_37 : w32 37 = 37 := rfl
theorem wl_38 : w32 38 = 38 := rfl
theorem wl_39 : w32 39 = 39 := rfl
theorem wl_40 : w32 40 = 40 := rfl
theorem wl_41 : w32 41 = 41 := rfl
theorem wl_42 : w32 42 = 42 := rfl
theorem wl_43 : w32 43 = 43 := rfl
theorem wl_44 : w32 44 = 44 := rfl
theorem wl_45 : w32 45 = 45 := rfl
theorem wl_46 : w32 46 = 46 := rfl
theorem wl_47 : w32 47 = 47 := rfl
theorem wl_48 : w32 48 = 48 := rfl
theorem wl_49 : w32 49 = 49 := rfl
theorem wl_50 : w32 50 = 50 := rfl
theorem wl_60 : w32 60 = 60 := rfl
theorem wl_99 : w32 99 = 99 := rfl
theorem wl_200 : w32 200 = 200 := rfl
theorem wl_1000000 : w32 1000000 = 1000000 := rfl
theorem wm_1 : w32 (-1) = -1 := rfl
theorem wm_2 : w32 (-2) = -2 := rfl
theorem wm_3 : w32 (-3) = -3 := rfl
theorem wm_4 : w32 (-4) = -4 := rfl
theorem wm_7 : w32 (-7) = -7 := rfl
theorem wm_8 : w32 (-8) = -8 := rfl
theorem wm_11 : w32 (-11) = -11 := rfl
theorem wm_12 : w32 (-12) = -12 := rfl
theorem wm_13 : w32 (-13) = -13 := rfl
theorem wm_14 : w32 (-14) = -14 := rfl
theorem vl_0 : w64 0 = 0 := rfl
theorem vl_1 : w64 1 = 1 := rfl
theorem vl_4 : w64 4 = 4 := rfl
theorem vm_1 : w64 (-1) = -1 := rfl
theorem vm_NO : w64 (-9223372036854775808) = -9223372036854775808 := rfl
theorem vl_MX : w64 9223372036854775807 = 9223372036854775807 := rfl

def LN (a n : Nat) : Prop := ln a = n ∧ n < 1000
theorem LN_3 : LN 3 61 := ⟨by decide +kernel, by decide⟩
theorem LN_5 : LN 5 61 := ⟨by decide +kernel, by decide⟩
theorem LN_7 : LN 7 61 := ⟨by decide +kernel, by decide⟩
theorem LN_8 : LN 8 5 := ⟨by decide +kernel, by decide⟩
theorem LN_16 : LN 16 61 := ⟨by decide +kernel, by decide⟩
theorem LN_18 : LN 18 61 := ⟨by decide +kernel, by decide⟩
theorem LN_20 : LN 20 61 := ⟨by decide +kernel, by decide⟩
theorem LN_21 : LN 21 5 := ⟨by decide +kernel, by decide⟩
theorem LN_28 : LN 28 5 := ⟨by decide +kernel, by decide⟩
theorem LN_29 : LN 29 5 := ⟨by decide +kernel, by decide⟩
theorem LN_30 : LN 30 5 := ⟨by decide +kernel, by decide⟩
theorem LN_31 : LN 31 5 := ⟨by decide +kernel, by decide⟩
theorem LN_32 : LN 32 61 := ⟨by decide +kernel, by decide⟩
theorem LN_33 : LN 33 61 := ⟨by decide +kernel, by decide⟩
theorem LN_34 : LN 34 5 := ⟨by decide +kernel, by decide⟩
theorem LN_35 : LN 35 61 := ⟨by decide +kernel, by decide⟩
theorem LN_36 : LN 36 61 := ⟨by decide +kernel, by decide⟩
theorem LN_37 : LN 37 61 := ⟨by decide +kernel, by decide⟩
theorem LN_38 : LN 38 61 := ⟨by decide +kernel, by decide⟩
theorem LN_39 : LN 39 61 := ⟨by decide +kernel, by decide⟩
theorem LN_40 : LN 40 5 := ⟨by decide +kernel, by decide⟩
theorem LN_41 : LN 41 5 := ⟨by decide +kernel, by decide⟩
theorem LN_42 : LN 42 5 := ⟨by decide +kernel, by decide⟩
theorem LN_43 : LN 43 5 := ⟨by decide +kernel, by decide⟩
theorem LN_44 : LN 44 5 := ⟨by decide +kernel, by decide⟩
theorem LN_45 : LN 45 5 := ⟨by decide +kernel, by decide⟩
theorem LN_46 : LN 46 5 := ⟨by decide +kernel, by decide⟩
theorem LN_47 : LN 47 5 := ⟨by decide +kernel, by decide⟩
theorem LN_49 : LN 49 5 := ⟨by decide +kernel, by decide⟩
theorem LN_50 : LN 50 5 := ⟨by decide +kernel, by decide⟩
theorem LN_51 : LN 51 5 := ⟨by decide +kernel, by decide⟩
theorem LN_52 : LN 52 5 := ⟨by decide +kernel, by decide⟩
theorem LN_53 : LN 53 61 := ⟨by decide +kernel, by decide⟩
theorem LN_54 : LN 54 61 := ⟨by decide +kernel, by decide⟩
theorem LN_55 : LN 55 5 := ⟨by decide +kernel, by decide⟩
theorem LN_56 : LN 56 61 := ⟨by decide +kernel, by decide⟩
theorem LN_57 : LN 57 61 := ⟨by decide +kernel, by decide⟩
theorem LN_58 : LN 58 61 := ⟨by decide +kernel, by decide⟩
theorem LN_59 : LN 59 61 := ⟨by decide +kernel, by decide⟩
theorem LN_60 : LN 60 61 := ⟨by decide +kernel, by decide⟩
theorem LN_61 : LN 61 5 := ⟨by decide +kernel, by decide⟩
theorem LN_62 : LN 62 5 := ⟨by decide +kernel, by decide⟩
theorem LN_63 : LN 63 5 := ⟨by decide +kernel, by decide⟩
theorem LN_64 : LN 64 5 := ⟨by decide +kernel, by decide⟩
theorem LN_65 : LN 65 5 := ⟨by decide +kernel, by decide⟩
theorem LN_66 : LN 66 5 := ⟨by decide +kernel, by decide⟩
theorem LN_67 : LN 67 5 := ⟨by decide +kernel, by decide⟩
theorem LN_68 : LN 68 5 := ⟨by decide +kernel, by decide⟩
theorem LN_69 : LN 69 5 := ⟨by decide +kernel, by decide⟩
theorem LN_70 : LN 70 5 := ⟨by decide +kernel, by decide⟩
theorem LN_71 : LN 71 5 := ⟨by decide +kernel, by decide⟩
theorem LN_72 : LN 72 5 := ⟨by decide +kernel, by decide⟩
theorem LN_77 : LN 77 5 := ⟨by decide +kernel, by decide⟩
theorem LN_90 : LN 90 5 := ⟨by decide +kernel, by decide⟩
theorem LN_96 : LN 96 9 := ⟨by decide +kernel, by decide⟩
theorem LN_97 : LN 97 5 := ⟨by decide +kernel, by decide⟩
theorem LN_104 : LN 104 5 := ⟨by decide +kernel, by decide⟩
theorem LN_112 : LN 112 5 := ⟨by decide +kernel, by decide⟩
theorem LN_120 : LN 120 5 := ⟨by decide +kernel, by decide⟩
theorem LN_128 : LN 128 5 := ⟨by decide +kernel, by decide⟩
theorem LN_136 : LN 136 5 := ⟨by decide +kernel, by decide⟩
theorem LN_144 : LN 144 5 := ⟨by decide +kernel, by decide⟩
theorem LN_152 : LN 152 5 := ⟨by decide +kernel, by decide⟩
theorem LN_160 : LN 160 5 := ⟨by decide +kernel, by decide⟩
theorem LN_168 : LN 168 5 := ⟨by decide +kernel, by decide⟩
theorem LN_175 : LN 175 5 := ⟨by decide +kernel, by decide⟩
theorem LN_176 : LN 176 5 := ⟨by decide +kernel, by decide⟩
theorem LN_178 : LN 178 5 := ⟨by decide +kernel, by decide⟩
theorem LN_179 : LN 179 5 := ⟨by decide +kernel, by decide⟩
theorem LN_180 : LN 180 4 := ⟨by decide +kernel, by decide⟩
theorem LN_182 : LN 182 40 := ⟨by decide +kernel, by decide⟩
theorem LN_184 : LN 184 40 := ⟨by decide +kernel, by decide⟩
theorem LN_186 : LN 186 40 := ⟨by decide +kernel, by decide⟩
theorem LN_188 : LN 188 40 := ⟨by decide +kernel, by decide⟩
theorem LN_190 : LN 190 61 := ⟨by decide +kernel, by decide⟩
theorem LN_191 : LN 191 61 := ⟨by decide +kernel, by decide⟩
theorem LN_192 : LN 192 61 := ⟨by decide +kernel, by decide⟩
theorem LN_193 : LN 193 35 := ⟨by decide +kernel, by decide⟩
theorem LN_194 : LN 194 5 := ⟨by decide +kernel, by decide⟩
theorem LN_195 : LN 195 5 := ⟨by decide +kernel, by decide⟩
theorem LN_196 : LN 196 9 := ⟨by decide +kernel, by decide⟩
theorem LN_197 : LN 197 5 := ⟨by decide +kernel, by decide⟩
theorem LN_198 : LN 198 10 := ⟨by decide +kernel, by decide⟩
theorem LN_199 : LN 199 10 := ⟨by decide +kernel, by decide⟩
theorem LN_200 : LN 200 50 := ⟨by decide +kernel, by decide⟩
theorem LN_201 : LN 201 50 := ⟨by decide +kernel, by decide⟩
theorem LN_202 : LN 202 6 := ⟨by decide +kernel, by decide⟩
theorem LN_203 : LN 203 6 := ⟨by decide +kernel, by decide⟩
theorem LN_204 : LN 204 5 := ⟨by decide +kernel, by decide⟩
theorem LN_205 : LN 205 5 := ⟨by decide +kernel, by decide⟩
theorem LN_206 : LN 206 5 := ⟨by decide +kernel, by decide⟩
theorem LN_207 : LN 207 5 := ⟨by decide +kernel, by decide⟩
theorem LN_208 : LN 208 218 := ⟨by decide +kernel, by decide⟩
theorem LN_209 : LN 209 4 := ⟨by decide +kernel, by decide⟩
theorem LN_210 : LN 210 4 := ⟨by decide +kernel, by decide⟩
theorem LN_211 : LN 211 160 := ⟨by decide +kernel, by decide⟩

theorem inbn {a n k : Nat} (h : LN a n) (hk : k < n) : inb a (k : Int) := by
  obtain ⟨h1, h2⟩ := h
  have e : w32 (k : Int) = (k : Int) := w32_id (by omega) (by omega)
  unfold inb
  rw [h1, e]
  omega
theorem inbz {a n : Nat} {z : Int} (h : LN a n) (h1 : 0 ≤ z) (h2 : z < (n : Int)) : inb a z := by
  obtain ⟨k, rfl⟩ : ∃ k : Nat, z = (k : Int) := ⟨z.toNat, by omega⟩
  exact inbn h (by omega)
theorem w32n {k : Nat} (h : k < 2147483648) : w32 (k : Int) = (k : Int) := w32_id (by omega) (by omega)
theorem bz_t : bz true = 1 := rfl
theorem bz_f : bz false = 0 := rfl
theorem fb_s (M : Mem) (k j : Nat) (r : Bool) : fb (st2 M k j (bz r)) k j = r := by
  unfold fb
  rw [st2_s]
  cases r <;> decide
theorem fb_n (M : Mem) {k j a c : Nat} (z : Int) (h : ¬ (a = k ∧ c = j)) : fb (st2 M k j z) a c = fb M a c := by
  unfold fb
  rw [st2_n _ _ h]
theorem fb_eq {M M2 : Mem} {k j : Nat} (h : M2 k j = M k j) : fb M2 k j = fb M k j := by unfold fb; rw [h]
theorem rt_8 : ∀ b, b < 5 → rt 8 b = 9 + b := by decide +kernel
theorem rt_21 : ∀ b, b < 5 → rt 21 b = 22 + b := by decide +kernel
theorem rt_34 : ∀ b, b < 5 → rt 34 b = 35 + b := by decide +kernel
theorem rt_40 : ∀ b, b < 5 → rt 40 b = 41 + b := by decide +kernel
theorem rt_55 : ∀ b, b < 5 → rt 55 b = 56 + b := by decide +kernel
theorem rt_61 : ∀ b, b < 5 → rt 61 b = 62 + b := by decide +kernel
theorem rt_180 : ∀ b, b < 4 → rt 180 b = 181 + 2 * b := by decide +kernel
theorem rt_sheet : ∀ b, b < 4 → rt (181 + 2 * b) 0 = 182 + 2 * b := by decide +kernel
theorem ln_sheet : ∀ b, b < 4 → ln (182 + 2 * b) = 40 := by decide +kernel
theorem LN_sheet {b : Nat} (h : b < 4) : LN (182 + 2 * b) 40 := ⟨ln_sheet b h, by decide⟩
theorem fill_ok {a n : Nat} {z : Int} {M : Mem} {Q : Mem → Prop} (hl : LN a n) (h : ∀ M' : Mem, (∀ j, j < n → M' a j = z) → (∀ k j, ¬ (k = a ∧ j < n) → M' k j = M k j) → Q M') : wp_J7_fill_53178 a z M Q := by
  have hl2 := hl.1
  have hn := hl.2
  unfold wp_J7_fill_53178
  rw [hl2]
  clear hl2
  refine ⟨fun M' x2 => ∃ k : Nat, x2 = (k : Int) ∧ k ≤ n ∧ (∀ j, j < k → M' a j = z) ∧ ∀ c j, ¬ (c = a ∧ j < k) → M' c j = M c j, fun M' x2 => ((n : Int) - x2).toNat, ⟨0, rfl, Nat.zero_le _, fun j hj => absurd hj (Nat.not_lt_zero _), fun _ _ _ => rfl⟩, ?_⟩
  rintro M1 x2 ⟨k, rfl, hk, f1, f2⟩
  unfold wp_J7_fill_53178_B5
  dsimp only
  rw [w32n (show k < 2147483648 by omega), w32n (show n < 2147483648 by omega), ixn (show k < 2147483648 by omega)]
  refine ⟨fun u => ?_, fun u => ⟨inbn hl (by omega), ?_⟩⟩
  · have : k = n := by omega
    subst this
    exact h M1 f1 f2
  · rintro M13 rfl
    refine ⟨⟨k + 1, rfl, by omega, fun j hj => ?_, fun c j hc => ?_⟩, by omega⟩
    · by_cases q : j = k
      · subst q; exact st2_s _ _ _ _
      · rw [st2_n _ _ (fun z => q z.2)]
        exact f1 j (by omega)
    · rw [st2_n _ _ (fun z => hc ⟨z.1, by omega⟩)]
      exact f2 c j (fun z => hc ⟨z.1, by omega⟩)
