/-! the cells that the invariant speaks of; the rest is scratch -/
def keep (k : Nat) (j : Nat) : Bool :=
  if k < 48 then (if k = 0 then j = 2 || j = 5 || j = 13 || j = 14 else if k = 27 then j = 0 else true)
  else if k = 69 then true
  else if k < 87 then false
  else if k < 98 then true
  else if k < 102 then false
  else if k < 174 then true
  else if k < 181 then false
  else if k < 189 then true
  else if k = 189 then j = 3 || j = 5 || j = 28 || j = 29
  else if k < 196 then true
  else 208 ≤ k
def Same (M M2 : Mem) : Prop := ∀ k j, keep k j = true → M2 k j = M k j
theorem Same_refl (M : Mem) : Same M M := fun _ _ _ => rfl
theorem Same_trans {M M2 M3 : Mem} (h : Same M M2) (h2 : Same M2 M3) : Same M M3 := fun k j q => (h2 k j q).trans (h k j q)
theorem Same_st2 {M : Mem} {k j : Nat} {z : Int} (h : keep k j = false) : Same M (st2 M k j z) := by
  intro a b q
  refine st2_n M z ?_
  rintro ⟨rfl, rfl⟩
  rw [h] at q
  cases q
theorem Same_row {M M2 : Mem} (h : Same M M2) (k : Nat) (hk : ∀ j, keep k j = true) : M2 k = M k := funext fun j => h k j (hk j)
theorem Same_fb {M M2 : Mem} (h : Same M M2) (k j : Nat) (hk : keep k j = true) : fb M2 k j = fb M k j := by unfold fb; rw [h k j hk]
/-- a predicate of the dictionary that reads kept cells only -/
def Kept (DK : Mem → Prop) : Prop := ∀ M M2, Same M M2 → DK M → DK M2
/-- the cells that a predicate of the dictionary may read -/
def keepH (k j : Nat) : Bool := (k = 0 && j = 14) || (87 ≤ k && k < 98) || (102 ≤ k && k < 174) || (190 ≤ k && k < 193) || (k = 193 && j < 30) || (k = 189 && j = 3)
def KeptH (DK : Mem → Prop) : Prop := ∀ M M2 : Mem, (∀ k j, keepH k j = true → M2 k j = M k j) → DK M → DK M2
theorem kept_row {k : Nat} (h : (decide (1 ≤ k) && decide (k < 48) && !decide (k = 27)) || decide (k = 69) || (decide (87 ≤ k) && decide (k < 98)) || (decide (102 ≤ k) && decide (k < 174)) || (decide (181 ≤ k) && decide (k < 189)) || (decide (190 ≤ k) && decide (k < 196)) || decide (208 ≤ k)) (j : Nat) : keep k j = true := by
  unfold keep
  grind (splits := 40)
theorem Inv_same {DK : Mem → Prop} (hD : Kept DK) {M M2 : Mem} (h : Same M M2) (hI : Inv DK M) : Inv DK M2 := by
  have row : ∀ k : Nat, ((decide (1 ≤ k) && decide (k < 48) && !decide (k = 27)) || decide (k = 69) || (decide (87 ≤ k) && decide (k < 98)) || (decide (102 ≤ k) && decide (k < 174)) || (decide (181 ≤ k) && decide (k < 189)) || (decide (190 ≤ k) && decide (k < 196)) || decide (208 ≤ k)) = true → M2 k = M k := fun k hk => Same_row h k (kept_row hk)
  obtain ⟨h1, h2, h3, h4, h5, h6, h7⟩ := hI
  refine ⟨?_, ?_, ?_, ?_, ?_, ?_, ?_⟩
  · unfold InvB at *
    obtain ⟨q1, q2, q3, q4, q5, q6, q7, q8, q9⟩ := h1
    rw [row 3 rfl, row 5 rfl, row 7 rfl, row 1 rfl, row 190 rfl, row 191 rfl, row 192 rfl, row 193 rfl, h 189 3 rfl]
    refine ⟨q1, q2, q3, q4, q5, q6, q7, q8, fun b hb => ?_⟩
    have := q9 b hb
    have hb5 : b < 5 := by omega
    dsimp only at this ⊢
    rw [row (9 + b) (by grind)]
    exact this
  · unfold InvK at *
    rw [row 2 rfl, row 4 rfl, row 6 rfl]
    exact h2
  · unfold InvR at *
    rw [row 190 rfl, row 194 rfl, row 195 rfl, h 189 5 rfl]
    exact h3
  · unfold InvI at *
    rw [Same_fb h 0 2 rfl, Same_fb h 189 28 rfl]
    refine ⟨h4.1, fun q => ?_⟩
    obtain ⟨q1, q2, q3, q4, q5, q6, q7, q8, q9⟩ := h4.2 q
    rw [row 16 rfl, row 18 rfl, row 20 rfl, row 14 rfl, row 208 rfl, h 189 29 rfl]
    refine ⟨q1, q2, q3, q4, q5, q6, q7, q8, fun b hb => ?_⟩
    have := q9 b hb
    have hb5 : b < 5 := by omega
    dsimp only at this ⊢
    rw [row (22 + b) (by grind)]
    exact this
  · unfold InvS at *
    intro j hj
    rw [row 209 rfl, row 210 rfl, row 211 rfl, row (181 + 2 * j) (by grind), row (182 + 2 * j) (by grind)]
    exact h5 j hj
  · unfold InvN at *
    rw [row 69 rfl]
    exact h6
  · unfold InvC at *
    intro q
    rw [Same_fb h 0 5 rfl] at q
    obtain ⟨u1, u2⟩ := h7 q
    refine ⟨?_, fun q2 => hD M M2 h (u2 (by rw [← Same_fb h 0 13 rfl]; exact q2))⟩
    unfold SceneOK at *
    obtain ⟨v1, v2, v3, v4⟩ := u1
    rw [row 190 rfl, row 191 rfl, row 192 rfl, row 193 rfl, h 189 3 rfl, h 27 0 rfl, row (27 + 1) rfl, row (27 + 2) rfl, row (27 + 3) rfl, row (27 + 4) rfl, row (27 + 5) rfl, row (27 + 6) rfl, row (27 + 19) rfl, row (27 + 20) rfl]
    refine ⟨v1, v2, v3, fun b hb => ?_⟩
    have hn := h1.2.2.2.2.2.2.2.1
    have hb5 : b < 5 := by omega
    rw [row (27 + 8 + b) (by grind), row (27 + 14 + b) (by grind)]
    exact v4 b hb
