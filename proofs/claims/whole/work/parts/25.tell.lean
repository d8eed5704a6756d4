/-! telling a day its number -/
def updI (d : F1) (k : Nat) (z : Int) : F1 := fun j => if j = k then z else d j
theorem st2_row (M : Mem) (f k : Nat) (z : Int) : st2 M f k z f = updI (M f) k z := by
  funext j
  unfold st2 updI
  simp
theorem st2_off (M : Mem) {f k g : Nat} (z : Int) (h : g ≠ f) : st2 M f k z g = M g := by
  funext j
  unfold st2
  simp [h]
theorem cntP_upd (p q : Nat → Bool) (k : Nat) (h : ∀ j, j ≠ k → p j = q j) : ∀ n, cntP p n + (if 1 ≤ k ∧ k ≤ n ∧ q k = true then 1 else 0) = cntP q n + (if 1 ≤ k ∧ k ≤ n ∧ p k = true then 1 else 0)
  | 0 => by
    have u1 : ¬ (1 ≤ k ∧ k ≤ 0 ∧ q k = true) := by omega
    have u2 : ¬ (1 ≤ k ∧ k ≤ 0 ∧ p k = true) := by omega
    rw [if_neg u1, if_neg u2]
    rfl
  | n + 1 => by
    have ih := cntP_upd p q k h n
    unfold cntP
    by_cases e : n + 1 = k
    · subst e
      have u1 : ¬ (1 ≤ n + 1 ∧ n + 1 ≤ n ∧ q (n + 1) = true) := by omega
      have u2 : ¬ (1 ≤ n + 1 ∧ n + 1 ≤ n ∧ p (n + 1) = true) := by omega
      rw [if_neg u1, if_neg u2] at ih
      cases hp : p (n + 1) <;> cases hq : q (n + 1) <;> simp <;> omega
    · rw [h (n + 1) e]
      have v1 : (1 ≤ k ∧ k ≤ n + 1 ∧ q k = true) ↔ (1 ≤ k ∧ k ≤ n ∧ q k = true) := by
        constructor
        · rintro ⟨x, y, z⟩; exact ⟨x, by omega, z⟩
        · rintro ⟨x, y, z⟩; exact ⟨x, by omega, z⟩
      have v2 : (1 ≤ k ∧ k ≤ n + 1 ∧ p k = true) ↔ (1 ≤ k ∧ k ≤ n ∧ p k = true) := by
        constructor
        · rintro ⟨x, y, z⟩; exact ⟨x, by omega, z⟩
        · rintro ⟨x, y, z⟩; exact ⟨x, by omega, z⟩
      simp only [v1, v2]
      omega
theorem cnt_upd (d : F1) (k : Nat) (z : Int) (n : Nat) : cnt (updI d k z) n + (if 1 ≤ k ∧ k ≤ n ∧ 0 < d k then 1 else 0) = cnt d n + (if 1 ≤ k ∧ k ≤ n ∧ 0 < z then 1 else 0) := by
  have := cntP_upd (pos (updI d k z)) (pos d) k (fun j hj => by simp [pos, updI, hj]) n
  unfold cnt
  simpa [pos, updI] using this
theorem cnt_upd_le {d : F1} {k mx : Nat} {z : Int} (h : cnt d 60 ≤ mx) (h2 : ¬ (0 < z ∧ ¬ 0 < d k ∧ ¬ cnt d 60 < mx)) : cnt (updI d k z) 60 ≤ mx := by
  have := cnt_upd d k z 60
  by_cases q1 : 1 ≤ k ∧ k ≤ 60 ∧ 0 < d k <;> by_cases q2 : 1 ≤ k ∧ k ≤ 60 ∧ 0 < z <;> simp only [q1, q2, if_true, if_false] at this <;> grind
theorem X2_tell_ok {a f k mx : Nat} {z no : Int} {M : Mem} {Q : Int → Mem → Prop} (hf : rt a 0 = f) (hl : ln f = 61) (hr : ∀ j, j ≤ 60 → R32 (M f j)) (hno : M a 1 = no) (hno2 : R32 no) (hmx : M a 2 = (mx : Int)) (hmx2 : mx < 100) (hk : k ≤ 60) (hz : R32 z)
    (h1 : (z ≠ no ∧ M f k = no ∧ ¬ cntP (fun j => decide (M f j ≠ no)) 60 < mx) → Q (-4) M)
    (h2 : ¬ (z ≠ no ∧ M f k = no ∧ ¬ cntP (fun j => decide (M f j ≠ no)) 60 < mx) → Q (M f k) (st2 M f k z)) : wp_X2_tell a (k : Int) z M Q := by
  unfold wp_X2_tell wp_X2_tell_b37
  have e1 : w32 (k : Int) = (k : Int) := w32_id (by omega) (by omega)
  have e2 : ix (k : Int) = k := ixn (by omega)
  have e3 : inb f (k : Int) := ⟨by rw [e1]; omega, by rw [e1, hl]; omega⟩
  rw [hf, e2, hno, w32_R hz, w32_R hno2, w32_R (hr k hk), hmx, w32_id (z := (mx : Int)) (by omega) (by omega)]
  refine ⟨e3, fun u1 => ⟨e3, ?_⟩, fun u1 => ⟨fun u2 => ⟨e3, ?_⟩, fun u2 => X2_countTold_ok hf hl hr (hno ▸ hno2) ?_⟩⟩
  · rintro M43 rfl
    exact h2 (fun q => q.1 u1)
  · rintro M43 rfl
    exact h2 (fun q => u2 q.2.1)
  · rw [hno]
    have := cntP_le (fun j => decide (M f j ≠ no)) 60
    rw [w32_id (z := ((cntP (fun j => decide (M f j ≠ no)) 60 : Nat) : Int)) (by omega) (by omega)]
    refine ⟨fun u3 => ⟨e3, ?_⟩, fun u3 => ?_⟩
    · rintro M43 rfl
      exact h2 (fun q => q.2.2 (by omega))
    · exact h1 ⟨u1, by omega, by omega⟩
theorem X12_becomes_ok {f k mx : Nat} {z : Int} {M : Mem} {Q : Int → Mem → Prop} (hl : ln f = 61) (hr : ∀ j, j ≤ 60 → R32 (M f j) ∧ 0 ≤ M f j) (hmx2 : mx < 100) (hmx : cnt (M f) 60 ≤ mx) (hk : k ≤ 60) (hz : R32 z)
    (h1 : (0 < z ∧ ¬ 0 < M f k ∧ ¬ cnt (M f) 60 < mx) → Q (-4) M)
    (h2 : ¬ (0 < z ∧ ¬ 0 < M f k ∧ ¬ cnt (M f) 60 < mx) → Q (M f k) (st2 M f k z)) : wp_X12_becomes f (k : Int) z (mx : Int) M Q := by
  unfold wp_X12_becomes wp_X12_becomes_b21
  have e1 : w32 (k : Int) = (k : Int) := w32_id (by omega) (by omega)
  have e2 : ix (k : Int) = k := ixn (by omega)
  have e3 : inb f (k : Int) := ⟨by rw [e1]; omega, by rw [e1, hl]; omega⟩
  have e4 := hr k hk
  rw [e2, w32_R hz, w32_R e4.1]
  refine ⟨fun u1 => ⟨e3, e3, ?_⟩, fun u1 => ⟨e3, fun u2 => ⟨e3, e3, ?_⟩, fun u2 => X12_many_ok hl (fun j hj => (hr j hj).1) ?_⟩⟩
  · rintro M43 rfl
    exact h2 (fun q => by omega)
  · rintro M43 rfl
    exact h2 (fun q => by omega)
  · have := cntP_le (fun j => decide (0 < M f j)) 60
    have e5 : cntP (fun j => decide (0 < M f j)) 60 = cnt (M f) 60 := rfl
    rw [w32_id (z := ((cntP (fun j => decide (0 < M f j)) 60 : Nat) : Int)) (by omega) (by omega), w32_id (z := (mx : Int)) (by omega) (by omega), e5]
    refine ⟨fun u3 => ⟨e3, e3, ?_⟩, fun u3 => ?_⟩
    · rintro M43 rfl
      exact h2 (fun q => by omega)
    · exact h1 ⟨by omega, by omega, by omega⟩
