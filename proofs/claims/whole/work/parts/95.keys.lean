/-! places taken one after another, in any order -/
def KeyG (on : Nat → Bool) (P : Nat → Prop) (H : Nat) (key : Nat → Nat) : Prop :=
  (∀ r, r < H → key r < 9 ∧ on (key r) = true ∧ P (key r)) ∧ (∀ r r', r < H → r' < H → key r = key r' → r = r') ∧ ∀ q, q < 9 → on q = true → P q → ∃ r, r < H ∧ key r = q
theorem KeyG_0 (on : Nat → Bool) (key : Nat → Nat) : KeyG on (fun _ => False) 0 key := ⟨fun r h => absurd h (Nat.not_lt_zero _), fun r _ h => absurd h (Nat.not_lt_zero _), fun _ _ _ h => h.elim⟩
theorem KeyG_skip {on : Nat → Bool} {P : Nat → Prop} {H : Nat} {key : Nat → Nat} (K : KeyG on P H key) {q0 : Nat} (h : on q0 = false) : KeyG on (fun q => P q ∨ q = q0) H key := by
  obtain ⟨a, b, c⟩ := K
  refine ⟨fun r hr => ⟨(a r hr).1, (a r hr).2.1, Or.inl (a r hr).2.2⟩, b, fun q hq o z => ?_⟩
  rcases z with z | rfl
  · exact c q hq o z
  · rw [h] at o
    cases o
theorem KeyG_add {on : Nat → Bool} {P : Nat → Prop} {H : Nat} {key : Nat → Nat} (K : KeyG on P H key) {q0 : Nat} (h9 : q0 < 9) (h : on q0 = true) (hP : ¬ P q0) : KeyG on (fun q => P q ∨ q = q0) (H + 1) (fun r => if r = H then q0 else key r) := by
  obtain ⟨a, b, c⟩ := K
  refine ⟨fun r hr => ?_, fun r r' hr hr' => ?_, fun q hq o z => ?_⟩
  · dsimp only
    by_cases z : r = H
    · rw [if_pos z]; exact ⟨h9, h, Or.inr rfl⟩
    · rw [if_neg z]
      obtain ⟨x, y, w⟩ := a r (by omega)
      exact ⟨x, y, Or.inl w⟩
  · dsimp only
    by_cases z : r = H <;> by_cases z' : r' = H
    · omega
    · rw [if_pos z, if_neg z']
      exact fun e => absurd (e ▸ (a r' (by omega)).2.2) hP
    · rw [if_neg z, if_pos z']
      exact fun e => absurd (e ▸ (a r (by omega)).2.2) hP
    · rw [if_neg z, if_neg z']
      exact b r r' (by omega) (by omega)
  · rcases z with z | rfl
    · obtain ⟨r, hr, e⟩ := c q hq o z
      exact ⟨r, by omega, by dsimp only; rw [if_neg (by omega)]; exact e⟩
    · exact ⟨H, by omega, by dsimp only; rw [if_pos rfl]⟩
theorem KeyG_end {on : Nat → Bool} {P : Nat → Prop} {H n : Nat} {key : Nat → Nat} (K : KeyG on P H key) (hn : n ≤ 5) (o9 : on 9 = true) (hP : ∀ q, q < 9 → on q = true → P q) : KeyOK n H on key := by
  obtain ⟨a, b, c⟩ := K
  refine ⟨?_, hn, fun r hr => ⟨(a r hr).1, (a r hr).2.1⟩, b, fun k hk o => c k hk o (hP k hk o), o9⟩
  rcases Nat.lt_or_ge H 10 with q | q
  · omega
  · exfalso
    obtain ⟨i, j, h1, h2, h3⟩ := pigeon 9 key (fun i hi => (a i (by omega)).1)
    have := b i j (by omega) (by omega) h3
    omega
