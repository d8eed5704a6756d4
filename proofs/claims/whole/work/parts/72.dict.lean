/-! the dictionary, plainly: numbers, bares and shares of rows 0 .. 8 that are on, and of the cost, 9; the numbers that the shares are of -/
def QD : Type := (Nat → Nat) × (Nat → Q2) × (Nat → Nat → Q2) × (Nat → Nat)
def QD.num (D : QD) : Nat → Nat := D.1
def QD.B (D : QD) : Nat → Q2 := D.2.1
def QD.S (D : QD) : Nat → Nat → Q2 := D.2.2.1
def QD.so (D : QD) : Nat → Nat := D.2.2.2
def pbQ (D : QD) (l e : Nat) : Q2 := (ob divq (D.B l) (D.S l e)).map negq
def psQ (D : QD) (l e j : Nat) : Q2 := if j = e then ob divq (some (1, 1)) (D.S l e) else (ob divq (D.S l j) (D.S l e)).map negq
def exchQ (n : Nat) (D : QD) (l e : Nat) : QD :=
  (fun k => if k = l then D.so e else D.num k,
   fun k => if k = l then pbQ D l e else ob addq (D.B k) (ob mulq (pbQ D l e) (D.S k e)),
   fun k j => if n ≤ j then D.S k j else if k = l then psQ D l e j else if j = e then ob mulq (D.S k e) (psQ D l e e) else ob addq (D.S k j) (ob mulq (psQ D l e j) (D.S k e)),
   fun j => if j = e then D.num l else D.so j)
theorem exq_num (n : Nat) (D : QD) (l e k : Nat) : (exchQ n D l e).num k = if k = l then D.so e else D.num k := rfl
theorem exq_B (n : Nat) (D : QD) (l e k : Nat) : (exchQ n D l e).B k = if k = l then pbQ D l e else ob addq (D.B k) (ob mulq (pbQ D l e) (D.S k e)) := rfl
theorem exq_S (n : Nat) (D : QD) (l e k j : Nat) : (exchQ n D l e).S k j = if n ≤ j then D.S k j else if k = l then psQ D l e j else if j = e then ob mulq (D.S k e) (psQ D l e e) else ob addq (D.S k j) (ob mulq (psQ D l e j) (D.S k e)) := rfl
theorem exq_so (n : Nat) (D : QD) (l e j : Nat) : (exchQ n D l e).so j = if j = e then D.num l else D.so j := rfl
def below0 : Q2 → Bool
  | some x => decide (x.1 < 0)
  | none => false
def above0 : Q2 → Bool
  | some x => decide (0 < x.1)
  | none => false
/-- of the rows with a bare below 0, the one of the least number -/
def lvUp (on : Nat → Bool) (D : QD) : Nat → Option Nat
  | 0 => none
  | k + 1 => if on k && below0 (D.B k) then (match lvUp on D k with | some l => if D.num l ≤ D.num k then some l else some k | none => some k) else lvUp on D k
def lvS (on : Nat → Bool) (D : QD) : Option Nat := lvUp on D 9
def ltq (x y : Int × Int) : Bool := decide (x.1 * y.2 < y.1 * x.2)
def rtS (D : QD) (l j : Nat) : Q2 := ob divq (D.S 9 j) (D.S l j)
def betterS (D : QD) (l j e : Nat) : Bool :=
  match rtS D l j, rtS D l e with
  | some q, some r => ltq q r || (!ltq r q && decide (D.so j ≤ D.so e))
  | _, _ => false
/-- where the share enters: none is GREAT -/
def enUp (D : QD) (l : Nat) : Nat → Option (Option Nat)
  | 0 => some none
  | j + 1 => match enUp D l j with
    | none => none
    | some r => if above0 (D.S l j) then (match rtS D l j with | none => none | some _ => (match r with | none => some (some j) | some e => if betterS D l j e then some (some j) else some (some e))) else some r
/-- no fraction is GREAT -/
def okQ (n : Nat) (on : Nat → Bool) (D : QD) : Prop := ∀ k, k < 10 → on k = true → (D.B k ≠ none ∧ ∀ j, j < n → D.S k j ≠ none)
noncomputable def okB (n : Nat) (on : Nat → Bool) (D : QD) : Bool := @decide (okQ n on D) (Classical.propDecidable _)
noncomputable def stopS (n : Nat) (on : Nat → Bool) (D : QD) : Option Int :=
  if okB n on D then (match lvS on D with | none => some 0 | some l => match enUp D l n with | none => some (-7) | some none => some (-8) | some (some _) => none) else some (-7)
def nxtS (n : Nat) (on : Nat → Bool) (D : QD) : QD :=
  match lvS on D with
  | none => D
  | some l => match enUp D l n with
    | some (some e) => exchQ n D l e
    | _ => D
def seqS (n : Nat) (on : Nat → Bool) (D : QD) : Nat → QD
  | 0 => D
  | i + 1 => nxtS n on (seqS n on D i)
theorem okB_iff {n : Nat} {on : Nat → Bool} {D : QD} : okB n on D = true ↔ okQ n on D := by
  unfold okB
  exact @decide_eq_true_iff _ (Classical.propDecidable _)
/-! what is found -/
theorem lvUp_none {on : Nat → Bool} {D : QD} : ∀ m, lvUp on D m = none → ∀ k, k < m → on k = true → below0 (D.B k) = false
  | 0, _, k, h => absurd h (Nat.not_lt_zero _)
  | m + 1, h, k, hk => by
    intro o
    unfold lvUp at h
    by_cases q : (on m && below0 (D.B m)) = true
    · rw [if_pos q] at h
      cases z : lvUp on D m with
      | none => rw [z] at h; cases h
      | some l =>
        rw [z] at h
        dsimp only at h
        split at h <;> cases h
    · rw [if_neg q] at h
      rcases Nat.lt_or_ge k m with w | w
      · exact lvUp_none m h k w o
      · have : k = m := by omega
        subst this
        rw [o, Bool.true_and] at q
        exact Bool.eq_false_iff.mpr q
theorem lvUp_some {on : Nat → Bool} {D : QD} : ∀ m l, lvUp on D m = some l → l < m ∧ on l = true ∧ below0 (D.B l) = true ∧ ∀ k, k < m → on k = true → below0 (D.B k) = true → D.num l ≤ D.num k
  | 0, l, h => by cases h
  | m + 1, l, h => by
    unfold lvUp at h
    by_cases q : (on m && below0 (D.B m)) = true
    · rw [if_pos q] at h
      have qq : on m = true ∧ below0 (D.B m) = true := by
        cases a : on m <;> cases b : below0 (D.B m) <;> rw [a, b] at q <;> first | exact ⟨rfl, rfl⟩ | cases q
      cases z : lvUp on D m with
      | none =>
        rw [z] at h
        cases h
        refine ⟨by omega, qq.1, qq.2, fun k hk o b => ?_⟩
        rcases Nat.lt_or_ge k m with w | w
        · rw [lvUp_none m z k w o] at b
          cases b
        · have : k = m := by omega
          subst this
          exact Nat.le_refl _
      | some p =>
        rw [z] at h
        obtain ⟨a1, a2, a3, a4⟩ := lvUp_some m p z
        dsimp only at h
        by_cases y : D.num p ≤ D.num m
        · rw [if_pos y] at h
          cases h
          refine ⟨by omega, a2, a3, fun k hk o b => ?_⟩
          rcases Nat.lt_or_ge k m with w | w
          · exact a4 k w o b
          · have : k = m := by omega
            subst this
            exact y
        · rw [if_neg y] at h
          cases h
          refine ⟨by omega, qq.1, qq.2, fun k hk o b => ?_⟩
          rcases Nat.lt_or_ge k m with w | w
          · have := a4 k w o b
            omega
          · have : k = m := by omega
            subst this
            exact Nat.le_refl _
    · rw [if_neg q] at h
      obtain ⟨a1, a2, a3, a4⟩ := lvUp_some m l h
      refine ⟨by omega, a2, a3, fun k hk o b => ?_⟩
      rcases Nat.lt_or_ge k m with w | w
      · exact a4 k w o b
      · have : k = m := by omega
        subst this
        rw [o, b] at q
        exact absurd rfl q
theorem enUp_none {D : QD} {l : Nat} : ∀ m, enUp D l m = some none → ∀ j, j < m → above0 (D.S l j) = false
  | 0, _, j, h => absurd h (Nat.not_lt_zero _)
  | m + 1, h, j, hj => by
    unfold enUp at h
    cases z : enUp D l m with
    | none => rw [z] at h; cases h
    | some r =>
      rw [z] at h
      dsimp only at h
      by_cases q : above0 (D.S l m) = true
      · rw [if_pos q] at h
        cases y : rtS D l m with
        | none => rw [y] at h; cases h
        | some x =>
          rw [y] at h
          cases r with
          | none => cases h
          | some e =>
            dsimp only at h
            split at h <;> cases h
      · rw [if_neg q] at h
        cases h
        rcases Nat.lt_or_ge j m with w | w
        · exact enUp_none m z j w
        · have : j = m := by omega
          subst this
          exact Bool.eq_false_iff.mpr q
def rvS (D : QD) (l j : Nat) : Rat :=
  match rtS D l j with
  | some q => valF q
  | none => 0
theorem rvS_some {D : QD} {l j : Nat} {q : Int × Int} (h : rtS D l j = some q) : rvS D l j = valF q := by unfold rvS; rw [h]
theorem ltq_iff {x y : Int × Int} (hx : 0 < x.2) (hy : 0 < y.2) : ltq x y = true ↔ valF x < valF y := by
  rw [val_lt hx hy]
  exact decide_eq_true_iff
theorem betterS_iff {D : QD} {l j e : Nat} {q r : Int × Int} (hq : rtS D l j = some q) (hr : rtS D l e = some r) (pq : 0 < q.2) (pr : 0 < r.2) : betterS D l j e = true ↔ (valF q < valF r ∨ (valF q = valF r ∧ D.so j ≤ D.so e)) := by
  unfold betterS
  rw [hq, hr]
  dsimp only
  have a := ltq_iff pq pr
  have b := ltq_iff pr pq
  cases h1 : ltq q r <;> cases h2 : ltq r q <;> rw [h1] at a <;> rw [h2] at b <;> grind
theorem enUp_some {D : QD} {l : Nat} : ∀ m e, (∀ j, j < m → above0 (D.S l j) = true → ∀ q, rtS D l j = some q → 0 < q.2) → enUp D l m = some (some e) → e < m ∧ above0 (D.S l e) = true ∧ rtS D l e ≠ none ∧ ∀ j, j < m → above0 (D.S l j) = true → rtS D l j ≠ none ∧ (rvS D l e < rvS D l j ∨ (rvS D l e = rvS D l j ∧ D.so e ≤ D.so j))
  | 0, e, _, h => by cases h
  | m + 1, e, hF, h => by
    unfold enUp at h
    cases z : enUp D l m with
    | none => rw [z] at h; cases h
    | some r =>
      rw [z] at h
      dsimp only at h
      by_cases q : above0 (D.S l m) = true
      · rw [if_pos q] at h
        cases y : rtS D l m with
        | none => rw [y] at h; cases h
        | some x =>
          rw [y] at h
          have px := hF m (by omega) q x y
          cases r with
          | none =>
            cases h
            refine ⟨by omega, q, by rw [y]; simp, fun j hj a => ?_⟩
            rcases Nat.lt_or_ge j m with w | w
            · rw [enUp_none m z j w] at a
              cases a
            · have : j = m := by omega
              subst this
              exact ⟨by rw [y]; simp, Or.inr ⟨rfl, Nat.le_refl _⟩⟩
          | some p =>
            obtain ⟨a1, a2, a3, a4⟩ := enUp_some m p (fun j hj => hF j (by omega)) z
            obtain ⟨r, hr⟩ : ∃ r, rtS D l p = some r := by
              cases u : rtS D l p with
              | none => exact absurd u a3
              | some r => exact ⟨r, rfl⟩
            have pr := hF p (by omega) a2 r hr
            have bi := betterS_iff y hr px pr
            have v1 := rvS_some y
            have v2 := rvS_some hr
            rw [← v1, ← v2] at bi
            dsimp only at h
            by_cases b : betterS D l m p = true
            · rw [if_pos b] at h
              cases h
              have b := bi.mp b
              refine ⟨by omega, q, by rw [y]; simp, fun j hj a => ?_⟩
              rcases Nat.lt_or_ge j m with w | w
              · obtain ⟨c1, c2⟩ := a4 j w a
                refine ⟨c1, ?_⟩
                rcases b with b | b <;> rcases c2 with c2 | c2
                · exact Or.inl (by grind)
                · exact Or.inl (by grind)
                · exact Or.inl (by grind)
                · exact Or.inr ⟨by grind, by omega⟩
              · have : j = m := by omega
                subst this
                exact ⟨by rw [y]; simp, Or.inr ⟨rfl, Nat.le_refl _⟩⟩
            · rw [if_neg b] at h
              cases h
              have b : ¬ (rvS D l m < rvS D l e ∨ (rvS D l m = rvS D l e ∧ D.so m ≤ D.so e)) := fun t => b (bi.mpr t)
              refine ⟨by omega, a2, a3, fun j hj a => ?_⟩
              rcases Nat.lt_or_ge j m with w | w
              · exact a4 j w a
              · have : j = m := by omega
                subst this
                refine ⟨by rw [y]; simp, ?_⟩
                by_cases t : rvS D l e < rvS D l j
                · exact Or.inl t
                · have t2 : ¬ rvS D l j < rvS D l e := fun u => b (Or.inl u)
                  have t3 : rvS D l e = rvS D l j := by grind
                  refine Or.inr ⟨t3, ?_⟩
                  exact Nat.le_of_lt (Nat.lt_of_not_le (fun u => b (Or.inr ⟨t3.symm, u⟩)))
      · rw [if_neg q] at h
        cases h
        obtain ⟨a1, a2, a3, a4⟩ := enUp_some m e (fun j hj => hF j (by omega)) z
        refine ⟨by omega, a2, a3, fun j hj a => ?_⟩
        rcases Nat.lt_or_ge j m with w | w
        · exact a4 j w a
        · have : j = m := by omega
          subst this
          exact absurd a q
