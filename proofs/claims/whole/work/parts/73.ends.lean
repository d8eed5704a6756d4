/-! its values -/
def WFQ (n : Nat) (on : Nat → Bool) (D : QD) : Prop := ∀ k, k < 10 → on k = true → (FrO (D.B k) ∧ ∀ j, j < n → FrO (D.S k j))
def Agr (n : Nat) (on : Nat → Bool) (D : QD) (R : RD) : Prop :=
  (∀ k, k < 10 → on k = true → (R.num k = D.num k ∧ (∀ x, D.B k = some x → R.B k = valF x) ∧ ∀ j, j < n → ∀ x, D.S k j = some x → R.S k j = valF x)) ∧ ∀ j, j < n → R.so j = D.so j
theorem ob_some {f : Int × Int → Int × Int → Q2} {p q : Q2} {x : Int × Int} (h : ob f p q = some x) : ∃ a b, p = some a ∧ q = some b ∧ f a b = some x := by
  cases p with
  | none => cases h
  | some a =>
    cases q with
    | none => cases h
    | some b => exact ⟨a, b, rfl, rfl, h⟩
theorem map_some {p : Q2} {x : Int × Int} (h : p.map negq = some x) : ∃ a, p = some a ∧ x = negq a := by
  cases p with
  | none => cases h
  | some a => cases h; exact ⟨a, rfl, rfl⟩
theorem mulv {p q : Q2} (hp : FrO p) (hq : FrO q) {u v : Rat} (hu : ∀ x, p = some x → u = valF x) (hv : ∀ x, q = some x → v = valF x) : ∀ x, ob mulq p q = some x → u * v = valF x := fun x h => by
  obtain ⟨a, b, h1, h2, h3⟩ := ob_some h
  rw [hu a h1, hv b h2, mulq_val (hp a h1).1 (hq b h2).1 h3]
theorem addv {p q : Q2} (hp : FrO p) (hq : FrO q) {u v : Rat} (hu : ∀ x, p = some x → u = valF x) (hv : ∀ x, q = some x → v = valF x) : ∀ x, ob addq p q = some x → u + v = valF x := fun x h => by
  obtain ⟨a, b, h1, h2, h3⟩ := ob_some h
  rw [hu a h1, hv b h2, addq_val (hp a h1).1 (hq b h2).1 h3]
theorem divv {p q : Q2} (hp : FrO p) (hq : FrO q) (h0 : ∀ y, q = some y → y.1 ≠ 0) {u v : Rat} (hu : ∀ x, p = some x → u = valF x) (hv : ∀ x, q = some x → v = valF x) : ∀ x, ob divq p q = some x → u / v = valF x := fun x h => by
  obtain ⟨a, b, h1, h2, h3⟩ := ob_some h
  rw [hu a h1, hv b h2, divq_val (hp a h1).1 (hq b h2).1 (h0 b h2) h3]
theorem negv {p : Q2} {u : Rat} (hu : ∀ x, p = some x → u = valF x) : ∀ x, p.map negq = some x → -u = valF x := fun x h => by
  obtain ⟨a, h1, rfl⟩ := map_some h
  rw [hu a h1, negq_val]
theorem one_val : valF (1, 1) = 1 := by unfold valF; grind
theorem above_ne {q : Q2} (h : above0 q = true) : ∀ y, q = some y → y.1 ≠ 0 := fun y e => by
  rw [e] at h
  have : 0 < y.1 := of_decide_eq_true h
  omega
theorem pbQ_Fr {n : Nat} {on : Nat → Bool} {D : QD} (w : WFQ n on D) {l e : Nat} (hl : l < 10) (o : on l = true) (he : e < n) (ha : above0 (D.S l e) = true) : FrO (pbQ D l e) := map_neg_Fr (ob_div_Fr (w l hl o).1 (above_ne ha))
theorem unit_Fr : FrO (some (1, 1)) := FrO_some ⟨by decide, by decide, by decide, by decide, by decide⟩
theorem psQ_Fr {n : Nat} {on : Nat → Bool} {D : QD} (w : WFQ n on D) {l e : Nat} (hl : l < 10) (o : on l = true) (ha : above0 (D.S l e) = true) {j : Nat} (hj : j < n) : FrO (psQ D l e j) := by
  unfold psQ
  split
  · exact ob_div_Fr unit_Fr (above_ne ha)
  · exact map_neg_Fr (ob_div_Fr ((w l hl o).2 j hj) (above_ne ha))
theorem exch_WF {n : Nat} {on : Nat → Bool} {D : QD} (w : WFQ n on D) {l e : Nat} (hl : l < 10) (o : on l = true) (he : e < n) (ha : above0 (D.S l e) = true) : WFQ n on (exchQ n D l e) := by
  intro k hk ok
  refine ⟨?_, fun j hj => ?_⟩
  · rw [exq_B]
    split
    · exact pbQ_Fr w hl o he ha
    · exact ob_add_Fr (w k hk ok).1 (ob_mul_Fr (pbQ_Fr w hl o he ha) ((w k hk ok).2 e he))
  · rw [exq_S, if_neg (by omega)]
    split
    · exact psQ_Fr w hl o ha hj
    · split
      · exact ob_mul_Fr ((w k hk ok).2 e he) (psQ_Fr w hl o ha he)
      · exact ob_add_Fr ((w k hk ok).2 j hj) (ob_mul_Fr (psQ_Fr w hl o ha hj) ((w k hk ok).2 e he))
theorem exch_Agr {n : Nat} {on : Nat → Bool} {D : QD} {R : RD} (w : WFQ n on D) (a : Agr n on D R) {l e : Nat} (hl : l < 10) (o : on l = true) (he : e < n) (ha : above0 (D.S l e) = true) : Agr n on (exchQ n D l e) (exchR R l e) := by
  have Sl := fun j (hj : j < n) => (w l hl o).2 j hj
  have vl := fun j (hj : j < n) => (a.1 l hl o).2.2 j hj
  have ne := above_ne ha
  have vpb : ∀ x, pbQ D l e = some x → -(R.B l / R.S l e) = valF x := negv (divv (w l hl o).1 (Sl e he) ne (a.1 l hl o).2.1 (vl e he))
  have vps : ∀ j, j < n → ∀ x, psQ D l e j = some x → (if j = e then 1 / R.S l e else -(R.S l j / R.S l e)) = valF x := by
    intro j hj
    unfold psQ
    split
    · exact divv unit_Fr (Sl e he) ne (fun x h => by cases h; exact one_val.symm) (vl e he)
    · exact negv (divv (Sl j hj) (Sl e he) ne (vl j hj) (vl e he))
  refine ⟨fun k hk ok => ⟨?_, ?_, fun j hj => ?_⟩, fun j hj => ?_⟩
  · rw [exch_num, exq_num]
    split
    · exact a.2 e he
    · exact (a.1 k hk ok).1
  · rw [exch_B, exq_B]
    by_cases z : k = l
    · rw [if_pos z, if_pos z]
      exact vpb
    · rw [if_neg z, if_neg z]
      exact addv (w k hk ok).1 (ob_mul_Fr (pbQ_Fr w hl o he ha) ((w k hk ok).2 e he)) (a.1 k hk ok).2.1 (mulv (pbQ_Fr w hl o he ha) ((w k hk ok).2 e he) vpb ((a.1 k hk ok).2.2 e he))
  · rw [exch_S, exq_S, if_neg (by omega)]
    by_cases z : k = l
    · rw [if_pos z, if_pos z]
      exact vps j hj
    · rw [if_neg z, if_neg z]
      by_cases y : j = e
      · rw [if_pos y, if_pos y]
        have := vps e he
        rw [if_pos rfl] at this
        exact mulv ((w k hk ok).2 e he) (psQ_Fr w hl o ha he) ((a.1 k hk ok).2.2 e he) this
      · rw [if_neg y, if_neg y]
        have := vps j hj
        rw [if_neg y] at this
        exact addv ((w k hk ok).2 j hj) (ob_mul_Fr (psQ_Fr w hl o ha hj) ((w k hk ok).2 e he)) ((a.1 k hk ok).2.2 j hj) (mulv (psQ_Fr w hl o ha hj) ((w k hk ok).2 e he) this ((a.1 k hk ok).2.2 e he))
  · rw [exch_so, exq_so]
    split
    · exact (a.1 l hl o).1
    · exact a.2 j hj
theorem div_lt {a b c d : Rat} (hb : 0 < b) (hd : 0 < d) (h : a / b < c / d) : a * d < c * b := by
  rw [Rat.div_def, Rat.div_def] at h
  have e1 := Rat.mul_inv_cancel b (by grind)
  have e2 := Rat.mul_inv_cancel d (by grind)
  have h2 : 0 < c * d⁻¹ - a * b⁻¹ := by grind
  have h3 := Rat.mul_pos h2 (Rat.mul_pos hb hd)
  have h4 : (c * d⁻¹ - a * b⁻¹) * (b * d) = c * b - a * d := by grind
  rw [h4] at h3
  grind
theorem div_eq {a b c d : Rat} (hb : 0 < b) (hd : 0 < d) (h : a / b = c / d) : a * d = c * b := by
  rw [Rat.div_def, Rat.div_def] at h
  have e1 := Rat.mul_inv_cancel b (by grind)
  have e2 := Rat.mul_inv_cancel d (by grind)
  have h3 : (a * b⁻¹) * (b * d) = (c * d⁻¹) * (b * d) := by rw [h]
  grind
theorem piv_ok {n : Nat} {on : Nat → Bool} {D : QD} {R : RD} (w : WFQ n on D) (a : Agr n on D R) (g : GoodR n on R) (ok : okQ n on D) {l e : Nat} (hl : lvS on D = some l) (he : enUp D l n = some (some e)) : PivR n on R l e ∧ above0 (D.S l e) = true := by
  obtain ⟨l1, l2, l3, l4⟩ := lvUp_some 9 l hl
  have l10 : l < 10 := by omega
  have sm : ∀ k, k < 10 → on k = true → ∃ x, D.B k = some x ∧ 0 < x.2 ∧ R.B k = valF x := fun k hk o => by
    cases q : D.B k with
    | none => exact absurd q (ok k hk o).1
    | some x => exact ⟨x, rfl, ((w k hk o).1 x q).1, (a.1 k hk o).2.1 x q⟩
  have ss : ∀ k j, k < 10 → on k = true → j < n → ∃ x, D.S k j = some x ∧ 0 < x.2 ∧ R.S k j = valF x := fun k j hk o hj => by
    cases q : D.S k j with
    | none => exact absurd q ((ok k hk o).2 j hj)
    | some x => exact ⟨x, rfl, ((w k hk o).2 j hj x q).1, (a.1 k hk o).2.2 j hj x q⟩
  have ab : ∀ j, j < n → (above0 (D.S l j) = true ↔ 0 < R.S l j) := fun j hj => by
    obtain ⟨x, x1, x2, x3⟩ := ss l j l10 l2 hj
    rw [x1, x3, val_pos x2]
    exact decide_eq_true_iff
  have be : ∀ k, k < 10 → on k = true → (below0 (D.B k) = true ↔ R.B k < 0) := fun k hk o => by
    obtain ⟨x, x1, x2, x3⟩ := sm k hk o
    rw [x1, x3, val_neg x2]
    exact decide_eq_true_iff
  have rF : ∀ j, j < n → above0 (D.S l j) = true → ∀ q, rtS D l j = some q → 0 < q.2 := fun j hj h q hq => by
    have := ob_div_Fr ((w 9 (by decide) g.o9).2 j hj) (above_ne h) (q := D.S l j) q hq
    exact this.1
  obtain ⟨e1, e2, e3, e4⟩ := enUp_some n e rF he
  have rv : ∀ j, j < n → above0 (D.S l j) = true → rtS D l j ≠ none → rvS D l j = R.S 9 j / R.S l j := fun j hj h1 h2 => by
    cases q : rtS D l j with
    | none => exact absurd q h2
    | some x =>
      rw [rvS_some q]
      exact (divv ((w 9 (by decide) g.o9).2 j hj) ((w l l10 l2).2 j hj) (above_ne h1) ((a.1 9 (by decide) g.o9).2.2 j hj) ((a.1 l l10 l2).2.2 j hj) x q).symm
  refine ⟨⟨l1, l2, e1, (be l l10 l2).mp l3, (ab e e1).mp e2, fun k hk o h => ?_, fun j hj h => ?_⟩, e2⟩
  · rw [(a.1 l l10 l2).1, (a.1 k (by omega) o).1]
    exact l4 k hk o ((be k (by omega) o).mpr h)
  · have hj2 := (ab j hj).mpr h
    obtain ⟨f1, f2⟩ := e4 j hj hj2
    rw [rv e e1 e2 e3, rv j hj hj2 f1] at f2
    have pe := (ab e e1).mp e2
    rcases f2 with f2 | ⟨f2, f3⟩
    · exact Or.inl (div_lt pe h f2)
    · exact Or.inr ⟨div_eq pe h f2, by rw [a.2 e e1, a.2 j hj]; exact f3⟩
/-- what holds of a dictionary as it goes -/
def GoodQ (n : Nat) (on : Nat → Bool) (D : QD) : Prop := WFQ n on D ∧ ∃ R, GoodR n on R ∧ Agr n on D R
theorem stop_go {n : Nat} {on : Nat → Bool} {D : QD} (h : stopS n on D = none) : okQ n on D ∧ ∃ l e, lvS on D = some l ∧ enUp D l n = some (some e) ∧ nxtS n on D = exchQ n D l e := by
  unfold stopS at h
  split at h
  · rename_i q
    refine ⟨okB_iff.mp q, ?_⟩
    cases z : lvS on D with
    | none => rw [z] at h; cases h
    | some l =>
      rw [z] at h
      dsimp only at h
      cases y : enUp D l n with
      | none => rw [y] at h; cases h
      | some r =>
        cases r with
        | none => rw [y] at h; cases h
        | some e =>
          refine ⟨l, e, rfl, y, ?_⟩
          unfold nxtS
          rw [z]
          dsimp only
          rw [y]
  · cases h
theorem seq_good {n : Nat} {on : Nat → Bool} {D : QD} (g : GoodQ n on D) (h : stopS n on D = none) : GoodQ n on (nxtS n on D) := by
  obtain ⟨ok, l, e, h1, h2, h3⟩ := stop_go h
  obtain ⟨w, R, g, a⟩ := g
  obtain ⟨p, pa⟩ := piv_ok w a g ok h1 h2
  rw [h3]
  have l9 := p.l9
  exact ⟨exch_WF w (by omega) p.lo p.en pa, _, Piv_Good g p, exch_Agr w a (by omega) p.lo p.en pa⟩
def lI (on : Nat → Bool) (D : QD) : Nat := (lvS on D).getD 0
def eI (n : Nat) (on : Nat → Bool) (D : QD) : Nat := ((enUp D (lI on D) n).getD none).getD 0
def runR (n : Nat) (on : Nat → Bool) (D : QD) (R : RD) : Nat → RD
  | 0 => R
  | i + 1 => exchR (runR n on D R i) (lI on (seqS n on D i)) (eI n on (seqS n on D i))
theorem ends_soon {n : Nat} {on : Nat → Bool} {D : QD} (ho : onLt on) (g : GoodQ n on D) : ∃ m, m < 16384 ∧ stopS n on (seqS n on D m) ≠ none ∧ ∀ i, i < m → stopS n on (seqS n on D i) = none := by
  have first : ∀ T, (∃ m, m < T ∧ stopS n on (seqS n on D m) ≠ none ∧ ∀ i, i < m → stopS n on (seqS n on D i) = none) ∨ ∀ i, i < T → stopS n on (seqS n on D i) = none := by
    intro T
    induction T with
    | zero => exact Or.inr (fun i h => absurd h (Nat.not_lt_zero _))
    | succ T ih =>
      rcases ih with ⟨m, h1, h2⟩ | h
      · exact Or.inl ⟨m, by omega, h2⟩
      · cases q : stopS n on (seqS n on D T) with
        | none =>
          refine Or.inr (fun i hi => ?_)
          rcases Nat.lt_or_ge i T with z | z
          · exact h i z
          · have : i = T := by omega
            rw [this]
            exact q
        | some c => exact Or.inl ⟨T, by omega, by rw [q]; simp, h⟩
  rcases first 16384 with h | h
  · exact h
  exfalso
  obtain ⟨w, R, g, a⟩ := g
  have all : ∀ i, i ≤ 16384 → WFQ n on (seqS n on D i) ∧ GoodR n on (runR n on D R i) ∧ Agr n on (seqS n on D i) (runR n on D R i) := by
    intro i
    induction i with
    | zero => exact fun _ => ⟨w, g, a⟩
    | succ i ih =>
      intro hi
      obtain ⟨w, g, a⟩ := ih (by omega)
      obtain ⟨ok, l, e, h1, h2, h3⟩ := stop_go (h i (by omega))
      obtain ⟨p, pa⟩ := piv_ok w a g ok h1 h2
      have e1 : lI on (seqS n on D i) = l := by unfold lI; rw [h1]; rfl
      have e2 : eI n on (seqS n on D i) = e := by unfold eI; rw [e1, h2]; rfl
      have l9 := p.l9
      have q1 : seqS n on D (i + 1) = exchQ n (seqS n on D i) l e := h3
      have q2 : runR n on D R (i + 1) = exchR (runR n on D R i) l e := by
        show exchR (runR n on D R i) (lI on (seqS n on D i)) (eI n on (seqS n on D i)) = _
        rw [e1, e2]
      rw [q1, q2]
      exact ⟨exch_WF w (by omega) p.lo p.en pa, Piv_Good g p, exch_Agr w a (by omega) p.lo p.en pa⟩
  have run : RunR n on (runR n on D R) (fun i => lI on (seqS n on D i)) (fun i => eI n on (seqS n on D i)) 16384 := by
    refine ⟨fun i hi => ?_, g, ho⟩
    obtain ⟨w, g, a⟩ := all i (by omega)
    obtain ⟨ok, l, e, h1, h2, h3⟩ := stop_go (h i hi)
    obtain ⟨p, pa⟩ := piv_ok w a g ok h1 h2
    have e1 : lI on (seqS n on D i) = l := by unfold lI; rw [h1]; rfl
    have e2 : eI n on (seqS n on D i) = e := by unfold eI; rw [e1, h2]; rfl
    dsimp only
    rw [e1, e2]
    refine ⟨p, ?_⟩
    show exchR (runR n on D R i) (lI on (seqS n on D i)) (eI n on (seqS n on D i)) = _
    rw [e1, e2]
  have := Run_short run
  omega
