/-! rows solved for one another, over rationals: what an exchange keeps, and that exchanges end -/
def RD : Type := (Nat → Nat) × (Nat → Rat) × (Nat → Nat → Rat) × (Nat → Nat)
def RD.num (D : RD) : Nat → Nat := D.1
def RD.B (D : RD) : Nat → Rat := D.2.1
def RD.S (D : RD) : Nat → Nat → Rat := D.2.2.1
def RD.so (D : RD) : Nat → Nat := D.2.2.2
def sumR (f : Nat → Rat) : Nat → Rat
  | 0 => 0
  | k + 1 => sumR f k + f k
theorem sumR_mix {f f' g : Nat → Rat} {b : Rat} {e : Nat} (h : ∀ j, j ≠ e → f' j = f j + b * g j) : ∀ n, sumR f' n = sumR f n + b * sumR g n + (if e < n then f' e - f e - b * g e else 0)
  | 0 => by simp [sumR]; grind
  | n + 1 => by
    have ih := sumR_mix h n
    unfold sumR
    rw [ih]
    rcases Nat.lt_trichotomy e n with q | q | q
    · rw [if_pos q, if_pos (by omega), h n (by omega)]
      grind
    · subst q
      rw [if_neg (by omega), if_pos (by omega)]
      grind
    · rw [if_neg (by omega), if_neg (by omega), h n (by omega)]
      grind
theorem sumR_zero {f : Nat → Rat} : ∀ n, (∀ j, j < n → f j = 0) → sumR f n = 0
  | 0, _ => rfl
  | n + 1, h => by
    unfold sumR
    rw [sumR_zero n (fun j hj => h j (by omega)), h n (by omega)]
    grind
theorem sumR_le {f : Nat → Rat} : ∀ n, (∀ j, j < n → f j ≤ 0) → sumR f n ≤ 0
  | 0, _ => by unfold sumR; grind
  | n + 1, h => by
    have := sumR_le n (fun j hj => h j (by omega))
    have := h n (by omega)
    unfold sumR
    grind
theorem sumR_lt {f : Nat → Rat} {e : Nat} : ∀ n, (∀ j, j < n → f j ≤ 0) → e < n → f e < 0 → sumR f n < 0
  | 0, _, h2, _ => absurd h2 (Nat.not_lt_zero _)
  | n + 1, h, h2, h3 => by
    have a := h n (by omega)
    unfold sumR
    rcases Nat.lt_or_ge e n with q | q
    · have := sumR_lt n (fun j hj => h j (by omega)) q h3
      grind
    · have : e = n := by omega
      subst this
      have := sumR_le e (fun j hj => h j (by omega))
      grind
def exchR (D : RD) (l e : Nat) : RD :=
  (fun k => if k = l then D.so e else D.num k,
   fun k => if k = l then -(D.B l / D.S l e) else D.B k + -(D.B l / D.S l e) * D.S k e,
   fun k j => if k = l then (if j = e then 1 / D.S l e else -(D.S l j / D.S l e)) else (if j = e then D.S k e * (1 / D.S l e) else D.S k j + -(D.S l j / D.S l e) * D.S k e),
   fun j => if j = e then D.num l else D.so j)
theorem exch_num (D : RD) (l e k : Nat) : (exchR D l e).num k = if k = l then D.so e else D.num k := rfl
theorem exch_B (D : RD) (l e k : Nat) : (exchR D l e).B k = if k = l then -(D.B l / D.S l e) else D.B k + -(D.B l / D.S l e) * D.S k e := rfl
theorem exch_S (D : RD) (l e k j : Nat) : (exchR D l e).S k j = if k = l then (if j = e then 1 / D.S l e else -(D.S l j / D.S l e)) else (if j = e then D.S k e * (1 / D.S l e) else D.S k j + -(D.S l j / D.S l e) * D.S k e) := rfl
theorem exch_so (D : RD) (l e j : Nat) : (exchR D l e).so j = if j = e then D.num l else D.so j := rfl
def SatR (n : Nat) (on : Nat → Bool) (D : RD) (x : Nat → Rat) : Prop :=
  ∀ k, on k = true → x (D.num k) = D.B k + sumR (fun j => D.S k j * x (D.so j)) n
theorem SatR_exch {n : Nat} {on : Nat → Bool} {D : RD} {l e : Nat} {x : Nat → Rat} (hl : on l = true) (he : e < n) (hp : D.S l e ≠ 0) : SatR n on (exchR D l e) x ↔ SatR n on D x := by
  have hq : D.S l e * (D.S l e)⁻¹ = 1 := Rat.mul_inv_cancel _ hp
  obtain ⟨p, ep⟩ : ∃ p, p = D.S l e := ⟨_, rfl⟩
  obtain ⟨q, eq⟩ : ∃ q, q = (D.S l e)⁻¹ := ⟨_, rfl⟩
  have div : ∀ a : Rat, a / D.S l e = a * q := fun a => by rw [eq, Rat.div_def]
  rw [← eq, ← ep] at hq
  -- the row that is solved
  have sl : sumR (fun j => (exchR D l e).S l j * x ((exchR D l e).so j)) n = -q * sumR (fun j => D.S l j * x (D.so j)) n + x (D.so e) + q * x (D.num l) := by
    rw [sumR_mix (f := fun _ => 0) (g := fun j => D.S l j * x (D.so j)) (b := -q) (e := e), if_pos he, sumR_zero n (fun _ _ => rfl)]
    · simp only [exch_num, exch_B, exch_S, exch_so, if_true]
      rw [div]
      grind
    · intro j hj
      simp only [exch_num, exch_B, exch_S, exch_so, if_true, if_neg hj]
      rw [div]
      grind
  have sk : ∀ k, k ≠ l → sumR (fun j => (exchR D l e).S k j * x ((exchR D l e).so j)) n = sumR (fun j => D.S k j * x (D.so j)) n + (-q * D.S k e) * sumR (fun j => D.S l j * x (D.so j)) n + D.S k e * q * x (D.num l) := by
    intro k hk
    rw [sumR_mix (f := fun j => D.S k j * x (D.so j)) (g := fun j => D.S l j * x (D.so j)) (b := -q * D.S k e) (e := e), if_pos he]
    · simp only [exch_num, exch_B, exch_S, exch_so, if_true, if_neg hk]
      rw [div]
      grind
    · intro j hj
      simp only [exch_num, exch_B, exch_S, exch_so, if_neg hk, if_neg hj]
      rw [div]
      grind
  have bl : (exchR D l e).B l = -(D.B l * q) := by simp only [exch_num, exch_B, exch_S, exch_so, if_true]; rw [div]
  have bk : ∀ k, k ≠ l → (exchR D l e).B k = D.B k + -(D.B l * q) * D.S k e := fun k hk => by simp only [exch_num, exch_B, exch_S, exch_so, if_neg hk]; rw [div]
  have nl : (exchR D l e).num l = D.so e := by simp only [exch_num, exch_B, exch_S, exch_so, if_true]
  have nk : ∀ k, k ≠ l → (exchR D l e).num k = D.num k := fun k hk => by simp only [exch_num, exch_B, exch_S, exch_so, if_neg hk]
  obtain ⟨T, hT⟩ : ∃ T : Nat → Rat, ∀ k, sumR (fun j => D.S k j * x (D.so j)) n = T k := ⟨_, fun _ => rfl⟩
  simp only [hT] at sl sk
  constructor
  · intro h k hk
    rw [hT]
    have h1 := h l hl
    rw [nl, bl, sl] at h1
    by_cases z : k = l
    · subst z
      grind
    · have h2 := h k hk
      rw [nk k z, bk k z, sk k z] at h2
      grind
  · intro h k hk
    have h1 := h l hl
    rw [hT] at h1
    by_cases z : k = l
    · subst z
      rw [nl, bl, sl]
      grind
    · have h2 := h k hk
      rw [hT] at h2
      rw [nk k z, bk k z, sk k z]
      grind
/-- of the 10 rows, the one of a number; the bare at the point where what has no row is 0 -/
def isB (on : Nat → Bool) (D : RD) (v : Nat) : Prop := ∃ k, k < 9 ∧ on k = true ∧ D.num k = v
def ptUp (on : Nat → Bool) (D : RD) (v : Nat) : Nat → Rat
  | 0 => 0
  | k + 1 => if on k = true ∧ D.num k = v then D.B k else ptUp on D v k
def ptR (on : Nat → Bool) (D : RD) (v : Nat) : Rat := ptUp on D v 10
def vid (i : Nat) : Nat := if i < 5 then i else if i < 10 then i + 5 else i + 10
def isV (v : Nat) : Prop := ∃ i, i < 14 ∧ vid i = v
theorem isV_lt {v : Nat} (h : isV v) : v < 24 := by
  obtain ⟨i, hi, rfl⟩ := h
  unfold vid
  split
  · omega
  · split <;> omega
abbrev GoodR (n : Nat) (on : Nat → Bool) (D : RD) : Prop :=
  (on 9 = true) ∧
  (D.num 9 = 99) ∧
  (∀ k, k < 9 → on k = true → isV (D.num k)) ∧
  (∀ j, j < n → isV (D.so j)) ∧
  (∀ k k', k < 9 → k' < 9 → on k = true → on k' = true → D.num k = D.num k' → k = k') ∧
  (∀ j j', j < n → j' < n → D.so j = D.so j' → j = j') ∧
  (∀ k j, k < 9 → on k = true → j < n → D.num k ≠ D.so j) ∧
  (∀ j, j < n → 0 ≤ D.S 9 j)
theorem GoodR.o9 {n : Nat} {on : Nat → Bool} {D : RD} (h : GoodR n on D) : on 9 = true := h.1
theorem GoodR.n9 {n : Nat} {on : Nat → Bool} {D : RD} (h : GoodR n on D) : D.num 9 = 99 := h.2.1
theorem GoodR.nv {n : Nat} {on : Nat → Bool} {D : RD} (h : GoodR n on D) : ∀ k, k < 9 → on k = true → isV (D.num k) := h.2.2.1
theorem GoodR.sv {n : Nat} {on : Nat → Bool} {D : RD} (h : GoodR n on D) : ∀ j, j < n → isV (D.so j) := h.2.2.2.1
theorem GoodR.ni {n : Nat} {on : Nat → Bool} {D : RD} (h : GoodR n on D) : ∀ k k', k < 9 → k' < 9 → on k = true → on k' = true → D.num k = D.num k' → k = k' := h.2.2.2.2.1
theorem GoodR.si {n : Nat} {on : Nat → Bool} {D : RD} (h : GoodR n on D) : ∀ j j', j < n → j' < n → D.so j = D.so j' → j = j' := h.2.2.2.2.2.1
theorem GoodR.ns {n : Nat} {on : Nat → Bool} {D : RD} (h : GoodR n on D) : ∀ k j, k < 9 → on k = true → j < n → D.num k ≠ D.so j := h.2.2.2.2.2.2.1
theorem GoodR.c0 {n : Nat} {on : Nat → Bool} {D : RD} (h : GoodR n on D) : ∀ j, j < n → 0 ≤ D.S 9 j := h.2.2.2.2.2.2.2
/-- rows beyond the tenth are not looked at -/
def onLt (on : Nat → Bool) : Prop := ∀ k, on k = true → k < 10
theorem ptUp_no {on : Nat → Bool} {D : RD} {v : Nat} : ∀ m, (∀ k, k < m → on k = true → D.num k ≠ v) → ptUp on D v m = 0
  | 0, _ => rfl
  | m + 1, h => by
    unfold ptUp
    rw [if_neg (fun q => h m (by omega) q.1 q.2)]
    exact ptUp_no m (fun k hk => h k (by omega))
theorem ptUp_yes {on : Nat → Bool} {D : RD} {v k : Nat} (hk : on k = true) (hv : D.num k = v) : ∀ m, k < m → (∀ k', k' < m → on k' = true → D.num k' = v → k' = k) → ptUp on D v m = D.B k
  | 0, h, _ => absurd h (Nat.not_lt_zero _)
  | m + 1, h, hu => by
    unfold ptUp
    by_cases q : on m = true ∧ D.num m = v
    · rw [if_pos q, hu m (by omega) q.1 q.2]
    · rw [if_neg q]
      have : k ≠ m := fun z => q (z ▸ ⟨hk, hv⟩)
      exact ptUp_yes hk hv m (by omega) (fun k' h' => hu k' (by omega))
theorem Good_uni {n : Nat} {on : Nat → Bool} {D : RD} (g : GoodR n on D) {k k' : Nat} (h : k < 10) (h' : k' < 10) (o : on k = true) (o' : on k' = true) (e : D.num k = D.num k') : k = k' := by
  rcases Nat.lt_or_ge k 9 with q | q <;> rcases Nat.lt_or_ge k' 9 with q' | q'
  · exact g.ni k k' q q' o o' e
  · have : k' = 9 := by omega
    subst this
    have := isV_lt (g.nv k q o)
    rw [e, g.n9] at this
    omega
  · have : k = 9 := by omega
    subst this
    have := isV_lt (g.nv k' q' o')
    rw [← e, g.n9] at this
    omega
  · omega
theorem ptR_row {n : Nat} {on : Nat → Bool} {D : RD} (g : GoodR n on D) {k : Nat} (h : k < 10) (o : on k = true) : ptR on D (D.num k) = D.B k :=
  ptUp_yes o rfl 10 h (fun _ h' o' e => Good_uni g h' h o' o e)
theorem ptR_none {n : Nat} {on : Nat → Bool} {D : RD} (g : GoodR n on D) {v : Nat} (hv : isV v) (h : ¬ isB on D v) : ptR on D v = 0 := by
  refine ptUp_no 10 (fun k hk o e => ?_)
  rcases Nat.lt_or_ge k 9 with q | q
  · exact h ⟨k, q, o, e⟩
  · have : k = 9 := by omega
    subst this
    have := isV_lt hv
    rw [← e, g.n9] at this
    omega
theorem Good_soB {n : Nat} {on : Nat → Bool} {D : RD} (g : GoodR n on D) {j : Nat} (h : j < n) : ¬ isB on D (D.so j) := by
  rintro ⟨k, hk, o, e⟩
  exact g.ns k j hk o h e
theorem SatR_pt {n : Nat} {on : Nat → Bool} {D : RD} (ho : onLt on) (g : GoodR n on D) : SatR n on D (ptR on D) := by
  intro k o
  rw [ptR_row g (ho k o) o, sumR_zero n (fun j hj => by rw [ptR_none g (g.sv j hj) (Good_soB g hj)]; grind)]
  grind
abbrev PivR (n : Nat) (on : Nat → Bool) (D : RD) (l e : Nat) : Prop :=
  (l < 9) ∧
  (on l = true) ∧
  (e < n) ∧
  (D.B l < 0) ∧
  (0 < D.S l e) ∧
  (∀ k, k < 9 → on k = true → D.B k < 0 → D.num l ≤ D.num k) ∧
  (∀ j, j < n → 0 < D.S l j → D.S 9 e * D.S l j < D.S 9 j * D.S l e ∨ (D.S 9 e * D.S l j = D.S 9 j * D.S l e ∧ D.so e ≤ D.so j))
theorem PivR.l9 {n : Nat} {on : Nat → Bool} {D : RD} {l e : Nat} (h : PivR n on D l e) : l < 9 := h.1
theorem PivR.lo {n : Nat} {on : Nat → Bool} {D : RD} {l e : Nat} (h : PivR n on D l e) : on l = true := h.2.1
theorem PivR.en {n : Nat} {on : Nat → Bool} {D : RD} {l e : Nat} (h : PivR n on D l e) : e < n := h.2.2.1
theorem PivR.Bl {n : Nat} {on : Nat → Bool} {D : RD} {l e : Nat} (h : PivR n on D l e) : D.B l < 0 := h.2.2.2.1
theorem PivR.Sp {n : Nat} {on : Nat → Bool} {D : RD} {l e : Nat} (h : PivR n on D l e) : 0 < D.S l e := h.2.2.2.2.1
theorem PivR.lev {n : Nat} {on : Nat → Bool} {D : RD} {l e : Nat} (h : PivR n on D l e) : ∀ k, k < 9 → on k = true → D.B k < 0 → D.num l ≤ D.num k := h.2.2.2.2.2.1
theorem PivR.ent {n : Nat} {on : Nat → Bool} {D : RD} {l e : Nat} (h : PivR n on D l e) : ∀ j, j < n → 0 < D.S l j → D.S 9 e * D.S l j < D.S 9 j * D.S l e ∨ (D.S 9 e * D.S l j = D.S 9 j * D.S l e ∧ D.so e ≤ D.so j) := h.2.2.2.2.2.2
theorem Piv_Good {n : Nat} {on : Nat → Bool} {D : RD} {l e : Nat} (g : GoodR n on D) (p : PivR n on D l e) : GoodR n on (exchR D l e) := by
  obtain ⟨l9, lo, en, Bl, Sp, lev, ent⟩ := p
  have hq : D.S l e * (D.S l e)⁻¹ = 1 := Rat.mul_inv_cancel _ (by grind)
  have hq0 : 0 < (D.S l e)⁻¹ := Rat.inv_pos.mpr Sp
  refine ⟨g.o9, ?_, ?_, ?_, ?_, ?_, ?_, ?_⟩
  · simp only [exch_num, exch_B, exch_S, exch_so, if_neg (show ¬ 9 = l by omega)]
    exact g.n9
  · intro k hk o
    simp only [exch_num, exch_B, exch_S, exch_so]
    split
    · exact g.sv e en
    · exact g.nv k hk o
  · intro j hj
    simp only [exch_num, exch_B, exch_S, exch_so]
    split
    · exact g.nv l l9 lo
    · exact g.sv j hj
  · intro k k' hk hk' o o'
    simp only [exch_num, exch_B, exch_S, exch_so]
    split <;> split <;> intro z
    · omega
    · exact absurd z.symm (g.ns k' e hk' o' en)
    · exact absurd z (g.ns k e hk o en)
    · exact g.ni k k' hk hk' o o' z
  · intro j j' hj hj'
    simp only [exch_num, exch_B, exch_S, exch_so]
    split <;> split <;> intro z
    · omega
    · exact absurd z (g.ns l j' l9 lo hj')
    · exact absurd z.symm (g.ns l j l9 lo hj)
    · exact g.si j j' hj hj' z
  · intro k j hk o hj
    simp only [exch_num, exch_B, exch_S, exch_so]
    split <;> split
    · exact fun z => g.ns l e l9 lo en z.symm
    · exact fun z => absurd (g.si e j en hj z) (by omega)
    · exact fun z => absurd (g.ni k l hk l9 o lo z) (by omega)
    · exact g.ns k j hk o hj
  · intro j hj
    have ce := g.c0 e en
    have cj := g.c0 j hj
    simp only [exch_num, exch_B, exch_S, exch_so, if_neg (show ¬ 9 = l by omega)]
    rw [Rat.div_def, Rat.div_def]
    split
    · have := Rat.mul_nonneg ce (Rat.le_of_lt hq0)
      grind
    · by_cases z : 0 < D.S l j
      · have h2 : 0 ≤ D.S 9 j * D.S l e - D.S 9 e * D.S l j := by
          rcases ent j hj z with q | q <;> grind
        have h3 := Rat.mul_nonneg h2 (Rat.le_of_lt hq0)
        have e3 : (D.S 9 j * D.S l e - D.S 9 e * D.S l j) * (D.S l e)⁻¹ = D.S 9 j + -(D.S l j * (D.S l e)⁻¹) * D.S 9 e := by grind
        rw [← e3]
        exact h3
      · have h1 : 0 ≤ -D.S l j := by grind
        have := Rat.mul_nonneg (Rat.mul_nonneg h1 ce) (Rat.le_of_lt hq0)
        grind
theorem isB_exch {on : Nat → Bool} {n : Nat} {D : RD} {l e : Nat} (g : GoodR n on D) (p : PivR n on D l e) (v : Nat) : isB on (exchR D l e) v ↔ (v = D.so e ∨ (isB on D v ∧ v ≠ D.num l)) := by
  constructor
  · rintro ⟨k, hk, o, z⟩
    simp only [exch_num, exch_B, exch_S, exch_so] at z
    by_cases q : k = l
    · rw [if_pos q] at z
      exact Or.inl z.symm
    · rw [if_neg q] at z
      exact Or.inr ⟨⟨k, hk, o, z⟩, fun z2 => q (g.ni k l hk p.l9 o p.lo (z.trans z2))⟩
  · rintro (z | ⟨⟨k, hk, o, z⟩, z2⟩)
    · exact ⟨l, p.l9, p.lo, by simp only [exch_num, exch_B, exch_S, exch_so, if_true]; exact z.symm⟩
    · have : k ≠ l := fun q => z2 (by rw [← z, q])
      exact ⟨k, hk, o, by simp only [exch_num, exch_B, exch_S, exch_so, if_neg this]; exact z⟩
/-! a run of exchanges -/
abbrev RunR (n : Nat) (on : Nat → Bool) (D : Nat → RD) (l e : Nat → Nat) (T : Nat) : Prop :=
  (∀ i, i < T → PivR n on (D i) (l i) (e i) ∧ D (i + 1) = exchR (D i) (l i) (e i)) ∧
  (GoodR n on (D 0)) ∧
  (onLt on)
theorem RunR.go {n : Nat} {on : Nat → Bool} {D : Nat → RD} {l e : Nat → Nat} {T : Nat} (h : RunR n on D l e T) : ∀ i, i < T → PivR n on (D i) (l i) (e i) ∧ D (i + 1) = exchR (D i) (l i) (e i) := h.1
theorem RunR.g0 {n : Nat} {on : Nat → Bool} {D : Nat → RD} {l e : Nat → Nat} {T : Nat} (h : RunR n on D l e T) : GoodR n on (D 0) := h.2.1
theorem RunR.ol {n : Nat} {on : Nat → Bool} {D : Nat → RD} {l e : Nat → Nat} {T : Nat} (h : RunR n on D l e T) : onLt on := h.2.2
theorem Run_good {n : Nat} {on : Nat → Bool} {D : Nat → RD} {l e : Nat → Nat} {T : Nat} (R : RunR n on D l e T) : ∀ i, i ≤ T → GoodR n on (D i)
  | 0, _ => R.g0
  | i + 1, h => by
    obtain ⟨a, b⟩ := R.go i (by omega)
    rw [b]
    exact Piv_Good (Run_good R i (by omega)) a
theorem Run_sat {n : Nat} {on : Nat → Bool} {D : Nat → RD} {l e : Nat → Nat} {T : Nat} (R : RunR n on D l e T) {x : Nat → Rat} : ∀ i, i ≤ T → (SatR n on (D i) x ↔ SatR n on (D 0) x)
  | 0, _ => Iff.rfl
  | i + 1, h => by
    obtain ⟨a, b⟩ := R.go i (by omega)
    rw [b, SatR_exch a.lo a.en (by have := a.Sp; grind)]
    exact Run_sat R i (by omega)
theorem Run_cost {n : Nat} {on : Nat → Bool} {D : Nat → RD} {l e : Nat → Nat} {T : Nat} (R : RunR n on D l e T) {i : Nat} (h : i < T) : (D i).B 9 ≤ (D (i + 1)).B 9 ∧ ((D i).B 9 = (D (i + 1)).B 9 → (D i).S 9 (e i) = 0) := by
  obtain ⟨a, b⟩ := R.go i h
  have g := Run_good R i (by omega)
  have c := g.c0 (e i) a.en
  rw [b]
  have l9 := a.l9
  have hq0 : 0 < ((D i).S (l i) (e i))⁻¹ := Rat.inv_pos.mpr a.Sp
  have hb : 0 < -(D i).B (l i) := by have := a.Bl; grind
  have hm := Rat.mul_pos hb hq0
  simp only [exch_num, exch_B, exch_S, exch_so, if_neg (show ¬ 9 = l i by omega)]
  rw [Rat.div_def]
  obtain ⟨m, em⟩ : ∃ m : Rat, m = -(D i).B (l i) * ((D i).S (l i) (e i))⁻¹ := ⟨_, rfl⟩
  rw [← em] at hm
  have e2 : (D i).B 9 + -((D i).B (l i) * ((D i).S (l i) (e i))⁻¹) * (D i).S 9 (e i) = (D i).B 9 + m * (D i).S 9 (e i) := by grind
  rw [e2]
  refine ⟨?_, fun z => ?_⟩
  · have := Rat.mul_nonneg (Rat.le_of_lt hm) c
    grind
  · have h0 : m * (D i).S 9 (e i) = 0 := by grind
    rcases Rat.mul_eq_zero.mp h0 with q | q
    · grind
    · exact q
theorem Run_mono {n : Nat} {on : Nat → Bool} {D : Nat → RD} {l e : Nat → Nat} {T : Nat} (R : RunR n on D l e T) {p : Nat} : ∀ q, p ≤ q → q ≤ T → (D p).B 9 ≤ (D q).B 9
  | 0, h, _ => by
    have : p = 0 := by omega
    subst this
    grind
  | q + 1, h, h2 => by
    rcases Nat.lt_or_ge q p with z | z
    · have : p = q + 1 := by omega
      subst this
      grind
    · have := Run_mono R q z (by omega)
      have := (Run_cost R (i := q) (by omega)).1
      grind
theorem up_max {P : Nat → Prop} : ∀ m : Nat, (∃ v, P v) → (∀ v, P v → v < m) → ∃ t, P t ∧ ∀ v, P v → v ≤ t
  | 0, ⟨v, h⟩, hb => absurd (hb v h) (Nat.not_lt_zero _)
  | m + 1, hx, hb => by
    by_cases q : P m
    · exact ⟨m, q, fun v h => by have := hb v h; omega⟩
    · exact up_max m hx (fun v h => by
        have := hb v h
        have : v ≠ m := fun z => q (z ▸ h)
        omega)
/-- what is so at one end of a stretch and not at the other turns somewhere between -/
theorem turn {P : Nat → Prop} {a : Nat} (ha : P a) : ∀ b, a ≤ b → ¬ P b → ∃ i, a ≤ i ∧ i < b ∧ P i ∧ ¬ P (i + 1)
  | 0, h, hb => by
    have : a = 0 := by omega
    exact absurd (this ▸ ha) hb
  | b + 1, h, hb => by
    rcases Nat.lt_or_ge b a with q | q
    · have : a = b + 1 := by omega
      exact absurd (this ▸ ha) hb
    · by_cases z : P b
      · exact ⟨b, q, by omega, z, hb⟩
      · obtain ⟨i, h1, h2, h3⟩ := turn ha b q z
        exact ⟨i, h1, by omega, h3⟩
theorem no_cycle {n : Nat} {on : Nat → Bool} {D : Nat → RD} {l e : Nat → Nat} {T : Nat} (R : RunR n on D l e T) {p q : Nat} (hpq : p < q) (hq : q ≤ T) (hB : ∀ v, isV v → (isB on (D p) v ↔ isB on (D q) v)) : False := by
  have gd := fun i (h : i ≤ T) => Run_good R i h
  have ol := R.ol
  have st : ∀ i, i < T → ∀ v, isB on (D (i + 1)) v ↔ (v = (D i).so (e i) ∨ (isB on (D i) v ∧ v ≠ (D i).num (l i))) := fun i hi v => by
    obtain ⟨a, b⟩ := R.go i hi
    rw [b]
    exact isB_exch (gd i (by omega)) a v
  have pv := fun i (h : i < T) => (R.go i h).1
  have sB := fun i (h : i < T) => Good_soB (gd i (by omega)) (pv i h).en
  have lB : ∀ i, i < T → isB on (D i) ((D i).num (l i)) := fun i h => ⟨l i, (pv i h).l9, (pv i h).lo, rfl⟩
  -- the cost is the same at both ends
  have zz : (D p).B 9 = (D q).B 9 := by
    have s : SatR n on (D q) (ptR on (D p)) := (Run_sat R q hq).mpr ((Run_sat R p (by omega)).mp (SatR_pt ol (gd p (by omega))))
    have := s 9 (gd q hq).o9
    rw [(gd q hq).n9, ← (gd p (by omega)).n9, ptR_row (gd p (by omega)) (by decide) (gd p (by omega)).o9, sumR_zero n (fun j hj => ?_)] at this
    · grind
    · have iv := (gd q hq).sv j hj
      rw [ptR_none (gd p (by omega)) iv (fun z => Good_soB (gd q hq) hj ((hB _ iv).mp z))]
      grind
  have c0 : ∀ i, p ≤ i → i < q → (D i).S 9 (e i) = 0 := fun i h1 h2 => by
    have a := Run_mono R (p := p) i h1 (by omega)
    have b := Run_cost R (i := i) (by omega)
    have c := Run_mono R (p := i + 1) q (by omega) hq
    exact b.2 (by grind)
  -- so are its shares, told by numbers
  have Z : ∀ v i, p ≤ i → i < q → ((∀ j, j < n → (D i).so j = v → (D i).S 9 j = 0) ↔ (∀ j, j < n → (D (i + 1)).so j = v → (D (i + 1)).S 9 j = 0)) := by
    intro v i h1 h2
    obtain ⟨a, b⟩ := R.go i (by omega)
    have c := c0 i h1 h2
    have l9 := a.l9
    have e1 : (D (i + 1)).S 9 (e i) = 0 := by
      rw [b]
      simp only [exch_num, exch_B, exch_S, exch_so, if_neg (show ¬ 9 = l i by omega), if_true]
      rw [c]
      grind
    have e2 : ∀ j, j ≠ e i → (D (i + 1)).S 9 j = (D i).S 9 j ∧ (D (i + 1)).so j = (D i).so j := fun j hj => by
      rw [b]
      simp only [exch_num, exch_B, exch_S, exch_so, if_neg (show ¬ 9 = l i by omega), if_neg hj]
      rw [c]
      exact ⟨by grind, trivial⟩
    constructor
    · intro h j hj z
      by_cases w : j = e i
      · rw [w]; exact e1
      · rw [(e2 j w).1]
        exact h j hj (by rw [← (e2 j w).2]; exact z)
    · intro h j hj z
      by_cases w : j = e i
      · rw [w]; exact c
      · rw [← (e2 j w).1]
        exact h j hj (by rw [(e2 j w).2]; exact z)
  have Zs : ∀ v i, p ≤ i → i ≤ q → ((∀ j, j < n → (D i).so j = v → (D i).S 9 j = 0) ↔ (∀ j, j < n → (D p).so j = v → (D p).S 9 j = 0)) := by
    intro v i
    induction i with
    | zero =>
      intro h1 h2
      have : p = 0 := by omega
      subst this
      exact Iff.rfl
    | succ i ih =>
      intro h1 h2
      rcases Nat.lt_or_ge i p with w | w
      · have : p = i + 1 := by omega
        subst this
        exact Iff.rfl
      · rw [← Z v i w (by omega)]
        exact ih w (by omega)
  -- what turns between
  obtain ⟨Fk, hF⟩ : ∃ Fk : Nat → Prop, ∀ v, Fk v ↔ ∃ i, p ≤ i ∧ i < q ∧ (v = (D i).so (e i) ∨ v = (D i).num (l i)) := ⟨fun v => ∃ i, p ≤ i ∧ i < q ∧ (v = (D i).so (e i) ∨ v = (D i).num (l i)), fun _ => Iff.rfl⟩
  have FV : ∀ v, Fk v → isV v := fun v h => by
    obtain ⟨i, h1, h2, h3⟩ := (hF v).mp h
    rcases h3 with rfl | rfl
    · exact (gd i (by omega)).sv _ (pv i (by omega)).en
    · exact (gd i (by omega)).nv _ (pv i (by omega)).l9 (pv i (by omega)).lo
  have F0 : ∀ v, Fk v → ∀ i, p ≤ i → i ≤ q → ∀ j, j < n → (D i).so j = v → (D i).S 9 j = 0 := by
    intro v h i h1 h2
    refine (Zs v i h1 h2).mpr ?_
    obtain ⟨a, a1, a2, a3⟩ := (hF v).mp h
    refine (Zs v a a1 (by omega)).mp (fun j hj z => ?_)
    rcases a3 with w | w
    · have : j = e a := (gd a (by omega)).si j (e a) hj (pv a (by omega)).en (z.trans w)
      rw [this]
      exact c0 a a1 a2
    · exact absurd (z.trans w).symm ((gd a (by omega)).ns _ j (pv a (by omega)).l9 (pv a (by omega)).lo hj)
  have Fn : ∀ v, ¬ Fk v → ∀ i, p ≤ i → i ≤ q → (isB on (D i) v ↔ isB on (D p) v) := by
    intro v h i
    induction i with
    | zero =>
      intro h1 h2
      have : p = 0 := by omega
      subst this
      exact Iff.rfl
    | succ i ih =>
      intro h1 h2
      rcases Nat.lt_or_ge i p with w | w
      · have : p = i + 1 := by omega
        subst this
        exact Iff.rfl
      · rw [st i (by omega) v, ← ih w (by omega)]
        have n1 : v ≠ (D i).so (e i) := fun z => h ((hF v).mpr ⟨i, w, by omega, Or.inl z⟩)
        have n2 : v ≠ (D i).num (l i) := fun z => h ((hF v).mpr ⟨i, w, by omega, Or.inr z⟩)
        exact ⟨fun z => z.elim (fun y => absurd y n1) (fun y => y.1), fun z => Or.inr ⟨z, n2⟩⟩
  obtain ⟨t, ht, tm⟩ := up_max 24 ⟨_, (hF _).mpr ⟨p, Nat.le_refl _, hpq, Or.inl rfl⟩⟩ (fun v h => isV_lt (FV v h))
  have tV := FV t ht
  -- it leaves, and it enters
  have both : (∃ a, p ≤ a ∧ a < q ∧ t = (D a).num (l a)) ∧ ∃ b, p ≤ b ∧ b < q ∧ t = (D b).so (e b) := by
    have lv : ∀ i, p ≤ i → i < q → isB on (D i) t → ¬ isB on (D (i + 1)) t → t = (D i).num (l i) := fun i h1 h2 y1 y2 => by
      rw [st i (by omega)] at y2
      exact Classical.byContradiction (fun z => y2 (Or.inr ⟨y1, z⟩))
    have en : ∀ i, p ≤ i → i < q → ¬ isB on (D i) t → ¬ ¬ isB on (D (i + 1)) t → t = (D i).so (e i) := fun i h1 h2 y1 y2 => by
      rw [Classical.not_not, st i (by omega)] at y2
      exact y2.elim id (fun z => absurd z.1 y1)
    obtain ⟨i, i1, i2, i3⟩ := (hF t).mp ht
    rcases i3 with w | w
    · refine ⟨?_, i, i1, i2, w⟩
      have y1 : ¬ isB on (D i) t := by rw [w]; exact sB i (by omega)
      have y2 : isB on (D (i + 1)) t := (st i (by omega) t).mpr (Or.inl w)
      by_cases y3 : isB on (D q) t
      · obtain ⟨a, a1, a2, a3, a4⟩ := turn (P := fun i => isB on (D i) t) ((hB t tV).mpr y3) i i1 y1
        exact ⟨a, a1, by omega, lv a a1 (by omega) a3 a4⟩
      · obtain ⟨a, a1, a2, a3, a4⟩ := turn (P := fun i => isB on (D i) t) y2 q (by omega) y3
        exact ⟨a, by omega, a2, lv a (by omega) a2 a3 a4⟩
    · refine ⟨⟨i, i1, i2, w⟩, ?_⟩
      have y1 : isB on (D i) t := by rw [w]; exact lB i (by omega)
      have y2 : ¬ isB on (D (i + 1)) t := by
        rw [st i (by omega)]
        rintro (z | z)
        · exact (gd i (by omega)).ns _ _ (pv i (by omega)).l9 (pv i (by omega)).lo (pv i (by omega)).en (w.symm.trans z)
        · exact z.2 w
      by_cases y3 : isB on (D q) t
      · obtain ⟨a, a1, a2, a3, a4⟩ := turn (P := fun i => ¬ isB on (D i) t) y2 q (by omega) (fun z => z y3)
        exact ⟨a, by omega, a2, en a (by omega) a2 a3 a4⟩
      · obtain ⟨a, a1, a2, a3, a4⟩ := turn (P := fun i => ¬ isB on (D i) t) (fun z => y3 ((hB t tV).mp z)) i i1 (fun z => z y1)
        exact ⟨a, a1, by omega, en a a1 (by omega) a3 a4⟩
  obtain ⟨⟨a, a1, a2, a3⟩, b, b1, b2, b3⟩ := both
  have ga := gd a (by omega)
  have gb := gd b (by omega)
  have pa := pv a (by omega)
  have pb := pv b (by omega)
  -- the point of the one in the rows of the other
  have pos : ∀ v, Fk v → v ≠ t → 0 ≤ ptR on (D a) v := by
    intro v hv vt
    by_cases w : isB on (D a) v
    · obtain ⟨k, k1, k2, k3⟩ := w
      rw [← k3, ptR_row ga (by omega) k2]
      by_cases y : (D a).B k < 0
      · have := pa.lev k k1 k2 y
        rw [← a3, k3] at this
        have := tm v hv
        omega
      · grind
    · rw [ptR_none ga (FV v hv) w]
      grind
  have neg : ptR on (D a) t < 0 := by
    rw [a3, ptR_row ga (by have := pa.l9; omega) pa.lo]
    exact pa.Bl
  have s : SatR n on (D b) (ptR on (D a)) := (Run_sat R b (by omega)).mpr ((Run_sat R a (by omega)).mp (SatR_pt ol ga))
  have row := s (l b) pb.lo
  have lt : (D b).num (l b) ≠ t := fun z => gb.ns _ _ pb.l9 pb.lo pb.en (z.trans b3)
  have x0 := pos _ ((hF _).mpr ⟨b, b1, b2, Or.inr rfl⟩) lt
  have Bb := pb.Bl
  have tt : ∀ j, j < n → (D b).so j = t → j = e b := fun j hj z => gb.si j (e b) hj pb.en (z.trans b3)
  have sm : sumR (fun j => (D b).S (l b) j * ptR on (D a) ((D b).so j)) n < 0 := by
    refine sumR_lt (e := e b) n (fun j hj => ?_) pb.en ?_
    · by_cases w : Fk ((D b).so j)
      · by_cases y : (D b).so j = t
        · have := tt j hj y
          rw [y, this]
          have := Rat.mul_nonneg (Rat.le_of_lt pb.Sp) (show 0 ≤ -ptR on (D a) t by grind)
          grind
        · have c1 := F0 _ w b b1 (by omega) j hj rfl
          have sj : ¬ 0 < (D b).S (l b) j := fun z => by
            rcases pb.ent j hj z with u | u
            · rw [c0 b b1 b2, c1] at u
              grind
            · have := tm _ w
              rw [← b3] at u
              omega
          have := Rat.mul_nonneg (show 0 ≤ -(D b).S (l b) j by grind) (pos _ w y)
          grind
      · have nb : ¬ isB on (D a) ((D b).so j) := fun z => Good_soB gb hj ((Fn _ w b b1 (by omega)).mpr ((Fn _ w a a1 (by omega)).mp z))
        rw [ptR_none ga (gb.sv j hj) nb]
        grind
    · rw [← b3]
      have := Rat.mul_pos pb.Sp (show 0 < -ptR on (D a) t by grind)
      grind
  grind
/-! fewer exchanges than sets of 14 numbers -/
noncomputable def codeR (on : Nat → Bool) (D : RD) : Nat → Nat
  | 0 => 0
  | i + 1 => 2 * codeR on D i + @ite Nat (isB on D (vid i)) (Classical.propDecidable _) 1 0
theorem codeR_lt {on : Nat → Bool} {D : RD} : ∀ i, codeR on D i < 2 ^ i
  | 0 => Nat.one_pos
  | i + 1 => by
    have := codeR_lt (on := on) (D := D) i
    unfold codeR
    rw [Nat.pow_succ]
    split <;> omega
theorem codeR_eq {on : Nat → Bool} {D D' : RD} : ∀ i, codeR on D i = codeR on D' i → ∀ v, v < i → (isB on D (vid v) ↔ isB on D' (vid v))
  | 0, _, v, h => absurd h (Nat.not_lt_zero _)
  | i + 1, h, v, hv => by
    unfold codeR at h
    have ih := codeR_eq (on := on) (D := D) (D' := D') i
    rcases Nat.lt_or_ge v i with q | q
    · refine ih ?_ v q
      split at h <;> split at h <;> omega
    · have : v = i := by omega
      subst this
      split at h <;> split at h
      · exact ⟨fun _ => by assumption, fun _ => by assumption⟩
      · omega
      · omega
      · exact ⟨fun z => absurd z (by assumption), fun z => absurd z (by assumption)⟩
theorem pigeon : ∀ (m : Nat) (f : Nat → Nat), (∀ i, i ≤ m → f i < m) → ∃ p q, p < q ∧ q ≤ m ∧ f p = f q
  | 0, f, h => absurd (h 0 (Nat.le_refl _)) (Nat.not_lt_zero _)
  | m + 1, f, h => by
    by_cases w : ∃ i, i < m + 1 ∧ f i = f (m + 1)
    · obtain ⟨i, h1, h2⟩ := w
      exact ⟨i, m + 1, h1, Nat.le_refl _, h2⟩
    · have ne : ∀ i, i ≤ m → f i ≠ f (m + 1) := fun i hi z => w ⟨i, by omega, z⟩
      obtain ⟨p, q, h1, h2, h3⟩ := pigeon m (fun i => if f i = m then f (m + 1) else f i) (fun i hi => by
        have a := h i (by omega)
        have b := h (m + 1) (Nat.le_refl _)
        have c := ne i hi
        split <;> omega)
      refine ⟨p, q, h1, by omega, ?_⟩
      have c1 := ne p (by omega)
      have c2 := ne q (by omega)
      split at h3 <;> split at h3 <;> omega
theorem Run_short {n : Nat} {on : Nat → Bool} {D : Nat → RD} {l e : Nat → Nat} {T : Nat} (R : RunR n on D l e T) : T < 16384 := by
  rcases Nat.lt_or_ge T 16384 with h | h
  · exact h
  obtain ⟨p, q, h1, h2, h3⟩ := pigeon 16384 (fun i => codeR on (D i) 14) (fun i _ => codeR_lt 14)
  refine absurd (no_cycle R h1 (by omega) (fun v hv => ?_)) id
  obtain ⟨i, hi, rfl⟩ := hv
  exact codeR_eq 14 h3 i hi
