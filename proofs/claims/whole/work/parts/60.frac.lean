/-! fractions, plainly: none is GREAT -/
abbrev Q2 : Type := Option (Int × Int)
def fitsL (z : Int) : Bool := decide (-9223372036854775808 < z ∧ z < 9223372036854775808)
def gcI (n d : Int) : Int := ((Int.gcd n d : Nat) : Int)
def redq (n d : Int) : Q2 := if fitsL n && fitsL d then some (n.tdiv (gcI n d), d.tdiv (gcI n d)) else none
def mulq (x y : Int × Int) : Q2 := if fitsL (x.1 * y.1) && fitsL (x.2 * y.2) then redq (x.1 * y.1) (x.2 * y.2) else none
def addq (x y : Int × Int) : Q2 := if fitsL (x.1 * y.2) && fitsL (y.1 * x.2) && fitsL (x.2 * y.2) then redq (x.1 * y.2 + y.1 * x.2) (x.2 * y.2) else none
def divq (x y : Int × Int) : Q2 := if y.1 < 0 then mulq x (-y.2, -y.1) else mulq x (y.2, y.1)
def negq (x : Int × Int) : Int × Int := (-x.1, x.2)
def ob (f : Int × Int → Int × Int → Q2) : Q2 → Q2 → Q2
  | some x, some y => f x y
  | _, _ => none
theorem ob_l (f : Int × Int → Int × Int → Q2) (y : Q2) : ob f none y = none := rfl
theorem ob_r (f : Int × Int → Int × Int → Q2) (x : Q2) : ob f x none = none := by cases x <;> rfl
def Fr (x : Int × Int) : Prop := 0 < x.2 ∧ x.2 < 9223372036854775808 ∧ -9223372036854775808 < x.1 ∧ x.1 < 9223372036854775808 ∧ Int.gcd x.1 x.2 = 1
def FrO (q : Q2) : Prop := ∀ x, q = some x → Fr x
theorem FrO_none : FrO none := fun x h => by cases h
theorem FrO_some {x : Int × Int} (h : Fr x) : FrO (some x) := fun y e => by cases e; exact h
theorem fitsL_iff {z : Int} : fitsL z = true ↔ -9223372036854775808 < z ∧ z < 9223372036854775808 := ⟨fun h => of_decide_eq_true h, fun h => decide_eq_true h⟩
theorem gcI_pos {n d : Int} (h : 0 < d) : 0 < gcI n d := by
  unfold gcI
  have : 0 < Int.gcd n d := Nat.pos_of_ne_zero fun z => by
    have := (Int.gcd_eq_zero_iff.mp z).2
    omega
  omega
theorem gcI_dvd (n d : Int) : gcI n d ∣ n ∧ gcI n d ∣ d := ⟨Int.gcd_dvd_left .., Int.gcd_dvd_right ..⟩
theorem redq_some {n d : Int} (hn : fitsL n = true) (hd : fitsL d = true) : redq n d = some (n.tdiv (gcI n d), d.tdiv (gcI n d)) := by
  unfold redq
  rw [hn, hd]
  rfl
theorem redq_none {n d : Int} (h : fitsL n = false ∨ fitsL d = false) : redq n d = none := by
  unfold redq
  rcases h with h | h
  · rw [h]; rfl
  · rw [h, Bool.and_false]; rfl
theorem tdiv_bound {n g : Int} (hg : 0 < g) {b : Int} (hb : -b < n ∧ n < b) : -b < n.tdiv g ∧ n.tdiv g < b := by
  rcases Int.lt_or_le n 0 with h | h
  · have e : n.tdiv g = -((-n) / g) := by
      rw [show n = -(-n) by omega, Int.neg_tdiv, Int.tdiv_eq_ediv_of_nonneg (by omega), Int.neg_neg]
    have h1 := Int.ediv_nonneg (a := -n) (b := g) (by omega) (by omega)
    have h2 := Int.ediv_le_self g (show 0 ≤ -n by omega)
    omega
  · rw [Int.tdiv_eq_ediv_of_nonneg h]
    have h1 := Int.ediv_nonneg (a := n) (b := g) (by omega) (by omega)
    have h2 := Int.ediv_le_self g h
    omega
theorem redq_Fr {n d : Int} (hd : 0 < d) : FrO (redq n d) := by
  intro x h
  by_cases q : fitsL n = true ∧ fitsL d = true
  · rw [redq_some q.1 q.2] at h
    cases h
    have f1 := fitsL_iff.mp q.1
    have f2 := fitsL_iff.mp q.2
    have g := gcI_pos (n := n) hd
    obtain ⟨⟨a, ha⟩, ⟨b, hb⟩⟩ := gcI_dvd n d
    have e1 : n.tdiv (gcI n d) = a := by
      rw [Int.tdiv_eq_ediv_of_dvd (gcI_dvd n d).1]
      exact Int.ediv_eq_of_eq_mul_right (by omega) ha
    have e2 : d.tdiv (gcI n d) = b := by
      rw [Int.tdiv_eq_ediv_of_dvd (gcI_dvd n d).2]
      exact Int.ediv_eq_of_eq_mul_right (by omega) hb
    have b1 := tdiv_bound (n := n) g (b := 9223372036854775808) (by omega)
    have b2 := tdiv_bound (n := d) g (b := 9223372036854775808) (by omega)
    have bp : 0 < b := by
      rcases Int.lt_or_le 0 b with z | z
      · exact z
      · have := Int.mul_nonneg (show 0 ≤ gcI n d by omega) (show 0 ≤ -b by omega)
        rw [Int.mul_neg] at this
        omega
    refine ⟨by rw [e2]; exact bp, by omega, by omega, by omega, ?_⟩
    dsimp only
    rw [e1, e2]
    have hh : Int.gcd n d = Int.gcd (gcI n d * a) (gcI n d * b) := by rw [← ha, ← hb]
    rw [Int.gcd_mul_left] at hh
    have ne : (gcI n d).natAbs = Int.gcd n d := by unfold gcI; exact Int.natAbs_natCast _
    rw [ne] at hh
    have gp : 0 < Int.gcd n d := by
      have := g
      unfold gcI at this
      omega
    have : Int.gcd n d * 1 = Int.gcd n d * Int.gcd a b := by rw [Nat.mul_one]; exact hh
    exact (Nat.eq_of_mul_eq_mul_left gp this).symm
  · rw [redq_none (by
      cases h1 : fitsL n
      · exact Or.inl rfl
      · cases h2 : fitsL d
        · exact Or.inr rfl
        · exact absurd ⟨h1, h2⟩ q)] at h
    cases h
theorem redq_self {x : Int × Int} (h : Fr x) : redq x.1 x.2 = some x := by
  obtain ⟨h1, h2, h3, h4, h5⟩ := h
  have e : gcI x.1 x.2 = 1 := by unfold gcI; rw [h5]; rfl
  rw [redq_some (decide_eq_true ⟨h3, h4⟩) (decide_eq_true ⟨by omega, h2⟩), e, Int.tdiv_one, Int.tdiv_one]
theorem mulq_Fr {x y : Int × Int} (hx : 0 < x.2) (hy : 0 < y.2) : FrO (mulq x y) := by
  unfold mulq
  split
  · exact redq_Fr (Int.mul_pos hx hy)
  · exact FrO_none
theorem addq_Fr {x y : Int × Int} (hx : 0 < x.2) (hy : 0 < y.2) : FrO (addq x y) := by
  unfold addq
  split
  · exact redq_Fr (Int.mul_pos hx hy)
  · exact FrO_none
theorem divq_Fr {x y : Int × Int} (hx : 0 < x.2) (hy : y.1 ≠ 0) : FrO (divq x y) := by
  unfold divq
  split
  · exact mulq_Fr hx (by dsimp only; omega)
  · exact mulq_Fr hx (by dsimp only; omega)
theorem negq_Fr {x : Int × Int} (h : Fr x) : Fr (negq x) := by
  obtain ⟨h1, h2, h3, h4, h5⟩ := h
  exact ⟨h1, h2, by unfold negq; dsimp only; omega, by unfold negq; dsimp only; omega, by unfold negq; dsimp only; rw [Int.neg_gcd]; exact h5⟩
theorem ob_Fr {f : Int × Int → Int × Int → Q2} (hf : ∀ x y, Fr x → Fr y → FrO (f x y)) {p q : Q2} (hp : FrO p) (hq : FrO q) : FrO (ob f p q) := by
  cases p with
  | none => exact FrO_none
  | some x =>
    cases q with
    | none => exact FrO_none
    | some y => exact hf x y (hp x rfl) (hq y rfl)
theorem ob_add_Fr {p q : Q2} (hp : FrO p) (hq : FrO q) : FrO (ob addq p q) := ob_Fr (fun _ _ a b => addq_Fr a.1 b.1) hp hq
theorem ob_mul_Fr {p q : Q2} (hp : FrO p) (hq : FrO q) : FrO (ob mulq p q) := ob_Fr (fun _ _ a b => mulq_Fr a.1 b.1) hp hq
theorem map_neg_Fr {p : Q2} (hp : FrO p) : FrO (p.map negq) := by
  cases p with
  | none => exact FrO_none
  | some x => exact FrO_some (negq_Fr (hp x rfl))
theorem mulq_neg {x : Int × Int} (h : Fr x) : mulq x (-1, 1) = some (negq x) := by
  have h' := negq_Fr h
  have hs := redq_self h'
  obtain ⟨h1, h2, h3, h4, h5⟩ := h
  unfold mulq
  dsimp only
  rw [Int.mul_neg, Int.mul_one, Int.mul_one, show fitsL (-x.1) = true from decide_eq_true (by omega), show fitsL x.2 = true from decide_eq_true (by omega)]
  exact hs
theorem Fr_int {z : Int} (h : -9223372036854775808 < z ∧ z < 9223372036854775808)   : Fr (z, 1) := ⟨(show (0 : Int) < 1 by decide), (show (1 : Int) < 9223372036854775808 by decide), h.1, h.2, by dsimp only; exact Int.gcd_one_right ..⟩
theorem redq_int {z : Int} (h : -9223372036854775808 < z ∧ z < 9223372036854775808) : redq z 1 = some (z, 1) := redq_self (Fr_int h)
