/-! what the document's words come to, over plain rows: d the dues, r the rates told (and 1 more), l the limits told (and 1 more) of days; t the bonds' terms (what * 5 + bond); n how many bonds; y rates told of rungs (-1: none) -/
abbrev F1 : Type := Nat → Int
def pos (d : F1) : Nat → Bool := fun k => decide (0 < d k)
def cnt (d : F1) (k : Nat) : Nat := cntP (pos d) k
def rungs (d : F1) : Nat := cnt d 60
theorem cnt_succ (d : F1) (k : Nat) : cnt d (k + 1) = cnt d k + if 0 < d (k + 1) then 1 else 0 := by
  unfold cnt
  simp [cntP, pos]
theorem cnt_mono (d : F1) {m n : Nat} (h : m ≤ n) : cnt d m ≤ cnt d n := cntP_mono _ h
theorem cnt_0 (d : F1) : cnt d 0 = 0 := rfl
/-- the day of a rung -/
def dayUp (d : F1) (i : Nat) : Nat → Nat
  | 0 => 0
  | k + 1 => if 0 < d (k + 1) ∧ cnt d k = i then k + 1 else dayUp d i k
def dayS (d : F1) (i : Nat) : Nat := dayUp d i 60
theorem dayUp_ok (d : F1) (i : Nat) : ∀ n, i < cnt d n → 1 ≤ dayUp d i n ∧ dayUp d i n ≤ n ∧ 0 < d (dayUp d i n) ∧ cnt d (dayUp d i n - 1) = i
  | 0, h => absurd h (Nat.not_lt_zero _)
  | n + 1, h => by
    unfold dayUp
    by_cases q : 0 < d (n + 1) ∧ cnt d n = i
    · rw [if_pos q]
      exact ⟨by omega, Nat.le_refl _, q.1, q.2⟩
    · rw [if_neg q]
      rw [cnt_succ] at h
      have h2 : i < cnt d n := by
        by_cases q2 : 0 < d (n + 1)
        · rw [if_pos q2] at h
          have : cnt d n ≠ i := fun e => q ⟨q2, e⟩
          omega
        · rw [if_neg q2] at h
          omega
      obtain ⟨a1, a2, a3, a4⟩ := dayUp_ok d i n h2
      exact ⟨a1, by omega, a3, a4⟩
theorem dayS_ok {d : F1} {i : Nat} (h : i < rungs d) : 1 ≤ dayS d i ∧ dayS d i ≤ 60 ∧ 0 < d (dayS d i) ∧ cnt d (dayS d i - 1) = i ∧ cnt d (dayS d i) = i + 1 := by
  obtain ⟨a1, a2, a3, a4⟩ := dayUp_ok d i 60 h
  refine ⟨a1, a2, a3, a4, ?_⟩
  have z1 : 1 ≤ dayS d i := a1
  have z3 : 0 < d (dayS d i) := a3
  have z4 : cnt d (dayS d i - 1) = i := a4
  have e := cnt_succ d (dayS d i - 1)
  rw [show dayS d i - 1 + 1 = dayS d i by omega, if_pos z3, z4] at e
  exact e
/-- the day that is a rung's is this one -/
theorem dayS_eq {d : F1} {k : Nat} (h1 : 1 ≤ k) (h2 : k ≤ 60) (h3 : 0 < d k) : cnt d (k - 1) < rungs d ∧ dayS d (cnt d (k - 1)) = k := by
  have e1 : cnt d k = cnt d (k - 1) + 1 := by
    have := cnt_succ d (k - 1)
    rw [show k - 1 + 1 = k by omega, if_pos h3] at this
    exact this
  have hlt : cnt d (k - 1) < rungs d := by
    have := cnt_mono d h2
    unfold rungs
    omega
  refine ⟨hlt, ?_⟩
  obtain ⟨b1, b2, b3, b4, b5⟩ := dayS_ok hlt
  rcases Nat.lt_trichotomy (dayS d (cnt d (k - 1))) k with q | q | q
  · have := cnt_mono d (show dayS d (cnt d (k - 1)) ≤ k - 1 by omega)
    omega
  · exact q
  · have := cnt_mono d (show k ≤ dayS d (cnt d (k - 1)) - 1 by omega)
    omega
theorem dayS_mono {d : F1} {i j : Nat} (h : i < j) (hj : j < rungs d) : dayS d i < dayS d j := by
  obtain ⟨a1, a2, a3, a4, a5⟩ := dayS_ok (d := d) (i := i) (by omega)
  obtain ⟨b1, b2, b3, b4, b5⟩ := dayS_ok hj
  rcases Nat.lt_or_ge (dayS d i) (dayS d j) with q | q
  · exact q
  · have := cnt_mono d q
    omega
/-- a day's rung: how many stand ahead of it -/
theorem rung_le {d : F1} {i k : Nat} (h : i < rungs d) (hk : 1 ≤ k) : k ≤ dayS d i ↔ cnt d (k - 1) ≤ i := by
  obtain ⟨a1, a2, a3, a4, a5⟩ := dayS_ok h
  constructor
  · intro q
    have := cnt_mono d (show k - 1 ≤ dayS d i - 1 by omega)
    omega
  · intro q
    rcases Nat.lt_or_ge (dayS d i) k with z | z
    · have := cnt_mono d (show dayS d i ≤ k - 1 by omega)
      omega
    · exact z
def rungForS (d : F1) (k : Nat) : Int := if cnt d (k - 1) < rungs d then (cnt d (k - 1) : Int) else -1
def rateS (r : F1) : Nat → Int
  | 0 => 0
  | k + 1 => if r (k + 1) = 0 then rateS r k else r (k + 1) - 1
def rateByS (d r y : F1) (k : Nat) : Int := if cnt d (k - 1) < rungs d ∧ y (cnt d (k - 1)) ≠ -1 then y (cnt d (k - 1)) else rateS r k
def sumP (f : F1) : Nat → Int
  | 0 => 0
  | k + 1 => sumP f k + f (k + 1)
/-- what one bond pays on a day; R the rates of days -/
def calledUp (R : F1) (step en : Nat) : Nat → Nat
  | 0 => en
  | k + 1 => if (k + 1) % step = 0 ∧ k + 1 < en ∧ R (k + 1) = 0 then (if calledUp R step en k < en then calledUp R step en k else k + 1) else calledUp R step en k
def payS (kind coupon : Int) (step en : Nat) (pay : Int) (R : F1) (k : Nat) : Int :=
  if k > en ∨ (k ≠ en ∧ k % step ≠ 0) then 0 else
  let j : Int := (((if k = en then (en - 1) / step else k / step - 1 : Nat)) : Int)
  let last : Int := if k = en then pay else 0
  if kind = 0 then coupon + last
  else if kind = 1 then last
  else if kind = 2 then coupon + last + j
  else if kind = 3 then last + (if j = 0 then pay / 2 else 0) - (if k = en then pay / 2 else 0)
  else if kind = 4 then coupon + last + j + coupon * R k
  else if k > calledUp R step en 60 then 0 else coupon + j + (if k = calledUp R step en 60 then pay else 0)
def payT (t : F1) (b : Nat) (R : F1) (k : Nat) : Int := payS (t b) (t (10 + b)) (t (15 + b)).toNat (t (20 + b)).toNat (t (25 + b)) R k
def payAt (d t : F1) (b : Nat) (R : F1) (i : Nat) : Int := sumP (fun k => if cnt d (k - 1) = i then payT t b R k else 0) 60
def allS (d t : F1) (b : Nat) (R : F1) : Nat → Int
  | 0 => 0
  | i + 1 => allS d t b R i + payAt d t b R i
def lastS (d t : F1) (b : Nat) (R : F1) : Nat → Int
  | 0 => -1
  | i + 1 => if 0 < payAt d t b R i then (i : Int) else lastS d t b R i
/-! what holds between calls -/
def Off (S : Nat → Nat → Prop) (M M2 : Mem) : Prop := ∀ k j, ¬ S k j → M2 k j = M k j
/-- a book of the class against rows of the reference -/
def BookR (D R L : F1) (B : Nat → F1) (nb : Int) (d r l t : F1) (n : Int) : Prop :=
  (∀ k, k ≤ 60 → D k = d k ∧ 0 ≤ d k ∧ d k ≤ 99 ∧ R k = r k - 1 ∧ 0 ≤ r k ∧ r k ≤ 4 ∧ L k = l k - 1 ∧ 0 ≤ l k ∧ l k ≤ 100) ∧
  (d 0 = 0 ∧ r 0 = 0 ∧ l 0 = 0) ∧ cnt d 60 ≤ 5 ∧ cnt r 60 ≤ 6 ∧ cnt l 60 ≤ 5 ∧ nb = n ∧ 0 ≤ n ∧ n ≤ 5 ∧
  ∀ b : Nat, (b : Int) < n → (∀ w, w < 7 → B b w = t (5 * w + b)) ∧ (0 ≤ t b ∧ t b ≤ 5) ∧ (1 ≤ t (5 + b) ∧ t (5 + b) ≤ 99) ∧ (0 ≤ t (10 + b) ∧ t (10 + b) ≤ 9) ∧ (1 ≤ t (15 + b) ∧ t (15 + b) ≤ 30) ∧ (1 ≤ t (20 + b) ∧ t (20 + b) ≤ 60) ∧ (1 ≤ t (25 + b) ∧ t (25 + b) ≤ 60) ∧ (0 ≤ t (30 + b) ∧ t (30 + b) ≤ 99)
def InvB (M : Mem) : Prop := BookR (M 3) (M 5) (M 7) (fun b => M (9 + b)) (M 1 4) (M 190) (M 191) (M 192) (M 193) (M 189 3)
def InvK (M : Mem) : Prop := M 2 1 = 0 ∧ M 2 2 = 5 ∧ M 4 1 = -1 ∧ M 4 2 = 6 ∧ M 6 1 = -1 ∧ M 6 2 = 5
def InvR (M : Mem) : Prop := M 189 5 = (rungs (M 190) : Int) ∧ (∀ i, i < rungs (M 190) → M 194 i = (dayS (M 190) i : Int)) ∧ ∀ i, i < 5 → M 195 i = -1
def InvI (M : Mem) : Prop := fb M 0 2 = fb M 189 28 ∧ (fb M 0 2 = true → BookR (M 16) (M 18) (M 20) (fun b => M (22 + b)) (M 14 4) (M 208) (fun k => M 208 (61 + k)) (fun k => M 208 (122 + k)) (fun k => M 208 (183 + k)) (M 189 29))
def InvS (M : Mem) : Prop := ∀ j, j < 4 → M (181 + 2 * j) 1 = M 209 j - 1 ∧ 0 ≤ M 209 j ∧ M 209 j ≤ 2 ∧ M (181 + 2 * j) 2 = M 210 j ∧ 0 ≤ M 210 j ∧ M 210 j ≤ 40 ∧ (M 209 j = 0 → M 210 j = 0) ∧ ∀ i, i < 40 → M (182 + 2 * j) i = M 211 (40 * j + i) ∧ R32 (M 211 (40 * j + i))
def InvN (M : Mem) : Prop := ∀ i, i < 5 → M 69 i = -1
def SceneOK (M : Mem) (s : Nat) (d r l t y : F1) (n : Int) : Prop :=
  M s 0 = (rungs d : Int) ∧
  (∀ i, i < rungs d → M (s + 1) i = (dayS d i : Int) ∧ M (s + 2) i = d (dayS d i) ∧ M (s + 3) i = rateByS d r y (dayS d i) ∧ M (s + 4) i = l (dayS d i) - 1) ∧
  (∀ k, 1 ≤ k → k ≤ 60 → M (s + 5) k = rungForS d k ∧ M (s + 6) k = rateByS d r y k) ∧
  ∀ b : Nat, (b : Int) < n → (∀ k, 1 ≤ k → k ≤ 60 → M (s + 8 + b) k = payT t b (rateByS d r y) k) ∧ (∀ i, i < rungs d → M (s + 14 + b) i = payAt d t b (rateByS d r y) i) ∧ M (s + 19) b = allS d t b (rateByS d r y) (rungs d) ∧ M (s + 20) b = lastS d t b (rateByS d r y) (rungs d)
def noY : F1 := fun _ => -1
def InvC (DK : Mem → Prop) (M : Mem) : Prop := fb M 0 5 = false → SceneOK M 27 (M 190) (M 191) (M 192) (M 193) noY (M 189 3) ∧ (fb M 0 13 = true → DK M)
def Inv (DK : Mem → Prop) (M : Mem) : Prop := InvB M ∧ InvK M ∧ InvR M ∧ InvI M ∧ InvS M ∧ InvN M ∧ InvC DK M
