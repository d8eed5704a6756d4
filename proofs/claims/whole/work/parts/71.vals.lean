/-! a fraction's value -/
def valF (x : Int × Int) : Rat := (x.1 : Rat) * ((x.2 : Rat))⁻¹
theorem val_mk {a b c : Int} (hb : 0 < b) (hc : 0 < c) : valF (c * a, c * b) = valF (a, b) := by
  unfold valF
  have h1 : ((b : Int) : Rat) ≠ 0 := by
    intro z
    have := Rat.intCast_eq_zero_iff.mp z
    omega
  have h2 : ((c : Int) : Rat) ≠ 0 := by
    intro z
    have := Rat.intCast_eq_zero_iff.mp z
    omega
  dsimp only
  rw [Rat.intCast_mul, Rat.intCast_mul]
  have e1 := Rat.mul_inv_cancel _ h1
  have e2 := Rat.mul_inv_cancel _ h2
  have e3 : ((c : Rat) * (b : Rat))⁻¹ = (c : Rat)⁻¹ * (b : Rat)⁻¹ := by
    rw [Rat.inv_mul_rev]
    exact Rat.mul_comm _ _
  rw [e3]
  grind
theorem redq_val {n d : Int} (hd : 0 < d) {z : Int × Int} (h : redq n d = some z) : valF z = valF (n, d) := by
  unfold redq at h
  split at h
  · cases h
    have g := gcI_pos (n := n) hd
    obtain ⟨⟨a, ha⟩, ⟨b, hb⟩⟩ := gcI_dvd n d
    have e1 : n.tdiv (gcI n d) = a := by
      rw [Int.tdiv_eq_ediv_of_dvd (gcI_dvd n d).1]
      exact Int.ediv_eq_of_eq_mul_right (by omega) ha
    have e2 : d.tdiv (gcI n d) = b := by
      rw [Int.tdiv_eq_ediv_of_dvd (gcI_dvd n d).2]
      exact Int.ediv_eq_of_eq_mul_right (by omega) hb
    have bp : 0 < b := by
      rcases Int.lt_or_le 0 b with z | z
      · exact z
      · have := Int.mul_nonneg (show 0 ≤ gcI n d by omega) (show 0 ≤ -b by omega)
        rw [Int.mul_neg] at this
        omega
    rw [e1, e2, ← val_mk (a := a) bp g, ← ha, ← hb]
  · cases h
theorem cast_ne {b : Int} (h : b ≠ 0) : ((b : Int) : Rat) ≠ 0 := fun z => h (Rat.intCast_eq_zero_iff.mp z)
theorem mulq_val {x y : Int × Int} (hx : 0 < x.2) (hy : 0 < y.2) {z : Int × Int} (h : mulq x y = some z) : valF z = valF x * valF y := by
  unfold mulq at h
  split at h
  · rw [redq_val (Int.mul_pos hx hy) h]
    unfold valF
    dsimp only
    rw [Rat.intCast_mul, Rat.intCast_mul, Rat.inv_mul_rev]
    grind
  · cases h
theorem addq_val {x y : Int × Int} (hx : 0 < x.2) (hy : 0 < y.2) {z : Int × Int} (h : addq x y = some z) : valF z = valF x + valF y := by
  unfold addq at h
  split at h
  · rw [redq_val (Int.mul_pos hx hy) h]
    unfold valF
    dsimp only
    have e1 := Rat.mul_inv_cancel _ (cast_ne (b := x.2) (by omega))
    have e2 := Rat.mul_inv_cancel _ (cast_ne (b := y.2) (by omega))
    rw [Rat.intCast_add, Rat.intCast_mul, Rat.intCast_mul, Rat.intCast_mul, Rat.inv_mul_rev]
    grind
  · cases h
theorem negq_val (x : Int × Int) : valF (negq x) = -valF x := by
  unfold valF negq
  dsimp only
  rw [Rat.intCast_neg]
  grind
theorem divq_val {x y : Int × Int} (hx : 0 < x.2) (hy : 0 < y.2) (h0 : y.1 ≠ 0) {z : Int × Int} (h : divq x y = some z) : valF z = valF x / valF y := by
  have e2 := Rat.mul_inv_cancel _ (cast_ne (b := y.2) (by omega))
  have e1 := Rat.mul_inv_cancel _ (cast_ne h0)
  have iv : (valF y)⁻¹ = (y.2 : Rat) * (y.1 : Rat)⁻¹ := by
    unfold valF
    rw [Rat.inv_mul_rev, Rat.inv_inv]
  unfold divq at h
  split at h
  · rw [mulq_val hx (by dsimp only; omega) h, Rat.div_def, iv]
    congr 1
    unfold valF
    dsimp only
    rw [Rat.intCast_neg, Rat.intCast_neg]
    have : (-(y.1 : Rat))⁻¹ = -(y.1 : Rat)⁻¹ := by grind
    rw [this]
    grind
  · rw [mulq_val hx (by dsimp only; omega) h, Rat.div_def, iv]
    rfl
theorem val_lt {x y : Int × Int} (hx : 0 < x.2) (hy : 0 < y.2) : valF x < valF y ↔ x.1 * y.2 < y.1 * x.2 := by
  have px : (0 : Rat) < (x.2 : Rat) := Rat.intCast_pos.mpr hx
  have py : (0 : Rat) < (y.2 : Rat) := Rat.intCast_pos.mpr hy
  have e1 := Rat.mul_inv_cancel _ (cast_ne (b := x.2) (by omega))
  have e2 := Rat.mul_inv_cancel _ (cast_ne (b := y.2) (by omega))
  have ix : 0 < (x.2 : Rat)⁻¹ := Rat.inv_pos.mpr px
  have iy : 0 < (y.2 : Rat)⁻¹ := Rat.inv_pos.mpr py
  rw [← Rat.intCast_lt_intCast, Rat.intCast_mul, Rat.intCast_mul]
  unfold valF
  constructor
  · intro h
    have h2 : 0 < (y.1 : Rat) * (y.2 : Rat)⁻¹ - (x.1 : Rat) * (x.2 : Rat)⁻¹ := by grind
    have h3 := Rat.mul_pos h2 (Rat.mul_pos px py)
    have h4 : ((y.1 : Rat) * (y.2 : Rat)⁻¹ - (x.1 : Rat) * (x.2 : Rat)⁻¹) * ((x.2 : Rat) * (y.2 : Rat)) = (y.1 : Rat) * (x.2 : Rat) - (x.1 : Rat) * (y.2 : Rat) := by grind
    rw [h4] at h3
    grind
  · intro h
    have h2 : 0 < (y.1 : Rat) * (x.2 : Rat) - (x.1 : Rat) * (y.2 : Rat) := by grind
    have h3 := Rat.mul_pos h2 (Rat.mul_pos ix iy)
    have h4 : ((y.1 : Rat) * (x.2 : Rat) - (x.1 : Rat) * (y.2 : Rat)) * ((x.2 : Rat)⁻¹ * (y.2 : Rat)⁻¹) = (y.1 : Rat) * (y.2 : Rat)⁻¹ - (x.1 : Rat) * (x.2 : Rat)⁻¹ := by grind
    rw [h4] at h3
    grind
theorem val_neg {x : Int × Int} (hx : 0 < x.2) : valF x < 0 ↔ x.1 < 0 := by
  have := val_lt (x := x) (y := (0, 1)) hx (by decide)
  have z : valF (0, 1) = 0 := by unfold valF; grind
  rw [z] at this
  rw [this]
  dsimp only
  omega
theorem val_pos {x : Int × Int} (hx : 0 < x.2) : 0 < valF x ↔ 0 < x.1 := by
  have := val_lt (x := (0, 1)) (y := x) (by decide) hx
  have z : valF (0, 1) = 0 := by unfold valF; grind
  rw [z] at this
  rw [this]
  dsimp only
  omega
theorem mulq_comm (x y : Int × Int) : mulq x y = mulq y x := by
  unfold mulq
  rw [Int.mul_comm x.1, Int.mul_comm x.2]
theorem addq_comm (x y : Int × Int) : addq x y = addq y x := by
  unfold addq
  rw [Int.mul_comm x.2 y.2, Int.add_comm, Bool.and_comm (fitsL (x.1 * y.2))]
theorem obm_comm (p q : Q2) : ob mulq p q = ob mulq q p := by
  cases p <;> cases q <;> first | rfl | exact mulq_comm _ _
theorem oba_comm (p q : Q2) : ob addq p q = ob addq q p := by
  cases p <;> cases q <;> first | rfl | exact addq_comm _ _
