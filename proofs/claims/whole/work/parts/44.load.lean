/-! dues from a sheet -/
def okD (a v : Int) : Bool := decide ((1 ≤ a ∧ a ≤ 60) ∧ (0 ≤ v ∧ v ≤ 99))
def fullD (d : F1) (a v : Int) : Bool := decide (0 < v ∧ ¬ 0 < d a.toNat ∧ ¬ cnt d 60 < 5)
def dueA (d : F1) (a v : Int) : Int := if okD a v then (if fullD d a v then -4 else d a.toNat) else -2
def dueR (d : F1) (a v : Int) : F1 := if okD a v then (if fullD d a v then d else updI d a.toNat v) else d
def DRow (d : F1) : Prop := (∀ j, j ≤ 60 → 0 ≤ d j ∧ d j ≤ 99) ∧ d 0 = 0 ∧ cnt d 60 ≤ 5
theorem dueR_row {d : F1} (h : DRow d) (a v : Int) : DRow (dueR d a v) := by
  unfold dueR
  by_cases q : okD a v = true
  · rw [if_pos q]
    by_cases q2 : fullD d a v = true
    · rw [if_pos q2]; exact h
    · rw [if_neg q2]
      have q := of_decide_eq_true q
      refine ⟨fun j hj => ?_, ?_, cnt_upd_le h.2.2 (fun z => q2 (decide_eq_true z))⟩
      · by_cases e : j = a.toNat
        · subst e; rw [updI_s]; exact q.2
        · rw [updI_n _ _ e]; exact h.1 j hj
      · rw [updI_n _ _ (by omega)]; exact h.2.1
  · rw [if_neg q]; exact h
theorem due_agr {D d : F1} (h : ∀ j, j ≤ 60 → D j = d j) (a v : Int) : dueA D a v = dueA d a v ∧ ∀ j, j ≤ 60 → dueR D a v j = dueR d a v j := by
  have cc : cnt D 60 = cnt d 60 := cntP_congr fun k _ hk => by unfold pos; rw [h k hk]
  unfold dueA dueR
  by_cases q : okD a v = true
  · have q' := of_decide_eq_true q
    have ha : D a.toNat = d a.toNat := h _ (by omega)
    have ef : fullD D a v = fullD d a v := by
      unfold fullD
      rw [cc, ha]
    rw [if_pos q, if_pos q, if_pos q, if_pos q, ef, ha]
    refine ⟨rfl, fun j hj => ?_⟩
    by_cases q2 : fullD d a v = true
    · rw [if_pos q2, if_pos q2]; exact h j hj
    · rw [if_neg q2, if_neg q2]
      by_cases e : j = a.toNat
      · rw [e, updI_s, updI_s]
      · rw [updI_n _ _ e, updI_n _ _ e]; exact h j hj
  · rw [if_neg q, if_neg q, if_neg q, if_neg q]
    exact ⟨rfl, h⟩
theorem due_cls {M : Mem} {Q : Int → Mem → Prop} {a1 a2 : Int} (h1 : R32 a1) (h2 : R32 a2) (hrow : DRow (M 3)) (k21 : M 2 1 = 0) (k22 : M 2 2 = 5) (h : ∀ M' : Mem, M' 3 = dueR (M 3) a1 a2 → (M' 0 5 = 1 ∨ ∀ k j, M' k j = M k j) → (∀ k j, k ≠ 3 → ¬ (k = 0 ∧ j = 5) → M' k j = M k j) → Q (dueA (M 3) a1 a2) M') : wp_X11_due 0 a1 a2 M Q := by
  have bad : ¬ ((1 ≤ a1 ∧ a1 ≤ 60) ∧ (0 ≤ a2 ∧ a2 ≤ 99)) → Q (-2) M := by
    intro z
    have e : okD a1 a2 = false := decide_eq_false z
    have := h M (by unfold dueR; rw [e]; rfl) (Or.inr fun _ _ => rfl) (fun _ _ _ _ => rfl)
    unfold dueA at this
    rw [e] at this
    exact this
  unfold wp_X11_due wp_X11_isDay
  rw [X11_within_iff, wl_1, wl_60, w32_R h1]
  refine dcf (fun e => ?_) (fun e => bad (fun z => e z.1))
  rw [X11_within_iff, wl_0, wl_99, w32_R h2]
  refine dct (fun e2 => ?_) (fun e2 => bad (fun z => e2 z.2))
  obtain ⟨k, rfl⟩ : ∃ k : Nat, a1 = (k : Int) := ⟨a1.toNat, by omega⟩
  have ok : okD (k : Int) a2 = true := decide_eq_true ⟨e, e2⟩
  have kt : ((k : Int)).toNat = k := by omega
  rintro M22 rfl
  have hr : ∀ j, j ≠ 0 → st2 M 0 5 (bz true) j = M j := fun j hj => st2_off M _ hj
  have hcn : cntP (fun j => decide (M 3 j ≠ 0)) 60 = cnt (M 3) 60 := cntne_due fun j hj => ⟨rfl, (hrow.1 j hj).1⟩
  have hcond : (a2 ≠ 0 ∧ M 3 k = 0 ∧ ¬ cntP (fun j => decide (M 3 j ≠ 0)) 60 < 5) ↔ (0 < a2 ∧ ¬ 0 < M 3 ((k : Int)).toNat ∧ ¬ cnt (M 3) 60 < 5) := by
    have := hrow.1 k (by omega)
    rw [hcn, kt]
    constructor
    · rintro ⟨x, y, z⟩; exact ⟨by omega, by omega, z⟩
    · rintro ⟨x, y, z⟩; exact ⟨by omega, by omega, z⟩
  rw [rtv_0_0, rtv_1_0]
  refine X2_tell_ok (mx := 5) (no := 0) rtv_2_0 LN_3.1 (fun j hj => ?_) (by rw [hr 2 (by decide)]; exact k21) (R32_i (by decide) (by decide)) (by rw [hr 2 (by decide)]; exact k22) (by decide) (by omega) h2 ?_ ?_
  · rw [hr 3 (by decide)]
    have := hrow.1 j hj
    exact ⟨by omega, by omega⟩
  · intro q
    rw [hr 3 (by decide)] at q
    have fu : fullD (M 3) (k : Int) a2 = true := decide_eq_true (hcond.mp q)
    have := h (st2 M 0 5 (bz true)) (by rw [hr 3 (by decide)]; unfold dueR; rw [ok, fu]; rfl) (Or.inl (st2_s _ _ _ _)) (fun a j _ z => st2_n _ _ z)
    unfold dueA at this
    rw [ok, fu] at this
    exact this
  · intro q
    rw [hr 3 (by decide)] at q ⊢
    have fu : fullD (M 3) (k : Int) a2 = false := decide_eq_false (fun z => q (hcond.mpr z))
    have := h (st2 (st2 M 0 5 (bz true)) 3 k a2) (by rw [st2_row, hr 3 (by decide)]; unfold dueR; rw [ok, fu, kt]; rfl) (Or.inl (by rw [st2_n _ _ (by omega)]; exact st2_s _ _ _ _)) (fun a j z1 z => by rw [st2_n _ _ (fun w => z1 w.1), st2_n _ _ z])
    unfold dueA at this
    rw [ok, fu, kt] at this
    exact this
def Finds (M : Mem) : Prop := M 189 5 = (rungs (M 190) : Int) ∧ ∀ i, i < rungs (M 190) → M 194 i = (dayS (M 190) i : Int)
theorem due_ref {M : Mem} {Q : Int → Mem → Prop} {a1 a2 : Int} (h1 : R32 a1) (h2 : R32 a2) (hrow : DRow (M 190)) (hF : Finds M) (h : ∀ M' : Mem, M' 190 = dueR (M 190) a1 a2 → Finds M' → (∀ k j, k ≠ 190 → k ≠ 194 → ¬ (k = 189 ∧ j = 5) → M' k j = M k j) → Q (dueA (M 190) a1 a2) M') : wp_X12_due 189 a1 a2 M Q := by
  have bad : ¬ ((1 ≤ a1 ∧ a1 ≤ 60) ∧ (0 ≤ a2 ∧ a2 ≤ 99)) → Q (-2) M := by
    intro z
    have e : okD a1 a2 = false := decide_eq_false z
    have := h M (by unfold dueR; rw [e]; rfl) hF (fun _ _ _ _ _ => rfl)
    unfold dueA at this
    rw [e] at this
    exact this
  unfold wp_X12_due wp_X12_isDay
  rw [X12_within_iff, wl_1, wl_60, w32_R h1]
  refine dcf (fun e => ?_) (fun e => bad (fun z => e z.1))
  rw [X12_within_iff, wl_0, wl_99, w32_R h2]
  refine dct (fun e2 => ?_) (fun e2 => bad (fun z => e2 z.2))
  obtain ⟨k, rfl⟩ : ∃ k : Nat, a1 = (k : Int) := ⟨a1.toNat, by omega⟩
  have ok : okD (k : Int) a2 = true := decide_eq_true ⟨e, e2⟩
  have kt : ((k : Int)).toNat = k := by omega
  have hR32 : ∀ j, j ≤ 60 → R32 (M 190 j) := fun j hj => by
    have := hrow.1 j hj
    exact ⟨by omega, by omega⟩
  rw [rtv_189_0]
  refine X12_becomes_ok (mx := 5) LN_190.1 (fun j hj => ⟨hR32 j hj, (hrow.1 j hj).1⟩) (by decide) hrow.2.2 (by omega) h2 ?_ ?_
  · intro q
    have fu : fullD (M 190) (k : Int) a2 = true := decide_eq_true (by rw [kt]; exact q)
    refine finds_ok hR32 hrow.2.2 ?_
    intro M' f1 f2 f3
    have r1 : M' 190 = M 190 := funext fun j => f3 190 j (by decide) (by omega)
    have := h M' (by rw [r1]; unfold dueR; rw [ok, fu]; rfl) ⟨by rw [r1]; exact f1, by rw [r1]; exact f2⟩ (fun a j _ z2 z3 => f3 a j z2 z3)
    unfold dueA at this
    rw [ok, fu] at this
    exact this
  · intro q
    have fu : fullD (M 190) (k : Int) a2 = false := decide_eq_false (by rw [kt]; exact q)
    have r2 : st2 M 190 k a2 190 = updI (M 190) k a2 := by rw [st2_row]
    refine finds_ok (fun j hj => ?_) (by rw [r2]; exact cnt_upd_le hrow.2.2 q) ?_
    · rw [r2]
      by_cases z : j = k
      · subst z; rw [updI_s]; exact h2
      · rw [updI_n _ _ z]; exact hR32 j hj
    · intro M' f1 f2 f3
      have r1 : M' 190 = st2 M 190 k a2 190 := funext fun j => f3 190 j (by decide) (by omega)
      have := h M' (by rw [r1, r2]; unfold dueR; rw [ok, fu, kt]; rfl) ⟨by rw [r1]; exact f1, by rw [r1]; exact f2⟩ (fun a j z1 z2 z3 => by rw [f3 a j z2 z3, st2_n _ _ (fun w => z1 w.1)])
      unfold dueA at this
      rw [ok, fu, kt] at this
      exact this
/-- n dues taken in, and how many came -/
def loadN (d : F1) (it : Nat → Int × Int) : Nat → Int × F1
  | 0 => (0, d)
  | k + 1 => ((loadN d it k).1 + (if 0 ≤ dueA (loadN d it k).2 (it k).1 (it k).2 then 1 else 0), dueR (loadN d it k).2 (it k).1 (it k).2)
theorem loadN_row {d : F1} (h : DRow d) (it : Nat → Int × Int) : ∀ k, DRow (loadN d it k).2
  | 0 => h
  | k + 1 => dueR_row (loadN_row h it k) _ _
theorem loadN_agr {D d : F1} (h : ∀ j, j ≤ 60 → D j = d j) (it : Nat → Int × Int) : ∀ k, (loadN D it k).1 = (loadN d it k).1 ∧ ∀ j, j ≤ 60 → (loadN D it k).2 j = (loadN d it k).2 j
  | 0 => ⟨rfl, h⟩
  | k + 1 => by
    obtain ⟨e1, e2⟩ := loadN_agr h it k
    obtain ⟨g1, g2⟩ := due_agr e2 (it k).1 (it k).2
    unfold loadN
    rw [e1, g1]
    exact ⟨rfl, g2⟩
theorem loadN_range {d : F1} (it : Nat → Int × Int) : ∀ k, 0 ≤ (loadN d it k).1 ∧ (loadN d it k).1 ≤ (k : Int)
  | 0 => ⟨Int.le_refl 0, Int.le_refl 0⟩
  | k + 1 => by
    have := loadN_range (d := d) it k
    unfold loadN
    split <;> omega
theorem dueA_R {d : F1} (h : DRow d) (a v : Int) : -4 ≤ dueA d a v ∧ dueA d a v ≤ 99 := by
  unfold dueA
  by_cases q : okD a v = true
  · rw [if_pos q]
    have q := of_decide_eq_true q
    have := h.1 a.toNat (by omega)
    split <;> omega
  · rw [if_neg q]; omega
theorem updI_high {d : F1} {a v : Int} {j : Nat} (hj : 60 < j) : dueR d a v j = d j := by
  unfold dueR
  by_cases q : okD a v = true
  · rw [if_pos q]
    have q := of_decide_eq_true q
    split
    · rfl
    · rw [updI_n _ _ (by omega)]
  · rw [if_neg q]
theorem loadN_high {d : F1} (it : Nat → Int × Int) {j : Nat} (hj : 60 < j) : ∀ k, (loadN d it k).2 j = d j
  | 0 => rfl
  | k + 1 => by
    have := loadN_high (d := d) it hj k
    exact (updI_high hj).trans this
