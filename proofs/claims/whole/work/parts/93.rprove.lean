theorem RAq_Fr {M : Mem} {q : Q2} (h : RAq M q) (hF : FrO q) : ∃ x, q = some x ∧ Fr x ∧ M 189 9 = x.1 ∧ M 189 10 = x.2 := by
  obtain ⟨x, e, a, b⟩ := h
  exact ⟨x, e, hF x e, a, b⟩
/-- one rung's carry less its room -/
theorem ratio_ok {n H : Nat} {on : Nat → Bool} {key : Nat → Nat} (K : KeyOK n H on key) {D : QD} (w : WFQ n on D) (Nq : NumQ n on D) {k : Nat} (hk : k < 5) {M : Mem} (hM : ∀ M' : Mem, FrF M M' → DicR n H key M' D) {Q : Mem → Prop} (h : ∀ M' : Mem, FrF M M' → (fb M 189 8 = true → fb M' 189 8 = true) → (fb M 189 8 = false → RF M' (ratQ n D k)) → Q M') : wp_X12_price 189 ((20 + k : Nat) : Int) M (fun M68 => wp_X12_product 189 (M68 189 9) (M68 189 10) (-1) 1 M68 (fun M84 => wp_X12_price 189 ((10 + k : Nat) : Int) M84 (fun M105 => wp_X12_sum 189 (M105 189 9) (M105 189 10) (M84 189 9) (M84 189 10) M105 Q))) := by
  have o9 := K.2.2.2.2.2
  have pF := fun v => prUp_Fr w o9 v n (Nat.le_refl _)
  refine rprice_ok K Nq (hM M (FrF_refl M)) (by omega) (fun M1 a1 a2 => ?_)
  have g1 : fb M1 189 8 = fb M 189 8 := fb_eq (a2 189 8 (by omega))
  obtain ⟨x, xe, xF, x1, x2⟩ := RAq_Fr a1 (pF _)
  rw [x1, x2]
  cases hf : fb M 189 8 with
  | true =>
    refine rproduct_great (by rw [g1]; exact hf) (fun M2 b1 b2 => ?_)
    have fr2 := FrF_trans (FrA_F a2) b2
    refine rprice_ok K Nq (hM M2 fr2) (by omega) (fun M3 c1 c2 => ?_)
    have g3 : fb M3 189 8 = fb M2 189 8 := fb_eq (c2 189 8 (by omega))
    refine rsum_great (by rw [g3]; exact RF_flag b1) (fun M4 d1 d2 => h M4 (FrF_trans fr2 (FrF_trans (FrA_F c2) d2)) (fun _ => RF_flag d1) (fun z => by rw [hf] at z; cases z))
  | false =>
    refine rproduct_ok (x := x) (y := (-1, 1)) ⟨(Fr_in xF).1, (Fr_in xF).2.1⟩ ⟨⟨by decide, by decide⟩, ⟨by decide, by decide⟩⟩ (by dsimp only; have := xF.1; omega) (by rw [g1]; exact hf) (fun M2 b1 b2 => ?_)
    rw [mulq_neg xF] at b1
    have fr2 := FrF_trans (FrA_F a2) b2
    refine rprice_ok K Nq (hM M2 fr2) (by omega) (fun M3 c1 c2 => ?_)
    have g3 : fb M3 189 8 = fb M2 189 8 := fb_eq (c2 189 8 (by omega))
    obtain ⟨y, ye, yF, y1, y2⟩ := RAq_Fr c1 (pF _)
    rw [y1, y2, b1.2.1, b1.2.2]
    refine rsum_ok yF (negq_Fr xF) (by rw [g3]; exact b1.1) (fun M4 d1 d2 => h M4 (FrF_trans fr2 (FrF_trans (FrA_F c2) d2)) (fun z => by rw [hf] at z; cases z) (fun _ => ?_))
    unfold ratQ
    rw [ye, xe]
    exact d1
