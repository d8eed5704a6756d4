theorem wa_int : Cond.arrayClass FieldType.int ∈ LW := lw_LW w_118 rfl
theorem wa_long : Cond.arrayClass FieldType.long ∈ LW := lw_LW w_421 rfl
theorem nf_0 {N : Nat} {I : Msk} {M : Mem} {b : Nat} : ∀ j, j < 7 → defaultValue (tyX0 j) = vp_V (fsC b (zI I N) (zM M N) N 0 (slt 0)) j := by
  have h0 : ∀ j, zM M N N j = 0 := fun j => by simp [zM]
  have h1 : ∀ j, zI I N N j = false := fun j => by simp [zI]
  intro j hj
  have e : slt 0 = [0, 0, 0, 0, 0, 0, 0] := rfl
  rw [e]
  simp only [fsC, vofC, vof, fb, h0, h1, vp_V]
  match j, hj with
  | 0, _ => rfl
  | 1, _ => rfl
  | 2, _ => rfl
  | 3, _ => rfl
  | 4, _ => rfl
  | 5, _ => rfl
  | 6, _ => rfl
  | k + 7, hj => exact absurd hj (by omega)
theorem nf_1 {N : Nat} {I : Msk} {M : Mem} {b : Nat} : ∀ j, j < 5 → defaultValue (tyX1 j) = vp_V (fsC b (zI I N) (zM M N) N 0 (slt 1)) j := by
  have h0 : ∀ j, zM M N N j = 0 := fun j => by simp [zM]
  have h1 : ∀ j, zI I N N j = false := fun j => by simp [zI]
  intro j hj
  have e : slt 1 = [2, 2, 2, 2, 0] := rfl
  rw [e]
  simp only [fsC, vofC, vof, fb, h0, h1, vp_V]
  match j, hj with
  | 0, _ => rfl
  | 1, _ => rfl
  | 2, _ => rfl
  | 3, _ => rfl
  | 4, _ => rfl
  | k + 5, hj => exact absurd hj (by omega)
theorem nf_2 {N : Nat} {I : Msk} {M : Mem} {b : Nat} : ∀ j, j < 3 → defaultValue (tyX2 j) = vp_V (fsC b (zI I N) (zM M N) N 0 (slt 2)) j := by
  have h0 : ∀ j, zM M N N j = 0 := fun j => by simp [zM]
  have h1 : ∀ j, zI I N N j = false := fun j => by simp [zI]
  intro j hj
  have e : slt 2 = [2, 0, 0] := rfl
  rw [e]
  simp only [fsC, vofC, vof, fb, h0, h1, vp_V]
  match j, hj with
  | 0, _ => rfl
  | 1, _ => rfl
  | 2, _ => rfl
  | k + 3, hj => exact absurd hj (by omega)
theorem nf_3 {N : Nat} {I : Msk} {M : Mem} {b : Nat} : ∀ j, j < 9 → defaultValue (tyX3 j) = vp_V (fsC b (zI I N) (zM M N) N 0 (slt 3)) j := by
  have h0 : ∀ j, zM M N N j = 0 := fun j => by simp [zM]
  have h1 : ∀ j, zI I N N j = false := fun j => by simp [zI]
  intro j hj
  have e : slt 3 = [2, 2, 0, 2, 0, 2, 2, 2, 2] := rfl
  rw [e]
  simp only [fsC, vofC, vof, fb, h0, h1, vp_V]
  match j, hj with
  | 0, _ => rfl
  | 1, _ => rfl
  | 2, _ => rfl
  | 3, _ => rfl
  | 4, _ => rfl
  | 5, _ => rfl
  | 6, _ => rfl
  | 7, _ => rfl
  | 8, _ => rfl
  | k + 9, hj => exact absurd hj (by omega)
theorem nf_4 {N : Nat} {I : Msk} {M : Mem} {b : Nat} : ∀ j, j < 3 → defaultValue (tyX4 j) = vp_V (fsC b (zI I N) (zM M N) N 0 (slt 4)) j := by
  have h0 : ∀ j, zM M N N j = 0 := fun j => by simp [zM]
  have h1 : ∀ j, zI I N N j = false := fun j => by simp [zI]
  intro j hj
  have e : slt 4 = [1, 1, 3] := rfl
  rw [e]
  simp only [fsC, vofC, vof, fb, h0, h1, vp_V]
  match j, hj with
  | 0, _ => rfl
  | 1, _ => rfl
  | 2, _ => rfl
  | k + 3, hj => exact absurd hj (by omega)
theorem nf_5 {N : Nat} {I : Msk} {M : Mem} {b : Nat} : ∀ j, j < 4 → defaultValue (tyX5 j) = vp_V (fsC b (zI I N) (zM M N) N 0 (slt 5)) j := by
  have h0 : ∀ j, zM M N N j = 0 := fun j => by simp [zM]
  have h1 : ∀ j, zI I N N j = false := fun j => by simp [zI]
  intro j hj
  have e : slt 5 = [2, 2, 0, 0] := rfl
  rw [e]
  simp only [fsC, vofC, vof, fb, h0, h1, vp_V]
  match j, hj with
  | 0, _ => rfl
  | 1, _ => rfl
  | 2, _ => rfl
  | 3, _ => rfl
  | k + 4, hj => exact absurd hj (by omega)
theorem nf_6 {N : Nat} {I : Msk} {M : Mem} {b : Nat} : ∀ j, j < 7 → defaultValue (tyX6 j) = vp_V (fsC b (zI I N) (zM M N) N 0 (slt 6)) j := by
  have h0 : ∀ j, zM M N N j = 0 := fun j => by simp [zM]
  have h1 : ∀ j, zI I N N j = false := fun j => by simp [zI]
  intro j hj
  have e : slt 6 = [2, 1, 2, 1, 1, 1, 0] := rfl
  rw [e]
  simp only [fsC, vofC, vof, fb, h0, h1, vp_V]
  match j, hj with
  | 0, _ => rfl
  | 1, _ => rfl
  | 2, _ => rfl
  | 3, _ => rfl
  | 4, _ => rfl
  | 5, _ => rfl
  | 6, _ => rfl
  | k + 7, hj => exact absurd hj (by omega)
theorem nf_7 {N : Nat} {I : Msk} {M : Mem} {b : Nat} : ∀ j, j < 3 → defaultValue (tyX7 j) = vp_V (fsC b (zI I N) (zM M N) N 0 (slt 7)) j := by
  have h0 : ∀ j, zM M N N j = 0 := fun j => by simp [zM]
  have h1 : ∀ j, zI I N N j = false := fun j => by simp [zI]
  intro j hj
  have e : slt 7 = [0, 2, 2] := rfl
  rw [e]
  simp only [fsC, vofC, vof, fb, h0, h1, vp_V]
  match j, hj with
  | 0, _ => rfl
  | 1, _ => rfl
  | 2, _ => rfl
  | k + 3, hj => exact absurd hj (by omega)
theorem nf_8 {N : Nat} {I : Msk} {M : Mem} {b : Nat} : ∀ j, j < 11 → defaultValue (tyX8 j) = vp_V (fsC b (zI I N) (zM M N) N 0 (slt 8)) j := by
  have h0 : ∀ j, zM M N N j = 0 := fun j => by simp [zM]
  have h1 : ∀ j, zI I N N j = false := fun j => by simp [zI]
  intro j hj
  have e : slt 8 = [0, 2, 2, 2, 2, 2, 2, 2, 2, 2, 2] := rfl
  rw [e]
  simp only [fsC, vofC, vof, fb, h0, h1, vp_V]
  match j, hj with
  | 0, _ => rfl
  | 1, _ => rfl
  | 2, _ => rfl
  | 3, _ => rfl
  | 4, _ => rfl
  | 5, _ => rfl
  | 6, _ => rfl
  | 7, _ => rfl
  | 8, _ => rfl
  | 9, _ => rfl
  | 10, _ => rfl
  | k + 11, hj => exact absurd hj (by omega)
theorem nf_9 {N : Nat} {I : Msk} {M : Mem} {b : Nat} : ∀ j, j < 3 → defaultValue (tyX9 j) = vp_V (fsC b (zI I N) (zM M N) N 0 (slt 9)) j := by
  have h0 : ∀ j, zM M N N j = 0 := fun j => by simp [zM]
  have h1 : ∀ j, zI I N N j = false := fun j => by simp [zI]
  intro j hj
  have e : slt 9 = [2, 0, 0] := rfl
  rw [e]
  simp only [fsC, vofC, vof, fb, h0, h1, vp_V]
  match j, hj with
  | 0, _ => rfl
  | 1, _ => rfl
  | 2, _ => rfl
  | k + 3, hj => exact absurd hj (by omega)
theorem nf_10 {N : Nat} {I : Msk} {M : Mem} {b : Nat} : ∀ j, j < 7 → defaultValue (tyX10 j) = vp_V (fsC b (zI I N) (zM M N) N 0 (slt 10)) j := by
  have h0 : ∀ j, zM M N N j = 0 := fun j => by simp [zM]
  have h1 : ∀ j, zI I N N j = false := fun j => by simp [zI]
  intro j hj
  have e : slt 10 = [2, 2, 2, 2, 2, 2, 2] := rfl
  rw [e]
  simp only [fsC, vofC, vof, fb, h0, h1, vp_V]
  match j, hj with
  | 0, _ => rfl
  | 1, _ => rfl
  | 2, _ => rfl
  | 3, _ => rfl
  | 4, _ => rfl
  | 5, _ => rfl
  | 6, _ => rfl
  | k + 7, hj => exact absurd hj (by omega)
theorem nf_11 {N : Nat} {I : Msk} {M : Mem} {b : Nat} : ∀ j, j < 18 → defaultValue (tyX11 j) = vp_V (fsC b (zI I N) (zM M N) N 0 (slt 11)) j := by
  have h0 : ∀ j, zM M N N j = 0 := fun j => by simp [zM]
  have h1 : ∀ j, zI I N N j = false := fun j => by simp [zI]
  intro j hj
  have e : slt 11 = [2, 2, 3, 2, 2, 3, 2, 2, 2, 2, 2, 2, 2, 3, 0, 2, 2, 2] := rfl
  rw [e]
  simp only [fsC, vofC, vof, fb, h0, h1, vp_V]
  match j, hj with
  | 0, _ => rfl
  | 1, _ => rfl
  | 2, _ => rfl
  | 3, _ => rfl
  | 4, _ => rfl
  | 5, _ => rfl
  | 6, _ => rfl
  | 7, _ => rfl
  | 8, _ => rfl
  | 9, _ => rfl
  | 10, _ => rfl
  | 11, _ => rfl
  | 12, _ => rfl
  | 13, _ => rfl
  | 14, _ => rfl
  | 15, _ => rfl
  | 16, _ => rfl
  | 17, _ => rfl
  | k + 18, hj => exact absurd hj (by omega)
theorem nf_12 {N : Nat} {I : Msk} {M : Mem} {b : Nat} : ∀ j, j < 34 → defaultValue (tyX12 j) = vp_V (fsC b (zI I N) (zM M N) N 0 (slt 12)) j := by
  have h0 : ∀ j, zM M N N j = 0 := fun j => by simp [zM]
  have h1 : ∀ j, zI I N N j = false := fun j => by simp [zI]
  intro j hj
  have e : slt 12 = [2, 2, 2, 0, 2, 0, 2, 2, 3, 1, 1, 0, 2, 2, 2, 2, 2, 2, 2, 2, 2, 0, 2, 2, 2, 1, 1, 1, 3, 0, 2, 2, 2, 2] := rfl
  rw [e]
  simp only [fsC, vofC, vof, fb, h0, h1, vp_V]
  match j, hj with
  | 0, _ => rfl
  | 1, _ => rfl
  | 2, _ => rfl
  | 3, _ => rfl
  | 4, _ => rfl
  | 5, _ => rfl
  | 6, _ => rfl
  | 7, _ => rfl
  | 8, _ => rfl
  | 9, _ => rfl
  | 10, _ => rfl
  | 11, _ => rfl
  | 12, _ => rfl
  | 13, _ => rfl
  | 14, _ => rfl
  | 15, _ => rfl
  | 16, _ => rfl
  | 17, _ => rfl
  | 18, _ => rfl
  | 19, _ => rfl
  | 20, _ => rfl
  | 21, _ => rfl
  | 22, _ => rfl
  | 23, _ => rfl
  | 24, _ => rfl
  | 25, _ => rfl
  | 26, _ => rfl
  | 27, _ => rfl
  | 28, _ => rfl
  | 29, _ => rfl
  | 30, _ => rfl
  | 31, _ => rfl
  | 32, _ => rfl
  | 33, _ => rfl
  | k + 34, hj => exact absurd hj (by omega)
theorem fx_107 : FX 2 0 RX2 9 (tyX2 0) true := ⟨by decide, RX2, TX2, 3, tyX2, rfl, inq_2, by decide, w_107, tyX2_ok, nmX2, rfl, rfl, tyX2_ok 0 (by decide), rfl⟩
theorem fx_109 : FX 2 1 RX2 15 (tyX2 1) true := ⟨by decide, RX2, TX2, 3, tyX2, rfl, inq_2, by decide, w_109, tyX2_ok, nmX2, rfl, rfl, tyX2_ok 1 (by decide), rfl⟩
theorem fx_110 : FX 2 2 RX2 19 (tyX2 2) true := ⟨by decide, RX2, TX2, 3, tyX2, rfl, inq_2, by decide, w_110, tyX2_ok, nmX2, rfl, rfl, tyX2_ok 2 (by decide), rfl⟩
theorem fx_155 : FX 1 0 RX1 14 (tyX1 0) true := ⟨by decide, RX1, TX1, 5, tyX1, rfl, inq_1, by decide, w_155, tyX1_ok, nmX1, rfl, rfl, tyX1_ok 0 (by decide), rfl⟩
theorem fx_158 : FX 1 1 RX1 20 (tyX1 1) true := ⟨by decide, RX1, TX1, 5, tyX1, rfl, inq_1, by decide, w_158, tyX1_ok, nmX1, rfl, rfl, tyX1_ok 1 (by decide), rfl⟩
theorem fx_161 : FX 1 2 RX1 23 (tyX1 2) true := ⟨by decide, RX1, TX1, 5, tyX1, rfl, inq_1, by decide, w_161, tyX1_ok, nmX1, rfl, rfl, tyX1_ok 2 (by decide), rfl⟩
theorem fx_164 : FX 1 3 RX1 28 (tyX1 3) true := ⟨by decide, RX1, TX1, 5, tyX1, rfl, inq_1, by decide, w_164, tyX1_ok, nmX1, rfl, rfl, tyX1_ok 3 (by decide), rfl⟩
theorem fx_199 : FX 8 1 RX8 9 (tyX8 1) true := ⟨by decide, RX8, TX8, 11, tyX8, rfl, inq_8, by decide, w_199, tyX8_ok, nmX8, rfl, rfl, tyX8_ok 1 (by decide), rfl⟩
theorem fx_201 : FX 8 2 RX8 15 (tyX8 2) true := ⟨by decide, RX8, TX8, 11, tyX8, rfl, inq_8, by decide, w_201, tyX8_ok, nmX8, rfl, rfl, tyX8_ok 2 (by decide), rfl⟩
theorem fx_206 : FX 8 3 RX8 18 (tyX8 3) true := ⟨by decide, RX8, TX8, 11, tyX8, rfl, inq_8, by decide, w_206, tyX8_ok, nmX8, rfl, rfl, tyX8_ok 3 (by decide), rfl⟩
theorem fx_211 : FX 8 4 RX8 21 (tyX8 4) true := ⟨by decide, RX8, TX8, 11, tyX8, rfl, inq_8, by decide, w_211, tyX8_ok, nmX8, rfl, rfl, tyX8_ok 4 (by decide), rfl⟩
theorem fx_215 : FX 8 5 RX8 24 (tyX8 5) true := ⟨by decide, RX8, TX8, 11, tyX8, rfl, inq_8, by decide, w_215, tyX8_ok, nmX8, rfl, rfl, tyX8_ok 5 (by decide), rfl⟩
theorem fx_217 : FX 8 6 RX8 27 (tyX8 6) true := ⟨by decide, RX8, TX8, 11, tyX8, rfl, inq_8, by decide, w_217, tyX8_ok, nmX8, rfl, rfl, tyX8_ok 6 (by decide), rfl⟩
theorem fx_219 : FX 8 7 RX8 32 (tyX8 7) true := ⟨by decide, RX8, TX8, 11, tyX8, rfl, inq_8, by decide, w_219, tyX8_ok, nmX8, rfl, rfl, tyX8_ok 7 (by decide), rfl⟩
theorem fx_221 : FX 8 8 RX8 35 (tyX8 8) true := ⟨by decide, RX8, TX8, 11, tyX8, rfl, inq_8, by decide, w_221, tyX8_ok, nmX8, rfl, rfl, tyX8_ok 8 (by decide), rfl⟩
theorem fx_225 : FX 8 9 RX8 38 (tyX8 9) true := ⟨by decide, RX8, TX8, 11, tyX8, rfl, inq_8, by decide, w_225, tyX8_ok, nmX8, rfl, rfl, tyX8_ok 9 (by decide), rfl⟩
theorem fx_228 : FX 8 10 RX8 41 (tyX8 10) true := ⟨by decide, RX8, TX8, 11, tyX8, rfl, inq_8, by decide, w_228, tyX8_ok, nmX8, rfl, rfl, tyX8_ok 10 (by decide), rfl⟩
theorem fx_269 : FX 4 1 RX4 9 (tyX4 1) false := ⟨by decide, RX4, TX4, 3, tyX4, rfl, inq_4, by decide, w_269, tyX4_ok, nmX4, rfl, rfl, tyX4_ok 1 (by decide), rfl⟩
theorem fx_281 : FX 10 0 RX10 12 (tyX10 0) true := ⟨by decide, RX10, TX10, 7, tyX10, rfl, inq_10, by decide, w_281, tyX10_ok, nmX10, rfl, rfl, tyX10_ok 0 (by decide), rfl⟩
theorem fx_283 : FX 10 1 RX10 18 (tyX10 1) true := ⟨by decide, RX10, TX10, 7, tyX10, rfl, inq_10, by decide, w_283, tyX10_ok, nmX10, rfl, rfl, tyX10_ok 1 (by decide), rfl⟩
theorem fx_285 : FX 10 2 RX10 21 (tyX10 2) true := ⟨by decide, RX10, TX10, 7, tyX10, rfl, inq_10, by decide, w_285, tyX10_ok, nmX10, rfl, rfl, tyX10_ok 2 (by decide), rfl⟩
theorem fx_287 : FX 10 3 RX10 24 (tyX10 3) true := ⟨by decide, RX10, TX10, 7, tyX10, rfl, inq_10, by decide, w_287, tyX10_ok, nmX10, rfl, rfl, tyX10_ok 3 (by decide), rfl⟩
theorem fx_288 : FX 10 4 RX10 28 (tyX10 4) true := ⟨by decide, RX10, TX10, 7, tyX10, rfl, inq_10, by decide, w_288, tyX10_ok, nmX10, rfl, rfl, tyX10_ok 4 (by decide), rfl⟩
theorem fx_289 : FX 10 5 RX10 31 (tyX10 5) true := ⟨by decide, RX10, TX10, 7, tyX10, rfl, inq_10, by decide, w_289, tyX10_ok, nmX10, rfl, rfl, tyX10_ok 5 (by decide), rfl⟩
theorem fx_290 : FX 10 6 RX10 34 (tyX10 6) true := ⟨by decide, RX10, TX10, 7, tyX10, rfl, inq_10, by decide, w_290, tyX10_ok, nmX10, rfl, rfl, tyX10_ok 6 (by decide), rfl⟩
theorem fx_324 : FX 7 1 RX7 12 (tyX7 1) true := ⟨by decide, RX7, TX7, 3, tyX7, rfl, inq_7, by decide, w_324, tyX7_ok, nmX7, rfl, rfl, tyX7_ok 1 (by decide), rfl⟩
theorem fx_327 : FX 7 2 RX7 18 (tyX7 2) true := ⟨by decide, RX7, TX7, 3, tyX7, rfl, inq_7, by decide, w_327, tyX7_ok, nmX7, rfl, rfl, tyX7_ok 2 (by decide), rfl⟩
theorem fx_339 : FX 3 0 RX3 12 (tyX3 0) true := ⟨by decide, RX3, TX3, 9, tyX3, rfl, inq_3, by decide, w_339, tyX3_ok, nmX3, rfl, rfl, tyX3_ok 0 (by decide), rfl⟩
theorem fx_341 : FX 3 1 RX3 18 (tyX3 1) true := ⟨by decide, RX3, TX3, 9, tyX3, rfl, inq_3, by decide, w_341, tyX3_ok, nmX3, rfl, rfl, tyX3_ok 1 (by decide), rfl⟩
theorem fx_343 : FX 3 3 RX3 22 (tyX3 3) true := ⟨by decide, RX3, TX3, 9, tyX3, rfl, inq_3, by decide, w_343, tyX3_ok, nmX3, rfl, rfl, tyX3_ok 3 (by decide), rfl⟩
theorem fx_345 : FX 3 5 RX3 29 (tyX3 5) true := ⟨by decide, RX3, TX3, 9, tyX3, rfl, inq_3, by decide, w_345, tyX3_ok, nmX3, rfl, rfl, tyX3_ok 5 (by decide), rfl⟩
theorem fx_346 : FX 3 6 RX3 33 (tyX3 6) true := ⟨by decide, RX3, TX3, 9, tyX3, rfl, inq_3, by decide, w_346, tyX3_ok, nmX3, rfl, rfl, tyX3_ok 6 (by decide), rfl⟩
theorem fx_347 : FX 3 7 RX3 36 (tyX3 7) true := ⟨by decide, RX3, TX3, 9, tyX3, rfl, inq_3, by decide, w_347, tyX3_ok, nmX3, rfl, rfl, tyX3_ok 7 (by decide), rfl⟩
theorem fx_348 : FX 3 8 RX3 39 (tyX3 8) true := ⟨by decide, RX3, TX3, 9, tyX3, rfl, inq_3, by decide, w_348, tyX3_ok, nmX3, rfl, rfl, tyX3_ok 8 (by decide), rfl⟩
theorem fx_374 : FX 5 0 RX5 9 (tyX5 0) true := ⟨by decide, RX5, TX5, 4, tyX5, rfl, inq_5, by decide, w_374, tyX5_ok, nmX5, rfl, rfl, tyX5_ok 0 (by decide), rfl⟩
theorem fx_376 : FX 5 1 RX5 15 (tyX5 1) true := ⟨by decide, RX5, TX5, 4, tyX5, rfl, inq_5, by decide, w_376, tyX5_ok, nmX5, rfl, rfl, tyX5_ok 1 (by decide), rfl⟩
theorem fx_397 : FX 6 0 RX6 9 (tyX6 0) true := ⟨by decide, RX6, TX6, 7, tyX6, rfl, inq_6, by decide, w_397, tyX6_ok, nmX6, rfl, rfl, tyX6_ok 0 (by decide), rfl⟩
theorem fx_401 : FX 6 2 RX6 15 (tyX6 2) true := ⟨by decide, RX6, TX6, 7, tyX6, rfl, inq_6, by decide, w_401, tyX6_ok, nmX6, rfl, rfl, tyX6_ok 2 (by decide), rfl⟩
theorem fx_430 : FX 9 0 RX9 9 (tyX9 0) true := ⟨by decide, RX9, TX9, 3, tyX9, rfl, inq_9, by decide, w_430, tyX9_ok, nmX9, rfl, rfl, tyX9_ok 0 (by decide), rfl⟩
theorem fx_433 : FX 9 1 RX9 15 (tyX9 1) false := ⟨by decide, RX9, TX9, 3, tyX9, rfl, inq_9, by decide, w_433, tyX9_ok, nmX9, rfl, rfl, tyX9_ok 1 (by decide), rfl⟩
theorem fx_445 : FX 11 0 RX11 14 (tyX11 0) true := ⟨by decide, RX11, TX11, 18, tyX11, rfl, inq_11, by decide, w_445, tyX11_ok, nmX11, rfl, rfl, tyX11_ok 0 (by decide), rfl⟩
theorem fx_446 : FX 11 1 RX11 18 (tyX11 1) true := ⟨by decide, RX11, TX11, 18, tyX11, rfl, inq_11, by decide, w_446, tyX11_ok, nmX11, rfl, rfl, tyX11_ok 1 (by decide), rfl⟩
theorem fx_448 : FX 11 3 RX11 24 (tyX11 3) true := ⟨by decide, RX11, TX11, 18, tyX11, rfl, inq_11, by decide, w_448, tyX11_ok, nmX11, rfl, rfl, tyX11_ok 3 (by decide), rfl⟩
theorem fx_449 : FX 11 4 RX11 28 (tyX11 4) true := ⟨by decide, RX11, TX11, 18, tyX11, rfl, inq_11, by decide, w_449, tyX11_ok, nmX11, rfl, rfl, tyX11_ok 4 (by decide), rfl⟩
theorem fx_450 : FX 11 5 RX11 31 (tyX11 5) false := ⟨by decide, RX11, TX11, 18, tyX11, rfl, inq_11, by decide, w_450, tyX11_ok, nmX11, rfl, rfl, tyX11_ok 5 (by decide), rfl⟩
theorem fx_451 : FX 11 6 RX11 35 (tyX11 6) true := ⟨by decide, RX11, TX11, 18, tyX11, rfl, inq_11, by decide, w_451, tyX11_ok, nmX11, rfl, rfl, tyX11_ok 6 (by decide), rfl⟩
theorem fx_452 : FX 11 7 RX11 39 (tyX11 7) true := ⟨by decide, RX11, TX11, 18, tyX11, rfl, inq_11, by decide, w_452, tyX11_ok, nmX11, rfl, rfl, tyX11_ok 7 (by decide), rfl⟩
theorem fx_453 : FX 11 8 RX11 42 (tyX11 8) true := ⟨by decide, RX11, TX11, 18, tyX11, rfl, inq_11, by decide, w_453, tyX11_ok, nmX11, rfl, rfl, tyX11_ok 8 (by decide), rfl⟩
theorem fx_454 : FX 11 9 RX11 45 (tyX11 9) true := ⟨by decide, RX11, TX11, 18, tyX11, rfl, inq_11, by decide, w_454, tyX11_ok, nmX11, rfl, rfl, tyX11_ok 9 (by decide), rfl⟩
theorem fx_455 : FX 11 10 RX11 51 (tyX11 10) true := ⟨by decide, RX11, TX11, 18, tyX11, rfl, inq_11, by decide, w_455, tyX11_ok, nmX11, rfl, rfl, tyX11_ok 10 (by decide), rfl⟩
theorem fx_456 : FX 11 11 RX11 58 (tyX11 11) true := ⟨by decide, RX11, TX11, 18, tyX11, rfl, inq_11, by decide, w_456, tyX11_ok, nmX11, rfl, rfl, tyX11_ok 11 (by decide), rfl⟩
theorem fx_457 : FX 11 12 RX11 65 (tyX11 12) true := ⟨by decide, RX11, TX11, 18, tyX11, rfl, inq_11, by decide, w_457, tyX11_ok, nmX11, rfl, rfl, tyX11_ok 12 (by decide), rfl⟩
theorem fx_460 : FX 11 15 RX11 72 (tyX11 15) true := ⟨by decide, RX11, TX11, 18, tyX11, rfl, inq_11, by decide, w_460, tyX11_ok, nmX11, rfl, rfl, tyX11_ok 15 (by decide), rfl⟩
theorem fx_461 : FX 11 16 RX11 79 (tyX11 16) true := ⟨by decide, RX11, TX11, 18, tyX11, rfl, inq_11, by decide, w_461, tyX11_ok, nmX11, rfl, rfl, tyX11_ok 16 (by decide), rfl⟩
theorem fx_462 : FX 11 17 RX11 85 (tyX11 17) true := ⟨by decide, RX11, TX11, 18, tyX11, rfl, inq_11, by decide, w_462, tyX11_ok, nmX11, rfl, rfl, tyX11_ok 17 (by decide), rfl⟩
theorem fx_992 : FX 12 0 RX12 9 (tyX12 0) true := ⟨by decide, RX12, TX12, 34, tyX12, rfl, inq_12, by decide, w_992, tyX12_ok, nmX12, rfl, rfl, tyX12_ok 0 (by decide), rfl⟩
theorem fx_993 : FX 12 1 RX12 15 (tyX12 1) true := ⟨by decide, RX12, TX12, 34, tyX12, rfl, inq_12, by decide, w_993, tyX12_ok, nmX12, rfl, rfl, tyX12_ok 1 (by decide), rfl⟩
theorem fx_994 : FX 12 2 RX12 18 (tyX12 2) true := ⟨by decide, RX12, TX12, 34, tyX12, rfl, inq_12, by decide, w_994, tyX12_ok, nmX12, rfl, rfl, tyX12_ok 2 (by decide), rfl⟩
theorem fx_996 : FX 12 4 RX12 21 (tyX12 4) true := ⟨by decide, RX12, TX12, 34, tyX12, rfl, inq_12, by decide, w_996, tyX12_ok, nmX12, rfl, rfl, tyX12_ok 4 (by decide), rfl⟩
theorem fx_998 : FX 12 6 RX12 24 (tyX12 6) true := ⟨by decide, RX12, TX12, 34, tyX12, rfl, inq_12, by decide, w_998, tyX12_ok, nmX12, rfl, rfl, tyX12_ok 6 (by decide), rfl⟩
theorem fx_999 : FX 12 7 RX12 27 (tyX12 7) true := ⟨by decide, RX12, TX12, 34, tyX12, rfl, inq_12, by decide, w_999, tyX12_ok, nmX12, rfl, rfl, tyX12_ok 7 (by decide), rfl⟩
theorem fx_1004 : FX 12 12 RX12 30 (tyX12 12) true := ⟨by decide, RX12, TX12, 34, tyX12, rfl, inq_12, by decide, w_1004, tyX12_ok, nmX12, rfl, rfl, tyX12_ok 12 (by decide), rfl⟩
theorem fx_1005 : FX 12 13 RX12 33 (tyX12 13) true := ⟨by decide, RX12, TX12, 34, tyX12, rfl, inq_12, by decide, w_1005, tyX12_ok, nmX12, rfl, rfl, tyX12_ok 13 (by decide), rfl⟩
theorem fx_1006 : FX 12 14 RX12 36 (tyX12 14) true := ⟨by decide, RX12, TX12, 34, tyX12, rfl, inq_12, by decide, w_1006, tyX12_ok, nmX12, rfl, rfl, tyX12_ok 14 (by decide), rfl⟩
theorem fx_1007 : FX 12 15 RX12 40 (tyX12 15) true := ⟨by decide, RX12, TX12, 34, tyX12, rfl, inq_12, by decide, w_1007, tyX12_ok, nmX12, rfl, rfl, tyX12_ok 15 (by decide), rfl⟩
theorem fx_1008 : FX 12 16 RX12 43 (tyX12 16) true := ⟨by decide, RX12, TX12, 34, tyX12, rfl, inq_12, by decide, w_1008, tyX12_ok, nmX12, rfl, rfl, tyX12_ok 16 (by decide), rfl⟩
theorem fx_1009 : FX 12 17 RX12 46 (tyX12 17) true := ⟨by decide, RX12, TX12, 34, tyX12, rfl, inq_12, by decide, w_1009, tyX12_ok, nmX12, rfl, rfl, tyX12_ok 17 (by decide), rfl⟩
theorem fx_1010 : FX 12 18 RX12 49 (tyX12 18) true := ⟨by decide, RX12, TX12, 34, tyX12, rfl, inq_12, by decide, w_1010, tyX12_ok, nmX12, rfl, rfl, tyX12_ok 18 (by decide), rfl⟩
theorem fx_1011 : FX 12 19 RX12 52 (tyX12 19) true := ⟨by decide, RX12, TX12, 34, tyX12, rfl, inq_12, by decide, w_1011, tyX12_ok, nmX12, rfl, rfl, tyX12_ok 19 (by decide), rfl⟩
theorem fx_1012 : FX 12 20 RX12 55 (tyX12 20) true := ⟨by decide, RX12, TX12, 34, tyX12, rfl, inq_12, by decide, w_1012, tyX12_ok, nmX12, rfl, rfl, tyX12_ok 20 (by decide), rfl⟩
theorem fx_1014 : FX 12 22 RX12 58 (tyX12 22) true := ⟨by decide, RX12, TX12, 34, tyX12, rfl, inq_12, by decide, w_1014, tyX12_ok, nmX12, rfl, rfl, tyX12_ok 22 (by decide), rfl⟩
theorem fx_1015 : FX 12 23 RX12 61 (tyX12 23) true := ⟨by decide, RX12, TX12, 34, tyX12, rfl, inq_12, by decide, w_1015, tyX12_ok, nmX12, rfl, rfl, tyX12_ok 23 (by decide), rfl⟩
theorem fx_1016 : FX 12 24 RX12 64 (tyX12 24) true := ⟨by decide, RX12, TX12, 34, tyX12, rfl, inq_12, by decide, w_1016, tyX12_ok, nmX12, rfl, rfl, tyX12_ok 24 (by decide), rfl⟩
theorem fx_1022 : FX 12 30 RX12 67 (tyX12 30) true := ⟨by decide, RX12, TX12, 34, tyX12, rfl, inq_12, by decide, w_1022, tyX12_ok, nmX12, rfl, rfl, tyX12_ok 30 (by decide), rfl⟩
theorem fx_1023 : FX 12 31 RX12 70 (tyX12 31) true := ⟨by decide, RX12, TX12, 34, tyX12, rfl, inq_12, by decide, w_1023, tyX12_ok, nmX12, rfl, rfl, tyX12_ok 31 (by decide), rfl⟩
theorem fx_1024 : FX 12 32 RX12 73 (tyX12 32) true := ⟨by decide, RX12, TX12, 34, tyX12, rfl, inq_12, by decide, w_1024, tyX12_ok, nmX12, rfl, rfl, tyX12_ok 32 (by decide), rfl⟩
theorem fx_1025 : FX 12 33 RX12 76 (tyX12 33) true := ⟨by decide, RX12, TX12, 34, tyX12, rfl, inq_12, by decide, w_1025, tyX12_ok, nmX12, rfl, rfl, tyX12_ok 33 (by decide), rfl⟩
theorem kd_0 : kd 0 = 11 := by decide +kernel
theorem kd_1 : kd 1 = 1 := by decide +kernel
theorem kd_2 : kd 2 = 2 := by decide +kernel
theorem kd_3 : kd 3 = 13 := by decide +kernel
theorem kd_4 : kd 4 = 2 := by decide +kernel
theorem kd_5 : kd 5 = 13 := by decide +kernel
theorem kd_6 : kd 6 = 2 := by decide +kernel
theorem kd_7 : kd 7 = 13 := by decide +kernel
theorem kd_8 : kd 8 = 15 := by decide +kernel
theorem kd_9 : kd 9 = 0 := by decide +kernel
theorem kd_10 : kd 10 = 0 := by decide +kernel
theorem kd_11 : kd 11 = 0 := by decide +kernel
theorem kd_12 : kd 12 = 0 := by decide +kernel
theorem kd_13 : kd 13 = 0 := by decide +kernel
theorem kd_14 : kd 14 = 1 := by decide +kernel
theorem kd_15 : kd 15 = 2 := by decide +kernel
theorem kd_16 : kd 16 = 13 := by decide +kernel
theorem kd_17 : kd 17 = 2 := by decide +kernel
theorem kd_18 : kd 18 = 13 := by decide +kernel
theorem kd_19 : kd 19 = 2 := by decide +kernel
theorem kd_20 : kd 20 = 13 := by decide +kernel
theorem kd_21 : kd 21 = 15 := by decide +kernel
theorem kd_22 : kd 22 = 0 := by decide +kernel
theorem kd_23 : kd 23 = 0 := by decide +kernel
theorem kd_24 : kd 24 = 0 := by decide +kernel
theorem kd_25 : kd 25 = 0 := by decide +kernel
theorem kd_26 : kd 26 = 0 := by decide +kernel
theorem kd_27 : kd 27 = 8 := by decide +kernel
theorem kd_28 : kd 28 = 13 := by decide +kernel
theorem kd_29 : kd 29 = 13 := by decide +kernel
theorem kd_30 : kd 30 = 13 := by decide +kernel
theorem kd_31 : kd 31 = 13 := by decide +kernel
theorem kd_32 : kd 32 = 13 := by decide +kernel
theorem kd_33 : kd 33 = 13 := by decide +kernel
theorem kd_34 : kd 34 = 19 := by decide +kernel
theorem kd_40 : kd 40 = 19 := by decide +kernel
theorem kd_46 : kd 46 = 13 := by decide +kernel
theorem kd_47 : kd 47 = 13 := by decide +kernel
theorem kd_48 : kd 48 = 8 := by decide +kernel
theorem kd_49 : kd 49 = 13 := by decide +kernel
theorem kd_50 : kd 50 = 13 := by decide +kernel
theorem kd_51 : kd 51 = 13 := by decide +kernel
theorem kd_52 : kd 52 = 13 := by decide +kernel
theorem kd_53 : kd 53 = 13 := by decide +kernel
theorem kd_54 : kd 54 = 13 := by decide +kernel
theorem kd_55 : kd 55 = 19 := by decide +kernel
theorem kd_61 : kd 61 = 19 := by decide +kernel
theorem kd_67 : kd 67 = 13 := by decide +kernel
theorem kd_68 : kd 68 = 13 := by decide +kernel
theorem kd_69 : kd 69 = 13 := by decide +kernel
theorem kd_70 : kd 70 = 13 := by decide +kernel
theorem kd_71 : kd 71 = 13 := by decide +kernel
theorem kd_72 : kd 72 = 13 := by decide +kernel
theorem kd_73 : kd 73 = 10 := by decide +kernel
theorem kd_74 : kd 74 = 4 := by decide +kernel
theorem kd_75 : kd 75 = 4 := by decide +kernel
theorem kd_76 : kd 76 = 4 := by decide +kernel
theorem kd_77 : kd 77 = 16 := by decide +kernel
theorem kd_78 : kd 78 = 4 := by decide +kernel
theorem kd_79 : kd 79 = 4 := by decide +kernel
theorem kd_80 : kd 80 = 4 := by decide +kernel
theorem kd_81 : kd 81 = 4 := by decide +kernel
theorem kd_82 : kd 82 = 4 := by decide +kernel
theorem kd_83 : kd 83 = 4 := by decide +kernel
theorem kd_84 : kd 84 = 4 := by decide +kernel
theorem kd_85 : kd 85 = 4 := by decide +kernel
theorem kd_86 : kd 86 = 4 := by decide +kernel
theorem kd_87 : kd 87 = 3 := by decide +kernel
theorem kd_88 : kd 88 = 7 := by decide +kernel
theorem kd_89 : kd 89 = 4 := by decide +kernel
theorem kd_90 : kd 90 = 16 := by decide +kernel
theorem kd_91 : kd 91 = 4 := by decide +kernel
theorem kd_92 : kd 92 = 4 := by decide +kernel
theorem kd_93 : kd 93 = 4 := by decide +kernel
theorem kd_94 : kd 94 = 4 := by decide +kernel
theorem kd_95 : kd 95 = 4 := by decide +kernel
theorem kd_96 : kd 96 = 17 := by decide +kernel
theorem kd_97 : kd 97 = 13 := by decide +kernel
theorem kd_98 : kd 98 = 4 := by decide +kernel
theorem kd_99 : kd 99 = 4 := by decide +kernel
theorem kd_100 : kd 100 = 4 := by decide +kernel
theorem kd_101 : kd 101 = 4 := by decide +kernel
theorem kd_102 : kd 102 = 7 := by decide +kernel
theorem kd_103 : kd 103 = 4 := by decide +kernel
theorem kd_104 : kd 104 = 16 := by decide +kernel
theorem kd_105 : kd 105 = 4 := by decide +kernel
theorem kd_106 : kd 106 = 4 := by decide +kernel
theorem kd_107 : kd 107 = 4 := by decide +kernel
theorem kd_108 : kd 108 = 4 := by decide +kernel
theorem kd_109 : kd 109 = 4 := by decide +kernel
theorem kd_110 : kd 110 = 7 := by decide +kernel
theorem kd_111 : kd 111 = 4 := by decide +kernel
theorem kd_112 : kd 112 = 16 := by decide +kernel
theorem kd_113 : kd 113 = 4 := by decide +kernel
theorem kd_114 : kd 114 = 4 := by decide +kernel
theorem kd_115 : kd 115 = 4 := by decide +kernel
theorem kd_116 : kd 116 = 4 := by decide +kernel
theorem kd_117 : kd 117 = 4 := by decide +kernel
theorem kd_118 : kd 118 = 7 := by decide +kernel
theorem kd_119 : kd 119 = 4 := by decide +kernel
theorem kd_120 : kd 120 = 16 := by decide +kernel
theorem kd_121 : kd 121 = 4 := by decide +kernel
theorem kd_122 : kd 122 = 4 := by decide +kernel
theorem kd_123 : kd 123 = 4 := by decide +kernel
theorem kd_124 : kd 124 = 4 := by decide +kernel
theorem kd_125 : kd 125 = 4 := by decide +kernel
theorem kd_126 : kd 126 = 7 := by decide +kernel
theorem kd_127 : kd 127 = 4 := by decide +kernel
theorem kd_128 : kd 128 = 16 := by decide +kernel
theorem kd_129 : kd 129 = 4 := by decide +kernel
theorem kd_130 : kd 130 = 4 := by decide +kernel
theorem kd_131 : kd 131 = 4 := by decide +kernel
theorem kd_132 : kd 132 = 4 := by decide +kernel
theorem kd_133 : kd 133 = 4 := by decide +kernel
theorem kd_134 : kd 134 = 7 := by decide +kernel
theorem kd_135 : kd 135 = 4 := by decide +kernel
theorem kd_136 : kd 136 = 16 := by decide +kernel
theorem kd_137 : kd 137 = 4 := by decide +kernel
theorem kd_138 : kd 138 = 4 := by decide +kernel
theorem kd_139 : kd 139 = 4 := by decide +kernel
theorem kd_140 : kd 140 = 4 := by decide +kernel
theorem kd_141 : kd 141 = 4 := by decide +kernel
theorem kd_142 : kd 142 = 7 := by decide +kernel
theorem kd_143 : kd 143 = 4 := by decide +kernel
theorem kd_144 : kd 144 = 16 := by decide +kernel
theorem kd_145 : kd 145 = 4 := by decide +kernel
theorem kd_146 : kd 146 = 4 := by decide +kernel
theorem kd_147 : kd 147 = 4 := by decide +kernel
theorem kd_148 : kd 148 = 4 := by decide +kernel
theorem kd_149 : kd 149 = 4 := by decide +kernel
theorem kd_150 : kd 150 = 7 := by decide +kernel
theorem kd_151 : kd 151 = 4 := by decide +kernel
theorem kd_152 : kd 152 = 16 := by decide +kernel
theorem kd_153 : kd 153 = 4 := by decide +kernel
theorem kd_154 : kd 154 = 4 := by decide +kernel
theorem kd_155 : kd 155 = 4 := by decide +kernel
theorem kd_156 : kd 156 = 4 := by decide +kernel
theorem kd_157 : kd 157 = 4 := by decide +kernel
theorem kd_158 : kd 158 = 7 := by decide +kernel
theorem kd_159 : kd 159 = 4 := by decide +kernel
theorem kd_160 : kd 160 = 16 := by decide +kernel
theorem kd_161 : kd 161 = 4 := by decide +kernel
theorem kd_162 : kd 162 = 4 := by decide +kernel
theorem kd_163 : kd 163 = 4 := by decide +kernel
theorem kd_164 : kd 164 = 4 := by decide +kernel
theorem kd_165 : kd 165 = 4 := by decide +kernel
theorem kd_166 : kd 166 = 7 := by decide +kernel
theorem kd_167 : kd 167 = 4 := by decide +kernel
theorem kd_168 : kd 168 = 16 := by decide +kernel
theorem kd_169 : kd 169 = 4 := by decide +kernel
theorem kd_170 : kd 170 = 4 := by decide +kernel
theorem kd_171 : kd 171 = 4 := by decide +kernel
theorem kd_172 : kd 172 = 4 := by decide +kernel
theorem kd_173 : kd 173 = 4 := by decide +kernel
theorem kd_174 : kd 174 = 5 := by decide +kernel
theorem kd_175 : kd 175 = 13 := by decide +kernel
theorem kd_176 : kd 176 = 13 := by decide +kernel
theorem kd_177 : kd 177 = 6 := by decide +kernel
theorem kd_178 : kd 178 = 14 := by decide +kernel
theorem kd_179 : kd 179 = 14 := by decide +kernel
theorem kd_180 : kd 180 = 18 := by decide +kernel
theorem kd_181 : kd 181 = 9 := by decide +kernel
theorem kd_182 : kd 182 = 13 := by decide +kernel
theorem kd_183 : kd 183 = 9 := by decide +kernel
theorem kd_184 : kd 184 = 13 := by decide +kernel
theorem kd_185 : kd 185 = 9 := by decide +kernel
theorem kd_186 : kd 186 = 13 := by decide +kernel
theorem kd_187 : kd 187 = 9 := by decide +kernel
theorem kd_188 : kd 188 = 13 := by decide +kernel
theorem kd_189 : kd 189 = 12 := by decide +kernel
theorem kd_190 : kd 190 = 13 := by decide +kernel
theorem kd_191 : kd 191 = 13 := by decide +kernel
theorem kd_192 : kd 192 = 13 := by decide +kernel
theorem kd_193 : kd 193 = 13 := by decide +kernel
theorem kd_194 : kd 194 = 13 := by decide +kernel
theorem kd_195 : kd 195 = 13 := by decide +kernel
theorem kd_196 : kd 196 = 13 := by decide +kernel
theorem kd_197 : kd 197 = 13 := by decide +kernel
theorem kd_198 : kd 198 = 14 := by decide +kernel
theorem kd_199 : kd 199 = 14 := by decide +kernel
theorem kd_200 : kd 200 = 14 := by decide +kernel
theorem kd_201 : kd 201 = 14 := by decide +kernel
theorem kd_202 : kd 202 = 14 := by decide +kernel
theorem kd_203 : kd 203 = 14 := by decide +kernel
theorem kd_204 : kd 204 = 13 := by decide +kernel
theorem kd_205 : kd 205 = 13 := by decide +kernel
theorem kd_206 : kd 206 = 14 := by decide +kernel
theorem kd_207 : kd 207 = 14 := by decide +kernel
theorem kd_208 : kd 208 = 13 := by decide +kernel
theorem kd_209 : kd 209 = 13 := by decide +kernel
theorem kd_210 : kd 210 = 13 := by decide +kernel
theorem kd_211 : kd 211 = 13 := by decide +kernel
theorem ln_3 : ln 3 = 61 := by decide +kernel
theorem ln_5 : ln 5 = 61 := by decide +kernel
theorem ln_7 : ln 7 = 61 := by decide +kernel
theorem ln_8 : ln 8 = 5 := by decide +kernel
theorem ln_16 : ln 16 = 61 := by decide +kernel
theorem ln_18 : ln 18 = 61 := by decide +kernel
theorem ln_20 : ln 20 = 61 := by decide +kernel
theorem ln_21 : ln 21 = 5 := by decide +kernel
theorem ln_28 : ln 28 = 5 := by decide +kernel
theorem ln_29 : ln 29 = 5 := by decide +kernel
theorem ln_30 : ln 30 = 5 := by decide +kernel
theorem ln_31 : ln 31 = 5 := by decide +kernel
theorem ln_32 : ln 32 = 61 := by decide +kernel
theorem ln_33 : ln 33 = 61 := by decide +kernel
theorem ln_34 : ln 34 = 5 := by decide +kernel
theorem ln_40 : ln 40 = 5 := by decide +kernel
theorem ln_46 : ln 46 = 5 := by decide +kernel
theorem ln_47 : ln 47 = 5 := by decide +kernel
theorem ln_49 : ln 49 = 5 := by decide +kernel
theorem ln_50 : ln 50 = 5 := by decide +kernel
theorem ln_51 : ln 51 = 5 := by decide +kernel
theorem ln_52 : ln 52 = 5 := by decide +kernel
theorem ln_53 : ln 53 = 61 := by decide +kernel
theorem ln_54 : ln 54 = 61 := by decide +kernel
theorem ln_55 : ln 55 = 5 := by decide +kernel
theorem ln_61 : ln 61 = 5 := by decide +kernel
theorem ln_67 : ln 67 = 5 := by decide +kernel
theorem ln_68 : ln 68 = 5 := by decide +kernel
theorem ln_69 : ln 69 = 5 := by decide +kernel
theorem ln_70 : ln 70 = 5 := by decide +kernel
theorem ln_71 : ln 71 = 5 := by decide +kernel
theorem ln_72 : ln 72 = 5 := by decide +kernel
theorem ln_77 : ln 77 = 5 := by decide +kernel
theorem ln_90 : ln 90 = 5 := by decide +kernel
theorem ln_96 : ln 96 = 9 := by decide +kernel
theorem ln_97 : ln 97 = 5 := by decide +kernel
theorem ln_104 : ln 104 = 5 := by decide +kernel
theorem ln_112 : ln 112 = 5 := by decide +kernel
theorem ln_120 : ln 120 = 5 := by decide +kernel
theorem ln_128 : ln 128 = 5 := by decide +kernel
theorem ln_136 : ln 136 = 5 := by decide +kernel
theorem ln_144 : ln 144 = 5 := by decide +kernel
theorem ln_152 : ln 152 = 5 := by decide +kernel
theorem ln_160 : ln 160 = 5 := by decide +kernel
theorem ln_168 : ln 168 = 5 := by decide +kernel
theorem ln_175 : ln 175 = 5 := by decide +kernel
theorem ln_176 : ln 176 = 5 := by decide +kernel
theorem ln_178 : ln 178 = 5 := by decide +kernel
theorem ln_179 : ln 179 = 5 := by decide +kernel
theorem ln_180 : ln 180 = 4 := by decide +kernel
theorem ln_182 : ln 182 = 40 := by decide +kernel
theorem ln_184 : ln 184 = 40 := by decide +kernel
theorem ln_186 : ln 186 = 40 := by decide +kernel
theorem ln_188 : ln 188 = 40 := by decide +kernel
theorem ln_190 : ln 190 = 61 := by decide +kernel
theorem ln_191 : ln 191 = 61 := by decide +kernel
theorem ln_192 : ln 192 = 61 := by decide +kernel
theorem ln_193 : ln 193 = 35 := by decide +kernel
theorem ln_194 : ln 194 = 5 := by decide +kernel
theorem ln_195 : ln 195 = 5 := by decide +kernel
theorem ln_196 : ln 196 = 9 := by decide +kernel
theorem ln_197 : ln 197 = 5 := by decide +kernel
theorem ln_198 : ln 198 = 10 := by decide +kernel
theorem ln_199 : ln 199 = 10 := by decide +kernel
theorem ln_200 : ln 200 = 50 := by decide +kernel
theorem ln_201 : ln 201 = 50 := by decide +kernel
theorem ln_202 : ln 202 = 6 := by decide +kernel
theorem ln_203 : ln 203 = 6 := by decide +kernel
theorem ln_204 : ln 204 = 5 := by decide +kernel
theorem ln_205 : ln 205 = 5 := by decide +kernel
theorem ln_206 : ln 206 = 5 := by decide +kernel
theorem ln_207 : ln 207 = 5 := by decide +kernel
theorem ln_208 : ln 208 = 218 := by decide +kernel
theorem ln_209 : ln 209 = 4 := by decide +kernel
theorem ln_210 : ln 210 = 4 := by decide +kernel
theorem ln_211 : ln 211 = 160 := by decide +kernel
theorem rt_0_0 : rt 0 0 = 1 := by decide +kernel
theorem rt_0_1 : rt 0 1 = 14 := by decide +kernel
theorem rt_0_3 : rt 0 3 = 27 := by decide +kernel
theorem rt_0_4 : rt 0 4 = 48 := by decide +kernel
theorem rt_0_6 : rt 0 6 = 69 := by decide +kernel
theorem rt_0_7 : rt 0 7 = 70 := by decide +kernel
theorem rt_0_8 : rt 0 8 = 71 := by decide +kernel
theorem rt_0_9 : rt 0 9 = 72 := by decide +kernel
theorem rt_0_10 : rt 0 10 = 73 := by decide +kernel
theorem rt_0_11 : rt 0 11 = 86 := by decide +kernel
theorem rt_0_12 : rt 0 12 = 87 := by decide +kernel
theorem rt_0_15 : rt 0 15 = 174 := by decide +kernel
theorem rt_0_16 : rt 0 16 = 177 := by decide +kernel
theorem rt_0_17 : rt 0 17 = 180 := by decide +kernel
theorem rt_1_0 : rt 1 0 = 2 := by decide +kernel
theorem rt_1_1 : rt 1 1 = 4 := by decide +kernel
theorem rt_1_2 : rt 1 2 = 6 := by decide +kernel
theorem rt_1_3 : rt 1 3 = 8 := by decide +kernel
theorem rt_2_0 : rt 2 0 = 3 := by decide +kernel
theorem rt_4_0 : rt 4 0 = 5 := by decide +kernel
theorem rt_6_0 : rt 6 0 = 7 := by decide +kernel
theorem rt_8_0 : rt 8 (ix 0) = 9 := by decide +kernel
theorem rt_8_1 : rt 8 (ix 1) = 10 := by decide +kernel
theorem rt_8_2 : rt 8 (ix 2) = 11 := by decide +kernel
theorem rt_8_3 : rt 8 (ix 3) = 12 := by decide +kernel
theorem rt_8_4 : rt 8 (ix 4) = 13 := by decide +kernel
theorem rt_14_0 : rt 14 0 = 15 := by decide +kernel
theorem rt_14_1 : rt 14 1 = 17 := by decide +kernel
theorem rt_14_2 : rt 14 2 = 19 := by decide +kernel
theorem rt_14_3 : rt 14 3 = 21 := by decide +kernel
theorem rt_15_0 : rt 15 0 = 16 := by decide +kernel
theorem rt_17_0 : rt 17 0 = 18 := by decide +kernel
theorem rt_19_0 : rt 19 0 = 20 := by decide +kernel
theorem rt_21_0 : rt 21 (ix 0) = 22 := by decide +kernel
theorem rt_21_1 : rt 21 (ix 1) = 23 := by decide +kernel
theorem rt_21_2 : rt 21 (ix 2) = 24 := by decide +kernel
theorem rt_21_3 : rt 21 (ix 3) = 25 := by decide +kernel
theorem rt_21_4 : rt 21 (ix 4) = 26 := by decide +kernel
theorem rt_27_1 : rt 27 1 = 28 := by decide +kernel
theorem rt_27_2 : rt 27 2 = 29 := by decide +kernel
theorem rt_27_3 : rt 27 3 = 30 := by decide +kernel
theorem rt_27_4 : rt 27 4 = 31 := by decide +kernel
theorem rt_27_5 : rt 27 5 = 32 := by decide +kernel
theorem rt_27_6 : rt 27 6 = 33 := by decide +kernel
theorem rt_27_7 : rt 27 7 = 34 := by decide +kernel
theorem rt_27_8 : rt 27 8 = 40 := by decide +kernel
theorem rt_27_9 : rt 27 9 = 46 := by decide +kernel
theorem rt_27_10 : rt 27 10 = 47 := by decide +kernel
theorem rt_48_1 : rt 48 1 = 49 := by decide +kernel
theorem rt_48_2 : rt 48 2 = 50 := by decide +kernel
theorem rt_48_3 : rt 48 3 = 51 := by decide +kernel
theorem rt_48_4 : rt 48 4 = 52 := by decide +kernel
theorem rt_48_5 : rt 48 5 = 53 := by decide +kernel
theorem rt_48_6 : rt 48 6 = 54 := by decide +kernel
theorem rt_48_7 : rt 48 7 = 55 := by decide +kernel
theorem rt_48_8 : rt 48 8 = 61 := by decide +kernel
theorem rt_48_9 : rt 48 9 = 67 := by decide +kernel
theorem rt_48_10 : rt 48 10 = 68 := by decide +kernel
theorem rt_73_0 : rt 73 0 = 74 := by decide +kernel
theorem rt_73_1 : rt 73 1 = 75 := by decide +kernel
theorem rt_73_2 : rt 73 2 = 76 := by decide +kernel
theorem rt_73_3 : rt 73 3 = 77 := by decide +kernel
theorem rt_73_4 : rt 73 4 = 78 := by decide +kernel
theorem rt_73_5 : rt 73 5 = 79 := by decide +kernel
theorem rt_73_6 : rt 73 6 = 80 := by decide +kernel
theorem rt_77_0 : rt 77 (ix 0) = 81 := by decide +kernel
theorem rt_77_1 : rt 77 (ix 1) = 82 := by decide +kernel
theorem rt_77_2 : rt 77 (ix 2) = 83 := by decide +kernel
theorem rt_77_3 : rt 77 (ix 3) = 84 := by decide +kernel
theorem rt_77_4 : rt 77 (ix 4) = 85 := by decide +kernel
theorem rt_87_0 : rt 87 0 = 88 := by decide +kernel
theorem rt_87_1 : rt 87 1 = 96 := by decide +kernel
theorem rt_87_3 : rt 87 3 = 97 := by decide +kernel
theorem rt_87_5 : rt 87 5 = 98 := by decide +kernel
theorem rt_87_6 : rt 87 6 = 99 := by decide +kernel
theorem rt_87_7 : rt 87 7 = 100 := by decide +kernel
theorem rt_87_8 : rt 87 8 = 101 := by decide +kernel
theorem rt_88_1 : rt 88 1 = 89 := by decide +kernel
theorem rt_88_2 : rt 88 2 = 90 := by decide +kernel
theorem rt_90_0 : rt 90 (ix 0) = 91 := by decide +kernel
theorem rt_90_1 : rt 90 (ix 1) = 92 := by decide +kernel
theorem rt_90_2 : rt 90 (ix 2) = 93 := by decide +kernel
theorem rt_90_3 : rt 90 (ix 3) = 94 := by decide +kernel
theorem rt_90_4 : rt 90 (ix 4) = 95 := by decide +kernel
theorem rt_96_0 : rt 96 (ix 0) = 102 := by decide +kernel
theorem rt_96_1 : rt 96 (ix 1) = 110 := by decide +kernel
theorem rt_96_2 : rt 96 (ix 2) = 118 := by decide +kernel
theorem rt_96_3 : rt 96 (ix 3) = 126 := by decide +kernel
theorem rt_96_4 : rt 96 (ix 4) = 134 := by decide +kernel
theorem rt_96_5 : rt 96 (ix 5) = 142 := by decide +kernel
theorem rt_96_6 : rt 96 (ix 6) = 150 := by decide +kernel
theorem rt_96_7 : rt 96 (ix 7) = 158 := by decide +kernel
theorem rt_96_8 : rt 96 (ix 8) = 166 := by decide +kernel
theorem rt_102_1 : rt 102 1 = 103 := by decide +kernel
theorem rt_102_2 : rt 102 2 = 104 := by decide +kernel
theorem rt_104_0 : rt 104 (ix 0) = 105 := by decide +kernel
theorem rt_104_1 : rt 104 (ix 1) = 106 := by decide +kernel
theorem rt_104_2 : rt 104 (ix 2) = 107 := by decide +kernel
theorem rt_104_3 : rt 104 (ix 3) = 108 := by decide +kernel
theorem rt_104_4 : rt 104 (ix 4) = 109 := by decide +kernel
theorem rt_110_1 : rt 110 1 = 111 := by decide +kernel
theorem rt_110_2 : rt 110 2 = 112 := by decide +kernel
theorem rt_112_0 : rt 112 (ix 0) = 113 := by decide +kernel
theorem rt_112_1 : rt 112 (ix 1) = 114 := by decide +kernel
theorem rt_112_2 : rt 112 (ix 2) = 115 := by decide +kernel
theorem rt_112_3 : rt 112 (ix 3) = 116 := by decide +kernel
theorem rt_112_4 : rt 112 (ix 4) = 117 := by decide +kernel
theorem rt_118_1 : rt 118 1 = 119 := by decide +kernel
theorem rt_118_2 : rt 118 2 = 120 := by decide +kernel
theorem rt_120_0 : rt 120 (ix 0) = 121 := by decide +kernel
theorem rt_120_1 : rt 120 (ix 1) = 122 := by decide +kernel
theorem rt_120_2 : rt 120 (ix 2) = 123 := by decide +kernel
theorem rt_120_3 : rt 120 (ix 3) = 124 := by decide +kernel
theorem rt_120_4 : rt 120 (ix 4) = 125 := by decide +kernel
theorem rt_126_1 : rt 126 1 = 127 := by decide +kernel
theorem rt_126_2 : rt 126 2 = 128 := by decide +kernel
theorem rt_128_0 : rt 128 (ix 0) = 129 := by decide +kernel
theorem rt_128_1 : rt 128 (ix 1) = 130 := by decide +kernel
theorem rt_128_2 : rt 128 (ix 2) = 131 := by decide +kernel
theorem rt_128_3 : rt 128 (ix 3) = 132 := by decide +kernel
theorem rt_128_4 : rt 128 (ix 4) = 133 := by decide +kernel
theorem rt_134_1 : rt 134 1 = 135 := by decide +kernel
theorem rt_134_2 : rt 134 2 = 136 := by decide +kernel
theorem rt_136_0 : rt 136 (ix 0) = 137 := by decide +kernel
theorem rt_136_1 : rt 136 (ix 1) = 138 := by decide +kernel
theorem rt_136_2 : rt 136 (ix 2) = 139 := by decide +kernel
theorem rt_136_3 : rt 136 (ix 3) = 140 := by decide +kernel
theorem rt_136_4 : rt 136 (ix 4) = 141 := by decide +kernel
theorem rt_142_1 : rt 142 1 = 143 := by decide +kernel
theorem rt_142_2 : rt 142 2 = 144 := by decide +kernel
theorem rt_144_0 : rt 144 (ix 0) = 145 := by decide +kernel
theorem rt_144_1 : rt 144 (ix 1) = 146 := by decide +kernel
theorem rt_144_2 : rt 144 (ix 2) = 147 := by decide +kernel
theorem rt_144_3 : rt 144 (ix 3) = 148 := by decide +kernel
theorem rt_144_4 : rt 144 (ix 4) = 149 := by decide +kernel
theorem rt_150_1 : rt 150 1 = 151 := by decide +kernel
theorem rt_150_2 : rt 150 2 = 152 := by decide +kernel
theorem rt_152_0 : rt 152 (ix 0) = 153 := by decide +kernel
theorem rt_152_1 : rt 152 (ix 1) = 154 := by decide +kernel
theorem rt_152_2 : rt 152 (ix 2) = 155 := by decide +kernel
theorem rt_152_3 : rt 152 (ix 3) = 156 := by decide +kernel
theorem rt_152_4 : rt 152 (ix 4) = 157 := by decide +kernel
theorem rt_158_1 : rt 158 1 = 159 := by decide +kernel
theorem rt_158_2 : rt 158 2 = 160 := by decide +kernel
theorem rt_160_0 : rt 160 (ix 0) = 161 := by decide +kernel
theorem rt_160_1 : rt 160 (ix 1) = 162 := by decide +kernel
theorem rt_160_2 : rt 160 (ix 2) = 163 := by decide +kernel
theorem rt_160_3 : rt 160 (ix 3) = 164 := by decide +kernel
theorem rt_160_4 : rt 160 (ix 4) = 165 := by decide +kernel
theorem rt_166_1 : rt 166 1 = 167 := by decide +kernel
theorem rt_166_2 : rt 166 2 = 168 := by decide +kernel
theorem rt_168_0 : rt 168 (ix 0) = 169 := by decide +kernel
theorem rt_168_1 : rt 168 (ix 1) = 170 := by decide +kernel
theorem rt_168_2 : rt 168 (ix 2) = 171 := by decide +kernel
theorem rt_168_3 : rt 168 (ix 3) = 172 := by decide +kernel
theorem rt_168_4 : rt 168 (ix 4) = 173 := by decide +kernel
theorem rt_174_0 : rt 174 0 = 175 := by decide +kernel
theorem rt_174_1 : rt 174 1 = 176 := by decide +kernel
theorem rt_177_0 : rt 177 0 = 178 := by decide +kernel
theorem rt_177_2 : rt 177 2 = 179 := by decide +kernel
theorem rt_180_0 : rt 180 (ix 0) = 181 := by decide +kernel
theorem rt_180_1 : rt 180 (ix 1) = 183 := by decide +kernel
theorem rt_180_2 : rt 180 (ix 2) = 185 := by decide +kernel
theorem rt_180_3 : rt 180 (ix 3) = 187 := by decide +kernel
theorem rt_181_0 : rt 181 0 = 182 := by decide +kernel
theorem rt_183_0 : rt 183 0 = 184 := by decide +kernel
theorem rt_185_0 : rt 185 0 = 186 := by decide +kernel
theorem rt_187_0 : rt 187 0 = 188 := by decide +kernel
theorem rt_189_0 : rt 189 0 = 190 := by decide +kernel
theorem rt_189_1 : rt 189 1 = 191 := by decide +kernel
theorem rt_189_2 : rt 189 2 = 192 := by decide +kernel
theorem rt_189_4 : rt 189 4 = 193 := by decide +kernel
theorem rt_189_6 : rt 189 6 = 194 := by decide +kernel
theorem rt_189_7 : rt 189 7 = 195 := by decide +kernel
theorem rt_189_12 : rt 189 12 = 196 := by decide +kernel
theorem rt_189_13 : rt 189 13 = 197 := by decide +kernel
theorem rt_189_14 : rt 189 14 = 198 := by decide +kernel
theorem rt_189_15 : rt 189 15 = 199 := by decide +kernel
theorem rt_189_16 : rt 189 16 = 200 := by decide +kernel
theorem rt_189_17 : rt 189 17 = 201 := by decide +kernel
theorem rt_189_18 : rt 189 18 = 202 := by decide +kernel
theorem rt_189_19 : rt 189 19 = 203 := by decide +kernel
theorem rt_189_20 : rt 189 20 = 204 := by decide +kernel
theorem rt_189_22 : rt 189 22 = 205 := by decide +kernel
theorem rt_189_23 : rt 189 23 = 206 := by decide +kernel
theorem rt_189_24 : rt 189 24 = 207 := by decide +kernel
theorem rt_189_30 : rt 189 30 = 208 := by decide +kernel
theorem rt_189_31 : rt 189 31 = 209 := by decide +kernel
theorem rt_189_32 : rt 189 32 = 210 := by decide +kernel
theorem rt_189_33 : rt 189 33 = 211 := by decide +kernel
abbrev rm_X2_init : Room := { frames := 1, cells := 1, slots := 61, locals := 23 }
theorem ci_X2_init : CI yX2_init cX2_init 3 2 := ⟨w_101, w_69, w_102, rfl, by decide +kernel, by decide +kernel, by decide +kernel⟩
def fI_X2_init_2 (I : Msk) : Msk := (stI I 2 0)
def fM_X2_init_2 (M : Mem) : Mem := (flM (st2 (st2 (zM M 3) 2 1 0) 2 2 5) 3 61 0)
set_option maxRecDepth 100000 in
set_option maxHeartbeats 4000000 in
theorem k_X2_init_2 (l : Launch) (g : En) {I : Msk} {M : Mem} : Met l yX2_init (WS yX2_init cX2_init 3 none) rm_X2_init (va_Pc [.ref (g.2.2.1 + 2), .int (i3 0), .int (i3 5)] (RqC g 3 I M)) (va_Qv (S := Unit) (fun _ => True) (fun _ t => RqC g 4 (fI_X2_init_2 I) (fM_X2_init_2 M) t) (aB g)) 1 61 (aB g) := by
  refine met_C (plainFor_of_name rfl) (Nat.le_of_ble_eq_true rfl) ?_
  intro p e s m args below meth c F hr hname
  show CZ g p l e rm_X2_init s m args below meth c 3 _ 3 I M 0 0 0 [(0, .ref (g.2.2.1 + 2)), (1, .int (i3 0)), (2, .int (i3 5))] []
  refine cz_aload_n F dX2_init_0 rfl rfl 0 rfl ?_
  refine cz_obj F w_103 w_90 w_91 (Nat.le_of_ble_eq_true rfl) (Nat.le_of_ble_eq_true rfl) dX2_init_1 rfl ?_
  refine cz_aload_n F dX2_init_4 rfl rfl 0 rfl ?_
  refine cz_bipush F dX2_init_5 (by decide) rfl ?_
  refine cz_newint F kd_3 ln_3 (by decide) (by decide) wa_int rfl rfl rfl (Nat.le_of_ble_eq_true rfl) (Nat.le_of_ble_eq_true rfl) dX2_init_7 rfl ?_
  refine cz_putR (h := 2) (r := 3) F fx_107 (fun _ => hname) rfl kd_2 (by decide) rt_2_0 (fun _ => rfl) (fun _ => rfl) dX2_init_9 rfl ?_
  refine cz_aload_n F dX2_init_12 rfl rfl 0 rfl ?_
  refine cz_iload_n F dX2_init_13 rfl rfl 1 rfl ?_
  refine cz_putI (h := 2) (w := 0) F fx_109 (fun _ => hname) rfl kd_2 (by decide) dX2_init_14 rfl ?_
  refine cz_aload_n F dX2_init_17 rfl rfl 0 rfl ?_
  refine cz_iload_n F dX2_init_18 rfl rfl 2 rfl ?_
  refine cz_putI (h := 2) (w := 5) F fx_110 (fun _ => hname) rfl kd_2 (by decide) dX2_init_19 rfl ?_
  refine cz_aload_n F dX2_init_22 rfl rfl 0 rfl ?_
  refine cz_getR (h := 2) (r := 3) F fl_107 kd_2 (by decide) rt_2_0 rfl dX2_init_23 rfl ?_
  refine cz_iload_n F dX2_init_26 rfl rfl 1 rfl ?_
  refine cz_callS (As := [.ref (g.2.2.1 + 3), .int (i3 0)]) (st := []) F (k_fill l g kd_3 ln_3 (by decide) (by decide)) cs_J7_fill_53178 w_104 ⟨rfl, rfl, Nat.le_of_ble_eq_true rfl, Nat.le_of_ble_eq_true rfl⟩ rfl (Nat.le_of_ble_eq_true rfl) dX2_init_27 ⟨Nat.le_of_ble_eq_true rfl, Nat.le_of_ble_eq_true rfl⟩ rfl ?_
  exact cz_vret F hr dX2_init_30
def fI_X2_init_4 (I : Msk) : Msk := (stI I 4 0)
def fM_X2_init_4 (M : Mem) : Mem := (flM (st2 (st2 (zM M 5) 4 1 (-1)) 4 2 6) 5 61 (-1))
set_option maxRecDepth 100000 in
set_option maxHeartbeats 4000000 in
theorem k_X2_init_4 (l : Launch) (g : En) {I : Msk} {M : Mem} : Met l yX2_init (WS yX2_init cX2_init 3 none) rm_X2_init (va_Pc [.ref (g.2.2.1 + 4), .int (i3 (-1)), .int (i3 6)] (RqC g 5 I M)) (va_Qv (S := Unit) (fun _ => True) (fun _ t => RqC g 6 (fI_X2_init_4 I) (fM_X2_init_4 M) t) (aB g)) 1 61 (aB g) := by
  refine met_C (plainFor_of_name rfl) (Nat.le_of_ble_eq_true rfl) ?_
  intro p e s m args below meth c F hr hname
  show CZ g p l e rm_X2_init s m args below meth c 3 _ 5 I M 0 0 0 [(0, .ref (g.2.2.1 + 4)), (1, .int (i3 (-1))), (2, .int (i3 6))] []
  refine cz_aload_n F dX2_init_0 rfl rfl 0 rfl ?_
  refine cz_obj F w_103 w_90 w_91 (Nat.le_of_ble_eq_true rfl) (Nat.le_of_ble_eq_true rfl) dX2_init_1 rfl ?_
  refine cz_aload_n F dX2_init_4 rfl rfl 0 rfl ?_
  refine cz_bipush F dX2_init_5 (by decide) rfl ?_
  refine cz_newint F kd_5 ln_5 (by decide) (by decide) wa_int rfl rfl rfl (Nat.le_of_ble_eq_true rfl) (Nat.le_of_ble_eq_true rfl) dX2_init_7 rfl ?_
  refine cz_putR (h := 4) (r := 5) F fx_107 (fun _ => hname) rfl kd_4 (by decide) rt_4_0 (fun _ => rfl) (fun _ => rfl) dX2_init_9 rfl ?_
  refine cz_aload_n F dX2_init_12 rfl rfl 0 rfl ?_
  refine cz_iload_n F dX2_init_13 rfl rfl 1 rfl ?_
  refine cz_putI (h := 4) (w := (-1)) F fx_109 (fun _ => hname) rfl kd_4 (by decide) dX2_init_14 rfl ?_
  refine cz_aload_n F dX2_init_17 rfl rfl 0 rfl ?_
  refine cz_iload_n F dX2_init_18 rfl rfl 2 rfl ?_
  refine cz_putI (h := 4) (w := 6) F fx_110 (fun _ => hname) rfl kd_4 (by decide) dX2_init_19 rfl ?_
  refine cz_aload_n F dX2_init_22 rfl rfl 0 rfl ?_
  refine cz_getR (h := 4) (r := 5) F fl_107 kd_4 (by decide) rt_4_0 rfl dX2_init_23 rfl ?_
  refine cz_iload_n F dX2_init_26 rfl rfl 1 rfl ?_
  refine cz_callS (As := [.ref (g.2.2.1 + 5), .int (i3 (-1))]) (st := []) F (k_fill l g kd_5 ln_5 (by decide) (by decide)) cs_J7_fill_53178 w_104 ⟨rfl, rfl, Nat.le_of_ble_eq_true rfl, Nat.le_of_ble_eq_true rfl⟩ rfl (Nat.le_of_ble_eq_true rfl) dX2_init_27 ⟨Nat.le_of_ble_eq_true rfl, Nat.le_of_ble_eq_true rfl⟩ rfl ?_
  exact cz_vret F hr dX2_init_30
def fI_X2_init_6 (I : Msk) : Msk := (stI I 6 0)
def fM_X2_init_6 (M : Mem) : Mem := (flM (st2 (st2 (zM M 7) 6 1 (-1)) 6 2 5) 7 61 (-1))
set_option maxRecDepth 100000 in
set_option maxHeartbeats 4000000 in
theorem k_X2_init_6 (l : Launch) (g : En) {I : Msk} {M : Mem} : Met l yX2_init (WS yX2_init cX2_init 3 none) rm_X2_init (va_Pc [.ref (g.2.2.1 + 6), .int (i3 (-1)), .int (i3 5)] (RqC g 7 I M)) (va_Qv (S := Unit) (fun _ => True) (fun _ t => RqC g 8 (fI_X2_init_6 I) (fM_X2_init_6 M) t) (aB g)) 1 61 (aB g) := by
  refine met_C (plainFor_of_name rfl) (Nat.le_of_ble_eq_true rfl) ?_
  intro p e s m args below meth c F hr hname
  show CZ g p l e rm_X2_init s m args below meth c 3 _ 7 I M 0 0 0 [(0, .ref (g.2.2.1 + 6)), (1, .int (i3 (-1))), (2, .int (i3 5))] []
  refine cz_aload_n F dX2_init_0 rfl rfl 0 rfl ?_
  refine cz_obj F w_103 w_90 w_91 (Nat.le_of_ble_eq_true rfl) (Nat.le_of_ble_eq_true rfl) dX2_init_1 rfl ?_
  refine cz_aload_n F dX2_init_4 rfl rfl 0 rfl ?_
  refine cz_bipush F dX2_init_5 (by decide) rfl ?_
  refine cz_newint F kd_7 ln_7 (by decide) (by decide) wa_int rfl rfl rfl (Nat.le_of_ble_eq_true rfl) (Nat.le_of_ble_eq_true rfl) dX2_init_7 rfl ?_
  refine cz_putR (h := 6) (r := 7) F fx_107 (fun _ => hname) rfl kd_6 (by decide) rt_6_0 (fun _ => rfl) (fun _ => rfl) dX2_init_9 rfl ?_
  refine cz_aload_n F dX2_init_12 rfl rfl 0 rfl ?_
  refine cz_iload_n F dX2_init_13 rfl rfl 1 rfl ?_
  refine cz_putI (h := 6) (w := (-1)) F fx_109 (fun _ => hname) rfl kd_6 (by decide) dX2_init_14 rfl ?_
  refine cz_aload_n F dX2_init_17 rfl rfl 0 rfl ?_
  refine cz_iload_n F dX2_init_18 rfl rfl 2 rfl ?_
  refine cz_putI (h := 6) (w := 5) F fx_110 (fun _ => hname) rfl kd_6 (by decide) dX2_init_19 rfl ?_
  refine cz_aload_n F dX2_init_22 rfl rfl 0 rfl ?_
  refine cz_getR (h := 6) (r := 7) F fl_107 kd_6 (by decide) rt_6_0 rfl dX2_init_23 rfl ?_
  refine cz_iload_n F dX2_init_26 rfl rfl 1 rfl ?_
  refine cz_callS (As := [.ref (g.2.2.1 + 7), .int (i3 (-1))]) (st := []) F (k_fill l g kd_7 ln_7 (by decide) (by decide)) cs_J7_fill_53178 w_104 ⟨rfl, rfl, Nat.le_of_ble_eq_true rfl, Nat.le_of_ble_eq_true rfl⟩ rfl (Nat.le_of_ble_eq_true rfl) dX2_init_27 ⟨Nat.le_of_ble_eq_true rfl, Nat.le_of_ble_eq_true rfl⟩ rfl ?_
  exact cz_vret F hr dX2_init_30
abbrev rm_X0_init : Room := { frames := 1, cells := 0, slots := 0, locals := 12 }
set_option maxRecDepth 100000 in
set_option maxHeartbeats 4000000 in
theorem k_X0_init (l : Launch) (g : En) {h N : Nat} {I : Msk} {M : Mem} (kh : kd h = 0) (hh : h < N) : Met l yX0_init (WS yX0_init cX0_init 1 none) rm_X0_init (va_Pc [.ref (g.2.2.1 + h)] (RqC g N I M)) (va_Qv (S := Unit) (fun _ => True) (fun _ t => RqC g N I M t) (aB g)) 0 0 (aB g) := by
  refine met_C (plainFor_of_name rfl) (Nat.le_of_ble_eq_true rfl) ?_
  intro p e s m args below meth c F hr hname
  show CZ g p l e rm_X0_init s m args below meth c 1 _ N I M 0 0 0 [(0, .ref (g.2.2.1 + h))] []
  refine cz_aload_n F dX0_init_0 rfl rfl 0 rfl ?_
  refine cz_obj F w_125 w_90 w_91 (Nat.le_of_ble_eq_true rfl) (Nat.le_of_ble_eq_true rfl) dX0_init_1 rfl ?_
  exact cz_vret F hr dX0_init_4
theorem ci_X0_init : CI yX0_init cX0_init 1 0 := ⟨w_123, w_71, w_124, rfl, by decide +kernel, by decide +kernel, by decide +kernel⟩
abbrev rm_X1_init : Room := { frames := 2, cells := 12, slots := 232, locals := 45 }
theorem ci_X1_init : CI yX1_init cX1_init 2 0 := ⟨w_95, w_68, w_96, rfl, by decide +kernel, by decide +kernel, by decide +kernel⟩
def fI_X1_init_1 (I : Msk) : Msk := (stI (zI (stI (zI (stI (zI (stI (zI (stI (zI (stI (zI (stI (fI_X2_init_6 (zI (stI (fI_X2_init_4 (zI (stI (fI_X2_init_2 (zI I 2)) 1 0) 4)) 1 1) 6)) 1 2) 8) 1 3) 9) 8 (ix 0)) 10) 8 (ix 1)) 11) 8 (ix 2)) 12) 8 (ix 3)) 13) 8 (ix 4))
def fM_X1_init_1 (M : Mem) : Mem := (zM (zM (zM (zM (zM (zM (fM_X2_init_6 (zM (fM_X2_init_4 (zM (fM_X2_init_2 (zM M 2)) 4)) 6)) 8) 9) 10) 11) 12) 13)
set_option maxRecDepth 100000 in
set_option maxHeartbeats 4000000 in
theorem k_X1_init_1 (l : Launch) (g : En) {I : Msk} {M : Mem} : Met l yX1_init (WS yX1_init cX1_init 2 none) rm_X1_init (va_Pc [.ref (g.2.2.1 + 1)] (RqC g 2 I M)) (va_Qv (S := Unit) (fun _ => True) (fun _ t => RqC g 14 (fI_X1_init_1 I) (fM_X1_init_1 M) t) (aB g)) 12 232 (aB g) := by
  refine met_C (plainFor_of_name rfl) (Nat.le_of_ble_eq_true rfl) ?_
  intro p e s m args below meth c F hr hname
  show CZ g p l e rm_X1_init s m args below meth c 2 _ 2 I M 0 0 0 [(0, .ref (g.2.2.1 + 1))] []
  refine cz_aload_n F dX1_init_0 rfl rfl 0 rfl ?_
  refine cz_obj F w_97 w_90 w_91 (Nat.le_of_ble_eq_true rfl) (Nat.le_of_ble_eq_true rfl) dX1_init_1 rfl ?_
  refine cz_aload_n F dX1_init_4 rfl rfl 0 rfl ?_
  refine cz_new (N := 2) (ci := 2) F tyX2 (by decide) rfl inq_2 tyX2_ok w_98 w_99 w_69 kd_2 (fun j hj b => nf_2 (b := b) j hj) rfl rfl rfl (Nat.le_of_ble_eq_true rfl) (Nat.le_of_ble_eq_true rfl) dX1_init_5 rfl ?_
  refine cz_dup F rfl dX1_init_8 rfl ?_
  refine cz_iconst F dX1_init_9 rfl ?_
  refine cz_iconst F dX1_init_10 rfl ?_
  refine cz_call (h := 2) (As := [.int (i3 0), .int (i3 5)]) (st := [.ref (g.2.2.1 + 2), .ref (g.2.2.1 + 1)]) F (k_X2_init_2 l g) ci_X2_init w_100 ⟨rfl, rfl, Nat.le_of_ble_eq_true rfl, Nat.le_of_ble_eq_true rfl⟩ rfl (Nat.le_of_ble_eq_true rfl) dX1_init_11 rfl rfl ⟨Nat.le_of_ble_eq_true rfl, Nat.le_of_ble_eq_true rfl⟩ rfl ?_
  refine cz_putR (h := 1) (r := 2) F fx_155 (fun _ => hname) rfl kd_1 (by decide) rt_1_0 (fun _ => rfl) (fun _ => rfl) dX1_init_14 rfl ?_
  refine cz_aload_n F dX1_init_17 rfl rfl 0 rfl ?_
  refine cz_new (N := 4) (ci := 2) F tyX2 (by decide) rfl inq_2 tyX2_ok w_98 w_99 w_69 kd_4 (fun j hj b => nf_2 (b := b) j hj) rfl rfl rfl (Nat.le_of_ble_eq_true rfl) (Nat.le_of_ble_eq_true rfl) dX1_init_18 rfl ?_
  refine cz_dup F rfl dX1_init_21 rfl ?_
  refine cz_iconst F dX1_init_22 rfl ?_
  refine cz_bipush F dX1_init_23 (by decide) rfl ?_
  refine cz_call (h := 4) (As := [.int (i3 (-1)), .int (i3 6)]) (st := [.ref (g.2.2.1 + 4), .ref (g.2.2.1 + 1)]) F (k_X2_init_4 l g) ci_X2_init w_100 ⟨rfl, rfl, Nat.le_of_ble_eq_true rfl, Nat.le_of_ble_eq_true rfl⟩ rfl (Nat.le_of_ble_eq_true rfl) dX1_init_25 rfl rfl ⟨Nat.le_of_ble_eq_true rfl, Nat.le_of_ble_eq_true rfl⟩ rfl ?_
  refine cz_putR (h := 1) (r := 4) F fx_158 (fun _ => hname) rfl kd_1 (by decide) rt_1_1 (fun _ => rfl) (fun _ => rfl) dX1_init_28 rfl ?_
  refine cz_aload_n F dX1_init_31 rfl rfl 0 rfl ?_
  refine cz_new (N := 6) (ci := 2) F tyX2 (by decide) rfl inq_2 tyX2_ok w_98 w_99 w_69 kd_6 (fun j hj b => nf_2 (b := b) j hj) rfl rfl rfl (Nat.le_of_ble_eq_true rfl) (Nat.le_of_ble_eq_true rfl) dX1_init_32 rfl ?_
  refine cz_dup F rfl dX1_init_35 rfl ?_
  refine cz_iconst F dX1_init_36 rfl ?_
  refine cz_iconst F dX1_init_37 rfl ?_
  refine cz_call (h := 6) (As := [.int (i3 (-1)), .int (i3 5)]) (st := [.ref (g.2.2.1 + 6), .ref (g.2.2.1 + 1)]) F (k_X2_init_6 l g) ci_X2_init w_100 ⟨rfl, rfl, Nat.le_of_ble_eq_true rfl, Nat.le_of_ble_eq_true rfl⟩ rfl (Nat.le_of_ble_eq_true rfl) dX1_init_38 rfl rfl ⟨Nat.le_of_ble_eq_true rfl, Nat.le_of_ble_eq_true rfl⟩ rfl ?_
  refine cz_putR (h := 1) (r := 6) F fx_161 (fun _ => hname) rfl kd_1 (by decide) rt_1_2 (fun _ => rfl) (fun _ => rfl) dX1_init_41 rfl ?_
  refine cz_aload_n F dX1_init_44 rfl rfl 0 rfl ?_
  refine cz_iconst F dX1_init_45 rfl ?_
  refine cz_newq (r := 0) F kd_8 ln_8 (by decide) (by decide) w_119 F.2.2.2.2.2.1.2.2.1.1 rfl rfl rfl rfl (Nat.le_of_ble_eq_true rfl) (Nat.le_of_ble_eq_true rfl) dX1_init_46 rfl ?_
  refine cz_putR (h := 1) (r := 8) F fx_164 (fun _ => hname) rfl kd_1 (by decide) rt_1_3 (fun _ => rfl) (fun _ => rfl) dX1_init_49 rfl ?_
  refine cz_iconst F dX1_init_52 rfl ?_
  refine cz_istore_n F dX1_init_53 rfl rfl (by decide) rfl ?_
  refine cz_iload_n F dX1_init_54 rfl rfl 0 rfl ?_
  refine cz_iconst F dX1_init_55 rfl ?_
  refine cz_ge_n F (by decide) dX1_init_56 rfl rfl ?_
  refine cz_aload_n F dX1_init_59 rfl rfl 1 rfl ?_
  refine cz_getR (h := 1) (r := 8) F fl_164 kd_1 (by decide) rt_1_3 rfl dX1_init_60 rfl ?_
  refine cz_iload_n F dX1_init_63 rfl rfl 0 rfl ?_
  refine cz_new (N := 9) (ci := 0) F tyX0 (by decide) rfl inq_0 tyX0_ok w_119 w_121 w_71 kd_9 (fun j hj b => nf_0 (b := b) j hj) rfl rfl rfl (Nat.le_of_ble_eq_true rfl) (Nat.le_of_ble_eq_true rfl) dX1_init_64 rfl ?_
  refine cz_dup F rfl dX1_init_67 rfl ?_
  refine cz_callN (h := 9) (As := []) (st := [.ref (g.2.2.1 + 9), .int (i3 0), .ref (g.2.2.1 + 8)]) (host := "DuesOnRungs") F (k_X0_init l g kd_9 (by decide)) ci_X0_init (List.mem_of_getElem? (i := 0) rfl) ⟨rfl, rfl, Nat.le_of_ble_eq_true rfl, Nat.le_of_ble_eq_true rfl⟩ rfl (Nat.le_of_ble_eq_true rfl) dX1_init_68 rfl rfl ⟨Nat.le_of_ble_eq_true rfl, Nat.le_of_ble_eq_true rfl⟩ rfl ?_
  refine cz_aast (a := 8) (h := 9) (r := 0) (cj := 0) (i := 0) F (by decide) kd_8 (by decide) kd_9 (by decide) rfl rfl ⟨by decide, by rw [ln_8]; decide⟩ rt_8_0 dX1_init_71 rfl ?_
  refine cz_iinc (y := 1) F dX1_init_72 rfl 0 rfl rfl (by decide) rfl ?_
  refine cz_goto F dX1_init_75 rfl ?_
  refine cz_iload_n F dX1_init_54 rfl rfl 0 rfl ?_
  refine cz_iconst F dX1_init_55 rfl ?_
  refine cz_ge_n F (by decide) dX1_init_56 rfl rfl ?_
  refine cz_aload_n F dX1_init_59 rfl rfl 1 rfl ?_
  refine cz_getR (h := 1) (r := 8) F fl_164 kd_1 (by decide) rt_1_3 rfl dX1_init_60 rfl ?_
  refine cz_iload_n F dX1_init_63 rfl rfl 0 rfl ?_
  refine cz_new (N := 10) (ci := 0) F tyX0 (by decide) rfl inq_0 tyX0_ok w_119 w_121 w_71 kd_10 (fun j hj b => nf_0 (b := b) j hj) rfl rfl rfl (Nat.le_of_ble_eq_true rfl) (Nat.le_of_ble_eq_true rfl) dX1_init_64 rfl ?_
  refine cz_dup F rfl dX1_init_67 rfl ?_
  refine cz_callN (h := 10) (As := []) (st := [.ref (g.2.2.1 + 10), .int (i3 1), .ref (g.2.2.1 + 8)]) (host := "DuesOnRungs") F (k_X0_init l g kd_10 (by decide)) ci_X0_init (List.mem_of_getElem? (i := 0) rfl) ⟨rfl, rfl, Nat.le_of_ble_eq_true rfl, Nat.le_of_ble_eq_true rfl⟩ rfl (Nat.le_of_ble_eq_true rfl) dX1_init_68 rfl rfl ⟨Nat.le_of_ble_eq_true rfl, Nat.le_of_ble_eq_true rfl⟩ rfl ?_
  refine cz_aast (a := 8) (h := 10) (r := 0) (cj := 0) (i := 1) F (by decide) kd_8 (by decide) kd_10 (by decide) rfl rfl ⟨by decide, by rw [ln_8]; decide⟩ rt_8_1 dX1_init_71 rfl ?_
  refine cz_iinc (y := 2) F dX1_init_72 rfl 0 rfl rfl (by decide) rfl ?_
  refine cz_goto F dX1_init_75 rfl ?_
  refine cz_iload_n F dX1_init_54 rfl rfl 0 rfl ?_
  refine cz_iconst F dX1_init_55 rfl ?_
  refine cz_ge_n F (by decide) dX1_init_56 rfl rfl ?_
  refine cz_aload_n F dX1_init_59 rfl rfl 1 rfl ?_
  refine cz_getR (h := 1) (r := 8) F fl_164 kd_1 (by decide) rt_1_3 rfl dX1_init_60 rfl ?_
  refine cz_iload_n F dX1_init_63 rfl rfl 0 rfl ?_
  refine cz_new (N := 11) (ci := 0) F tyX0 (by decide) rfl inq_0 tyX0_ok w_119 w_121 w_71 kd_11 (fun j hj b => nf_0 (b := b) j hj) rfl rfl rfl (Nat.le_of_ble_eq_true rfl) (Nat.le_of_ble_eq_true rfl) dX1_init_64 rfl ?_
  refine cz_dup F rfl dX1_init_67 rfl ?_
  refine cz_callN (h := 11) (As := []) (st := [.ref (g.2.2.1 + 11), .int (i3 2), .ref (g.2.2.1 + 8)]) (host := "DuesOnRungs") F (k_X0_init l g kd_11 (by decide)) ci_X0_init (List.mem_of_getElem? (i := 0) rfl) ⟨rfl, rfl, Nat.le_of_ble_eq_true rfl, Nat.le_of_ble_eq_true rfl⟩ rfl (Nat.le_of_ble_eq_true rfl) dX1_init_68 rfl rfl ⟨Nat.le_of_ble_eq_true rfl, Nat.le_of_ble_eq_true rfl⟩ rfl ?_
  refine cz_aast (a := 8) (h := 11) (r := 0) (cj := 0) (i := 2) F (by decide) kd_8 (by decide) kd_11 (by decide) rfl rfl ⟨by decide, by rw [ln_8]; decide⟩ rt_8_2 dX1_init_71 rfl ?_
  refine cz_iinc (y := 3) F dX1_init_72 rfl 0 rfl rfl (by decide) rfl ?_
  refine cz_goto F dX1_init_75 rfl ?_
  refine cz_iload_n F dX1_init_54 rfl rfl 0 rfl ?_
  refine cz_iconst F dX1_init_55 rfl ?_
  refine cz_ge_n F (by decide) dX1_init_56 rfl rfl ?_
  refine cz_aload_n F dX1_init_59 rfl rfl 1 rfl ?_
  refine cz_getR (h := 1) (r := 8) F fl_164 kd_1 (by decide) rt_1_3 rfl dX1_init_60 rfl ?_
  refine cz_iload_n F dX1_init_63 rfl rfl 0 rfl ?_
  refine cz_new (N := 12) (ci := 0) F tyX0 (by decide) rfl inq_0 tyX0_ok w_119 w_121 w_71 kd_12 (fun j hj b => nf_0 (b := b) j hj) rfl rfl rfl (Nat.le_of_ble_eq_true rfl) (Nat.le_of_ble_eq_true rfl) dX1_init_64 rfl ?_
  refine cz_dup F rfl dX1_init_67 rfl ?_
  refine cz_callN (h := 12) (As := []) (st := [.ref (g.2.2.1 + 12), .int (i3 3), .ref (g.2.2.1 + 8)]) (host := "DuesOnRungs") F (k_X0_init l g kd_12 (by decide)) ci_X0_init (List.mem_of_getElem? (i := 0) rfl) ⟨rfl, rfl, Nat.le_of_ble_eq_true rfl, Nat.le_of_ble_eq_true rfl⟩ rfl (Nat.le_of_ble_eq_true rfl) dX1_init_68 rfl rfl ⟨Nat.le_of_ble_eq_true rfl, Nat.le_of_ble_eq_true rfl⟩ rfl ?_
  refine cz_aast (a := 8) (h := 12) (r := 0) (cj := 0) (i := 3) F (by decide) kd_8 (by decide) kd_12 (by decide) rfl rfl ⟨by decide, by rw [ln_8]; decide⟩ rt_8_3 dX1_init_71 rfl ?_
  refine cz_iinc (y := 4) F dX1_init_72 rfl 0 rfl rfl (by decide) rfl ?_
  refine cz_goto F dX1_init_75 rfl ?_
  refine cz_iload_n F dX1_init_54 rfl rfl 0 rfl ?_
  refine cz_iconst F dX1_init_55 rfl ?_
  refine cz_ge_n F (by decide) dX1_init_56 rfl rfl ?_
  refine cz_aload_n F dX1_init_59 rfl rfl 1 rfl ?_
  refine cz_getR (h := 1) (r := 8) F fl_164 kd_1 (by decide) rt_1_3 rfl dX1_init_60 rfl ?_
  refine cz_iload_n F dX1_init_63 rfl rfl 0 rfl ?_
  refine cz_new (N := 13) (ci := 0) F tyX0 (by decide) rfl inq_0 tyX0_ok w_119 w_121 w_71 kd_13 (fun j hj b => nf_0 (b := b) j hj) rfl rfl rfl (Nat.le_of_ble_eq_true rfl) (Nat.le_of_ble_eq_true rfl) dX1_init_64 rfl ?_
  refine cz_dup F rfl dX1_init_67 rfl ?_
  refine cz_callN (h := 13) (As := []) (st := [.ref (g.2.2.1 + 13), .int (i3 4), .ref (g.2.2.1 + 8)]) (host := "DuesOnRungs") F (k_X0_init l g kd_13 (by decide)) ci_X0_init (List.mem_of_getElem? (i := 0) rfl) ⟨rfl, rfl, Nat.le_of_ble_eq_true rfl, Nat.le_of_ble_eq_true rfl⟩ rfl (Nat.le_of_ble_eq_true rfl) dX1_init_68 rfl rfl ⟨Nat.le_of_ble_eq_true rfl, Nat.le_of_ble_eq_true rfl⟩ rfl ?_
  refine cz_aast (a := 8) (h := 13) (r := 0) (cj := 0) (i := 4) F (by decide) kd_8 (by decide) kd_13 (by decide) rfl rfl ⟨by decide, by rw [ln_8]; decide⟩ rt_8_4 dX1_init_71 rfl ?_
  refine cz_iinc (y := 5) F dX1_init_72 rfl 0 rfl rfl (by decide) rfl ?_
  refine cz_goto F dX1_init_75 rfl ?_
  refine cz_iload_n F dX1_init_54 rfl rfl 0 rfl ?_
  refine cz_iconst F dX1_init_55 rfl ?_
  refine cz_ge_y F (by decide) dX1_init_56 rfl ?_
  exact cz_vret F hr dX1_init_78
def fI_X2_init_15 (I : Msk) : Msk := (stI I 15 0)
def fM_X2_init_15 (M : Mem) : Mem := (flM (st2 (st2 (zM M 16) 15 1 0) 15 2 5) 16 61 0)
set_option maxRecDepth 100000 in
set_option maxHeartbeats 4000000 in
theorem k_X2_init_15 (l : Launch) (g : En) {I : Msk} {M : Mem} : Met l yX2_init (WS yX2_init cX2_init 3 none) rm_X2_init (va_Pc [.ref (g.2.2.1 + 15), .int (i3 0), .int (i3 5)] (RqC g 16 I M)) (va_Qv (S := Unit) (fun _ => True) (fun _ t => RqC g 17 (fI_X2_init_15 I) (fM_X2_init_15 M) t) (aB g)) 1 61 (aB g) := by
  refine met_C (plainFor_of_name rfl) (Nat.le_of_ble_eq_true rfl) ?_
  intro p e s m args below meth c F hr hname
  show CZ g p l e rm_X2_init s m args below meth c 3 _ 16 I M 0 0 0 [(0, .ref (g.2.2.1 + 15)), (1, .int (i3 0)), (2, .int (i3 5))] []
  refine cz_aload_n F dX2_init_0 rfl rfl 0 rfl ?_
  refine cz_obj F w_103 w_90 w_91 (Nat.le_of_ble_eq_true rfl) (Nat.le_of_ble_eq_true rfl) dX2_init_1 rfl ?_
  refine cz_aload_n F dX2_init_4 rfl rfl 0 rfl ?_
  refine cz_bipush F dX2_init_5 (by decide) rfl ?_
  refine cz_newint F kd_16 ln_16 (by decide) (by decide) wa_int rfl rfl rfl (Nat.le_of_ble_eq_true rfl) (Nat.le_of_ble_eq_true rfl) dX2_init_7 rfl ?_
  refine cz_putR (h := 15) (r := 16) F fx_107 (fun _ => hname) rfl kd_15 (by decide) rt_15_0 (fun _ => rfl) (fun _ => rfl) dX2_init_9 rfl ?_
  refine cz_aload_n F dX2_init_12 rfl rfl 0 rfl ?_
  refine cz_iload_n F dX2_init_13 rfl rfl 1 rfl ?_
  refine cz_putI (h := 15) (w := 0) F fx_109 (fun _ => hname) rfl kd_15 (by decide) dX2_init_14 rfl ?_
  refine cz_aload_n F dX2_init_17 rfl rfl 0 rfl ?_
  refine cz_iload_n F dX2_init_18 rfl rfl 2 rfl ?_
  refine cz_putI (h := 15) (w := 5) F fx_110 (fun _ => hname) rfl kd_15 (by decide) dX2_init_19 rfl ?_
  refine cz_aload_n F dX2_init_22 rfl rfl 0 rfl ?_
  refine cz_getR (h := 15) (r := 16) F fl_107 kd_15 (by decide) rt_15_0 rfl dX2_init_23 rfl ?_
  refine cz_iload_n F dX2_init_26 rfl rfl 1 rfl ?_
  refine cz_callS (As := [.ref (g.2.2.1 + 16), .int (i3 0)]) (st := []) F (k_fill l g kd_16 ln_16 (by decide) (by decide)) cs_J7_fill_53178 w_104 ⟨rfl, rfl, Nat.le_of_ble_eq_true rfl, Nat.le_of_ble_eq_true rfl⟩ rfl (Nat.le_of_ble_eq_true rfl) dX2_init_27 ⟨Nat.le_of_ble_eq_true rfl, Nat.le_of_ble_eq_true rfl⟩ rfl ?_
  exact cz_vret F hr dX2_init_30
def fI_X2_init_17 (I : Msk) : Msk := (stI I 17 0)
def fM_X2_init_17 (M : Mem) : Mem := (flM (st2 (st2 (zM M 18) 17 1 (-1)) 17 2 6) 18 61 (-1))
set_option maxRecDepth 100000 in
set_option maxHeartbeats 4000000 in
theorem k_X2_init_17 (l : Launch) (g : En) {I : Msk} {M : Mem} : Met l yX2_init (WS yX2_init cX2_init 3 none) rm_X2_init (va_Pc [.ref (g.2.2.1 + 17), .int (i3 (-1)), .int (i3 6)] (RqC g 18 I M)) (va_Qv (S := Unit) (fun _ => True) (fun _ t => RqC g 19 (fI_X2_init_17 I) (fM_X2_init_17 M) t) (aB g)) 1 61 (aB g) := by
  refine met_C (plainFor_of_name rfl) (Nat.le_of_ble_eq_true rfl) ?_
  intro p e s m args below meth c F hr hname
  show CZ g p l e rm_X2_init s m args below meth c 3 _ 18 I M 0 0 0 [(0, .ref (g.2.2.1 + 17)), (1, .int (i3 (-1))), (2, .int (i3 6))] []
  refine cz_aload_n F dX2_init_0 rfl rfl 0 rfl ?_
  refine cz_obj F w_103 w_90 w_91 (Nat.le_of_ble_eq_true rfl) (Nat.le_of_ble_eq_true rfl) dX2_init_1 rfl ?_
  refine cz_aload_n F dX2_init_4 rfl rfl 0 rfl ?_
  refine cz_bipush F dX2_init_5 (by decide) rfl ?_
  refine cz_newint F kd_18 ln_18 (by decide) (by decide) wa_int rfl rfl rfl (Nat.le_of_ble_eq_true rfl) (Nat.le_of_ble_eq_true rfl) dX2_init_7 rfl ?_
  refine cz_putR (h := 17) (r := 18) F fx_107 (fun _ => hname) rfl kd_17 (by decide) rt_17_0 (fun _ => rfl) (fun _ => rfl) dX2_init_9 rfl ?_
  refine cz_aload_n F dX2_init_12 rfl rfl 0 rfl ?_
  refine cz_iload_n F dX2_init_13 rfl rfl 1 rfl ?_
  refine cz_putI (h := 17) (w := (-1)) F fx_109 (fun _ => hname) rfl kd_17 (by decide) dX2_init_14 rfl ?_
  refine cz_aload_n F dX2_init_17 rfl rfl 0 rfl ?_
  refine cz_iload_n F dX2_init_18 rfl rfl 2 rfl ?_
  refine cz_putI (h := 17) (w := 6) F fx_110 (fun _ => hname) rfl kd_17 (by decide) dX2_init_19 rfl ?_
  refine cz_aload_n F dX2_init_22 rfl rfl 0 rfl ?_
  refine cz_getR (h := 17) (r := 18) F fl_107 kd_17 (by decide) rt_17_0 rfl dX2_init_23 rfl ?_
  refine cz_iload_n F dX2_init_26 rfl rfl 1 rfl ?_
  refine cz_callS (As := [.ref (g.2.2.1 + 18), .int (i3 (-1))]) (st := []) F (k_fill l g kd_18 ln_18 (by decide) (by decide)) cs_J7_fill_53178 w_104 ⟨rfl, rfl, Nat.le_of_ble_eq_true rfl, Nat.le_of_ble_eq_true rfl⟩ rfl (Nat.le_of_ble_eq_true rfl) dX2_init_27 ⟨Nat.le_of_ble_eq_true rfl, Nat.le_of_ble_eq_true rfl⟩ rfl ?_
  exact cz_vret F hr dX2_init_30
def fI_X2_init_19 (I : Msk) : Msk := (stI I 19 0)
def fM_X2_init_19 (M : Mem) : Mem := (flM (st2 (st2 (zM M 20) 19 1 (-1)) 19 2 5) 20 61 (-1))
set_option maxRecDepth 100000 in
set_option maxHeartbeats 4000000 in
theorem k_X2_init_19 (l : Launch) (g : En) {I : Msk} {M : Mem} : Met l yX2_init (WS yX2_init cX2_init 3 none) rm_X2_init (va_Pc [.ref (g.2.2.1 + 19), .int (i3 (-1)), .int (i3 5)] (RqC g 20 I M)) (va_Qv (S := Unit) (fun _ => True) (fun _ t => RqC g 21 (fI_X2_init_19 I) (fM_X2_init_19 M) t) (aB g)) 1 61 (aB g) := by
  refine met_C (plainFor_of_name rfl) (Nat.le_of_ble_eq_true rfl) ?_
  intro p e s m args below meth c F hr hname
  show CZ g p l e rm_X2_init s m args below meth c 3 _ 20 I M 0 0 0 [(0, .ref (g.2.2.1 + 19)), (1, .int (i3 (-1))), (2, .int (i3 5))] []
  refine cz_aload_n F dX2_init_0 rfl rfl 0 rfl ?_
  refine cz_obj F w_103 w_90 w_91 (Nat.le_of_ble_eq_true rfl) (Nat.le_of_ble_eq_true rfl) dX2_init_1 rfl ?_
  refine cz_aload_n F dX2_init_4 rfl rfl 0 rfl ?_
  refine cz_bipush F dX2_init_5 (by decide) rfl ?_
  refine cz_newint F kd_20 ln_20 (by decide) (by decide) wa_int rfl rfl rfl (Nat.le_of_ble_eq_true rfl) (Nat.le_of_ble_eq_true rfl) dX2_init_7 rfl ?_
  refine cz_putR (h := 19) (r := 20) F fx_107 (fun _ => hname) rfl kd_19 (by decide) rt_19_0 (fun _ => rfl) (fun _ => rfl) dX2_init_9 rfl ?_
  refine cz_aload_n F dX2_init_12 rfl rfl 0 rfl ?_
  refine cz_iload_n F dX2_init_13 rfl rfl 1 rfl ?_
  refine cz_putI (h := 19) (w := (-1)) F fx_109 (fun _ => hname) rfl kd_19 (by decide) dX2_init_14 rfl ?_
  refine cz_aload_n F dX2_init_17 rfl rfl 0 rfl ?_
  refine cz_iload_n F dX2_init_18 rfl rfl 2 rfl ?_
  refine cz_putI (h := 19) (w := 5) F fx_110 (fun _ => hname) rfl kd_19 (by decide) dX2_init_19 rfl ?_
  refine cz_aload_n F dX2_init_22 rfl rfl 0 rfl ?_
  refine cz_getR (h := 19) (r := 20) F fl_107 kd_19 (by decide) rt_19_0 rfl dX2_init_23 rfl ?_
  refine cz_iload_n F dX2_init_26 rfl rfl 1 rfl ?_
  refine cz_callS (As := [.ref (g.2.2.1 + 20), .int (i3 (-1))]) (st := []) F (k_fill l g kd_20 ln_20 (by decide) (by decide)) cs_J7_fill_53178 w_104 ⟨rfl, rfl, Nat.le_of_ble_eq_true rfl, Nat.le_of_ble_eq_true rfl⟩ rfl (Nat.le_of_ble_eq_true rfl) dX2_init_27 ⟨Nat.le_of_ble_eq_true rfl, Nat.le_of_ble_eq_true rfl⟩ rfl ?_
  exact cz_vret F hr dX2_init_30
def fI_X1_init_14 (I : Msk) : Msk := (stI (zI (stI (zI (stI (zI (stI (zI (stI (zI (stI (zI (stI (fI_X2_init_19 (zI (stI (fI_X2_init_17 (zI (stI (fI_X2_init_15 (zI I 15)) 14 0) 17)) 14 1) 19)) 14 2) 21) 14 3) 22) 21 (ix 0)) 23) 21 (ix 1)) 24) 21 (ix 2)) 25) 21 (ix 3)) 26) 21 (ix 4))
def fM_X1_init_14 (M : Mem) : Mem := (zM (zM (zM (zM (zM (zM (fM_X2_init_19 (zM (fM_X2_init_17 (zM (fM_X2_init_15 (zM M 15)) 17)) 19)) 21) 22) 23) 24) 25) 26)
set_option maxRecDepth 100000 in
set_option maxHeartbeats 4000000 in
theorem k_X1_init_14 (l : Launch) (g : En) {I : Msk} {M : Mem} : Met l yX1_init (WS yX1_init cX1_init 2 none) rm_X1_init (va_Pc [.ref (g.2.2.1 + 14)] (RqC g 15 I M)) (va_Qv (S := Unit) (fun _ => True) (fun _ t => RqC g 27 (fI_X1_init_14 I) (fM_X1_init_14 M) t) (aB g)) 12 232 (aB g) := by
  refine met_C (plainFor_of_name rfl) (Nat.le_of_ble_eq_true rfl) ?_
  intro p e s m args below meth c F hr hname
  show CZ g p l e rm_X1_init s m args below meth c 2 _ 15 I M 0 0 0 [(0, .ref (g.2.2.1 + 14))] []
  refine cz_aload_n F dX1_init_0 rfl rfl 0 rfl ?_
  refine cz_obj F w_97 w_90 w_91 (Nat.le_of_ble_eq_true rfl) (Nat.le_of_ble_eq_true rfl) dX1_init_1 rfl ?_
  refine cz_aload_n F dX1_init_4 rfl rfl 0 rfl ?_
  refine cz_new (N := 15) (ci := 2) F tyX2 (by decide) rfl inq_2 tyX2_ok w_98 w_99 w_69 kd_15 (fun j hj b => nf_2 (b := b) j hj) rfl rfl rfl (Nat.le_of_ble_eq_true rfl) (Nat.le_of_ble_eq_true rfl) dX1_init_5 rfl ?_
  refine cz_dup F rfl dX1_init_8 rfl ?_
  refine cz_iconst F dX1_init_9 rfl ?_
  refine cz_iconst F dX1_init_10 rfl ?_
  refine cz_call (h := 15) (As := [.int (i3 0), .int (i3 5)]) (st := [.ref (g.2.2.1 + 15), .ref (g.2.2.1 + 14)]) F (k_X2_init_15 l g) ci_X2_init w_100 ⟨rfl, rfl, Nat.le_of_ble_eq_true rfl, Nat.le_of_ble_eq_true rfl⟩ rfl (Nat.le_of_ble_eq_true rfl) dX1_init_11 rfl rfl ⟨Nat.le_of_ble_eq_true rfl, Nat.le_of_ble_eq_true rfl⟩ rfl ?_
  refine cz_putR (h := 14) (r := 15) F fx_155 (fun _ => hname) rfl kd_14 (by decide) rt_14_0 (fun _ => rfl) (fun _ => rfl) dX1_init_14 rfl ?_
  refine cz_aload_n F dX1_init_17 rfl rfl 0 rfl ?_
  refine cz_new (N := 17) (ci := 2) F tyX2 (by decide) rfl inq_2 tyX2_ok w_98 w_99 w_69 kd_17 (fun j hj b => nf_2 (b := b) j hj) rfl rfl rfl (Nat.le_of_ble_eq_true rfl) (Nat.le_of_ble_eq_true rfl) dX1_init_18 rfl ?_
  refine cz_dup F rfl dX1_init_21 rfl ?_
  refine cz_iconst F dX1_init_22 rfl ?_
  refine cz_bipush F dX1_init_23 (by decide) rfl ?_
  refine cz_call (h := 17) (As := [.int (i3 (-1)), .int (i3 6)]) (st := [.ref (g.2.2.1 + 17), .ref (g.2.2.1 + 14)]) F (k_X2_init_17 l g) ci_X2_init w_100 ⟨rfl, rfl, Nat.le_of_ble_eq_true rfl, Nat.le_of_ble_eq_true rfl⟩ rfl (Nat.le_of_ble_eq_true rfl) dX1_init_25 rfl rfl ⟨Nat.le_of_ble_eq_true rfl, Nat.le_of_ble_eq_true rfl⟩ rfl ?_
  refine cz_putR (h := 14) (r := 17) F fx_158 (fun _ => hname) rfl kd_14 (by decide) rt_14_1 (fun _ => rfl) (fun _ => rfl) dX1_init_28 rfl ?_
  refine cz_aload_n F dX1_init_31 rfl rfl 0 rfl ?_
  refine cz_new (N := 19) (ci := 2) F tyX2 (by decide) rfl inq_2 tyX2_ok w_98 w_99 w_69 kd_19 (fun j hj b => nf_2 (b := b) j hj) rfl rfl rfl (Nat.le_of_ble_eq_true rfl) (Nat.le_of_ble_eq_true rfl) dX1_init_32 rfl ?_
  refine cz_dup F rfl dX1_init_35 rfl ?_
  refine cz_iconst F dX1_init_36 rfl ?_
  refine cz_iconst F dX1_init_37 rfl ?_
  refine cz_call (h := 19) (As := [.int (i3 (-1)), .int (i3 5)]) (st := [.ref (g.2.2.1 + 19), .ref (g.2.2.1 + 14)]) F (k_X2_init_19 l g) ci_X2_init w_100 ⟨rfl, rfl, Nat.le_of_ble_eq_true rfl, Nat.le_of_ble_eq_true rfl⟩ rfl (Nat.le_of_ble_eq_true rfl) dX1_init_38 rfl rfl ⟨Nat.le_of_ble_eq_true rfl, Nat.le_of_ble_eq_true rfl⟩ rfl ?_
  refine cz_putR (h := 14) (r := 19) F fx_161 (fun _ => hname) rfl kd_14 (by decide) rt_14_2 (fun _ => rfl) (fun _ => rfl) dX1_init_41 rfl ?_
  refine cz_aload_n F dX1_init_44 rfl rfl 0 rfl ?_
  refine cz_iconst F dX1_init_45 rfl ?_
  refine cz_newq (r := 0) F kd_21 ln_21 (by decide) (by decide) w_119 F.2.2.2.2.2.1.2.2.1.1 rfl rfl rfl rfl (Nat.le_of_ble_eq_true rfl) (Nat.le_of_ble_eq_true rfl) dX1_init_46 rfl ?_
  refine cz_putR (h := 14) (r := 21) F fx_164 (fun _ => hname) rfl kd_14 (by decide) rt_14_3 (fun _ => rfl) (fun _ => rfl) dX1_init_49 rfl ?_
  refine cz_iconst F dX1_init_52 rfl ?_
  refine cz_istore_n F dX1_init_53 rfl rfl (by decide) rfl ?_
  refine cz_iload_n F dX1_init_54 rfl rfl 0 rfl ?_
  refine cz_iconst F dX1_init_55 rfl ?_
  refine cz_ge_n F (by decide) dX1_init_56 rfl rfl ?_
  refine cz_aload_n F dX1_init_59 rfl rfl 1 rfl ?_
  refine cz_getR (h := 14) (r := 21) F fl_164 kd_14 (by decide) rt_14_3 rfl dX1_init_60 rfl ?_
  refine cz_iload_n F dX1_init_63 rfl rfl 0 rfl ?_
  refine cz_new (N := 22) (ci := 0) F tyX0 (by decide) rfl inq_0 tyX0_ok w_119 w_121 w_71 kd_22 (fun j hj b => nf_0 (b := b) j hj) rfl rfl rfl (Nat.le_of_ble_eq_true rfl) (Nat.le_of_ble_eq_true rfl) dX1_init_64 rfl ?_
  refine cz_dup F rfl dX1_init_67 rfl ?_
  refine cz_callN (h := 22) (As := []) (st := [.ref (g.2.2.1 + 22), .int (i3 0), .ref (g.2.2.1 + 21)]) (host := "DuesOnRungs") F (k_X0_init l g kd_22 (by decide)) ci_X0_init (List.mem_of_getElem? (i := 0) rfl) ⟨rfl, rfl, Nat.le_of_ble_eq_true rfl, Nat.le_of_ble_eq_true rfl⟩ rfl (Nat.le_of_ble_eq_true rfl) dX1_init_68 rfl rfl ⟨Nat.le_of_ble_eq_true rfl, Nat.le_of_ble_eq_true rfl⟩ rfl ?_
  refine cz_aast (a := 21) (h := 22) (r := 0) (cj := 0) (i := 0) F (by decide) kd_21 (by decide) kd_22 (by decide) rfl rfl ⟨by decide, by rw [ln_21]; decide⟩ rt_21_0 dX1_init_71 rfl ?_
  refine cz_iinc (y := 1) F dX1_init_72 rfl 0 rfl rfl (by decide) rfl ?_
  refine cz_goto F dX1_init_75 rfl ?_
  refine cz_iload_n F dX1_init_54 rfl rfl 0 rfl ?_
  refine cz_iconst F dX1_init_55 rfl ?_
  refine cz_ge_n F (by decide) dX1_init_56 rfl rfl ?_
  refine cz_aload_n F dX1_init_59 rfl rfl 1 rfl ?_
  refine cz_getR (h := 14) (r := 21) F fl_164 kd_14 (by decide) rt_14_3 rfl dX1_init_60 rfl ?_
  refine cz_iload_n F dX1_init_63 rfl rfl 0 rfl ?_
  refine cz_new (N := 23) (ci := 0) F tyX0 (by decide) rfl inq_0 tyX0_ok w_119 w_121 w_71 kd_23 (fun j hj b => nf_0 (b := b) j hj) rfl rfl rfl (Nat.le_of_ble_eq_true rfl) (Nat.le_of_ble_eq_true rfl) dX1_init_64 rfl ?_
  refine cz_dup F rfl dX1_init_67 rfl ?_
  refine cz_callN (h := 23) (As := []) (st := [.ref (g.2.2.1 + 23), .int (i3 1), .ref (g.2.2.1 + 21)]) (host := "DuesOnRungs") F (k_X0_init l g kd_23 (by decide)) ci_X0_init (List.mem_of_getElem? (i := 0) rfl) ⟨rfl, rfl, Nat.le_of_ble_eq_true rfl, Nat.le_of_ble_eq_true rfl⟩ rfl (Nat.le_of_ble_eq_true rfl) dX1_init_68 rfl rfl ⟨Nat.le_of_ble_eq_true rfl, Nat.le_of_ble_eq_true rfl⟩ rfl ?_
  refine cz_aast (a := 21) (h := 23) (r := 0) (cj := 0) (i := 1) F (by decide) kd_21 (by decide) kd_23 (by decide) rfl rfl ⟨by decide, by rw [ln_21]; decide⟩ rt_21_1 dX1_init_71 rfl ?_
  refine cz_iinc (y := 2) F dX1_init_72 rfl 0 rfl rfl (by decide) rfl ?_
  refine cz_goto F dX1_init_75 rfl ?_
  refine cz_iload_n F dX1_init_54 rfl rfl 0 rfl ?_
  refine cz_iconst F dX1_init_55 rfl ?_
  refine cz_ge_n F (by decide) dX1_init_56 rfl rfl ?_
  refine cz_aload_n F dX1_init_59 rfl rfl 1 rfl ?_
  refine cz_getR (h := 14) (r := 21) F fl_164 kd_14 (by decide) rt_14_3 rfl dX1_init_60 rfl ?_
  refine cz_iload_n F dX1_init_63 rfl rfl 0 rfl ?_
  refine cz_new (N := 24) (ci := 0) F tyX0 (by decide) rfl inq_0 tyX0_ok w_119 w_121 w_71 kd_24 (fun j hj b => nf_0 (b := b) j hj) rfl rfl rfl (Nat.le_of_ble_eq_true rfl) (Nat.le_of_ble_eq_true rfl) dX1_init_64 rfl ?_
  refine cz_dup F rfl dX1_init_67 rfl ?_
  refine cz_callN (h := 24) (As := []) (st := [.ref (g.2.2.1 + 24), .int (i3 2), .ref (g.2.2.1 + 21)]) (host := "DuesOnRungs") F (k_X0_init l g kd_24 (by decide)) ci_X0_init (List.mem_of_getElem? (i := 0) rfl) ⟨rfl, rfl, Nat.le_of_ble_eq_true rfl, Nat.le_of_ble_eq_true rfl⟩ rfl (Nat.le_of_ble_eq_true rfl) dX1_init_68 rfl rfl ⟨Nat.le_of_ble_eq_true rfl, Nat.le_of_ble_eq_true rfl⟩ rfl ?_
  refine cz_aast (a := 21) (h := 24) (r := 0) (cj := 0) (i := 2) F (by decide) kd_21 (by decide) kd_24 (by decide) rfl rfl ⟨by decide, by rw [ln_21]; decide⟩ rt_21_2 dX1_init_71 rfl ?_
  refine cz_iinc (y := 3) F dX1_init_72 rfl 0 rfl rfl (by decide) rfl ?_
  refine cz_goto F dX1_init_75 rfl ?_
  refine cz_iload_n F dX1_init_54 rfl rfl 0 rfl ?_
  refine cz_iconst F dX1_init_55 rfl ?_
  refine cz_ge_n F (by decide) dX1_init_56 rfl rfl ?_
  refine cz_aload_n F dX1_init_59 rfl rfl 1 rfl ?_
  refine cz_getR (h := 14) (r := 21) F fl_164 kd_14 (by decide) rt_14_3 rfl dX1_init_60 rfl ?_
  refine cz_iload_n F dX1_init_63 rfl rfl 0 rfl ?_
  refine cz_new (N := 25) (ci := 0) F tyX0 (by decide) rfl inq_0 tyX0_ok w_119 w_121 w_71 kd_25 (fun j hj b => nf_0 (b := b) j hj) rfl rfl rfl (Nat.le_of_ble_eq_true rfl) (Nat.le_of_ble_eq_true rfl) dX1_init_64 rfl ?_
  refine cz_dup F rfl dX1_init_67 rfl ?_
  refine cz_callN (h := 25) (As := []) (st := [.ref (g.2.2.1 + 25), .int (i3 3), .ref (g.2.2.1 + 21)]) (host := "DuesOnRungs") F (k_X0_init l g kd_25 (by decide)) ci_X0_init (List.mem_of_getElem? (i := 0) rfl) ⟨rfl, rfl, Nat.le_of_ble_eq_true rfl, Nat.le_of_ble_eq_true rfl⟩ rfl (Nat.le_of_ble_eq_true rfl) dX1_init_68 rfl rfl ⟨Nat.le_of_ble_eq_true rfl, Nat.le_of_ble_eq_true rfl⟩ rfl ?_
  refine cz_aast (a := 21) (h := 25) (r := 0) (cj := 0) (i := 3) F (by decide) kd_21 (by decide) kd_25 (by decide) rfl rfl ⟨by decide, by rw [ln_21]; decide⟩ rt_21_3 dX1_init_71 rfl ?_
  refine cz_iinc (y := 4) F dX1_init_72 rfl 0 rfl rfl (by decide) rfl ?_
  refine cz_goto F dX1_init_75 rfl ?_
  refine cz_iload_n F dX1_init_54 rfl rfl 0 rfl ?_
  refine cz_iconst F dX1_init_55 rfl ?_
  refine cz_ge_n F (by decide) dX1_init_56 rfl rfl ?_
  refine cz_aload_n F dX1_init_59 rfl rfl 1 rfl ?_
  refine cz_getR (h := 14) (r := 21) F fl_164 kd_14 (by decide) rt_14_3 rfl dX1_init_60 rfl ?_
  refine cz_iload_n F dX1_init_63 rfl rfl 0 rfl ?_
  refine cz_new (N := 26) (ci := 0) F tyX0 (by decide) rfl inq_0 tyX0_ok w_119 w_121 w_71 kd_26 (fun j hj b => nf_0 (b := b) j hj) rfl rfl rfl (Nat.le_of_ble_eq_true rfl) (Nat.le_of_ble_eq_true rfl) dX1_init_64 rfl ?_
  refine cz_dup F rfl dX1_init_67 rfl ?_
  refine cz_callN (h := 26) (As := []) (st := [.ref (g.2.2.1 + 26), .int (i3 4), .ref (g.2.2.1 + 21)]) (host := "DuesOnRungs") F (k_X0_init l g kd_26 (by decide)) ci_X0_init (List.mem_of_getElem? (i := 0) rfl) ⟨rfl, rfl, Nat.le_of_ble_eq_true rfl, Nat.le_of_ble_eq_true rfl⟩ rfl (Nat.le_of_ble_eq_true rfl) dX1_init_68 rfl rfl ⟨Nat.le_of_ble_eq_true rfl, Nat.le_of_ble_eq_true rfl⟩ rfl ?_
  refine cz_aast (a := 21) (h := 26) (r := 0) (cj := 0) (i := 4) F (by decide) kd_21 (by decide) kd_26 (by decide) rfl rfl ⟨by decide, by rw [ln_21]; decide⟩ rt_21_4 dX1_init_71 rfl ?_
  refine cz_iinc (y := 5) F dX1_init_72 rfl 0 rfl rfl (by decide) rfl ?_
  refine cz_goto F dX1_init_75 rfl ?_
  refine cz_iload_n F dX1_init_54 rfl rfl 0 rfl ?_
  refine cz_iconst F dX1_init_55 rfl ?_
  refine cz_ge_y F (by decide) dX1_init_56 rfl ?_
  exact cz_vret F hr dX1_init_78
abbrev rm_X8_init : Room := { frames := 1, cells := 20, slots := 492, locals := 12 }
theorem ci_X8_init : CI yX8_init cX8_init 1 0 := ⟨w_188, w_72, w_189, rfl, by decide +kernel, by decide +kernel, by decide +kernel⟩
def fI_X8_init_27 (I : Msk) : Msk := (stI (stI (stI (gI (stI (gI (stI (stI (stI (stI (stI (stI I 27 1) 27 2) 27 3) 27 4) 27 5) 27 6) 34) 27 7) 40) 27 8) 27 9) 27 10)
def fM_X8_init_27 (M : Mem) : Mem := (zM (zM (gM (gM (zM (zM (zM (zM (zM (zM M 28) 29) 30) 31) 32) 33) 34 (1 + 5)) 40 (1 + 5)) 46) 47)
set_option maxRecDepth 100000 in
set_option maxHeartbeats 4000000 in
theorem k_X8_init_27 (l : Launch) (g : En) {I : Msk} {M : Mem} : Met l yX8_init (WS yX8_init cX8_init 1 none) rm_X8_init (va_Pc [.ref (g.2.2.1 + 27)] (RqC g 28 I M)) (va_Qv (S := Unit) (fun _ => True) (fun _ t => RqC g 48 (fI_X8_init_27 I) (fM_X8_init_27 M) t) (aB g)) 20 492 (aB g) := by
  refine met_C (plainFor_of_name rfl) (Nat.le_of_ble_eq_true rfl) ?_
  intro p e s m args below meth c F hr hname
  show CZ g p l e rm_X8_init s m args below meth c 1 _ 28 I M 0 0 0 [(0, .ref (g.2.2.1 + 27))] []
  refine cz_aload_n F dX8_init_0 rfl rfl 0 rfl ?_
  refine cz_obj F w_190 w_90 w_91 (Nat.le_of_ble_eq_true rfl) (Nat.le_of_ble_eq_true rfl) dX8_init_1 rfl ?_
  refine cz_aload_n F dX8_init_4 rfl rfl 0 rfl ?_
  refine cz_iconst F dX8_init_5 rfl ?_
  refine cz_newint F kd_28 ln_28 (by decide) (by decide) wa_int rfl rfl rfl (Nat.le_of_ble_eq_true rfl) (Nat.le_of_ble_eq_true rfl) dX8_init_6 rfl ?_
  refine cz_putR (h := 27) (r := 28) F fx_199 (fun _ => hname) rfl kd_27 (by decide) rt_27_1 (fun _ => rfl) (fun _ => rfl) dX8_init_8 rfl ?_
  refine cz_aload_n F dX8_init_11 rfl rfl 0 rfl ?_
  refine cz_iconst F dX8_init_12 rfl ?_
  refine cz_newint F kd_29 ln_29 (by decide) (by decide) wa_int rfl rfl rfl (Nat.le_of_ble_eq_true rfl) (Nat.le_of_ble_eq_true rfl) dX8_init_13 rfl ?_
  refine cz_putR (h := 27) (r := 29) F fx_201 (fun _ => hname) rfl kd_27 (by decide) rt_27_2 (fun _ => rfl) (fun _ => rfl) dX8_init_15 rfl ?_
  refine cz_aload_n F dX8_init_18 rfl rfl 0 rfl ?_
  refine cz_iconst F dX8_init_19 rfl ?_
  refine cz_newint F kd_30 ln_30 (by decide) (by decide) wa_int rfl rfl rfl (Nat.le_of_ble_eq_true rfl) (Nat.le_of_ble_eq_true rfl) dX8_init_20 rfl ?_
  refine cz_putR (h := 27) (r := 30) F fx_206 (fun _ => hname) rfl kd_27 (by decide) rt_27_3 (fun _ => rfl) (fun _ => rfl) dX8_init_22 rfl ?_
  refine cz_aload_n F dX8_init_25 rfl rfl 0 rfl ?_
  refine cz_iconst F dX8_init_26 rfl ?_
  refine cz_newint F kd_31 ln_31 (by decide) (by decide) wa_int rfl rfl rfl (Nat.le_of_ble_eq_true rfl) (Nat.le_of_ble_eq_true rfl) dX8_init_27 rfl ?_
  refine cz_putR (h := 27) (r := 31) F fx_211 (fun _ => hname) rfl kd_27 (by decide) rt_27_4 (fun _ => rfl) (fun _ => rfl) dX8_init_29 rfl ?_
  refine cz_aload_n F dX8_init_32 rfl rfl 0 rfl ?_
  refine cz_bipush F dX8_init_33 (by decide) rfl ?_
  refine cz_newint F kd_32 ln_32 (by decide) (by decide) wa_int rfl rfl rfl (Nat.le_of_ble_eq_true rfl) (Nat.le_of_ble_eq_true rfl) dX8_init_35 rfl ?_
  refine cz_putR (h := 27) (r := 32) F fx_215 (fun _ => hname) rfl kd_27 (by decide) rt_27_5 (fun _ => rfl) (fun _ => rfl) dX8_init_37 rfl ?_
  refine cz_aload_n F dX8_init_40 rfl rfl 0 rfl ?_
  refine cz_bipush F dX8_init_41 (by decide) rfl ?_
  refine cz_newint F kd_33 ln_33 (by decide) (by decide) wa_int rfl rfl rfl (Nat.le_of_ble_eq_true rfl) (Nat.le_of_ble_eq_true rfl) dX8_init_43 rfl ?_
  refine cz_putR (h := 27) (r := 33) F fx_217 (fun _ => hname) rfl kd_27 (by decide) rt_27_6 (fun _ => rfl) (fun _ => rfl) dX8_init_45 rfl ?_
  refine cz_aload_n F dX8_init_48 rfl rfl 0 rfl ?_
  refine cz_iconst F dX8_init_49 rfl ?_
  refine cz_bipush F dX8_init_50 (by decide) rfl ?_
  refine cz_mna F (n1 := 5) (k1 := 61) (by decide) (by decide) (by decide) (by decide) kd_34 ln_34 (by decide +kernel) w_191 wa_int rfl rfl rfl (Nat.le_of_ble_eq_true rfl) (Nat.le_of_ble_eq_true rfl) dX8_init_52 rfl ?_
  refine cz_putR (h := 27) (r := 34) F fx_219 (fun _ => hname) rfl kd_27 (by decide) rt_27_7 (fun _ => rfl) (fun _ => rfl) dX8_init_56 rfl ?_
  refine cz_aload_n F dX8_init_59 rfl rfl 0 rfl ?_
  refine cz_iconst F dX8_init_60 rfl ?_
  refine cz_iconst F dX8_init_61 rfl ?_
  refine cz_mna F (n1 := 5) (k1 := 5) (by decide) (by decide) (by decide) (by decide) kd_40 ln_40 (by decide +kernel) w_191 wa_int rfl rfl rfl (Nat.le_of_ble_eq_true rfl) (Nat.le_of_ble_eq_true rfl) dX8_init_62 rfl ?_
  refine cz_putR (h := 27) (r := 40) F fx_221 (fun _ => hname) rfl kd_27 (by decide) rt_27_8 (fun _ => rfl) (fun _ => rfl) dX8_init_66 rfl ?_
  refine cz_aload_n F dX8_init_69 rfl rfl 0 rfl ?_
  refine cz_iconst F dX8_init_70 rfl ?_
  refine cz_newint F kd_46 ln_46 (by decide) (by decide) wa_int rfl rfl rfl (Nat.le_of_ble_eq_true rfl) (Nat.le_of_ble_eq_true rfl) dX8_init_71 rfl ?_
  refine cz_putR (h := 27) (r := 46) F fx_225 (fun _ => hname) rfl kd_27 (by decide) rt_27_9 (fun _ => rfl) (fun _ => rfl) dX8_init_73 rfl ?_
  refine cz_aload_n F dX8_init_76 rfl rfl 0 rfl ?_
  refine cz_iconst F dX8_init_77 rfl ?_
  refine cz_newint F kd_47 ln_47 (by decide) (by decide) wa_int rfl rfl rfl (Nat.le_of_ble_eq_true rfl) (Nat.le_of_ble_eq_true rfl) dX8_init_78 rfl ?_
  refine cz_putR (h := 27) (r := 47) F fx_228 (fun _ => hname) rfl kd_27 (by decide) rt_27_10 (fun _ => rfl) (fun _ => rfl) dX8_init_80 rfl ?_
  exact cz_vret F hr dX8_init_83
def fI_X8_init_48 (I : Msk) : Msk := (stI (stI (stI (gI (stI (gI (stI (stI (stI (stI (stI (stI I 48 1) 48 2) 48 3) 48 4) 48 5) 48 6) 55) 48 7) 61) 48 8) 48 9) 48 10)
def fM_X8_init_48 (M : Mem) : Mem := (zM (zM (gM (gM (zM (zM (zM (zM (zM (zM M 49) 50) 51) 52) 53) 54) 55 (1 + 5)) 61 (1 + 5)) 67) 68)
set_option maxRecDepth 100000 in
set_option maxHeartbeats 4000000 in
theorem k_X8_init_48 (l : Launch) (g : En) {I : Msk} {M : Mem} : Met l yX8_init (WS yX8_init cX8_init 1 none) rm_X8_init (va_Pc [.ref (g.2.2.1 + 48)] (RqC g 49 I M)) (va_Qv (S := Unit) (fun _ => True) (fun _ t => RqC g 69 (fI_X8_init_48 I) (fM_X8_init_48 M) t) (aB g)) 20 492 (aB g) := by
  refine met_C (plainFor_of_name rfl) (Nat.le_of_ble_eq_true rfl) ?_
  intro p e s m args below meth c F hr hname
  show CZ g p l e rm_X8_init s m args below meth c 1 _ 49 I M 0 0 0 [(0, .ref (g.2.2.1 + 48))] []
  refine cz_aload_n F dX8_init_0 rfl rfl 0 rfl ?_
  refine cz_obj F w_190 w_90 w_91 (Nat.le_of_ble_eq_true rfl) (Nat.le_of_ble_eq_true rfl) dX8_init_1 rfl ?_
  refine cz_aload_n F dX8_init_4 rfl rfl 0 rfl ?_
  refine cz_iconst F dX8_init_5 rfl ?_
  refine cz_newint F kd_49 ln_49 (by decide) (by decide) wa_int rfl rfl rfl (Nat.le_of_ble_eq_true rfl) (Nat.le_of_ble_eq_true rfl) dX8_init_6 rfl ?_
  refine cz_putR (h := 48) (r := 49) F fx_199 (fun _ => hname) rfl kd_48 (by decide) rt_48_1 (fun _ => rfl) (fun _ => rfl) dX8_init_8 rfl ?_
  refine cz_aload_n F dX8_init_11 rfl rfl 0 rfl ?_
  refine cz_iconst F dX8_init_12 rfl ?_
  refine cz_newint F kd_50 ln_50 (by decide) (by decide) wa_int rfl rfl rfl (Nat.le_of_ble_eq_true rfl) (Nat.le_of_ble_eq_true rfl) dX8_init_13 rfl ?_
  refine cz_putR (h := 48) (r := 50) F fx_201 (fun _ => hname) rfl kd_48 (by decide) rt_48_2 (fun _ => rfl) (fun _ => rfl) dX8_init_15 rfl ?_
  refine cz_aload_n F dX8_init_18 rfl rfl 0 rfl ?_
  refine cz_iconst F dX8_init_19 rfl ?_
  refine cz_newint F kd_51 ln_51 (by decide) (by decide) wa_int rfl rfl rfl (Nat.le_of_ble_eq_true rfl) (Nat.le_of_ble_eq_true rfl) dX8_init_20 rfl ?_
  refine cz_putR (h := 48) (r := 51) F fx_206 (fun _ => hname) rfl kd_48 (by decide) rt_48_3 (fun _ => rfl) (fun _ => rfl) dX8_init_22 rfl ?_
  refine cz_aload_n F dX8_init_25 rfl rfl 0 rfl ?_
  refine cz_iconst F dX8_init_26 rfl ?_
  refine cz_newint F kd_52 ln_52 (by decide) (by decide) wa_int rfl rfl rfl (Nat.le_of_ble_eq_true rfl) (Nat.le_of_ble_eq_true rfl) dX8_init_27 rfl ?_
  refine cz_putR (h := 48) (r := 52) F fx_211 (fun _ => hname) rfl kd_48 (by decide) rt_48_4 (fun _ => rfl) (fun _ => rfl) dX8_init_29 rfl ?_
  refine cz_aload_n F dX8_init_32 rfl rfl 0 rfl ?_
  refine cz_bipush F dX8_init_33 (by decide) rfl ?_
  refine cz_newint F kd_53 ln_53 (by decide) (by decide) wa_int rfl rfl rfl (Nat.le_of_ble_eq_true rfl) (Nat.le_of_ble_eq_true rfl) dX8_init_35 rfl ?_
  refine cz_putR (h := 48) (r := 53) F fx_215 (fun _ => hname) rfl kd_48 (by decide) rt_48_5 (fun _ => rfl) (fun _ => rfl) dX8_init_37 rfl ?_
  refine cz_aload_n F dX8_init_40 rfl rfl 0 rfl ?_
  refine cz_bipush F dX8_init_41 (by decide) rfl ?_
  refine cz_newint F kd_54 ln_54 (by decide) (by decide) wa_int rfl rfl rfl (Nat.le_of_ble_eq_true rfl) (Nat.le_of_ble_eq_true rfl) dX8_init_43 rfl ?_
  refine cz_putR (h := 48) (r := 54) F fx_217 (fun _ => hname) rfl kd_48 (by decide) rt_48_6 (fun _ => rfl) (fun _ => rfl) dX8_init_45 rfl ?_
  refine cz_aload_n F dX8_init_48 rfl rfl 0 rfl ?_
  refine cz_iconst F dX8_init_49 rfl ?_
  refine cz_bipush F dX8_init_50 (by decide) rfl ?_
  refine cz_mna F (n1 := 5) (k1 := 61) (by decide) (by decide) (by decide) (by decide) kd_55 ln_55 (by decide +kernel) w_191 wa_int rfl rfl rfl (Nat.le_of_ble_eq_true rfl) (Nat.le_of_ble_eq_true rfl) dX8_init_52 rfl ?_
  refine cz_putR (h := 48) (r := 55) F fx_219 (fun _ => hname) rfl kd_48 (by decide) rt_48_7 (fun _ => rfl) (fun _ => rfl) dX8_init_56 rfl ?_
  refine cz_aload_n F dX8_init_59 rfl rfl 0 rfl ?_
  refine cz_iconst F dX8_init_60 rfl ?_
  refine cz_iconst F dX8_init_61 rfl ?_
  refine cz_mna F (n1 := 5) (k1 := 5) (by decide) (by decide) (by decide) (by decide) kd_61 ln_61 (by decide +kernel) w_191 wa_int rfl rfl rfl (Nat.le_of_ble_eq_true rfl) (Nat.le_of_ble_eq_true rfl) dX8_init_62 rfl ?_
  refine cz_putR (h := 48) (r := 61) F fx_221 (fun _ => hname) rfl kd_48 (by decide) rt_48_8 (fun _ => rfl) (fun _ => rfl) dX8_init_66 rfl ?_
  refine cz_aload_n F dX8_init_69 rfl rfl 0 rfl ?_
  refine cz_iconst F dX8_init_70 rfl ?_
  refine cz_newint F kd_67 ln_67 (by decide) (by decide) wa_int rfl rfl rfl (Nat.le_of_ble_eq_true rfl) (Nat.le_of_ble_eq_true rfl) dX8_init_71 rfl ?_
  refine cz_putR (h := 48) (r := 67) F fx_225 (fun _ => hname) rfl kd_48 (by decide) rt_48_9 (fun _ => rfl) (fun _ => rfl) dX8_init_73 rfl ?_
  refine cz_aload_n F dX8_init_76 rfl rfl 0 rfl ?_
  refine cz_iconst F dX8_init_77 rfl ?_
  refine cz_newint F kd_68 ln_68 (by decide) (by decide) wa_int rfl rfl rfl (Nat.le_of_ble_eq_true rfl) (Nat.le_of_ble_eq_true rfl) dX8_init_78 rfl ?_
  refine cz_putR (h := 48) (r := 68) F fx_228 (fun _ => hname) rfl kd_48 (by decide) rt_48_10 (fun _ => rfl) (fun _ => rfl) dX8_init_80 rfl ?_
  exact cz_vret F hr dX8_init_83
abbrev rm_X4_init : Room := { frames := 1, cells := 0, slots := 0, locals := 12 }
set_option maxRecDepth 100000 in
set_option maxHeartbeats 4000000 in
theorem k_X4_init (l : Launch) (g : En) {h N : Nat} {I : Msk} {M : Mem} (kh : kd h = 4) (hh : h < N) : Met l yX4_init (WS yX4_init cX4_init 1 none) rm_X4_init (va_Pc [.ref (g.2.2.1 + h)] (RqC g N I M)) (va_Qv (S := Unit) (fun _ => True) (fun _ t => RqC g N I (st2 M h 1 1) t) (aB g)) 0 0 (aB g) := by
  refine met_C (plainFor_of_name rfl) (Nat.le_of_ble_eq_true rfl) ?_
  intro p e s m args below meth c F hr hname
  show CZ g p l e rm_X4_init s m args below meth c 1 _ N I M 0 0 0 [(0, .ref (g.2.2.1 + h))] []
  refine cz_aload_n F dX4_init_0 rfl rfl 0 rfl ?_
  refine cz_obj F w_265 w_90 w_91 (Nat.le_of_ble_eq_true rfl) (Nat.le_of_ble_eq_true rfl) dX4_init_1 rfl ?_
  refine cz_aload_n F dX4_init_4 rfl rfl 0 rfl ?_
  refine cz_lconst1 F dX4_init_5 rfl ?_
  refine cz_putL (h := h) (w := 1) F fx_269 (fun _ => hname) rfl kh hh dX4_init_6 rfl ?_
  exact cz_vret F hr dX4_init_9
theorem ci_X4_init : CI yX4_init cX4_init 1 0 := ⟨w_263, w_74, w_264, rfl, by decide +kernel, by decide +kernel, by decide +kernel⟩
abbrev rm_X10_init : Room := { frames := 2, cells := 12, slots := 38, locals := 32 }
theorem ci_X10_init : CI yX10_init cX10_init 2 0 := ⟨w_257, w_73, w_258, rfl, by decide +kernel, by decide +kernel, by decide +kernel⟩
def fI_X10_init_73 (I : Msk) : Msk := (stI (zI (stI (zI (stI (zI (stI (zI (stI (zI (stI (zI (stI (zI (stI (zI (stI (zI (stI (zI (stI (zI (stI (zI I 74) 73 0) 75) 73 1) 76) 73 2) 77) 73 3) 78) 73 4) 79) 73 5) 80) 73 6) 81) 77 (ix 0)) 82) 77 (ix 1)) 83) 77 (ix 2)) 84) 77 (ix 3)) 85) 77 (ix 4))
def fM_X10_init_73 (M : Mem) : Mem := (st2 (zM (st2 (zM (st2 (zM (st2 (zM (st2 (zM (st2 (zM (st2 (zM (st2 (zM (zM (st2 (zM (st2 (zM (st2 (zM M 74) 74 1 1) 75) 75 1 1) 76) 76 1 1) 77) 78) 78 1 1) 79) 79 1 1) 80) 80 1 1) 81) 81 1 1) 82) 82 1 1) 83) 83 1 1) 84) 84 1 1) 85) 85 1 1)
set_option maxRecDepth 100000 in
set_option maxHeartbeats 4000000 in
theorem k_X10_init_73 (l : Launch) (g : En) {I : Msk} {M : Mem} : Met l yX10_init (WS yX10_init cX10_init 2 none) rm_X10_init (va_Pc [.ref (g.2.2.1 + 73)] (RqC g 74 I M)) (va_Qv (S := Unit) (fun _ => True) (fun _ t => RqC g 86 (fI_X10_init_73 I) (fM_X10_init_73 M) t) (aB g)) 12 38 (aB g) := by
  refine met_C (plainFor_of_name rfl) (Nat.le_of_ble_eq_true rfl) ?_
  intro p e s m args below meth c F hr hname
  show CZ g p l e rm_X10_init s m args below meth c 2 _ 74 I M 0 0 0 [(0, .ref (g.2.2.1 + 73))] []
  refine cz_aload_n F dX10_init_0 rfl rfl 0 rfl ?_
  refine cz_obj F w_259 w_90 w_91 (Nat.le_of_ble_eq_true rfl) (Nat.le_of_ble_eq_true rfl) dX10_init_1 rfl ?_
  refine cz_aload_n F dX10_init_4 rfl rfl 0 rfl ?_
  refine cz_new (N := 74) (ci := 4) F tyX4 (by decide) rfl inq_4 tyX4_ok w_260 w_261 w_74 kd_74 (fun j hj b => nf_4 (b := b) j hj) rfl rfl rfl (Nat.le_of_ble_eq_true rfl) (Nat.le_of_ble_eq_true rfl) dX10_init_5 rfl ?_
  refine cz_dup F rfl dX10_init_8 rfl ?_
  refine cz_callN (h := 74) (As := []) (st := [.ref (g.2.2.1 + 74), .ref (g.2.2.1 + 73)]) (host := "DuesOnRungs") F (k_X4_init l g kd_74 (by decide)) ci_X4_init (List.mem_of_getElem? (i := 2) rfl) ⟨rfl, rfl, Nat.le_of_ble_eq_true rfl, Nat.le_of_ble_eq_true rfl⟩ rfl (Nat.le_of_ble_eq_true rfl) dX10_init_9 rfl rfl ⟨Nat.le_of_ble_eq_true rfl, Nat.le_of_ble_eq_true rfl⟩ rfl ?_
  refine cz_putR (h := 73) (r := 74) F fx_281 (fun _ => hname) rfl kd_73 (by decide) rt_73_0 (fun _ => rfl) (fun _ => rfl) dX10_init_12 rfl ?_
  refine cz_aload_n F dX10_init_15 rfl rfl 0 rfl ?_
  refine cz_new (N := 75) (ci := 4) F tyX4 (by decide) rfl inq_4 tyX4_ok w_260 w_261 w_74 kd_75 (fun j hj b => nf_4 (b := b) j hj) rfl rfl rfl (Nat.le_of_ble_eq_true rfl) (Nat.le_of_ble_eq_true rfl) dX10_init_16 rfl ?_
  refine cz_dup F rfl dX10_init_19 rfl ?_
  refine cz_callN (h := 75) (As := []) (st := [.ref (g.2.2.1 + 75), .ref (g.2.2.1 + 73)]) (host := "DuesOnRungs") F (k_X4_init l g kd_75 (by decide)) ci_X4_init (List.mem_of_getElem? (i := 2) rfl) ⟨rfl, rfl, Nat.le_of_ble_eq_true rfl, Nat.le_of_ble_eq_true rfl⟩ rfl (Nat.le_of_ble_eq_true rfl) dX10_init_20 rfl rfl ⟨Nat.le_of_ble_eq_true rfl, Nat.le_of_ble_eq_true rfl⟩ rfl ?_
  refine cz_putR (h := 73) (r := 75) F fx_283 (fun _ => hname) rfl kd_73 (by decide) rt_73_1 (fun _ => rfl) (fun _ => rfl) dX10_init_23 rfl ?_
  refine cz_aload_n F dX10_init_26 rfl rfl 0 rfl ?_
  refine cz_new (N := 76) (ci := 4) F tyX4 (by decide) rfl inq_4 tyX4_ok w_260 w_261 w_74 kd_76 (fun j hj b => nf_4 (b := b) j hj) rfl rfl rfl (Nat.le_of_ble_eq_true rfl) (Nat.le_of_ble_eq_true rfl) dX10_init_27 rfl ?_
  refine cz_dup F rfl dX10_init_30 rfl ?_
  refine cz_callN (h := 76) (As := []) (st := [.ref (g.2.2.1 + 76), .ref (g.2.2.1 + 73)]) (host := "DuesOnRungs") F (k_X4_init l g kd_76 (by decide)) ci_X4_init (List.mem_of_getElem? (i := 2) rfl) ⟨rfl, rfl, Nat.le_of_ble_eq_true rfl, Nat.le_of_ble_eq_true rfl⟩ rfl (Nat.le_of_ble_eq_true rfl) dX10_init_31 rfl rfl ⟨Nat.le_of_ble_eq_true rfl, Nat.le_of_ble_eq_true rfl⟩ rfl ?_
  refine cz_putR (h := 73) (r := 76) F fx_285 (fun _ => hname) rfl kd_73 (by decide) rt_73_2 (fun _ => rfl) (fun _ => rfl) dX10_init_34 rfl ?_
  refine cz_aload_n F dX10_init_37 rfl rfl 0 rfl ?_
  refine cz_iconst F dX10_init_38 rfl ?_
  refine cz_newq (r := 1) F kd_77 ln_77 (by decide) (by decide) w_260 F.2.2.2.2.2.1.2.2.1.2.1 rfl rfl rfl rfl (Nat.le_of_ble_eq_true rfl) (Nat.le_of_ble_eq_true rfl) dX10_init_39 rfl ?_
  refine cz_putR (h := 73) (r := 77) F fx_287 (fun _ => hname) rfl kd_73 (by decide) rt_73_3 (fun _ => rfl) (fun _ => rfl) dX10_init_42 rfl ?_
  refine cz_aload_n F dX10_init_45 rfl rfl 0 rfl ?_
  refine cz_new (N := 78) (ci := 4) F tyX4 (by decide) rfl inq_4 tyX4_ok w_260 w_261 w_74 kd_78 (fun j hj b => nf_4 (b := b) j hj) rfl rfl rfl (Nat.le_of_ble_eq_true rfl) (Nat.le_of_ble_eq_true rfl) dX10_init_46 rfl ?_
  refine cz_dup F rfl dX10_init_49 rfl ?_
  refine cz_callN (h := 78) (As := []) (st := [.ref (g.2.2.1 + 78), .ref (g.2.2.1 + 73)]) (host := "DuesOnRungs") F (k_X4_init l g kd_78 (by decide)) ci_X4_init (List.mem_of_getElem? (i := 2) rfl) ⟨rfl, rfl, Nat.le_of_ble_eq_true rfl, Nat.le_of_ble_eq_true rfl⟩ rfl (Nat.le_of_ble_eq_true rfl) dX10_init_50 rfl rfl ⟨Nat.le_of_ble_eq_true rfl, Nat.le_of_ble_eq_true rfl⟩ rfl ?_
  refine cz_putR (h := 73) (r := 78) F fx_288 (fun _ => hname) rfl kd_73 (by decide) rt_73_4 (fun _ => rfl) (fun _ => rfl) dX10_init_53 rfl ?_
  refine cz_aload_n F dX10_init_56 rfl rfl 0 rfl ?_
  refine cz_new (N := 79) (ci := 4) F tyX4 (by decide) rfl inq_4 tyX4_ok w_260 w_261 w_74 kd_79 (fun j hj b => nf_4 (b := b) j hj) rfl rfl rfl (Nat.le_of_ble_eq_true rfl) (Nat.le_of_ble_eq_true rfl) dX10_init_57 rfl ?_
  refine cz_dup F rfl dX10_init_60 rfl ?_
  refine cz_callN (h := 79) (As := []) (st := [.ref (g.2.2.1 + 79), .ref (g.2.2.1 + 73)]) (host := "DuesOnRungs") F (k_X4_init l g kd_79 (by decide)) ci_X4_init (List.mem_of_getElem? (i := 2) rfl) ⟨rfl, rfl, Nat.le_of_ble_eq_true rfl, Nat.le_of_ble_eq_true rfl⟩ rfl (Nat.le_of_ble_eq_true rfl) dX10_init_61 rfl rfl ⟨Nat.le_of_ble_eq_true rfl, Nat.le_of_ble_eq_true rfl⟩ rfl ?_
  refine cz_putR (h := 73) (r := 79) F fx_289 (fun _ => hname) rfl kd_73 (by decide) rt_73_5 (fun _ => rfl) (fun _ => rfl) dX10_init_64 rfl ?_
  refine cz_aload_n F dX10_init_67 rfl rfl 0 rfl ?_
  refine cz_new (N := 80) (ci := 4) F tyX4 (by decide) rfl inq_4 tyX4_ok w_260 w_261 w_74 kd_80 (fun j hj b => nf_4 (b := b) j hj) rfl rfl rfl (Nat.le_of_ble_eq_true rfl) (Nat.le_of_ble_eq_true rfl) dX10_init_68 rfl ?_
  refine cz_dup F rfl dX10_init_71 rfl ?_
  refine cz_callN (h := 80) (As := []) (st := [.ref (g.2.2.1 + 80), .ref (g.2.2.1 + 73)]) (host := "DuesOnRungs") F (k_X4_init l g kd_80 (by decide)) ci_X4_init (List.mem_of_getElem? (i := 2) rfl) ⟨rfl, rfl, Nat.le_of_ble_eq_true rfl, Nat.le_of_ble_eq_true rfl⟩ rfl (Nat.le_of_ble_eq_true rfl) dX10_init_72 rfl rfl ⟨Nat.le_of_ble_eq_true rfl, Nat.le_of_ble_eq_true rfl⟩ rfl ?_
  refine cz_putR (h := 73) (r := 80) F fx_290 (fun _ => hname) rfl kd_73 (by decide) rt_73_6 (fun _ => rfl) (fun _ => rfl) dX10_init_75 rfl ?_
  refine cz_iconst F dX10_init_78 rfl ?_
  refine cz_istore_n F dX10_init_79 rfl rfl (by decide) rfl ?_
  refine cz_iload_n F dX10_init_80 rfl rfl 0 rfl ?_
  refine cz_iconst F dX10_init_81 rfl ?_
  refine cz_ge_n F (by decide) dX10_init_82 rfl rfl ?_
  refine cz_aload_n F dX10_init_85 rfl rfl 1 rfl ?_
  refine cz_getR (h := 73) (r := 77) F fl_287 kd_73 (by decide) rt_73_3 rfl dX10_init_86 rfl ?_
  refine cz_iload_n F dX10_init_89 rfl rfl 0 rfl ?_
  refine cz_new (N := 81) (ci := 4) F tyX4 (by decide) rfl inq_4 tyX4_ok w_260 w_261 w_74 kd_81 (fun j hj b => nf_4 (b := b) j hj) rfl rfl rfl (Nat.le_of_ble_eq_true rfl) (Nat.le_of_ble_eq_true rfl) dX10_init_90 rfl ?_
  refine cz_dup F rfl dX10_init_93 rfl ?_
  refine cz_callN (h := 81) (As := []) (st := [.ref (g.2.2.1 + 81), .int (i3 0), .ref (g.2.2.1 + 77)]) (host := "DuesOnRungs") F (k_X4_init l g kd_81 (by decide)) ci_X4_init (List.mem_of_getElem? (i := 2) rfl) ⟨rfl, rfl, Nat.le_of_ble_eq_true rfl, Nat.le_of_ble_eq_true rfl⟩ rfl (Nat.le_of_ble_eq_true rfl) dX10_init_94 rfl rfl ⟨Nat.le_of_ble_eq_true rfl, Nat.le_of_ble_eq_true rfl⟩ rfl ?_
  refine cz_aast (a := 77) (h := 81) (r := 1) (cj := 4) (i := 0) F (by decide) kd_77 (by decide) kd_81 (by decide) rfl rfl ⟨by decide, by rw [ln_77]; decide⟩ rt_77_0 dX10_init_97 rfl ?_
  refine cz_iinc (y := 1) F dX10_init_98 rfl 0 rfl rfl (by decide) rfl ?_
  refine cz_goto F dX10_init_101 rfl ?_
  refine cz_iload_n F dX10_init_80 rfl rfl 0 rfl ?_
  refine cz_iconst F dX10_init_81 rfl ?_
  refine cz_ge_n F (by decide) dX10_init_82 rfl rfl ?_
  refine cz_aload_n F dX10_init_85 rfl rfl 1 rfl ?_
  refine cz_getR (h := 73) (r := 77) F fl_287 kd_73 (by decide) rt_73_3 rfl dX10_init_86 rfl ?_
  refine cz_iload_n F dX10_init_89 rfl rfl 0 rfl ?_
  refine cz_new (N := 82) (ci := 4) F tyX4 (by decide) rfl inq_4 tyX4_ok w_260 w_261 w_74 kd_82 (fun j hj b => nf_4 (b := b) j hj) rfl rfl rfl (Nat.le_of_ble_eq_true rfl) (Nat.le_of_ble_eq_true rfl) dX10_init_90 rfl ?_
  refine cz_dup F rfl dX10_init_93 rfl ?_
  refine cz_callN (h := 82) (As := []) (st := [.ref (g.2.2.1 + 82), .int (i3 1), .ref (g.2.2.1 + 77)]) (host := "DuesOnRungs") F (k_X4_init l g kd_82 (by decide)) ci_X4_init (List.mem_of_getElem? (i := 2) rfl) ⟨rfl, rfl, Nat.le_of_ble_eq_true rfl, Nat.le_of_ble_eq_true rfl⟩ rfl (Nat.le_of_ble_eq_true rfl) dX10_init_94 rfl rfl ⟨Nat.le_of_ble_eq_true rfl, Nat.le_of_ble_eq_true rfl⟩ rfl ?_
  refine cz_aast (a := 77) (h := 82) (r := 1) (cj := 4) (i := 1) F (by decide) kd_77 (by decide) kd_82 (by decide) rfl rfl ⟨by decide, by rw [ln_77]; decide⟩ rt_77_1 dX10_init_97 rfl ?_
  refine cz_iinc (y := 2) F dX10_init_98 rfl 0 rfl rfl (by decide) rfl ?_
  refine cz_goto F dX10_init_101 rfl ?_
  refine cz_iload_n F dX10_init_80 rfl rfl 0 rfl ?_
  refine cz_iconst F dX10_init_81 rfl ?_
  refine cz_ge_n F (by decide) dX10_init_82 rfl rfl ?_
  refine cz_aload_n F dX10_init_85 rfl rfl 1 rfl ?_
  refine cz_getR (h := 73) (r := 77) F fl_287 kd_73 (by decide) rt_73_3 rfl dX10_init_86 rfl ?_
  refine cz_iload_n F dX10_init_89 rfl rfl 0 rfl ?_
  refine cz_new (N := 83) (ci := 4) F tyX4 (by decide) rfl inq_4 tyX4_ok w_260 w_261 w_74 kd_83 (fun j hj b => nf_4 (b := b) j hj) rfl rfl rfl (Nat.le_of_ble_eq_true rfl) (Nat.le_of_ble_eq_true rfl) dX10_init_90 rfl ?_
  refine cz_dup F rfl dX10_init_93 rfl ?_
  refine cz_callN (h := 83) (As := []) (st := [.ref (g.2.2.1 + 83), .int (i3 2), .ref (g.2.2.1 + 77)]) (host := "DuesOnRungs") F (k_X4_init l g kd_83 (by decide)) ci_X4_init (List.mem_of_getElem? (i := 2) rfl) ⟨rfl, rfl, Nat.le_of_ble_eq_true rfl, Nat.le_of_ble_eq_true rfl⟩ rfl (Nat.le_of_ble_eq_true rfl) dX10_init_94 rfl rfl ⟨Nat.le_of_ble_eq_true rfl, Nat.le_of_ble_eq_true rfl⟩ rfl ?_
  refine cz_aast (a := 77) (h := 83) (r := 1) (cj := 4) (i := 2) F (by decide) kd_77 (by decide) kd_83 (by decide) rfl rfl ⟨by decide, by rw [ln_77]; decide⟩ rt_77_2 dX10_init_97 rfl ?_
  refine cz_iinc (y := 3) F dX10_init_98 rfl 0 rfl rfl (by decide) rfl ?_
  refine cz_goto F dX10_init_101 rfl ?_
  refine cz_iload_n F dX10_init_80 rfl rfl 0 rfl ?_
  refine cz_iconst F dX10_init_81 rfl ?_
  refine cz_ge_n F (by decide) dX10_init_82 rfl rfl ?_
  refine cz_aload_n F dX10_init_85 rfl rfl 1 rfl ?_
  refine cz_getR (h := 73) (r := 77) F fl_287 kd_73 (by decide) rt_73_3 rfl dX10_init_86 rfl ?_
  refine cz_iload_n F dX10_init_89 rfl rfl 0 rfl ?_
  refine cz_new (N := 84) (ci := 4) F tyX4 (by decide) rfl inq_4 tyX4_ok w_260 w_261 w_74 kd_84 (fun j hj b => nf_4 (b := b) j hj) rfl rfl rfl (Nat.le_of_ble_eq_true rfl) (Nat.le_of_ble_eq_true rfl) dX10_init_90 rfl ?_
  refine cz_dup F rfl dX10_init_93 rfl ?_
  refine cz_callN (h := 84) (As := []) (st := [.ref (g.2.2.1 + 84), .int (i3 3), .ref (g.2.2.1 + 77)]) (host := "DuesOnRungs") F (k_X4_init l g kd_84 (by decide)) ci_X4_init (List.mem_of_getElem? (i := 2) rfl) ⟨rfl, rfl, Nat.le_of_ble_eq_true rfl, Nat.le_of_ble_eq_true rfl⟩ rfl (Nat.le_of_ble_eq_true rfl) dX10_init_94 rfl rfl ⟨Nat.le_of_ble_eq_true rfl, Nat.le_of_ble_eq_true rfl⟩ rfl ?_
  refine cz_aast (a := 77) (h := 84) (r := 1) (cj := 4) (i := 3) F (by decide) kd_77 (by decide) kd_84 (by decide) rfl rfl ⟨by decide, by rw [ln_77]; decide⟩ rt_77_3 dX10_init_97 rfl ?_
  refine cz_iinc (y := 4) F dX10_init_98 rfl 0 rfl rfl (by decide) rfl ?_
  refine cz_goto F dX10_init_101 rfl ?_
  refine cz_iload_n F dX10_init_80 rfl rfl 0 rfl ?_
  refine cz_iconst F dX10_init_81 rfl ?_
  refine cz_ge_n F (by decide) dX10_init_82 rfl rfl ?_
  refine cz_aload_n F dX10_init_85 rfl rfl 1 rfl ?_
  refine cz_getR (h := 73) (r := 77) F fl_287 kd_73 (by decide) rt_73_3 rfl dX10_init_86 rfl ?_
  refine cz_iload_n F dX10_init_89 rfl rfl 0 rfl ?_
  refine cz_new (N := 85) (ci := 4) F tyX4 (by decide) rfl inq_4 tyX4_ok w_260 w_261 w_74 kd_85 (fun j hj b => nf_4 (b := b) j hj) rfl rfl rfl (Nat.le_of_ble_eq_true rfl) (Nat.le_of_ble_eq_true rfl) dX10_init_90 rfl ?_
  refine cz_dup F rfl dX10_init_93 rfl ?_
  refine cz_callN (h := 85) (As := []) (st := [.ref (g.2.2.1 + 85), .int (i3 4), .ref (g.2.2.1 + 77)]) (host := "DuesOnRungs") F (k_X4_init l g kd_85 (by decide)) ci_X4_init (List.mem_of_getElem? (i := 2) rfl) ⟨rfl, rfl, Nat.le_of_ble_eq_true rfl, Nat.le_of_ble_eq_true rfl⟩ rfl (Nat.le_of_ble_eq_true rfl) dX10_init_94 rfl rfl ⟨Nat.le_of_ble_eq_true rfl, Nat.le_of_ble_eq_true rfl⟩ rfl ?_
  refine cz_aast (a := 77) (h := 85) (r := 1) (cj := 4) (i := 4) F (by decide) kd_77 (by decide) kd_85 (by decide) rfl rfl ⟨by decide, by rw [ln_77]; decide⟩ rt_77_4 dX10_init_97 rfl ?_
  refine cz_iinc (y := 5) F dX10_init_98 rfl 0 rfl rfl (by decide) rfl ?_
  refine cz_goto F dX10_init_101 rfl ?_
  refine cz_iload_n F dX10_init_80 rfl rfl 0 rfl ?_
  refine cz_iconst F dX10_init_81 rfl ?_
  refine cz_ge_y F (by decide) dX10_init_82 rfl ?_
  exact cz_vret F hr dX10_init_104
abbrev rm_X7_init : Room := { frames := 2, cells := 7, slots := 23, locals := 32 }
theorem ci_X7_init : CI yX7_init cX7_init 2 0 := ⟨w_317, w_76, w_318, rfl, by decide +kernel, by decide +kernel, by decide +kernel⟩
def fI_X7_init_88 (I : Msk) : Msk := (stI (zI (stI (zI (stI (zI (stI (zI (stI (zI (stI (zI (stI (zI I 89) 88 1) 90) 88 2) 91) 90 (ix 0)) 92) 90 (ix 1)) 93) 90 (ix 2)) 94) 90 (ix 3)) 95) 90 (ix 4))
def fM_X7_init_88 (M : Mem) : Mem := (st2 (zM (st2 (zM (st2 (zM (st2 (zM (st2 (zM (zM (st2 (zM M 89) 89 1 1) 90) 91) 91 1 1) 92) 92 1 1) 93) 93 1 1) 94) 94 1 1) 95) 95 1 1)
set_option maxRecDepth 100000 in
set_option maxHeartbeats 4000000 in
theorem k_X7_init_88 (l : Launch) (g : En) {I : Msk} {M : Mem} : Met l yX7_init (WS yX7_init cX7_init 2 none) rm_X7_init (va_Pc [.ref (g.2.2.1 + 88)] (RqC g 89 I M)) (va_Qv (S := Unit) (fun _ => True) (fun _ t => RqC g 96 (fI_X7_init_88 I) (fM_X7_init_88 M) t) (aB g)) 7 23 (aB g) := by
  refine met_C (plainFor_of_name rfl) (Nat.le_of_ble_eq_true rfl) ?_
  intro p e s m args below meth c F hr hname
  show CZ g p l e rm_X7_init s m args below meth c 2 _ 89 I M 0 0 0 [(0, .ref (g.2.2.1 + 88))] []
  refine cz_aload_n F dX7_init_0 rfl rfl 0 rfl ?_
  refine cz_obj F w_319 w_90 w_91 (Nat.le_of_ble_eq_true rfl) (Nat.le_of_ble_eq_true rfl) dX7_init_1 rfl ?_
  refine cz_aload_n F dX7_init_4 rfl rfl 0 rfl ?_
  refine cz_new (N := 89) (ci := 4) F tyX4 (by decide) rfl inq_4 tyX4_ok w_320 w_261 w_74 kd_89 (fun j hj b => nf_4 (b := b) j hj) rfl rfl rfl (Nat.le_of_ble_eq_true rfl) (Nat.le_of_ble_eq_true rfl) dX7_init_5 rfl ?_
  refine cz_dup F rfl dX7_init_8 rfl ?_
  refine cz_callN (h := 89) (As := []) (st := [.ref (g.2.2.1 + 89), .ref (g.2.2.1 + 88)]) (host := "DuesOnRungs") F (k_X4_init l g kd_89 (by decide)) ci_X4_init (List.mem_of_getElem? (i := 4) rfl) ⟨rfl, rfl, Nat.le_of_ble_eq_true rfl, Nat.le_of_ble_eq_true rfl⟩ rfl (Nat.le_of_ble_eq_true rfl) dX7_init_9 rfl rfl ⟨Nat.le_of_ble_eq_true rfl, Nat.le_of_ble_eq_true rfl⟩ rfl ?_
  refine cz_putR (h := 88) (r := 89) F fx_324 (fun _ => hname) rfl kd_88 (by decide) rt_88_1 (fun _ => rfl) (fun _ => rfl) dX7_init_12 rfl ?_
  refine cz_aload_n F dX7_init_15 rfl rfl 0 rfl ?_
  refine cz_iconst F dX7_init_16 rfl ?_
  refine cz_newq (r := 1) F kd_90 ln_90 (by decide) (by decide) w_320 F.2.2.2.2.2.1.2.2.1.2.1 rfl rfl rfl rfl (Nat.le_of_ble_eq_true rfl) (Nat.le_of_ble_eq_true rfl) dX7_init_17 rfl ?_
  refine cz_putR (h := 88) (r := 90) F fx_327 (fun _ => hname) rfl kd_88 (by decide) rt_88_2 (fun _ => rfl) (fun _ => rfl) dX7_init_20 rfl ?_
  refine cz_iconst F dX7_init_23 rfl ?_
  refine cz_istore_n F dX7_init_24 rfl rfl (by decide) rfl ?_
  refine cz_iload_n F dX7_init_25 rfl rfl 0 rfl ?_
  refine cz_iconst F dX7_init_26 rfl ?_
  refine cz_ge_n F (by decide) dX7_init_27 rfl rfl ?_
  refine cz_aload_n F dX7_init_30 rfl rfl 1 rfl ?_
  refine cz_getR (h := 88) (r := 90) F fl_327 kd_88 (by decide) rt_88_2 rfl dX7_init_31 rfl ?_
  refine cz_iload_n F dX7_init_34 rfl rfl 0 rfl ?_
  refine cz_new (N := 91) (ci := 4) F tyX4 (by decide) rfl inq_4 tyX4_ok w_320 w_261 w_74 kd_91 (fun j hj b => nf_4 (b := b) j hj) rfl rfl rfl (Nat.le_of_ble_eq_true rfl) (Nat.le_of_ble_eq_true rfl) dX7_init_35 rfl ?_
  refine cz_dup F rfl dX7_init_38 rfl ?_
  refine cz_callN (h := 91) (As := []) (st := [.ref (g.2.2.1 + 91), .int (i3 0), .ref (g.2.2.1 + 90)]) (host := "DuesOnRungs") F (k_X4_init l g kd_91 (by decide)) ci_X4_init (List.mem_of_getElem? (i := 4) rfl) ⟨rfl, rfl, Nat.le_of_ble_eq_true rfl, Nat.le_of_ble_eq_true rfl⟩ rfl (Nat.le_of_ble_eq_true rfl) dX7_init_39 rfl rfl ⟨Nat.le_of_ble_eq_true rfl, Nat.le_of_ble_eq_true rfl⟩ rfl ?_
  refine cz_aast (a := 90) (h := 91) (r := 1) (cj := 4) (i := 0) F (by decide) kd_90 (by decide) kd_91 (by decide) rfl rfl ⟨by decide, by rw [ln_90]; decide⟩ rt_90_0 dX7_init_42 rfl ?_
  refine cz_iinc (y := 1) F dX7_init_43 rfl 0 rfl rfl (by decide) rfl ?_
  refine cz_goto F dX7_init_46 rfl ?_
  refine cz_iload_n F dX7_init_25 rfl rfl 0 rfl ?_
  refine cz_iconst F dX7_init_26 rfl ?_
  refine cz_ge_n F (by decide) dX7_init_27 rfl rfl ?_
  refine cz_aload_n F dX7_init_30 rfl rfl 1 rfl ?_
  refine cz_getR (h := 88) (r := 90) F fl_327 kd_88 (by decide) rt_88_2 rfl dX7_init_31 rfl ?_
  refine cz_iload_n F dX7_init_34 rfl rfl 0 rfl ?_
  refine cz_new (N := 92) (ci := 4) F tyX4 (by decide) rfl inq_4 tyX4_ok w_320 w_261 w_74 kd_92 (fun j hj b => nf_4 (b := b) j hj) rfl rfl rfl (Nat.le_of_ble_eq_true rfl) (Nat.le_of_ble_eq_true rfl) dX7_init_35 rfl ?_
  refine cz_dup F rfl dX7_init_38 rfl ?_
  refine cz_callN (h := 92) (As := []) (st := [.ref (g.2.2.1 + 92), .int (i3 1), .ref (g.2.2.1 + 90)]) (host := "DuesOnRungs") F (k_X4_init l g kd_92 (by decide)) ci_X4_init (List.mem_of_getElem? (i := 4) rfl) ⟨rfl, rfl, Nat.le_of_ble_eq_true rfl, Nat.le_of_ble_eq_true rfl⟩ rfl (Nat.le_of_ble_eq_true rfl) dX7_init_39 rfl rfl ⟨Nat.le_of_ble_eq_true rfl, Nat.le_of_ble_eq_true rfl⟩ rfl ?_
  refine cz_aast (a := 90) (h := 92) (r := 1) (cj := 4) (i := 1) F (by decide) kd_90 (by decide) kd_92 (by decide) rfl rfl ⟨by decide, by rw [ln_90]; decide⟩ rt_90_1 dX7_init_42 rfl ?_
  refine cz_iinc (y := 2) F dX7_init_43 rfl 0 rfl rfl (by decide) rfl ?_
  refine cz_goto F dX7_init_46 rfl ?_
  refine cz_iload_n F dX7_init_25 rfl rfl 0 rfl ?_
  refine cz_iconst F dX7_init_26 rfl ?_
  refine cz_ge_n F (by decide) dX7_init_27 rfl rfl ?_
  refine cz_aload_n F dX7_init_30 rfl rfl 1 rfl ?_
  refine cz_getR (h := 88) (r := 90) F fl_327 kd_88 (by decide) rt_88_2 rfl dX7_init_31 rfl ?_
  refine cz_iload_n F dX7_init_34 rfl rfl 0 rfl ?_
  refine cz_new (N := 93) (ci := 4) F tyX4 (by decide) rfl inq_4 tyX4_ok w_320 w_261 w_74 kd_93 (fun j hj b => nf_4 (b := b) j hj) rfl rfl rfl (Nat.le_of_ble_eq_true rfl) (Nat.le_of_ble_eq_true rfl) dX7_init_35 rfl ?_
  refine cz_dup F rfl dX7_init_38 rfl ?_
  refine cz_callN (h := 93) (As := []) (st := [.ref (g.2.2.1 + 93), .int (i3 2), .ref (g.2.2.1 + 90)]) (host := "DuesOnRungs") F (k_X4_init l g kd_93 (by decide)) ci_X4_init (List.mem_of_getElem? (i := 4) rfl) ⟨rfl, rfl, Nat.le_of_ble_eq_true rfl, Nat.le_of_ble_eq_true rfl⟩ rfl (Nat.le_of_ble_eq_true rfl) dX7_init_39 rfl rfl ⟨Nat.le_of_ble_eq_true rfl, Nat.le_of_ble_eq_true rfl⟩ rfl ?_
  refine cz_aast (a := 90) (h := 93) (r := 1) (cj := 4) (i := 2) F (by decide) kd_90 (by decide) kd_93 (by decide) rfl rfl ⟨by decide, by rw [ln_90]; decide⟩ rt_90_2 dX7_init_42 rfl ?_
  refine cz_iinc (y := 3) F dX7_init_43 rfl 0 rfl rfl (by decide) rfl ?_
  refine cz_goto F dX7_init_46 rfl ?_
  refine cz_iload_n F dX7_init_25 rfl rfl 0 rfl ?_
  refine cz_iconst F dX7_init_26 rfl ?_
  refine cz_ge_n F (by decide) dX7_init_27 rfl rfl ?_
  refine cz_aload_n F dX7_init_30 rfl rfl 1 rfl ?_
  refine cz_getR (h := 88) (r := 90) F fl_327 kd_88 (by decide) rt_88_2 rfl dX7_init_31 rfl ?_
  refine cz_iload_n F dX7_init_34 rfl rfl 0 rfl ?_
  refine cz_new (N := 94) (ci := 4) F tyX4 (by decide) rfl inq_4 tyX4_ok w_320 w_261 w_74 kd_94 (fun j hj b => nf_4 (b := b) j hj) rfl rfl rfl (Nat.le_of_ble_eq_true rfl) (Nat.le_of_ble_eq_true rfl) dX7_init_35 rfl ?_
  refine cz_dup F rfl dX7_init_38 rfl ?_
  refine cz_callN (h := 94) (As := []) (st := [.ref (g.2.2.1 + 94), .int (i3 3), .ref (g.2.2.1 + 90)]) (host := "DuesOnRungs") F (k_X4_init l g kd_94 (by decide)) ci_X4_init (List.mem_of_getElem? (i := 4) rfl) ⟨rfl, rfl, Nat.le_of_ble_eq_true rfl, Nat.le_of_ble_eq_true rfl⟩ rfl (Nat.le_of_ble_eq_true rfl) dX7_init_39 rfl rfl ⟨Nat.le_of_ble_eq_true rfl, Nat.le_of_ble_eq_true rfl⟩ rfl ?_
  refine cz_aast (a := 90) (h := 94) (r := 1) (cj := 4) (i := 3) F (by decide) kd_90 (by decide) kd_94 (by decide) rfl rfl ⟨by decide, by rw [ln_90]; decide⟩ rt_90_3 dX7_init_42 rfl ?_
  refine cz_iinc (y := 4) F dX7_init_43 rfl 0 rfl rfl (by decide) rfl ?_
  refine cz_goto F dX7_init_46 rfl ?_
  refine cz_iload_n F dX7_init_25 rfl rfl 0 rfl ?_
  refine cz_iconst F dX7_init_26 rfl ?_
  refine cz_ge_n F (by decide) dX7_init_27 rfl rfl ?_
  refine cz_aload_n F dX7_init_30 rfl rfl 1 rfl ?_
  refine cz_getR (h := 88) (r := 90) F fl_327 kd_88 (by decide) rt_88_2 rfl dX7_init_31 rfl ?_
  refine cz_iload_n F dX7_init_34 rfl rfl 0 rfl ?_
  refine cz_new (N := 95) (ci := 4) F tyX4 (by decide) rfl inq_4 tyX4_ok w_320 w_261 w_74 kd_95 (fun j hj b => nf_4 (b := b) j hj) rfl rfl rfl (Nat.le_of_ble_eq_true rfl) (Nat.le_of_ble_eq_true rfl) dX7_init_35 rfl ?_
  refine cz_dup F rfl dX7_init_38 rfl ?_
  refine cz_callN (h := 95) (As := []) (st := [.ref (g.2.2.1 + 95), .int (i3 4), .ref (g.2.2.1 + 90)]) (host := "DuesOnRungs") F (k_X4_init l g kd_95 (by decide)) ci_X4_init (List.mem_of_getElem? (i := 4) rfl) ⟨rfl, rfl, Nat.le_of_ble_eq_true rfl, Nat.le_of_ble_eq_true rfl⟩ rfl (Nat.le_of_ble_eq_true rfl) dX7_init_39 rfl rfl ⟨Nat.le_of_ble_eq_true rfl, Nat.le_of_ble_eq_true rfl⟩ rfl ?_
  refine cz_aast (a := 90) (h := 95) (r := 1) (cj := 4) (i := 4) F (by decide) kd_90 (by decide) kd_95 (by decide) rfl rfl ⟨by decide, by rw [ln_90]; decide⟩ rt_90_4 dX7_init_42 rfl ?_
  refine cz_iinc (y := 5) F dX7_init_43 rfl 0 rfl rfl (by decide) rfl ?_
  refine cz_goto F dX7_init_46 rfl ?_
  refine cz_iload_n F dX7_init_25 rfl rfl 0 rfl ?_
  refine cz_iconst F dX7_init_26 rfl ?_
  refine cz_ge_y F (by decide) dX7_init_27 rfl ?_
  exact cz_vret F hr dX7_init_49
def fI_X7_init_102 (I : Msk) : Msk := (stI (zI (stI (zI (stI (zI (stI (zI (stI (zI (stI (zI (stI (zI I 103) 102 1) 104) 102 2) 105) 104 (ix 0)) 106) 104 (ix 1)) 107) 104 (ix 2)) 108) 104 (ix 3)) 109) 104 (ix 4))
def fM_X7_init_102 (M : Mem) : Mem := (st2 (zM (st2 (zM (st2 (zM (st2 (zM (st2 (zM (zM (st2 (zM M 103) 103 1 1) 104) 105) 105 1 1) 106) 106 1 1) 107) 107 1 1) 108) 108 1 1) 109) 109 1 1)
set_option maxRecDepth 100000 in
set_option maxHeartbeats 4000000 in
theorem k_X7_init_102 (l : Launch) (g : En) {I : Msk} {M : Mem} : Met l yX7_init (WS yX7_init cX7_init 2 none) rm_X7_init (va_Pc [.ref (g.2.2.1 + 102)] (RqC g 103 I M)) (va_Qv (S := Unit) (fun _ => True) (fun _ t => RqC g 110 (fI_X7_init_102 I) (fM_X7_init_102 M) t) (aB g)) 7 23 (aB g) := by
  refine met_C (plainFor_of_name rfl) (Nat.le_of_ble_eq_true rfl) ?_
  intro p e s m args below meth c F hr hname
  show CZ g p l e rm_X7_init s m args below meth c 2 _ 103 I M 0 0 0 [(0, .ref (g.2.2.1 + 102))] []
  refine cz_aload_n F dX7_init_0 rfl rfl 0 rfl ?_
  refine cz_obj F w_319 w_90 w_91 (Nat.le_of_ble_eq_true rfl) (Nat.le_of_ble_eq_true rfl) dX7_init_1 rfl ?_
  refine cz_aload_n F dX7_init_4 rfl rfl 0 rfl ?_
  refine cz_new (N := 103) (ci := 4) F tyX4 (by decide) rfl inq_4 tyX4_ok w_320 w_261 w_74 kd_103 (fun j hj b => nf_4 (b := b) j hj) rfl rfl rfl (Nat.le_of_ble_eq_true rfl) (Nat.le_of_ble_eq_true rfl) dX7_init_5 rfl ?_
  refine cz_dup F rfl dX7_init_8 rfl ?_
  refine cz_callN (h := 103) (As := []) (st := [.ref (g.2.2.1 + 103), .ref (g.2.2.1 + 102)]) (host := "DuesOnRungs") F (k_X4_init l g kd_103 (by decide)) ci_X4_init (List.mem_of_getElem? (i := 4) rfl) ⟨rfl, rfl, Nat.le_of_ble_eq_true rfl, Nat.le_of_ble_eq_true rfl⟩ rfl (Nat.le_of_ble_eq_true rfl) dX7_init_9 rfl rfl ⟨Nat.le_of_ble_eq_true rfl, Nat.le_of_ble_eq_true rfl⟩ rfl ?_
  refine cz_putR (h := 102) (r := 103) F fx_324 (fun _ => hname) rfl kd_102 (by decide) rt_102_1 (fun _ => rfl) (fun _ => rfl) dX7_init_12 rfl ?_
  refine cz_aload_n F dX7_init_15 rfl rfl 0 rfl ?_
  refine cz_iconst F dX7_init_16 rfl ?_
  refine cz_newq (r := 1) F kd_104 ln_104 (by decide) (by decide) w_320 F.2.2.2.2.2.1.2.2.1.2.1 rfl rfl rfl rfl (Nat.le_of_ble_eq_true rfl) (Nat.le_of_ble_eq_true rfl) dX7_init_17 rfl ?_
  refine cz_putR (h := 102) (r := 104) F fx_327 (fun _ => hname) rfl kd_102 (by decide) rt_102_2 (fun _ => rfl) (fun _ => rfl) dX7_init_20 rfl ?_
  refine cz_iconst F dX7_init_23 rfl ?_
  refine cz_istore_n F dX7_init_24 rfl rfl (by decide) rfl ?_
  refine cz_iload_n F dX7_init_25 rfl rfl 0 rfl ?_
  refine cz_iconst F dX7_init_26 rfl ?_
  refine cz_ge_n F (by decide) dX7_init_27 rfl rfl ?_
  refine cz_aload_n F dX7_init_30 rfl rfl 1 rfl ?_
  refine cz_getR (h := 102) (r := 104) F fl_327 kd_102 (by decide) rt_102_2 rfl dX7_init_31 rfl ?_
  refine cz_iload_n F dX7_init_34 rfl rfl 0 rfl ?_
  refine cz_new (N := 105) (ci := 4) F tyX4 (by decide) rfl inq_4 tyX4_ok w_320 w_261 w_74 kd_105 (fun j hj b => nf_4 (b := b) j hj) rfl rfl rfl (Nat.le_of_ble_eq_true rfl) (Nat.le_of_ble_eq_true rfl) dX7_init_35 rfl ?_
  refine cz_dup F rfl dX7_init_38 rfl ?_
  refine cz_callN (h := 105) (As := []) (st := [.ref (g.2.2.1 + 105), .int (i3 0), .ref (g.2.2.1 + 104)]) (host := "DuesOnRungs") F (k_X4_init l g kd_105 (by decide)) ci_X4_init (List.mem_of_getElem? (i := 4) rfl) ⟨rfl, rfl, Nat.le_of_ble_eq_true rfl, Nat.le_of_ble_eq_true rfl⟩ rfl (Nat.le_of_ble_eq_true rfl) dX7_init_39 rfl rfl ⟨Nat.le_of_ble_eq_true rfl, Nat.le_of_ble_eq_true rfl⟩ rfl ?_
  refine cz_aast (a := 104) (h := 105) (r := 1) (cj := 4) (i := 0) F (by decide) kd_104 (by decide) kd_105 (by decide) rfl rfl ⟨by decide, by rw [ln_104]; decide⟩ rt_104_0 dX7_init_42 rfl ?_
  refine cz_iinc (y := 1) F dX7_init_43 rfl 0 rfl rfl (by decide) rfl ?_
  refine cz_goto F dX7_init_46 rfl ?_
  refine cz_iload_n F dX7_init_25 rfl rfl 0 rfl ?_
  refine cz_iconst F dX7_init_26 rfl ?_
  refine cz_ge_n F (by decide) dX7_init_27 rfl rfl ?_
  refine cz_aload_n F dX7_init_30 rfl rfl 1 rfl ?_
  refine cz_getR (h := 102) (r := 104) F fl_327 kd_102 (by decide) rt_102_2 rfl dX7_init_31 rfl ?_
  refine cz_iload_n F dX7_init_34 rfl rfl 0 rfl ?_
  refine cz_new (N := 106) (ci := 4) F tyX4 (by decide) rfl inq_4 tyX4_ok w_320 w_261 w_74 kd_106 (fun j hj b => nf_4 (b := b) j hj) rfl rfl rfl (Nat.le_of_ble_eq_true rfl) (Nat.le_of_ble_eq_true rfl) dX7_init_35 rfl ?_
  refine cz_dup F rfl dX7_init_38 rfl ?_
  refine cz_callN (h := 106) (As := []) (st := [.ref (g.2.2.1 + 106), .int (i3 1), .ref (g.2.2.1 + 104)]) (host := "DuesOnRungs") F (k_X4_init l g kd_106 (by decide)) ci_X4_init (List.mem_of_getElem? (i := 4) rfl) ⟨rfl, rfl, Nat.le_of_ble_eq_true rfl, Nat.le_of_ble_eq_true rfl⟩ rfl (Nat.le_of_ble_eq_true rfl) dX7_init_39 rfl rfl ⟨Nat.le_of_ble_eq_true rfl, Nat.le_of_ble_eq_true rfl⟩ rfl ?_
  refine cz_aast (a := 104) (h := 106) (r := 1) (cj := 4) (i := 1) F (by decide) kd_104 (by decide) kd_106 (by decide) rfl rfl ⟨by decide, by rw [ln_104]; decide⟩ rt_104_1 dX7_init_42 rfl ?_
  refine cz_iinc (y := 2) F dX7_init_43 rfl 0 rfl rfl (by decide) rfl ?_
  refine cz_goto F dX7_init_46 rfl ?_
  refine cz_iload_n F dX7_init_25 rfl rfl 0 rfl ?_
  refine cz_iconst F dX7_init_26 rfl ?_
  refine cz_ge_n F (by decide) dX7_init_27 rfl rfl ?_
  refine cz_aload_n F dX7_init_30 rfl rfl 1 rfl ?_
  refine cz_getR (h := 102) (r := 104) F fl_327 kd_102 (by decide) rt_102_2 rfl dX7_init_31 rfl ?_
  refine cz_iload_n F dX7_init_34 rfl rfl 0 rfl ?_
  refine cz_new (N := 107) (ci := 4) F tyX4 (by decide) rfl inq_4 tyX4_ok w_320 w_261 w_74 kd_107 (fun j hj b => nf_4 (b := b) j hj) rfl rfl rfl (Nat.le_of_ble_eq_true rfl) (Nat.le_of_ble_eq_true rfl) dX7_init_35 rfl ?_
  refine cz_dup F rfl dX7_init_38 rfl ?_
  refine cz_callN (h := 107) (As := []) (st := [.ref (g.2.2.1 + 107), .int (i3 2), .ref (g.2.2.1 + 104)]) (host := "DuesOnRungs") F (k_X4_init l g kd_107 (by decide)) ci_X4_init (List.mem_of_getElem? (i := 4) rfl) ⟨rfl, rfl, Nat.le_of_ble_eq_true rfl, Nat.le_of_ble_eq_true rfl⟩ rfl (Nat.le_of_ble_eq_true rfl) dX7_init_39 rfl rfl ⟨Nat.le_of_ble_eq_true rfl, Nat.le_of_ble_eq_true rfl⟩ rfl ?_
  refine cz_aast (a := 104) (h := 107) (r := 1) (cj := 4) (i := 2) F (by decide) kd_104 (by decide) kd_107 (by decide) rfl rfl ⟨by decide, by rw [ln_104]; decide⟩ rt_104_2 dX7_init_42 rfl ?_
  refine cz_iinc (y := 3) F dX7_init_43 rfl 0 rfl rfl (by decide) rfl ?_
  refine cz_goto F dX7_init_46 rfl ?_
  refine cz_iload_n F dX7_init_25 rfl rfl 0 rfl ?_
  refine cz_iconst F dX7_init_26 rfl ?_
  refine cz_ge_n F (by decide) dX7_init_27 rfl rfl ?_
  refine cz_aload_n F dX7_init_30 rfl rfl 1 rfl ?_
  refine cz_getR (h := 102) (r := 104) F fl_327 kd_102 (by decide) rt_102_2 rfl dX7_init_31 rfl ?_
  refine cz_iload_n F dX7_init_34 rfl rfl 0 rfl ?_
  refine cz_new (N := 108) (ci := 4) F tyX4 (by decide) rfl inq_4 tyX4_ok w_320 w_261 w_74 kd_108 (fun j hj b => nf_4 (b := b) j hj) rfl rfl rfl (Nat.le_of_ble_eq_true rfl) (Nat.le_of_ble_eq_true rfl) dX7_init_35 rfl ?_
  refine cz_dup F rfl dX7_init_38 rfl ?_
  refine cz_callN (h := 108) (As := []) (st := [.ref (g.2.2.1 + 108), .int (i3 3), .ref (g.2.2.1 + 104)]) (host := "DuesOnRungs") F (k_X4_init l g kd_108 (by decide)) ci_X4_init (List.mem_of_getElem? (i := 4) rfl) ⟨rfl, rfl, Nat.le_of_ble_eq_true rfl, Nat.le_of_ble_eq_true rfl⟩ rfl (Nat.le_of_ble_eq_true rfl) dX7_init_39 rfl rfl ⟨Nat.le_of_ble_eq_true rfl, Nat.le_of_ble_eq_true rfl⟩ rfl ?_
  refine cz_aast (a := 104) (h := 108) (r := 1) (cj := 4) (i := 3) F (by decide) kd_104 (by decide) kd_108 (by decide) rfl rfl ⟨by decide, by rw [ln_104]; decide⟩ rt_104_3 dX7_init_42 rfl ?_
  refine cz_iinc (y := 4) F dX7_init_43 rfl 0 rfl rfl (by decide) rfl ?_
  refine cz_goto F dX7_init_46 rfl ?_
  refine cz_iload_n F dX7_init_25 rfl rfl 0 rfl ?_
  refine cz_iconst F dX7_init_26 rfl ?_
  refine cz_ge_n F (by decide) dX7_init_27 rfl rfl ?_
  refine cz_aload_n F dX7_init_30 rfl rfl 1 rfl ?_
  refine cz_getR (h := 102) (r := 104) F fl_327 kd_102 (by decide) rt_102_2 rfl dX7_init_31 rfl ?_
  refine cz_iload_n F dX7_init_34 rfl rfl 0 rfl ?_
  refine cz_new (N := 109) (ci := 4) F tyX4 (by decide) rfl inq_4 tyX4_ok w_320 w_261 w_74 kd_109 (fun j hj b => nf_4 (b := b) j hj) rfl rfl rfl (Nat.le_of_ble_eq_true rfl) (Nat.le_of_ble_eq_true rfl) dX7_init_35 rfl ?_
  refine cz_dup F rfl dX7_init_38 rfl ?_
  refine cz_callN (h := 109) (As := []) (st := [.ref (g.2.2.1 + 109), .int (i3 4), .ref (g.2.2.1 + 104)]) (host := "DuesOnRungs") F (k_X4_init l g kd_109 (by decide)) ci_X4_init (List.mem_of_getElem? (i := 4) rfl) ⟨rfl, rfl, Nat.le_of_ble_eq_true rfl, Nat.le_of_ble_eq_true rfl⟩ rfl (Nat.le_of_ble_eq_true rfl) dX7_init_39 rfl rfl ⟨Nat.le_of_ble_eq_true rfl, Nat.le_of_ble_eq_true rfl⟩ rfl ?_
  refine cz_aast (a := 104) (h := 109) (r := 1) (cj := 4) (i := 4) F (by decide) kd_104 (by decide) kd_109 (by decide) rfl rfl ⟨by decide, by rw [ln_104]; decide⟩ rt_104_4 dX7_init_42 rfl ?_
  refine cz_iinc (y := 5) F dX7_init_43 rfl 0 rfl rfl (by decide) rfl ?_
  refine cz_goto F dX7_init_46 rfl ?_
  refine cz_iload_n F dX7_init_25 rfl rfl 0 rfl ?_
  refine cz_iconst F dX7_init_26 rfl ?_
  refine cz_ge_y F (by decide) dX7_init_27 rfl ?_
  exact cz_vret F hr dX7_init_49
def fI_X7_init_110 (I : Msk) : Msk := (stI (zI (stI (zI (stI (zI (stI (zI (stI (zI (stI (zI (stI (zI I 111) 110 1) 112) 110 2) 113) 112 (ix 0)) 114) 112 (ix 1)) 115) 112 (ix 2)) 116) 112 (ix 3)) 117) 112 (ix 4))
def fM_X7_init_110 (M : Mem) : Mem := (st2 (zM (st2 (zM (st2 (zM (st2 (zM (st2 (zM (zM (st2 (zM M 111) 111 1 1) 112) 113) 113 1 1) 114) 114 1 1) 115) 115 1 1) 116) 116 1 1) 117) 117 1 1)
set_option maxRecDepth 100000 in
set_option maxHeartbeats 4000000 in
theorem k_X7_init_110 (l : Launch) (g : En) {I : Msk} {M : Mem} : Met l yX7_init (WS yX7_init cX7_init 2 none) rm_X7_init (va_Pc [.ref (g.2.2.1 + 110)] (RqC g 111 I M)) (va_Qv (S := Unit) (fun _ => True) (fun _ t => RqC g 118 (fI_X7_init_110 I) (fM_X7_init_110 M) t) (aB g)) 7 23 (aB g) := by
  refine met_C (plainFor_of_name rfl) (Nat.le_of_ble_eq_true rfl) ?_
  intro p e s m args below meth c F hr hname
  show CZ g p l e rm_X7_init s m args below meth c 2 _ 111 I M 0 0 0 [(0, .ref (g.2.2.1 + 110))] []
  refine cz_aload_n F dX7_init_0 rfl rfl 0 rfl ?_
  refine cz_obj F w_319 w_90 w_91 (Nat.le_of_ble_eq_true rfl) (Nat.le_of_ble_eq_true rfl) dX7_init_1 rfl ?_
  refine cz_aload_n F dX7_init_4 rfl rfl 0 rfl ?_
  refine cz_new (N := 111) (ci := 4) F tyX4 (by decide) rfl inq_4 tyX4_ok w_320 w_261 w_74 kd_111 (fun j hj b => nf_4 (b := b) j hj) rfl rfl rfl (Nat.le_of_ble_eq_true rfl) (Nat.le_of_ble_eq_true rfl) dX7_init_5 rfl ?_
  refine cz_dup F rfl dX7_init_8 rfl ?_
  refine cz_callN (h := 111) (As := []) (st := [.ref (g.2.2.1 + 111), .ref (g.2.2.1 + 110)]) (host := "DuesOnRungs") F (k_X4_init l g kd_111 (by decide)) ci_X4_init (List.mem_of_getElem? (i := 4) rfl) ⟨rfl, rfl, Nat.le_of_ble_eq_true rfl, Nat.le_of_ble_eq_true rfl⟩ rfl (Nat.le_of_ble_eq_true rfl) dX7_init_9 rfl rfl ⟨Nat.le_of_ble_eq_true rfl, Nat.le_of_ble_eq_true rfl⟩ rfl ?_
  refine cz_putR (h := 110) (r := 111) F fx_324 (fun _ => hname) rfl kd_110 (by decide) rt_110_1 (fun _ => rfl) (fun _ => rfl) dX7_init_12 rfl ?_
  refine cz_aload_n F dX7_init_15 rfl rfl 0 rfl ?_
  refine cz_iconst F dX7_init_16 rfl ?_
  refine cz_newq (r := 1) F kd_112 ln_112 (by decide) (by decide) w_320 F.2.2.2.2.2.1.2.2.1.2.1 rfl rfl rfl rfl (Nat.le_of_ble_eq_true rfl) (Nat.le_of_ble_eq_true rfl) dX7_init_17 rfl ?_
  refine cz_putR (h := 110) (r := 112) F fx_327 (fun _ => hname) rfl kd_110 (by decide) rt_110_2 (fun _ => rfl) (fun _ => rfl) dX7_init_20 rfl ?_
  refine cz_iconst F dX7_init_23 rfl ?_
  refine cz_istore_n F dX7_init_24 rfl rfl (by decide) rfl ?_
  refine cz_iload_n F dX7_init_25 rfl rfl 0 rfl ?_
  refine cz_iconst F dX7_init_26 rfl ?_
  refine cz_ge_n F (by decide) dX7_init_27 rfl rfl ?_
  refine cz_aload_n F dX7_init_30 rfl rfl 1 rfl ?_
  refine cz_getR (h := 110) (r := 112) F fl_327 kd_110 (by decide) rt_110_2 rfl dX7_init_31 rfl ?_
  refine cz_iload_n F dX7_init_34 rfl rfl 0 rfl ?_
  refine cz_new (N := 113) (ci := 4) F tyX4 (by decide) rfl inq_4 tyX4_ok w_320 w_261 w_74 kd_113 (fun j hj b => nf_4 (b := b) j hj) rfl rfl rfl (Nat.le_of_ble_eq_true rfl) (Nat.le_of_ble_eq_true rfl) dX7_init_35 rfl ?_
  refine cz_dup F rfl dX7_init_38 rfl ?_
  refine cz_callN (h := 113) (As := []) (st := [.ref (g.2.2.1 + 113), .int (i3 0), .ref (g.2.2.1 + 112)]) (host := "DuesOnRungs") F (k_X4_init l g kd_113 (by decide)) ci_X4_init (List.mem_of_getElem? (i := 4) rfl) ⟨rfl, rfl, Nat.le_of_ble_eq_true rfl, Nat.le_of_ble_eq_true rfl⟩ rfl (Nat.le_of_ble_eq_true rfl) dX7_init_39 rfl rfl ⟨Nat.le_of_ble_eq_true rfl, Nat.le_of_ble_eq_true rfl⟩ rfl ?_
  refine cz_aast (a := 112) (h := 113) (r := 1) (cj := 4) (i := 0) F (by decide) kd_112 (by decide) kd_113 (by decide) rfl rfl ⟨by decide, by rw [ln_112]; decide⟩ rt_112_0 dX7_init_42 rfl ?_
  refine cz_iinc (y := 1) F dX7_init_43 rfl 0 rfl rfl (by decide) rfl ?_
  refine cz_goto F dX7_init_46 rfl ?_
  refine cz_iload_n F dX7_init_25 rfl rfl 0 rfl ?_
  refine cz_iconst F dX7_init_26 rfl ?_
  refine cz_ge_n F (by decide) dX7_init_27 rfl rfl ?_
  refine cz_aload_n F dX7_init_30 rfl rfl 1 rfl ?_
  refine cz_getR (h := 110) (r := 112) F fl_327 kd_110 (by decide) rt_110_2 rfl dX7_init_31 rfl ?_
  refine cz_iload_n F dX7_init_34 rfl rfl 0 rfl ?_
  refine cz_new (N := 114) (ci := 4) F tyX4 (by decide) rfl inq_4 tyX4_ok w_320 w_261 w_74 kd_114 (fun j hj b => nf_4 (b := b) j hj) rfl rfl rfl (Nat.le_of_ble_eq_true rfl) (Nat.le_of_ble_eq_true rfl) dX7_init_35 rfl ?_
  refine cz_dup F rfl dX7_init_38 rfl ?_
  refine cz_callN (h := 114) (As := []) (st := [.ref (g.2.2.1 + 114), .int (i3 1), .ref (g.2.2.1 + 112)]) (host := "DuesOnRungs") F (k_X4_init l g kd_114 (by decide)) ci_X4_init (List.mem_of_getElem? (i := 4) rfl) ⟨rfl, rfl, Nat.le_of_ble_eq_true rfl, Nat.le_of_ble_eq_true rfl⟩ rfl (Nat.le_of_ble_eq_true rfl) dX7_init_39 rfl rfl ⟨Nat.le_of_ble_eq_true rfl, Nat.le_of_ble_eq_true rfl⟩ rfl ?_
  refine cz_aast (a := 112) (h := 114) (r := 1) (cj := 4) (i := 1) F (by decide) kd_112 (by decide) kd_114 (by decide) rfl rfl ⟨by decide, by rw [ln_112]; decide⟩ rt_112_1 dX7_init_42 rfl ?_
  refine cz_iinc (y := 2) F dX7_init_43 rfl 0 rfl rfl (by decide) rfl ?_
  refine cz_goto F dX7_init_46 rfl ?_
  refine cz_iload_n F dX7_init_25 rfl rfl 0 rfl ?_
  refine cz_iconst F dX7_init_26 rfl ?_
  refine cz_ge_n F (by decide) dX7_init_27 rfl rfl ?_
  refine cz_aload_n F dX7_init_30 rfl rfl 1 rfl ?_
  refine cz_getR (h := 110) (r := 112) F fl_327 kd_110 (by decide) rt_110_2 rfl dX7_init_31 rfl ?_
  refine cz_iload_n F dX7_init_34 rfl rfl 0 rfl ?_
  refine cz_new (N := 115) (ci := 4) F tyX4 (by decide) rfl inq_4 tyX4_ok w_320 w_261 w_74 kd_115 (fun j hj b => nf_4 (b := b) j hj) rfl rfl rfl (Nat.le_of_ble_eq_true rfl) (Nat.le_of_ble_eq_true rfl) dX7_init_35 rfl ?_
  refine cz_dup F rfl dX7_init_38 rfl ?_
  refine cz_callN (h := 115) (As := []) (st := [.ref (g.2.2.1 + 115), .int (i3 2), .ref (g.2.2.1 + 112)]) (host := "DuesOnRungs") F (k_X4_init l g kd_115 (by decide)) ci_X4_init (List.mem_of_getElem? (i := 4) rfl) ⟨rfl, rfl, Nat.le_of_ble_eq_true rfl, Nat.le_of_ble_eq_true rfl⟩ rfl (Nat.le_of_ble_eq_true rfl) dX7_init_39 rfl rfl ⟨Nat.le_of_ble_eq_true rfl, Nat.le_of_ble_eq_true rfl⟩ rfl ?_
  refine cz_aast (a := 112) (h := 115) (r := 1) (cj := 4) (i := 2) F (by decide) kd_112 (by decide) kd_115 (by decide) rfl rfl ⟨by decide, by rw [ln_112]; decide⟩ rt_112_2 dX7_init_42 rfl ?_
  refine cz_iinc (y := 3) F dX7_init_43 rfl 0 rfl rfl (by decide) rfl ?_
  refine cz_goto F dX7_init_46 rfl ?_
  refine cz_iload_n F dX7_init_25 rfl rfl 0 rfl ?_
  refine cz_iconst F dX7_init_26 rfl ?_
  refine cz_ge_n F (by decide) dX7_init_27 rfl rfl ?_
  refine cz_aload_n F dX7_init_30 rfl rfl 1 rfl ?_
  refine cz_getR (h := 110) (r := 112) F fl_327 kd_110 (by decide) rt_110_2 rfl dX7_init_31 rfl ?_
  refine cz_iload_n F dX7_init_34 rfl rfl 0 rfl ?_
  refine cz_new (N := 116) (ci := 4) F tyX4 (by decide) rfl inq_4 tyX4_ok w_320 w_261 w_74 kd_116 (fun j hj b => nf_4 (b := b) j hj) rfl rfl rfl (Nat.le_of_ble_eq_true rfl) (Nat.le_of_ble_eq_true rfl) dX7_init_35 rfl ?_
  refine cz_dup F rfl dX7_init_38 rfl ?_
  refine cz_callN (h := 116) (As := []) (st := [.ref (g.2.2.1 + 116), .int (i3 3), .ref (g.2.2.1 + 112)]) (host := "DuesOnRungs") F (k_X4_init l g kd_116 (by decide)) ci_X4_init (List.mem_of_getElem? (i := 4) rfl) ⟨rfl, rfl, Nat.le_of_ble_eq_true rfl, Nat.le_of_ble_eq_true rfl⟩ rfl (Nat.le_of_ble_eq_true rfl) dX7_init_39 rfl rfl ⟨Nat.le_of_ble_eq_true rfl, Nat.le_of_ble_eq_true rfl⟩ rfl ?_
  refine cz_aast (a := 112) (h := 116) (r := 1) (cj := 4) (i := 3) F (by decide) kd_112 (by decide) kd_116 (by decide) rfl rfl ⟨by decide, by rw [ln_112]; decide⟩ rt_112_3 dX7_init_42 rfl ?_
  refine cz_iinc (y := 4) F dX7_init_43 rfl 0 rfl rfl (by decide) rfl ?_
  refine cz_goto F dX7_init_46 rfl ?_
  refine cz_iload_n F dX7_init_25 rfl rfl 0 rfl ?_
  refine cz_iconst F dX7_init_26 rfl ?_
  refine cz_ge_n F (by decide) dX7_init_27 rfl rfl ?_
  refine cz_aload_n F dX7_init_30 rfl rfl 1 rfl ?_
  refine cz_getR (h := 110) (r := 112) F fl_327 kd_110 (by decide) rt_110_2 rfl dX7_init_31 rfl ?_
  refine cz_iload_n F dX7_init_34 rfl rfl 0 rfl ?_
  refine cz_new (N := 117) (ci := 4) F tyX4 (by decide) rfl inq_4 tyX4_ok w_320 w_261 w_74 kd_117 (fun j hj b => nf_4 (b := b) j hj) rfl rfl rfl (Nat.le_of_ble_eq_true rfl) (Nat.le_of_ble_eq_true rfl) dX7_init_35 rfl ?_
  refine cz_dup F rfl dX7_init_38 rfl ?_
  refine cz_callN (h := 117) (As := []) (st := [.ref (g.2.2.1 + 117), .int (i3 4), .ref (g.2.2.1 + 112)]) (host := "DuesOnRungs") F (k_X4_init l g kd_117 (by decide)) ci_X4_init (List.mem_of_getElem? (i := 4) rfl) ⟨rfl, rfl, Nat.le_of_ble_eq_true rfl, Nat.le_of_ble_eq_true rfl⟩ rfl (Nat.le_of_ble_eq_true rfl) dX7_init_39 rfl rfl ⟨Nat.le_of_ble_eq_true rfl, Nat.le_of_ble_eq_true rfl⟩ rfl ?_
  refine cz_aast (a := 112) (h := 117) (r := 1) (cj := 4) (i := 4) F (by decide) kd_112 (by decide) kd_117 (by decide) rfl rfl ⟨by decide, by rw [ln_112]; decide⟩ rt_112_4 dX7_init_42 rfl ?_
  refine cz_iinc (y := 5) F dX7_init_43 rfl 0 rfl rfl (by decide) rfl ?_
  refine cz_goto F dX7_init_46 rfl ?_
  refine cz_iload_n F dX7_init_25 rfl rfl 0 rfl ?_
  refine cz_iconst F dX7_init_26 rfl ?_
  refine cz_ge_y F (by decide) dX7_init_27 rfl ?_
  exact cz_vret F hr dX7_init_49
def fI_X7_init_118 (I : Msk) : Msk := (stI (zI (stI (zI (stI (zI (stI (zI (stI (zI (stI (zI (stI (zI I 119) 118 1) 120) 118 2) 121) 120 (ix 0)) 122) 120 (ix 1)) 123) 120 (ix 2)) 124) 120 (ix 3)) 125) 120 (ix 4))
def fM_X7_init_118 (M : Mem) : Mem := (st2 (zM (st2 (zM (st2 (zM (st2 (zM (st2 (zM (zM (st2 (zM M 119) 119 1 1) 120) 121) 121 1 1) 122) 122 1 1) 123) 123 1 1) 124) 124 1 1) 125) 125 1 1)
set_option maxRecDepth 100000 in
set_option maxHeartbeats 4000000 in
theorem k_X7_init_118 (l : Launch) (g : En) {I : Msk} {M : Mem} : Met l yX7_init (WS yX7_init cX7_init 2 none) rm_X7_init (va_Pc [.ref (g.2.2.1 + 118)] (RqC g 119 I M)) (va_Qv (S := Unit) (fun _ => True) (fun _ t => RqC g 126 (fI_X7_init_118 I) (fM_X7_init_118 M) t) (aB g)) 7 23 (aB g) := by
  refine met_C (plainFor_of_name rfl) (Nat.le_of_ble_eq_true rfl) ?_
  intro p e s m args below meth c F hr hname
  show CZ g p l e rm_X7_init s m args below meth c 2 _ 119 I M 0 0 0 [(0, .ref (g.2.2.1 + 118))] []
  refine cz_aload_n F dX7_init_0 rfl rfl 0 rfl ?_
  refine cz_obj F w_319 w_90 w_91 (Nat.le_of_ble_eq_true rfl) (Nat.le_of_ble_eq_true rfl) dX7_init_1 rfl ?_
  refine cz_aload_n F dX7_init_4 rfl rfl 0 rfl ?_
  refine cz_new (N := 119) (ci := 4) F tyX4 (by decide) rfl inq_4 tyX4_ok w_320 w_261 w_74 kd_119 (fun j hj b => nf_4 (b := b) j hj) rfl rfl rfl (Nat.le_of_ble_eq_true rfl) (Nat.le_of_ble_eq_true rfl) dX7_init_5 rfl ?_
  refine cz_dup F rfl dX7_init_8 rfl ?_
  refine cz_callN (h := 119) (As := []) (st := [.ref (g.2.2.1 + 119), .ref (g.2.2.1 + 118)]) (host := "DuesOnRungs") F (k_X4_init l g kd_119 (by decide)) ci_X4_init (List.mem_of_getElem? (i := 4) rfl) ⟨rfl, rfl, Nat.le_of_ble_eq_true rfl, Nat.le_of_ble_eq_true rfl⟩ rfl (Nat.le_of_ble_eq_true rfl) dX7_init_9 rfl rfl ⟨Nat.le_of_ble_eq_true rfl, Nat.le_of_ble_eq_true rfl⟩ rfl ?_
  refine cz_putR (h := 118) (r := 119) F fx_324 (fun _ => hname) rfl kd_118 (by decide) rt_118_1 (fun _ => rfl) (fun _ => rfl) dX7_init_12 rfl ?_
  refine cz_aload_n F dX7_init_15 rfl rfl 0 rfl ?_
  refine cz_iconst F dX7_init_16 rfl ?_
  refine cz_newq (r := 1) F kd_120 ln_120 (by decide) (by decide) w_320 F.2.2.2.2.2.1.2.2.1.2.1 rfl rfl rfl rfl (Nat.le_of_ble_eq_true rfl) (Nat.le_of_ble_eq_true rfl) dX7_init_17 rfl ?_
  refine cz_putR (h := 118) (r := 120) F fx_327 (fun _ => hname) rfl kd_118 (by decide) rt_118_2 (fun _ => rfl) (fun _ => rfl) dX7_init_20 rfl ?_
  refine cz_iconst F dX7_init_23 rfl ?_
  refine cz_istore_n F dX7_init_24 rfl rfl (by decide) rfl ?_
  refine cz_iload_n F dX7_init_25 rfl rfl 0 rfl ?_
  refine cz_iconst F dX7_init_26 rfl ?_
  refine cz_ge_n F (by decide) dX7_init_27 rfl rfl ?_
  refine cz_aload_n F dX7_init_30 rfl rfl 1 rfl ?_
  refine cz_getR (h := 118) (r := 120) F fl_327 kd_118 (by decide) rt_118_2 rfl dX7_init_31 rfl ?_
  refine cz_iload_n F dX7_init_34 rfl rfl 0 rfl ?_
  refine cz_new (N := 121) (ci := 4) F tyX4 (by decide) rfl inq_4 tyX4_ok w_320 w_261 w_74 kd_121 (fun j hj b => nf_4 (b := b) j hj) rfl rfl rfl (Nat.le_of_ble_eq_true rfl) (Nat.le_of_ble_eq_true rfl) dX7_init_35 rfl ?_
  refine cz_dup F rfl dX7_init_38 rfl ?_
  refine cz_callN (h := 121) (As := []) (st := [.ref (g.2.2.1 + 121), .int (i3 0), .ref (g.2.2.1 + 120)]) (host := "DuesOnRungs") F (k_X4_init l g kd_121 (by decide)) ci_X4_init (List.mem_of_getElem? (i := 4) rfl) ⟨rfl, rfl, Nat.le_of_ble_eq_true rfl, Nat.le_of_ble_eq_true rfl⟩ rfl (Nat.le_of_ble_eq_true rfl) dX7_init_39 rfl rfl ⟨Nat.le_of_ble_eq_true rfl, Nat.le_of_ble_eq_true rfl⟩ rfl ?_
  refine cz_aast (a := 120) (h := 121) (r := 1) (cj := 4) (i := 0) F (by decide) kd_120 (by decide) kd_121 (by decide) rfl rfl ⟨by decide, by rw [ln_120]; decide⟩ rt_120_0 dX7_init_42 rfl ?_
  refine cz_iinc (y := 1) F dX7_init_43 rfl 0 rfl rfl (by decide) rfl ?_
  refine cz_goto F dX7_init_46 rfl ?_
  refine cz_iload_n F dX7_init_25 rfl rfl 0 rfl ?_
  refine cz_iconst F dX7_init_26 rfl ?_
  refine cz_ge_n F (by decide) dX7_init_27 rfl rfl ?_
  refine cz_aload_n F dX7_init_30 rfl rfl 1 rfl ?_
  refine cz_getR (h := 118) (r := 120) F fl_327 kd_118 (by decide) rt_118_2 rfl dX7_init_31 rfl ?_
  refine cz_iload_n F dX7_init_34 rfl rfl 0 rfl ?_
  refine cz_new (N := 122) (ci := 4) F tyX4 (by decide) rfl inq_4 tyX4_ok w_320 w_261 w_74 kd_122 (fun j hj b => nf_4 (b := b) j hj) rfl rfl rfl (Nat.le_of_ble_eq_true rfl) (Nat.le_of_ble_eq_true rfl) dX7_init_35 rfl ?_
  refine cz_dup F rfl dX7_init_38 rfl ?_
  refine cz_callN (h := 122) (As := []) (st := [.ref (g.2.2.1 + 122), .int (i3 1), .ref (g.2.2.1 + 120)]) (host := "DuesOnRungs") F (k_X4_init l g kd_122 (by decide)) ci_X4_init (List.mem_of_getElem? (i := 4) rfl) ⟨rfl, rfl, Nat.le_of_ble_eq_true rfl, Nat.le_of_ble_eq_true rfl⟩ rfl (Nat.le_of_ble_eq_true rfl) dX7_init_39 rfl rfl ⟨Nat.le_of_ble_eq_true rfl, Nat.le_of_ble_eq_true rfl⟩ rfl ?_
  refine cz_aast (a := 120) (h := 122) (r := 1) (cj := 4) (i := 1) F (by decide) kd_120 (by decide) kd_122 (by decide) rfl rfl ⟨by decide, by rw [ln_120]; decide⟩ rt_120_1 dX7_init_42 rfl ?_
  refine cz_iinc (y := 2) F dX7_init_43 rfl 0 rfl rfl (by decide) rfl ?_
  refine cz_goto F dX7_init_46 rfl ?_
  refine cz_iload_n F dX7_init_25 rfl rfl 0 rfl ?_
  refine cz_iconst F dX7_init_26 rfl ?_
  refine cz_ge_n F (by decide) dX7_init_27 rfl rfl ?_
  refine cz_aload_n F dX7_init_30 rfl rfl 1 rfl ?_
  refine cz_getR (h := 118) (r := 120) F fl_327 kd_118 (by decide) rt_118_2 rfl dX7_init_31 rfl ?_
  refine cz_iload_n F dX7_init_34 rfl rfl 0 rfl ?_
  refine cz_new (N := 123) (ci := 4) F tyX4 (by decide) rfl inq_4 tyX4_ok w_320 w_261 w_74 kd_123 (fun j hj b => nf_4 (b := b) j hj) rfl rfl rfl (Nat.le_of_ble_eq_true rfl) (Nat.le_of_ble_eq_true rfl) dX7_init_35 rfl ?_
  refine cz_dup F rfl dX7_init_38 rfl ?_
  refine cz_callN (h := 123) (As := []) (st := [.ref (g.2.2.1 + 123), .int (i3 2), .ref (g.2.2.1 + 120)]) (host := "DuesOnRungs") F (k_X4_init l g kd_123 (by decide)) ci_X4_init (List.mem_of_getElem? (i := 4) rfl) ⟨rfl, rfl, Nat.le_of_ble_eq_true rfl, Nat.le_of_ble_eq_true rfl⟩ rfl (Nat.le_of_ble_eq_true rfl) dX7_init_39 rfl rfl ⟨Nat.le_of_ble_eq_true rfl, Nat.le_of_ble_eq_true rfl⟩ rfl ?_
  refine cz_aast (a := 120) (h := 123) (r := 1) (cj := 4) (i := 2) F (by decide) kd_120 (by decide) kd_123 (by decide) rfl rfl ⟨by decide, by rw [ln_120]; decide⟩ rt_120_2 dX7_init_42 rfl ?_
  refine cz_iinc (y := 3) F dX7_init_43 rfl 0 rfl rfl (by decide) rfl ?_
  refine cz_goto F dX7_init_46 rfl ?_
  refine cz_iload_n F dX7_init_25 rfl rfl 0 rfl ?_
  refine cz_iconst F dX7_init_26 rfl ?_
  refine cz_ge_n F (by decide) dX7_init_27 rfl rfl ?_
  refine cz_aload_n F dX7_init_30 rfl rfl 1 rfl ?_
  refine cz_getR (h := 118) (r := 120) F fl_327 kd_118 (by decide) rt_118_2 rfl dX7_init_31 rfl ?_
  refine cz_iload_n F dX7_init_34 rfl rfl 0 rfl ?_
  refine cz_new (N := 124) (ci := 4) F tyX4 (by decide) rfl inq_4 tyX4_ok w_320 w_261 w_74 kd_124 (fun j hj b => nf_4 (b := b) j hj) rfl rfl rfl (Nat.le_of_ble_eq_true rfl) (Nat.le_of_ble_eq_true rfl) dX7_init_35 rfl ?_
  refine cz_dup F rfl dX7_init_38 rfl ?_
  refine cz_callN (h := 124) (As := []) (st := [.ref (g.2.2.1 + 124), .int (i3 3), .ref (g.2.2.1 + 120)]) (host := "DuesOnRungs") F (k_X4_init l g kd_124 (by decide)) ci_X4_init (List.mem_of_getElem? (i := 4) rfl) ⟨rfl, rfl, Nat.le_of_ble_eq_true rfl, Nat.le_of_ble_eq_true rfl⟩ rfl (Nat.le_of_ble_eq_true rfl) dX7_init_39 rfl rfl ⟨Nat.le_of_ble_eq_true rfl, Nat.le_of_ble_eq_true rfl⟩ rfl ?_
  refine cz_aast (a := 120) (h := 124) (r := 1) (cj := 4) (i := 3) F (by decide) kd_120 (by decide) kd_124 (by decide) rfl rfl ⟨by decide, by rw [ln_120]; decide⟩ rt_120_3 dX7_init_42 rfl ?_
  refine cz_iinc (y := 4) F dX7_init_43 rfl 0 rfl rfl (by decide) rfl ?_
  refine cz_goto F dX7_init_46 rfl ?_
  refine cz_iload_n F dX7_init_25 rfl rfl 0 rfl ?_
  refine cz_iconst F dX7_init_26 rfl ?_
  refine cz_ge_n F (by decide) dX7_init_27 rfl rfl ?_
  refine cz_aload_n F dX7_init_30 rfl rfl 1 rfl ?_
  refine cz_getR (h := 118) (r := 120) F fl_327 kd_118 (by decide) rt_118_2 rfl dX7_init_31 rfl ?_
  refine cz_iload_n F dX7_init_34 rfl rfl 0 rfl ?_
  refine cz_new (N := 125) (ci := 4) F tyX4 (by decide) rfl inq_4 tyX4_ok w_320 w_261 w_74 kd_125 (fun j hj b => nf_4 (b := b) j hj) rfl rfl rfl (Nat.le_of_ble_eq_true rfl) (Nat.le_of_ble_eq_true rfl) dX7_init_35 rfl ?_
  refine cz_dup F rfl dX7_init_38 rfl ?_
  refine cz_callN (h := 125) (As := []) (st := [.ref (g.2.2.1 + 125), .int (i3 4), .ref (g.2.2.1 + 120)]) (host := "DuesOnRungs") F (k_X4_init l g kd_125 (by decide)) ci_X4_init (List.mem_of_getElem? (i := 4) rfl) ⟨rfl, rfl, Nat.le_of_ble_eq_true rfl, Nat.le_of_ble_eq_true rfl⟩ rfl (Nat.le_of_ble_eq_true rfl) dX7_init_39 rfl rfl ⟨Nat.le_of_ble_eq_true rfl, Nat.le_of_ble_eq_true rfl⟩ rfl ?_
  refine cz_aast (a := 120) (h := 125) (r := 1) (cj := 4) (i := 4) F (by decide) kd_120 (by decide) kd_125 (by decide) rfl rfl ⟨by decide, by rw [ln_120]; decide⟩ rt_120_4 dX7_init_42 rfl ?_
  refine cz_iinc (y := 5) F dX7_init_43 rfl 0 rfl rfl (by decide) rfl ?_
  refine cz_goto F dX7_init_46 rfl ?_
  refine cz_iload_n F dX7_init_25 rfl rfl 0 rfl ?_
  refine cz_iconst F dX7_init_26 rfl ?_
  refine cz_ge_y F (by decide) dX7_init_27 rfl ?_
  exact cz_vret F hr dX7_init_49
def fI_X7_init_126 (I : Msk) : Msk := (stI (zI (stI (zI (stI (zI (stI (zI (stI (zI (stI (zI (stI (zI I 127) 126 1) 128) 126 2) 129) 128 (ix 0)) 130) 128 (ix 1)) 131) 128 (ix 2)) 132) 128 (ix 3)) 133) 128 (ix 4))
def fM_X7_init_126 (M : Mem) : Mem := (st2 (zM (st2 (zM (st2 (zM (st2 (zM (st2 (zM (zM (st2 (zM M 127) 127 1 1) 128) 129) 129 1 1) 130) 130 1 1) 131) 131 1 1) 132) 132 1 1) 133) 133 1 1)
set_option maxRecDepth 100000 in
set_option maxHeartbeats 4000000 in
theorem k_X7_init_126 (l : Launch) (g : En) {I : Msk} {M : Mem} : Met l yX7_init (WS yX7_init cX7_init 2 none) rm_X7_init (va_Pc [.ref (g.2.2.1 + 126)] (RqC g 127 I M)) (va_Qv (S := Unit) (fun _ => True) (fun _ t => RqC g 134 (fI_X7_init_126 I) (fM_X7_init_126 M) t) (aB g)) 7 23 (aB g) := by
  refine met_C (plainFor_of_name rfl) (Nat.le_of_ble_eq_true rfl) ?_
  intro p e s m args below meth c F hr hname
  show CZ g p l e rm_X7_init s m args below meth c 2 _ 127 I M 0 0 0 [(0, .ref (g.2.2.1 + 126))] []
  refine cz_aload_n F dX7_init_0 rfl rfl 0 rfl ?_
  refine cz_obj F w_319 w_90 w_91 (Nat.le_of_ble_eq_true rfl) (Nat.le_of_ble_eq_true rfl) dX7_init_1 rfl ?_
  refine cz_aload_n F dX7_init_4 rfl rfl 0 rfl ?_
  refine cz_new (N := 127) (ci := 4) F tyX4 (by decide) rfl inq_4 tyX4_ok w_320 w_261 w_74 kd_127 (fun j hj b => nf_4 (b := b) j hj) rfl rfl rfl (Nat.le_of_ble_eq_true rfl) (Nat.le_of_ble_eq_true rfl) dX7_init_5 rfl ?_
  refine cz_dup F rfl dX7_init_8 rfl ?_
  refine cz_callN (h := 127) (As := []) (st := [.ref (g.2.2.1 + 127), .ref (g.2.2.1 + 126)]) (host := "DuesOnRungs") F (k_X4_init l g kd_127 (by decide)) ci_X4_init (List.mem_of_getElem? (i := 4) rfl) ⟨rfl, rfl, Nat.le_of_ble_eq_true rfl, Nat.le_of_ble_eq_true rfl⟩ rfl (Nat.le_of_ble_eq_true rfl) dX7_init_9 rfl rfl ⟨Nat.le_of_ble_eq_true rfl, Nat.le_of_ble_eq_true rfl⟩ rfl ?_
  refine cz_putR (h := 126) (r := 127) F fx_324 (fun _ => hname) rfl kd_126 (by decide) rt_126_1 (fun _ => rfl) (fun _ => rfl) dX7_init_12 rfl ?_
  refine cz_aload_n F dX7_init_15 rfl rfl 0 rfl ?_
  refine cz_iconst F dX7_init_16 rfl ?_
  refine cz_newq (r := 1) F kd_128 ln_128 (by decide) (by decide) w_320 F.2.2.2.2.2.1.2.2.1.2.1 rfl rfl rfl rfl (Nat.le_of_ble_eq_true rfl) (Nat.le_of_ble_eq_true rfl) dX7_init_17 rfl ?_
  refine cz_putR (h := 126) (r := 128) F fx_327 (fun _ => hname) rfl kd_126 (by decide) rt_126_2 (fun _ => rfl) (fun _ => rfl) dX7_init_20 rfl ?_
  refine cz_iconst F dX7_init_23 rfl ?_
  refine cz_istore_n F dX7_init_24 rfl rfl (by decide) rfl ?_
  refine cz_iload_n F dX7_init_25 rfl rfl 0 rfl ?_
  refine cz_iconst F dX7_init_26 rfl ?_
  refine cz_ge_n F (by decide) dX7_init_27 rfl rfl ?_
  refine cz_aload_n F dX7_init_30 rfl rfl 1 rfl ?_
  refine cz_getR (h := 126) (r := 128) F fl_327 kd_126 (by decide) rt_126_2 rfl dX7_init_31 rfl ?_
  refine cz_iload_n F dX7_init_34 rfl rfl 0 rfl ?_
  refine cz_new (N := 129) (ci := 4) F tyX4 (by decide) rfl inq_4 tyX4_ok w_320 w_261 w_74 kd_129 (fun j hj b => nf_4 (b := b) j hj) rfl rfl rfl (Nat.le_of_ble_eq_true rfl) (Nat.le_of_ble_eq_true rfl) dX7_init_35 rfl ?_
  refine cz_dup F rfl dX7_init_38 rfl ?_
  refine cz_callN (h := 129) (As := []) (st := [.ref (g.2.2.1 + 129), .int (i3 0), .ref (g.2.2.1 + 128)]) (host := "DuesOnRungs") F (k_X4_init l g kd_129 (by decide)) ci_X4_init (List.mem_of_getElem? (i := 4) rfl) ⟨rfl, rfl, Nat.le_of_ble_eq_true rfl, Nat.le_of_ble_eq_true rfl⟩ rfl (Nat.le_of_ble_eq_true rfl) dX7_init_39 rfl rfl ⟨Nat.le_of_ble_eq_true rfl, Nat.le_of_ble_eq_true rfl⟩ rfl ?_
  refine cz_aast (a := 128) (h := 129) (r := 1) (cj := 4) (i := 0) F (by decide) kd_128 (by decide) kd_129 (by decide) rfl rfl ⟨by decide, by rw [ln_128]; decide⟩ rt_128_0 dX7_init_42 rfl ?_
  refine cz_iinc (y := 1) F dX7_init_43 rfl 0 rfl rfl (by decide) rfl ?_
  refine cz_goto F dX7_init_46 rfl ?_
  refine cz_iload_n F dX7_init_25 rfl rfl 0 rfl ?_
  refine cz_iconst F dX7_init_26 rfl ?_
  refine cz_ge_n F (by decide) dX7_init_27 rfl rfl ?_
  refine cz_aload_n F dX7_init_30 rfl rfl 1 rfl ?_
  refine cz_getR (h := 126) (r := 128) F fl_327 kd_126 (by decide) rt_126_2 rfl dX7_init_31 rfl ?_
  refine cz_iload_n F dX7_init_34 rfl rfl 0 rfl ?_
  refine cz_new (N := 130) (ci := 4) F tyX4 (by decide) rfl inq_4 tyX4_ok w_320 w_261 w_74 kd_130 (fun j hj b => nf_4 (b := b) j hj) rfl rfl rfl (Nat.le_of_ble_eq_true rfl) (Nat.le_of_ble_eq_true rfl) dX7_init_35 rfl ?_
  refine cz_dup F rfl dX7_init_38 rfl ?_
  refine cz_callN (h := 130) (As := []) (st := [.ref (g.2.2.1 + 130), .int (i3 1), .ref (g.2.2.1 + 128)]) (host := "DuesOnRungs") F (k_X4_init l g kd_130 (by decide)) ci_X4_init (List.mem_of_getElem? (i := 4) rfl) ⟨rfl, rfl, Nat.le_of_ble_eq_true rfl, Nat.le_of_ble_eq_true rfl⟩ rfl (Nat.le_of_ble_eq_true rfl) dX7_init_39 rfl rfl ⟨Nat.le_of_ble_eq_true rfl, Nat.le_of_ble_eq_true rfl⟩ rfl ?_
  refine cz_aast (a := 128) (h := 130) (r := 1) (cj := 4) (i := 1) F (by decide) kd_128 (by decide) kd_130 (by decide) rfl rfl ⟨by decide, by rw [ln_128]; decide⟩ rt_128_1 dX7_init_42 rfl ?_
  refine cz_iinc (y := 2) F dX7_init_43 rfl 0 rfl rfl (by decide) rfl ?_
  refine cz_goto F dX7_init_46 rfl ?_
  refine cz_iload_n F dX7_init_25 rfl rfl 0 rfl ?_
  refine cz_iconst F dX7_init_26 rfl ?_
  refine cz_ge_n F (by decide) dX7_init_27 rfl rfl ?_
  refine cz_aload_n F dX7_init_30 rfl rfl 1 rfl ?_
  refine cz_getR (h := 126) (r := 128) F fl_327 kd_126 (by decide) rt_126_2 rfl dX7_init_31 rfl ?_
  refine cz_iload_n F dX7_init_34 rfl rfl 0 rfl ?_
  refine cz_new (N := 131) (ci := 4) F tyX4 (by decide) rfl inq_4 tyX4_ok w_320 w_261 w_74 kd_131 (fun j hj b => nf_4 (b := b) j hj) rfl rfl rfl (Nat.le_of_ble_eq_true rfl) (Nat.le_of_ble_eq_true rfl) dX7_init_35 rfl ?_
  refine cz_dup F rfl dX7_init_38 rfl ?_
  refine cz_callN (h := 131) (As := []) (st := [.ref (g.2.2.1 + 131), .int (i3 2), .ref (g.2.2.1 + 128)]) (host := "DuesOnRungs") F (k_X4_init l g kd_131 (by decide)) ci_X4_init (List.mem_of_getElem? (i := 4) rfl) ⟨rfl, rfl, Nat.le_of_ble_eq_true rfl, Nat.le_of_ble_eq_true rfl⟩ rfl (Nat.le_of_ble_eq_true rfl) dX7_init_39 rfl rfl ⟨Nat.le_of_ble_eq_true rfl, Nat.le_of_ble_eq_true rfl⟩ rfl ?_
  refine cz_aast (a := 128) (h := 131) (r := 1) (cj := 4) (i := 2) F (by decide) kd_128 (by decide) kd_131 (by decide) rfl rfl ⟨by decide, by rw [ln_128]; decide⟩ rt_128_2 dX7_init_42 rfl ?_
  refine cz_iinc (y := 3) F dX7_init_43 rfl 0 rfl rfl (by decide) rfl ?_
  refine cz_goto F dX7_init_46 rfl ?_
  refine cz_iload_n F dX7_init_25 rfl rfl 0 rfl ?_
  refine cz_iconst F dX7_init_26 rfl ?_
  refine cz_ge_n F (by decide) dX7_init_27 rfl rfl ?_
  refine cz_aload_n F dX7_init_30 rfl rfl 1 rfl ?_
  refine cz_getR (h := 126) (r := 128) F fl_327 kd_126 (by decide) rt_126_2 rfl dX7_init_31 rfl ?_
  refine cz_iload_n F dX7_init_34 rfl rfl 0 rfl ?_
  refine cz_new (N := 132) (ci := 4) F tyX4 (by decide) rfl inq_4 tyX4_ok w_320 w_261 w_74 kd_132 (fun j hj b => nf_4 (b := b) j hj) rfl rfl rfl (Nat.le_of_ble_eq_true rfl) (Nat.le_of_ble_eq_true rfl) dX7_init_35 rfl ?_
  refine cz_dup F rfl dX7_init_38 rfl ?_
  refine cz_callN (h := 132) (As := []) (st := [.ref (g.2.2.1 + 132), .int (i3 3), .ref (g.2.2.1 + 128)]) (host := "DuesOnRungs") F (k_X4_init l g kd_132 (by decide)) ci_X4_init (List.mem_of_getElem? (i := 4) rfl) ⟨rfl, rfl, Nat.le_of_ble_eq_true rfl, Nat.le_of_ble_eq_true rfl⟩ rfl (Nat.le_of_ble_eq_true rfl) dX7_init_39 rfl rfl ⟨Nat.le_of_ble_eq_true rfl, Nat.le_of_ble_eq_true rfl⟩ rfl ?_
  refine cz_aast (a := 128) (h := 132) (r := 1) (cj := 4) (i := 3) F (by decide) kd_128 (by decide) kd_132 (by decide) rfl rfl ⟨by decide, by rw [ln_128]; decide⟩ rt_128_3 dX7_init_42 rfl ?_
  refine cz_iinc (y := 4) F dX7_init_43 rfl 0 rfl rfl (by decide) rfl ?_
  refine cz_goto F dX7_init_46 rfl ?_
  refine cz_iload_n F dX7_init_25 rfl rfl 0 rfl ?_
  refine cz_iconst F dX7_init_26 rfl ?_
  refine cz_ge_n F (by decide) dX7_init_27 rfl rfl ?_
  refine cz_aload_n F dX7_init_30 rfl rfl 1 rfl ?_
  refine cz_getR (h := 126) (r := 128) F fl_327 kd_126 (by decide) rt_126_2 rfl dX7_init_31 rfl ?_
  refine cz_iload_n F dX7_init_34 rfl rfl 0 rfl ?_
  refine cz_new (N := 133) (ci := 4) F tyX4 (by decide) rfl inq_4 tyX4_ok w_320 w_261 w_74 kd_133 (fun j hj b => nf_4 (b := b) j hj) rfl rfl rfl (Nat.le_of_ble_eq_true rfl) (Nat.le_of_ble_eq_true rfl) dX7_init_35 rfl ?_
  refine cz_dup F rfl dX7_init_38 rfl ?_
  refine cz_callN (h := 133) (As := []) (st := [.ref (g.2.2.1 + 133), .int (i3 4), .ref (g.2.2.1 + 128)]) (host := "DuesOnRungs") F (k_X4_init l g kd_133 (by decide)) ci_X4_init (List.mem_of_getElem? (i := 4) rfl) ⟨rfl, rfl, Nat.le_of_ble_eq_true rfl, Nat.le_of_ble_eq_true rfl⟩ rfl (Nat.le_of_ble_eq_true rfl) dX7_init_39 rfl rfl ⟨Nat.le_of_ble_eq_true rfl, Nat.le_of_ble_eq_true rfl⟩ rfl ?_
  refine cz_aast (a := 128) (h := 133) (r := 1) (cj := 4) (i := 4) F (by decide) kd_128 (by decide) kd_133 (by decide) rfl rfl ⟨by decide, by rw [ln_128]; decide⟩ rt_128_4 dX7_init_42 rfl ?_
  refine cz_iinc (y := 5) F dX7_init_43 rfl 0 rfl rfl (by decide) rfl ?_
  refine cz_goto F dX7_init_46 rfl ?_
  refine cz_iload_n F dX7_init_25 rfl rfl 0 rfl ?_
  refine cz_iconst F dX7_init_26 rfl ?_
  refine cz_ge_y F (by decide) dX7_init_27 rfl ?_
  exact cz_vret F hr dX7_init_49
def fI_X7_init_134 (I : Msk) : Msk := (stI (zI (stI (zI (stI (zI (stI (zI (stI (zI (stI (zI (stI (zI I 135) 134 1) 136) 134 2) 137) 136 (ix 0)) 138) 136 (ix 1)) 139) 136 (ix 2)) 140) 136 (ix 3)) 141) 136 (ix 4))
def fM_X7_init_134 (M : Mem) : Mem := (st2 (zM (st2 (zM (st2 (zM (st2 (zM (st2 (zM (zM (st2 (zM M 135) 135 1 1) 136) 137) 137 1 1) 138) 138 1 1) 139) 139 1 1) 140) 140 1 1) 141) 141 1 1)
set_option maxRecDepth 100000 in
set_option maxHeartbeats 4000000 in
theorem k_X7_init_134 (l : Launch) (g : En) {I : Msk} {M : Mem} : Met l yX7_init (WS yX7_init cX7_init 2 none) rm_X7_init (va_Pc [.ref (g.2.2.1 + 134)] (RqC g 135 I M)) (va_Qv (S := Unit) (fun _ => True) (fun _ t => RqC g 142 (fI_X7_init_134 I) (fM_X7_init_134 M) t) (aB g)) 7 23 (aB g) := by
  refine met_C (plainFor_of_name rfl) (Nat.le_of_ble_eq_true rfl) ?_
  intro p e s m args below meth c F hr hname
  show CZ g p l e rm_X7_init s m args below meth c 2 _ 135 I M 0 0 0 [(0, .ref (g.2.2.1 + 134))] []
  refine cz_aload_n F dX7_init_0 rfl rfl 0 rfl ?_
  refine cz_obj F w_319 w_90 w_91 (Nat.le_of_ble_eq_true rfl) (Nat.le_of_ble_eq_true rfl) dX7_init_1 rfl ?_
  refine cz_aload_n F dX7_init_4 rfl rfl 0 rfl ?_
  refine cz_new (N := 135) (ci := 4) F tyX4 (by decide) rfl inq_4 tyX4_ok w_320 w_261 w_74 kd_135 (fun j hj b => nf_4 (b := b) j hj) rfl rfl rfl (Nat.le_of_ble_eq_true rfl) (Nat.le_of_ble_eq_true rfl) dX7_init_5 rfl ?_
  refine cz_dup F rfl dX7_init_8 rfl ?_
  refine cz_callN (h := 135) (As := []) (st := [.ref (g.2.2.1 + 135), .ref (g.2.2.1 + 134)]) (host := "DuesOnRungs") F (k_X4_init l g kd_135 (by decide)) ci_X4_init (List.mem_of_getElem? (i := 4) rfl) ⟨rfl, rfl, Nat.le_of_ble_eq_true rfl, Nat.le_of_ble_eq_true rfl⟩ rfl (Nat.le_of_ble_eq_true rfl) dX7_init_9 rfl rfl ⟨Nat.le_of_ble_eq_true rfl, Nat.le_of_ble_eq_true rfl⟩ rfl ?_
  refine cz_putR (h := 134) (r := 135) F fx_324 (fun _ => hname) rfl kd_134 (by decide) rt_134_1 (fun _ => rfl) (fun _ => rfl) dX7_init_12 rfl ?_
  refine cz_aload_n F dX7_init_15 rfl rfl 0 rfl ?_
  refine cz_iconst F dX7_init_16 rfl ?_
  refine cz_newq (r := 1) F kd_136 ln_136 (by decide) (by decide) w_320 F.2.2.2.2.2.1.2.2.1.2.1 rfl rfl rfl rfl (Nat.le_of_ble_eq_true rfl) (Nat.le_of_ble_eq_true rfl) dX7_init_17 rfl ?_
  refine cz_putR (h := 134) (r := 136) F fx_327 (fun _ => hname) rfl kd_134 (by decide) rt_134_2 (fun _ => rfl) (fun _ => rfl) dX7_init_20 rfl ?_
  refine cz_iconst F dX7_init_23 rfl ?_
  refine cz_istore_n F dX7_init_24 rfl rfl (by decide) rfl ?_
  refine cz_iload_n F dX7_init_25 rfl rfl 0 rfl ?_
  refine cz_iconst F dX7_init_26 rfl ?_
  refine cz_ge_n F (by decide) dX7_init_27 rfl rfl ?_
  refine cz_aload_n F dX7_init_30 rfl rfl 1 rfl ?_
  refine cz_getR (h := 134) (r := 136) F fl_327 kd_134 (by decide) rt_134_2 rfl dX7_init_31 rfl ?_
  refine cz_iload_n F dX7_init_34 rfl rfl 0 rfl ?_
  refine cz_new (N := 137) (ci := 4) F tyX4 (by decide) rfl inq_4 tyX4_ok w_320 w_261 w_74 kd_137 (fun j hj b => nf_4 (b := b) j hj) rfl rfl rfl (Nat.le_of_ble_eq_true rfl) (Nat.le_of_ble_eq_true rfl) dX7_init_35 rfl ?_
  refine cz_dup F rfl dX7_init_38 rfl ?_
  refine cz_callN (h := 137) (As := []) (st := [.ref (g.2.2.1 + 137), .int (i3 0), .ref (g.2.2.1 + 136)]) (host := "DuesOnRungs") F (k_X4_init l g kd_137 (by decide)) ci_X4_init (List.mem_of_getElem? (i := 4) rfl) ⟨rfl, rfl, Nat.le_of_ble_eq_true rfl, Nat.le_of_ble_eq_true rfl⟩ rfl (Nat.le_of_ble_eq_true rfl) dX7_init_39 rfl rfl ⟨Nat.le_of_ble_eq_true rfl, Nat.le_of_ble_eq_true rfl⟩ rfl ?_
  refine cz_aast (a := 136) (h := 137) (r := 1) (cj := 4) (i := 0) F (by decide) kd_136 (by decide) kd_137 (by decide) rfl rfl ⟨by decide, by rw [ln_136]; decide⟩ rt_136_0 dX7_init_42 rfl ?_
  refine cz_iinc (y := 1) F dX7_init_43 rfl 0 rfl rfl (by decide) rfl ?_
  refine cz_goto F dX7_init_46 rfl ?_
  refine cz_iload_n F dX7_init_25 rfl rfl 0 rfl ?_
  refine cz_iconst F dX7_init_26 rfl ?_
  refine cz_ge_n F (by decide) dX7_init_27 rfl rfl ?_
  refine cz_aload_n F dX7_init_30 rfl rfl 1 rfl ?_
  refine cz_getR (h := 134) (r := 136) F fl_327 kd_134 (by decide) rt_134_2 rfl dX7_init_31 rfl ?_
  refine cz_iload_n F dX7_init_34 rfl rfl 0 rfl ?_
  refine cz_new (N := 138) (ci := 4) F tyX4 (by decide) rfl inq_4 tyX4_ok w_320 w_261 w_74 kd_138 (fun j hj b => nf_4 (b := b) j hj) rfl rfl rfl (Nat.le_of_ble_eq_true rfl) (Nat.le_of_ble_eq_true rfl) dX7_init_35 rfl ?_
  refine cz_dup F rfl dX7_init_38 rfl ?_
  refine cz_callN (h := 138) (As := []) (st := [.ref (g.2.2.1 + 138), .int (i3 1), .ref (g.2.2.1 + 136)]) (host := "DuesOnRungs") F (k_X4_init l g kd_138 (by decide)) ci_X4_init (List.mem_of_getElem? (i := 4) rfl) ⟨rfl, rfl, Nat.le_of_ble_eq_true rfl, Nat.le_of_ble_eq_true rfl⟩ rfl (Nat.le_of_ble_eq_true rfl) dX7_init_39 rfl rfl ⟨Nat.le_of_ble_eq_true rfl, Nat.le_of_ble_eq_true rfl⟩ rfl ?_
  refine cz_aast (a := 136) (h := 138) (r := 1) (cj := 4) (i := 1) F (by decide) kd_136 (by decide) kd_138 (by decide) rfl rfl ⟨by decide, by rw [ln_136]; decide⟩ rt_136_1 dX7_init_42 rfl ?_
  refine cz_iinc (y := 2) F dX7_init_43 rfl 0 rfl rfl (by decide) rfl ?_
  refine cz_goto F dX7_init_46 rfl ?_
  refine cz_iload_n F dX7_init_25 rfl rfl 0 rfl ?_
  refine cz_iconst F dX7_init_26 rfl ?_
  refine cz_ge_n F (by decide) dX7_init_27 rfl rfl ?_
  refine cz_aload_n F dX7_init_30 rfl rfl 1 rfl ?_
  refine cz_getR (h := 134) (r := 136) F fl_327 kd_134 (by decide) rt_134_2 rfl dX7_init_31 rfl ?_
  refine cz_iload_n F dX7_init_34 rfl rfl 0 rfl ?_
  refine cz_new (N := 139) (ci := 4) F tyX4 (by decide) rfl inq_4 tyX4_ok w_320 w_261 w_74 kd_139 (fun j hj b => nf_4 (b := b) j hj) rfl rfl rfl (Nat.le_of_ble_eq_true rfl) (Nat.le_of_ble_eq_true rfl) dX7_init_35 rfl ?_
  refine cz_dup F rfl dX7_init_38 rfl ?_
  refine cz_callN (h := 139) (As := []) (st := [.ref (g.2.2.1 + 139), .int (i3 2), .ref (g.2.2.1 + 136)]) (host := "DuesOnRungs") F (k_X4_init l g kd_139 (by decide)) ci_X4_init (List.mem_of_getElem? (i := 4) rfl) ⟨rfl, rfl, Nat.le_of_ble_eq_true rfl, Nat.le_of_ble_eq_true rfl⟩ rfl (Nat.le_of_ble_eq_true rfl) dX7_init_39 rfl rfl ⟨Nat.le_of_ble_eq_true rfl, Nat.le_of_ble_eq_true rfl⟩ rfl ?_
  refine cz_aast (a := 136) (h := 139) (r := 1) (cj := 4) (i := 2) F (by decide) kd_136 (by decide) kd_139 (by decide) rfl rfl ⟨by decide, by rw [ln_136]; decide⟩ rt_136_2 dX7_init_42 rfl ?_
  refine cz_iinc (y := 3) F dX7_init_43 rfl 0 rfl rfl (by decide) rfl ?_
  refine cz_goto F dX7_init_46 rfl ?_
  refine cz_iload_n F dX7_init_25 rfl rfl 0 rfl ?_
  refine cz_iconst F dX7_init_26 rfl ?_
  refine cz_ge_n F (by decide) dX7_init_27 rfl rfl ?_
  refine cz_aload_n F dX7_init_30 rfl rfl 1 rfl ?_
  refine cz_getR (h := 134) (r := 136) F fl_327 kd_134 (by decide) rt_134_2 rfl dX7_init_31 rfl ?_
  refine cz_iload_n F dX7_init_34 rfl rfl 0 rfl ?_
  refine cz_new (N := 140) (ci := 4) F tyX4 (by decide) rfl inq_4 tyX4_ok w_320 w_261 w_74 kd_140 (fun j hj b => nf_4 (b := b) j hj) rfl rfl rfl (Nat.le_of_ble_eq_true rfl) (Nat.le_of_ble_eq_true rfl) dX7_init_35 rfl ?_
  refine cz_dup F rfl dX7_init_38 rfl ?_
  refine cz_callN (h := 140) (As := []) (st := [.ref (g.2.2.1 + 140), .int (i3 3), .ref (g.2.2.1 + 136)]) (host := "DuesOnRungs") F (k_X4_init l g kd_140 (by decide)) ci_X4_init (List.mem_of_getElem? (i := 4) rfl) ⟨rfl, rfl, Nat.le_of_ble_eq_true rfl, Nat.le_of_ble_eq_true rfl⟩ rfl (Nat.le_of_ble_eq_true rfl) dX7_init_39 rfl rfl ⟨Nat.le_of_ble_eq_true rfl, Nat.le_of_ble_eq_true rfl⟩ rfl ?_
  refine cz_aast (a := 136) (h := 140) (r := 1) (cj := 4) (i := 3) F (by decide) kd_136 (by decide) kd_140 (by decide) rfl rfl ⟨by decide, by rw [ln_136]; decide⟩ rt_136_3 dX7_init_42 rfl ?_
  refine cz_iinc (y := 4) F dX7_init_43 rfl 0 rfl rfl (by decide) rfl ?_
  refine cz_goto F dX7_init_46 rfl ?_
  refine cz_iload_n F dX7_init_25 rfl rfl 0 rfl ?_
  refine cz_iconst F dX7_init_26 rfl ?_
  refine cz_ge_n F (by decide) dX7_init_27 rfl rfl ?_
  refine cz_aload_n F dX7_init_30 rfl rfl 1 rfl ?_
  refine cz_getR (h := 134) (r := 136) F fl_327 kd_134 (by decide) rt_134_2 rfl dX7_init_31 rfl ?_
  refine cz_iload_n F dX7_init_34 rfl rfl 0 rfl ?_
  refine cz_new (N := 141) (ci := 4) F tyX4 (by decide) rfl inq_4 tyX4_ok w_320 w_261 w_74 kd_141 (fun j hj b => nf_4 (b := b) j hj) rfl rfl rfl (Nat.le_of_ble_eq_true rfl) (Nat.le_of_ble_eq_true rfl) dX7_init_35 rfl ?_
  refine cz_dup F rfl dX7_init_38 rfl ?_
  refine cz_callN (h := 141) (As := []) (st := [.ref (g.2.2.1 + 141), .int (i3 4), .ref (g.2.2.1 + 136)]) (host := "DuesOnRungs") F (k_X4_init l g kd_141 (by decide)) ci_X4_init (List.mem_of_getElem? (i := 4) rfl) ⟨rfl, rfl, Nat.le_of_ble_eq_true rfl, Nat.le_of_ble_eq_true rfl⟩ rfl (Nat.le_of_ble_eq_true rfl) dX7_init_39 rfl rfl ⟨Nat.le_of_ble_eq_true rfl, Nat.le_of_ble_eq_true rfl⟩ rfl ?_
  refine cz_aast (a := 136) (h := 141) (r := 1) (cj := 4) (i := 4) F (by decide) kd_136 (by decide) kd_141 (by decide) rfl rfl ⟨by decide, by rw [ln_136]; decide⟩ rt_136_4 dX7_init_42 rfl ?_
  refine cz_iinc (y := 5) F dX7_init_43 rfl 0 rfl rfl (by decide) rfl ?_
  refine cz_goto F dX7_init_46 rfl ?_
  refine cz_iload_n F dX7_init_25 rfl rfl 0 rfl ?_
  refine cz_iconst F dX7_init_26 rfl ?_
  refine cz_ge_y F (by decide) dX7_init_27 rfl ?_
  exact cz_vret F hr dX7_init_49
def fI_X7_init_142 (I : Msk) : Msk := (stI (zI (stI (zI (stI (zI (stI (zI (stI (zI (stI (zI (stI (zI I 143) 142 1) 144) 142 2) 145) 144 (ix 0)) 146) 144 (ix 1)) 147) 144 (ix 2)) 148) 144 (ix 3)) 149) 144 (ix 4))
def fM_X7_init_142 (M : Mem) : Mem := (st2 (zM (st2 (zM (st2 (zM (st2 (zM (st2 (zM (zM (st2 (zM M 143) 143 1 1) 144) 145) 145 1 1) 146) 146 1 1) 147) 147 1 1) 148) 148 1 1) 149) 149 1 1)
set_option maxRecDepth 100000 in
set_option maxHeartbeats 4000000 in
theorem k_X7_init_142 (l : Launch) (g : En) {I : Msk} {M : Mem} : Met l yX7_init (WS yX7_init cX7_init 2 none) rm_X7_init (va_Pc [.ref (g.2.2.1 + 142)] (RqC g 143 I M)) (va_Qv (S := Unit) (fun _ => True) (fun _ t => RqC g 150 (fI_X7_init_142 I) (fM_X7_init_142 M) t) (aB g)) 7 23 (aB g) := by
  refine met_C (plainFor_of_name rfl) (Nat.le_of_ble_eq_true rfl) ?_
  intro p e s m args below meth c F hr hname
  show CZ g p l e rm_X7_init s m args below meth c 2 _ 143 I M 0 0 0 [(0, .ref (g.2.2.1 + 142))] []
  refine cz_aload_n F dX7_init_0 rfl rfl 0 rfl ?_
  refine cz_obj F w_319 w_90 w_91 (Nat.le_of_ble_eq_true rfl) (Nat.le_of_ble_eq_true rfl) dX7_init_1 rfl ?_
  refine cz_aload_n F dX7_init_4 rfl rfl 0 rfl ?_
  refine cz_new (N := 143) (ci := 4) F tyX4 (by decide) rfl inq_4 tyX4_ok w_320 w_261 w_74 kd_143 (fun j hj b => nf_4 (b := b) j hj) rfl rfl rfl (Nat.le_of_ble_eq_true rfl) (Nat.le_of_ble_eq_true rfl) dX7_init_5 rfl ?_
  refine cz_dup F rfl dX7_init_8 rfl ?_
  refine cz_callN (h := 143) (As := []) (st := [.ref (g.2.2.1 + 143), .ref (g.2.2.1 + 142)]) (host := "DuesOnRungs") F (k_X4_init l g kd_143 (by decide)) ci_X4_init (List.mem_of_getElem? (i := 4) rfl) ⟨rfl, rfl, Nat.le_of_ble_eq_true rfl, Nat.le_of_ble_eq_true rfl⟩ rfl (Nat.le_of_ble_eq_true rfl) dX7_init_9 rfl rfl ⟨Nat.le_of_ble_eq_true rfl, Nat.le_of_ble_eq_true rfl⟩ rfl ?_
  refine cz_putR (h := 142) (r := 143) F fx_324 (fun _ => hname) rfl kd_142 (by decide) rt_142_1 (fun _ => rfl) (fun _ => rfl) dX7_init_12 rfl ?_
  refine cz_aload_n F dX7_init_15 rfl rfl 0 rfl ?_
  refine cz_iconst F dX7_init_16 rfl ?_
  refine cz_newq (r := 1) F kd_144 ln_144 (by decide) (by decide) w_320 F.2.2.2.2.2.1.2.2.1.2.1 rfl rfl rfl rfl (Nat.le_of_ble_eq_true rfl) (Nat.le_of_ble_eq_true rfl) dX7_init_17 rfl ?_
  refine cz_putR (h := 142) (r := 144) F fx_327 (fun _ => hname) rfl kd_142 (by decide) rt_142_2 (fun _ => rfl) (fun _ => rfl) dX7_init_20 rfl ?_
  refine cz_iconst F dX7_init_23 rfl ?_
  refine cz_istore_n F dX7_init_24 rfl rfl (by decide) rfl ?_
  refine cz_iload_n F dX7_init_25 rfl rfl 0 rfl ?_
  refine cz_iconst F dX7_init_26 rfl ?_
  refine cz_ge_n F (by decide) dX7_init_27 rfl rfl ?_
  refine cz_aload_n F dX7_init_30 rfl rfl 1 rfl ?_
  refine cz_getR (h := 142) (r := 144) F fl_327 kd_142 (by decide) rt_142_2 rfl dX7_init_31 rfl ?_
  refine cz_iload_n F dX7_init_34 rfl rfl 0 rfl ?_
  refine cz_new (N := 145) (ci := 4) F tyX4 (by decide) rfl inq_4 tyX4_ok w_320 w_261 w_74 kd_145 (fun j hj b => nf_4 (b := b) j hj) rfl rfl rfl (Nat.le_of_ble_eq_true rfl) (Nat.le_of_ble_eq_true rfl) dX7_init_35 rfl ?_
  refine cz_dup F rfl dX7_init_38 rfl ?_
  refine cz_callN (h := 145) (As := []) (st := [.ref (g.2.2.1 + 145), .int (i3 0), .ref (g.2.2.1 + 144)]) (host := "DuesOnRungs") F (k_X4_init l g kd_145 (by decide)) ci_X4_init (List.mem_of_getElem? (i := 4) rfl) ⟨rfl, rfl, Nat.le_of_ble_eq_true rfl, Nat.le_of_ble_eq_true rfl⟩ rfl (Nat.le_of_ble_eq_true rfl) dX7_init_39 rfl rfl ⟨Nat.le_of_ble_eq_true rfl, Nat.le_of_ble_eq_true rfl⟩ rfl ?_
  refine cz_aast (a := 144) (h := 145) (r := 1) (cj := 4) (i := 0) F (by decide) kd_144 (by decide) kd_145 (by decide) rfl rfl ⟨by decide, by rw [ln_144]; decide⟩ rt_144_0 dX7_init_42 rfl ?_
  refine cz_iinc (y := 1) F dX7_init_43 rfl 0 rfl rfl (by decide) rfl ?_
  refine cz_goto F dX7_init_46 rfl ?_
  refine cz_iload_n F dX7_init_25 rfl rfl 0 rfl ?_
  refine cz_iconst F dX7_init_26 rfl ?_
  refine cz_ge_n F (by decide) dX7_init_27 rfl rfl ?_
  refine cz_aload_n F dX7_init_30 rfl rfl 1 rfl ?_
  refine cz_getR (h := 142) (r := 144) F fl_327 kd_142 (by decide) rt_142_2 rfl dX7_init_31 rfl ?_
  refine cz_iload_n F dX7_init_34 rfl rfl 0 rfl ?_
  refine cz_new (N := 146) (ci := 4) F tyX4 (by decide) rfl inq_4 tyX4_ok w_320 w_261 w_74 kd_146 (fun j hj b => nf_4 (b := b) j hj) rfl rfl rfl (Nat.le_of_ble_eq_true rfl) (Nat.le_of_ble_eq_true rfl) dX7_init_35 rfl ?_
  refine cz_dup F rfl dX7_init_38 rfl ?_
  refine cz_callN (h := 146) (As := []) (st := [.ref (g.2.2.1 + 146), .int (i3 1), .ref (g.2.2.1 + 144)]) (host := "DuesOnRungs") F (k_X4_init l g kd_146 (by decide)) ci_X4_init (List.mem_of_getElem? (i := 4) rfl) ⟨rfl, rfl, Nat.le_of_ble_eq_true rfl, Nat.le_of_ble_eq_true rfl⟩ rfl (Nat.le_of_ble_eq_true rfl) dX7_init_39 rfl rfl ⟨Nat.le_of_ble_eq_true rfl, Nat.le_of_ble_eq_true rfl⟩ rfl ?_
  refine cz_aast (a := 144) (h := 146) (r := 1) (cj := 4) (i := 1) F (by decide) kd_144 (by decide) kd_146 (by decide) rfl rfl ⟨by decide, by rw [ln_144]; decide⟩ rt_144_1 dX7_init_42 rfl ?_
  refine cz_iinc (y := 2) F dX7_init_43 rfl 0 rfl rfl (by decide) rfl ?_
  refine cz_goto F dX7_init_46 rfl ?_
  refine cz_iload_n F dX7_init_25 rfl rfl 0 rfl ?_
  refine cz_iconst F dX7_init_26 rfl ?_
  refine cz_ge_n F (by decide) dX7_init_27 rfl rfl ?_
  refine cz_aload_n F dX7_init_30 rfl rfl 1 rfl ?_
  refine cz_getR (h := 142) (r := 144) F fl_327 kd_142 (by decide) rt_142_2 rfl dX7_init_31 rfl ?_
  refine cz_iload_n F dX7_init_34 rfl rfl 0 rfl ?_
  refine cz_new (N := 147) (ci := 4) F tyX4 (by decide) rfl inq_4 tyX4_ok w_320 w_261 w_74 kd_147 (fun j hj b => nf_4 (b := b) j hj) rfl rfl rfl (Nat.le_of_ble_eq_true rfl) (Nat.le_of_ble_eq_true rfl) dX7_init_35 rfl ?_
  refine cz_dup F rfl dX7_init_38 rfl ?_
  refine cz_callN (h := 147) (As := []) (st := [.ref (g.2.2.1 + 147), .int (i3 2), .ref (g.2.2.1 + 144)]) (host := "DuesOnRungs") F (k_X4_init l g kd_147 (by decide)) ci_X4_init (List.mem_of_getElem? (i := 4) rfl) ⟨rfl, rfl, Nat.le_of_ble_eq_true rfl, Nat.le_of_ble_eq_true rfl⟩ rfl (Nat.le_of_ble_eq_true rfl) dX7_init_39 rfl rfl ⟨Nat.le_of_ble_eq_true rfl, Nat.le_of_ble_eq_true rfl⟩ rfl ?_
  refine cz_aast (a := 144) (h := 147) (r := 1) (cj := 4) (i := 2) F (by decide) kd_144 (by decide) kd_147 (by decide) rfl rfl ⟨by decide, by rw [ln_144]; decide⟩ rt_144_2 dX7_init_42 rfl ?_
  refine cz_iinc (y := 3) F dX7_init_43 rfl 0 rfl rfl (by decide) rfl ?_
  refine cz_goto F dX7_init_46 rfl ?_
  refine cz_iload_n F dX7_init_25 rfl rfl 0 rfl ?_
  refine cz_iconst F dX7_init_26 rfl ?_
  refine cz_ge_n F (by decide) dX7_init_27 rfl rfl ?_
  refine cz_aload_n F dX7_init_30 rfl rfl 1 rfl ?_
  refine cz_getR (h := 142) (r := 144) F fl_327 kd_142 (by decide) rt_142_2 rfl dX7_init_31 rfl ?_
  refine cz_iload_n F dX7_init_34 rfl rfl 0 rfl ?_
  refine cz_new (N := 148) (ci := 4) F tyX4 (by decide) rfl inq_4 tyX4_ok w_320 w_261 w_74 kd_148 (fun j hj b => nf_4 (b := b) j hj) rfl rfl rfl (Nat.le_of_ble_eq_true rfl) (Nat.le_of_ble_eq_true rfl) dX7_init_35 rfl ?_
  refine cz_dup F rfl dX7_init_38 rfl ?_
  refine cz_callN (h := 148) (As := []) (st := [.ref (g.2.2.1 + 148), .int (i3 3), .ref (g.2.2.1 + 144)]) (host := "DuesOnRungs") F (k_X4_init l g kd_148 (by decide)) ci_X4_init (List.mem_of_getElem? (i := 4) rfl) ⟨rfl, rfl, Nat.le_of_ble_eq_true rfl, Nat.le_of_ble_eq_true rfl⟩ rfl (Nat.le_of_ble_eq_true rfl) dX7_init_39 rfl rfl ⟨Nat.le_of_ble_eq_true rfl, Nat.le_of_ble_eq_true rfl⟩ rfl ?_
  refine cz_aast (a := 144) (h := 148) (r := 1) (cj := 4) (i := 3) F (by decide) kd_144 (by decide) kd_148 (by decide) rfl rfl ⟨by decide, by rw [ln_144]; decide⟩ rt_144_3 dX7_init_42 rfl ?_
  refine cz_iinc (y := 4) F dX7_init_43 rfl 0 rfl rfl (by decide) rfl ?_
  refine cz_goto F dX7_init_46 rfl ?_
  refine cz_iload_n F dX7_init_25 rfl rfl 0 rfl ?_
  refine cz_iconst F dX7_init_26 rfl ?_
  refine cz_ge_n F (by decide) dX7_init_27 rfl rfl ?_
  refine cz_aload_n F dX7_init_30 rfl rfl 1 rfl ?_
  refine cz_getR (h := 142) (r := 144) F fl_327 kd_142 (by decide) rt_142_2 rfl dX7_init_31 rfl ?_
  refine cz_iload_n F dX7_init_34 rfl rfl 0 rfl ?_
  refine cz_new (N := 149) (ci := 4) F tyX4 (by decide) rfl inq_4 tyX4_ok w_320 w_261 w_74 kd_149 (fun j hj b => nf_4 (b := b) j hj) rfl rfl rfl (Nat.le_of_ble_eq_true rfl) (Nat.le_of_ble_eq_true rfl) dX7_init_35 rfl ?_
  refine cz_dup F rfl dX7_init_38 rfl ?_
  refine cz_callN (h := 149) (As := []) (st := [.ref (g.2.2.1 + 149), .int (i3 4), .ref (g.2.2.1 + 144)]) (host := "DuesOnRungs") F (k_X4_init l g kd_149 (by decide)) ci_X4_init (List.mem_of_getElem? (i := 4) rfl) ⟨rfl, rfl, Nat.le_of_ble_eq_true rfl, Nat.le_of_ble_eq_true rfl⟩ rfl (Nat.le_of_ble_eq_true rfl) dX7_init_39 rfl rfl ⟨Nat.le_of_ble_eq_true rfl, Nat.le_of_ble_eq_true rfl⟩ rfl ?_
  refine cz_aast (a := 144) (h := 149) (r := 1) (cj := 4) (i := 4) F (by decide) kd_144 (by decide) kd_149 (by decide) rfl rfl ⟨by decide, by rw [ln_144]; decide⟩ rt_144_4 dX7_init_42 rfl ?_
  refine cz_iinc (y := 5) F dX7_init_43 rfl 0 rfl rfl (by decide) rfl ?_
  refine cz_goto F dX7_init_46 rfl ?_
  refine cz_iload_n F dX7_init_25 rfl rfl 0 rfl ?_
  refine cz_iconst F dX7_init_26 rfl ?_
  refine cz_ge_y F (by decide) dX7_init_27 rfl ?_
  exact cz_vret F hr dX7_init_49
def fI_X7_init_150 (I : Msk) : Msk := (stI (zI (stI (zI (stI (zI (stI (zI (stI (zI (stI (zI (stI (zI I 151) 150 1) 152) 150 2) 153) 152 (ix 0)) 154) 152 (ix 1)) 155) 152 (ix 2)) 156) 152 (ix 3)) 157) 152 (ix 4))
def fM_X7_init_150 (M : Mem) : Mem := (st2 (zM (st2 (zM (st2 (zM (st2 (zM (st2 (zM (zM (st2 (zM M 151) 151 1 1) 152) 153) 153 1 1) 154) 154 1 1) 155) 155 1 1) 156) 156 1 1) 157) 157 1 1)
set_option maxRecDepth 100000 in
set_option maxHeartbeats 4000000 in
theorem k_X7_init_150 (l : Launch) (g : En) {I : Msk} {M : Mem} : Met l yX7_init (WS yX7_init cX7_init 2 none) rm_X7_init (va_Pc [.ref (g.2.2.1 + 150)] (RqC g 151 I M)) (va_Qv (S := Unit) (fun _ => True) (fun _ t => RqC g 158 (fI_X7_init_150 I) (fM_X7_init_150 M) t) (aB g)) 7 23 (aB g) := by
  refine met_C (plainFor_of_name rfl) (Nat.le_of_ble_eq_true rfl) ?_
  intro p e s m args below meth c F hr hname
  show CZ g p l e rm_X7_init s m args below meth c 2 _ 151 I M 0 0 0 [(0, .ref (g.2.2.1 + 150))] []
  refine cz_aload_n F dX7_init_0 rfl rfl 0 rfl ?_
  refine cz_obj F w_319 w_90 w_91 (Nat.le_of_ble_eq_true rfl) (Nat.le_of_ble_eq_true rfl) dX7_init_1 rfl ?_
  refine cz_aload_n F dX7_init_4 rfl rfl 0 rfl ?_
  refine cz_new (N := 151) (ci := 4) F tyX4 (by decide) rfl inq_4 tyX4_ok w_320 w_261 w_74 kd_151 (fun j hj b => nf_4 (b := b) j hj) rfl rfl rfl (Nat.le_of_ble_eq_true rfl) (Nat.le_of_ble_eq_true rfl) dX7_init_5 rfl ?_
  refine cz_dup F rfl dX7_init_8 rfl ?_
  refine cz_callN (h := 151) (As := []) (st := [.ref (g.2.2.1 + 151), .ref (g.2.2.1 + 150)]) (host := "DuesOnRungs") F (k_X4_init l g kd_151 (by decide)) ci_X4_init (List.mem_of_getElem? (i := 4) rfl) ⟨rfl, rfl, Nat.le_of_ble_eq_true rfl, Nat.le_of_ble_eq_true rfl⟩ rfl (Nat.le_of_ble_eq_true rfl) dX7_init_9 rfl rfl ⟨Nat.le_of_ble_eq_true rfl, Nat.le_of_ble_eq_true rfl⟩ rfl ?_
  refine cz_putR (h := 150) (r := 151) F fx_324 (fun _ => hname) rfl kd_150 (by decide) rt_150_1 (fun _ => rfl) (fun _ => rfl) dX7_init_12 rfl ?_
  refine cz_aload_n F dX7_init_15 rfl rfl 0 rfl ?_
  refine cz_iconst F dX7_init_16 rfl ?_
  refine cz_newq (r := 1) F kd_152 ln_152 (by decide) (by decide) w_320 F.2.2.2.2.2.1.2.2.1.2.1 rfl rfl rfl rfl (Nat.le_of_ble_eq_true rfl) (Nat.le_of_ble_eq_true rfl) dX7_init_17 rfl ?_
  refine cz_putR (h := 150) (r := 152) F fx_327 (fun _ => hname) rfl kd_150 (by decide) rt_150_2 (fun _ => rfl) (fun _ => rfl) dX7_init_20 rfl ?_
  refine cz_iconst F dX7_init_23 rfl ?_
  refine cz_istore_n F dX7_init_24 rfl rfl (by decide) rfl ?_
  refine cz_iload_n F dX7_init_25 rfl rfl 0 rfl ?_
  refine cz_iconst F dX7_init_26 rfl ?_
  refine cz_ge_n F (by decide) dX7_init_27 rfl rfl ?_
  refine cz_aload_n F dX7_init_30 rfl rfl 1 rfl ?_
  refine cz_getR (h := 150) (r := 152) F fl_327 kd_150 (by decide) rt_150_2 rfl dX7_init_31 rfl ?_
  refine cz_iload_n F dX7_init_34 rfl rfl 0 rfl ?_
  refine cz_new (N := 153) (ci := 4) F tyX4 (by decide) rfl inq_4 tyX4_ok w_320 w_261 w_74 kd_153 (fun j hj b => nf_4 (b := b) j hj) rfl rfl rfl (Nat.le_of_ble_eq_true rfl) (Nat.le_of_ble_eq_true rfl) dX7_init_35 rfl ?_
  refine cz_dup F rfl dX7_init_38 rfl ?_
  refine cz_callN (h := 153) (As := []) (st := [.ref (g.2.2.1 + 153), .int (i3 0), .ref (g.2.2.1 + 152)]) (host := "DuesOnRungs") F (k_X4_init l g kd_153 (by decide)) ci_X4_init (List.mem_of_getElem? (i := 4) rfl) ⟨rfl, rfl, Nat.le_of_ble_eq_true rfl, Nat.le_of_ble_eq_true rfl⟩ rfl (Nat.le_of_ble_eq_true rfl) dX7_init_39 rfl rfl ⟨Nat.le_of_ble_eq_true rfl, Nat.le_of_ble_eq_true rfl⟩ rfl ?_
  refine cz_aast (a := 152) (h := 153) (r := 1) (cj := 4) (i := 0) F (by decide) kd_152 (by decide) kd_153 (by decide) rfl rfl ⟨by decide, by rw [ln_152]; decide⟩ rt_152_0 dX7_init_42 rfl ?_
  refine cz_iinc (y := 1) F dX7_init_43 rfl 0 rfl rfl (by decide) rfl ?_
  refine cz_goto F dX7_init_46 rfl ?_
  refine cz_iload_n F dX7_init_25 rfl rfl 0 rfl ?_
  refine cz_iconst F dX7_init_26 rfl ?_
  refine cz_ge_n F (by decide) dX7_init_27 rfl rfl ?_
  refine cz_aload_n F dX7_init_30 rfl rfl 1 rfl ?_
  refine cz_getR (h := 150) (r := 152) F fl_327 kd_150 (by decide) rt_150_2 rfl dX7_init_31 rfl ?_
  refine cz_iload_n F dX7_init_34 rfl rfl 0 rfl ?_
  refine cz_new (N := 154) (ci := 4) F tyX4 (by decide) rfl inq_4 tyX4_ok w_320 w_261 w_74 kd_154 (fun j hj b => nf_4 (b := b) j hj) rfl rfl rfl (Nat.le_of_ble_eq_true rfl) (Nat.le_of_ble_eq_true rfl) dX7_init_35 rfl ?_
  refine cz_dup F rfl dX7_init_38 rfl ?_
  refine cz_callN (h := 154) (As := []) (st := [.ref (g.2.2.1 + 154), .int (i3 1), .ref (g.2.2.1 + 152)]) (host := "DuesOnRungs") F (k_X4_init l g kd_154 (by decide)) ci_X4_init (List.mem_of_getElem? (i := 4) rfl) ⟨rfl, rfl, Nat.le_of_ble_eq_true rfl, Nat.le_of_ble_eq_true rfl⟩ rfl (Nat.le_of_ble_eq_true rfl) dX7_init_39 rfl rfl ⟨Nat.le_of_ble_eq_true rfl, Nat.le_of_ble_eq_true rfl⟩ rfl ?_
  refine cz_aast (a := 152) (h := 154) (r := 1) (cj := 4) (i := 1) F (by decide) kd_152 (by decide) kd_154 (by decide) rfl rfl ⟨by decide, by rw [ln_152]; decide⟩ rt_152_1 dX7_init_42 rfl ?_
  refine cz_iinc (y := 2) F dX7_init_43 rfl 0 rfl rfl (by decide) rfl ?_
  refine cz_goto F dX7_init_46 rfl ?_
  refine cz_iload_n F dX7_init_25 rfl rfl 0 rfl ?_
  refine cz_iconst F dX7_init_26 rfl ?_
  refine cz_ge_n F (by decide) dX7_init_27 rfl rfl ?_
  refine cz_aload_n F dX7_init_30 rfl rfl 1 rfl ?_
  refine cz_getR (h := 150) (r := 152) F fl_327 kd_150 (by decide) rt_150_2 rfl dX7_init_31 rfl ?_
  refine cz_iload_n F dX7_init_34 rfl rfl 0 rfl ?_
  refine cz_new (N := 155) (ci := 4) F tyX4 (by decide) rfl inq_4 tyX4_ok w_320 w_261 w_74 kd_155 (fun j hj b => nf_4 (b := b) j hj) rfl rfl rfl (Nat.le_of_ble_eq_true rfl) (Nat.le_of_ble_eq_true rfl) dX7_init_35 rfl ?_
  refine cz_dup F rfl dX7_init_38 rfl ?_
  refine cz_callN (h := 155) (As := []) (st := [.ref (g.2.2.1 + 155), .int (i3 2), .ref (g.2.2.1 + 152)]) (host := "DuesOnRungs") F (k_X4_init l g kd_155 (by decide)) ci_X4_init (List.mem_of_getElem? (i := 4) rfl) ⟨rfl, rfl, Nat.le_of_ble_eq_true rfl, Nat.le_of_ble_eq_true rfl⟩ rfl (Nat.le_of_ble_eq_true rfl) dX7_init_39 rfl rfl ⟨Nat.le_of_ble_eq_true rfl, Nat.le_of_ble_eq_true rfl⟩ rfl ?_
  refine cz_aast (a := 152) (h := 155) (r := 1) (cj := 4) (i := 2) F (by decide) kd_152 (by decide) kd_155 (by decide) rfl rfl ⟨by decide, by rw [ln_152]; decide⟩ rt_152_2 dX7_init_42 rfl ?_
  refine cz_iinc (y := 3) F dX7_init_43 rfl 0 rfl rfl (by decide) rfl ?_
  refine cz_goto F dX7_init_46 rfl ?_
  refine cz_iload_n F dX7_init_25 rfl rfl 0 rfl ?_
  refine cz_iconst F dX7_init_26 rfl ?_
  refine cz_ge_n F (by decide) dX7_init_27 rfl rfl ?_
  refine cz_aload_n F dX7_init_30 rfl rfl 1 rfl ?_
  refine cz_getR (h := 150) (r := 152) F fl_327 kd_150 (by decide) rt_150_2 rfl dX7_init_31 rfl ?_
  refine cz_iload_n F dX7_init_34 rfl rfl 0 rfl ?_
  refine cz_new (N := 156) (ci := 4) F tyX4 (by decide) rfl inq_4 tyX4_ok w_320 w_261 w_74 kd_156 (fun j hj b => nf_4 (b := b) j hj) rfl rfl rfl (Nat.le_of_ble_eq_true rfl) (Nat.le_of_ble_eq_true rfl) dX7_init_35 rfl ?_
  refine cz_dup F rfl dX7_init_38 rfl ?_
  refine cz_callN (h := 156) (As := []) (st := [.ref (g.2.2.1 + 156), .int (i3 3), .ref (g.2.2.1 + 152)]) (host := "DuesOnRungs") F (k_X4_init l g kd_156 (by decide)) ci_X4_init (List.mem_of_getElem? (i := 4) rfl) ⟨rfl, rfl, Nat.le_of_ble_eq_true rfl, Nat.le_of_ble_eq_true rfl⟩ rfl (Nat.le_of_ble_eq_true rfl) dX7_init_39 rfl rfl ⟨Nat.le_of_ble_eq_true rfl, Nat.le_of_ble_eq_true rfl⟩ rfl ?_
  refine cz_aast (a := 152) (h := 156) (r := 1) (cj := 4) (i := 3) F (by decide) kd_152 (by decide) kd_156 (by decide) rfl rfl ⟨by decide, by rw [ln_152]; decide⟩ rt_152_3 dX7_init_42 rfl ?_
  refine cz_iinc (y := 4) F dX7_init_43 rfl 0 rfl rfl (by decide) rfl ?_
  refine cz_goto F dX7_init_46 rfl ?_
  refine cz_iload_n F dX7_init_25 rfl rfl 0 rfl ?_
  refine cz_iconst F dX7_init_26 rfl ?_
  refine cz_ge_n F (by decide) dX7_init_27 rfl rfl ?_
  refine cz_aload_n F dX7_init_30 rfl rfl 1 rfl ?_
  refine cz_getR (h := 150) (r := 152) F fl_327 kd_150 (by decide) rt_150_2 rfl dX7_init_31 rfl ?_
  refine cz_iload_n F dX7_init_34 rfl rfl 0 rfl ?_
  refine cz_new (N := 157) (ci := 4) F tyX4 (by decide) rfl inq_4 tyX4_ok w_320 w_261 w_74 kd_157 (fun j hj b => nf_4 (b := b) j hj) rfl rfl rfl (Nat.le_of_ble_eq_true rfl) (Nat.le_of_ble_eq_true rfl) dX7_init_35 rfl ?_
  refine cz_dup F rfl dX7_init_38 rfl ?_
  refine cz_callN (h := 157) (As := []) (st := [.ref (g.2.2.1 + 157), .int (i3 4), .ref (g.2.2.1 + 152)]) (host := "DuesOnRungs") F (k_X4_init l g kd_157 (by decide)) ci_X4_init (List.mem_of_getElem? (i := 4) rfl) ⟨rfl, rfl, Nat.le_of_ble_eq_true rfl, Nat.le_of_ble_eq_true rfl⟩ rfl (Nat.le_of_ble_eq_true rfl) dX7_init_39 rfl rfl ⟨Nat.le_of_ble_eq_true rfl, Nat.le_of_ble_eq_true rfl⟩ rfl ?_
  refine cz_aast (a := 152) (h := 157) (r := 1) (cj := 4) (i := 4) F (by decide) kd_152 (by decide) kd_157 (by decide) rfl rfl ⟨by decide, by rw [ln_152]; decide⟩ rt_152_4 dX7_init_42 rfl ?_
  refine cz_iinc (y := 5) F dX7_init_43 rfl 0 rfl rfl (by decide) rfl ?_
  refine cz_goto F dX7_init_46 rfl ?_
  refine cz_iload_n F dX7_init_25 rfl rfl 0 rfl ?_
  refine cz_iconst F dX7_init_26 rfl ?_
  refine cz_ge_y F (by decide) dX7_init_27 rfl ?_
  exact cz_vret F hr dX7_init_49
def fI_X7_init_158 (I : Msk) : Msk := (stI (zI (stI (zI (stI (zI (stI (zI (stI (zI (stI (zI (stI (zI I 159) 158 1) 160) 158 2) 161) 160 (ix 0)) 162) 160 (ix 1)) 163) 160 (ix 2)) 164) 160 (ix 3)) 165) 160 (ix 4))
def fM_X7_init_158 (M : Mem) : Mem := (st2 (zM (st2 (zM (st2 (zM (st2 (zM (st2 (zM (zM (st2 (zM M 159) 159 1 1) 160) 161) 161 1 1) 162) 162 1 1) 163) 163 1 1) 164) 164 1 1) 165) 165 1 1)
set_option maxRecDepth 100000 in
set_option maxHeartbeats 4000000 in
theorem k_X7_init_158 (l : Launch) (g : En) {I : Msk} {M : Mem} : Met l yX7_init (WS yX7_init cX7_init 2 none) rm_X7_init (va_Pc [.ref (g.2.2.1 + 158)] (RqC g 159 I M)) (va_Qv (S := Unit) (fun _ => True) (fun _ t => RqC g 166 (fI_X7_init_158 I) (fM_X7_init_158 M) t) (aB g)) 7 23 (aB g) := by
  refine met_C (plainFor_of_name rfl) (Nat.le_of_ble_eq_true rfl) ?_
  intro p e s m args below meth c F hr hname
  show CZ g p l e rm_X7_init s m args below meth c 2 _ 159 I M 0 0 0 [(0, .ref (g.2.2.1 + 158))] []
  refine cz_aload_n F dX7_init_0 rfl rfl 0 rfl ?_
  refine cz_obj F w_319 w_90 w_91 (Nat.le_of_ble_eq_true rfl) (Nat.le_of_ble_eq_true rfl) dX7_init_1 rfl ?_
  refine cz_aload_n F dX7_init_4 rfl rfl 0 rfl ?_
  refine cz_new (N := 159) (ci := 4) F tyX4 (by decide) rfl inq_4 tyX4_ok w_320 w_261 w_74 kd_159 (fun j hj b => nf_4 (b := b) j hj) rfl rfl rfl (Nat.le_of_ble_eq_true rfl) (Nat.le_of_ble_eq_true rfl) dX7_init_5 rfl ?_
  refine cz_dup F rfl dX7_init_8 rfl ?_
  refine cz_callN (h := 159) (As := []) (st := [.ref (g.2.2.1 + 159), .ref (g.2.2.1 + 158)]) (host := "DuesOnRungs") F (k_X4_init l g kd_159 (by decide)) ci_X4_init (List.mem_of_getElem? (i := 4) rfl) ⟨rfl, rfl, Nat.le_of_ble_eq_true rfl, Nat.le_of_ble_eq_true rfl⟩ rfl (Nat.le_of_ble_eq_true rfl) dX7_init_9 rfl rfl ⟨Nat.le_of_ble_eq_true rfl, Nat.le_of_ble_eq_true rfl⟩ rfl ?_
  refine cz_putR (h := 158) (r := 159) F fx_324 (fun _ => hname) rfl kd_158 (by decide) rt_158_1 (fun _ => rfl) (fun _ => rfl) dX7_init_12 rfl ?_
  refine cz_aload_n F dX7_init_15 rfl rfl 0 rfl ?_
  refine cz_iconst F dX7_init_16 rfl ?_
  refine cz_newq (r := 1) F kd_160 ln_160 (by decide) (by decide) w_320 F.2.2.2.2.2.1.2.2.1.2.1 rfl rfl rfl rfl (Nat.le_of_ble_eq_true rfl) (Nat.le_of_ble_eq_true rfl) dX7_init_17 rfl ?_
  refine cz_putR (h := 158) (r := 160) F fx_327 (fun _ => hname) rfl kd_158 (by decide) rt_158_2 (fun _ => rfl) (fun _ => rfl) dX7_init_20 rfl ?_
  refine cz_iconst F dX7_init_23 rfl ?_
  refine cz_istore_n F dX7_init_24 rfl rfl (by decide) rfl ?_
  refine cz_iload_n F dX7_init_25 rfl rfl 0 rfl ?_
  refine cz_iconst F dX7_init_26 rfl ?_
  refine cz_ge_n F (by decide) dX7_init_27 rfl rfl ?_
  refine cz_aload_n F dX7_init_30 rfl rfl 1 rfl ?_
  refine cz_getR (h := 158) (r := 160) F fl_327 kd_158 (by decide) rt_158_2 rfl dX7_init_31 rfl ?_
  refine cz_iload_n F dX7_init_34 rfl rfl 0 rfl ?_
  refine cz_new (N := 161) (ci := 4) F tyX4 (by decide) rfl inq_4 tyX4_ok w_320 w_261 w_74 kd_161 (fun j hj b => nf_4 (b := b) j hj) rfl rfl rfl (Nat.le_of_ble_eq_true rfl) (Nat.le_of_ble_eq_true rfl) dX7_init_35 rfl ?_
  refine cz_dup F rfl dX7_init_38 rfl ?_
  refine cz_callN (h := 161) (As := []) (st := [.ref (g.2.2.1 + 161), .int (i3 0), .ref (g.2.2.1 + 160)]) (host := "DuesOnRungs") F (k_X4_init l g kd_161 (by decide)) ci_X4_init (List.mem_of_getElem? (i := 4) rfl) ⟨rfl, rfl, Nat.le_of_ble_eq_true rfl, Nat.le_of_ble_eq_true rfl⟩ rfl (Nat.le_of_ble_eq_true rfl) dX7_init_39 rfl rfl ⟨Nat.le_of_ble_eq_true rfl, Nat.le_of_ble_eq_true rfl⟩ rfl ?_
  refine cz_aast (a := 160) (h := 161) (r := 1) (cj := 4) (i := 0) F (by decide) kd_160 (by decide) kd_161 (by decide) rfl rfl ⟨by decide, by rw [ln_160]; decide⟩ rt_160_0 dX7_init_42 rfl ?_
  refine cz_iinc (y := 1) F dX7_init_43 rfl 0 rfl rfl (by decide) rfl ?_
  refine cz_goto F dX7_init_46 rfl ?_
  refine cz_iload_n F dX7_init_25 rfl rfl 0 rfl ?_
  refine cz_iconst F dX7_init_26 rfl ?_
  refine cz_ge_n F (by decide) dX7_init_27 rfl rfl ?_
  refine cz_aload_n F dX7_init_30 rfl rfl 1 rfl ?_
  refine cz_getR (h := 158) (r := 160) F fl_327 kd_158 (by decide) rt_158_2 rfl dX7_init_31 rfl ?_
  refine cz_iload_n F dX7_init_34 rfl rfl 0 rfl ?_
  refine cz_new (N := 162) (ci := 4) F tyX4 (by decide) rfl inq_4 tyX4_ok w_320 w_261 w_74 kd_162 (fun j hj b => nf_4 (b := b) j hj) rfl rfl rfl (Nat.le_of_ble_eq_true rfl) (Nat.le_of_ble_eq_true rfl) dX7_init_35 rfl ?_
  refine cz_dup F rfl dX7_init_38 rfl ?_
  refine cz_callN (h := 162) (As := []) (st := [.ref (g.2.2.1 + 162), .int (i3 1), .ref (g.2.2.1 + 160)]) (host := "DuesOnRungs") F (k_X4_init l g kd_162 (by decide)) ci_X4_init (List.mem_of_getElem? (i := 4) rfl) ⟨rfl, rfl, Nat.le_of_ble_eq_true rfl, Nat.le_of_ble_eq_true rfl⟩ rfl (Nat.le_of_ble_eq_true rfl) dX7_init_39 rfl rfl ⟨Nat.le_of_ble_eq_true rfl, Nat.le_of_ble_eq_true rfl⟩ rfl ?_
  refine cz_aast (a := 160) (h := 162) (r := 1) (cj := 4) (i := 1) F (by decide) kd_160 (by decide) kd_162 (by decide) rfl rfl ⟨by decide, by rw [ln_160]; decide⟩ rt_160_1 dX7_init_42 rfl ?_
  refine cz_iinc (y := 2) F dX7_init_43 rfl 0 rfl rfl (by decide) rfl ?_
  refine cz_goto F dX7_init_46 rfl ?_
  refine cz_iload_n F dX7_init_25 rfl rfl 0 rfl ?_
  refine cz_iconst F dX7_init_26 rfl ?_
  refine cz_ge_n F (by decide) dX7_init_27 rfl rfl ?_
  refine cz_aload_n F dX7_init_30 rfl rfl 1 rfl ?_
  refine cz_getR (h := 158) (r := 160) F fl_327 kd_158 (by decide) rt_158_2 rfl dX7_init_31 rfl ?_
  refine cz_iload_n F dX7_init_34 rfl rfl 0 rfl ?_
  refine cz_new (N := 163) (ci := 4) F tyX4 (by decide) rfl inq_4 tyX4_ok w_320 w_261 w_74 kd_163 (fun j hj b => nf_4 (b := b) j hj) rfl rfl rfl (Nat.le_of_ble_eq_true rfl) (Nat.le_of_ble_eq_true rfl) dX7_init_35 rfl ?_
  refine cz_dup F rfl dX7_init_38 rfl ?_
  refine cz_callN (h := 163) (As := []) (st := [.ref (g.2.2.1 + 163), .int (i3 2), .ref (g.2.2.1 + 160)]) (host := "DuesOnRungs") F (k_X4_init l g kd_163 (by decide)) ci_X4_init (List.mem_of_getElem? (i := 4) rfl) ⟨rfl, rfl, Nat.le_of_ble_eq_true rfl, Nat.le_of_ble_eq_true rfl⟩ rfl (Nat.le_of_ble_eq_true rfl) dX7_init_39 rfl rfl ⟨Nat.le_of_ble_eq_true rfl, Nat.le_of_ble_eq_true rfl⟩ rfl ?_
  refine cz_aast (a := 160) (h := 163) (r := 1) (cj := 4) (i := 2) F (by decide) kd_160 (by decide) kd_163 (by decide) rfl rfl ⟨by decide, by rw [ln_160]; decide⟩ rt_160_2 dX7_init_42 rfl ?_
  refine cz_iinc (y := 3) F dX7_init_43 rfl 0 rfl rfl (by decide) rfl ?_
  refine cz_goto F dX7_init_46 rfl ?_
  refine cz_iload_n F dX7_init_25 rfl rfl 0 rfl ?_
  refine cz_iconst F dX7_init_26 rfl ?_
  refine cz_ge_n F (by decide) dX7_init_27 rfl rfl ?_
  refine cz_aload_n F dX7_init_30 rfl rfl 1 rfl ?_
  refine cz_getR (h := 158) (r := 160) F fl_327 kd_158 (by decide) rt_158_2 rfl dX7_init_31 rfl ?_
  refine cz_iload_n F dX7_init_34 rfl rfl 0 rfl ?_
  refine cz_new (N := 164) (ci := 4) F tyX4 (by decide) rfl inq_4 tyX4_ok w_320 w_261 w_74 kd_164 (fun j hj b => nf_4 (b := b) j hj) rfl rfl rfl (Nat.le_of_ble_eq_true rfl) (Nat.le_of_ble_eq_true rfl) dX7_init_35 rfl ?_
  refine cz_dup F rfl dX7_init_38 rfl ?_
  refine cz_callN (h := 164) (As := []) (st := [.ref (g.2.2.1 + 164), .int (i3 3), .ref (g.2.2.1 + 160)]) (host := "DuesOnRungs") F (k_X4_init l g kd_164 (by decide)) ci_X4_init (List.mem_of_getElem? (i := 4) rfl) ⟨rfl, rfl, Nat.le_of_ble_eq_true rfl, Nat.le_of_ble_eq_true rfl⟩ rfl (Nat.le_of_ble_eq_true rfl) dX7_init_39 rfl rfl ⟨Nat.le_of_ble_eq_true rfl, Nat.le_of_ble_eq_true rfl⟩ rfl ?_
  refine cz_aast (a := 160) (h := 164) (r := 1) (cj := 4) (i := 3) F (by decide) kd_160 (by decide) kd_164 (by decide) rfl rfl ⟨by decide, by rw [ln_160]; decide⟩ rt_160_3 dX7_init_42 rfl ?_
  refine cz_iinc (y := 4) F dX7_init_43 rfl 0 rfl rfl (by decide) rfl ?_
  refine cz_goto F dX7_init_46 rfl ?_
  refine cz_iload_n F dX7_init_25 rfl rfl 0 rfl ?_
  refine cz_iconst F dX7_init_26 rfl ?_
  refine cz_ge_n F (by decide) dX7_init_27 rfl rfl ?_
  refine cz_aload_n F dX7_init_30 rfl rfl 1 rfl ?_
  refine cz_getR (h := 158) (r := 160) F fl_327 kd_158 (by decide) rt_158_2 rfl dX7_init_31 rfl ?_
  refine cz_iload_n F dX7_init_34 rfl rfl 0 rfl ?_
  refine cz_new (N := 165) (ci := 4) F tyX4 (by decide) rfl inq_4 tyX4_ok w_320 w_261 w_74 kd_165 (fun j hj b => nf_4 (b := b) j hj) rfl rfl rfl (Nat.le_of_ble_eq_true rfl) (Nat.le_of_ble_eq_true rfl) dX7_init_35 rfl ?_
  refine cz_dup F rfl dX7_init_38 rfl ?_
  refine cz_callN (h := 165) (As := []) (st := [.ref (g.2.2.1 + 165), .int (i3 4), .ref (g.2.2.1 + 160)]) (host := "DuesOnRungs") F (k_X4_init l g kd_165 (by decide)) ci_X4_init (List.mem_of_getElem? (i := 4) rfl) ⟨rfl, rfl, Nat.le_of_ble_eq_true rfl, Nat.le_of_ble_eq_true rfl⟩ rfl (Nat.le_of_ble_eq_true rfl) dX7_init_39 rfl rfl ⟨Nat.le_of_ble_eq_true rfl, Nat.le_of_ble_eq_true rfl⟩ rfl ?_
  refine cz_aast (a := 160) (h := 165) (r := 1) (cj := 4) (i := 4) F (by decide) kd_160 (by decide) kd_165 (by decide) rfl rfl ⟨by decide, by rw [ln_160]; decide⟩ rt_160_4 dX7_init_42 rfl ?_
  refine cz_iinc (y := 5) F dX7_init_43 rfl 0 rfl rfl (by decide) rfl ?_
  refine cz_goto F dX7_init_46 rfl ?_
  refine cz_iload_n F dX7_init_25 rfl rfl 0 rfl ?_
  refine cz_iconst F dX7_init_26 rfl ?_
  refine cz_ge_y F (by decide) dX7_init_27 rfl ?_
  exact cz_vret F hr dX7_init_49
def fI_X7_init_166 (I : Msk) : Msk := (stI (zI (stI (zI (stI (zI (stI (zI (stI (zI (stI (zI (stI (zI I 167) 166 1) 168) 166 2) 169) 168 (ix 0)) 170) 168 (ix 1)) 171) 168 (ix 2)) 172) 168 (ix 3)) 173) 168 (ix 4))
def fM_X7_init_166 (M : Mem) : Mem := (st2 (zM (st2 (zM (st2 (zM (st2 (zM (st2 (zM (zM (st2 (zM M 167) 167 1 1) 168) 169) 169 1 1) 170) 170 1 1) 171) 171 1 1) 172) 172 1 1) 173) 173 1 1)
set_option maxRecDepth 100000 in
set_option maxHeartbeats 4000000 in
theorem k_X7_init_166 (l : Launch) (g : En) {I : Msk} {M : Mem} : Met l yX7_init (WS yX7_init cX7_init 2 none) rm_X7_init (va_Pc [.ref (g.2.2.1 + 166)] (RqC g 167 I M)) (va_Qv (S := Unit) (fun _ => True) (fun _ t => RqC g 174 (fI_X7_init_166 I) (fM_X7_init_166 M) t) (aB g)) 7 23 (aB g) := by
  refine met_C (plainFor_of_name rfl) (Nat.le_of_ble_eq_true rfl) ?_
  intro p e s m args below meth c F hr hname
  show CZ g p l e rm_X7_init s m args below meth c 2 _ 167 I M 0 0 0 [(0, .ref (g.2.2.1 + 166))] []
  refine cz_aload_n F dX7_init_0 rfl rfl 0 rfl ?_
  refine cz_obj F w_319 w_90 w_91 (Nat.le_of_ble_eq_true rfl) (Nat.le_of_ble_eq_true rfl) dX7_init_1 rfl ?_
  refine cz_aload_n F dX7_init_4 rfl rfl 0 rfl ?_
  refine cz_new (N := 167) (ci := 4) F tyX4 (by decide) rfl inq_4 tyX4_ok w_320 w_261 w_74 kd_167 (fun j hj b => nf_4 (b := b) j hj) rfl rfl rfl (Nat.le_of_ble_eq_true rfl) (Nat.le_of_ble_eq_true rfl) dX7_init_5 rfl ?_
  refine cz_dup F rfl dX7_init_8 rfl ?_
  refine cz_callN (h := 167) (As := []) (st := [.ref (g.2.2.1 + 167), .ref (g.2.2.1 + 166)]) (host := "DuesOnRungs") F (k_X4_init l g kd_167 (by decide)) ci_X4_init (List.mem_of_getElem? (i := 4) rfl) ⟨rfl, rfl, Nat.le_of_ble_eq_true rfl, Nat.le_of_ble_eq_true rfl⟩ rfl (Nat.le_of_ble_eq_true rfl) dX7_init_9 rfl rfl ⟨Nat.le_of_ble_eq_true rfl, Nat.le_of_ble_eq_true rfl⟩ rfl ?_
  refine cz_putR (h := 166) (r := 167) F fx_324 (fun _ => hname) rfl kd_166 (by decide) rt_166_1 (fun _ => rfl) (fun _ => rfl) dX7_init_12 rfl ?_
  refine cz_aload_n F dX7_init_15 rfl rfl 0 rfl ?_
  refine cz_iconst F dX7_init_16 rfl ?_
  refine cz_newq (r := 1) F kd_168 ln_168 (by decide) (by decide) w_320 F.2.2.2.2.2.1.2.2.1.2.1 rfl rfl rfl rfl (Nat.le_of_ble_eq_true rfl) (Nat.le_of_ble_eq_true rfl) dX7_init_17 rfl ?_
  refine cz_putR (h := 166) (r := 168) F fx_327 (fun _ => hname) rfl kd_166 (by decide) rt_166_2 (fun _ => rfl) (fun _ => rfl) dX7_init_20 rfl ?_
  refine cz_iconst F dX7_init_23 rfl ?_
  refine cz_istore_n F dX7_init_24 rfl rfl (by decide) rfl ?_
  refine cz_iload_n F dX7_init_25 rfl rfl 0 rfl ?_
  refine cz_iconst F dX7_init_26 rfl ?_
  refine cz_ge_n F (by decide) dX7_init_27 rfl rfl ?_
  refine cz_aload_n F dX7_init_30 rfl rfl 1 rfl ?_
  refine cz_getR (h := 166) (r := 168) F fl_327 kd_166 (by decide) rt_166_2 rfl dX7_init_31 rfl ?_
  refine cz_iload_n F dX7_init_34 rfl rfl 0 rfl ?_
  refine cz_new (N := 169) (ci := 4) F tyX4 (by decide) rfl inq_4 tyX4_ok w_320 w_261 w_74 kd_169 (fun j hj b => nf_4 (b := b) j hj) rfl rfl rfl (Nat.le_of_ble_eq_true rfl) (Nat.le_of_ble_eq_true rfl) dX7_init_35 rfl ?_
  refine cz_dup F rfl dX7_init_38 rfl ?_
  refine cz_callN (h := 169) (As := []) (st := [.ref (g.2.2.1 + 169), .int (i3 0), .ref (g.2.2.1 + 168)]) (host := "DuesOnRungs") F (k_X4_init l g kd_169 (by decide)) ci_X4_init (List.mem_of_getElem? (i := 4) rfl) ⟨rfl, rfl, Nat.le_of_ble_eq_true rfl, Nat.le_of_ble_eq_true rfl⟩ rfl (Nat.le_of_ble_eq_true rfl) dX7_init_39 rfl rfl ⟨Nat.le_of_ble_eq_true rfl, Nat.le_of_ble_eq_true rfl⟩ rfl ?_
  refine cz_aast (a := 168) (h := 169) (r := 1) (cj := 4) (i := 0) F (by decide) kd_168 (by decide) kd_169 (by decide) rfl rfl ⟨by decide, by rw [ln_168]; decide⟩ rt_168_0 dX7_init_42 rfl ?_
  refine cz_iinc (y := 1) F dX7_init_43 rfl 0 rfl rfl (by decide) rfl ?_
  refine cz_goto F dX7_init_46 rfl ?_
  refine cz_iload_n F dX7_init_25 rfl rfl 0 rfl ?_
  refine cz_iconst F dX7_init_26 rfl ?_
  refine cz_ge_n F (by decide) dX7_init_27 rfl rfl ?_
  refine cz_aload_n F dX7_init_30 rfl rfl 1 rfl ?_
  refine cz_getR (h := 166) (r := 168) F fl_327 kd_166 (by decide) rt_166_2 rfl dX7_init_31 rfl ?_
  refine cz_iload_n F dX7_init_34 rfl rfl 0 rfl ?_
  refine cz_new (N := 170) (ci := 4) F tyX4 (by decide) rfl inq_4 tyX4_ok w_320 w_261 w_74 kd_170 (fun j hj b => nf_4 (b := b) j hj) rfl rfl rfl (Nat.le_of_ble_eq_true rfl) (Nat.le_of_ble_eq_true rfl) dX7_init_35 rfl ?_
  refine cz_dup F rfl dX7_init_38 rfl ?_
  refine cz_callN (h := 170) (As := []) (st := [.ref (g.2.2.1 + 170), .int (i3 1), .ref (g.2.2.1 + 168)]) (host := "DuesOnRungs") F (k_X4_init l g kd_170 (by decide)) ci_X4_init (List.mem_of_getElem? (i := 4) rfl) ⟨rfl, rfl, Nat.le_of_ble_eq_true rfl, Nat.le_of_ble_eq_true rfl⟩ rfl (Nat.le_of_ble_eq_true rfl) dX7_init_39 rfl rfl ⟨Nat.le_of_ble_eq_true rfl, Nat.le_of_ble_eq_true rfl⟩ rfl ?_
  refine cz_aast (a := 168) (h := 170) (r := 1) (cj := 4) (i := 1) F (by decide) kd_168 (by decide) kd_170 (by decide) rfl rfl ⟨by decide, by rw [ln_168]; decide⟩ rt_168_1 dX7_init_42 rfl ?_
  refine cz_iinc (y := 2) F dX7_init_43 rfl 0 rfl rfl (by decide) rfl ?_
  refine cz_goto F dX7_init_46 rfl ?_
  refine cz_iload_n F dX7_init_25 rfl rfl 0 rfl ?_
  refine cz_iconst F dX7_init_26 rfl ?_
  refine cz_ge_n F (by decide) dX7_init_27 rfl rfl ?_
  refine cz_aload_n F dX7_init_30 rfl rfl 1 rfl ?_
  refine cz_getR (h := 166) (r := 168) F fl_327 kd_166 (by decide) rt_166_2 rfl dX7_init_31 rfl ?_
  refine cz_iload_n F dX7_init_34 rfl rfl 0 rfl ?_
  refine cz_new (N := 171) (ci := 4) F tyX4 (by decide) rfl inq_4 tyX4_ok w_320 w_261 w_74 kd_171 (fun j hj b => nf_4 (b := b) j hj) rfl rfl rfl (Nat.le_of_ble_eq_true rfl) (Nat.le_of_ble_eq_true rfl) dX7_init_35 rfl ?_
  refine cz_dup F rfl dX7_init_38 rfl ?_
  refine cz_callN (h := 171) (As := []) (st := [.ref (g.2.2.1 + 171), .int (i3 2), .ref (g.2.2.1 + 168)]) (host := "DuesOnRungs") F (k_X4_init l g kd_171 (by decide)) ci_X4_init (List.mem_of_getElem? (i := 4) rfl) ⟨rfl, rfl, Nat.le_of_ble_eq_true rfl, Nat.le_of_ble_eq_true rfl⟩ rfl (Nat.le_of_ble_eq_true rfl) dX7_init_39 rfl rfl ⟨Nat.le_of_ble_eq_true rfl, Nat.le_of_ble_eq_true rfl⟩ rfl ?_
  refine cz_aast (a := 168) (h := 171) (r := 1) (cj := 4) (i := 2) F (by decide) kd_168 (by decide) kd_171 (by decide) rfl rfl ⟨by decide, by rw [ln_168]; decide⟩ rt_168_2 dX7_init_42 rfl ?_
  refine cz_iinc (y := 3) F dX7_init_43 rfl 0 rfl rfl (by decide) rfl ?_
  refine cz_goto F dX7_init_46 rfl ?_
  refine cz_iload_n F dX7_init_25 rfl rfl 0 rfl ?_
  refine cz_iconst F dX7_init_26 rfl ?_
  refine cz_ge_n F (by decide) dX7_init_27 rfl rfl ?_
  refine cz_aload_n F dX7_init_30 rfl rfl 1 rfl ?_
  refine cz_getR (h := 166) (r := 168) F fl_327 kd_166 (by decide) rt_166_2 rfl dX7_init_31 rfl ?_
  refine cz_iload_n F dX7_init_34 rfl rfl 0 rfl ?_
  refine cz_new (N := 172) (ci := 4) F tyX4 (by decide) rfl inq_4 tyX4_ok w_320 w_261 w_74 kd_172 (fun j hj b => nf_4 (b := b) j hj) rfl rfl rfl (Nat.le_of_ble_eq_true rfl) (Nat.le_of_ble_eq_true rfl) dX7_init_35 rfl ?_
  refine cz_dup F rfl dX7_init_38 rfl ?_
  refine cz_callN (h := 172) (As := []) (st := [.ref (g.2.2.1 + 172), .int (i3 3), .ref (g.2.2.1 + 168)]) (host := "DuesOnRungs") F (k_X4_init l g kd_172 (by decide)) ci_X4_init (List.mem_of_getElem? (i := 4) rfl) ⟨rfl, rfl, Nat.le_of_ble_eq_true rfl, Nat.le_of_ble_eq_true rfl⟩ rfl (Nat.le_of_ble_eq_true rfl) dX7_init_39 rfl rfl ⟨Nat.le_of_ble_eq_true rfl, Nat.le_of_ble_eq_true rfl⟩ rfl ?_
  refine cz_aast (a := 168) (h := 172) (r := 1) (cj := 4) (i := 3) F (by decide) kd_168 (by decide) kd_172 (by decide) rfl rfl ⟨by decide, by rw [ln_168]; decide⟩ rt_168_3 dX7_init_42 rfl ?_
  refine cz_iinc (y := 4) F dX7_init_43 rfl 0 rfl rfl (by decide) rfl ?_
  refine cz_goto F dX7_init_46 rfl ?_
  refine cz_iload_n F dX7_init_25 rfl rfl 0 rfl ?_
  refine cz_iconst F dX7_init_26 rfl ?_
  refine cz_ge_n F (by decide) dX7_init_27 rfl rfl ?_
  refine cz_aload_n F dX7_init_30 rfl rfl 1 rfl ?_
  refine cz_getR (h := 166) (r := 168) F fl_327 kd_166 (by decide) rt_166_2 rfl dX7_init_31 rfl ?_
  refine cz_iload_n F dX7_init_34 rfl rfl 0 rfl ?_
  refine cz_new (N := 173) (ci := 4) F tyX4 (by decide) rfl inq_4 tyX4_ok w_320 w_261 w_74 kd_173 (fun j hj b => nf_4 (b := b) j hj) rfl rfl rfl (Nat.le_of_ble_eq_true rfl) (Nat.le_of_ble_eq_true rfl) dX7_init_35 rfl ?_
  refine cz_dup F rfl dX7_init_38 rfl ?_
  refine cz_callN (h := 173) (As := []) (st := [.ref (g.2.2.1 + 173), .int (i3 4), .ref (g.2.2.1 + 168)]) (host := "DuesOnRungs") F (k_X4_init l g kd_173 (by decide)) ci_X4_init (List.mem_of_getElem? (i := 4) rfl) ⟨rfl, rfl, Nat.le_of_ble_eq_true rfl, Nat.le_of_ble_eq_true rfl⟩ rfl (Nat.le_of_ble_eq_true rfl) dX7_init_39 rfl rfl ⟨Nat.le_of_ble_eq_true rfl, Nat.le_of_ble_eq_true rfl⟩ rfl ?_
  refine cz_aast (a := 168) (h := 173) (r := 1) (cj := 4) (i := 4) F (by decide) kd_168 (by decide) kd_173 (by decide) rfl rfl ⟨by decide, by rw [ln_168]; decide⟩ rt_168_4 dX7_init_42 rfl ?_
  refine cz_iinc (y := 5) F dX7_init_43 rfl 0 rfl rfl (by decide) rfl ?_
  refine cz_goto F dX7_init_46 rfl ?_
  refine cz_iload_n F dX7_init_25 rfl rfl 0 rfl ?_
  refine cz_iconst F dX7_init_26 rfl ?_
  refine cz_ge_y F (by decide) dX7_init_27 rfl ?_
  exact cz_vret F hr dX7_init_49
abbrev rm_X3_init : Room := { frames := 3, cells := 86, slots := 286, locals := 53 }
theorem ci_X3_init : CI yX3_init cX3_init 2 0 := ⟨w_311, w_75, w_312, rfl, by decide +kernel, by decide +kernel, by decide +kernel⟩
def fI_X3_init_87 (I : Msk) : Msk := (stI (fI_X7_init_166 (zI (stI (fI_X7_init_158 (zI (stI (fI_X7_init_150 (zI (stI (fI_X7_init_142 (zI (stI (fI_X7_init_134 (zI (stI (fI_X7_init_126 (zI (stI (fI_X7_init_118 (zI (stI (fI_X7_init_110 (zI (stI (fI_X7_init_102 (zI (stI (zI (stI (zI (stI (zI (stI (zI (stI (stI (zI (stI (fI_X7_init_88 (zI I 88)) 87 0) 96) 87 1) 87 3) 98) 87 5) 99) 87 6) 100) 87 7) 101) 87 8) 102)) 96 (ix 0)) 110)) 96 (ix 1)) 118)) 96 (ix 2)) 126)) 96 (ix 3)) 134)) 96 (ix 4)) 142)) 96 (ix 5)) 150)) 96 (ix 6)) 158)) 96 (ix 7)) 166)) 96 (ix 8))
def fM_X3_init_87 (M : Mem) : Mem := (fM_X7_init_166 (zM (fM_X7_init_158 (zM (fM_X7_init_150 (zM (fM_X7_init_142 (zM (fM_X7_init_134 (zM (fM_X7_init_126 (zM (fM_X7_init_118 (zM (fM_X7_init_110 (zM (fM_X7_init_102 (zM (st2 (zM (st2 (zM (st2 (zM (st2 (zM (zM (zM (fM_X7_init_88 (zM M 88)) 96) 97) 98) 98 1 1) 99) 99 1 1) 100) 100 1 1) 101) 101 1 1) 102)) 110)) 118)) 126)) 134)) 142)) 150)) 158)) 166))
set_option maxRecDepth 100000 in
set_option maxHeartbeats 4000000 in
theorem k_X3_init_87 (l : Launch) (g : En) {I : Msk} {M : Mem} : Met l yX3_init (WS yX3_init cX3_init 2 none) rm_X3_init (va_Pc [.ref (g.2.2.1 + 87)] (RqC g 88 I M)) (va_Qv (S := Unit) (fun _ => True) (fun _ t => RqC g 174 (fI_X3_init_87 I) (fM_X3_init_87 M) t) (aB g)) 86 286 (aB g) := by
  refine met_C (plainFor_of_name rfl) (Nat.le_of_ble_eq_true rfl) ?_
  intro p e s m args below meth c F hr hname
  show CZ g p l e rm_X3_init s m args below meth c 2 _ 88 I M 0 0 0 [(0, .ref (g.2.2.1 + 87))] []
  refine cz_aload_n F dX3_init_0 rfl rfl 0 rfl ?_
  refine cz_obj F w_313 w_90 w_91 (Nat.le_of_ble_eq_true rfl) (Nat.le_of_ble_eq_true rfl) dX3_init_1 rfl ?_
  refine cz_aload_n F dX3_init_4 rfl rfl 0 rfl ?_
  refine cz_new (N := 88) (ci := 7) F tyX7 (by decide) rfl inq_7 tyX7_ok w_314 w_315 w_76 kd_88 (fun j hj b => nf_7 (b := b) j hj) rfl rfl rfl (Nat.le_of_ble_eq_true rfl) (Nat.le_of_ble_eq_true rfl) dX3_init_5 rfl ?_
  refine cz_dup F rfl dX3_init_8 rfl ?_
  refine cz_call (h := 88) (As := []) (st := [.ref (g.2.2.1 + 88), .ref (g.2.2.1 + 87)]) F (k_X7_init_88 l g) ci_X7_init w_316 ⟨rfl, rfl, Nat.le_of_ble_eq_true rfl, Nat.le_of_ble_eq_true rfl⟩ rfl (Nat.le_of_ble_eq_true rfl) dX3_init_9 rfl rfl ⟨Nat.le_of_ble_eq_true rfl, Nat.le_of_ble_eq_true rfl⟩ rfl ?_
  refine cz_putR (h := 87) (r := 88) F fx_339 (fun _ => hname) rfl kd_87 (by decide) rt_87_0 (fun _ => rfl) (fun _ => rfl) dX3_init_12 rfl ?_
  refine cz_aload_n F dX3_init_15 rfl rfl 0 rfl ?_
  refine cz_bipush F dX3_init_16 (by decide) rfl ?_
  refine cz_newq (r := 2) F kd_96 ln_96 (by decide) (by decide) w_314 F.2.2.2.2.2.1.2.2.1.2.2.1 rfl rfl rfl rfl (Nat.le_of_ble_eq_true rfl) (Nat.le_of_ble_eq_true rfl) dX3_init_18 rfl ?_
  refine cz_putR (h := 87) (r := 96) F fx_341 (fun _ => hname) rfl kd_87 (by decide) rt_87_1 (fun _ => rfl) (fun _ => rfl) dX3_init_21 rfl ?_
  refine cz_aload_n F dX3_init_24 rfl rfl 0 rfl ?_
  refine cz_iconst F dX3_init_25 rfl ?_
  refine cz_newint F kd_97 ln_97 (by decide) (by decide) wa_int rfl rfl rfl (Nat.le_of_ble_eq_true rfl) (Nat.le_of_ble_eq_true rfl) dX3_init_26 rfl ?_
  refine cz_putR (h := 87) (r := 97) F fx_343 (fun _ => hname) rfl kd_87 (by decide) rt_87_3 (fun _ => rfl) (fun _ => rfl) dX3_init_28 rfl ?_
  refine cz_aload_n F dX3_init_31 rfl rfl 0 rfl ?_
  refine cz_new (N := 98) (ci := 4) F tyX4 (by decide) rfl inq_4 tyX4_ok w_337 w_261 w_74 kd_98 (fun j hj b => nf_4 (b := b) j hj) rfl rfl rfl (Nat.le_of_ble_eq_true rfl) (Nat.le_of_ble_eq_true rfl) dX3_init_32 rfl ?_
  refine cz_dup F rfl dX3_init_35 rfl ?_
  refine cz_callN (h := 98) (As := []) (st := [.ref (g.2.2.1 + 98), .ref (g.2.2.1 + 87)]) (host := "DuesOnRungs") F (k_X4_init l g kd_98 (by decide)) ci_X4_init (List.mem_of_getElem? (i := 5) rfl) ⟨rfl, rfl, Nat.le_of_ble_eq_true rfl, Nat.le_of_ble_eq_true rfl⟩ rfl (Nat.le_of_ble_eq_true rfl) dX3_init_36 rfl rfl ⟨Nat.le_of_ble_eq_true rfl, Nat.le_of_ble_eq_true rfl⟩ rfl ?_
  refine cz_putR (h := 87) (r := 98) F fx_345 (fun _ => hname) rfl kd_87 (by decide) rt_87_5 (fun _ => rfl) (fun _ => rfl) dX3_init_39 rfl ?_
  refine cz_aload_n F dX3_init_42 rfl rfl 0 rfl ?_
  refine cz_new (N := 99) (ci := 4) F tyX4 (by decide) rfl inq_4 tyX4_ok w_337 w_261 w_74 kd_99 (fun j hj b => nf_4 (b := b) j hj) rfl rfl rfl (Nat.le_of_ble_eq_true rfl) (Nat.le_of_ble_eq_true rfl) dX3_init_43 rfl ?_
  refine cz_dup F rfl dX3_init_46 rfl ?_
  refine cz_callN (h := 99) (As := []) (st := [.ref (g.2.2.1 + 99), .ref (g.2.2.1 + 87)]) (host := "DuesOnRungs") F (k_X4_init l g kd_99 (by decide)) ci_X4_init (List.mem_of_getElem? (i := 5) rfl) ⟨rfl, rfl, Nat.le_of_ble_eq_true rfl, Nat.le_of_ble_eq_true rfl⟩ rfl (Nat.le_of_ble_eq_true rfl) dX3_init_47 rfl rfl ⟨Nat.le_of_ble_eq_true rfl, Nat.le_of_ble_eq_true rfl⟩ rfl ?_
  refine cz_putR (h := 87) (r := 99) F fx_346 (fun _ => hname) rfl kd_87 (by decide) rt_87_6 (fun _ => rfl) (fun _ => rfl) dX3_init_50 rfl ?_
  refine cz_aload_n F dX3_init_53 rfl rfl 0 rfl ?_
  refine cz_new (N := 100) (ci := 4) F tyX4 (by decide) rfl inq_4 tyX4_ok w_337 w_261 w_74 kd_100 (fun j hj b => nf_4 (b := b) j hj) rfl rfl rfl (Nat.le_of_ble_eq_true rfl) (Nat.le_of_ble_eq_true rfl) dX3_init_54 rfl ?_
  refine cz_dup F rfl dX3_init_57 rfl ?_
  refine cz_callN (h := 100) (As := []) (st := [.ref (g.2.2.1 + 100), .ref (g.2.2.1 + 87)]) (host := "DuesOnRungs") F (k_X4_init l g kd_100 (by decide)) ci_X4_init (List.mem_of_getElem? (i := 5) rfl) ⟨rfl, rfl, Nat.le_of_ble_eq_true rfl, Nat.le_of_ble_eq_true rfl⟩ rfl (Nat.le_of_ble_eq_true rfl) dX3_init_58 rfl rfl ⟨Nat.le_of_ble_eq_true rfl, Nat.le_of_ble_eq_true rfl⟩ rfl ?_
  refine cz_putR (h := 87) (r := 100) F fx_347 (fun _ => hname) rfl kd_87 (by decide) rt_87_7 (fun _ => rfl) (fun _ => rfl) dX3_init_61 rfl ?_
  refine cz_aload_n F dX3_init_64 rfl rfl 0 rfl ?_
  refine cz_new (N := 101) (ci := 4) F tyX4 (by decide) rfl inq_4 tyX4_ok w_337 w_261 w_74 kd_101 (fun j hj b => nf_4 (b := b) j hj) rfl rfl rfl (Nat.le_of_ble_eq_true rfl) (Nat.le_of_ble_eq_true rfl) dX3_init_65 rfl ?_
  refine cz_dup F rfl dX3_init_68 rfl ?_
  refine cz_callN (h := 101) (As := []) (st := [.ref (g.2.2.1 + 101), .ref (g.2.2.1 + 87)]) (host := "DuesOnRungs") F (k_X4_init l g kd_101 (by decide)) ci_X4_init (List.mem_of_getElem? (i := 5) rfl) ⟨rfl, rfl, Nat.le_of_ble_eq_true rfl, Nat.le_of_ble_eq_true rfl⟩ rfl (Nat.le_of_ble_eq_true rfl) dX3_init_69 rfl rfl ⟨Nat.le_of_ble_eq_true rfl, Nat.le_of_ble_eq_true rfl⟩ rfl ?_
  refine cz_putR (h := 87) (r := 101) F fx_348 (fun _ => hname) rfl kd_87 (by decide) rt_87_8 (fun _ => rfl) (fun _ => rfl) dX3_init_72 rfl ?_
  refine cz_iconst F dX3_init_75 rfl ?_
  refine cz_istore_n F dX3_init_76 rfl rfl (by decide) rfl ?_
  refine cz_iload_n F dX3_init_77 rfl rfl 0 rfl ?_
  refine cz_bipush F dX3_init_78 (by decide) rfl ?_
  refine cz_ge_n F (by decide) dX3_init_80 rfl rfl ?_
  refine cz_aload_n F dX3_init_83 rfl rfl 1 rfl ?_
  refine cz_getR (h := 87) (r := 96) F fl_341 kd_87 (by decide) rt_87_1 rfl dX3_init_84 rfl ?_
  refine cz_iload_n F dX3_init_87 rfl rfl 0 rfl ?_
  refine cz_new (N := 102) (ci := 7) F tyX7 (by decide) rfl inq_7 tyX7_ok w_314 w_315 w_76 kd_102 (fun j hj b => nf_7 (b := b) j hj) rfl rfl rfl (Nat.le_of_ble_eq_true rfl) (Nat.le_of_ble_eq_true rfl) dX3_init_88 rfl ?_
  refine cz_dup F rfl dX3_init_91 rfl ?_
  refine cz_call (h := 102) (As := []) (st := [.ref (g.2.2.1 + 102), .int (i3 0), .ref (g.2.2.1 + 96)]) F (k_X7_init_102 l g) ci_X7_init w_316 ⟨rfl, rfl, Nat.le_of_ble_eq_true rfl, Nat.le_of_ble_eq_true rfl⟩ rfl (Nat.le_of_ble_eq_true rfl) dX3_init_92 rfl rfl ⟨Nat.le_of_ble_eq_true rfl, Nat.le_of_ble_eq_true rfl⟩ rfl ?_
  refine cz_aast (a := 96) (h := 102) (r := 2) (cj := 7) (i := 0) F (by decide) kd_96 (by decide) kd_102 (by decide) rfl rfl ⟨by decide, by rw [ln_96]; decide⟩ rt_96_0 dX3_init_95 rfl ?_
  refine cz_iinc (y := 1) F dX3_init_96 rfl 0 rfl rfl (by decide) rfl ?_
  refine cz_goto F dX3_init_99 rfl ?_
  refine cz_iload_n F dX3_init_77 rfl rfl 0 rfl ?_
  refine cz_bipush F dX3_init_78 (by decide) rfl ?_
  refine cz_ge_n F (by decide) dX3_init_80 rfl rfl ?_
  refine cz_aload_n F dX3_init_83 rfl rfl 1 rfl ?_
  refine cz_getR (h := 87) (r := 96) F fl_341 kd_87 (by decide) rt_87_1 rfl dX3_init_84 rfl ?_
  refine cz_iload_n F dX3_init_87 rfl rfl 0 rfl ?_
  refine cz_new (N := 110) (ci := 7) F tyX7 (by decide) rfl inq_7 tyX7_ok w_314 w_315 w_76 kd_110 (fun j hj b => nf_7 (b := b) j hj) rfl rfl rfl (Nat.le_of_ble_eq_true rfl) (Nat.le_of_ble_eq_true rfl) dX3_init_88 rfl ?_
  refine cz_dup F rfl dX3_init_91 rfl ?_
  refine cz_call (h := 110) (As := []) (st := [.ref (g.2.2.1 + 110), .int (i3 1), .ref (g.2.2.1 + 96)]) F (k_X7_init_110 l g) ci_X7_init w_316 ⟨rfl, rfl, Nat.le_of_ble_eq_true rfl, Nat.le_of_ble_eq_true rfl⟩ rfl (Nat.le_of_ble_eq_true rfl) dX3_init_92 rfl rfl ⟨Nat.le_of_ble_eq_true rfl, Nat.le_of_ble_eq_true rfl⟩ rfl ?_
  refine cz_aast (a := 96) (h := 110) (r := 2) (cj := 7) (i := 1) F (by decide) kd_96 (by decide) kd_110 (by decide) rfl rfl ⟨by decide, by rw [ln_96]; decide⟩ rt_96_1 dX3_init_95 rfl ?_
  refine cz_iinc (y := 2) F dX3_init_96 rfl 0 rfl rfl (by decide) rfl ?_
  refine cz_goto F dX3_init_99 rfl ?_
  refine cz_iload_n F dX3_init_77 rfl rfl 0 rfl ?_
  refine cz_bipush F dX3_init_78 (by decide) rfl ?_
  refine cz_ge_n F (by decide) dX3_init_80 rfl rfl ?_
  refine cz_aload_n F dX3_init_83 rfl rfl 1 rfl ?_
  refine cz_getR (h := 87) (r := 96) F fl_341 kd_87 (by decide) rt_87_1 rfl dX3_init_84 rfl ?_
  refine cz_iload_n F dX3_init_87 rfl rfl 0 rfl ?_
  refine cz_new (N := 118) (ci := 7) F tyX7 (by decide) rfl inq_7 tyX7_ok w_314 w_315 w_76 kd_118 (fun j hj b => nf_7 (b := b) j hj) rfl rfl rfl (Nat.le_of_ble_eq_true rfl) (Nat.le_of_ble_eq_true rfl) dX3_init_88 rfl ?_
  refine cz_dup F rfl dX3_init_91 rfl ?_
  refine cz_call (h := 118) (As := []) (st := [.ref (g.2.2.1 + 118), .int (i3 2), .ref (g.2.2.1 + 96)]) F (k_X7_init_118 l g) ci_X7_init w_316 ⟨rfl, rfl, Nat.le_of_ble_eq_true rfl, Nat.le_of_ble_eq_true rfl⟩ rfl (Nat.le_of_ble_eq_true rfl) dX3_init_92 rfl rfl ⟨Nat.le_of_ble_eq_true rfl, Nat.le_of_ble_eq_true rfl⟩ rfl ?_
  refine cz_aast (a := 96) (h := 118) (r := 2) (cj := 7) (i := 2) F (by decide) kd_96 (by decide) kd_118 (by decide) rfl rfl ⟨by decide, by rw [ln_96]; decide⟩ rt_96_2 dX3_init_95 rfl ?_
  refine cz_iinc (y := 3) F dX3_init_96 rfl 0 rfl rfl (by decide) rfl ?_
  refine cz_goto F dX3_init_99 rfl ?_
  refine cz_iload_n F dX3_init_77 rfl rfl 0 rfl ?_
  refine cz_bipush F dX3_init_78 (by decide) rfl ?_
  refine cz_ge_n F (by decide) dX3_init_80 rfl rfl ?_
  refine cz_aload_n F dX3_init_83 rfl rfl 1 rfl ?_
  refine cz_getR (h := 87) (r := 96) F fl_341 kd_87 (by decide) rt_87_1 rfl dX3_init_84 rfl ?_
  refine cz_iload_n F dX3_init_87 rfl rfl 0 rfl ?_
  refine cz_new (N := 126) (ci := 7) F tyX7 (by decide) rfl inq_7 tyX7_ok w_314 w_315 w_76 kd_126 (fun j hj b => nf_7 (b := b) j hj) rfl rfl rfl (Nat.le_of_ble_eq_true rfl) (Nat.le_of_ble_eq_true rfl) dX3_init_88 rfl ?_
  refine cz_dup F rfl dX3_init_91 rfl ?_
  refine cz_call (h := 126) (As := []) (st := [.ref (g.2.2.1 + 126), .int (i3 3), .ref (g.2.2.1 + 96)]) F (k_X7_init_126 l g) ci_X7_init w_316 ⟨rfl, rfl, Nat.le_of_ble_eq_true rfl, Nat.le_of_ble_eq_true rfl⟩ rfl (Nat.le_of_ble_eq_true rfl) dX3_init_92 rfl rfl ⟨Nat.le_of_ble_eq_true rfl, Nat.le_of_ble_eq_true rfl⟩ rfl ?_
  refine cz_aast (a := 96) (h := 126) (r := 2) (cj := 7) (i := 3) F (by decide) kd_96 (by decide) kd_126 (by decide) rfl rfl ⟨by decide, by rw [ln_96]; decide⟩ rt_96_3 dX3_init_95 rfl ?_
  refine cz_iinc (y := 4) F dX3_init_96 rfl 0 rfl rfl (by decide) rfl ?_
  refine cz_goto F dX3_init_99 rfl ?_
  refine cz_iload_n F dX3_init_77 rfl rfl 0 rfl ?_
  refine cz_bipush F dX3_init_78 (by decide) rfl ?_
  refine cz_ge_n F (by decide) dX3_init_80 rfl rfl ?_
  refine cz_aload_n F dX3_init_83 rfl rfl 1 rfl ?_
  refine cz_getR (h := 87) (r := 96) F fl_341 kd_87 (by decide) rt_87_1 rfl dX3_init_84 rfl ?_
  refine cz_iload_n F dX3_init_87 rfl rfl 0 rfl ?_
  refine cz_new (N := 134) (ci := 7) F tyX7 (by decide) rfl inq_7 tyX7_ok w_314 w_315 w_76 kd_134 (fun j hj b => nf_7 (b := b) j hj) rfl rfl rfl (Nat.le_of_ble_eq_true rfl) (Nat.le_of_ble_eq_true rfl) dX3_init_88 rfl ?_
  refine cz_dup F rfl dX3_init_91 rfl ?_
  refine cz_call (h := 134) (As := []) (st := [.ref (g.2.2.1 + 134), .int (i3 4), .ref (g.2.2.1 + 96)]) F (k_X7_init_134 l g) ci_X7_init w_316 ⟨rfl, rfl, Nat.le_of_ble_eq_true rfl, Nat.le_of_ble_eq_true rfl⟩ rfl (Nat.le_of_ble_eq_true rfl) dX3_init_92 rfl rfl ⟨Nat.le_of_ble_eq_true rfl, Nat.le_of_ble_eq_true rfl⟩ rfl ?_
  refine cz_aast (a := 96) (h := 134) (r := 2) (cj := 7) (i := 4) F (by decide) kd_96 (by decide) kd_134 (by decide) rfl rfl ⟨by decide, by rw [ln_96]; decide⟩ rt_96_4 dX3_init_95 rfl ?_
  refine cz_iinc (y := 5) F dX3_init_96 rfl 0 rfl rfl (by decide) rfl ?_
  refine cz_goto F dX3_init_99 rfl ?_
  refine cz_iload_n F dX3_init_77 rfl rfl 0 rfl ?_
  refine cz_bipush F dX3_init_78 (by decide) rfl ?_
  refine cz_ge_n F (by decide) dX3_init_80 rfl rfl ?_
  refine cz_aload_n F dX3_init_83 rfl rfl 1 rfl ?_
  refine cz_getR (h := 87) (r := 96) F fl_341 kd_87 (by decide) rt_87_1 rfl dX3_init_84 rfl ?_
  refine cz_iload_n F dX3_init_87 rfl rfl 0 rfl ?_
  refine cz_new (N := 142) (ci := 7) F tyX7 (by decide) rfl inq_7 tyX7_ok w_314 w_315 w_76 kd_142 (fun j hj b => nf_7 (b := b) j hj) rfl rfl rfl (Nat.le_of_ble_eq_true rfl) (Nat.le_of_ble_eq_true rfl) dX3_init_88 rfl ?_
  refine cz_dup F rfl dX3_init_91 rfl ?_
  refine cz_call (h := 142) (As := []) (st := [.ref (g.2.2.1 + 142), .int (i3 5), .ref (g.2.2.1 + 96)]) F (k_X7_init_142 l g) ci_X7_init w_316 ⟨rfl, rfl, Nat.le_of_ble_eq_true rfl, Nat.le_of_ble_eq_true rfl⟩ rfl (Nat.le_of_ble_eq_true rfl) dX3_init_92 rfl rfl ⟨Nat.le_of_ble_eq_true rfl, Nat.le_of_ble_eq_true rfl⟩ rfl ?_
  refine cz_aast (a := 96) (h := 142) (r := 2) (cj := 7) (i := 5) F (by decide) kd_96 (by decide) kd_142 (by decide) rfl rfl ⟨by decide, by rw [ln_96]; decide⟩ rt_96_5 dX3_init_95 rfl ?_
  refine cz_iinc (y := 6) F dX3_init_96 rfl 0 rfl rfl (by decide) rfl ?_
  refine cz_goto F dX3_init_99 rfl ?_
  refine cz_iload_n F dX3_init_77 rfl rfl 0 rfl ?_
  refine cz_bipush F dX3_init_78 (by decide) rfl ?_
  refine cz_ge_n F (by decide) dX3_init_80 rfl rfl ?_
  refine cz_aload_n F dX3_init_83 rfl rfl 1 rfl ?_
  refine cz_getR (h := 87) (r := 96) F fl_341 kd_87 (by decide) rt_87_1 rfl dX3_init_84 rfl ?_
  refine cz_iload_n F dX3_init_87 rfl rfl 0 rfl ?_
  refine cz_new (N := 150) (ci := 7) F tyX7 (by decide) rfl inq_7 tyX7_ok w_314 w_315 w_76 kd_150 (fun j hj b => nf_7 (b := b) j hj) rfl rfl rfl (Nat.le_of_ble_eq_true rfl) (Nat.le_of_ble_eq_true rfl) dX3_init_88 rfl ?_
  refine cz_dup F rfl dX3_init_91 rfl ?_
  refine cz_call (h := 150) (As := []) (st := [.ref (g.2.2.1 + 150), .int (i3 6), .ref (g.2.2.1 + 96)]) F (k_X7_init_150 l g) ci_X7_init w_316 ⟨rfl, rfl, Nat.le_of_ble_eq_true rfl, Nat.le_of_ble_eq_true rfl⟩ rfl (Nat.le_of_ble_eq_true rfl) dX3_init_92 rfl rfl ⟨Nat.le_of_ble_eq_true rfl, Nat.le_of_ble_eq_true rfl⟩ rfl ?_
  refine cz_aast (a := 96) (h := 150) (r := 2) (cj := 7) (i := 6) F (by decide) kd_96 (by decide) kd_150 (by decide) rfl rfl ⟨by decide, by rw [ln_96]; decide⟩ rt_96_6 dX3_init_95 rfl ?_
  refine cz_iinc (y := 7) F dX3_init_96 rfl 0 rfl rfl (by decide) rfl ?_
  refine cz_goto F dX3_init_99 rfl ?_
  refine cz_iload_n F dX3_init_77 rfl rfl 0 rfl ?_
  refine cz_bipush F dX3_init_78 (by decide) rfl ?_
  refine cz_ge_n F (by decide) dX3_init_80 rfl rfl ?_
  refine cz_aload_n F dX3_init_83 rfl rfl 1 rfl ?_
  refine cz_getR (h := 87) (r := 96) F fl_341 kd_87 (by decide) rt_87_1 rfl dX3_init_84 rfl ?_
  refine cz_iload_n F dX3_init_87 rfl rfl 0 rfl ?_
  refine cz_new (N := 158) (ci := 7) F tyX7 (by decide) rfl inq_7 tyX7_ok w_314 w_315 w_76 kd_158 (fun j hj b => nf_7 (b := b) j hj) rfl rfl rfl (Nat.le_of_ble_eq_true rfl) (Nat.le_of_ble_eq_true rfl) dX3_init_88 rfl ?_
  refine cz_dup F rfl dX3_init_91 rfl ?_
  refine cz_call (h := 158) (As := []) (st := [.ref (g.2.2.1 + 158), .int (i3 7), .ref (g.2.2.1 + 96)]) F (k_X7_init_158 l g) ci_X7_init w_316 ⟨rfl, rfl, Nat.le_of_ble_eq_true rfl, Nat.le_of_ble_eq_true rfl⟩ rfl (Nat.le_of_ble_eq_true rfl) dX3_init_92 rfl rfl ⟨Nat.le_of_ble_eq_true rfl, Nat.le_of_ble_eq_true rfl⟩ rfl ?_
  refine cz_aast (a := 96) (h := 158) (r := 2) (cj := 7) (i := 7) F (by decide) kd_96 (by decide) kd_158 (by decide) rfl rfl ⟨by decide, by rw [ln_96]; decide⟩ rt_96_7 dX3_init_95 rfl ?_
  refine cz_iinc (y := 8) F dX3_init_96 rfl 0 rfl rfl (by decide) rfl ?_
  refine cz_goto F dX3_init_99 rfl ?_
  refine cz_iload_n F dX3_init_77 rfl rfl 0 rfl ?_
  refine cz_bipush F dX3_init_78 (by decide) rfl ?_
  refine cz_ge_n F (by decide) dX3_init_80 rfl rfl ?_
  refine cz_aload_n F dX3_init_83 rfl rfl 1 rfl ?_
  refine cz_getR (h := 87) (r := 96) F fl_341 kd_87 (by decide) rt_87_1 rfl dX3_init_84 rfl ?_
  refine cz_iload_n F dX3_init_87 rfl rfl 0 rfl ?_
  refine cz_new (N := 166) (ci := 7) F tyX7 (by decide) rfl inq_7 tyX7_ok w_314 w_315 w_76 kd_166 (fun j hj b => nf_7 (b := b) j hj) rfl rfl rfl (Nat.le_of_ble_eq_true rfl) (Nat.le_of_ble_eq_true rfl) dX3_init_88 rfl ?_
  refine cz_dup F rfl dX3_init_91 rfl ?_
  refine cz_call (h := 166) (As := []) (st := [.ref (g.2.2.1 + 166), .int (i3 8), .ref (g.2.2.1 + 96)]) F (k_X7_init_166 l g) ci_X7_init w_316 ⟨rfl, rfl, Nat.le_of_ble_eq_true rfl, Nat.le_of_ble_eq_true rfl⟩ rfl (Nat.le_of_ble_eq_true rfl) dX3_init_92 rfl rfl ⟨Nat.le_of_ble_eq_true rfl, Nat.le_of_ble_eq_true rfl⟩ rfl ?_
  refine cz_aast (a := 96) (h := 166) (r := 2) (cj := 7) (i := 8) F (by decide) kd_96 (by decide) kd_166 (by decide) rfl rfl ⟨by decide, by rw [ln_96]; decide⟩ rt_96_8 dX3_init_95 rfl ?_
  refine cz_iinc (y := 9) F dX3_init_96 rfl 0 rfl rfl (by decide) rfl ?_
  refine cz_goto F dX3_init_99 rfl ?_
  refine cz_iload_n F dX3_init_77 rfl rfl 0 rfl ?_
  refine cz_bipush F dX3_init_78 (by decide) rfl ?_
  refine cz_ge_y F (by decide) dX3_init_80 rfl ?_
  exact cz_vret F hr dX3_init_102
abbrev rm_X5_init : Room := { frames := 1, cells := 2, slots := 10, locals := 12 }
theorem ci_X5_init : CI yX5_init cX5_init 1 0 := ⟨w_371, w_77, w_372, rfl, by decide +kernel, by decide +kernel, by decide +kernel⟩
def fI_X5_init_174 (I : Msk) : Msk := (stI (stI I 174 0) 174 1)
def fM_X5_init_174 (M : Mem) : Mem := (zM (zM M 175) 176)
set_option maxRecDepth 100000 in
set_option maxHeartbeats 4000000 in
theorem k_X5_init_174 (l : Launch) (g : En) {I : Msk} {M : Mem} : Met l yX5_init (WS yX5_init cX5_init 1 none) rm_X5_init (va_Pc [.ref (g.2.2.1 + 174)] (RqC g 175 I M)) (va_Qv (S := Unit) (fun _ => True) (fun _ t => RqC g 177 (fI_X5_init_174 I) (fM_X5_init_174 M) t) (aB g)) 2 10 (aB g) := by
  refine met_C (plainFor_of_name rfl) (Nat.le_of_ble_eq_true rfl) ?_
  intro p e s m args below meth c F hr hname
  show CZ g p l e rm_X5_init s m args below meth c 1 _ 175 I M 0 0 0 [(0, .ref (g.2.2.1 + 174))] []
  refine cz_aload_n F dX5_init_0 rfl rfl 0 rfl ?_
  refine cz_obj F w_373 w_90 w_91 (Nat.le_of_ble_eq_true rfl) (Nat.le_of_ble_eq_true rfl) dX5_init_1 rfl ?_
  refine cz_aload_n F dX5_init_4 rfl rfl 0 rfl ?_
  refine cz_iconst F dX5_init_5 rfl ?_
  refine cz_newint F kd_175 ln_175 (by decide) (by decide) wa_int rfl rfl rfl (Nat.le_of_ble_eq_true rfl) (Nat.le_of_ble_eq_true rfl) dX5_init_6 rfl ?_
  refine cz_putR (h := 174) (r := 175) F fx_374 (fun _ => hname) rfl kd_174 (by decide) rt_174_0 (fun _ => rfl) (fun _ => rfl) dX5_init_8 rfl ?_
  refine cz_aload_n F dX5_init_11 rfl rfl 0 rfl ?_
  refine cz_iconst F dX5_init_12 rfl ?_
  refine cz_newint F kd_176 ln_176 (by decide) (by decide) wa_int rfl rfl rfl (Nat.le_of_ble_eq_true rfl) (Nat.le_of_ble_eq_true rfl) dX5_init_13 rfl ?_
  refine cz_putR (h := 174) (r := 176) F fx_376 (fun _ => hname) rfl kd_174 (by decide) rt_174_1 (fun _ => rfl) (fun _ => rfl) dX5_init_15 rfl ?_
  exact cz_vret F hr dX5_init_18
abbrev rm_X6_init : Room := { frames := 1, cells := 2, slots := 10, locals := 12 }
theorem ci_X6_init : CI yX6_init cX6_init 1 0 := ⟨w_394, w_78, w_395, rfl, by decide +kernel, by decide +kernel, by decide +kernel⟩
def fI_X6_init_177 (I : Msk) : Msk := (stI (stI I 177 0) 177 2)
def fM_X6_init_177 (M : Mem) : Mem := (zM (zM M 178) 179)
set_option maxRecDepth 100000 in
set_option maxHeartbeats 4000000 in
theorem k_X6_init_177 (l : Launch) (g : En) {I : Msk} {M : Mem} : Met l yX6_init (WS yX6_init cX6_init 1 none) rm_X6_init (va_Pc [.ref (g.2.2.1 + 177)] (RqC g 178 I M)) (va_Qv (S := Unit) (fun _ => True) (fun _ t => RqC g 180 (fI_X6_init_177 I) (fM_X6_init_177 M) t) (aB g)) 2 10 (aB g) := by
  refine met_C (plainFor_of_name rfl) (Nat.le_of_ble_eq_true rfl) ?_
  intro p e s m args below meth c F hr hname
  show CZ g p l e rm_X6_init s m args below meth c 1 _ 178 I M 0 0 0 [(0, .ref (g.2.2.1 + 177))] []
  refine cz_aload_n F dX6_init_0 rfl rfl 0 rfl ?_
  refine cz_obj F w_396 w_90 w_91 (Nat.le_of_ble_eq_true rfl) (Nat.le_of_ble_eq_true rfl) dX6_init_1 rfl ?_
  refine cz_aload_n F dX6_init_4 rfl rfl 0 rfl ?_
  refine cz_iconst F dX6_init_5 rfl ?_
  refine cz_newlong F kd_178 ln_178 (by decide) (by decide) wa_long rfl rfl rfl (Nat.le_of_ble_eq_true rfl) (Nat.le_of_ble_eq_true rfl) dX6_init_6 rfl ?_
  refine cz_putR (h := 177) (r := 178) F fx_397 (fun _ => hname) rfl kd_177 (by decide) rt_177_0 (fun _ => rfl) (fun _ => rfl) dX6_init_8 rfl ?_
  refine cz_aload_n F dX6_init_11 rfl rfl 0 rfl ?_
  refine cz_iconst F dX6_init_12 rfl ?_
  refine cz_newlong F kd_179 ln_179 (by decide) (by decide) wa_long rfl rfl rfl (Nat.le_of_ble_eq_true rfl) (Nat.le_of_ble_eq_true rfl) dX6_init_13 rfl ?_
  refine cz_putR (h := 177) (r := 179) F fx_401 (fun _ => hname) rfl kd_177 (by decide) rt_177_2 (fun _ => rfl) (fun _ => rfl) dX6_init_15 rfl ?_
  exact cz_vret F hr dX6_init_18
abbrev rm_X9_init : Room := { frames := 1, cells := 1, slots := 40, locals := 12 }
theorem ci_X9_init : CI yX9_init cX9_init 1 0 := ⟨w_427, w_79, w_428, rfl, by decide +kernel, by decide +kernel, by decide +kernel⟩
def fI_X9_init_181 (I : Msk) : Msk := (stI I 181 0)
def fM_X9_init_181 (M : Mem) : Mem := (st2 (zM M 182) 181 1 (-1))
set_option maxRecDepth 100000 in
set_option maxHeartbeats 4000000 in
theorem k_X9_init_181 (l : Launch) (g : En) {I : Msk} {M : Mem} : Met l yX9_init (WS yX9_init cX9_init 1 none) rm_X9_init (va_Pc [.ref (g.2.2.1 + 181)] (RqC g 182 I M)) (va_Qv (S := Unit) (fun _ => True) (fun _ t => RqC g 183 (fI_X9_init_181 I) (fM_X9_init_181 M) t) (aB g)) 1 40 (aB g) := by
  refine met_C (plainFor_of_name rfl) (Nat.le_of_ble_eq_true rfl) ?_
  intro p e s m args below meth c F hr hname
  show CZ g p l e rm_X9_init s m args below meth c 1 _ 182 I M 0 0 0 [(0, .ref (g.2.2.1 + 181))] []
  refine cz_aload_n F dX9_init_0 rfl rfl 0 rfl ?_
  refine cz_obj F w_429 w_90 w_91 (Nat.le_of_ble_eq_true rfl) (Nat.le_of_ble_eq_true rfl) dX9_init_1 rfl ?_
  refine cz_aload_n F dX9_init_4 rfl rfl 0 rfl ?_
  refine cz_bipush F dX9_init_5 (by decide) rfl ?_
  refine cz_newint F kd_182 ln_182 (by decide) (by decide) wa_int rfl rfl rfl (Nat.le_of_ble_eq_true rfl) (Nat.le_of_ble_eq_true rfl) dX9_init_7 rfl ?_
  refine cz_putR (h := 181) (r := 182) F fx_430 (fun _ => hname) rfl kd_181 (by decide) rt_181_0 (fun _ => rfl) (fun _ => rfl) dX9_init_9 rfl ?_
  refine cz_aload_n F dX9_init_12 rfl rfl 0 rfl ?_
  refine cz_iconst F dX9_init_13 rfl ?_
  refine cz_putI (h := 181) (w := (-1)) F fx_433 (fun _ => hname) rfl kd_181 (by decide) dX9_init_14 rfl ?_
  exact cz_vret F hr dX9_init_17
def fI_X9_init_183 (I : Msk) : Msk := (stI I 183 0)
def fM_X9_init_183 (M : Mem) : Mem := (st2 (zM M 184) 183 1 (-1))
set_option maxRecDepth 100000 in
set_option maxHeartbeats 4000000 in
theorem k_X9_init_183 (l : Launch) (g : En) {I : Msk} {M : Mem} : Met l yX9_init (WS yX9_init cX9_init 1 none) rm_X9_init (va_Pc [.ref (g.2.2.1 + 183)] (RqC g 184 I M)) (va_Qv (S := Unit) (fun _ => True) (fun _ t => RqC g 185 (fI_X9_init_183 I) (fM_X9_init_183 M) t) (aB g)) 1 40 (aB g) := by
  refine met_C (plainFor_of_name rfl) (Nat.le_of_ble_eq_true rfl) ?_
  intro p e s m args below meth c F hr hname
  show CZ g p l e rm_X9_init s m args below meth c 1 _ 184 I M 0 0 0 [(0, .ref (g.2.2.1 + 183))] []
  refine cz_aload_n F dX9_init_0 rfl rfl 0 rfl ?_
  refine cz_obj F w_429 w_90 w_91 (Nat.le_of_ble_eq_true rfl) (Nat.le_of_ble_eq_true rfl) dX9_init_1 rfl ?_
  refine cz_aload_n F dX9_init_4 rfl rfl 0 rfl ?_
  refine cz_bipush F dX9_init_5 (by decide) rfl ?_
  refine cz_newint F kd_184 ln_184 (by decide) (by decide) wa_int rfl rfl rfl (Nat.le_of_ble_eq_true rfl) (Nat.le_of_ble_eq_true rfl) dX9_init_7 rfl ?_
  refine cz_putR (h := 183) (r := 184) F fx_430 (fun _ => hname) rfl kd_183 (by decide) rt_183_0 (fun _ => rfl) (fun _ => rfl) dX9_init_9 rfl ?_
  refine cz_aload_n F dX9_init_12 rfl rfl 0 rfl ?_
  refine cz_iconst F dX9_init_13 rfl ?_
  refine cz_putI (h := 183) (w := (-1)) F fx_433 (fun _ => hname) rfl kd_183 (by decide) dX9_init_14 rfl ?_
  exact cz_vret F hr dX9_init_17
def fI_X9_init_185 (I : Msk) : Msk := (stI I 185 0)
def fM_X9_init_185 (M : Mem) : Mem := (st2 (zM M 186) 185 1 (-1))
set_option maxRecDepth 100000 in
set_option maxHeartbeats 4000000 in
theorem k_X9_init_185 (l : Launch) (g : En) {I : Msk} {M : Mem} : Met l yX9_init (WS yX9_init cX9_init 1 none) rm_X9_init (va_Pc [.ref (g.2.2.1 + 185)] (RqC g 186 I M)) (va_Qv (S := Unit) (fun _ => True) (fun _ t => RqC g 187 (fI_X9_init_185 I) (fM_X9_init_185 M) t) (aB g)) 1 40 (aB g) := by
  refine met_C (plainFor_of_name rfl) (Nat.le_of_ble_eq_true rfl) ?_
  intro p e s m args below meth c F hr hname
  show CZ g p l e rm_X9_init s m args below meth c 1 _ 186 I M 0 0 0 [(0, .ref (g.2.2.1 + 185))] []
  refine cz_aload_n F dX9_init_0 rfl rfl 0 rfl ?_
  refine cz_obj F w_429 w_90 w_91 (Nat.le_of_ble_eq_true rfl) (Nat.le_of_ble_eq_true rfl) dX9_init_1 rfl ?_
  refine cz_aload_n F dX9_init_4 rfl rfl 0 rfl ?_
  refine cz_bipush F dX9_init_5 (by decide) rfl ?_
  refine cz_newint F kd_186 ln_186 (by decide) (by decide) wa_int rfl rfl rfl (Nat.le_of_ble_eq_true rfl) (Nat.le_of_ble_eq_true rfl) dX9_init_7 rfl ?_
  refine cz_putR (h := 185) (r := 186) F fx_430 (fun _ => hname) rfl kd_185 (by decide) rt_185_0 (fun _ => rfl) (fun _ => rfl) dX9_init_9 rfl ?_
  refine cz_aload_n F dX9_init_12 rfl rfl 0 rfl ?_
  refine cz_iconst F dX9_init_13 rfl ?_
  refine cz_putI (h := 185) (w := (-1)) F fx_433 (fun _ => hname) rfl kd_185 (by decide) dX9_init_14 rfl ?_
  exact cz_vret F hr dX9_init_17
def fI_X9_init_187 (I : Msk) : Msk := (stI I 187 0)
def fM_X9_init_187 (M : Mem) : Mem := (st2 (zM M 188) 187 1 (-1))
set_option maxRecDepth 100000 in
set_option maxHeartbeats 4000000 in
theorem k_X9_init_187 (l : Launch) (g : En) {I : Msk} {M : Mem} : Met l yX9_init (WS yX9_init cX9_init 1 none) rm_X9_init (va_Pc [.ref (g.2.2.1 + 187)] (RqC g 188 I M)) (va_Qv (S := Unit) (fun _ => True) (fun _ t => RqC g 189 (fI_X9_init_187 I) (fM_X9_init_187 M) t) (aB g)) 1 40 (aB g) := by
  refine met_C (plainFor_of_name rfl) (Nat.le_of_ble_eq_true rfl) ?_
  intro p e s m args below meth c F hr hname
  show CZ g p l e rm_X9_init s m args below meth c 1 _ 188 I M 0 0 0 [(0, .ref (g.2.2.1 + 187))] []
  refine cz_aload_n F dX9_init_0 rfl rfl 0 rfl ?_
  refine cz_obj F w_429 w_90 w_91 (Nat.le_of_ble_eq_true rfl) (Nat.le_of_ble_eq_true rfl) dX9_init_1 rfl ?_
  refine cz_aload_n F dX9_init_4 rfl rfl 0 rfl ?_
  refine cz_bipush F dX9_init_5 (by decide) rfl ?_
  refine cz_newint F kd_188 ln_188 (by decide) (by decide) wa_int rfl rfl rfl (Nat.le_of_ble_eq_true rfl) (Nat.le_of_ble_eq_true rfl) dX9_init_7 rfl ?_
  refine cz_putR (h := 187) (r := 188) F fx_430 (fun _ => hname) rfl kd_187 (by decide) rt_187_0 (fun _ => rfl) (fun _ => rfl) dX9_init_9 rfl ?_
  refine cz_aload_n F dX9_init_12 rfl rfl 0 rfl ?_
  refine cz_iconst F dX9_init_13 rfl ?_
  refine cz_putI (h := 187) (w := (-1)) F fx_433 (fun _ => hname) rfl kd_187 (by decide) dX9_init_14 rfl ?_
  exact cz_vret F hr dX9_init_17
abbrev rm_X11_init : Room := { frames := 4, cells := 188, slots := 2050, locals := 74 }
theorem ci_X11_init : CI yX11_init cX11_init 2 0 := ⟨w_87, w_67, w_88, rfl, by decide +kernel, by decide +kernel, by decide +kernel⟩
def fI_X11_init_0 (I : Msk) : Msk := (stI (fI_X9_init_187 (zI (stI (fI_X9_init_185 (zI (stI (fI_X9_init_183 (zI (stI (fI_X9_init_181 (zI (stI (zI (stI (fI_X6_init_177 (zI (stI (fI_X5_init_174 (zI (stI (fI_X3_init_87 (zI (stI (zI (stI (fI_X10_init_73 (zI (stI (stI (stI (stI (stI (fI_X8_init_48 (zI (stI (fI_X8_init_27 (zI (stI (fI_X1_init_14 (zI (stI (fI_X1_init_1 (zI I 1)) 0 0) 14)) 0 1) 27)) 0 3) 48)) 0 4) 0 6) 0 7) 0 8) 0 9) 73)) 0 10) 86) 0 11) 87)) 0 12) 174)) 0 15) 177)) 0 16) 180) 0 17) 181)) 180 (ix 0)) 183)) 180 (ix 1)) 185)) 180 (ix 2)) 187)) 180 (ix 3))
def fM_X11_init_0 (M : Mem) : Mem := (fM_X9_init_187 (zM (fM_X9_init_185 (zM (fM_X9_init_183 (zM (fM_X9_init_181 (zM (flM (zM (fM_X6_init_177 (zM (fM_X5_init_174 (zM (fM_X3_init_87 (zM (st2 (zM (fM_X10_init_73 (zM (zM (zM (zM (zM (st2 (fM_X8_init_48 (zM (fM_X8_init_27 (zM (fM_X1_init_14 (zM (fM_X1_init_1 (zM M 1)) 14)) 27)) 48)) 0 5 1) 69) 70) 71) 72) 73)) 86) 86 1 1) 87)) 174)) 177)) 180) 69 5 (-1)) 181)) 183)) 185)) 187))
set_option maxRecDepth 100000 in
set_option maxHeartbeats 4000000 in
theorem k_X11_init_0 (l : Launch) (g : En) {I : Msk} {M : Mem} : Met l yX11_init (WS yX11_init cX11_init 2 none) rm_X11_init (va_Pc [.ref (g.2.2.1 + 0)] (RqC g 1 I M)) (va_Qv (S := Unit) (fun _ => True) (fun _ t => RqC g 189 (fI_X11_init_0 I) (fM_X11_init_0 M) t) (aB g)) 188 2050 (aB g) := by
  refine met_C (plainFor_of_name rfl) (Nat.le_of_ble_eq_true rfl) ?_
  intro p e s m args below meth c F hr hname
  show CZ g p l e rm_X11_init s m args below meth c 2 _ 1 I M 0 0 0 [(0, .ref (g.2.2.1 + 0))] []
  refine cz_aload_n F dX11_init_0 rfl rfl 0 rfl ?_
  refine cz_obj F w_89 w_90 w_91 (Nat.le_of_ble_eq_true rfl) (Nat.le_of_ble_eq_true rfl) dX11_init_1 rfl ?_
  refine cz_aload_n F dX11_init_4 rfl rfl 0 rfl ?_
  refine cz_new (N := 1) (ci := 1) F tyX1 (by decide) rfl inq_1 tyX1_ok w_92 w_93 w_68 kd_1 (fun j hj b => nf_1 (b := b) j hj) rfl rfl rfl (Nat.le_of_ble_eq_true rfl) (Nat.le_of_ble_eq_true rfl) dX11_init_5 rfl ?_
  refine cz_dup F rfl dX11_init_8 rfl ?_
  refine cz_call (h := 1) (As := []) (st := [.ref (g.2.2.1 + 1), .ref (g.2.2.1 + 0)]) F (k_X1_init_1 l g) ci_X1_init w_94 ⟨rfl, rfl, Nat.le_of_ble_eq_true rfl, Nat.le_of_ble_eq_true rfl⟩ rfl (Nat.le_of_ble_eq_true rfl) dX11_init_9 rfl rfl ⟨Nat.le_of_ble_eq_true rfl, Nat.le_of_ble_eq_true rfl⟩ rfl ?_
  refine cz_putR (h := 0) (r := 1) F fx_445 (fun _ => hname) rfl kd_0 (by decide) rt_0_0 (fun _ => rfl) (fun _ => rfl) dX11_init_12 rfl ?_
  refine cz_aload_n F dX11_init_15 rfl rfl 0 rfl ?_
  refine cz_new (N := 14) (ci := 1) F tyX1 (by decide) rfl inq_1 tyX1_ok w_92 w_93 w_68 kd_14 (fun j hj b => nf_1 (b := b) j hj) rfl rfl rfl (Nat.le_of_ble_eq_true rfl) (Nat.le_of_ble_eq_true rfl) dX11_init_16 rfl ?_
  refine cz_dup F rfl dX11_init_19 rfl ?_
  refine cz_call (h := 14) (As := []) (st := [.ref (g.2.2.1 + 14), .ref (g.2.2.1 + 0)]) F (k_X1_init_14 l g) ci_X1_init w_94 ⟨rfl, rfl, Nat.le_of_ble_eq_true rfl, Nat.le_of_ble_eq_true rfl⟩ rfl (Nat.le_of_ble_eq_true rfl) dX11_init_20 rfl rfl ⟨Nat.le_of_ble_eq_true rfl, Nat.le_of_ble_eq_true rfl⟩ rfl ?_
  refine cz_putR (h := 0) (r := 14) F fx_446 (fun _ => hname) rfl kd_0 (by decide) rt_0_1 (fun _ => rfl) (fun _ => rfl) dX11_init_23 rfl ?_
  refine cz_aload_n F dX11_init_26 rfl rfl 0 rfl ?_
  refine cz_new (N := 27) (ci := 8) F tyX8 (by decide) rfl inq_8 tyX8_ok w_185 w_186 w_72 kd_27 (fun j hj b => nf_8 (b := b) j hj) rfl rfl rfl (Nat.le_of_ble_eq_true rfl) (Nat.le_of_ble_eq_true rfl) dX11_init_27 rfl ?_
  refine cz_dup F rfl dX11_init_30 rfl ?_
  refine cz_callN (h := 27) (As := []) (st := [.ref (g.2.2.1 + 27), .ref (g.2.2.1 + 0)]) (host := "DuesOnRungs") F (k_X8_init_27 l g) ci_X8_init (List.mem_of_getElem? (i := 1) rfl) ⟨rfl, rfl, Nat.le_of_ble_eq_true rfl, Nat.le_of_ble_eq_true rfl⟩ rfl (Nat.le_of_ble_eq_true rfl) dX11_init_31 rfl rfl ⟨Nat.le_of_ble_eq_true rfl, Nat.le_of_ble_eq_true rfl⟩ rfl ?_
  refine cz_putR (h := 0) (r := 27) F fx_448 (fun _ => hname) rfl kd_0 (by decide) rt_0_3 (fun _ => rfl) (fun _ => rfl) dX11_init_34 rfl ?_
  refine cz_aload_n F dX11_init_37 rfl rfl 0 rfl ?_
  refine cz_new (N := 48) (ci := 8) F tyX8 (by decide) rfl inq_8 tyX8_ok w_185 w_186 w_72 kd_48 (fun j hj b => nf_8 (b := b) j hj) rfl rfl rfl (Nat.le_of_ble_eq_true rfl) (Nat.le_of_ble_eq_true rfl) dX11_init_38 rfl ?_
  refine cz_dup F rfl dX11_init_41 rfl ?_
  refine cz_callN (h := 48) (As := []) (st := [.ref (g.2.2.1 + 48), .ref (g.2.2.1 + 0)]) (host := "DuesOnRungs") F (k_X8_init_48 l g) ci_X8_init (List.mem_of_getElem? (i := 1) rfl) ⟨rfl, rfl, Nat.le_of_ble_eq_true rfl, Nat.le_of_ble_eq_true rfl⟩ rfl (Nat.le_of_ble_eq_true rfl) dX11_init_42 rfl rfl ⟨Nat.le_of_ble_eq_true rfl, Nat.le_of_ble_eq_true rfl⟩ rfl ?_
  refine cz_putR (h := 0) (r := 48) F fx_449 (fun _ => hname) rfl kd_0 (by decide) rt_0_4 (fun _ => rfl) (fun _ => rfl) dX11_init_45 rfl ?_
  refine cz_aload_n F dX11_init_48 rfl rfl 0 rfl ?_
  refine cz_iconst F dX11_init_49 rfl ?_
  refine cz_putB (h := 0) (r := true) (w := 1) F rfl fx_450 (fun _ => hname) rfl kd_0 (by decide) dX11_init_50 rfl ?_
  refine cz_aload_n F dX11_init_53 rfl rfl 0 rfl ?_
  refine cz_iconst F dX11_init_54 rfl ?_
  refine cz_newint F kd_69 ln_69 (by decide) (by decide) wa_int rfl rfl rfl (Nat.le_of_ble_eq_true rfl) (Nat.le_of_ble_eq_true rfl) dX11_init_55 rfl ?_
  refine cz_putR (h := 0) (r := 69) F fx_451 (fun _ => hname) rfl kd_0 (by decide) rt_0_6 (fun _ => rfl) (fun _ => rfl) dX11_init_57 rfl ?_
  refine cz_aload_n F dX11_init_60 rfl rfl 0 rfl ?_
  refine cz_iconst F dX11_init_61 rfl ?_
  refine cz_newint F kd_70 ln_70 (by decide) (by decide) wa_int rfl rfl rfl (Nat.le_of_ble_eq_true rfl) (Nat.le_of_ble_eq_true rfl) dX11_init_62 rfl ?_
  refine cz_putR (h := 0) (r := 70) F fx_452 (fun _ => hname) rfl kd_0 (by decide) rt_0_7 (fun _ => rfl) (fun _ => rfl) dX11_init_64 rfl ?_
  refine cz_aload_n F dX11_init_67 rfl rfl 0 rfl ?_
  refine cz_iconst F dX11_init_68 rfl ?_
  refine cz_newint F kd_71 ln_71 (by decide) (by decide) wa_int rfl rfl rfl (Nat.le_of_ble_eq_true rfl) (Nat.le_of_ble_eq_true rfl) dX11_init_69 rfl ?_
  refine cz_putR (h := 0) (r := 71) F fx_453 (fun _ => hname) rfl kd_0 (by decide) rt_0_8 (fun _ => rfl) (fun _ => rfl) dX11_init_71 rfl ?_
  refine cz_aload_n F dX11_init_74 rfl rfl 0 rfl ?_
  refine cz_iconst F dX11_init_75 rfl ?_
  refine cz_newint F kd_72 ln_72 (by decide) (by decide) wa_int rfl rfl rfl (Nat.le_of_ble_eq_true rfl) (Nat.le_of_ble_eq_true rfl) dX11_init_76 rfl ?_
  refine cz_putR (h := 0) (r := 72) F fx_454 (fun _ => hname) rfl kd_0 (by decide) rt_0_9 (fun _ => rfl) (fun _ => rfl) dX11_init_78 rfl ?_
  refine cz_aload_n F dX11_init_81 rfl rfl 0 rfl ?_
  refine cz_new (N := 73) (ci := 10) F tyX10 (by decide) rfl inq_10 tyX10_ok w_254 w_255 w_73 kd_73 (fun j hj b => nf_10 (b := b) j hj) rfl rfl rfl (Nat.le_of_ble_eq_true rfl) (Nat.le_of_ble_eq_true rfl) dX11_init_82 rfl ?_
  refine cz_dup F rfl dX11_init_85 rfl ?_
  refine cz_call (h := 73) (As := []) (st := [.ref (g.2.2.1 + 73), .ref (g.2.2.1 + 0)]) F (k_X10_init_73 l g) ci_X10_init w_256 ⟨rfl, rfl, Nat.le_of_ble_eq_true rfl, Nat.le_of_ble_eq_true rfl⟩ rfl (Nat.le_of_ble_eq_true rfl) dX11_init_86 rfl rfl ⟨Nat.le_of_ble_eq_true rfl, Nat.le_of_ble_eq_true rfl⟩ rfl ?_
  refine cz_putR (h := 0) (r := 73) F fx_455 (fun _ => hname) rfl kd_0 (by decide) rt_0_10 (fun _ => rfl) (fun _ => rfl) dX11_init_89 rfl ?_
  refine cz_aload_n F dX11_init_92 rfl rfl 0 rfl ?_
  refine cz_new (N := 86) (ci := 4) F tyX4 (by decide) rfl inq_4 tyX4_ok w_306 w_261 w_74 kd_86 (fun j hj b => nf_4 (b := b) j hj) rfl rfl rfl (Nat.le_of_ble_eq_true rfl) (Nat.le_of_ble_eq_true rfl) dX11_init_93 rfl ?_
  refine cz_dup F rfl dX11_init_96 rfl ?_
  refine cz_callN (h := 86) (As := []) (st := [.ref (g.2.2.1 + 86), .ref (g.2.2.1 + 0)]) (host := "DuesOnRungs") F (k_X4_init l g kd_86 (by decide)) ci_X4_init (List.mem_of_getElem? (i := 3) rfl) ⟨rfl, rfl, Nat.le_of_ble_eq_true rfl, Nat.le_of_ble_eq_true rfl⟩ rfl (Nat.le_of_ble_eq_true rfl) dX11_init_97 rfl rfl ⟨Nat.le_of_ble_eq_true rfl, Nat.le_of_ble_eq_true rfl⟩ rfl ?_
  refine cz_putR (h := 0) (r := 86) F fx_456 (fun _ => hname) rfl kd_0 (by decide) rt_0_11 (fun _ => rfl) (fun _ => rfl) dX11_init_100 rfl ?_
  refine cz_aload_n F dX11_init_103 rfl rfl 0 rfl ?_
  refine cz_new (N := 87) (ci := 3) F tyX3 (by decide) rfl inq_3 tyX3_ok w_308 w_309 w_75 kd_87 (fun j hj b => nf_3 (b := b) j hj) rfl rfl rfl (Nat.le_of_ble_eq_true rfl) (Nat.le_of_ble_eq_true rfl) dX11_init_104 rfl ?_
  refine cz_dup F rfl dX11_init_107 rfl ?_
  refine cz_call (h := 87) (As := []) (st := [.ref (g.2.2.1 + 87), .ref (g.2.2.1 + 0)]) F (k_X3_init_87 l g) ci_X3_init w_310 ⟨rfl, rfl, Nat.le_of_ble_eq_true rfl, Nat.le_of_ble_eq_true rfl⟩ rfl (Nat.le_of_ble_eq_true rfl) dX11_init_108 rfl rfl ⟨Nat.le_of_ble_eq_true rfl, Nat.le_of_ble_eq_true rfl⟩ rfl ?_
  refine cz_putR (h := 0) (r := 87) F fx_457 (fun _ => hname) rfl kd_0 (by decide) rt_0_12 (fun _ => rfl) (fun _ => rfl) dX11_init_111 rfl ?_
  refine cz_aload_n F dX11_init_114 rfl rfl 0 rfl ?_
  refine cz_new (N := 174) (ci := 5) F tyX5 (by decide) rfl inq_5 tyX5_ok w_368 w_369 w_77 kd_174 (fun j hj b => nf_5 (b := b) j hj) rfl rfl rfl (Nat.le_of_ble_eq_true rfl) (Nat.le_of_ble_eq_true rfl) dX11_init_115 rfl ?_
  refine cz_dup F rfl dX11_init_118 rfl ?_
  refine cz_callN (h := 174) (As := []) (st := [.ref (g.2.2.1 + 174), .ref (g.2.2.1 + 0)]) (host := "DuesOnRungs") F (k_X5_init_174 l g) ci_X5_init (List.mem_of_getElem? (i := 6) rfl) ⟨rfl, rfl, Nat.le_of_ble_eq_true rfl, Nat.le_of_ble_eq_true rfl⟩ rfl (Nat.le_of_ble_eq_true rfl) dX11_init_119 rfl rfl ⟨Nat.le_of_ble_eq_true rfl, Nat.le_of_ble_eq_true rfl⟩ rfl ?_
  refine cz_putR (h := 0) (r := 174) F fx_460 (fun _ => hname) rfl kd_0 (by decide) rt_0_15 (fun _ => rfl) (fun _ => rfl) dX11_init_122 rfl ?_
  refine cz_aload_n F dX11_init_125 rfl rfl 0 rfl ?_
  refine cz_new (N := 177) (ci := 6) F tyX6 (by decide) rfl inq_6 tyX6_ok w_391 w_392 w_78 kd_177 (fun j hj b => nf_6 (b := b) j hj) rfl rfl rfl (Nat.le_of_ble_eq_true rfl) (Nat.le_of_ble_eq_true rfl) dX11_init_126 rfl ?_
  refine cz_dup F rfl dX11_init_129 rfl ?_
  refine cz_callN (h := 177) (As := []) (st := [.ref (g.2.2.1 + 177), .ref (g.2.2.1 + 0)]) (host := "DuesOnRungs") F (k_X6_init_177 l g) ci_X6_init (List.mem_of_getElem? (i := 7) rfl) ⟨rfl, rfl, Nat.le_of_ble_eq_true rfl, Nat.le_of_ble_eq_true rfl⟩ rfl (Nat.le_of_ble_eq_true rfl) dX11_init_130 rfl rfl ⟨Nat.le_of_ble_eq_true rfl, Nat.le_of_ble_eq_true rfl⟩ rfl ?_
  refine cz_putR (h := 0) (r := 177) F fx_461 (fun _ => hname) rfl kd_0 (by decide) rt_0_16 (fun _ => rfl) (fun _ => rfl) dX11_init_133 rfl ?_
  refine cz_aload_n F dX11_init_136 rfl rfl 0 rfl ?_
  refine cz_iconst F dX11_init_137 rfl ?_
  refine cz_newq (r := 3) F kd_180 ln_180 (by decide) (by decide) w_422 F.2.2.2.2.2.1.2.2.1.2.2.2 rfl rfl rfl rfl (Nat.le_of_ble_eq_true rfl) (Nat.le_of_ble_eq_true rfl) dX11_init_138 rfl ?_
  refine cz_putR (h := 0) (r := 180) F fx_462 (fun _ => hname) rfl kd_0 (by decide) rt_0_17 (fun _ => rfl) (fun _ => rfl) dX11_init_141 rfl ?_
  refine cz_aload_n F dX11_init_144 rfl rfl 0 rfl ?_
  refine cz_getR (h := 0) (r := 69) F fl_451 kd_0 (by decide) rt_0_6 rfl dX11_init_145 rfl ?_
  refine cz_iconst F dX11_init_148 rfl ?_
  refine cz_callS (As := [.ref (g.2.2.1 + 69), .int (i3 (-1))]) (st := []) F (k_fill l g kd_69 ln_69 (by decide) (by decide)) cs_J7_fill_53178 w_424 ⟨rfl, rfl, Nat.le_of_ble_eq_true rfl, Nat.le_of_ble_eq_true rfl⟩ rfl (Nat.le_of_ble_eq_true rfl) dX11_init_149 ⟨Nat.le_of_ble_eq_true rfl, Nat.le_of_ble_eq_true rfl⟩ rfl ?_
  refine cz_iconst F dX11_init_152 rfl ?_
  refine cz_istore_n F dX11_init_153 rfl rfl (by decide) rfl ?_
  refine cz_iload_n F dX11_init_154 rfl rfl 0 rfl ?_
  refine cz_iconst F dX11_init_155 rfl ?_
  refine cz_ge_n F (by decide) dX11_init_156 rfl rfl ?_
  refine cz_aload_n F dX11_init_159 rfl rfl 1 rfl ?_
  refine cz_getR (h := 0) (r := 180) F fl_462 kd_0 (by decide) rt_0_17 rfl dX11_init_160 rfl ?_
  refine cz_iload_n F dX11_init_163 rfl rfl 0 rfl ?_
  refine cz_new (N := 181) (ci := 9) F tyX9 (by decide) rfl inq_9 tyX9_ok w_422 w_425 w_79 kd_181 (fun j hj b => nf_9 (b := b) j hj) rfl rfl rfl (Nat.le_of_ble_eq_true rfl) (Nat.le_of_ble_eq_true rfl) dX11_init_164 rfl ?_
  refine cz_dup F rfl dX11_init_167 rfl ?_
  refine cz_callN (h := 181) (As := []) (st := [.ref (g.2.2.1 + 181), .int (i3 0), .ref (g.2.2.1 + 180)]) (host := "DuesOnRungs") F (k_X9_init_181 l g) ci_X9_init (List.mem_of_getElem? (i := 8) rfl) ⟨rfl, rfl, Nat.le_of_ble_eq_true rfl, Nat.le_of_ble_eq_true rfl⟩ rfl (Nat.le_of_ble_eq_true rfl) dX11_init_168 rfl rfl ⟨Nat.le_of_ble_eq_true rfl, Nat.le_of_ble_eq_true rfl⟩ rfl ?_
  refine cz_aast (a := 180) (h := 181) (r := 3) (cj := 9) (i := 0) F (by decide) kd_180 (by decide) kd_181 (by decide) rfl rfl ⟨by decide, by rw [ln_180]; decide⟩ rt_180_0 dX11_init_171 rfl ?_
  refine cz_iinc (y := 1) F dX11_init_172 rfl 0 rfl rfl (by decide) rfl ?_
  refine cz_goto F dX11_init_175 rfl ?_
  refine cz_iload_n F dX11_init_154 rfl rfl 0 rfl ?_
  refine cz_iconst F dX11_init_155 rfl ?_
  refine cz_ge_n F (by decide) dX11_init_156 rfl rfl ?_
  refine cz_aload_n F dX11_init_159 rfl rfl 1 rfl ?_
  refine cz_getR (h := 0) (r := 180) F fl_462 kd_0 (by decide) rt_0_17 rfl dX11_init_160 rfl ?_
  refine cz_iload_n F dX11_init_163 rfl rfl 0 rfl ?_
  refine cz_new (N := 183) (ci := 9) F tyX9 (by decide) rfl inq_9 tyX9_ok w_422 w_425 w_79 kd_183 (fun j hj b => nf_9 (b := b) j hj) rfl rfl rfl (Nat.le_of_ble_eq_true rfl) (Nat.le_of_ble_eq_true rfl) dX11_init_164 rfl ?_
  refine cz_dup F rfl dX11_init_167 rfl ?_
  refine cz_callN (h := 183) (As := []) (st := [.ref (g.2.2.1 + 183), .int (i3 1), .ref (g.2.2.1 + 180)]) (host := "DuesOnRungs") F (k_X9_init_183 l g) ci_X9_init (List.mem_of_getElem? (i := 8) rfl) ⟨rfl, rfl, Nat.le_of_ble_eq_true rfl, Nat.le_of_ble_eq_true rfl⟩ rfl (Nat.le_of_ble_eq_true rfl) dX11_init_168 rfl rfl ⟨Nat.le_of_ble_eq_true rfl, Nat.le_of_ble_eq_true rfl⟩ rfl ?_
  refine cz_aast (a := 180) (h := 183) (r := 3) (cj := 9) (i := 1) F (by decide) kd_180 (by decide) kd_183 (by decide) rfl rfl ⟨by decide, by rw [ln_180]; decide⟩ rt_180_1 dX11_init_171 rfl ?_
  refine cz_iinc (y := 2) F dX11_init_172 rfl 0 rfl rfl (by decide) rfl ?_
  refine cz_goto F dX11_init_175 rfl ?_
  refine cz_iload_n F dX11_init_154 rfl rfl 0 rfl ?_
  refine cz_iconst F dX11_init_155 rfl ?_
  refine cz_ge_n F (by decide) dX11_init_156 rfl rfl ?_
  refine cz_aload_n F dX11_init_159 rfl rfl 1 rfl ?_
  refine cz_getR (h := 0) (r := 180) F fl_462 kd_0 (by decide) rt_0_17 rfl dX11_init_160 rfl ?_
  refine cz_iload_n F dX11_init_163 rfl rfl 0 rfl ?_
  refine cz_new (N := 185) (ci := 9) F tyX9 (by decide) rfl inq_9 tyX9_ok w_422 w_425 w_79 kd_185 (fun j hj b => nf_9 (b := b) j hj) rfl rfl rfl (Nat.le_of_ble_eq_true rfl) (Nat.le_of_ble_eq_true rfl) dX11_init_164 rfl ?_
  refine cz_dup F rfl dX11_init_167 rfl ?_
  refine cz_callN (h := 185) (As := []) (st := [.ref (g.2.2.1 + 185), .int (i3 2), .ref (g.2.2.1 + 180)]) (host := "DuesOnRungs") F (k_X9_init_185 l g) ci_X9_init (List.mem_of_getElem? (i := 8) rfl) ⟨rfl, rfl, Nat.le_of_ble_eq_true rfl, Nat.le_of_ble_eq_true rfl⟩ rfl (Nat.le_of_ble_eq_true rfl) dX11_init_168 rfl rfl ⟨Nat.le_of_ble_eq_true rfl, Nat.le_of_ble_eq_true rfl⟩ rfl ?_
  refine cz_aast (a := 180) (h := 185) (r := 3) (cj := 9) (i := 2) F (by decide) kd_180 (by decide) kd_185 (by decide) rfl rfl ⟨by decide, by rw [ln_180]; decide⟩ rt_180_2 dX11_init_171 rfl ?_
  refine cz_iinc (y := 3) F dX11_init_172 rfl 0 rfl rfl (by decide) rfl ?_
  refine cz_goto F dX11_init_175 rfl ?_
  refine cz_iload_n F dX11_init_154 rfl rfl 0 rfl ?_
  refine cz_iconst F dX11_init_155 rfl ?_
  refine cz_ge_n F (by decide) dX11_init_156 rfl rfl ?_
  refine cz_aload_n F dX11_init_159 rfl rfl 1 rfl ?_
  refine cz_getR (h := 0) (r := 180) F fl_462 kd_0 (by decide) rt_0_17 rfl dX11_init_160 rfl ?_
  refine cz_iload_n F dX11_init_163 rfl rfl 0 rfl ?_
  refine cz_new (N := 187) (ci := 9) F tyX9 (by decide) rfl inq_9 tyX9_ok w_422 w_425 w_79 kd_187 (fun j hj b => nf_9 (b := b) j hj) rfl rfl rfl (Nat.le_of_ble_eq_true rfl) (Nat.le_of_ble_eq_true rfl) dX11_init_164 rfl ?_
  refine cz_dup F rfl dX11_init_167 rfl ?_
  refine cz_callN (h := 187) (As := []) (st := [.ref (g.2.2.1 + 187), .int (i3 3), .ref (g.2.2.1 + 180)]) (host := "DuesOnRungs") F (k_X9_init_187 l g) ci_X9_init (List.mem_of_getElem? (i := 8) rfl) ⟨rfl, rfl, Nat.le_of_ble_eq_true rfl, Nat.le_of_ble_eq_true rfl⟩ rfl (Nat.le_of_ble_eq_true rfl) dX11_init_168 rfl rfl ⟨Nat.le_of_ble_eq_true rfl, Nat.le_of_ble_eq_true rfl⟩ rfl ?_
  refine cz_aast (a := 180) (h := 187) (r := 3) (cj := 9) (i := 3) F (by decide) kd_180 (by decide) kd_187 (by decide) rfl rfl ⟨by decide, by rw [ln_180]; decide⟩ rt_180_3 dX11_init_171 rfl ?_
  refine cz_iinc (y := 4) F dX11_init_172 rfl 0 rfl rfl (by decide) rfl ?_
  refine cz_goto F dX11_init_175 rfl ?_
  refine cz_iload_n F dX11_init_154 rfl rfl 0 rfl ?_
  refine cz_iconst F dX11_init_155 rfl ?_
  refine cz_ge_y F (by decide) dX11_init_156 rfl ?_
  exact cz_vret F hr dX11_init_178
abbrev rm_X12_init : Room := { frames := 1, cells := 22, slots := 780, locals := 12 }
theorem ci_X12_init : CI yX12_init cX12_init 2 0 := ⟨w_989, w_80, w_990, rfl, by decide +kernel, by decide +kernel, by decide +kernel⟩
def fI_X12_init_189 (I : Msk) : Msk := (stI (stI (stI (stI (stI (stI (stI (stI (stI (stI (stI (stI (stI (stI (stI (stI (stI (stI (stI (stI (stI (stI I 189 0) 189 1) 189 2) 189 4) 189 6) 189 7) 189 12) 189 13) 189 14) 189 15) 189 16) 189 17) 189 18) 189 19) 189 20) 189 22) 189 23) 189 24) 189 30) 189 31) 189 32) 189 33)
def fM_X12_init_189 (M : Mem) : Mem := (st2 (st2 (st2 (st2 (st2 (zM (zM (zM (zM (zM (zM (zM (zM (zM (zM (zM (zM (zM (zM (zM (zM (zM (zM (zM (zM (zM (zM M 190) 191) 192) 193) 194) 195) 196) 197) 198) 199) 200) 201) 202) 203) 204) 205) 206) 207) 208) 209) 210) 211) 195 (ix 0) (-1)) 195 (ix 1) (-1)) 195 (ix 2) (-1)) 195 (ix 3) (-1)) 195 (ix 4) (-1))
set_option maxRecDepth 100000 in
set_option maxHeartbeats 4000000 in
theorem k_X12_init_189 (l : Launch) (g : En) {I : Msk} {M : Mem} : Met l yX12_init (WS yX12_init cX12_init 2 none) rm_X12_init (va_Pc [.ref (g.2.2.1 + 189)] (RqC g 190 I M)) (va_Qv (S := Unit) (fun _ => True) (fun _ t => RqC g 212 (fI_X12_init_189 I) (fM_X12_init_189 M) t) (aB g)) 22 780 (aB g) := by
  refine met_C (plainFor_of_name rfl) (Nat.le_of_ble_eq_true rfl) ?_
  intro p e s m args below meth c F hr hname
  show CZ g p l e rm_X12_init s m args below meth c 2 _ 190 I M 0 0 0 [(0, .ref (g.2.2.1 + 189))] []
  refine cz_aload_n F dX12_init_0 rfl rfl 0 rfl ?_
  refine cz_obj F w_991 w_90 w_91 (Nat.le_of_ble_eq_true rfl) (Nat.le_of_ble_eq_true rfl) dX12_init_1 rfl ?_
  refine cz_aload_n F dX12_init_4 rfl rfl 0 rfl ?_
  refine cz_bipush F dX12_init_5 (by decide) rfl ?_
  refine cz_newint F kd_190 ln_190 (by decide) (by decide) wa_int rfl rfl rfl (Nat.le_of_ble_eq_true rfl) (Nat.le_of_ble_eq_true rfl) dX12_init_7 rfl ?_
  refine cz_putR (h := 189) (r := 190) F fx_992 (fun _ => hname) rfl kd_189 (by decide) rt_189_0 (fun _ => rfl) (fun _ => rfl) dX12_init_9 rfl ?_
  refine cz_aload_n F dX12_init_12 rfl rfl 0 rfl ?_
  refine cz_bipush F dX12_init_13 (by decide) rfl ?_
  refine cz_newint F kd_191 ln_191 (by decide) (by decide) wa_int rfl rfl rfl (Nat.le_of_ble_eq_true rfl) (Nat.le_of_ble_eq_true rfl) dX12_init_15 rfl ?_
  refine cz_putR (h := 189) (r := 191) F fx_993 (fun _ => hname) rfl kd_189 (by decide) rt_189_1 (fun _ => rfl) (fun _ => rfl) dX12_init_17 rfl ?_
  refine cz_aload_n F dX12_init_20 rfl rfl 0 rfl ?_
  refine cz_bipush F dX12_init_21 (by decide) rfl ?_
  refine cz_newint F kd_192 ln_192 (by decide) (by decide) wa_int rfl rfl rfl (Nat.le_of_ble_eq_true rfl) (Nat.le_of_ble_eq_true rfl) dX12_init_23 rfl ?_
  refine cz_putR (h := 189) (r := 192) F fx_994 (fun _ => hname) rfl kd_189 (by decide) rt_189_2 (fun _ => rfl) (fun _ => rfl) dX12_init_25 rfl ?_
  refine cz_aload_n F dX12_init_28 rfl rfl 0 rfl ?_
  refine cz_bipush F dX12_init_29 (by decide) rfl ?_
  refine cz_newint F kd_193 ln_193 (by decide) (by decide) wa_int rfl rfl rfl (Nat.le_of_ble_eq_true rfl) (Nat.le_of_ble_eq_true rfl) dX12_init_31 rfl ?_
  refine cz_putR (h := 189) (r := 193) F fx_996 (fun _ => hname) rfl kd_189 (by decide) rt_189_4 (fun _ => rfl) (fun _ => rfl) dX12_init_33 rfl ?_
  refine cz_aload_n F dX12_init_36 rfl rfl 0 rfl ?_
  refine cz_iconst F dX12_init_37 rfl ?_
  refine cz_newint F kd_194 ln_194 (by decide) (by decide) wa_int rfl rfl rfl (Nat.le_of_ble_eq_true rfl) (Nat.le_of_ble_eq_true rfl) dX12_init_38 rfl ?_
  refine cz_putR (h := 189) (r := 194) F fx_998 (fun _ => hname) rfl kd_189 (by decide) rt_189_6 (fun _ => rfl) (fun _ => rfl) dX12_init_40 rfl ?_
  refine cz_aload_n F dX12_init_43 rfl rfl 0 rfl ?_
  refine cz_iconst F dX12_init_44 rfl ?_
  refine cz_newint F kd_195 ln_195 (by decide) (by decide) wa_int rfl rfl rfl (Nat.le_of_ble_eq_true rfl) (Nat.le_of_ble_eq_true rfl) dX12_init_45 rfl ?_
  refine cz_putR (h := 189) (r := 195) F fx_999 (fun _ => hname) rfl kd_189 (by decide) rt_189_7 (fun _ => rfl) (fun _ => rfl) dX12_init_47 rfl ?_
  refine cz_aload_n F dX12_init_50 rfl rfl 0 rfl ?_
  refine cz_bipush F dX12_init_51 (by decide) rfl ?_
  refine cz_newint F kd_196 ln_196 (by decide) (by decide) wa_int rfl rfl rfl (Nat.le_of_ble_eq_true rfl) (Nat.le_of_ble_eq_true rfl) dX12_init_53 rfl ?_
  refine cz_putR (h := 189) (r := 196) F fx_1004 (fun _ => hname) rfl kd_189 (by decide) rt_189_12 (fun _ => rfl) (fun _ => rfl) dX12_init_55 rfl ?_
  refine cz_aload_n F dX12_init_58 rfl rfl 0 rfl ?_
  refine cz_iconst F dX12_init_59 rfl ?_
  refine cz_newint F kd_197 ln_197 (by decide) (by decide) wa_int rfl rfl rfl (Nat.le_of_ble_eq_true rfl) (Nat.le_of_ble_eq_true rfl) dX12_init_60 rfl ?_
  refine cz_putR (h := 189) (r := 197) F fx_1005 (fun _ => hname) rfl kd_189 (by decide) rt_189_13 (fun _ => rfl) (fun _ => rfl) dX12_init_62 rfl ?_
  refine cz_aload_n F dX12_init_65 rfl rfl 0 rfl ?_
  refine cz_bipush F dX12_init_66 (by decide) rfl ?_
  refine cz_newlong F kd_198 ln_198 (by decide) (by decide) wa_long rfl rfl rfl (Nat.le_of_ble_eq_true rfl) (Nat.le_of_ble_eq_true rfl) dX12_init_68 rfl ?_
  refine cz_putR (h := 189) (r := 198) F fx_1006 (fun _ => hname) rfl kd_189 (by decide) rt_189_14 (fun _ => rfl) (fun _ => rfl) dX12_init_70 rfl ?_
  refine cz_aload_n F dX12_init_73 rfl rfl 0 rfl ?_
  refine cz_bipush F dX12_init_74 (by decide) rfl ?_
  refine cz_newlong F kd_199 ln_199 (by decide) (by decide) wa_long rfl rfl rfl (Nat.le_of_ble_eq_true rfl) (Nat.le_of_ble_eq_true rfl) dX12_init_76 rfl ?_
  refine cz_putR (h := 189) (r := 199) F fx_1007 (fun _ => hname) rfl kd_189 (by decide) rt_189_15 (fun _ => rfl) (fun _ => rfl) dX12_init_78 rfl ?_
  refine cz_aload_n F dX12_init_81 rfl rfl 0 rfl ?_
  refine cz_bipush F dX12_init_82 (by decide) rfl ?_
  refine cz_newlong F kd_200 ln_200 (by decide) (by decide) wa_long rfl rfl rfl (Nat.le_of_ble_eq_true rfl) (Nat.le_of_ble_eq_true rfl) dX12_init_84 rfl ?_
  refine cz_putR (h := 189) (r := 200) F fx_1008 (fun _ => hname) rfl kd_189 (by decide) rt_189_16 (fun _ => rfl) (fun _ => rfl) dX12_init_86 rfl ?_
  refine cz_aload_n F dX12_init_89 rfl rfl 0 rfl ?_
  refine cz_bipush F dX12_init_90 (by decide) rfl ?_
  refine cz_newlong F kd_201 ln_201 (by decide) (by decide) wa_long rfl rfl rfl (Nat.le_of_ble_eq_true rfl) (Nat.le_of_ble_eq_true rfl) dX12_init_92 rfl ?_
  refine cz_putR (h := 189) (r := 201) F fx_1009 (fun _ => hname) rfl kd_189 (by decide) rt_189_17 (fun _ => rfl) (fun _ => rfl) dX12_init_94 rfl ?_
  refine cz_aload_n F dX12_init_97 rfl rfl 0 rfl ?_
  refine cz_bipush F dX12_init_98 (by decide) rfl ?_
  refine cz_newlong F kd_202 ln_202 (by decide) (by decide) wa_long rfl rfl rfl (Nat.le_of_ble_eq_true rfl) (Nat.le_of_ble_eq_true rfl) dX12_init_100 rfl ?_
  refine cz_putR (h := 189) (r := 202) F fx_1010 (fun _ => hname) rfl kd_189 (by decide) rt_189_18 (fun _ => rfl) (fun _ => rfl) dX12_init_102 rfl ?_
  refine cz_aload_n F dX12_init_105 rfl rfl 0 rfl ?_
  refine cz_bipush F dX12_init_106 (by decide) rfl ?_
  refine cz_newlong F kd_203 ln_203 (by decide) (by decide) wa_long rfl rfl rfl (Nat.le_of_ble_eq_true rfl) (Nat.le_of_ble_eq_true rfl) dX12_init_108 rfl ?_
  refine cz_putR (h := 189) (r := 203) F fx_1011 (fun _ => hname) rfl kd_189 (by decide) rt_189_19 (fun _ => rfl) (fun _ => rfl) dX12_init_110 rfl ?_
  refine cz_aload_n F dX12_init_113 rfl rfl 0 rfl ?_
  refine cz_iconst F dX12_init_114 rfl ?_
  refine cz_newint F kd_204 ln_204 (by decide) (by decide) wa_int rfl rfl rfl (Nat.le_of_ble_eq_true rfl) (Nat.le_of_ble_eq_true rfl) dX12_init_115 rfl ?_
  refine cz_putR (h := 189) (r := 204) F fx_1012 (fun _ => hname) rfl kd_189 (by decide) rt_189_20 (fun _ => rfl) (fun _ => rfl) dX12_init_117 rfl ?_
  refine cz_aload_n F dX12_init_120 rfl rfl 0 rfl ?_
  refine cz_iconst F dX12_init_121 rfl ?_
  refine cz_newint F kd_205 ln_205 (by decide) (by decide) wa_int rfl rfl rfl (Nat.le_of_ble_eq_true rfl) (Nat.le_of_ble_eq_true rfl) dX12_init_122 rfl ?_
  refine cz_putR (h := 189) (r := 205) F fx_1014 (fun _ => hname) rfl kd_189 (by decide) rt_189_22 (fun _ => rfl) (fun _ => rfl) dX12_init_124 rfl ?_
  refine cz_aload_n F dX12_init_127 rfl rfl 0 rfl ?_
  refine cz_iconst F dX12_init_128 rfl ?_
  refine cz_newlong F kd_206 ln_206 (by decide) (by decide) wa_long rfl rfl rfl (Nat.le_of_ble_eq_true rfl) (Nat.le_of_ble_eq_true rfl) dX12_init_129 rfl ?_
  refine cz_putR (h := 189) (r := 206) F fx_1015 (fun _ => hname) rfl kd_189 (by decide) rt_189_23 (fun _ => rfl) (fun _ => rfl) dX12_init_131 rfl ?_
  refine cz_aload_n F dX12_init_134 rfl rfl 0 rfl ?_
  refine cz_iconst F dX12_init_135 rfl ?_
  refine cz_newlong F kd_207 ln_207 (by decide) (by decide) wa_long rfl rfl rfl (Nat.le_of_ble_eq_true rfl) (Nat.le_of_ble_eq_true rfl) dX12_init_136 rfl ?_
  refine cz_putR (h := 189) (r := 207) F fx_1016 (fun _ => hname) rfl kd_189 (by decide) rt_189_24 (fun _ => rfl) (fun _ => rfl) dX12_init_138 rfl ?_
  refine cz_aload_n F dX12_init_141 rfl rfl 0 rfl ?_
  refine cz_sipush F dX12_init_142 (by decide) rfl ?_
  refine cz_newint F kd_208 ln_208 (by decide) (by decide) wa_int rfl rfl rfl (Nat.le_of_ble_eq_true rfl) (Nat.le_of_ble_eq_true rfl) dX12_init_145 rfl ?_
  refine cz_putR (h := 189) (r := 208) F fx_1022 (fun _ => hname) rfl kd_189 (by decide) rt_189_30 (fun _ => rfl) (fun _ => rfl) dX12_init_147 rfl ?_
  refine cz_aload_n F dX12_init_150 rfl rfl 0 rfl ?_
  refine cz_iconst F dX12_init_151 rfl ?_
  refine cz_newint F kd_209 ln_209 (by decide) (by decide) wa_int rfl rfl rfl (Nat.le_of_ble_eq_true rfl) (Nat.le_of_ble_eq_true rfl) dX12_init_152 rfl ?_
  refine cz_putR (h := 189) (r := 209) F fx_1023 (fun _ => hname) rfl kd_189 (by decide) rt_189_31 (fun _ => rfl) (fun _ => rfl) dX12_init_154 rfl ?_
  refine cz_aload_n F dX12_init_157 rfl rfl 0 rfl ?_
  refine cz_iconst F dX12_init_158 rfl ?_
  refine cz_newint F kd_210 ln_210 (by decide) (by decide) wa_int rfl rfl rfl (Nat.le_of_ble_eq_true rfl) (Nat.le_of_ble_eq_true rfl) dX12_init_159 rfl ?_
  refine cz_putR (h := 189) (r := 210) F fx_1024 (fun _ => hname) rfl kd_189 (by decide) rt_189_32 (fun _ => rfl) (fun _ => rfl) dX12_init_161 rfl ?_
  refine cz_aload_n F dX12_init_164 rfl rfl 0 rfl ?_
  refine cz_sipush F dX12_init_165 (by decide) rfl ?_
  refine cz_newint F kd_211 ln_211 (by decide) (by decide) wa_int rfl rfl rfl (Nat.le_of_ble_eq_true rfl) (Nat.le_of_ble_eq_true rfl) dX12_init_168 rfl ?_
  refine cz_putR (h := 189) (r := 211) F fx_1025 (fun _ => hname) rfl kd_189 (by decide) rt_189_33 (fun _ => rfl) (fun _ => rfl) dX12_init_170 rfl ?_
  refine cz_iconst F dX12_init_173 rfl ?_
  refine cz_istore_n F dX12_init_174 rfl rfl (by decide) rfl ?_
  refine cz_iload_n F dX12_init_175 rfl rfl 0 rfl ?_
  refine cz_iconst F dX12_init_176 rfl ?_
  refine cz_ge_n F (by decide) dX12_init_177 rfl rfl ?_
  refine cz_aload_n F dX12_init_180 rfl rfl 1 rfl ?_
  refine cz_getR (h := 189) (r := 195) F fl_999 kd_189 (by decide) rt_189_7 rfl dX12_init_181 rfl ?_
  refine cz_iload_n F dX12_init_184 rfl rfl 0 rfl ?_
  refine cz_iconst F dX12_init_185 rfl ?_
  refine cz_iast (a := 195) (i := 0) (w := (-1)) F kd_195 (by decide) ⟨by decide, by rw [ln_195]; decide⟩ dX12_init_186 rfl ?_
  refine cz_iinc (y := 1) F dX12_init_187 rfl 0 rfl rfl (by decide) rfl ?_
  refine cz_goto F dX12_init_190 rfl ?_
  refine cz_iload_n F dX12_init_175 rfl rfl 0 rfl ?_
  refine cz_iconst F dX12_init_176 rfl ?_
  refine cz_ge_n F (by decide) dX12_init_177 rfl rfl ?_
  refine cz_aload_n F dX12_init_180 rfl rfl 1 rfl ?_
  refine cz_getR (h := 189) (r := 195) F fl_999 kd_189 (by decide) rt_189_7 rfl dX12_init_181 rfl ?_
  refine cz_iload_n F dX12_init_184 rfl rfl 0 rfl ?_
  refine cz_iconst F dX12_init_185 rfl ?_
  refine cz_iast (a := 195) (i := 1) (w := (-1)) F kd_195 (by decide) ⟨by decide, by rw [ln_195]; decide⟩ dX12_init_186 rfl ?_
  refine cz_iinc (y := 2) F dX12_init_187 rfl 0 rfl rfl (by decide) rfl ?_
  refine cz_goto F dX12_init_190 rfl ?_
  refine cz_iload_n F dX12_init_175 rfl rfl 0 rfl ?_
  refine cz_iconst F dX12_init_176 rfl ?_
  refine cz_ge_n F (by decide) dX12_init_177 rfl rfl ?_
  refine cz_aload_n F dX12_init_180 rfl rfl 1 rfl ?_
  refine cz_getR (h := 189) (r := 195) F fl_999 kd_189 (by decide) rt_189_7 rfl dX12_init_181 rfl ?_
  refine cz_iload_n F dX12_init_184 rfl rfl 0 rfl ?_
  refine cz_iconst F dX12_init_185 rfl ?_
  refine cz_iast (a := 195) (i := 2) (w := (-1)) F kd_195 (by decide) ⟨by decide, by rw [ln_195]; decide⟩ dX12_init_186 rfl ?_
  refine cz_iinc (y := 3) F dX12_init_187 rfl 0 rfl rfl (by decide) rfl ?_
  refine cz_goto F dX12_init_190 rfl ?_
  refine cz_iload_n F dX12_init_175 rfl rfl 0 rfl ?_
  refine cz_iconst F dX12_init_176 rfl ?_
  refine cz_ge_n F (by decide) dX12_init_177 rfl rfl ?_
  refine cz_aload_n F dX12_init_180 rfl rfl 1 rfl ?_
  refine cz_getR (h := 189) (r := 195) F fl_999 kd_189 (by decide) rt_189_7 rfl dX12_init_181 rfl ?_
  refine cz_iload_n F dX12_init_184 rfl rfl 0 rfl ?_
  refine cz_iconst F dX12_init_185 rfl ?_
  refine cz_iast (a := 195) (i := 3) (w := (-1)) F kd_195 (by decide) ⟨by decide, by rw [ln_195]; decide⟩ dX12_init_186 rfl ?_
  refine cz_iinc (y := 4) F dX12_init_187 rfl 0 rfl rfl (by decide) rfl ?_
  refine cz_goto F dX12_init_190 rfl ?_
  refine cz_iload_n F dX12_init_175 rfl rfl 0 rfl ?_
  refine cz_iconst F dX12_init_176 rfl ?_
  refine cz_ge_n F (by decide) dX12_init_177 rfl rfl ?_
  refine cz_aload_n F dX12_init_180 rfl rfl 1 rfl ?_
  refine cz_getR (h := 189) (r := 195) F fl_999 kd_189 (by decide) rt_189_7 rfl dX12_init_181 rfl ?_
  refine cz_iload_n F dX12_init_184 rfl rfl 0 rfl ?_
  refine cz_iconst F dX12_init_185 rfl ?_
  refine cz_iast (a := 195) (i := 4) (w := (-1)) F kd_195 (by decide) ⟨by decide, by rw [ln_195]; decide⟩ dX12_init_186 rfl ?_
  refine cz_iinc (y := 5) F dX12_init_187 rfl 0 rfl rfl (by decide) rfl ?_
  refine cz_goto F dX12_init_190 rfl ?_
  refine cz_iload_n F dX12_init_175 rfl rfl 0 rfl ?_
  refine cz_iconst F dX12_init_176 rfl ?_
  refine cz_ge_y F (by decide) dX12_init_177 rfl ?_
  exact cz_vret F hr dX12_init_193
