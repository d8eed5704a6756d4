section ZM
variable {g : En} {p : Program} {l : Launch} {e : Env} {R : Room} {s : State} {m : MethodId} {args : Array Value} {below : List Frame} {meth : Method} {c : Code} {cc : ByteArray} {nL : Nat} {own : String} {Q : State → Prop} {M : Mem} {pc q : Nat} {lv : List (Nat × Value)} {st : List Value}
variable {h a : Nat}
theorem Fx_Rp {U : State} (F : Fx g p s m args meth c cc nL own) (hP : va_P g.1 vwCl (wS g M) U.heap) (hW : s.WarmedH U.vm) {locs : List Loc} (hS : va_S (aR g) s.heap U.heap locs) : Rp g M U := by
  obtain ⟨-, -, -, -, -, hK, -, hZ, hT, hN⟩ := F
  exact ⟨hP, hK.moved hW.alike, (hZ.moved hW.alike).kept (fun a h1 h2 => hS.2.1 a h1 h2), (hT.moved hW.alike).kept (fun a h1 h2 => hS.2.1 a h1 h2), va_Nw.warmF hW hN⟩
theorem z_sub {lv2 : List (Nat × Value)} (ks : List Nat) (hl : lv_pick lv ks = lv2) (kk : Z g p l e R s m args below meth c nL Q M pc lv2 st) : Z g p l e R s m args below meth c nL Q M pc lv st := fun H locs ls hP hS h9 => kk H locs ls hP hS (lv_sub h9 ks hl)
theorem z_get (F : Fx g p s m args meth c cc nL own) {ci j idx t : Nat} (f : FL ci j own idx t) (kh : kd h = ci) (d : decode cc pc = .ok (.getfield idx, 3)) (hq : pc + 3 = q) (kk : Z g p l e R s m args below meth c nL Q M q lv (vof g.2.2.1 M h j t :: st)) : Z g p l e R s m args below meth c nL Q M pc lv (.ref (g.2.2.1 + h) :: st) := by
  subst hq
  intro H locs ls hP hS hl
  obtain ⟨hci, C, T, N, hc, hin, hj, hlk, ht⟩ := f
  refine va_get (C := C) (T := T) (N := N) (ci := ci) F.1 F.2.1 F.2.2.2.2.1 hin F.2.2.2.1 F.2.2.2.2.2.1 hP h (fs := fso g.2.2.1 M h 0 (slt ci)) ?_ hc j hj (F.2.2.2.2.1 _ hlk) (fun _ h9 => h9) ?_ d (kk H locs ls hP hS hl)
  · rw [wS_get (kd_lt kh (by omega)), cel_o kh hci]
  · rw [fso_get, ht]
    simp
theorem z_getI (F : Fx g p s m args meth c cc nL own) {ci j idx : Nat} (f : FL ci j own idx 0) (kh : kd h = ci) (d : decode cc pc = .ok (.getfield idx, 3)) (hq : pc + 3 = q) (kk : Z g p l e R s m args below meth c nL Q M q lv (.int (i3 (M h j)) :: st)) : Z g p l e R s m args below meth c nL Q M pc lv (.ref (g.2.2.1 + h) :: st) := by
  exact z_get F f kh d hq kk
theorem z_getL (F : Fx g p s m args meth c cc nL own) {ci j idx : Nat} (f : FL ci j own idx 1) (kh : kd h = ci) (d : decode cc pc = .ok (.getfield idx, 3)) (hq : pc + 3 = q) (kk : Z g p l e R s m args below meth c nL Q M q lv (.long (i6 (M h j)) :: st)) : Z g p l e R s m args below meth c nL Q M pc lv (.ref (g.2.2.1 + h) :: st) := by
  exact z_get F f kh d hq kk
theorem z_getR (F : Fx g p s m args meth c cc nL own) {ci j idx : Nat} (f : FL ci j own idx 2) (kh : kd h = ci) (d : decode cc pc = .ok (.getfield idx, 3)) (hq : pc + 3 = q) (kk : Z g p l e R s m args below meth c nL Q M q lv (.ref (g.2.2.1 + rt h j) :: st)) : Z g p l e R s m args below meth c nL Q M pc lv (.ref (g.2.2.1 + h) :: st) := by
  exact z_get F f kh d hq kk
theorem z_getB (F : Fx g p s m args meth c cc nL own) {ci j idx : Nat} (f : FL ci j own idx 3) (kh : kd h = ci) (d : decode cc pc = .ok (.getfield idx, 3)) (hq : pc + 3 = q) (kk : Z g p l e R s m args below meth c nL Q M q lv (.int (i3 (bz (fb M h j))) :: st)) : Z g p l e R s m args below meth c nL Q M pc lv (.ref (g.2.2.1 + h) :: st) := by
  exact z_get F f kh d hq kk
theorem z_put (F : Fx g p s m args meth c cc nL own) {ci j idx t : Nat} {ty : FieldType} {w : Int} (f : FP ci j own idx t ty) (kh : kd h = ci) {v : Value} (hv : v = vof g.2.2.1 (st2 M h j w) h j t) (hn : narrow ty v = v) (hfit : fits ty v = true) (d : decode cc pc = .ok (.putfield idx, 3)) (hq : pc + 3 = q) (kk : Z g p l e R s m args below meth c nL Q (st2 M h j w) q lv st) : Z g p l e R s m args below meth c nL Q M pc lv (v :: .ref (g.2.2.1 + h) :: st) := by
  subst hq
  intro H locs ls hP hS hl
  obtain ⟨hci, C, T, N, ty0, hc, hin, hj, hlk, ht, hty, hnm, hfin, hd, hN⟩ := f
  have hlt : h < NN := kd_lt kh (by omega)
  refine va_put (C := C) (T := T) (N := N) (ci := ci) (v := v) (ty := ty) F.1 F.2.1 F.2.2.2.2.1 hin ty0 hty hnm F.2.2.2.1 F.2.2.2.2.2.1 hP (wS_D g M) hS h (fs := fso g.2.2.1 M h 0 (slt ci)) ?_ hc j hj (F.2.2.2.2.1 _ hlk) (fun _ h9 => h9) hfin hd hn hfit ?_ d (fun H1 locs1 hP1 _ hS1 => ?_)
  · rw [wS_get hlt, cel_o kh hci]
  · rw [fso_len, hN]
    exact hj
  · have e : (wS g M).set h (g.2.2.1 + h, .inr (ci, (fso g.2.2.1 M h 0 (slt ci)).set j v)) = wS g (st2 M h j w) := by
      rw [hv, fso_set ht, ← cel_o kh hci]
      exact wS_set (fun a ha => cel_st2 ha)
    rw [e] at hP1
    exact kk H1 locs1 ls hP1 hS1 hl
theorem z_putI (F : Fx g p s m args meth c cc nL own) {ci j idx : Nat} {w : Int} (f : FP ci j own idx 0 .int) (kh : kd h = ci) (d : decode cc pc = .ok (.putfield idx, 3)) (hq : pc + 3 = q) (kk : Z g p l e R s m args below meth c nL Q (st2 M h j w) q lv st) : Z g p l e R s m args below meth c nL Q M pc lv (.int (i3 w) :: .ref (g.2.2.1 + h) :: st) := by
  exact z_put (w := w) F f kh (by simp [vof, st2_s]) rfl rfl d hq kk
theorem z_putL (F : Fx g p s m args meth c cc nL own) {ci j idx : Nat} {w : Int} (f : FP ci j own idx 1 .long) (kh : kd h = ci) (d : decode cc pc = .ok (.putfield idx, 3)) (hq : pc + 3 = q) (kk : Z g p l e R s m args below meth c nL Q (st2 M h j w) q lv st) : Z g p l e R s m args below meth c nL Q M pc lv (.long (i6 w) :: .ref (g.2.2.1 + h) :: st) := by
  exact z_put (w := w) F f kh (by simp [vof, st2_s]) rfl rfl d hq kk
theorem z_putB (F : Fx g p s m args meth c cc nL own) {ci j idx : Nat} {r : Bool} (f : FP ci j own idx 3 .boolean) (kh : kd h = ci) (d : decode cc pc = .ok (.putfield idx, 3)) (hq : pc + 3 = q) (kk : Z g p l e R s m args below meth c nL Q (st2 M h j (bz r)) q lv st) : Z g p l e R s m args below meth c nL Q M pc lv (.int (i3 (bz r)) :: .ref (g.2.2.1 + h) :: st) := by
  exact z_put (w := bz r) F f kh (by cases r <;> simp [vof, fb, st2_s, bz]) (by cases r <;> decide) (by cases r <;> decide) d hq kk
theorem z_iald (F : Fx g p s m args meth c cc nL own) {i : Int} {A : Prop} (ka : kd a = 13) (d : decode cc pc = .ok (.iaload, 1)) (hq : pc + 1 = q) (hw : inb a i ∧ A) (kk : A → Z g p l e R s m args below meth c nL Q M q lv (.int (i3 (M a (ix i))) :: st)) : Z g p l e R s m args below meth c nL Q M pc lv (.int (i3 i) :: .ref (g.2.2.1 + a) :: st) := by
  subst hq
  intro H locs ls hP hS hl
  have hlt : a < NN := kd_lt ka (by omega)
  refine va_iald (n := ln a) (f := fun j => i3 (M a j)) F.1 F.2.1 F.2.2.2.2.2.1 hP a 0 (cA := g.2.1 0) ?_ rfl ((i3_in i (ln a)).mpr hw.1) d ?_
  · rw [wS_get hlt, cel_i ka]
  · rw [i3_cl]
    exact kk hw.2 H locs ls hP hS hl
theorem z_lald (F : Fx g p s m args meth c cc nL own) {i : Int} {A : Prop} (ka : kd a = 14) (d : decode cc pc = .ok (.laload, 1)) (hq : pc + 1 = q) (hw : inb a i ∧ A) (kk : A → Z g p l e R s m args below meth c nL Q M q lv (.long (i6 (M a (ix i))) :: st)) : Z g p l e R s m args below meth c nL Q M pc lv (.int (i3 i) :: .ref (g.2.2.1 + a) :: st) := by
  subst hq
  intro H locs ls hP hS hl
  have hlt : a < NN := kd_lt ka (by omega)
  refine va_lald (n := ln a) (f := fun j => i6 (M a j)) F.1 F.2.1 F.2.2.2.2.2.1 hP a 1 (cA := g.2.1 1) ?_ rfl ((i3_in i (ln a)).mpr hw.1) d ?_
  · rw [wS_get hlt, cel_l ka]
  · rw [i3_cl]
    exact kk hw.2 H locs ls hP hS hl
theorem z_aald (F : Fx g p s m args meth c cc nL own) {i : Int} {A : Prop} (k : Nat) {ty : FieldType} (ka : kd a = k + 15) (ht : (Tys g)[k + 2]? = some (g.2.1 (k + 2), ty)) (hty : ty.isReference = true) (d : decode cc pc = .ok (.aaload, 1)) (hq : pc + 1 = q) (hw : inb a i ∧ A) (kk : A → Z g p l e R s m args below meth c nL Q M q lv (.ref (g.2.2.1 + rt a (ix i)) :: st)) : Z g p l e R s m args below meth c nL Q M pc lv (.int (i3 i) :: .ref (g.2.2.1 + a) :: st) := by
  subst hq
  intro H locs ls hP hS hl
  have hk : k < 5 := by
    have := (List.getElem?_eq_some_iff.mp ht).1
    simp [Tys] at this
    omega
  have hlt : a < NN := kd_lt ka (by omega)
  have hin : vp_in (i3 i) (ln a) := (i3_in i (ln a)).mpr hw.1
  have hi : (i3 i).toNatClampNeg < ln a := Nat.not_le.mp fun q => hin (Or.inr q)
  have hcell : H[g.2.2.1 + a]? = some (vp_cell (g.2.1 (k + 2)) (ln a, .inr (.inr (.inr (.inr (fun j => some (g.2.2.1 + rt a j))))))) := hP a (g.2.2.1 + a, .inl (g.2.1 (k + 2), ln a, .inr (.inr (.inr (.inr (fun j => some (g.2.2.1 + rt a j))))))) (by rw [wS_get hlt, cel_q ka])
  refine W.aald (v := .ref (g.2.2.1 + rt a (ix i))) (ty := ty) F.1 F.2.1 hcell ((F.2.2.2.2.2.1.2 (k + 2) _ ht).1 (ln a) (fun j => va_rf (some (g.2.2.1 + rt a j)))) hty (fun q => by cases q) ?_ ?_ rfl rfl d (kk hw.2 H locs ls hP hS hl)
  · show ¬ (i3 i < 0 ∨ (arrV _ _ _).slots.size ≤ _)
    rw [arrV_size]
    exact hin
  · show (arrV _ _ _).slots[_]? = _
    rw [arrV_read _ _ hi, i3_cl]
    rfl
theorem z_iast (F : Fx g p s m args meth c cc nL own) {i w : Int} {A : Prop} (ka : kd a = 13) (d : decode cc pc = .ok (.iastore, 1)) (hq : pc + 1 = q) (hw : inb a i ∧ A) (kk : A → Z g p l e R s m args below meth c nL Q (st2 M a (ix i) w) q lv st) : Z g p l e R s m args below meth c nL Q M pc lv (.int (i3 w) :: .int (i3 i) :: .ref (g.2.2.1 + a) :: st) := by
  subst hq
  intro H locs ls hP hS hl
  have hlt : a < NN := kd_lt ka (by omega)
  refine va_iast (n := ln a) (f := fun j => i3 (M a j)) F.1 F.2.1 F.2.2.2.2.2.1 hP (wS_D g M) hS a 0 (cA := g.2.1 0) ?_ rfl ((i3_in i (ln a)).mpr hw.1) d (fun H1 locs1 hP1 _ hS1 => ?_)
  · rw [wS_get hlt, cel_i ka]
  · have e : (wS g M).set a (g.2.2.1 + a, .inl (g.2.1 0, ln a, .inl (upd (fun j => i3 (M a j)) (i3 i).toNatClampNeg (i3 w)))) = wS g (st2 M a (ix i) w) := by
      have e2 : upd (fun j => i3 (M a j)) (i3 i).toNatClampNeg (i3 w) = fun j => i3 (st2 M a (ix i) w a j) := by
        funext j
        rw [i3_cl]
        by_cases hj : j = ix i <;> simp [upd, st2, hj]
      rw [e2, ← cel_i ka (g := g) (M := st2 M a (ix i) w)]
      exact wS_set (fun a ha => cel_st2 ha)
    rw [e] at hP1
    exact kk hw.2 H1 locs1 ls hP1 hS1 hl
theorem z_last (F : Fx g p s m args meth c cc nL own) {i w : Int} {A : Prop} (ka : kd a = 14) (d : decode cc pc = .ok (.lastore, 1)) (hq : pc + 1 = q) (hw : inb a i ∧ A) (kk : A → Z g p l e R s m args below meth c nL Q (st2 M a (ix i) w) q lv st) : Z g p l e R s m args below meth c nL Q M pc lv (.long (i6 w) :: .int (i3 i) :: .ref (g.2.2.1 + a) :: st) := by
  subst hq
  intro H locs ls hP hS hl
  have hlt : a < NN := kd_lt ka (by omega)
  refine va_last (n := ln a) (f := fun j => i6 (M a j)) F.1 F.2.1 F.2.2.2.2.2.1 hP (wS_D g M) hS a 1 (cA := g.2.1 1) ?_ rfl ((i3_in i (ln a)).mpr hw.1) d (fun H1 locs1 hP1 _ hS1 => ?_)
  · rw [wS_get hlt, cel_l ka]
  · have e : (wS g M).set a (g.2.2.1 + a, .inl (g.2.1 1, ln a, .inr (.inl (vp_updL (fun j => i6 (M a j)) (i3 i).toNatClampNeg (i6 w))))) = wS g (st2 M a (ix i) w) := by
      have e2 : vp_updL (fun j => i6 (M a j)) (i3 i).toNatClampNeg (i6 w) = fun j => i6 (st2 M a (ix i) w a j) := by
        funext j
        rw [i3_cl]
        by_cases hj : j = ix i <;> simp [vp_updL, st2, hj]
      rw [e2, ← cel_l ka (g := g) (M := st2 M a (ix i) w)]
      exact wS_set (fun a ha => cel_st2 ha)
    rw [e] at hP1
    exact kk hw.2 H1 locs1 ls hP1 hS1 hl
theorem z_alen (F : Fx g p s m args meth c cc nL own) (ka : kd a = 13) (d : decode cc pc = .ok (.arraylength, 1)) (hq : pc + 1 = q) (kk : Z g p l e R s m args below meth c nL Q M q lv (.int (i3 (ln a : Int)) :: st)) : Z g p l e R s m args below meth c nL Q M pc lv (.ref (g.2.2.1 + a) :: st) := by
  subst hq
  intro H locs ls hP hS hl
  have hlt : a < NN := kd_lt ka (by omega)
  refine va_alen F.1 F.2.1 F.2.2.2.2.2.1 hP a 0 (cA := g.2.1 0) (x := (ln a, .inl (fun j => i3 (M a j)))) ?_ (ty := .int) rfl rfl d (kk H locs ls hP hS hl)
  rw [wS_get hlt, cel_i ka]
theorem z_under (F : Fx g p s m args meth c cc nL own) (d : decode cc pc = .ok (.getstatic 37, 3)) (ho : own = "DuesOnRungs$Bond") (hq : pc + 3 = q) (kk : Z g p l e R s m args below meth c nL Q M q lv (.ref g.2.2.2 :: st)) : Z g p l e R s m args below meth c nL Q M pc lv st := by
  subst hq
  subst ho
  intro H locs ls hP hS hl
  exact va_getsN F.1 F.2.1 F.2.2.2.2.2.2.2.1 hS F.2.2.2.1 (va_Nw.use rfl F.2.2.2.2.2.2.2.2.2) (fun _ h9 => h9) d (kk H locs ls hP hS hl)
theorem z_ulen (F : Fx g p s m args meth c cc nL own) (d : decode cc pc = .ok (.arraylength, 1)) (hq : pc + 1 = q) (kk : Z g p l e R s m args below meth c nL Q M q lv (.int (i3 6) :: st)) : Z g p l e R s m args below meth c nL Q M pc lv (.ref g.2.2.2 :: st) := by
  subst hq
  intro H locs ls hP hS hl
  exact va_tlen F.1 F.2.1 F.2.2.2.2.2.2.2.2.1 hS rfl d (kk H locs ls hP hS hl)
theorem z_uald (F : Fx g p s m args meth c cc nL own) {i : Int} {A : Prop} (d : decode cc pc = .ok (.iaload, 1)) (hq : pc + 1 = q) (hw : (0 ≤ w32 i ∧ w32 i < 6) ∧ A) (kk : A → Z g p l e R s m args below meth c nL Q M q lv (.int (i3 (und (ix i))) :: st)) : Z g p l e R s m args below meth c nL Q M pc lv (.int (i3 i) :: .ref g.2.2.2 :: st) := by
  subst hq
  intro H locs ls hP hS hl
  refine va_ti F.1 F.2.1 F.2.2.2.2.2.2.2.2.1 hS ((i3_in i 6).mpr hw.1) rfl d ?_
  rw [i3_cl]
  exact kk hw.2 H locs ls hP hS hl
theorem z_iret (F : Fx g p s m args meth c cc nL own) {Qp : Int → Mem → Prop} {x : Int} (hr : meth.sig.returnType = some .int) (d : decode cc pc = .ok (.ireturn, 1)) (hw : Qp x M) : Z g p l e R s m args below meth c nL (MQ below (va_Qi (S := Int × Mem) (fun r u => r = i3 u.1 ∧ Qp u.1 u.2) (fun u => Rp g u.2) (aR g)) args s 0 0 (aR g)) M pc lv [.int (i3 x)] := by
  intro H locs ls hP hS hl
  have hlocks := F.2.2.2.2.2.2.1
  exact W.iret (v := i3 x) F.1 F.2.1 hr (fun t ht hW => ⟨⟨_, (x, M), rfl, ⟨rfl, hw⟩, Fx_Rp F (by rw [ht]; exact hP) hW (by rw [ht]; exact hS)⟩, hS.F ht⟩) hS.2.2 d
theorem z_zret (F : Fx g p s m args meth c cc nL own) {Qp : Bool → Mem → Prop} {x : Bool} (hr : meth.sig.returnType = some .boolean) (d : decode cc pc = .ok (.ireturn, 1)) (hw : Qp x M) : Z g p l e R s m args below meth c nL (MQ below (va_Qi (S := Bool × Mem) (fun r u => r = i3 (bz u.1) ∧ Qp u.1 u.2) (fun u => Rp g u.2) (aR g)) args s 0 0 (aR g)) M pc lv [.int (i3 (bz x))] := by
  intro H locs ls hP hS hl
  have hlocks := F.2.2.2.2.2.2.1
  exact W.zret (v := i3 (bz x)) (ty := .boolean) F.1 F.2.1 hr (by cases x <;> decide) (fun t ht hW => ⟨⟨_, (x, M), rfl, ⟨rfl, hw⟩, Fx_Rp F (by rw [ht]; exact hP) hW (by rw [ht]; exact hS)⟩, hS.F ht⟩) hS.2.2 d
theorem z_lret (F : Fx g p s m args meth c cc nL own) {Qp : Int → Mem → Prop} {x : Int} (hr : meth.sig.returnType = some .long) (d : decode cc pc = .ok (.lreturn, 1)) (hw : Qp x M) : Z g p l e R s m args below meth c nL (MQ below (va_Ql (S := Int × Mem) (fun r u => r = i6 u.1 ∧ Qp u.1 u.2) (fun u => Rp g u.2) (aR g)) args s 0 0 (aR g)) M pc lv [.long (i6 x)] := by
  intro H locs ls hP hS hl
  have hlocks := F.2.2.2.2.2.2.1
  exact W.lret (v := i6 x) F.1 F.2.1 hr (fun t ht hW => ⟨⟨_, (x, M), rfl, ⟨rfl, hw⟩, Fx_Rp F (by rw [ht]; exact hP) hW (by rw [ht]; exact hS)⟩, hS.F ht⟩) hS.2.2 d
theorem z_vret (F : Fx g p s m args meth c cc nL own) {Qp : Mem → Prop} (hr : meth.sig.returnType = none) (d : decode cc pc = .ok (.return_, 1)) (hw : Qp M) : Z g p l e R s m args below meth c nL (MQ below (va_Qv (S := Mem) Qp (fun u => Rp g u) (aR g)) args s 0 0 (aR g)) M pc lv [] := by
  intro H locs ls hP hS hl
  have hlocks := F.2.2.2.2.2.2.1
  exact W.vret F.1 F.2.1 hr (fun t ht hW => ⟨⟨M, rfl, hw, Fx_Rp F (by rw [ht]; exact hP) hW (by rw [ht]; exact hS)⟩, hS.F ht⟩) hS.2.2 d
theorem z_iretp (F : Fx g p s m args meth c cc nL own) {Qp : Int → Prop} {x : Int} (hr : meth.sig.returnType = some .int) (d : decode cc pc = .ok (.ireturn, 1)) (hw : Qp x) : Z g p l e R s m args below meth c nL (MQ below (va_Qi (S := Int × Mem) (fun r u => r = i3 u.1 ∧ (u.2 = M ∧ Qp u.1)) (fun u => Rp g u.2) (aR g)) args s 0 0 (aR g)) M pc lv [.int (i3 x)] := by
  exact z_iret (Qp := fun r M2 => M2 = M ∧ Qp r) F hr d ⟨rfl, hw⟩
theorem z_zretp (F : Fx g p s m args meth c cc nL own) {Qp : Bool → Prop} {x : Bool} (hr : meth.sig.returnType = some .boolean) (d : decode cc pc = .ok (.ireturn, 1)) (hw : Qp x) : Z g p l e R s m args below meth c nL (MQ below (va_Qi (S := Bool × Mem) (fun r u => r = i3 (bz u.1) ∧ (u.2 = M ∧ Qp u.1)) (fun u => Rp g u.2) (aR g)) args s 0 0 (aR g)) M pc lv [.int (i3 (bz x))] := by
  exact z_zret (Qp := fun r M2 => M2 = M ∧ Qp r) F hr d ⟨rfl, hw⟩
theorem z_lretp (F : Fx g p s m args meth c cc nL own) {Qp : Int → Prop} {x : Int} (hr : meth.sig.returnType = some .long) (d : decode cc pc = .ok (.lreturn, 1)) (hw : Qp x) : Z g p l e R s m args below meth c nL (MQ below (va_Ql (S := Int × Mem) (fun r u => r = i6 u.1 ∧ (u.2 = M ∧ Qp u.1)) (fun u => Rp g u.2) (aR g)) args s 0 0 (aR g)) M pc lv [.long (i6 x)] := by
  exact z_lret (Qp := fun r M2 => M2 = M ∧ Qp r) F hr d ⟨rfl, hw⟩
end ZM
