abbrev rm_X12_length : Room := { frames := 9, cells := 0, slots := 0, locals := 242 }
def wp_X12_length_b87 (a0 : Nat) (Q : Int → Mem → Prop) (M : Mem) (x3 : Int) : Prop :=
  wp_X12_part a0 x3 M (fun r89 =>
  Q r89 M)
def wp_X12_length (a0 : Nat) (a1 : Int) (a2 : Int) (a3 : Int) (M : Mem) (Q : Int → Mem → Prop) : Prop :=
  wp_X12_isRow a0 a1 M (fun r2 =>
  ((r2 = false → (
    Q (-9223372036854775808) M)) ∧
  (r2 = true → (
    wp_X12_within a2 0 1 M (fun r11 =>
    ((r11 = false → (
      Q (-9223372036854775808) M)) ∧
    (r11 = true → (
      wp_X12_within a3 0 1 M (fun r20 =>
      ((r20 = true → (
        ∀ M32 : Mem, M32 = st2 M a0 8 (bz false) →
        wp_X12_worthOf a0 a1 M32 (fun M37 =>
        (((fb M37 a0 8) = true → (
          Q (-9223372036854775808) M37)) ∧
        ((fb M37 a0 8) = false → (
          (((¬ w64 (M37 a0 9) = w64 0) → (
            wp_X12_lengthOf a0 a1 false 0 1 M37 (fun M65 =>
            (((¬ w32 a2 = w32 1) → (
              wp_X12_length_b87 a0 Q M65 a3)) ∧
            (¬ (¬ w32 a2 = w32 1) → (
              wp_X12_lengthOf a0 a1 true (M65 a0 9) (M65 a0 10) M65 (fun M84 =>
              wp_X12_length_b87 a0 Q M84 a3))))))) ∧
          (¬ (¬ w64 (M37 a0 9) = w64 0) → (
            Q (-9223372036854775808) M37))))))))) ∧
      (r20 = false → (
        Q (-9223372036854775808) M))))))))))))
set_option maxRecDepth 100000 in
set_option maxHeartbeats 4000000 in
theorem bk_X12_length_87 {g : En} {p : Program} {l : Launch} {e : Env} {s : State} {m : MethodId} {args : Array Value} {below : List Frame} {meth : Method} {c : Code} {M : Mem} {a0 : Nat} {Q : Int → Mem → Prop} {x3 : Int} (F : Fx g p s m args meth c cX12_length 4 RX12) (hr : meth.sig.returnType = (some .long)) (k0 : kd a0 = 12)
    (hw : wp_X12_length_b87 a0 Q M x3) : Z g p l e rm_X12_length s m args below meth c 4 (MQ below (va_Ql (S := Int × Mem) (fun r u => r = i6 u.1 ∧ Q u.1 u.2) (fun u => Rp g u.2) (aR g)) args s 0 0 (aR g)) M 87 [(0, .ref (g.2.2.1 + a0)), (3, .int (i3 x3))] [] := by
  refine z_aload_n F dX12_length_87 rfl rfl 0 rfl ?_
  refine z_iload_n F dX12_length_88 rfl rfl 1 rfl ?_
  refine z_cVlp (As := [.int (i3 x3)]) (st := []) F (c_X12_part l g k0 hw) cv_X12_part w_1274 ⟨rfl, rfl, Nat.le_of_ble_eq_true rfl, Nat.le_of_ble_eq_true rfl⟩ k0 rfl rfl (Nat.le_of_ble_eq_true rfl) dX12_length_89 rfl (fun r89 hw => ?_)
  exact z_lret (x := r89) F hr dX12_length_92 hw
set_option maxRecDepth 100000 in
set_option maxHeartbeats 4000000 in
theorem c_X12_length (l : Launch) (g : En) {a0 : Nat} {a1 : Int} {a2 : Int} {a3 : Int} {M : Mem} {Q : Int → Mem → Prop} (k0 : kd a0 = 12) (hw : wp_X12_length a0 a1 a2 a3 M Q) :
    Met l yX12_length (WS yX12_length cX12_length 4 (some .long)) rm_X12_length (va_Pc [.ref (g.2.2.1 + a0), .int (i3 a1), .int (i3 a2), .int (i3 a3)] (Rp g M)) (va_Ql (S := Int × Mem) (fun r u => r = i6 u.1 ∧ Q u.1 u.2) (fun u => Rp g u.2) (aR g)) 0 0 (aR g) := by
  refine met_Z (plainFor_of_name rfl) (Nat.le_of_ble_eq_true rfl) ?_
  intro p e s m args below meth c F hr _
  show Z g p l e rm_X12_length s m args below meth c 4 (MQ below (va_Ql (S := Int × Mem) (fun r u => r = i6 u.1 ∧ Q u.1 u.2) (fun u => Rp g u.2) (aR g)) args s 0 0 (aR g)) M 0 [(0, .ref (g.2.2.1 + a0)), (1, .int (i3 a1)), (2, .int (i3 a2)), (3, .int (i3 a3))] []
  refine z_aload_n F dX12_length_0 rfl rfl 0 rfl ?_
  refine z_iload_n F dX12_length_1 rfl rfl 1 rfl ?_
  refine z_cVbp (As := [.int (i3 a1)]) (st := []) F (c_X12_isRow l g k0 hw) cv_X12_isRow w_1218 ⟨rfl, rfl, Nat.le_of_ble_eq_true rfl, Nat.le_of_ble_eq_true rfl⟩ k0 rfl rfl (Nat.le_of_ble_eq_true rfl) dX12_length_2 rfl (fun r2 hw => ?_)
  refine z_ifb_eq F dX12_length_5 rfl rfl hw (fun hw => ?_) (fun hw => ?_)
  · refine z_ldc2 (n := (-9223372036854775808)) F w_1222 (by decide) dX12_length_26 rfl ?_
    exact z_lret (x := (-9223372036854775808)) F hr dX12_length_29 hw
  · refine z_iload_n F dX12_length_8 rfl rfl 2 rfl ?_
    refine z_iconst F dX12_length_9 rfl ?_
    refine z_iconst F dX12_length_10 rfl ?_
    refine z_cSbp (As := [.int (i3 a2), .int (i3 0), .int (i3 1)]) (st := []) F (c_X12_within l g hw) cs_X12_within w_1102 ⟨rfl, rfl, Nat.le_of_ble_eq_true rfl, Nat.le_of_ble_eq_true rfl⟩ rfl (Nat.le_of_ble_eq_true rfl) dX12_length_11 rfl (fun r11 hw => ?_)
    refine z_ifb_eq F dX12_length_14 rfl rfl hw (fun hw => ?_) (fun hw => ?_)
    · refine z_ldc2 (n := (-9223372036854775808)) F w_1222 (by decide) dX12_length_26 rfl ?_
      exact z_lret (x := (-9223372036854775808)) F hr dX12_length_29 hw
    · refine z_iload_n F dX12_length_17 rfl rfl 3 rfl ?_
      refine z_iconst F dX12_length_18 rfl ?_
      refine z_iconst F dX12_length_19 rfl ?_
      refine z_cSbp (As := [.int (i3 a3), .int (i3 0), .int (i3 1)]) (st := []) F (c_X12_within l g hw) cs_X12_within w_1102 ⟨rfl, rfl, Nat.le_of_ble_eq_true rfl, Nat.le_of_ble_eq_true rfl⟩ rfl (Nat.le_of_ble_eq_true rfl) dX12_length_20 rfl (fun r20 hw => ?_)
      refine z_ifb_ne F dX12_length_23 rfl rfl hw (fun hw => ?_) (fun hw => ?_)
      · refine z_aload_n F dX12_length_30 rfl rfl 0 rfl ?_
        refine z_iconst F dX12_length_31 rfl ?_
        refine z_putB (r := false) F fp_1000 k0 dX12_length_32 rfl ?_
        refine z_nmM (fun M32 eM32 => ?_)
        have hw := hw M32 eM32
        refine z_aload_n F dX12_length_35 rfl rfl 0 rfl ?_
        refine z_iload_n F dX12_length_36 rfl rfl 1 rfl ?_
        refine z_cVv (As := [.int (i3 a1)]) (st := []) F (c_X12_worthOf l g k0 hw) cv_X12_worthOf w_1223 ⟨rfl, rfl, Nat.le_of_ble_eq_true rfl, Nat.le_of_ble_eq_true rfl⟩ k0 rfl rfl (Nat.le_of_ble_eq_true rfl) dX12_length_37 rfl (fun M37 hw => ?_)
        refine z_aload_n F dX12_length_40 rfl rfl 0 rfl ?_
        refine z_getB F fl_1000 k0 dX12_length_41 rfl ?_
        refine z_ifb_ne F dX12_length_44 rfl rfl hw (fun hw => ?_) (fun hw => ?_)
        · refine z_ldc2 (n := (-9223372036854775808)) F w_1222 (by decide) dX12_length_56 rfl ?_
          exact z_lret (x := (-9223372036854775808)) F hr dX12_length_59 hw
        · refine z_aload_n F dX12_length_47 rfl rfl 0 rfl ?_
          refine z_getL F fl_1001 k0 dX12_length_48 rfl ?_
          refine z_lconst (v := 0) F dX12_length_51 rfl rfl ?_
          refine z_lcmp_ne F dX12_length_52 rfl dX12_length_53 rfl rfl hw (fun hw => ?_) (fun hw => ?_)
          · refine z_aload_n F dX12_length_60 rfl rfl 0 rfl ?_
            refine z_iload_n F dX12_length_61 rfl rfl 1 rfl ?_
            refine z_iconst F dX12_length_62 rfl ?_
            refine z_lconst (v := 0) F dX12_length_63 rfl rfl ?_
            refine z_lconst (v := 1) F dX12_length_64 rfl rfl ?_
            refine z_cVv (As := [.int (i3 a1), .int (i3 (bz false)), .long (i6 0), .long (i6 1)]) (st := []) F (c_X12_lengthOf l g k0 hw) cv_X12_lengthOf w_1282 ⟨rfl, rfl, Nat.le_of_ble_eq_true rfl, Nat.le_of_ble_eq_true rfl⟩ k0 rfl rfl (Nat.le_of_ble_eq_true rfl) dX12_length_65 rfl (fun M65 hw => ?_)
            refine z_iload_n F dX12_length_68 rfl rfl 2 rfl ?_
            refine z_iconst F dX12_length_69 rfl ?_
            refine z_icmp_ne F dX12_length_70 rfl rfl hw (fun hw => ?_) (fun hw => ?_)
            · refine z_sub [0, 3] rfl ?_
              exact bk_X12_length_87 F hr k0 hw
            · refine z_aload_n F dX12_length_73 rfl rfl 0 rfl ?_
              refine z_iload_n F dX12_length_74 rfl rfl 1 rfl ?_
              refine z_iconst F dX12_length_75 rfl ?_
              refine z_aload_n F dX12_length_76 rfl rfl 0 rfl ?_
              refine z_getL F fl_1001 k0 dX12_length_77 rfl ?_
              refine z_aload_n F dX12_length_80 rfl rfl 0 rfl ?_
              refine z_getL F fl_1002 k0 dX12_length_81 rfl ?_
              refine z_cVv (As := [.int (i3 a1), .int (i3 (bz true)), .long (i6 (M65 a0 9)), .long (i6 (M65 a0 10))]) (st := []) F (c_X12_lengthOf l g k0 hw) cv_X12_lengthOf w_1282 ⟨rfl, rfl, Nat.le_of_ble_eq_true rfl, Nat.le_of_ble_eq_true rfl⟩ k0 rfl rfl (Nat.le_of_ble_eq_true rfl) dX12_length_84 rfl (fun M84 hw => ?_)
              refine z_sub [0, 3] rfl ?_
              exact bk_X12_length_87 F hr k0 hw
          · refine z_ldc2 (n := (-9223372036854775808)) F w_1222 (by decide) dX12_length_56 rfl ?_
            exact z_lret (x := (-9223372036854775808)) F hr dX12_length_59 hw
      · refine z_ldc2 (n := (-9223372036854775808)) F w_1222 (by decide) dX12_length_26 rfl ?_
        exact z_lret (x := (-9223372036854775808)) F hr dX12_length_29 hw
theorem cv_X12_length : CV yX12_length RX12 cX12_length 4 (some .long) 3 := ⟨w_1279, w_1280, w_80, w_1281, rfl, by decide +kernel, by decide +kernel, by decide +kernel⟩
abbrev rm_X12_surplus : Room := { frames := 8, cells := 0, slots := 0, locals := 207 }
def wp_X12_surplus (a0 : Nat) (a1 : Int) (M : Mem) (Q : Int → Mem → Prop) : Prop :=
  wp_X12_within a1 0 1 M (fun r3 =>
  ((r3 = true → (
    ∀ M15 : Mem, M15 = st2 M a0 8 (bz false) →
    wp_X12_worthOf a0 (-1) M15 (fun M20 =>
    wp_X12_product a0 (M20 a0 9) (M20 a0 10) (-1) 1 M20 (fun M36 =>
    wp_X12_worthOf a0 (-2) M36 (fun M53 =>
    wp_X12_sum a0 (M53 a0 9) (M53 a0 10) (M36 a0 9) (M36 a0 10) M53 (fun M68 =>
    wp_X12_part a0 a1 M68 (fun r73 =>
    Q r73 M68))))))) ∧
  (r3 = false → (
    Q (-9223372036854775808) M))))
set_option maxRecDepth 100000 in
set_option maxHeartbeats 4000000 in
theorem c_X12_surplus (l : Launch) (g : En) {a0 : Nat} {a1 : Int} {M : Mem} {Q : Int → Mem → Prop} (k0 : kd a0 = 12) (hw : wp_X12_surplus a0 a1 M Q) :
    Met l yX12_surplus (WS yX12_surplus cX12_surplus 6 (some .long)) rm_X12_surplus (va_Pc [.ref (g.2.2.1 + a0), .int (i3 a1)] (Rp g M)) (va_Ql (S := Int × Mem) (fun r u => r = i6 u.1 ∧ Q u.1 u.2) (fun u => Rp g u.2) (aR g)) 0 0 (aR g) := by
  refine met_Z (plainFor_of_name rfl) (Nat.le_of_ble_eq_true rfl) ?_
  intro p e s m args below meth c F hr _
  show Z g p l e rm_X12_surplus s m args below meth c 6 (MQ below (va_Ql (S := Int × Mem) (fun r u => r = i6 u.1 ∧ Q u.1 u.2) (fun u => Rp g u.2) (aR g)) args s 0 0 (aR g)) M 0 [(0, .ref (g.2.2.1 + a0)), (1, .int (i3 a1))] []
  refine z_iload_n F dX12_surplus_0 rfl rfl 1 rfl ?_
  refine z_iconst F dX12_surplus_1 rfl ?_
  refine z_iconst F dX12_surplus_2 rfl ?_
  refine z_cSbp (As := [.int (i3 a1), .int (i3 0), .int (i3 1)]) (st := []) F (c_X12_within l g hw) cs_X12_within w_1102 ⟨rfl, rfl, Nat.le_of_ble_eq_true rfl, Nat.le_of_ble_eq_true rfl⟩ rfl (Nat.le_of_ble_eq_true rfl) dX12_surplus_3 rfl (fun r3 hw => ?_)
  refine z_ifb_ne F dX12_surplus_6 rfl rfl hw (fun hw => ?_) (fun hw => ?_)
  · refine z_aload_n F dX12_surplus_13 rfl rfl 0 rfl ?_
    refine z_iconst F dX12_surplus_14 rfl ?_
    refine z_putB (r := false) F fp_1000 k0 dX12_surplus_15 rfl ?_
    refine z_nmM (fun M15 eM15 => ?_)
    have hw := hw M15 eM15
    refine z_aload_n F dX12_surplus_18 rfl rfl 0 rfl ?_
    refine z_iconst F dX12_surplus_19 rfl ?_
    refine z_cVv (As := [.int (i3 (-1))]) (st := []) F (c_X12_worthOf l g k0 hw) cv_X12_worthOf w_1223 ⟨rfl, rfl, Nat.le_of_ble_eq_true rfl, Nat.le_of_ble_eq_true rfl⟩ k0 rfl rfl (Nat.le_of_ble_eq_true rfl) dX12_surplus_20 rfl (fun M20 hw => ?_)
    refine z_aload_n F dX12_surplus_23 rfl rfl 0 rfl ?_
    refine z_aload_n F dX12_surplus_24 rfl rfl 0 rfl ?_
    refine z_getL F fl_1001 k0 dX12_surplus_25 rfl ?_
    refine z_aload_n F dX12_surplus_28 rfl rfl 0 rfl ?_
    refine z_getL F fl_1002 k0 dX12_surplus_29 rfl ?_
    refine z_ldc2 (n := (-1)) F w_1286 (by decide) dX12_surplus_32 rfl ?_
    refine z_lconst (v := 1) F dX12_surplus_35 rfl rfl ?_
    refine z_cVv (As := [.long (i6 (M20 a0 9)), .long (i6 (M20 a0 10)), .long (i6 (-1)), .long (i6 1)]) (st := []) F (c_X12_product l g k0 hw) cv_X12_product w_1258 ⟨rfl, rfl, Nat.le_of_ble_eq_true rfl, Nat.le_of_ble_eq_true rfl⟩ k0 rfl rfl (Nat.le_of_ble_eq_true rfl) dX12_surplus_36 rfl (fun M36 hw => ?_)
    refine z_aload_n F dX12_surplus_39 rfl rfl 0 rfl ?_
    refine z_getL F fl_1001 k0 dX12_surplus_40 rfl ?_
    refine z_lstore_n F dX12_surplus_43 rfl rfl (by decide) rfl ?_
    refine z_aload_n F dX12_surplus_44 rfl rfl 1 rfl ?_
    refine z_getL F fl_1002 k0 dX12_surplus_45 rfl ?_
    refine z_lstore F dX12_surplus_48 rfl (by decide) rfl ?_
    refine z_aload_n F dX12_surplus_50 rfl rfl 2 rfl ?_
    refine z_bipush F dX12_surplus_51 (by decide) rfl ?_
    refine z_cVv (As := [.int (i3 (-2))]) (st := []) F (c_X12_worthOf l g k0 hw) cv_X12_worthOf w_1223 ⟨rfl, rfl, Nat.le_of_ble_eq_true rfl, Nat.le_of_ble_eq_true rfl⟩ k0 rfl rfl (Nat.le_of_ble_eq_true rfl) dX12_surplus_53 rfl (fun M53 hw => ?_)
    refine z_aload_n F dX12_surplus_56 rfl rfl 2 rfl ?_
    refine z_aload_n F dX12_surplus_57 rfl rfl 2 rfl ?_
    refine z_getL F fl_1001 k0 dX12_surplus_58 rfl ?_
    refine z_aload_n F dX12_surplus_61 rfl rfl 2 rfl ?_
    refine z_getL F fl_1002 k0 dX12_surplus_62 rfl ?_
    refine z_lload_n F dX12_surplus_65 rfl rfl 1 rfl ?_
    refine z_lload F dX12_surplus_66 rfl 0 rfl ?_
    refine z_cVv (As := [.long (i6 (M53 a0 9)), .long (i6 (M53 a0 10)), .long (i6 (M36 a0 9)), .long (i6 (M36 a0 10))]) (st := []) F (c_X12_sum l g k0 hw) cv_X12_sum w_1266 ⟨rfl, rfl, Nat.le_of_ble_eq_true rfl, Nat.le_of_ble_eq_true rfl⟩ k0 rfl rfl (Nat.le_of_ble_eq_true rfl) dX12_surplus_68 rfl (fun M68 hw => ?_)
    refine z_aload_n F dX12_surplus_71 rfl rfl 2 rfl ?_
    refine z_iload_n F dX12_surplus_72 rfl rfl 3 rfl ?_
    refine z_cVlp (As := [.int (i3 a1)]) (st := []) F (c_X12_part l g k0 hw) cv_X12_part w_1274 ⟨rfl, rfl, Nat.le_of_ble_eq_true rfl, Nat.le_of_ble_eq_true rfl⟩ k0 rfl rfl (Nat.le_of_ble_eq_true rfl) dX12_surplus_73 rfl (fun r73 hw => ?_)
    exact z_lret (x := r73) F hr dX12_surplus_76 hw
  · refine z_ldc2 (n := (-9223372036854775808)) F w_1222 (by decide) dX12_surplus_9 rfl ?_
    exact z_lret (x := (-9223372036854775808)) F hr dX12_surplus_12 hw
theorem cv_X12_surplus : CV yX12_surplus RX12 cX12_surplus 6 (some .long) 1 := ⟨w_1288, w_1289, w_80, w_1290, rfl, by decide +kernel, by decide +kernel, by decide +kernel⟩
abbrev rm_X12_isRoom : Room := { frames := 0, cells := 0, slots := 0, locals := 0 }
def wp_X12_isRoom (a0 : Nat) (a1 : Int) (M : Mem) (Q : Bool → Prop) : Prop :=
  (((w32 ((M a0 5) - 1) ≤ w32 a1) → (
    Q false)) ∧
  (¬ (w32 ((M a0 5) - 1) ≤ w32 a1) → (
    inb (rt a0 6) a1 ∧ (
    inb (rt a0 2) (M (rt a0 6) (ix a1)) ∧ (
    (((w32 (M (rt a0 2) (ix (M (rt a0 6) (ix a1)))) ≤ 0) → (
      Q false)) ∧
    (¬ (w32 (M (rt a0 2) (ix (M (rt a0 6) (ix a1)))) ≤ 0) → (
      Q true))))))))
set_option maxRecDepth 100000 in
set_option maxHeartbeats 4000000 in
theorem c_X12_isRoom (l : Launch) (g : En) {a0 : Nat} {a1 : Int} {M : Mem} {Q : Bool → Prop} (k0 : kd a0 = 12) (hw : wp_X12_isRoom a0 a1 M Q) :
    Met l yX12_isRoom (WS yX12_isRoom cX12_isRoom 2 (some .boolean)) rm_X12_isRoom (va_Pc [.ref (g.2.2.1 + a0), .int (i3 a1)] (Rp g M)) (va_Qi (S := Bool × Mem) (fun r u => r = i3 (bz u.1) ∧ (u.2 = M ∧ Q u.1)) (fun u => Rp g u.2) (aR g)) 0 0 (aR g) := by
  refine met_Z (plainFor_of_name rfl) (Nat.le_of_ble_eq_true rfl) ?_
  intro p e s m args below meth c F hr _
  show Z g p l e rm_X12_isRoom s m args below meth c 2 (MQ below (va_Qi (S := Bool × Mem) (fun r u => r = i3 (bz u.1) ∧ (u.2 = M ∧ Q u.1)) (fun u => Rp g u.2) (aR g)) args s 0 0 (aR g)) M 0 [(0, .ref (g.2.2.1 + a0)), (1, .int (i3 a1))] []
  refine z_iload_n F dX12_isRoom_0 rfl rfl 1 rfl ?_
  refine z_aload_n F dX12_isRoom_1 rfl rfl 0 rfl ?_
  refine z_getI F fl_997 k0 dX12_isRoom_2 rfl ?_
  refine z_iconst F dX12_isRoom_5 rfl ?_
  refine z_isub F dX12_isRoom_6 rfl ?_
  refine z_icmp_ge F dX12_isRoom_7 rfl rfl hw (fun hw => ?_) (fun hw => ?_)
  · refine z_iconst F dX12_isRoom_28 rfl ?_
    exact z_zretp (x := false) F hr dX12_isRoom_29 hw
  · refine z_aload_n F dX12_isRoom_10 rfl rfl 0 rfl ?_
    refine z_getR F fl_994 k0 dX12_isRoom_11 rfl ?_
    refine z_aload_n F dX12_isRoom_14 rfl rfl 0 rfl ?_
    refine z_getR F fl_998 k0 dX12_isRoom_15 rfl ?_
    refine z_iload_n F dX12_isRoom_18 rfl rfl 1 rfl ?_
    refine z_iald F (tk_12_6 k0) dX12_isRoom_19 rfl hw (fun hw => ?_)
    refine z_iald F (tk_12_2 k0) dX12_isRoom_20 rfl hw (fun hw => ?_)
    refine z_if_le F dX12_isRoom_21 rfl rfl hw (fun hw => ?_) (fun hw => ?_)
    · refine z_iconst F dX12_isRoom_28 rfl ?_
      exact z_zretp (x := false) F hr dX12_isRoom_29 hw
    · refine z_iconst F dX12_isRoom_24 rfl ?_
      refine z_goto F dX12_isRoom_25 rfl ?_
      exact z_zretp (x := true) F hr dX12_isRoom_29 hw
theorem cv_X12_isRoom : CV yX12_isRoom RX12 cX12_isRoom 2 (some .boolean) 1 := ⟨w_1309, w_53, w_80, w_1310, rfl, by decide +kernel, by decide +kernel, by decide +kernel⟩
abbrev rm_X12_comes : Room := { frames := 4, cells := 0, slots := 0, locals := 108 }
def wp_X12_comes_b165 (a0 : Nat) (Q : Mem → Prop) (K13 : Mem → Int → Prop) (M : Mem) (x2 : Bool) (x3 : Int) (x5 : Int) : Prop :=
  K13 M (x5 + 1)
def wp_X12_comes_b91 (a0 : Nat) (Q : Mem → Prop) (K13 : Mem → Int → Prop) (M : Mem) (x2 : Bool) (x3 : Int) (x5 : Int) : Prop :=
  (((¬ w32 x5 = w32 (M a0 3)) → (
    inb (rt a0 16) ((5 * (M a0 11)) + x5) ∧ (
    ∀ M146 : Mem, M146 = st2 M (rt a0 16) (ix ((5 * (M a0 11)) + x5)) (M a0 9) →
    inb (rt a0 17) ((5 * (M146 a0 11)) + x5) ∧ (
    ∀ M164 : Mem, M164 = st2 M146 (rt a0 17) (ix ((5 * (M146 a0 11)) + x5)) (M146 a0 10) →
    wp_X12_comes_b165 a0 Q K13 M164 x2 x3 x5)))) ∧
  (¬ (¬ w32 x5 = w32 (M a0 3)) → (
    inb (rt a0 14) (M a0 11) ∧ (
    ∀ M112 : Mem, M112 = st2 M (rt a0 14) (ix (M a0 11)) (M a0 9) →
    inb (rt a0 15) (M112 a0 11) ∧ (
    ∀ M125 : Mem, M125 = st2 M112 (rt a0 15) (ix (M112 a0 11)) (M112 a0 10) →
    wp_X12_comes_b165 a0 Q K13 M125 x2 x3 x5)))))
def wp_X12_comes_b64 (a0 : Nat) (Q : Mem → Prop) (K13 : Mem → Int → Prop) (M : Mem) (x2 : Bool) (x3 : Int) (x5 : Int) : Prop :=
  ((x2 = false → (
    wp_X12_comes_b91 a0 Q K13 M x2 x3 x5)) ∧
  (x2 = true → (
    (((¬ w32 x5 = w32 (M a0 3)) → (
      wp_X12_comes_b91 a0 Q K13 M x2 x3 x5)) ∧
    (¬ (¬ w32 x5 = w32 (M a0 3)) → (
      wp_X12_sum a0 x3 1 (M a0 9) (M a0 10) M (fun M88 =>
      wp_X12_comes_b91 a0 Q K13 M88 x2 x3 x5)))))))
def wp_X12_comes_B13 (a0 : Nat) (Q : Mem → Prop) (K13 : Mem → Int → Prop) (M : Mem) (x2 : Bool) (x3 : Int) (x5 : Int) : Prop :=
  (((w32 (M a0 3) < w32 x5) → (
    ∀ M178 : Mem, M178 = st2 M a0 11 ((M a0 11) + 1) →
    Q M178)) ∧
  (¬ (w32 (M a0 3) < w32 x5) → (
    inb (rt a0 18) x5 ∧ (
    ∀ M30 : Mem, M30 = st2 M a0 9 (M (rt a0 18) (ix x5)) →
    inb (rt a0 19) x5 ∧ (
    ∀ M41 : Mem, M41 = st2 M30 a0 10 (M30 (rt a0 19) (ix x5)) →
    ((x2 = false → (
      wp_X12_comes_b64 a0 Q K13 M41 x2 x3 x5)) ∧
    (x2 = true → (
      wp_X12_product a0 (M41 a0 9) (M41 a0 10) (-1) 1 M41 (fun M61 =>
      wp_X12_comes_b64 a0 Q K13 M61 x2 x3 x5)))))))))
def wp_X12_comes_L13 (a0 : Nat) (Q : Mem → Prop) (M : Mem) (x2 : Bool) (x3 : Int) (x5 : Int) : Prop :=
  ∃ (I : Mem → Int → Prop) (μ : Mem → Int → Nat), I M x5 ∧ ∀ (M : Mem) (x5 : Int), I M x5 →
    wp_X12_comes_B13 a0 Q (fun M' x5' => I M' x5' ∧ μ M' x5' < μ M x5) M x2 x3 x5
def wp_X12_comes (a0 : Nat) (a1 : Int) (a2 : Bool) (a3 : Int) (M : Mem) (Q : Mem → Prop) : Prop :=
  inb (rt a0 12) (M a0 11) ∧ (
  ∀ M9 : Mem, M9 = st2 M (rt a0 12) (ix (M a0 11)) a1 →
  wp_X12_comes_L13 a0 Q M9 a2 a3 0)
set_option maxRecDepth 100000 in
set_option maxHeartbeats 4000000 in
theorem bk_X12_comes_165 {g : En} {p : Program} {l : Launch} {e : Env} {s : State} {m : MethodId} {args : Array Value} {below : List Frame} {meth : Method} {c : Code} {M : Mem} {a0 : Nat} {Q : Mem → Prop} {K13 : Mem → Int → Prop} {x2 : Bool} {x3 : Int} {x5 : Int} (F : Fx g p s m args meth c cX12_comes 6 RX12) (hr : meth.sig.returnType = none) (k0 : kd a0 = 12)
    (hK13 : ∀ (M' : Mem) (x5' : Int), K13 M' x5' → Z g p l e rm_X12_comes s m args below meth c 6 (MQ below (va_Qv (S := Mem) Q (fun u => Rp g u) (aR g)) args s 0 0 (aR g)) M' 13 [(0, .ref (g.2.2.1 + a0)), (2, .int (i3 (bz x2))), (3, .long (i6 x3)), (5, .int (i3 x5'))] [])
    (hw : wp_X12_comes_b165 a0 Q K13 M x2 x3 x5) : Z g p l e rm_X12_comes s m args below meth c 6 (MQ below (va_Qv (S := Mem) Q (fun u => Rp g u) (aR g)) args s 0 0 (aR g)) M 165 [(0, .ref (g.2.2.1 + a0)), (2, .int (i3 (bz x2))), (3, .long (i6 x3)), (5, .int (i3 x5))] [] := by
  refine z_iinc F dX12_comes_165 rfl 3 rfl (by decide) rfl ?_
  refine z_goto F dX12_comes_168 rfl ?_
  refine z_sub [1, 2, 3, 0] rfl ?_
  exact hK13 M (x5 + 1) hw
set_option maxRecDepth 100000 in
set_option maxHeartbeats 4000000 in
theorem bk_X12_comes_91 {g : En} {p : Program} {l : Launch} {e : Env} {s : State} {m : MethodId} {args : Array Value} {below : List Frame} {meth : Method} {c : Code} {M : Mem} {a0 : Nat} {Q : Mem → Prop} {K13 : Mem → Int → Prop} {x2 : Bool} {x3 : Int} {x5 : Int} (F : Fx g p s m args meth c cX12_comes 6 RX12) (hr : meth.sig.returnType = none) (k0 : kd a0 = 12)
    (hK13 : ∀ (M' : Mem) (x5' : Int), K13 M' x5' → Z g p l e rm_X12_comes s m args below meth c 6 (MQ below (va_Qv (S := Mem) Q (fun u => Rp g u) (aR g)) args s 0 0 (aR g)) M' 13 [(0, .ref (g.2.2.1 + a0)), (2, .int (i3 (bz x2))), (3, .long (i6 x3)), (5, .int (i3 x5'))] [])
    (hw : wp_X12_comes_b91 a0 Q K13 M x2 x3 x5) : Z g p l e rm_X12_comes s m args below meth c 6 (MQ below (va_Qv (S := Mem) Q (fun u => Rp g u) (aR g)) args s 0 0 (aR g)) M 91 [(0, .ref (g.2.2.1 + a0)), (2, .int (i3 (bz x2))), (3, .long (i6 x3)), (5, .int (i3 x5))] [] := by
  refine z_iload F dX12_comes_91 rfl 3 rfl ?_
  refine z_aload_n F dX12_comes_93 rfl rfl 0 rfl ?_
  refine z_getI F fl_995 k0 dX12_comes_94 rfl ?_
  refine z_icmp_ne F dX12_comes_97 rfl rfl hw (fun hw => ?_) (fun hw => ?_)
  · refine z_aload_n F dX12_comes_129 rfl rfl 0 rfl ?_
    refine z_getR F fl_1008 k0 dX12_comes_130 rfl ?_
    refine z_iconst F dX12_comes_133 rfl ?_
    refine z_aload_n F dX12_comes_134 rfl rfl 0 rfl ?_
    refine z_getI F fl_1003 k0 dX12_comes_135 rfl ?_
    refine z_imul F dX12_comes_138 rfl ?_
    refine z_iload F dX12_comes_139 rfl 3 rfl ?_
    refine z_iadd F dX12_comes_141 rfl ?_
    refine z_aload_n F dX12_comes_142 rfl rfl 0 rfl ?_
    refine z_getL F fl_1001 k0 dX12_comes_143 rfl ?_
    refine z_last F (tk_12_16 k0) dX12_comes_146 rfl hw (fun hw => ?_)
    refine z_nmM (fun M146 eM146 => ?_)
    have hw := hw M146 eM146
    refine z_aload_n F dX12_comes_147 rfl rfl 0 rfl ?_
    refine z_getR F fl_1009 k0 dX12_comes_148 rfl ?_
    refine z_iconst F dX12_comes_151 rfl ?_
    refine z_aload_n F dX12_comes_152 rfl rfl 0 rfl ?_
    refine z_getI F fl_1003 k0 dX12_comes_153 rfl ?_
    refine z_imul F dX12_comes_156 rfl ?_
    refine z_iload F dX12_comes_157 rfl 3 rfl ?_
    refine z_iadd F dX12_comes_159 rfl ?_
    refine z_aload_n F dX12_comes_160 rfl rfl 0 rfl ?_
    refine z_getL F fl_1002 k0 dX12_comes_161 rfl ?_
    refine z_last F (tk_12_17 k0) dX12_comes_164 rfl hw (fun hw => ?_)
    refine z_nmM (fun M164 eM164 => ?_)
    have hw := hw M164 eM164
    refine z_sub [0, 1, 2, 3] rfl ?_
    exact bk_X12_comes_165 F hr k0 hK13 hw
  · refine z_aload_n F dX12_comes_100 rfl rfl 0 rfl ?_
    refine z_getR F fl_1006 k0 dX12_comes_101 rfl ?_
    refine z_aload_n F dX12_comes_104 rfl rfl 0 rfl ?_
    refine z_getI F fl_1003 k0 dX12_comes_105 rfl ?_
    refine z_aload_n F dX12_comes_108 rfl rfl 0 rfl ?_
    refine z_getL F fl_1001 k0 dX12_comes_109 rfl ?_
    refine z_last F (tk_12_14 k0) dX12_comes_112 rfl hw (fun hw => ?_)
    refine z_nmM (fun M112 eM112 => ?_)
    have hw := hw M112 eM112
    refine z_aload_n F dX12_comes_113 rfl rfl 0 rfl ?_
    refine z_getR F fl_1007 k0 dX12_comes_114 rfl ?_
    refine z_aload_n F dX12_comes_117 rfl rfl 0 rfl ?_
    refine z_getI F fl_1003 k0 dX12_comes_118 rfl ?_
    refine z_aload_n F dX12_comes_121 rfl rfl 0 rfl ?_
    refine z_getL F fl_1002 k0 dX12_comes_122 rfl ?_
    refine z_last F (tk_12_15 k0) dX12_comes_125 rfl hw (fun hw => ?_)
    refine z_nmM (fun M125 eM125 => ?_)
    have hw := hw M125 eM125
    refine z_goto F dX12_comes_126 rfl ?_
    refine z_sub [0, 1, 2, 3] rfl ?_
    exact bk_X12_comes_165 F hr k0 hK13 hw
set_option maxRecDepth 100000 in
set_option maxHeartbeats 4000000 in
theorem bk_X12_comes_64 {g : En} {p : Program} {l : Launch} {e : Env} {s : State} {m : MethodId} {args : Array Value} {below : List Frame} {meth : Method} {c : Code} {M : Mem} {a0 : Nat} {Q : Mem → Prop} {K13 : Mem → Int → Prop} {x2 : Bool} {x3 : Int} {x5 : Int} (F : Fx g p s m args meth c cX12_comes 6 RX12) (hr : meth.sig.returnType = none) (k0 : kd a0 = 12)
    (hK13 : ∀ (M' : Mem) (x5' : Int), K13 M' x5' → Z g p l e rm_X12_comes s m args below meth c 6 (MQ below (va_Qv (S := Mem) Q (fun u => Rp g u) (aR g)) args s 0 0 (aR g)) M' 13 [(0, .ref (g.2.2.1 + a0)), (2, .int (i3 (bz x2))), (3, .long (i6 x3)), (5, .int (i3 x5'))] [])
    (hw : wp_X12_comes_b64 a0 Q K13 M x2 x3 x5) : Z g p l e rm_X12_comes s m args below meth c 6 (MQ below (va_Qv (S := Mem) Q (fun u => Rp g u) (aR g)) args s 0 0 (aR g)) M 64 [(0, .ref (g.2.2.1 + a0)), (2, .int (i3 (bz x2))), (3, .long (i6 x3)), (5, .int (i3 x5))] [] := by
  refine z_iload_n F dX12_comes_64 rfl rfl 1 rfl ?_
  refine z_ifb_eq F dX12_comes_65 rfl rfl hw (fun hw => ?_) (fun hw => ?_)
  · refine z_sub [0, 1, 2, 3] rfl ?_
    exact bk_X12_comes_91 F hr k0 hK13 hw
  · refine z_iload F dX12_comes_68 rfl 3 rfl ?_
    refine z_aload_n F dX12_comes_70 rfl rfl 0 rfl ?_
    refine z_getI F fl_995 k0 dX12_comes_71 rfl ?_
    refine z_icmp_ne F dX12_comes_74 rfl rfl hw (fun hw => ?_) (fun hw => ?_)
    · refine z_sub [0, 1, 2, 3] rfl ?_
      exact bk_X12_comes_91 F hr k0 hK13 hw
    · refine z_aload_n F dX12_comes_77 rfl rfl 0 rfl ?_
      refine z_lload_n F dX12_comes_78 rfl rfl 2 rfl ?_
      refine z_lconst (v := 1) F dX12_comes_79 rfl rfl ?_
      refine z_aload_n F dX12_comes_80 rfl rfl 0 rfl ?_
      refine z_getL F fl_1001 k0 dX12_comes_81 rfl ?_
      refine z_aload_n F dX12_comes_84 rfl rfl 0 rfl ?_
      refine z_getL F fl_1002 k0 dX12_comes_85 rfl ?_
      refine z_cVv (As := [.long (i6 x3), .long (i6 1), .long (i6 (M a0 9)), .long (i6 (M a0 10))]) (st := []) F (c_X12_sum l g k0 hw) cv_X12_sum w_1266 ⟨rfl, rfl, Nat.le_of_ble_eq_true rfl, Nat.le_of_ble_eq_true rfl⟩ k0 rfl rfl (Nat.le_of_ble_eq_true rfl) dX12_comes_88 rfl (fun M88 hw => ?_)
      refine z_sub [0, 1, 2, 3] rfl ?_
      exact bk_X12_comes_91 F hr k0 hK13 hw
set_option maxRecDepth 100000 in
set_option maxHeartbeats 4000000 in
theorem bk_X12_comes_B13 {g : En} {p : Program} {l : Launch} {e : Env} {s : State} {m : MethodId} {args : Array Value} {below : List Frame} {meth : Method} {c : Code} {M : Mem} {a0 : Nat} {Q : Mem → Prop} {K13 : Mem → Int → Prop} {x2 : Bool} {x3 : Int} {x5 : Int} (F : Fx g p s m args meth c cX12_comes 6 RX12) (hr : meth.sig.returnType = none) (k0 : kd a0 = 12)
    (hK13 : ∀ (M' : Mem) (x5' : Int), K13 M' x5' → Z g p l e rm_X12_comes s m args below meth c 6 (MQ below (va_Qv (S := Mem) Q (fun u => Rp g u) (aR g)) args s 0 0 (aR g)) M' 13 [(0, .ref (g.2.2.1 + a0)), (2, .int (i3 (bz x2))), (3, .long (i6 x3)), (5, .int (i3 x5'))] [])
    (hw : wp_X12_comes_B13 a0 Q K13 M x2 x3 x5) : Z g p l e rm_X12_comes s m args below meth c 6 (MQ below (va_Qv (S := Mem) Q (fun u => Rp g u) (aR g)) args s 0 0 (aR g)) M 13 [(0, .ref (g.2.2.1 + a0)), (2, .int (i3 (bz x2))), (3, .long (i6 x3)), (5, .int (i3 x5))] [] := by
  refine z_iload F dX12_comes_13 rfl 3 rfl ?_
  refine z_aload_n F dX12_comes_15 rfl rfl 0 rfl ?_
  refine z_getI F fl_995 k0 dX12_comes_16 rfl ?_
  refine z_icmp_gt F dX12_comes_19 rfl rfl hw (fun hw => ?_) (fun hw => ?_)
  · refine z_aload_n F dX12_comes_171 rfl rfl 0 rfl ?_
    refine z_dup F rfl dX12_comes_172 rfl ?_
    refine z_getI F fl_1003 k0 dX12_comes_173 rfl ?_
    refine z_iconst F dX12_comes_176 rfl ?_
    refine z_iadd F dX12_comes_177 rfl ?_
    refine z_putI F fp_1003 k0 dX12_comes_178 rfl ?_
    refine z_nmM (fun M178 eM178 => ?_)
    have hw := hw M178 eM178
    exact z_vret F hr dX12_comes_181 hw
  · refine z_aload_n F dX12_comes_22 rfl rfl 0 rfl ?_
    refine z_aload_n F dX12_comes_23 rfl rfl 0 rfl ?_
    refine z_getR F fl_1010 k0 dX12_comes_24 rfl ?_
    refine z_iload F dX12_comes_27 rfl 3 rfl ?_
    refine z_lald F (tk_12_18 k0) dX12_comes_29 rfl hw (fun hw => ?_)
    refine z_putL F fp_1001 k0 dX12_comes_30 rfl ?_
    refine z_nmM (fun M30 eM30 => ?_)
    have hw := hw M30 eM30
    refine z_aload_n F dX12_comes_33 rfl rfl 0 rfl ?_
    refine z_aload_n F dX12_comes_34 rfl rfl 0 rfl ?_
    refine z_getR F fl_1011 k0 dX12_comes_35 rfl ?_
    refine z_iload F dX12_comes_38 rfl 3 rfl ?_
    refine z_lald F (tk_12_19 k0) dX12_comes_40 rfl hw (fun hw => ?_)
    refine z_putL F fp_1002 k0 dX12_comes_41 rfl ?_
    refine z_nmM (fun M41 eM41 => ?_)
    have hw := hw M41 eM41
    refine z_iload_n F dX12_comes_44 rfl rfl 1 rfl ?_
    refine z_ifb_eq F dX12_comes_45 rfl rfl hw (fun hw => ?_) (fun hw => ?_)
    · refine z_sub [0, 1, 2, 3] rfl ?_
      exact bk_X12_comes_64 F hr k0 hK13 hw
    · refine z_aload_n F dX12_comes_48 rfl rfl 0 rfl ?_
      refine z_aload_n F dX12_comes_49 rfl rfl 0 rfl ?_
      refine z_getL F fl_1001 k0 dX12_comes_50 rfl ?_
      refine z_aload_n F dX12_comes_53 rfl rfl 0 rfl ?_
      refine z_getL F fl_1002 k0 dX12_comes_54 rfl ?_
      refine z_ldc2 (n := (-1)) F w_1286 (by decide) dX12_comes_57 rfl ?_
      refine z_lconst (v := 1) F dX12_comes_60 rfl rfl ?_
      refine z_cVv (As := [.long (i6 (M41 a0 9)), .long (i6 (M41 a0 10)), .long (i6 (-1)), .long (i6 1)]) (st := []) F (c_X12_product l g k0 hw) cv_X12_product w_1258 ⟨rfl, rfl, Nat.le_of_ble_eq_true rfl, Nat.le_of_ble_eq_true rfl⟩ k0 rfl rfl (Nat.le_of_ble_eq_true rfl) dX12_comes_61 rfl (fun M61 hw => ?_)
      refine z_sub [0, 1, 2, 3] rfl ?_
      exact bk_X12_comes_64 F hr k0 hK13 hw
set_option maxRecDepth 100000 in
set_option maxHeartbeats 4000000 in
theorem lp_X12_comes_13 {g : En} {p : Program} {l : Launch} {e : Env} {s : State} {m : MethodId} {args : Array Value} {below : List Frame} {meth : Method} {c : Code} {M : Mem} {a0 : Nat} {Q : Mem → Prop} {x2 : Bool} {x3 : Int} {x5 : Int} (F : Fx g p s m args meth c cX12_comes 6 RX12) (hr : meth.sig.returnType = none) (k0 : kd a0 = 12)
    (hw : wp_X12_comes_L13 a0 Q M x2 x3 x5) : Z g p l e rm_X12_comes s m args below meth c 6 (MQ below (va_Qv (S := Mem) Q (fun u => Rp g u) (aR g)) args s 0 0 (aR g)) M 13 [(0, .ref (g.2.2.1 + a0)), (2, .int (i3 (bz x2))), (3, .long (i6 x3)), (5, .int (i3 x5))] [] := by
  obtain ⟨I, μ, h0, hb⟩ := hw
  have key : ∀ (n : Nat) (M : Mem) (x5 : Int), I M x5 → μ M x5 < n → Z g p l e rm_X12_comes s m args below meth c 6 (MQ below (va_Qv (S := Mem) Q (fun u => Rp g u) (aR g)) args s 0 0 (aR g)) M 13 [(0, .ref (g.2.2.1 + a0)), (2, .int (i3 (bz x2))), (3, .long (i6 x3)), (5, .int (i3 x5))] [] := by
    intro n
    induction n with
    | zero => exact fun _ _ _ h => absurd h (Nat.not_lt_zero _)
    | succ n ih =>
      intro M x5 hI hn
      exact bk_X12_comes_B13 F hr k0 (fun M' x5' hk => ih M' x5' hk.1 (Nat.lt_of_lt_of_le hk.2 (Nat.le_of_lt_succ hn))) (hb M x5 hI)
  exact key _ M x5 h0 (Nat.lt_succ_self _)
set_option maxRecDepth 100000 in
set_option maxHeartbeats 4000000 in
theorem c_X12_comes (l : Launch) (g : En) {a0 : Nat} {a1 : Int} {a2 : Bool} {a3 : Int} {M : Mem} {Q : Mem → Prop} (k0 : kd a0 = 12) (hw : wp_X12_comes a0 a1 a2 a3 M Q) :
    Met l yX12_comes (WS yX12_comes cX12_comes 6 none) rm_X12_comes (va_Pc [.ref (g.2.2.1 + a0), .int (i3 a1), .int (i3 (bz a2)), .long (i6 a3)] (Rp g M)) (va_Qv (S := Mem) Q (fun u => Rp g u) (aR g)) 0 0 (aR g) := by
  refine met_Z (plainFor_of_name rfl) (Nat.le_of_ble_eq_true rfl) ?_
  intro p e s m args below meth c F hr _
  show Z g p l e rm_X12_comes s m args below meth c 6 (MQ below (va_Qv (S := Mem) Q (fun u => Rp g u) (aR g)) args s 0 0 (aR g)) M 0 [(0, .ref (g.2.2.1 + a0)), (1, .int (i3 a1)), (2, .int (i3 (bz a2))), (3, .long (i6 a3))] []
  refine z_aload_n F dX12_comes_0 rfl rfl 0 rfl ?_
  refine z_getR F fl_1004 k0 dX12_comes_1 rfl ?_
  refine z_aload_n F dX12_comes_4 rfl rfl 0 rfl ?_
  refine z_getI F fl_1003 k0 dX12_comes_5 rfl ?_
  refine z_iload_n F dX12_comes_8 rfl rfl 1 rfl ?_
  refine z_iast F (tk_12_12 k0) dX12_comes_9 rfl hw (fun hw => ?_)
  refine z_nmM (fun M9 eM9 => ?_)
  have hw := hw M9 eM9
  refine z_iconst F dX12_comes_10 rfl ?_
  refine z_istore F dX12_comes_11 rfl (by decide) rfl ?_
  refine z_sub [1, 3, 4, 0] rfl ?_
  exact lp_X12_comes_13 F hr k0 hw
theorem cv_X12_comes : CV yX12_comes RX12 cX12_comes 6 none 3 := ⟨w_1305, w_52, w_80, w_1306, rfl, by decide +kernel, by decide +kernel, by decide +kernel⟩
abbrev rm_X12_begins : Room := { frames := 6, cells := 0, slots := 0, locals := 158 }
def wp_X12_begins_B220 (a0 : Nat) (Q : Mem → Prop) (K220 : Mem → Int → Prop) (M : Mem) (x1 : Int) : Prop :=
  (((w32 (M a0 3) ≤ w32 x1) → (
    Q M)) ∧
  (¬ (w32 (M a0 3) ≤ w32 x1) → (
    inb (rt a0 13) x1 ∧ (
    ∀ M234 : Mem, M234 = st2 M (rt a0 13) (ix x1) x1 →
    wp_X12_of a0 x1 1 M234 (fun r246 =>
    inb (rt a0 16) (45 + x1) ∧ (
    ∀ M250 : Mem, M250 = st2 M234 (rt a0 16) (ix (45 + x1)) (w32 r246) →
    inb (rt a0 17) (45 + x1) ∧ (
    ∀ M260 : Mem, M260 = st2 M250 (rt a0 17) (ix (45 + x1)) 1 →
    K220 M260 (x1 + 1))))))))
def wp_X12_begins_L220 (a0 : Nat) (Q : Mem → Prop) (M : Mem) (x1 : Int) : Prop :=
  ∃ (I : Mem → Int → Prop) (μ : Mem → Int → Nat), I M x1 ∧ ∀ (M : Mem) (x1 : Int), I M x1 →
    wp_X12_begins_B220 a0 Q (fun M' x1' => I M' x1' ∧ μ M' x1' < μ M x1) M x1
def wp_X12_begins_b196 (a0 : Nat) (Q : Mem → Prop) (K37 : Mem → Int → Prop) (M : Mem) (x1 : Int) : Prop :=
  K37 M (x1 + 1)
def wp_X12_begins_b125 (a0 : Nat) (Q : Mem → Prop) (K47 : Mem → Int → Prop) (K37 : Mem → Int → Prop) (M : Mem) (s1 : Int) (s2 : Int) (s3 : Int) (x1 : Int) (x2 : Int) : Prop :=
  wp_X12_sum a0 s1 s2 s3 1 M (fun M126 =>
  inb (rt a0 18) x2 ∧ (
  ∀ M138 : Mem, M138 = st2 M126 (rt a0 18) (ix x2) (M126 a0 9) →
  inb (rt a0 19) x2 ∧ (
  ∀ M148 : Mem, M148 = st2 M138 (rt a0 19) (ix x2) (M138 a0 10) →
  K47 M148 (x2 + 1))))
def wp_X12_begins_b85 (a0 : Nat) (Q : Mem → Prop) (K47 : Mem → Int → Prop) (K37 : Mem → Int → Prop) (M : Mem) (x1 : Int) (x2 : Int) : Prop :=
  (((¬ w32 x2 = w32 (M a0 3)) → (
    wp_X12_paysAtRung a0 x2 x1 M (fun r121 =>
    wp_X12_begins_b125 a0 Q K47 K37 M (M a0 9) (M a0 10) (w32 r121) x1 x2))) ∧
  (¬ (¬ w32 x2 = w32 (M a0 3)) → (
    inb (rt a0 6) x1 ∧ (
    inb (rt a0 0) (M (rt a0 6) (ix x1)) ∧ (
    wp_X12_begins_b125 a0 Q K47 K37 M (M a0 9) (M a0 10) (w32 (-(M (rt a0 0) (ix (M (rt a0 6) (ix x1)))))) x1 x2)))))
def wp_X12_begins_B47 (a0 : Nat) (Q : Mem → Prop) (K47 : Mem → Int → Prop) (K37 : Mem → Int → Prop) (M : Mem) (x1 : Int) (x2 : Int) : Prop :=
  (((w32 (M a0 3) < w32 x2) → (
    wp_X12_comes a0 (10 + x1) false 0 M (fun M162 =>
    wp_X12_isRoom a0 x1 M162 (fun r167 =>
    ((r167 = false → (
      wp_X12_begins_b196 a0 Q K37 M162 x1)) ∧
    (r167 = true → (
      inb (rt a0 6) x1 ∧ (
      inb (rt a0 2) (M162 (rt a0 6) (ix x1)) ∧ (
      wp_X12_comes a0 (20 + x1) true ((w32 (M162 (rt a0 2) (ix (M162 (rt a0 6) (ix x1))))) - 1) M162 (fun M193 =>
      wp_X12_begins_b196 a0 Q K37 M193 x1)))))))))) ∧
  (¬ (w32 (M a0 3) < w32 x2) → (
    inb (rt a0 18) x2 ∧ (
    ∀ M62 : Mem, M62 = st2 M a0 9 (M (rt a0 18) (ix x2)) →
    inb (rt a0 19) x2 ∧ (
    ∀ M72 : Mem, M72 = st2 M62 a0 10 (M62 (rt a0 19) (ix x2)) →
    (((w32 x1 ≤ 0) → (
      wp_X12_begins_b85 a0 Q K47 K37 M72 x1 x2)) ∧
    (¬ (w32 x1 ≤ 0) → (
      wp_X12_byFactor a0 x1 false M72 (fun M82 =>
      wp_X12_begins_b85 a0 Q K47 K37 M82 x1 x2)))))))))
def wp_X12_begins_L47 (a0 : Nat) (Q : Mem → Prop) (K37 : Mem → Int → Prop) (M : Mem) (x1 : Int) (x2 : Int) : Prop :=
  ∃ (I : Mem → Int → Prop) (μ : Mem → Int → Nat), I M x2 ∧ ∀ (M : Mem) (x2 : Int), I M x2 →
    wp_X12_begins_B47 a0 Q (fun M' x2' => I M' x2' ∧ μ M' x2' < μ M x2) K37 M x1 x2
def wp_X12_begins_B37 (a0 : Nat) (Q : Mem → Prop) (K37 : Mem → Int → Prop) (M : Mem) (x1 : Int) : Prop :=
  (((w32 (M a0 5) ≤ w32 x1) → (
    inb (rt a0 14) 9 ∧ (
    ∀ M209 : Mem, M209 = st2 M (rt a0 14) (ix 9) 0 →
    inb (rt a0 15) 9 ∧ (
    ∀ M217 : Mem, M217 = st2 M209 (rt a0 15) (ix 9) 1 →
    wp_X12_begins_L220 a0 Q M217 0)))) ∧
  (¬ (w32 (M a0 5) ≤ w32 x1) → (
    wp_X12_begins_L47 a0 Q K37 M x1 0)))
def wp_X12_begins_L37 (a0 : Nat) (Q : Mem → Prop) (M : Mem) (x1 : Int) : Prop :=
  ∃ (I : Mem → Int → Prop) (μ : Mem → Int → Nat), I M x1 ∧ ∀ (M : Mem) (x1 : Int), I M x1 →
    wp_X12_begins_B37 a0 Q (fun M' x1' => I M' x1' ∧ μ M' x1' < μ M x1) M x1
def wp_X12_begins_B7 (a0 : Nat) (Q : Mem → Prop) (K7 : Mem → Int → Prop) (M : Mem) (x1 : Int) : Prop :=
  (((w32 (M a0 3) < w32 x1) → (
    wp_X12_begins_L37 a0 Q M 0)) ∧
  (¬ (w32 (M a0 3) < w32 x1) → (
    inb (rt a0 18) x1 ∧ (
    ∀ M21 : Mem, M21 = st2 M (rt a0 18) (ix x1) 0 →
    inb (rt a0 19) x1 ∧ (
    ∀ M28 : Mem, M28 = st2 M21 (rt a0 19) (ix x1) 1 →
    K7 M28 (x1 + 1))))))
def wp_X12_begins_L7 (a0 : Nat) (Q : Mem → Prop) (M : Mem) (x1 : Int) : Prop :=
  ∃ (I : Mem → Int → Prop) (μ : Mem → Int → Nat), I M x1 ∧ ∀ (M : Mem) (x1 : Int), I M x1 →
    wp_X12_begins_B7 a0 Q (fun M' x1' => I M' x1' ∧ μ M' x1' < μ M x1) M x1
def wp_X12_begins (a0 : Nat) (M : Mem) (Q : Mem → Prop) : Prop :=
  ∀ M2 : Mem, M2 = st2 M a0 11 0 →
  wp_X12_begins_L7 a0 Q M2 0
set_option maxRecDepth 100000 in
set_option maxHeartbeats 4000000 in
theorem bk_X12_begins_B220 {g : En} {p : Program} {l : Launch} {e : Env} {s : State} {m : MethodId} {args : Array Value} {below : List Frame} {meth : Method} {c : Code} {M : Mem} {a0 : Nat} {Q : Mem → Prop} {K220 : Mem → Int → Prop} {x1 : Int} (F : Fx g p s m args meth c cX12_begins 3 RX12) (hr : meth.sig.returnType = none) (k0 : kd a0 = 12)
    (hK220 : ∀ (M' : Mem) (x1' : Int), K220 M' x1' → Z g p l e rm_X12_begins s m args below meth c 3 (MQ below (va_Qv (S := Mem) Q (fun u => Rp g u) (aR g)) args s 0 0 (aR g)) M' 220 [(0, .ref (g.2.2.1 + a0)), (1, .int (i3 x1'))] [])
    (hw : wp_X12_begins_B220 a0 Q K220 M x1) : Z g p l e rm_X12_begins s m args below meth c 3 (MQ below (va_Qv (S := Mem) Q (fun u => Rp g u) (aR g)) args s 0 0 (aR g)) M 220 [(0, .ref (g.2.2.1 + a0)), (1, .int (i3 x1))] [] := by
  refine z_iload_n F dX12_begins_220 rfl rfl 1 rfl ?_
  refine z_aload_n F dX12_begins_221 rfl rfl 0 rfl ?_
  refine z_getI F fl_995 k0 dX12_begins_222 rfl ?_
  refine z_icmp_ge F dX12_begins_225 rfl rfl hw (fun hw => ?_) (fun hw => ?_)
  · exact z_vret F hr dX12_begins_267 hw
  · refine z_aload_n F dX12_begins_228 rfl rfl 0 rfl ?_
    refine z_getR F fl_1005 k0 dX12_begins_229 rfl ?_
    refine z_iload_n F dX12_begins_232 rfl rfl 1 rfl ?_
    refine z_iload_n F dX12_begins_233 rfl rfl 1 rfl ?_
    refine z_iast F (tk_12_13 k0) dX12_begins_234 rfl hw (fun hw => ?_)
    refine z_nmM (fun M234 eM234 => ?_)
    have hw := hw M234 eM234
    refine z_aload_n F dX12_begins_235 rfl rfl 0 rfl ?_
    refine z_getR F fl_1008 k0 dX12_begins_236 rfl ?_
    refine z_bipush F dX12_begins_239 (by decide) rfl ?_
    refine z_iload_n F dX12_begins_241 rfl rfl 1 rfl ?_
    refine z_iadd F dX12_begins_242 rfl ?_
    refine z_aload_n F dX12_begins_243 rfl rfl 0 rfl ?_
    refine z_iload_n F dX12_begins_244 rfl rfl 1 rfl ?_
    refine z_iconst F dX12_begins_245 rfl ?_
    refine z_cVip (As := [.int (i3 x1), .int (i3 1)]) (st := [.int (i3 (45 + x1)), .ref (g.2.2.1 + (rt a0 16))]) F (c_X12_of l g k0 hw) cv_X12_of w_1155 ⟨rfl, rfl, Nat.le_of_ble_eq_true rfl, Nat.le_of_ble_eq_true rfl⟩ k0 rfl rfl (Nat.le_of_ble_eq_true rfl) dX12_begins_246 rfl (fun r246 hw => ?_)
    refine z_i2l F dX12_begins_249 rfl ?_
    refine z_last F (tk_12_16 k0) dX12_begins_250 rfl hw (fun hw => ?_)
    refine z_nmM (fun M250 eM250 => ?_)
    have hw := hw M250 eM250
    refine z_aload_n F dX12_begins_251 rfl rfl 0 rfl ?_
    refine z_getR F fl_1009 k0 dX12_begins_252 rfl ?_
    refine z_bipush F dX12_begins_255 (by decide) rfl ?_
    refine z_iload_n F dX12_begins_257 rfl rfl 1 rfl ?_
    refine z_iadd F dX12_begins_258 rfl ?_
    refine z_lconst (v := 1) F dX12_begins_259 rfl rfl ?_
    refine z_last F (tk_12_17 k0) dX12_begins_260 rfl hw (fun hw => ?_)
    refine z_nmM (fun M260 eM260 => ?_)
    have hw := hw M260 eM260
    refine z_iinc F dX12_begins_261 rfl 1 rfl (by decide) rfl ?_
    refine z_goto F dX12_begins_264 rfl ?_
    refine z_sub [1, 0] rfl ?_
    exact hK220 M260 (x1 + 1) hw
set_option maxRecDepth 100000 in
set_option maxHeartbeats 4000000 in
theorem lp_X12_begins_220 {g : En} {p : Program} {l : Launch} {e : Env} {s : State} {m : MethodId} {args : Array Value} {below : List Frame} {meth : Method} {c : Code} {M : Mem} {a0 : Nat} {Q : Mem → Prop} {x1 : Int} (F : Fx g p s m args meth c cX12_begins 3 RX12) (hr : meth.sig.returnType = none) (k0 : kd a0 = 12)
    (hw : wp_X12_begins_L220 a0 Q M x1) : Z g p l e rm_X12_begins s m args below meth c 3 (MQ below (va_Qv (S := Mem) Q (fun u => Rp g u) (aR g)) args s 0 0 (aR g)) M 220 [(0, .ref (g.2.2.1 + a0)), (1, .int (i3 x1))] [] := by
  obtain ⟨I, μ, h0, hb⟩ := hw
  have key : ∀ (n : Nat) (M : Mem) (x1 : Int), I M x1 → μ M x1 < n → Z g p l e rm_X12_begins s m args below meth c 3 (MQ below (va_Qv (S := Mem) Q (fun u => Rp g u) (aR g)) args s 0 0 (aR g)) M 220 [(0, .ref (g.2.2.1 + a0)), (1, .int (i3 x1))] [] := by
    intro n
    induction n with
    | zero => exact fun _ _ _ h => absurd h (Nat.not_lt_zero _)
    | succ n ih =>
      intro M x1 hI hn
      exact bk_X12_begins_B220 F hr k0 (fun M' x1' hk => ih M' x1' hk.1 (Nat.lt_of_lt_of_le hk.2 (Nat.le_of_lt_succ hn))) (hb M x1 hI)
  exact key _ M x1 h0 (Nat.lt_succ_self _)
set_option maxRecDepth 100000 in
set_option maxHeartbeats 4000000 in
theorem bk_X12_begins_196 {g : En} {p : Program} {l : Launch} {e : Env} {s : State} {m : MethodId} {args : Array Value} {below : List Frame} {meth : Method} {c : Code} {M : Mem} {a0 : Nat} {Q : Mem → Prop} {K37 : Mem → Int → Prop} {x1 : Int} (F : Fx g p s m args meth c cX12_begins 3 RX12) (hr : meth.sig.returnType = none) (k0 : kd a0 = 12)
    (hK37 : ∀ (M' : Mem) (x1' : Int), K37 M' x1' → Z g p l e rm_X12_begins s m args below meth c 3 (MQ below (va_Qv (S := Mem) Q (fun u => Rp g u) (aR g)) args s 0 0 (aR g)) M' 37 [(0, .ref (g.2.2.1 + a0)), (1, .int (i3 x1'))] [])
    (hw : wp_X12_begins_b196 a0 Q K37 M x1) : Z g p l e rm_X12_begins s m args below meth c 3 (MQ below (va_Qv (S := Mem) Q (fun u => Rp g u) (aR g)) args s 0 0 (aR g)) M 196 [(0, .ref (g.2.2.1 + a0)), (1, .int (i3 x1))] [] := by
  refine z_iinc F dX12_begins_196 rfl 1 rfl (by decide) rfl ?_
  refine z_goto F dX12_begins_199 rfl ?_
  refine z_sub [1, 0] rfl ?_
  exact hK37 M (x1 + 1) hw
set_option maxRecDepth 100000 in
set_option maxHeartbeats 4000000 in
theorem bk_X12_begins_125 {g : En} {p : Program} {l : Launch} {e : Env} {s : State} {m : MethodId} {args : Array Value} {below : List Frame} {meth : Method} {c : Code} {M : Mem} {a0 : Nat} {Q : Mem → Prop} {K47 : Mem → Int → Prop} {K37 : Mem → Int → Prop} {s1 : Int} {s2 : Int} {s3 : Int} {x1 : Int} {x2 : Int} (F : Fx g p s m args meth c cX12_begins 3 RX12) (hr : meth.sig.returnType = none) (k0 : kd a0 = 12)
    (hK47 : ∀ (M' : Mem) (x2' : Int), K47 M' x2' → Z g p l e rm_X12_begins s m args below meth c 3 (MQ below (va_Qv (S := Mem) Q (fun u => Rp g u) (aR g)) args s 0 0 (aR g)) M' 47 [(0, .ref (g.2.2.1 + a0)), (1, .int (i3 x1)), (2, .int (i3 x2'))] [])
    (hK37 : ∀ (M' : Mem) (x1' : Int), K37 M' x1' → Z g p l e rm_X12_begins s m args below meth c 3 (MQ below (va_Qv (S := Mem) Q (fun u => Rp g u) (aR g)) args s 0 0 (aR g)) M' 37 [(0, .ref (g.2.2.1 + a0)), (1, .int (i3 x1'))] [])
    (hw : wp_X12_begins_b125 a0 Q K47 K37 M s1 s2 s3 x1 x2) : Z g p l e rm_X12_begins s m args below meth c 3 (MQ below (va_Qv (S := Mem) Q (fun u => Rp g u) (aR g)) args s 0 0 (aR g)) M 125 [(0, .ref (g.2.2.1 + a0)), (1, .int (i3 x1)), (2, .int (i3 x2))] [.long (i6 s3), .long (i6 s2), .long (i6 s1), .ref (g.2.2.1 + a0)] := by
  refine z_lconst (v := 1) F dX12_begins_125 rfl rfl ?_
  refine z_cVv (As := [.long (i6 s1), .long (i6 s2), .long (i6 s3), .long (i6 1)]) (st := []) F (c_X12_sum l g k0 hw) cv_X12_sum w_1266 ⟨rfl, rfl, Nat.le_of_ble_eq_true rfl, Nat.le_of_ble_eq_true rfl⟩ k0 rfl rfl (Nat.le_of_ble_eq_true rfl) dX12_begins_126 rfl (fun M126 hw => ?_)
  refine z_aload_n F dX12_begins_129 rfl rfl 0 rfl ?_
  refine z_getR F fl_1010 k0 dX12_begins_130 rfl ?_
  refine z_iload_n F dX12_begins_133 rfl rfl 2 rfl ?_
  refine z_aload_n F dX12_begins_134 rfl rfl 0 rfl ?_
  refine z_getL F fl_1001 k0 dX12_begins_135 rfl ?_
  refine z_last F (tk_12_18 k0) dX12_begins_138 rfl hw (fun hw => ?_)
  refine z_nmM (fun M138 eM138 => ?_)
  have hw := hw M138 eM138
  refine z_aload_n F dX12_begins_139 rfl rfl 0 rfl ?_
  refine z_getR F fl_1011 k0 dX12_begins_140 rfl ?_
  refine z_iload_n F dX12_begins_143 rfl rfl 2 rfl ?_
  refine z_aload_n F dX12_begins_144 rfl rfl 0 rfl ?_
  refine z_getL F fl_1002 k0 dX12_begins_145 rfl ?_
  refine z_last F (tk_12_19 k0) dX12_begins_148 rfl hw (fun hw => ?_)
  refine z_nmM (fun M148 eM148 => ?_)
  have hw := hw M148 eM148
  refine z_iinc F dX12_begins_149 rfl 2 rfl (by decide) rfl ?_
  refine z_goto F dX12_begins_152 rfl ?_
  refine z_sub [1, 2, 0] rfl ?_
  exact hK47 M148 (x2 + 1) hw
set_option maxRecDepth 100000 in
set_option maxHeartbeats 4000000 in
theorem bk_X12_begins_85 {g : En} {p : Program} {l : Launch} {e : Env} {s : State} {m : MethodId} {args : Array Value} {below : List Frame} {meth : Method} {c : Code} {M : Mem} {a0 : Nat} {Q : Mem → Prop} {K47 : Mem → Int → Prop} {K37 : Mem → Int → Prop} {x1 : Int} {x2 : Int} (F : Fx g p s m args meth c cX12_begins 3 RX12) (hr : meth.sig.returnType = none) (k0 : kd a0 = 12)
    (hK47 : ∀ (M' : Mem) (x2' : Int), K47 M' x2' → Z g p l e rm_X12_begins s m args below meth c 3 (MQ below (va_Qv (S := Mem) Q (fun u => Rp g u) (aR g)) args s 0 0 (aR g)) M' 47 [(0, .ref (g.2.2.1 + a0)), (1, .int (i3 x1)), (2, .int (i3 x2'))] [])
    (hK37 : ∀ (M' : Mem) (x1' : Int), K37 M' x1' → Z g p l e rm_X12_begins s m args below meth c 3 (MQ below (va_Qv (S := Mem) Q (fun u => Rp g u) (aR g)) args s 0 0 (aR g)) M' 37 [(0, .ref (g.2.2.1 + a0)), (1, .int (i3 x1'))] [])
    (hw : wp_X12_begins_b85 a0 Q K47 K37 M x1 x2) : Z g p l e rm_X12_begins s m args below meth c 3 (MQ below (va_Qv (S := Mem) Q (fun u => Rp g u) (aR g)) args s 0 0 (aR g)) M 85 [(0, .ref (g.2.2.1 + a0)), (1, .int (i3 x1)), (2, .int (i3 x2))] [] := by
  refine z_aload_n F dX12_begins_85 rfl rfl 0 rfl ?_
  refine z_aload_n F dX12_begins_86 rfl rfl 0 rfl ?_
  refine z_getL F fl_1001 k0 dX12_begins_87 rfl ?_
  refine z_aload_n F dX12_begins_90 rfl rfl 0 rfl ?_
  refine z_getL F fl_1002 k0 dX12_begins_91 rfl ?_
  refine z_iload_n F dX12_begins_94 rfl rfl 2 rfl ?_
  refine z_aload_n F dX12_begins_95 rfl rfl 0 rfl ?_
  refine z_getI F fl_995 k0 dX12_begins_96 rfl ?_
  refine z_icmp_ne F dX12_begins_99 rfl rfl hw (fun hw => ?_) (fun hw => ?_)
  · refine z_aload_n F dX12_begins_118 rfl rfl 0 rfl ?_
    refine z_iload_n F dX12_begins_119 rfl rfl 2 rfl ?_
    refine z_iload_n F dX12_begins_120 rfl rfl 1 rfl ?_
    refine z_cVip (As := [.int (i3 x2), .int (i3 x1)]) (st := [.long (i6 (M a0 10)), .long (i6 (M a0 9)), .ref (g.2.2.1 + a0)]) F (c_X12_paysAtRung l g k0 hw) cv_X12_paysAtRung w_1167 ⟨rfl, rfl, Nat.le_of_ble_eq_true rfl, Nat.le_of_ble_eq_true rfl⟩ k0 rfl rfl (Nat.le_of_ble_eq_true rfl) dX12_begins_121 rfl (fun r121 hw => ?_)
    refine z_i2l F dX12_begins_124 rfl ?_
    refine z_sub [0, 1, 2] rfl ?_
    exact bk_X12_begins_125 F hr k0 hK47 hK37 hw
  · refine z_aload_n F dX12_begins_102 rfl rfl 0 rfl ?_
    refine z_getR F fl_992 k0 dX12_begins_103 rfl ?_
    refine z_aload_n F dX12_begins_106 rfl rfl 0 rfl ?_
    refine z_getR F fl_998 k0 dX12_begins_107 rfl ?_
    refine z_iload_n F dX12_begins_110 rfl rfl 1 rfl ?_
    refine z_iald F (tk_12_6 k0) dX12_begins_111 rfl hw (fun hw => ?_)
    refine z_iald F (tk_12_0 k0) dX12_begins_112 rfl hw (fun hw => ?_)
    refine z_ineg F dX12_begins_113 rfl ?_
    refine z_i2l F dX12_begins_114 rfl ?_
    refine z_goto F dX12_begins_115 rfl ?_
    refine z_sub [0, 1, 2] rfl ?_
    exact bk_X12_begins_125 F hr k0 hK47 hK37 hw
set_option maxRecDepth 100000 in
set_option maxHeartbeats 4000000 in
theorem bk_X12_begins_B47 {g : En} {p : Program} {l : Launch} {e : Env} {s : State} {m : MethodId} {args : Array Value} {below : List Frame} {meth : Method} {c : Code} {M : Mem} {a0 : Nat} {Q : Mem → Prop} {K47 : Mem → Int → Prop} {K37 : Mem → Int → Prop} {x1 : Int} {x2 : Int} (F : Fx g p s m args meth c cX12_begins 3 RX12) (hr : meth.sig.returnType = none) (k0 : kd a0 = 12)
    (hK47 : ∀ (M' : Mem) (x2' : Int), K47 M' x2' → Z g p l e rm_X12_begins s m args below meth c 3 (MQ below (va_Qv (S := Mem) Q (fun u => Rp g u) (aR g)) args s 0 0 (aR g)) M' 47 [(0, .ref (g.2.2.1 + a0)), (1, .int (i3 x1)), (2, .int (i3 x2'))] [])
    (hK37 : ∀ (M' : Mem) (x1' : Int), K37 M' x1' → Z g p l e rm_X12_begins s m args below meth c 3 (MQ below (va_Qv (S := Mem) Q (fun u => Rp g u) (aR g)) args s 0 0 (aR g)) M' 37 [(0, .ref (g.2.2.1 + a0)), (1, .int (i3 x1'))] [])
    (hw : wp_X12_begins_B47 a0 Q K47 K37 M x1 x2) : Z g p l e rm_X12_begins s m args below meth c 3 (MQ below (va_Qv (S := Mem) Q (fun u => Rp g u) (aR g)) args s 0 0 (aR g)) M 47 [(0, .ref (g.2.2.1 + a0)), (1, .int (i3 x1)), (2, .int (i3 x2))] [] := by
  refine z_iload_n F dX12_begins_47 rfl rfl 2 rfl ?_
  refine z_aload_n F dX12_begins_48 rfl rfl 0 rfl ?_
  refine z_getI F fl_995 k0 dX12_begins_49 rfl ?_
  refine z_icmp_gt F dX12_begins_52 rfl rfl hw (fun hw => ?_) (fun hw => ?_)
  · refine z_aload_n F dX12_begins_155 rfl rfl 0 rfl ?_
    refine z_bipush F dX12_begins_156 (by decide) rfl ?_
    refine z_iload_n F dX12_begins_158 rfl rfl 1 rfl ?_
    refine z_iadd F dX12_begins_159 rfl ?_
    refine z_iconst F dX12_begins_160 rfl ?_
    refine z_lconst (v := 0) F dX12_begins_161 rfl rfl ?_
    refine z_cVv (As := [.int (i3 (10 + x1)), .int (i3 (bz false)), .long (i6 0)]) (st := []) F (c_X12_comes l g k0 hw) cv_X12_comes w_1303 ⟨rfl, rfl, Nat.le_of_ble_eq_true rfl, Nat.le_of_ble_eq_true rfl⟩ k0 rfl rfl (Nat.le_of_ble_eq_true rfl) dX12_begins_162 rfl (fun M162 hw => ?_)
    refine z_aload_n F dX12_begins_165 rfl rfl 0 rfl ?_
    refine z_iload_n F dX12_begins_166 rfl rfl 1 rfl ?_
    refine z_cVbp (As := [.int (i3 x1)]) (st := []) F (c_X12_isRoom l g k0 hw) cv_X12_isRoom w_1307 ⟨rfl, rfl, Nat.le_of_ble_eq_true rfl, Nat.le_of_ble_eq_true rfl⟩ k0 rfl rfl (Nat.le_of_ble_eq_true rfl) dX12_begins_167 rfl (fun r167 hw => ?_)
    refine z_ifb_eq F dX12_begins_170 rfl rfl hw (fun hw => ?_) (fun hw => ?_)
    · refine z_sub [0, 1] rfl ?_
      exact bk_X12_begins_196 F hr k0 hK37 hw
    · refine z_aload_n F dX12_begins_173 rfl rfl 0 rfl ?_
      refine z_bipush F dX12_begins_174 (by decide) rfl ?_
      refine z_iload_n F dX12_begins_176 rfl rfl 1 rfl ?_
      refine z_iadd F dX12_begins_177 rfl ?_
      refine z_iconst F dX12_begins_178 rfl ?_
      refine z_aload_n F dX12_begins_179 rfl rfl 0 rfl ?_
      refine z_getR F fl_994 k0 dX12_begins_180 rfl ?_
      refine z_aload_n F dX12_begins_183 rfl rfl 0 rfl ?_
      refine z_getR F fl_998 k0 dX12_begins_184 rfl ?_
      refine z_iload_n F dX12_begins_187 rfl rfl 1 rfl ?_
      refine z_iald F (tk_12_6 k0) dX12_begins_188 rfl hw (fun hw => ?_)
      refine z_iald F (tk_12_2 k0) dX12_begins_189 rfl hw (fun hw => ?_)
      refine z_i2l F dX12_begins_190 rfl ?_
      refine z_lconst (v := 1) F dX12_begins_191 rfl rfl ?_
      refine z_lsub F dX12_begins_192 rfl ?_
      refine z_cVv (As := [.int (i3 (20 + x1)), .int (i3 (bz true)), .long (i6 ((w32 (M162 (rt a0 2) (ix (M162 (rt a0 6) (ix x1))))) - 1))]) (st := []) F (c_X12_comes l g k0 hw) cv_X12_comes w_1303 ⟨rfl, rfl, Nat.le_of_ble_eq_true rfl, Nat.le_of_ble_eq_true rfl⟩ k0 rfl rfl (Nat.le_of_ble_eq_true rfl) dX12_begins_193 rfl (fun M193 hw => ?_)
      refine z_sub [0, 1] rfl ?_
      exact bk_X12_begins_196 F hr k0 hK37 hw
  · refine z_aload_n F dX12_begins_55 rfl rfl 0 rfl ?_
    refine z_aload_n F dX12_begins_56 rfl rfl 0 rfl ?_
    refine z_getR F fl_1010 k0 dX12_begins_57 rfl ?_
    refine z_iload_n F dX12_begins_60 rfl rfl 2 rfl ?_
    refine z_lald F (tk_12_18 k0) dX12_begins_61 rfl hw (fun hw => ?_)
    refine z_putL F fp_1001 k0 dX12_begins_62 rfl ?_
    refine z_nmM (fun M62 eM62 => ?_)
    have hw := hw M62 eM62
    refine z_aload_n F dX12_begins_65 rfl rfl 0 rfl ?_
    refine z_aload_n F dX12_begins_66 rfl rfl 0 rfl ?_
    refine z_getR F fl_1011 k0 dX12_begins_67 rfl ?_
    refine z_iload_n F dX12_begins_70 rfl rfl 2 rfl ?_
    refine z_lald F (tk_12_19 k0) dX12_begins_71 rfl hw (fun hw => ?_)
    refine z_putL F fp_1002 k0 dX12_begins_72 rfl ?_
    refine z_nmM (fun M72 eM72 => ?_)
    have hw := hw M72 eM72
    refine z_iload_n F dX12_begins_75 rfl rfl 1 rfl ?_
    refine z_if_le F dX12_begins_76 rfl rfl hw (fun hw => ?_) (fun hw => ?_)
    · refine z_sub [0, 1, 2] rfl ?_
      exact bk_X12_begins_85 F hr k0 hK47 hK37 hw
    · refine z_aload_n F dX12_begins_79 rfl rfl 0 rfl ?_
      refine z_iload_n F dX12_begins_80 rfl rfl 1 rfl ?_
      refine z_iconst F dX12_begins_81 rfl ?_
      refine z_cVv (As := [.int (i3 x1), .int (i3 (bz false))]) (st := []) F (c_X12_byFactor l g k0 hw) cv_X12_byFactor w_1235 ⟨rfl, rfl, Nat.le_of_ble_eq_true rfl, Nat.le_of_ble_eq_true rfl⟩ k0 rfl rfl (Nat.le_of_ble_eq_true rfl) dX12_begins_82 rfl (fun M82 hw => ?_)
      refine z_sub [0, 1, 2] rfl ?_
      exact bk_X12_begins_85 F hr k0 hK47 hK37 hw
set_option maxRecDepth 100000 in
set_option maxHeartbeats 4000000 in
theorem lp_X12_begins_47 {g : En} {p : Program} {l : Launch} {e : Env} {s : State} {m : MethodId} {args : Array Value} {below : List Frame} {meth : Method} {c : Code} {M : Mem} {a0 : Nat} {Q : Mem → Prop} {K37 : Mem → Int → Prop} {x1 : Int} {x2 : Int} (F : Fx g p s m args meth c cX12_begins 3 RX12) (hr : meth.sig.returnType = none) (k0 : kd a0 = 12)
    (hK37 : ∀ (M' : Mem) (x1' : Int), K37 M' x1' → Z g p l e rm_X12_begins s m args below meth c 3 (MQ below (va_Qv (S := Mem) Q (fun u => Rp g u) (aR g)) args s 0 0 (aR g)) M' 37 [(0, .ref (g.2.2.1 + a0)), (1, .int (i3 x1'))] [])
    (hw : wp_X12_begins_L47 a0 Q K37 M x1 x2) : Z g p l e rm_X12_begins s m args below meth c 3 (MQ below (va_Qv (S := Mem) Q (fun u => Rp g u) (aR g)) args s 0 0 (aR g)) M 47 [(0, .ref (g.2.2.1 + a0)), (1, .int (i3 x1)), (2, .int (i3 x2))] [] := by
  obtain ⟨I, μ, h0, hb⟩ := hw
  have key : ∀ (n : Nat) (M : Mem) (x2 : Int), I M x2 → μ M x2 < n → Z g p l e rm_X12_begins s m args below meth c 3 (MQ below (va_Qv (S := Mem) Q (fun u => Rp g u) (aR g)) args s 0 0 (aR g)) M 47 [(0, .ref (g.2.2.1 + a0)), (1, .int (i3 x1)), (2, .int (i3 x2))] [] := by
    intro n
    induction n with
    | zero => exact fun _ _ _ h => absurd h (Nat.not_lt_zero _)
    | succ n ih =>
      intro M x2 hI hn
      exact bk_X12_begins_B47 F hr k0 (fun M' x2' hk => ih M' x2' hk.1 (Nat.lt_of_lt_of_le hk.2 (Nat.le_of_lt_succ hn))) hK37 (hb M x2 hI)
  exact key _ M x2 h0 (Nat.lt_succ_self _)
set_option maxRecDepth 100000 in
set_option maxHeartbeats 4000000 in
theorem bk_X12_begins_B37 {g : En} {p : Program} {l : Launch} {e : Env} {s : State} {m : MethodId} {args : Array Value} {below : List Frame} {meth : Method} {c : Code} {M : Mem} {a0 : Nat} {Q : Mem → Prop} {K37 : Mem → Int → Prop} {x1 : Int} (F : Fx g p s m args meth c cX12_begins 3 RX12) (hr : meth.sig.returnType = none) (k0 : kd a0 = 12)
    (hK37 : ∀ (M' : Mem) (x1' : Int), K37 M' x1' → Z g p l e rm_X12_begins s m args below meth c 3 (MQ below (va_Qv (S := Mem) Q (fun u => Rp g u) (aR g)) args s 0 0 (aR g)) M' 37 [(0, .ref (g.2.2.1 + a0)), (1, .int (i3 x1'))] [])
    (hw : wp_X12_begins_B37 a0 Q K37 M x1) : Z g p l e rm_X12_begins s m args below meth c 3 (MQ below (va_Qv (S := Mem) Q (fun u => Rp g u) (aR g)) args s 0 0 (aR g)) M 37 [(0, .ref (g.2.2.1 + a0)), (1, .int (i3 x1))] [] := by
  refine z_iload_n F dX12_begins_37 rfl rfl 1 rfl ?_
  refine z_aload_n F dX12_begins_38 rfl rfl 0 rfl ?_
  refine z_getI F fl_997 k0 dX12_begins_39 rfl ?_
  refine z_icmp_ge F dX12_begins_42 rfl rfl hw (fun hw => ?_) (fun hw => ?_)
  · refine z_aload_n F dX12_begins_202 rfl rfl 0 rfl ?_
    refine z_getR F fl_1006 k0 dX12_begins_203 rfl ?_
    refine z_bipush F dX12_begins_206 (by decide) rfl ?_
    refine z_lconst (v := 0) F dX12_begins_208 rfl rfl ?_
    refine z_last F (tk_12_14 k0) dX12_begins_209 rfl hw (fun hw => ?_)
    refine z_nmM (fun M209 eM209 => ?_)
    have hw := hw M209 eM209
    refine z_aload_n F dX12_begins_210 rfl rfl 0 rfl ?_
    refine z_getR F fl_1007 k0 dX12_begins_211 rfl ?_
    refine z_bipush F dX12_begins_214 (by decide) rfl ?_
    refine z_lconst (v := 1) F dX12_begins_216 rfl rfl ?_
    refine z_last F (tk_12_15 k0) dX12_begins_217 rfl hw (fun hw => ?_)
    refine z_nmM (fun M217 eM217 => ?_)
    have hw := hw M217 eM217
    refine z_iconst F dX12_begins_218 rfl ?_
    refine z_istore_n F dX12_begins_219 rfl rfl (by decide) rfl ?_
    refine z_sub [1, 0] rfl ?_
    exact lp_X12_begins_220 F hr k0 hw
  · refine z_iconst F dX12_begins_45 rfl ?_
    refine z_istore_n F dX12_begins_46 rfl rfl (by decide) rfl ?_
    refine z_sub [1, 2, 0] rfl ?_
    exact lp_X12_begins_47 F hr k0 hK37 hw
set_option maxRecDepth 100000 in
set_option maxHeartbeats 4000000 in
theorem lp_X12_begins_37 {g : En} {p : Program} {l : Launch} {e : Env} {s : State} {m : MethodId} {args : Array Value} {below : List Frame} {meth : Method} {c : Code} {M : Mem} {a0 : Nat} {Q : Mem → Prop} {x1 : Int} (F : Fx g p s m args meth c cX12_begins 3 RX12) (hr : meth.sig.returnType = none) (k0 : kd a0 = 12)
    (hw : wp_X12_begins_L37 a0 Q M x1) : Z g p l e rm_X12_begins s m args below meth c 3 (MQ below (va_Qv (S := Mem) Q (fun u => Rp g u) (aR g)) args s 0 0 (aR g)) M 37 [(0, .ref (g.2.2.1 + a0)), (1, .int (i3 x1))] [] := by
  obtain ⟨I, μ, h0, hb⟩ := hw
  have key : ∀ (n : Nat) (M : Mem) (x1 : Int), I M x1 → μ M x1 < n → Z g p l e rm_X12_begins s m args below meth c 3 (MQ below (va_Qv (S := Mem) Q (fun u => Rp g u) (aR g)) args s 0 0 (aR g)) M 37 [(0, .ref (g.2.2.1 + a0)), (1, .int (i3 x1))] [] := by
    intro n
    induction n with
    | zero => exact fun _ _ _ h => absurd h (Nat.not_lt_zero _)
    | succ n ih =>
      intro M x1 hI hn
      exact bk_X12_begins_B37 F hr k0 (fun M' x1' hk => ih M' x1' hk.1 (Nat.lt_of_lt_of_le hk.2 (Nat.le_of_lt_succ hn))) (hb M x1 hI)
  exact key _ M x1 h0 (Nat.lt_succ_self _)
set_option maxRecDepth 100000 in
set_option maxHeartbeats 4000000 in
theorem bk_X12_begins_B7 {g : En} {p : Program} {l : Launch} {e : Env} {s : State} {m : MethodId} {args : Array Value} {below : List Frame} {meth : Method} {c : Code} {M : Mem} {a0 : Nat} {Q : Mem → Prop} {K7 : Mem → Int → Prop} {x1 : Int} (F : Fx g p s m args meth c cX12_begins 3 RX12) (hr : meth.sig.returnType = none) (k0 : kd a0 = 12)
    (hK7 : ∀ (M' : Mem) (x1' : Int), K7 M' x1' → Z g p l e rm_X12_begins s m args below meth c 3 (MQ below (va_Qv (S := Mem) Q (fun u => Rp g u) (aR g)) args s 0 0 (aR g)) M' 7 [(0, .ref (g.2.2.1 + a0)), (1, .int (i3 x1'))] [])
    (hw : wp_X12_begins_B7 a0 Q K7 M x1) : Z g p l e rm_X12_begins s m args below meth c 3 (MQ below (va_Qv (S := Mem) Q (fun u => Rp g u) (aR g)) args s 0 0 (aR g)) M 7 [(0, .ref (g.2.2.1 + a0)), (1, .int (i3 x1))] [] := by
  refine z_iload_n F dX12_begins_7 rfl rfl 1 rfl ?_
  refine z_aload_n F dX12_begins_8 rfl rfl 0 rfl ?_
  refine z_getI F fl_995 k0 dX12_begins_9 rfl ?_
  refine z_icmp_gt F dX12_begins_12 rfl rfl hw (fun hw => ?_) (fun hw => ?_)
  · refine z_iconst F dX12_begins_35 rfl ?_
    refine z_istore_n F dX12_begins_36 rfl rfl (by decide) rfl ?_
    refine z_sub [1, 0] rfl ?_
    exact lp_X12_begins_37 F hr k0 hw
  · refine z_aload_n F dX12_begins_15 rfl rfl 0 rfl ?_
    refine z_getR F fl_1010 k0 dX12_begins_16 rfl ?_
    refine z_iload_n F dX12_begins_19 rfl rfl 1 rfl ?_
    refine z_lconst (v := 0) F dX12_begins_20 rfl rfl ?_
    refine z_last F (tk_12_18 k0) dX12_begins_21 rfl hw (fun hw => ?_)
    refine z_nmM (fun M21 eM21 => ?_)
    have hw := hw M21 eM21
    refine z_aload_n F dX12_begins_22 rfl rfl 0 rfl ?_
    refine z_getR F fl_1011 k0 dX12_begins_23 rfl ?_
    refine z_iload_n F dX12_begins_26 rfl rfl 1 rfl ?_
    refine z_lconst (v := 1) F dX12_begins_27 rfl rfl ?_
    refine z_last F (tk_12_19 k0) dX12_begins_28 rfl hw (fun hw => ?_)
    refine z_nmM (fun M28 eM28 => ?_)
    have hw := hw M28 eM28
    refine z_iinc F dX12_begins_29 rfl 1 rfl (by decide) rfl ?_
    refine z_goto F dX12_begins_32 rfl ?_
    refine z_sub [1, 0] rfl ?_
    exact hK7 M28 (x1 + 1) hw
set_option maxRecDepth 100000 in
set_option maxHeartbeats 4000000 in
theorem lp_X12_begins_7 {g : En} {p : Program} {l : Launch} {e : Env} {s : State} {m : MethodId} {args : Array Value} {below : List Frame} {meth : Method} {c : Code} {M : Mem} {a0 : Nat} {Q : Mem → Prop} {x1 : Int} (F : Fx g p s m args meth c cX12_begins 3 RX12) (hr : meth.sig.returnType = none) (k0 : kd a0 = 12)
    (hw : wp_X12_begins_L7 a0 Q M x1) : Z g p l e rm_X12_begins s m args below meth c 3 (MQ below (va_Qv (S := Mem) Q (fun u => Rp g u) (aR g)) args s 0 0 (aR g)) M 7 [(0, .ref (g.2.2.1 + a0)), (1, .int (i3 x1))] [] := by
  obtain ⟨I, μ, h0, hb⟩ := hw
  have key : ∀ (n : Nat) (M : Mem) (x1 : Int), I M x1 → μ M x1 < n → Z g p l e rm_X12_begins s m args below meth c 3 (MQ below (va_Qv (S := Mem) Q (fun u => Rp g u) (aR g)) args s 0 0 (aR g)) M 7 [(0, .ref (g.2.2.1 + a0)), (1, .int (i3 x1))] [] := by
    intro n
    induction n with
    | zero => exact fun _ _ _ h => absurd h (Nat.not_lt_zero _)
    | succ n ih =>
      intro M x1 hI hn
      exact bk_X12_begins_B7 F hr k0 (fun M' x1' hk => ih M' x1' hk.1 (Nat.lt_of_lt_of_le hk.2 (Nat.le_of_lt_succ hn))) (hb M x1 hI)
  exact key _ M x1 h0 (Nat.lt_succ_self _)
set_option maxRecDepth 100000 in
set_option maxHeartbeats 4000000 in
theorem c_X12_begins (l : Launch) (g : En) {a0 : Nat} {M : Mem} {Q : Mem → Prop} (k0 : kd a0 = 12) (hw : wp_X12_begins a0 M Q) :
    Met l yX12_begins (WS yX12_begins cX12_begins 3 none) rm_X12_begins (va_Pc [.ref (g.2.2.1 + a0)] (Rp g M)) (va_Qv (S := Mem) Q (fun u => Rp g u) (aR g)) 0 0 (aR g) := by
  refine met_Z (plainFor_of_name rfl) (Nat.le_of_ble_eq_true rfl) ?_
  intro p e s m args below meth c F hr _
  show Z g p l e rm_X12_begins s m args below meth c 3 (MQ below (va_Qv (S := Mem) Q (fun u => Rp g u) (aR g)) args s 0 0 (aR g)) M 0 [(0, .ref (g.2.2.1 + a0))] []
  refine z_aload_n F dX12_begins_0 rfl rfl 0 rfl ?_
  refine z_iconst F dX12_begins_1 rfl ?_
  refine z_putI F fp_1003 k0 dX12_begins_2 rfl ?_
  refine z_nmM (fun M2 eM2 => ?_)
  have hw := hw M2 eM2
  refine z_iconst F dX12_begins_5 rfl ?_
  refine z_istore_n F dX12_begins_6 rfl rfl (by decide) rfl ?_
  refine z_sub [1, 0] rfl ?_
  exact lp_X12_begins_7 F hr k0 hw
theorem cv_X12_begins : CV yX12_begins RX12 cX12_begins 3 none 0 := ⟨w_1301, w_51, w_80, w_1302, rfl, by decide +kernel, by decide +kernel, by decide +kernel⟩
abbrev rm_X12_leaves : Room := { frames := 0, cells := 0, slots := 0, locals := 0 }
def wp_X12_leaves_b45 (a0 : Nat) (Q : Int → Prop) (K4 : Int → Int → Prop) (M : Mem) (x1 : Int) (x2 : Int) : Prop :=
  K4 x1 (x2 + 1)
def wp_X12_leaves_b43 (a0 : Nat) (Q : Int → Prop) (K4 : Int → Int → Prop) (M : Mem) (x2 : Int) : Prop :=
  wp_X12_leaves_b45 a0 Q K4 M x2 x2
def wp_X12_leaves_B4 (a0 : Nat) (Q : Int → Prop) (K4 : Int → Int → Prop) (M : Mem) (x1 : Int) (x2 : Int) : Prop :=
  (((w32 (M a0 11) ≤ w32 x2) → (
    Q x1)) ∧
  (¬ (w32 (M a0 11) ≤ w32 x2) → (
    inb (rt a0 14) x2 ∧ (
    (((w64 0 ≤ w64 (M (rt a0 14) (ix x2))) → (
      wp_X12_leaves_b45 a0 Q K4 M x1 x2)) ∧
    (¬ (w64 0 ≤ w64 (M (rt a0 14) (ix x2))) → (
      (((w32 x1 = w32 (-1)) → (
        wp_X12_leaves_b43 a0 Q K4 M x2)) ∧
      (¬ (w32 x1 = w32 (-1)) → (
        inb (rt a0 12) x2 ∧ (
        inb (rt a0 12) x1 ∧ (
        (((w32 (M (rt a0 12) (ix x1)) ≤ w32 (M (rt a0 12) (ix x2))) → (
          wp_X12_leaves_b45 a0 Q K4 M x1 x2)) ∧
        (¬ (w32 (M (rt a0 12) (ix x1)) ≤ w32 (M (rt a0 12) (ix x2))) → (
          wp_X12_leaves_b43 a0 Q K4 M x2)))))))))))))))
def wp_X12_leaves_L4 (a0 : Nat) (Q : Int → Prop) (M : Mem) (x1 : Int) (x2 : Int) : Prop :=
  ∃ (I : Int → Int → Prop) (μ : Int → Int → Nat), I x1 x2 ∧ ∀ (x1 : Int) (x2 : Int), I x1 x2 →
    wp_X12_leaves_B4 a0 Q (fun x1' x2' => I x1' x2' ∧ μ x1' x2' < μ x1 x2) M x1 x2
def wp_X12_leaves (a0 : Nat) (M : Mem) (Q : Int → Prop) : Prop :=
  wp_X12_leaves_L4 a0 Q M (-1) 0
set_option maxRecDepth 100000 in
set_option maxHeartbeats 4000000 in
theorem bk_X12_leaves_45 {g : En} {p : Program} {l : Launch} {e : Env} {s : State} {m : MethodId} {args : Array Value} {below : List Frame} {meth : Method} {c : Code} {M : Mem} {a0 : Nat} {Q : Int → Prop} {K4 : Int → Int → Prop} {x1 : Int} {x2 : Int} (F : Fx g p s m args meth c cX12_leaves 3 RX12) (hr : meth.sig.returnType = (some .int)) (k0 : kd a0 = 12)
    (hK4 : ∀ (x1' : Int) (x2' : Int), K4 x1' x2' → Z g p l e rm_X12_leaves s m args below meth c 3 (MQ below (va_Qi (S := Int × Mem) (fun r u => r = i3 u.1 ∧ (u.2 = M ∧ Q u.1)) (fun u => Rp g u.2) (aR g)) args s 0 0 (aR g)) M 4 [(0, .ref (g.2.2.1 + a0)), (1, .int (i3 x1')), (2, .int (i3 x2'))] [])
    (hw : wp_X12_leaves_b45 a0 Q K4 M x1 x2) : Z g p l e rm_X12_leaves s m args below meth c 3 (MQ below (va_Qi (S := Int × Mem) (fun r u => r = i3 u.1 ∧ (u.2 = M ∧ Q u.1)) (fun u => Rp g u.2) (aR g)) args s 0 0 (aR g)) M 45 [(0, .ref (g.2.2.1 + a0)), (1, .int (i3 x1)), (2, .int (i3 x2))] [] := by
  refine z_iinc F dX12_leaves_45 rfl 2 rfl (by decide) rfl ?_
  refine z_goto F dX12_leaves_48 rfl ?_
  refine z_sub [1, 2, 0] rfl ?_
  exact hK4 x1 (x2 + 1) hw
set_option maxRecDepth 100000 in
set_option maxHeartbeats 4000000 in
theorem bk_X12_leaves_43 {g : En} {p : Program} {l : Launch} {e : Env} {s : State} {m : MethodId} {args : Array Value} {below : List Frame} {meth : Method} {c : Code} {M : Mem} {a0 : Nat} {Q : Int → Prop} {K4 : Int → Int → Prop} {x2 : Int} (F : Fx g p s m args meth c cX12_leaves 3 RX12) (hr : meth.sig.returnType = (some .int)) (k0 : kd a0 = 12)
    (hK4 : ∀ (x1' : Int) (x2' : Int), K4 x1' x2' → Z g p l e rm_X12_leaves s m args below meth c 3 (MQ below (va_Qi (S := Int × Mem) (fun r u => r = i3 u.1 ∧ (u.2 = M ∧ Q u.1)) (fun u => Rp g u.2) (aR g)) args s 0 0 (aR g)) M 4 [(0, .ref (g.2.2.1 + a0)), (1, .int (i3 x1')), (2, .int (i3 x2'))] [])
    (hw : wp_X12_leaves_b43 a0 Q K4 M x2) : Z g p l e rm_X12_leaves s m args below meth c 3 (MQ below (va_Qi (S := Int × Mem) (fun r u => r = i3 u.1 ∧ (u.2 = M ∧ Q u.1)) (fun u => Rp g u.2) (aR g)) args s 0 0 (aR g)) M 43 [(0, .ref (g.2.2.1 + a0)), (2, .int (i3 x2))] [] := by
  refine z_iload_n F dX12_leaves_43 rfl rfl 1 rfl ?_
  refine z_istore_n F dX12_leaves_44 rfl rfl (by decide) rfl ?_
  refine z_sub [1, 0, 2] rfl ?_
  exact bk_X12_leaves_45 F hr k0 hK4 hw
set_option maxRecDepth 100000 in
set_option maxHeartbeats 4000000 in
theorem bk_X12_leaves_B4 {g : En} {p : Program} {l : Launch} {e : Env} {s : State} {m : MethodId} {args : Array Value} {below : List Frame} {meth : Method} {c : Code} {M : Mem} {a0 : Nat} {Q : Int → Prop} {K4 : Int → Int → Prop} {x1 : Int} {x2 : Int} (F : Fx g p s m args meth c cX12_leaves 3 RX12) (hr : meth.sig.returnType = (some .int)) (k0 : kd a0 = 12)
    (hK4 : ∀ (x1' : Int) (x2' : Int), K4 x1' x2' → Z g p l e rm_X12_leaves s m args below meth c 3 (MQ below (va_Qi (S := Int × Mem) (fun r u => r = i3 u.1 ∧ (u.2 = M ∧ Q u.1)) (fun u => Rp g u.2) (aR g)) args s 0 0 (aR g)) M 4 [(0, .ref (g.2.2.1 + a0)), (1, .int (i3 x1')), (2, .int (i3 x2'))] [])
    (hw : wp_X12_leaves_B4 a0 Q K4 M x1 x2) : Z g p l e rm_X12_leaves s m args below meth c 3 (MQ below (va_Qi (S := Int × Mem) (fun r u => r = i3 u.1 ∧ (u.2 = M ∧ Q u.1)) (fun u => Rp g u.2) (aR g)) args s 0 0 (aR g)) M 4 [(0, .ref (g.2.2.1 + a0)), (1, .int (i3 x1)), (2, .int (i3 x2))] [] := by
  refine z_iload_n F dX12_leaves_4 rfl rfl 2 rfl ?_
  refine z_aload_n F dX12_leaves_5 rfl rfl 0 rfl ?_
  refine z_getI F fl_1003 k0 dX12_leaves_6 rfl ?_
  refine z_icmp_ge F dX12_leaves_9 rfl rfl hw (fun hw => ?_) (fun hw => ?_)
  · refine z_iload_n F dX12_leaves_51 rfl rfl 1 rfl ?_
    exact z_iretp (x := x1) F hr dX12_leaves_52 hw
  · refine z_aload_n F dX12_leaves_12 rfl rfl 0 rfl ?_
    refine z_getR F fl_1006 k0 dX12_leaves_13 rfl ?_
    refine z_iload_n F dX12_leaves_16 rfl rfl 2 rfl ?_
    refine z_lald F (tk_12_14 k0) dX12_leaves_17 rfl hw (fun hw => ?_)
    refine z_lconst (v := 0) F dX12_leaves_18 rfl rfl ?_
    refine z_lcmp_ge F dX12_leaves_19 rfl dX12_leaves_20 rfl rfl hw (fun hw => ?_) (fun hw => ?_)
    · refine z_sub [0, 1, 2] rfl ?_
      exact bk_X12_leaves_45 F hr k0 hK4 hw
    · refine z_iload_n F dX12_leaves_23 rfl rfl 1 rfl ?_
      refine z_iconst F dX12_leaves_24 rfl ?_
      refine z_icmp_eq F dX12_leaves_25 rfl rfl hw (fun hw => ?_) (fun hw => ?_)
      · refine z_sub [0, 2] rfl ?_
        exact bk_X12_leaves_43 F hr k0 hK4 hw
      · refine z_aload_n F dX12_leaves_28 rfl rfl 0 rfl ?_
        refine z_getR F fl_1004 k0 dX12_leaves_29 rfl ?_
        refine z_iload_n F dX12_leaves_32 rfl rfl 2 rfl ?_
        refine z_iald F (tk_12_12 k0) dX12_leaves_33 rfl hw (fun hw => ?_)
        refine z_aload_n F dX12_leaves_34 rfl rfl 0 rfl ?_
        refine z_getR F fl_1004 k0 dX12_leaves_35 rfl ?_
        refine z_iload_n F dX12_leaves_38 rfl rfl 1 rfl ?_
        refine z_iald F (tk_12_12 k0) dX12_leaves_39 rfl hw (fun hw => ?_)
        refine z_icmp_ge F dX12_leaves_40 rfl rfl hw (fun hw => ?_) (fun hw => ?_)
        · refine z_sub [0, 1, 2] rfl ?_
          exact bk_X12_leaves_45 F hr k0 hK4 hw
        · refine z_sub [0, 2] rfl ?_
          exact bk_X12_leaves_43 F hr k0 hK4 hw
set_option maxRecDepth 100000 in
set_option maxHeartbeats 4000000 in
theorem lp_X12_leaves_4 {g : En} {p : Program} {l : Launch} {e : Env} {s : State} {m : MethodId} {args : Array Value} {below : List Frame} {meth : Method} {c : Code} {M : Mem} {a0 : Nat} {Q : Int → Prop} {x1 : Int} {x2 : Int} (F : Fx g p s m args meth c cX12_leaves 3 RX12) (hr : meth.sig.returnType = (some .int)) (k0 : kd a0 = 12)
    (hw : wp_X12_leaves_L4 a0 Q M x1 x2) : Z g p l e rm_X12_leaves s m args below meth c 3 (MQ below (va_Qi (S := Int × Mem) (fun r u => r = i3 u.1 ∧ (u.2 = M ∧ Q u.1)) (fun u => Rp g u.2) (aR g)) args s 0 0 (aR g)) M 4 [(0, .ref (g.2.2.1 + a0)), (1, .int (i3 x1)), (2, .int (i3 x2))] [] := by
  obtain ⟨I, μ, h0, hb⟩ := hw
  have key : ∀ (n : Nat) (x1 : Int) (x2 : Int), I x1 x2 → μ x1 x2 < n → Z g p l e rm_X12_leaves s m args below meth c 3 (MQ below (va_Qi (S := Int × Mem) (fun r u => r = i3 u.1 ∧ (u.2 = M ∧ Q u.1)) (fun u => Rp g u.2) (aR g)) args s 0 0 (aR g)) M 4 [(0, .ref (g.2.2.1 + a0)), (1, .int (i3 x1)), (2, .int (i3 x2))] [] := by
    intro n
    induction n with
    | zero => exact fun _ _ _ h => absurd h (Nat.not_lt_zero _)
    | succ n ih =>
      intro x1 x2 hI hn
      exact bk_X12_leaves_B4 F hr k0 (fun x1' x2' hk => ih x1' x2' hk.1 (Nat.lt_of_lt_of_le hk.2 (Nat.le_of_lt_succ hn))) (hb x1 x2 hI)
  exact key _ x1 x2 h0 (Nat.lt_succ_self _)
set_option maxRecDepth 100000 in
set_option maxHeartbeats 4000000 in
theorem c_X12_leaves (l : Launch) (g : En) {a0 : Nat} {M : Mem} {Q : Int → Prop} (k0 : kd a0 = 12) (hw : wp_X12_leaves a0 M Q) :
    Met l yX12_leaves (WS yX12_leaves cX12_leaves 3 (some .int)) rm_X12_leaves (va_Pc [.ref (g.2.2.1 + a0)] (Rp g M)) (va_Qi (S := Int × Mem) (fun r u => r = i3 u.1 ∧ (u.2 = M ∧ Q u.1)) (fun u => Rp g u.2) (aR g)) 0 0 (aR g) := by
  refine met_Z (plainFor_of_name rfl) (Nat.le_of_ble_eq_true rfl) ?_
  intro p e s m args below meth c F hr _
  show Z g p l e rm_X12_leaves s m args below meth c 3 (MQ below (va_Qi (S := Int × Mem) (fun r u => r = i3 u.1 ∧ (u.2 = M ∧ Q u.1)) (fun u => Rp g u.2) (aR g)) args s 0 0 (aR g)) M 0 [(0, .ref (g.2.2.1 + a0))] []
  refine z_iconst F dX12_leaves_0 rfl ?_
  refine z_istore_n F dX12_leaves_1 rfl rfl (by decide) rfl ?_
  refine z_iconst F dX12_leaves_2 rfl ?_
  refine z_istore_n F dX12_leaves_3 rfl rfl (by decide) rfl ?_
  refine z_sub [2, 1, 0] rfl ?_
  exact lp_X12_leaves_4 F hr k0 hw
theorem cv_X12_leaves : CV yX12_leaves RX12 cX12_leaves 3 (some .int) 0 := ⟨w_1313, w_54, w_80, w_1314, rfl, by decide +kernel, by decide +kernel, by decide +kernel⟩
abbrev rm_X12_enters : Room := { frames := 5, cells := 0, slots := 0, locals := 132 }
def wp_X12_enters_b152 (a0 : Nat) (Q : Int → Mem → Prop) (K10 : Mem → Int → Int → Int → Int → Prop) (M : Mem) (x1 : Int) (x2 : Int) (x3 : Int) (x5 : Int) (x7 : Int) : Prop :=
  K10 M x2 x3 x5 (x7 + 1)
def wp_X12_enters_b138 (a0 : Nat) (Q : Int → Mem → Prop) (K10 : Mem → Int → Int → Int → Int → Prop) (M : Mem) (x1 : Int) (x7 : Int) : Prop :=
  wp_X12_enters_b152 a0 Q K10 M x1 x7 (M a0 9) (M a0 10) x7
def wp_X12_enters_B10 (a0 : Nat) (Q : Int → Mem → Prop) (K10 : Mem → Int → Int → Int → Int → Prop) (M : Mem) (x1 : Int) (x2 : Int) (x3 : Int) (x5 : Int) (x7 : Int) : Prop :=
  (((w32 (M a0 3) ≤ w32 x7) → (
    Q x2 M)) ∧
  (¬ (w32 (M a0 3) ≤ w32 x7) → (
    inb (rt a0 16) ((5 * x1) + x7) ∧ (
    (((w64 0 < w64 (M (rt a0 16) (ix ((5 * x1) + x7)))) → (
      inb (rt a0 16) (45 + x7) ∧ (
      inb (rt a0 17) (45 + x7) ∧ (
      inb (rt a0 16) ((5 * x1) + x7) ∧ (
      inb (rt a0 17) ((5 * x1) + x7) ∧ (
      wp_X12_quotient a0 (M (rt a0 16) (ix (45 + x7))) (M (rt a0 17) (ix (45 + x7))) (M (rt a0 16) (ix ((5 * x1) + x7))) (M (rt a0 17) (ix ((5 * x1) + x7))) M (fun M77 =>
      (((w32 x2 = w32 (-1)) → (
        wp_X12_enters_b138 a0 Q K10 M77 x1 x7)) ∧
      (¬ (w32 x2 = w32 (-1)) → (
        wp_X12_isLess (M77 a0 9) (M77 a0 10) x3 x5 M77 (fun r96 =>
        ((r96 = true → (
          wp_X12_enters_b138 a0 Q K10 M77 x1 x7)) ∧
        (r96 = false → (
          wp_X12_isLess x3 x5 (M77 a0 9) (M77 a0 10) M77 (fun r113 =>
          ((r113 = true → (
            wp_X12_enters_b152 a0 Q K10 M77 x1 x2 x3 x5 x7)) ∧
          (r113 = false → (
            inb (rt a0 13) x7 ∧ (
            inb (rt a0 13) x2 ∧ (
            (((w32 (M77 (rt a0 13) (ix x7)) ≤ w32 (M77 (rt a0 13) (ix x2))) → (
              wp_X12_enters_b138 a0 Q K10 M77 x1 x7)) ∧
            (¬ (w32 (M77 (rt a0 13) (ix x7)) ≤ w32 (M77 (rt a0 13) (ix x2))) → (
              wp_X12_enters_b152 a0 Q K10 M77 x1 x2 x3 x5 x7))))))))))))))))))))))) ∧
    (¬ (w64 0 < w64 (M (rt a0 16) (ix ((5 * x1) + x7)))) → (
      wp_X12_enters_b152 a0 Q K10 M x1 x2 x3 x5 x7)))))))
def wp_X12_enters_L10 (a0 : Nat) (Q : Int → Mem → Prop) (M : Mem) (x1 : Int) (x2 : Int) (x3 : Int) (x5 : Int) (x7 : Int) : Prop :=
  ∃ (I : Mem → Int → Int → Int → Int → Prop) (μ : Mem → Int → Int → Int → Int → Nat), I M x2 x3 x5 x7 ∧ ∀ (M : Mem) (x2 : Int) (x3 : Int) (x5 : Int) (x7 : Int), I M x2 x3 x5 x7 →
    wp_X12_enters_B10 a0 Q (fun M' x2' x3' x5' x7' => I M' x2' x3' x5' x7' ∧ μ M' x2' x3' x5' x7' < μ M x2 x3 x5 x7) M x1 x2 x3 x5 x7
def wp_X12_enters (a0 : Nat) (a1 : Int) (M : Mem) (Q : Int → Mem → Prop) : Prop :=
  wp_X12_enters_L10 a0 Q M a1 (-1) 0 1 0
set_option maxRecDepth 100000 in
set_option maxHeartbeats 4000000 in
theorem bk_X12_enters_152 {g : En} {p : Program} {l : Launch} {e : Env} {s : State} {m : MethodId} {args : Array Value} {below : List Frame} {meth : Method} {c : Code} {M : Mem} {a0 : Nat} {Q : Int → Mem → Prop} {K10 : Mem → Int → Int → Int → Int → Prop} {x1 : Int} {x2 : Int} {x3 : Int} {x5 : Int} {x7 : Int} (F : Fx g p s m args meth c cX12_enters 9 RX12) (hr : meth.sig.returnType = (some .int)) (k0 : kd a0 = 12)
    (hK10 : ∀ (M' : Mem) (x2' : Int) (x3' : Int) (x5' : Int) (x7' : Int), K10 M' x2' x3' x5' x7' → Z g p l e rm_X12_enters s m args below meth c 9 (MQ below (va_Qi (S := Int × Mem) (fun r u => r = i3 u.1 ∧ Q u.1 u.2) (fun u => Rp g u.2) (aR g)) args s 0 0 (aR g)) M' 10 [(0, .ref (g.2.2.1 + a0)), (1, .int (i3 x1)), (2, .int (i3 x2')), (3, .long (i6 x3')), (5, .long (i6 x5')), (7, .int (i3 x7'))] [])
    (hw : wp_X12_enters_b152 a0 Q K10 M x1 x2 x3 x5 x7) : Z g p l e rm_X12_enters s m args below meth c 9 (MQ below (va_Qi (S := Int × Mem) (fun r u => r = i3 u.1 ∧ Q u.1 u.2) (fun u => Rp g u.2) (aR g)) args s 0 0 (aR g)) M 152 [(0, .ref (g.2.2.1 + a0)), (1, .int (i3 x1)), (2, .int (i3 x2)), (3, .long (i6 x3)), (5, .long (i6 x5)), (7, .int (i3 x7))] [] := by
  refine z_iinc F dX12_enters_152 rfl 5 rfl (by decide) rfl ?_
  refine z_goto F dX12_enters_155 rfl ?_
  refine z_sub [1, 2, 3, 4, 5, 0] rfl ?_
  exact hK10 M x2 x3 x5 (x7 + 1) hw
set_option maxRecDepth 100000 in
set_option maxHeartbeats 4000000 in
theorem bk_X12_enters_138 {g : En} {p : Program} {l : Launch} {e : Env} {s : State} {m : MethodId} {args : Array Value} {below : List Frame} {meth : Method} {c : Code} {M : Mem} {a0 : Nat} {Q : Int → Mem → Prop} {K10 : Mem → Int → Int → Int → Int → Prop} {x1 : Int} {x7 : Int} (F : Fx g p s m args meth c cX12_enters 9 RX12) (hr : meth.sig.returnType = (some .int)) (k0 : kd a0 = 12)
    (hK10 : ∀ (M' : Mem) (x2' : Int) (x3' : Int) (x5' : Int) (x7' : Int), K10 M' x2' x3' x5' x7' → Z g p l e rm_X12_enters s m args below meth c 9 (MQ below (va_Qi (S := Int × Mem) (fun r u => r = i3 u.1 ∧ Q u.1 u.2) (fun u => Rp g u.2) (aR g)) args s 0 0 (aR g)) M' 10 [(0, .ref (g.2.2.1 + a0)), (1, .int (i3 x1)), (2, .int (i3 x2')), (3, .long (i6 x3')), (5, .long (i6 x5')), (7, .int (i3 x7'))] [])
    (hw : wp_X12_enters_b138 a0 Q K10 M x1 x7) : Z g p l e rm_X12_enters s m args below meth c 9 (MQ below (va_Qi (S := Int × Mem) (fun r u => r = i3 u.1 ∧ Q u.1 u.2) (fun u => Rp g u.2) (aR g)) args s 0 0 (aR g)) M 138 [(0, .ref (g.2.2.1 + a0)), (1, .int (i3 x1)), (7, .int (i3 x7))] [] := by
  refine z_iload F dX12_enters_138 rfl 2 rfl ?_
  refine z_istore_n F dX12_enters_140 rfl rfl (by decide) rfl ?_
  refine z_aload_n F dX12_enters_141 rfl rfl 1 rfl ?_
  refine z_getL F fl_1001 k0 dX12_enters_142 rfl ?_
  refine z_lstore_n F dX12_enters_145 rfl rfl (by decide) rfl ?_
  refine z_aload_n F dX12_enters_146 rfl rfl 2 rfl ?_
  refine z_getL F fl_1002 k0 dX12_enters_147 rfl ?_
  refine z_lstore F dX12_enters_150 rfl (by decide) rfl ?_
  refine z_sub [3, 4, 2, 1, 0, 5] rfl ?_
  exact bk_X12_enters_152 F hr k0 hK10 hw
set_option maxRecDepth 100000 in
set_option maxHeartbeats 4000000 in
theorem bk_X12_enters_B10 {g : En} {p : Program} {l : Launch} {e : Env} {s : State} {m : MethodId} {args : Array Value} {below : List Frame} {meth : Method} {c : Code} {M : Mem} {a0 : Nat} {Q : Int → Mem → Prop} {K10 : Mem → Int → Int → Int → Int → Prop} {x1 : Int} {x2 : Int} {x3 : Int} {x5 : Int} {x7 : Int} (F : Fx g p s m args meth c cX12_enters 9 RX12) (hr : meth.sig.returnType = (some .int)) (k0 : kd a0 = 12)
    (hK10 : ∀ (M' : Mem) (x2' : Int) (x3' : Int) (x5' : Int) (x7' : Int), K10 M' x2' x3' x5' x7' → Z g p l e rm_X12_enters s m args below meth c 9 (MQ below (va_Qi (S := Int × Mem) (fun r u => r = i3 u.1 ∧ Q u.1 u.2) (fun u => Rp g u.2) (aR g)) args s 0 0 (aR g)) M' 10 [(0, .ref (g.2.2.1 + a0)), (1, .int (i3 x1)), (2, .int (i3 x2')), (3, .long (i6 x3')), (5, .long (i6 x5')), (7, .int (i3 x7'))] [])
    (hw : wp_X12_enters_B10 a0 Q K10 M x1 x2 x3 x5 x7) : Z g p l e rm_X12_enters s m args below meth c 9 (MQ below (va_Qi (S := Int × Mem) (fun r u => r = i3 u.1 ∧ Q u.1 u.2) (fun u => Rp g u.2) (aR g)) args s 0 0 (aR g)) M 10 [(0, .ref (g.2.2.1 + a0)), (1, .int (i3 x1)), (2, .int (i3 x2)), (3, .long (i6 x3)), (5, .long (i6 x5)), (7, .int (i3 x7))] [] := by
  refine z_iload F dX12_enters_10 rfl 5 rfl ?_
  refine z_aload_n F dX12_enters_12 rfl rfl 0 rfl ?_
  refine z_getI F fl_995 k0 dX12_enters_13 rfl ?_
  refine z_icmp_ge F dX12_enters_16 rfl rfl hw (fun hw => ?_) (fun hw => ?_)
  · refine z_iload_n F dX12_enters_158 rfl rfl 2 rfl ?_
    exact z_iret (x := x2) F hr dX12_enters_159 hw
  · refine z_iconst F dX12_enters_19 rfl ?_
    refine z_iload_n F dX12_enters_20 rfl rfl 1 rfl ?_
    refine z_imul F dX12_enters_21 rfl ?_
    refine z_iload F dX12_enters_22 rfl 5 rfl ?_
    refine z_iadd F dX12_enters_24 rfl ?_
    refine z_istore F dX12_enters_25 rfl (by decide) rfl ?_
    refine z_aload_n F dX12_enters_27 rfl rfl 1 rfl ?_
    refine z_getR F fl_1008 k0 dX12_enters_28 rfl ?_
    refine z_iload F dX12_enters_31 rfl 0 rfl ?_
    refine z_lald F (tk_12_16 k0) dX12_enters_33 rfl hw (fun hw => ?_)
    refine z_lconst (v := 0) F dX12_enters_34 rfl rfl ?_
    refine z_lcmp_gt F dX12_enters_35 rfl dX12_enters_36 rfl rfl hw (fun hw => ?_) (fun hw => ?_)
    · refine z_aload_n F dX12_enters_42 rfl rfl 1 rfl ?_
      refine z_aload_n F dX12_enters_43 rfl rfl 1 rfl ?_
      refine z_getR F fl_1008 k0 dX12_enters_44 rfl ?_
      refine z_bipush F dX12_enters_47 (by decide) rfl ?_
      refine z_iload F dX12_enters_49 rfl 6 rfl ?_
      refine z_iadd F dX12_enters_51 rfl ?_
      refine z_lald F (tk_12_16 k0) dX12_enters_52 rfl hw (fun hw => ?_)
      refine z_aload_n F dX12_enters_53 rfl rfl 1 rfl ?_
      refine z_getR F fl_1009 k0 dX12_enters_54 rfl ?_
      refine z_bipush F dX12_enters_57 (by decide) rfl ?_
      refine z_iload F dX12_enters_59 rfl 6 rfl ?_
      refine z_iadd F dX12_enters_61 rfl ?_
      refine z_lald F (tk_12_17 k0) dX12_enters_62 rfl hw (fun hw => ?_)
      refine z_aload_n F dX12_enters_63 rfl rfl 1 rfl ?_
      refine z_getR F fl_1008 k0 dX12_enters_64 rfl ?_
      refine z_iload F dX12_enters_67 rfl 0 rfl ?_
      refine z_lald F (tk_12_16 k0) dX12_enters_69 rfl hw (fun hw => ?_)
      refine z_aload_n F dX12_enters_70 rfl rfl 1 rfl ?_
      refine z_getR F fl_1009 k0 dX12_enters_71 rfl ?_
      refine z_iload F dX12_enters_74 rfl 0 rfl ?_
      refine z_lald F (tk_12_17 k0) dX12_enters_76 rfl hw (fun hw => ?_)
      refine z_cVv (As := [.long (i6 (M (rt a0 16) (ix (45 + x7)))), .long (i6 (M (rt a0 17) (ix (45 + x7)))), .long (i6 (M (rt a0 16) (ix ((5 * x1) + x7)))), .long (i6 (M (rt a0 17) (ix ((5 * x1) + x7))))]) (st := []) F (c_X12_quotient l g k0 hw) cv_X12_quotient w_1254 ⟨rfl, rfl, Nat.le_of_ble_eq_true rfl, Nat.le_of_ble_eq_true rfl⟩ k0 rfl rfl (Nat.le_of_ble_eq_true rfl) dX12_enters_77 rfl (fun M77 hw => ?_)
      refine z_iload_n F dX12_enters_80 rfl rfl 3 rfl ?_
      refine z_iconst F dX12_enters_81 rfl ?_
      refine z_icmp_eq F dX12_enters_82 rfl rfl hw (fun hw => ?_) (fun hw => ?_)
      · refine z_sub [1, 2, 6] rfl ?_
        exact bk_X12_enters_138 F hr k0 hK10 hw
      · refine z_aload_n F dX12_enters_85 rfl rfl 1 rfl ?_
        refine z_getL F fl_1001 k0 dX12_enters_86 rfl ?_
        refine z_aload_n F dX12_enters_89 rfl rfl 1 rfl ?_
        refine z_getL F fl_1002 k0 dX12_enters_90 rfl ?_
        refine z_lload_n F dX12_enters_93 rfl rfl 4 rfl ?_
        refine z_lload F dX12_enters_94 rfl 5 rfl ?_
        refine z_cSbp (As := [.long (i6 (M77 a0 9)), .long (i6 (M77 a0 10)), .long (i6 x3), .long (i6 x5)]) (st := []) F (c_X12_isLess l g hw) cs_X12_isLess w_1319 ⟨rfl, rfl, Nat.le_of_ble_eq_true rfl, Nat.le_of_ble_eq_true rfl⟩ rfl (Nat.le_of_ble_eq_true rfl) dX12_enters_96 rfl (fun r96 hw => ?_)
        refine z_ifb_ne F dX12_enters_99 rfl rfl hw (fun hw => ?_) (fun hw => ?_)
        · refine z_sub [1, 2, 6] rfl ?_
          exact bk_X12_enters_138 F hr k0 hK10 hw
        · refine z_lload_n F dX12_enters_102 rfl rfl 4 rfl ?_
          refine z_lload F dX12_enters_103 rfl 5 rfl ?_
          refine z_aload_n F dX12_enters_105 rfl rfl 1 rfl ?_
          refine z_getL F fl_1001 k0 dX12_enters_106 rfl ?_
          refine z_aload_n F dX12_enters_109 rfl rfl 1 rfl ?_
          refine z_getL F fl_1002 k0 dX12_enters_110 rfl ?_
          refine z_cSbp (As := [.long (i6 x3), .long (i6 x5), .long (i6 (M77 a0 9)), .long (i6 (M77 a0 10))]) (st := []) F (c_X12_isLess l g hw) cs_X12_isLess w_1319 ⟨rfl, rfl, Nat.le_of_ble_eq_true rfl, Nat.le_of_ble_eq_true rfl⟩ rfl (Nat.le_of_ble_eq_true rfl) dX12_enters_113 rfl (fun r113 hw => ?_)
          refine z_ifb_ne F dX12_enters_116 rfl rfl hw (fun hw => ?_) (fun hw => ?_)
          · refine z_sub [1, 2, 3, 4, 5, 6] rfl ?_
            exact bk_X12_enters_152 F hr k0 hK10 hw
          · refine z_aload_n F dX12_enters_119 rfl rfl 1 rfl ?_
            refine z_getR F fl_1005 k0 dX12_enters_120 rfl ?_
            refine z_iload F dX12_enters_123 rfl 6 rfl ?_
            refine z_iald F (tk_12_13 k0) dX12_enters_125 rfl hw (fun hw => ?_)
            refine z_aload_n F dX12_enters_126 rfl rfl 1 rfl ?_
            refine z_getR F fl_1005 k0 dX12_enters_127 rfl ?_
            refine z_iload_n F dX12_enters_130 rfl rfl 3 rfl ?_
            refine z_iald F (tk_12_13 k0) dX12_enters_131 rfl hw (fun hw => ?_)
            refine z_icmp_le F dX12_enters_132 rfl rfl hw (fun hw => ?_) (fun hw => ?_)
            · refine z_sub [1, 2, 6] rfl ?_
              exact bk_X12_enters_138 F hr k0 hK10 hw
            · refine z_goto F dX12_enters_135 rfl ?_
              refine z_sub [1, 2, 3, 4, 5, 6] rfl ?_
              exact bk_X12_enters_152 F hr k0 hK10 hw
    · refine z_goto F dX12_enters_39 rfl ?_
      refine z_sub [1, 2, 3, 4, 5, 6] rfl ?_
      exact bk_X12_enters_152 F hr k0 hK10 hw
set_option maxRecDepth 100000 in
set_option maxHeartbeats 4000000 in
theorem lp_X12_enters_10 {g : En} {p : Program} {l : Launch} {e : Env} {s : State} {m : MethodId} {args : Array Value} {below : List Frame} {meth : Method} {c : Code} {M : Mem} {a0 : Nat} {Q : Int → Mem → Prop} {x1 : Int} {x2 : Int} {x3 : Int} {x5 : Int} {x7 : Int} (F : Fx g p s m args meth c cX12_enters 9 RX12) (hr : meth.sig.returnType = (some .int)) (k0 : kd a0 = 12)
    (hw : wp_X12_enters_L10 a0 Q M x1 x2 x3 x5 x7) : Z g p l e rm_X12_enters s m args below meth c 9 (MQ below (va_Qi (S := Int × Mem) (fun r u => r = i3 u.1 ∧ Q u.1 u.2) (fun u => Rp g u.2) (aR g)) args s 0 0 (aR g)) M 10 [(0, .ref (g.2.2.1 + a0)), (1, .int (i3 x1)), (2, .int (i3 x2)), (3, .long (i6 x3)), (5, .long (i6 x5)), (7, .int (i3 x7))] [] := by
  obtain ⟨I, μ, h0, hb⟩ := hw
  have key : ∀ (n : Nat) (M : Mem) (x2 : Int) (x3 : Int) (x5 : Int) (x7 : Int), I M x2 x3 x5 x7 → μ M x2 x3 x5 x7 < n → Z g p l e rm_X12_enters s m args below meth c 9 (MQ below (va_Qi (S := Int × Mem) (fun r u => r = i3 u.1 ∧ Q u.1 u.2) (fun u => Rp g u.2) (aR g)) args s 0 0 (aR g)) M 10 [(0, .ref (g.2.2.1 + a0)), (1, .int (i3 x1)), (2, .int (i3 x2)), (3, .long (i6 x3)), (5, .long (i6 x5)), (7, .int (i3 x7))] [] := by
    intro n
    induction n with
    | zero => exact fun _ _ _ _ _ _ h => absurd h (Nat.not_lt_zero _)
    | succ n ih =>
      intro M x2 x3 x5 x7 hI hn
      exact bk_X12_enters_B10 F hr k0 (fun M' x2' x3' x5' x7' hk => ih M' x2' x3' x5' x7' hk.1 (Nat.lt_of_lt_of_le hk.2 (Nat.le_of_lt_succ hn))) (hb M x2 x3 x5 x7 hI)
  exact key _ M x2 x3 x5 x7 h0 (Nat.lt_succ_self _)
set_option maxRecDepth 100000 in
set_option maxHeartbeats 4000000 in
theorem c_X12_enters (l : Launch) (g : En) {a0 : Nat} {a1 : Int} {M : Mem} {Q : Int → Mem → Prop} (k0 : kd a0 = 12) (hw : wp_X12_enters a0 a1 M Q) :
    Met l yX12_enters (WS yX12_enters cX12_enters 9 (some .int)) rm_X12_enters (va_Pc [.ref (g.2.2.1 + a0), .int (i3 a1)] (Rp g M)) (va_Qi (S := Int × Mem) (fun r u => r = i3 u.1 ∧ Q u.1 u.2) (fun u => Rp g u.2) (aR g)) 0 0 (aR g) := by
  refine met_Z (plainFor_of_name rfl) (Nat.le_of_ble_eq_true rfl) ?_
  intro p e s m args below meth c F hr _
  show Z g p l e rm_X12_enters s m args below meth c 9 (MQ below (va_Qi (S := Int × Mem) (fun r u => r = i3 u.1 ∧ Q u.1 u.2) (fun u => Rp g u.2) (aR g)) args s 0 0 (aR g)) M 0 [(0, .ref (g.2.2.1 + a0)), (1, .int (i3 a1))] []
  refine z_iconst F dX12_enters_0 rfl ?_
  refine z_istore_n F dX12_enters_1 rfl rfl (by decide) rfl ?_
  refine z_lconst (v := 0) F dX12_enters_2 rfl rfl ?_
  refine z_lstore_n F dX12_enters_3 rfl rfl (by decide) rfl ?_
  refine z_lconst (v := 1) F dX12_enters_4 rfl rfl ?_
  refine z_lstore F dX12_enters_5 rfl (by decide) rfl ?_
  refine z_iconst F dX12_enters_7 rfl ?_
  refine z_istore F dX12_enters_8 rfl (by decide) rfl ?_
  refine z_sub [4, 5, 3, 2, 1, 0] rfl ?_
  exact lp_X12_enters_10 F hr k0 hw
theorem cv_X12_enters : CV yX12_enters RX12 cX12_enters 9 (some .int) 1 := ⟨w_1317, w_55, w_80, w_1318, rfl, by decide +kernel, by decide +kernel, by decide +kernel⟩
abbrev rm_X12_turns : Room := { frames := 5, cells := 0, slots := 0, locals := 132 }
def wp_X12_turns_B184 (a0 : Nat) (Q : Mem → Prop) (K184 : Mem → Int → Prop) (M : Mem) (x1 : Int) (x2 : Int) (x7 : Int) : Prop :=
  (((w32 (M a0 3) ≤ w32 x7) → (
    inb (rt a0 12) x1 ∧ (
    inb (rt a0 13) x2 ∧ (
    inb (rt a0 12) x1 ∧ (
    ∀ M254 : Mem, M254 = st2 M (rt a0 12) (ix x1) (M (rt a0 13) (ix x2)) →
    inb (rt a0 13) x2 ∧ (
    ∀ M262 : Mem, M262 = st2 M254 (rt a0 13) (ix x2) (M (rt a0 12) (ix x1)) →
    Q M262)))))) ∧
  (¬ (w32 (M a0 3) ≤ w32 x7) → (
    inb (rt a0 18) x7 ∧ (
    inb (rt a0 16) ((5 * x1) + x7) ∧ (
    ∀ M210 : Mem, M210 = st2 M (rt a0 16) (ix ((5 * x1) + x7)) (M (rt a0 18) (ix x7)) →
    inb (rt a0 19) x7 ∧ (
    inb (rt a0 17) ((5 * x1) + x7) ∧ (
    ∀ M228 : Mem, M228 = st2 M210 (rt a0 17) (ix ((5 * x1) + x7)) (M210 (rt a0 19) (ix x7)) →
    K184 M228 (x7 + 1))))))))
def wp_X12_turns_L184 (a0 : Nat) (Q : Mem → Prop) (M : Mem) (x1 : Int) (x2 : Int) (x7 : Int) : Prop :=
  ∃ (I : Mem → Int → Prop) (μ : Mem → Int → Nat), I M x7 ∧ ∀ (M : Mem) (x7 : Int), I M x7 →
    wp_X12_turns_B184 a0 Q (fun M' x7' => I M' x7' ∧ μ M' x7' < μ M x7) M x1 x2 x7
def wp_X12_turns_b153 (a0 : Nat) (Q : Mem → Prop) (K81 : Mem → Int → Prop) (M : Mem) (x1 : Int) (x2 : Int) (x3 : Int) (x5 : Int) (x7 : Int) : Prop :=
  inb (rt a0 18) x7 ∧ (
  ∀ M163 : Mem, M163 = st2 M (rt a0 18) (ix x7) (M a0 9) →
  inb (rt a0 19) x7 ∧ (
  ∀ M174 : Mem, M174 = st2 M163 (rt a0 19) (ix x7) (M163 a0 10) →
  K81 M174 (x7 + 1)))
def wp_X12_turns_B81 (a0 : Nat) (Q : Mem → Prop) (K81 : Mem → Int → Prop) (M : Mem) (x1 : Int) (x2 : Int) (x3 : Int) (x5 : Int) (x7 : Int) : Prop :=
  (((w32 (M a0 3) ≤ w32 x7) → (
    wp_X12_turns_L184 a0 Q M x1 x2 0)) ∧
  (¬ (w32 (M a0 3) ≤ w32 x7) → (
    (((¬ w32 x7 = w32 x2) → (
      inb (rt a0 16) ((5 * x1) + x7) ∧ (
      inb (rt a0 17) ((5 * x1) + x7) ∧ (
      wp_X12_quotient a0 (M (rt a0 16) (ix ((5 * x1) + x7))) (M (rt a0 17) (ix ((5 * x1) + x7))) x3 x5 M (fun M134 =>
      wp_X12_product a0 (M134 a0 9) (M134 a0 10) (-1) 1 M134 (fun M150 =>
      wp_X12_turns_b153 a0 Q K81 M150 x1 x2 x3 x5 x7)))))) ∧
    (¬ (¬ w32 x7 = w32 x2) → (
      wp_X12_quotient a0 1 1 x3 x5 M (fun M110 =>
      wp_X12_turns_b153 a0 Q K81 M110 x1 x2 x3 x5 x7)))))))
def wp_X12_turns_L81 (a0 : Nat) (Q : Mem → Prop) (M : Mem) (x1 : Int) (x2 : Int) (x3 : Int) (x5 : Int) (x7 : Int) : Prop :=
  ∃ (I : Mem → Int → Prop) (μ : Mem → Int → Nat), I M x7 ∧ ∀ (M : Mem) (x7 : Int), I M x7 →
    wp_X12_turns_B81 a0 Q (fun M' x7' => I M' x7' ∧ μ M' x7' < μ M x7) M x1 x2 x3 x5 x7
def wp_X12_turns (a0 : Nat) (a1 : Int) (a2 : Int) (M : Mem) (Q : Mem → Prop) : Prop :=
  inb (rt a0 16) ((5 * a1) + a2) ∧ (
  ∀ v10 : Int, v10 = (M (rt a0 16) (ix ((5 * a1) + a2))) →
  inb (rt a0 17) ((5 * a1) + a2) ∧ (
  ∀ v21 : Int, v21 = (M (rt a0 17) (ix ((5 * a1) + a2))) →
  inb (rt a0 14) a1 ∧ (
  inb (rt a0 15) a1 ∧ (
  wp_X12_quotient a0 (M (rt a0 14) (ix a1)) (M (rt a0 15) (ix a1)) v10 v21 M (fun M39 =>
  wp_X12_product a0 (M39 a0 9) (M39 a0 10) (-1) 1 M39 (fun M55 =>
  inb (rt a0 14) a1 ∧ (
  ∀ M67 : Mem, M67 = st2 M55 (rt a0 14) (ix a1) (M55 a0 9) →
  inb (rt a0 15) a1 ∧ (
  ∀ M77 : Mem, M77 = st2 M67 (rt a0 15) (ix a1) (M67 a0 10) →
  wp_X12_turns_L81 a0 Q M77 a1 a2 v10 v21 0))))))))
set_option maxRecDepth 100000 in
set_option maxHeartbeats 4000000 in
theorem bk_X12_turns_B184 {g : En} {p : Program} {l : Launch} {e : Env} {s : State} {m : MethodId} {args : Array Value} {below : List Frame} {meth : Method} {c : Code} {M : Mem} {a0 : Nat} {Q : Mem → Prop} {K184 : Mem → Int → Prop} {x1 : Int} {x2 : Int} {x7 : Int} (F : Fx g p s m args meth c cX12_turns 9 RX12) (hr : meth.sig.returnType = none) (k0 : kd a0 = 12)
    (hK184 : ∀ (M' : Mem) (x7' : Int), K184 M' x7' → Z g p l e rm_X12_turns s m args below meth c 9 (MQ below (va_Qv (S := Mem) Q (fun u => Rp g u) (aR g)) args s 0 0 (aR g)) M' 184 [(0, .ref (g.2.2.1 + a0)), (1, .int (i3 x1)), (2, .int (i3 x2)), (7, .int (i3 x7'))] [])
    (hw : wp_X12_turns_B184 a0 Q K184 M x1 x2 x7) : Z g p l e rm_X12_turns s m args below meth c 9 (MQ below (va_Qv (S := Mem) Q (fun u => Rp g u) (aR g)) args s 0 0 (aR g)) M 184 [(0, .ref (g.2.2.1 + a0)), (1, .int (i3 x1)), (2, .int (i3 x2)), (7, .int (i3 x7))] [] := by
  refine z_iload F dX12_turns_184 rfl 3 rfl ?_
  refine z_aload_n F dX12_turns_186 rfl rfl 0 rfl ?_
  refine z_getI F fl_995 k0 dX12_turns_187 rfl ?_
  refine z_icmp_ge F dX12_turns_190 rfl rfl hw (fun hw => ?_) (fun hw => ?_)
  · refine z_aload_n F dX12_turns_235 rfl rfl 0 rfl ?_
    refine z_getR F fl_1004 k0 dX12_turns_236 rfl ?_
    refine z_iload_n F dX12_turns_239 rfl rfl 1 rfl ?_
    refine z_iald F (tk_12_12 k0) dX12_turns_240 rfl hw (fun hw => ?_)
    refine z_istore F dX12_turns_241 rfl (by decide) rfl ?_
    refine z_aload_n F dX12_turns_243 rfl rfl 1 rfl ?_
    refine z_getR F fl_1004 k0 dX12_turns_244 rfl ?_
    refine z_iload_n F dX12_turns_247 rfl rfl 2 rfl ?_
    refine z_aload_n F dX12_turns_248 rfl rfl 1 rfl ?_
    refine z_getR F fl_1005 k0 dX12_turns_249 rfl ?_
    refine z_iload_n F dX12_turns_252 rfl rfl 3 rfl ?_
    refine z_iald F (tk_12_13 k0) dX12_turns_253 rfl hw (fun hw => ?_)
    refine z_iast F (tk_12_12 k0) dX12_turns_254 rfl hw (fun hw => ?_)
    refine z_nmM (fun M254 eM254 => ?_)
    have hw := hw M254 eM254
    refine z_aload_n F dX12_turns_255 rfl rfl 1 rfl ?_
    refine z_getR F fl_1005 k0 dX12_turns_256 rfl ?_
    refine z_iload_n F dX12_turns_259 rfl rfl 3 rfl ?_
    refine z_iload F dX12_turns_260 rfl 0 rfl ?_
    refine z_iast F (tk_12_13 k0) dX12_turns_262 rfl hw (fun hw => ?_)
    refine z_nmM (fun M262 eM262 => ?_)
    have hw := hw M262 eM262
    exact z_vret F hr dX12_turns_263 hw
  · refine z_aload_n F dX12_turns_193 rfl rfl 0 rfl ?_
    refine z_getR F fl_1008 k0 dX12_turns_194 rfl ?_
    refine z_iconst F dX12_turns_197 rfl ?_
    refine z_iload_n F dX12_turns_198 rfl rfl 1 rfl ?_
    refine z_imul F dX12_turns_199 rfl ?_
    refine z_iload F dX12_turns_200 rfl 3 rfl ?_
    refine z_iadd F dX12_turns_202 rfl ?_
    refine z_aload_n F dX12_turns_203 rfl rfl 0 rfl ?_
    refine z_getR F fl_1010 k0 dX12_turns_204 rfl ?_
    refine z_iload F dX12_turns_207 rfl 3 rfl ?_
    refine z_lald F (tk_12_18 k0) dX12_turns_209 rfl hw (fun hw => ?_)
    refine z_last F (tk_12_16 k0) dX12_turns_210 rfl hw (fun hw => ?_)
    refine z_nmM (fun M210 eM210 => ?_)
    have hw := hw M210 eM210
    refine z_aload_n F dX12_turns_211 rfl rfl 0 rfl ?_
    refine z_getR F fl_1009 k0 dX12_turns_212 rfl ?_
    refine z_iconst F dX12_turns_215 rfl ?_
    refine z_iload_n F dX12_turns_216 rfl rfl 1 rfl ?_
    refine z_imul F dX12_turns_217 rfl ?_
    refine z_iload F dX12_turns_218 rfl 3 rfl ?_
    refine z_iadd F dX12_turns_220 rfl ?_
    refine z_aload_n F dX12_turns_221 rfl rfl 0 rfl ?_
    refine z_getR F fl_1011 k0 dX12_turns_222 rfl ?_
    refine z_iload F dX12_turns_225 rfl 3 rfl ?_
    refine z_lald F (tk_12_19 k0) dX12_turns_227 rfl hw (fun hw => ?_)
    refine z_last F (tk_12_17 k0) dX12_turns_228 rfl hw (fun hw => ?_)
    refine z_nmM (fun M228 eM228 => ?_)
    have hw := hw M228 eM228
    refine z_iinc F dX12_turns_229 rfl 3 rfl (by decide) rfl ?_
    refine z_goto F dX12_turns_232 rfl ?_
    refine z_sub [1, 2, 3, 0] rfl ?_
    exact hK184 M228 (x7 + 1) hw
set_option maxRecDepth 100000 in
set_option maxHeartbeats 4000000 in
theorem lp_X12_turns_184 {g : En} {p : Program} {l : Launch} {e : Env} {s : State} {m : MethodId} {args : Array Value} {below : List Frame} {meth : Method} {c : Code} {M : Mem} {a0 : Nat} {Q : Mem → Prop} {x1 : Int} {x2 : Int} {x7 : Int} (F : Fx g p s m args meth c cX12_turns 9 RX12) (hr : meth.sig.returnType = none) (k0 : kd a0 = 12)
    (hw : wp_X12_turns_L184 a0 Q M x1 x2 x7) : Z g p l e rm_X12_turns s m args below meth c 9 (MQ below (va_Qv (S := Mem) Q (fun u => Rp g u) (aR g)) args s 0 0 (aR g)) M 184 [(0, .ref (g.2.2.1 + a0)), (1, .int (i3 x1)), (2, .int (i3 x2)), (7, .int (i3 x7))] [] := by
  obtain ⟨I, μ, h0, hb⟩ := hw
  have key : ∀ (n : Nat) (M : Mem) (x7 : Int), I M x7 → μ M x7 < n → Z g p l e rm_X12_turns s m args below meth c 9 (MQ below (va_Qv (S := Mem) Q (fun u => Rp g u) (aR g)) args s 0 0 (aR g)) M 184 [(0, .ref (g.2.2.1 + a0)), (1, .int (i3 x1)), (2, .int (i3 x2)), (7, .int (i3 x7))] [] := by
    intro n
    induction n with
    | zero => exact fun _ _ _ h => absurd h (Nat.not_lt_zero _)
    | succ n ih =>
      intro M x7 hI hn
      exact bk_X12_turns_B184 F hr k0 (fun M' x7' hk => ih M' x7' hk.1 (Nat.lt_of_lt_of_le hk.2 (Nat.le_of_lt_succ hn))) (hb M x7 hI)
  exact key _ M x7 h0 (Nat.lt_succ_self _)
set_option maxRecDepth 100000 in
set_option maxHeartbeats 4000000 in
theorem bk_X12_turns_153 {g : En} {p : Program} {l : Launch} {e : Env} {s : State} {m : MethodId} {args : Array Value} {below : List Frame} {meth : Method} {c : Code} {M : Mem} {a0 : Nat} {Q : Mem → Prop} {K81 : Mem → Int → Prop} {x1 : Int} {x2 : Int} {x3 : Int} {x5 : Int} {x7 : Int} (F : Fx g p s m args meth c cX12_turns 9 RX12) (hr : meth.sig.returnType = none) (k0 : kd a0 = 12)
    (hK81 : ∀ (M' : Mem) (x7' : Int), K81 M' x7' → Z g p l e rm_X12_turns s m args below meth c 9 (MQ below (va_Qv (S := Mem) Q (fun u => Rp g u) (aR g)) args s 0 0 (aR g)) M' 81 [(0, .ref (g.2.2.1 + a0)), (1, .int (i3 x1)), (2, .int (i3 x2)), (3, .long (i6 x3)), (5, .long (i6 x5)), (7, .int (i3 x7'))] [])
    (hw : wp_X12_turns_b153 a0 Q K81 M x1 x2 x3 x5 x7) : Z g p l e rm_X12_turns s m args below meth c 9 (MQ below (va_Qv (S := Mem) Q (fun u => Rp g u) (aR g)) args s 0 0 (aR g)) M 153 [(0, .ref (g.2.2.1 + a0)), (1, .int (i3 x1)), (2, .int (i3 x2)), (3, .long (i6 x3)), (5, .long (i6 x5)), (7, .int (i3 x7))] [] := by
  refine z_aload_n F dX12_turns_153 rfl rfl 0 rfl ?_
  refine z_getR F fl_1010 k0 dX12_turns_154 rfl ?_
  refine z_iload F dX12_turns_157 rfl 5 rfl ?_
  refine z_aload_n F dX12_turns_159 rfl rfl 0 rfl ?_
  refine z_getL F fl_1001 k0 dX12_turns_160 rfl ?_
  refine z_last F (tk_12_18 k0) dX12_turns_163 rfl hw (fun hw => ?_)
  refine z_nmM (fun M163 eM163 => ?_)
  have hw := hw M163 eM163
  refine z_aload_n F dX12_turns_164 rfl rfl 0 rfl ?_
  refine z_getR F fl_1011 k0 dX12_turns_165 rfl ?_
  refine z_iload F dX12_turns_168 rfl 5 rfl ?_
  refine z_aload_n F dX12_turns_170 rfl rfl 0 rfl ?_
  refine z_getL F fl_1002 k0 dX12_turns_171 rfl ?_
  refine z_last F (tk_12_19 k0) dX12_turns_174 rfl hw (fun hw => ?_)
  refine z_nmM (fun M174 eM174 => ?_)
  have hw := hw M174 eM174
  refine z_iinc F dX12_turns_175 rfl 5 rfl (by decide) rfl ?_
  refine z_goto F dX12_turns_178 rfl ?_
  refine z_sub [1, 2, 3, 4, 5, 0] rfl ?_
  exact hK81 M174 (x7 + 1) hw
set_option maxRecDepth 100000 in
set_option maxHeartbeats 4000000 in
theorem bk_X12_turns_B81 {g : En} {p : Program} {l : Launch} {e : Env} {s : State} {m : MethodId} {args : Array Value} {below : List Frame} {meth : Method} {c : Code} {M : Mem} {a0 : Nat} {Q : Mem → Prop} {K81 : Mem → Int → Prop} {x1 : Int} {x2 : Int} {x3 : Int} {x5 : Int} {x7 : Int} (F : Fx g p s m args meth c cX12_turns 9 RX12) (hr : meth.sig.returnType = none) (k0 : kd a0 = 12)
    (hK81 : ∀ (M' : Mem) (x7' : Int), K81 M' x7' → Z g p l e rm_X12_turns s m args below meth c 9 (MQ below (va_Qv (S := Mem) Q (fun u => Rp g u) (aR g)) args s 0 0 (aR g)) M' 81 [(0, .ref (g.2.2.1 + a0)), (1, .int (i3 x1)), (2, .int (i3 x2)), (3, .long (i6 x3)), (5, .long (i6 x5)), (7, .int (i3 x7'))] [])
    (hw : wp_X12_turns_B81 a0 Q K81 M x1 x2 x3 x5 x7) : Z g p l e rm_X12_turns s m args below meth c 9 (MQ below (va_Qv (S := Mem) Q (fun u => Rp g u) (aR g)) args s 0 0 (aR g)) M 81 [(0, .ref (g.2.2.1 + a0)), (1, .int (i3 x1)), (2, .int (i3 x2)), (3, .long (i6 x3)), (5, .long (i6 x5)), (7, .int (i3 x7))] [] := by
  refine z_iload F dX12_turns_81 rfl 5 rfl ?_
  refine z_aload_n F dX12_turns_83 rfl rfl 0 rfl ?_
  refine z_getI F fl_995 k0 dX12_turns_84 rfl ?_
  refine z_icmp_ge F dX12_turns_87 rfl rfl hw (fun hw => ?_) (fun hw => ?_)
  · refine z_iconst F dX12_turns_181 rfl ?_
    refine z_istore F dX12_turns_182 rfl (by decide) rfl ?_
    refine z_sub [1, 2, 3, 0] rfl ?_
    exact lp_X12_turns_184 F hr k0 hw
  · refine z_iconst F dX12_turns_90 rfl ?_
    refine z_iload_n F dX12_turns_91 rfl rfl 1 rfl ?_
    refine z_imul F dX12_turns_92 rfl ?_
    refine z_iload F dX12_turns_93 rfl 5 rfl ?_
    refine z_iadd F dX12_turns_95 rfl ?_
    refine z_istore F dX12_turns_96 rfl (by decide) rfl ?_
    refine z_iload F dX12_turns_98 rfl 6 rfl ?_
    refine z_iload_n F dX12_turns_100 rfl rfl 3 rfl ?_
    refine z_icmp_ne F dX12_turns_101 rfl rfl hw (fun hw => ?_) (fun hw => ?_)
    · refine z_aload_n F dX12_turns_116 rfl rfl 1 rfl ?_
      refine z_aload_n F dX12_turns_117 rfl rfl 1 rfl ?_
      refine z_getR F fl_1008 k0 dX12_turns_118 rfl ?_
      refine z_iload F dX12_turns_121 rfl 0 rfl ?_
      refine z_lald F (tk_12_16 k0) dX12_turns_123 rfl hw (fun hw => ?_)
      refine z_aload_n F dX12_turns_124 rfl rfl 1 rfl ?_
      refine z_getR F fl_1009 k0 dX12_turns_125 rfl ?_
      refine z_iload F dX12_turns_128 rfl 0 rfl ?_
      refine z_lald F (tk_12_17 k0) dX12_turns_130 rfl hw (fun hw => ?_)
      refine z_lload_n F dX12_turns_131 rfl rfl 4 rfl ?_
      refine z_lload F dX12_turns_132 rfl 5 rfl ?_
      refine z_cVv (As := [.long (i6 (M (rt a0 16) (ix ((5 * x1) + x7)))), .long (i6 (M (rt a0 17) (ix ((5 * x1) + x7)))), .long (i6 x3), .long (i6 x5)]) (st := []) F (c_X12_quotient l g k0 hw) cv_X12_quotient w_1254 ⟨rfl, rfl, Nat.le_of_ble_eq_true rfl, Nat.le_of_ble_eq_true rfl⟩ k0 rfl rfl (Nat.le_of_ble_eq_true rfl) dX12_turns_134 rfl (fun M134 hw => ?_)
      refine z_aload_n F dX12_turns_137 rfl rfl 1 rfl ?_
      refine z_aload_n F dX12_turns_138 rfl rfl 1 rfl ?_
      refine z_getL F fl_1001 k0 dX12_turns_139 rfl ?_
      refine z_aload_n F dX12_turns_142 rfl rfl 1 rfl ?_
      refine z_getL F fl_1002 k0 dX12_turns_143 rfl ?_
      refine z_ldc2 (n := (-1)) F w_1286 (by decide) dX12_turns_146 rfl ?_
      refine z_lconst (v := 1) F dX12_turns_149 rfl rfl ?_
      refine z_cVv (As := [.long (i6 (M134 a0 9)), .long (i6 (M134 a0 10)), .long (i6 (-1)), .long (i6 1)]) (st := []) F (c_X12_product l g k0 hw) cv_X12_product w_1258 ⟨rfl, rfl, Nat.le_of_ble_eq_true rfl, Nat.le_of_ble_eq_true rfl⟩ k0 rfl rfl (Nat.le_of_ble_eq_true rfl) dX12_turns_150 rfl (fun M150 hw => ?_)
      refine z_sub [1, 2, 3, 4, 5, 6] rfl ?_
      exact bk_X12_turns_153 F hr k0 hK81 hw
    · refine z_aload_n F dX12_turns_104 rfl rfl 1 rfl ?_
      refine z_lconst (v := 1) F dX12_turns_105 rfl rfl ?_
      refine z_lconst (v := 1) F dX12_turns_106 rfl rfl ?_
      refine z_lload_n F dX12_turns_107 rfl rfl 4 rfl ?_
      refine z_lload F dX12_turns_108 rfl 5 rfl ?_
      refine z_cVv (As := [.long (i6 1), .long (i6 1), .long (i6 x3), .long (i6 x5)]) (st := []) F (c_X12_quotient l g k0 hw) cv_X12_quotient w_1254 ⟨rfl, rfl, Nat.le_of_ble_eq_true rfl, Nat.le_of_ble_eq_true rfl⟩ k0 rfl rfl (Nat.le_of_ble_eq_true rfl) dX12_turns_110 rfl (fun M110 hw => ?_)
      refine z_goto F dX12_turns_113 rfl ?_
      refine z_sub [1, 2, 3, 4, 5, 6] rfl ?_
      exact bk_X12_turns_153 F hr k0 hK81 hw
set_option maxRecDepth 100000 in
set_option maxHeartbeats 4000000 in
theorem lp_X12_turns_81 {g : En} {p : Program} {l : Launch} {e : Env} {s : State} {m : MethodId} {args : Array Value} {below : List Frame} {meth : Method} {c : Code} {M : Mem} {a0 : Nat} {Q : Mem → Prop} {x1 : Int} {x2 : Int} {x3 : Int} {x5 : Int} {x7 : Int} (F : Fx g p s m args meth c cX12_turns 9 RX12) (hr : meth.sig.returnType = none) (k0 : kd a0 = 12)
    (hw : wp_X12_turns_L81 a0 Q M x1 x2 x3 x5 x7) : Z g p l e rm_X12_turns s m args below meth c 9 (MQ below (va_Qv (S := Mem) Q (fun u => Rp g u) (aR g)) args s 0 0 (aR g)) M 81 [(0, .ref (g.2.2.1 + a0)), (1, .int (i3 x1)), (2, .int (i3 x2)), (3, .long (i6 x3)), (5, .long (i6 x5)), (7, .int (i3 x7))] [] := by
  obtain ⟨I, μ, h0, hb⟩ := hw
  have key : ∀ (n : Nat) (M : Mem) (x7 : Int), I M x7 → μ M x7 < n → Z g p l e rm_X12_turns s m args below meth c 9 (MQ below (va_Qv (S := Mem) Q (fun u => Rp g u) (aR g)) args s 0 0 (aR g)) M 81 [(0, .ref (g.2.2.1 + a0)), (1, .int (i3 x1)), (2, .int (i3 x2)), (3, .long (i6 x3)), (5, .long (i6 x5)), (7, .int (i3 x7))] [] := by
    intro n
    induction n with
    | zero => exact fun _ _ _ h => absurd h (Nat.not_lt_zero _)
    | succ n ih =>
      intro M x7 hI hn
      exact bk_X12_turns_B81 F hr k0 (fun M' x7' hk => ih M' x7' hk.1 (Nat.lt_of_lt_of_le hk.2 (Nat.le_of_lt_succ hn))) (hb M x7 hI)
  exact key _ M x7 h0 (Nat.lt_succ_self _)
set_option maxRecDepth 100000 in
set_option maxHeartbeats 4000000 in
theorem c_X12_turns (l : Launch) (g : En) {a0 : Nat} {a1 : Int} {a2 : Int} {M : Mem} {Q : Mem → Prop} (k0 : kd a0 = 12) (hw : wp_X12_turns a0 a1 a2 M Q) :
    Met l yX12_turns (WS yX12_turns cX12_turns 9 none) rm_X12_turns (va_Pc [.ref (g.2.2.1 + a0), .int (i3 a1), .int (i3 a2)] (Rp g M)) (va_Qv (S := Mem) Q (fun u => Rp g u) (aR g)) 0 0 (aR g) := by
  refine met_Z (plainFor_of_name rfl) (Nat.le_of_ble_eq_true rfl) ?_
  intro p e s m args below meth c F hr _
  show Z g p l e rm_X12_turns s m args below meth c 9 (MQ below (va_Qv (S := Mem) Q (fun u => Rp g u) (aR g)) args s 0 0 (aR g)) M 0 [(0, .ref (g.2.2.1 + a0)), (1, .int (i3 a1)), (2, .int (i3 a2))] []
  refine z_aload_n F dX12_turns_0 rfl rfl 0 rfl ?_
  refine z_getR F fl_1008 k0 dX12_turns_1 rfl ?_
  refine z_iconst F dX12_turns_4 rfl ?_
  refine z_iload_n F dX12_turns_5 rfl rfl 1 rfl ?_
  refine z_imul F dX12_turns_6 rfl ?_
  refine z_iload_n F dX12_turns_7 rfl rfl 2 rfl ?_
  refine z_iadd F dX12_turns_8 rfl ?_
  refine z_lald F (tk_12_16 k0) dX12_turns_9 rfl hw (fun hw => ?_)
  refine z_nmL (fun v10 ev10 => ?_)
  have hw := hw v10 ev10
  refine z_lstore_n F dX12_turns_10 rfl rfl (by decide) rfl ?_
  refine z_aload_n F dX12_turns_11 rfl rfl 1 rfl ?_
  refine z_getR F fl_1009 k0 dX12_turns_12 rfl ?_
  refine z_iconst F dX12_turns_15 rfl ?_
  refine z_iload_n F dX12_turns_16 rfl rfl 2 rfl ?_
  refine z_imul F dX12_turns_17 rfl ?_
  refine z_iload_n F dX12_turns_18 rfl rfl 3 rfl ?_
  refine z_iadd F dX12_turns_19 rfl ?_
  refine z_lald F (tk_12_17 k0) dX12_turns_20 rfl hw (fun hw => ?_)
  refine z_nmL (fun v21 ev21 => ?_)
  have hw := hw v21 ev21
  refine z_lstore F dX12_turns_21 rfl (by decide) rfl ?_
  refine z_aload_n F dX12_turns_23 rfl rfl 2 rfl ?_
  refine z_aload_n F dX12_turns_24 rfl rfl 2 rfl ?_
  refine z_getR F fl_1006 k0 dX12_turns_25 rfl ?_
  refine z_iload_n F dX12_turns_28 rfl rfl 3 rfl ?_
  refine z_lald F (tk_12_14 k0) dX12_turns_29 rfl hw (fun hw => ?_)
  refine z_aload_n F dX12_turns_30 rfl rfl 2 rfl ?_
  refine z_getR F fl_1007 k0 dX12_turns_31 rfl ?_
  refine z_iload_n F dX12_turns_34 rfl rfl 3 rfl ?_
  refine z_lald F (tk_12_15 k0) dX12_turns_35 rfl hw (fun hw => ?_)
  refine z_lload_n F dX12_turns_36 rfl rfl 1 rfl ?_
  refine z_lload F dX12_turns_37 rfl 0 rfl ?_
  refine z_cVv (As := [.long (i6 (M (rt a0 14) (ix a1))), .long (i6 (M (rt a0 15) (ix a1))), .long (i6 v10), .long (i6 v21)]) (st := []) F (c_X12_quotient l g k0 hw) cv_X12_quotient w_1254 ⟨rfl, rfl, Nat.le_of_ble_eq_true rfl, Nat.le_of_ble_eq_true rfl⟩ k0 rfl rfl (Nat.le_of_ble_eq_true rfl) dX12_turns_39 rfl (fun M39 hw => ?_)
  refine z_aload_n F dX12_turns_42 rfl rfl 2 rfl ?_
  refine z_aload_n F dX12_turns_43 rfl rfl 2 rfl ?_
  refine z_getL F fl_1001 k0 dX12_turns_44 rfl ?_
  refine z_aload_n F dX12_turns_47 rfl rfl 2 rfl ?_
  refine z_getL F fl_1002 k0 dX12_turns_48 rfl ?_
  refine z_ldc2 (n := (-1)) F w_1286 (by decide) dX12_turns_51 rfl ?_
  refine z_lconst (v := 1) F dX12_turns_54 rfl rfl ?_
  refine z_cVv (As := [.long (i6 (M39 a0 9)), .long (i6 (M39 a0 10)), .long (i6 (-1)), .long (i6 1)]) (st := []) F (c_X12_product l g k0 hw) cv_X12_product w_1258 ⟨rfl, rfl, Nat.le_of_ble_eq_true rfl, Nat.le_of_ble_eq_true rfl⟩ k0 rfl rfl (Nat.le_of_ble_eq_true rfl) dX12_turns_55 rfl (fun M55 hw => ?_)
  refine z_aload_n F dX12_turns_58 rfl rfl 2 rfl ?_
  refine z_getR F fl_1006 k0 dX12_turns_59 rfl ?_
  refine z_iload_n F dX12_turns_62 rfl rfl 3 rfl ?_
  refine z_aload_n F dX12_turns_63 rfl rfl 2 rfl ?_
  refine z_getL F fl_1001 k0 dX12_turns_64 rfl ?_
  refine z_last F (tk_12_14 k0) dX12_turns_67 rfl hw (fun hw => ?_)
  refine z_nmM (fun M67 eM67 => ?_)
  have hw := hw M67 eM67
  refine z_aload_n F dX12_turns_68 rfl rfl 2 rfl ?_
  refine z_getR F fl_1007 k0 dX12_turns_69 rfl ?_
  refine z_iload_n F dX12_turns_72 rfl rfl 3 rfl ?_
  refine z_aload_n F dX12_turns_73 rfl rfl 2 rfl ?_
  refine z_getL F fl_1002 k0 dX12_turns_74 rfl ?_
  refine z_last F (tk_12_15 k0) dX12_turns_77 rfl hw (fun hw => ?_)
  refine z_nmM (fun M77 eM77 => ?_)
  have hw := hw M77 eM77
  refine z_iconst F dX12_turns_78 rfl ?_
  refine z_istore F dX12_turns_79 rfl (by decide) rfl ?_
  refine z_sub [3, 4, 5, 2, 1, 0] rfl ?_
  exact lp_X12_turns_81 F hr k0 hw
theorem cv_X12_turns : CV yX12_turns RX12 cX12_turns 9 none 2 := ⟨w_1325, w_56, w_80, w_1326, rfl, by decide +kernel, by decide +kernel, by decide +kernel⟩
abbrev rm_X12_fills : Room := { frames := 4, cells := 0, slots := 0, locals := 108 }
def wp_X12_fills_b170 (a0 : Nat) (Q : Mem → Prop) (K91 : Mem → Int → Prop) (M : Mem) (x1 : Int) (x2 : Int) (x3 : Int) (x4 : Int) (x6 : Int) (x8 : Int) (x9 : Int) : Prop :=
  inb (rt a0 16) x9 ∧ (
  ∀ M180 : Mem, M180 = st2 M (rt a0 16) (ix x9) (M a0 9) →
  inb (rt a0 17) x9 ∧ (
  ∀ M191 : Mem, M191 = st2 M180 (rt a0 17) (ix x9) (M180 a0 10) →
  K91 M191 (x8 + 1)))
def wp_X12_fills_B91 (a0 : Nat) (Q : Mem → Prop) (K91 : Mem → Int → Prop) (M : Mem) (x1 : Int) (x2 : Int) (x3 : Int) (x4 : Int) (x6 : Int) (x8 : Int) : Prop :=
  (((w32 (M a0 3) ≤ w32 x8) → (
    Q M)) ∧
  (¬ (w32 (M a0 3) ≤ w32 x8) → (
    inb (rt a0 16) ((5 * x2) + x8) ∧ (
    inb (rt a0 17) ((5 * x2) + x8) ∧ (
    wp_X12_product a0 x4 x6 (M (rt a0 16) (ix ((5 * x2) + x8))) (M (rt a0 17) (ix ((5 * x2) + x8))) M (fun M135 =>
    (((w32 x8 = w32 x3) → (
      wp_X12_fills_b170 a0 Q K91 M135 x1 x2 x3 x4 x6 x8 ((5 * x1) + x8))) ∧
    (¬ (w32 x8 = w32 x3) → (
      inb (rt a0 16) ((5 * x1) + x8) ∧ (
      inb (rt a0 17) ((5 * x1) + x8) ∧ (
      wp_X12_sum a0 (M135 (rt a0 16) (ix ((5 * x1) + x8))) (M135 (rt a0 17) (ix ((5 * x1) + x8))) (M135 a0 9) (M135 a0 10) M135 (fun M167 =>
      wp_X12_fills_b170 a0 Q K91 M167 x1 x2 x3 x4 x6 x8 ((5 * x1) + x8)))))))))))))
def wp_X12_fills_L91 (a0 : Nat) (Q : Mem → Prop) (M : Mem) (x1 : Int) (x2 : Int) (x3 : Int) (x4 : Int) (x6 : Int) (x8 : Int) : Prop :=
  ∃ (I : Mem → Int → Prop) (μ : Mem → Int → Nat), I M x8 ∧ ∀ (M : Mem) (x8 : Int), I M x8 →
    wp_X12_fills_B91 a0 Q (fun M' x8' => I M' x8' ∧ μ M' x8' < μ M x8) M x1 x2 x3 x4 x6 x8
def wp_X12_fills (a0 : Nat) (a1 : Int) (a2 : Int) (a3 : Int) (M : Mem) (Q : Mem → Prop) : Prop :=
  inb (rt a0 16) ((5 * a1) + a3) ∧ (
  ∀ v10 : Int, v10 = (M (rt a0 16) (ix ((5 * a1) + a3))) →
  inb (rt a0 17) ((5 * a1) + a3) ∧ (
  ∀ v22 : Int, v22 = (M (rt a0 17) (ix ((5 * a1) + a3))) →
  inb (rt a0 14) a2 ∧ (
  inb (rt a0 15) a2 ∧ (
  wp_X12_product a0 v10 v22 (M (rt a0 14) (ix a2)) (M (rt a0 15) (ix a2)) M (fun M41 =>
  inb (rt a0 14) a1 ∧ (
  inb (rt a0 15) a1 ∧ (
  wp_X12_sum a0 (M41 (rt a0 14) (ix a1)) (M41 (rt a0 15) (ix a1)) (M41 a0 9) (M41 a0 10) M41 (fun M65 =>
  inb (rt a0 14) a1 ∧ (
  ∀ M77 : Mem, M77 = st2 M65 (rt a0 14) (ix a1) (M65 a0 9) →
  inb (rt a0 15) a1 ∧ (
  ∀ M87 : Mem, M87 = st2 M77 (rt a0 15) (ix a1) (M77 a0 10) →
  wp_X12_fills_L91 a0 Q M87 a1 a2 a3 v10 v22 0))))))))))
set_option maxRecDepth 100000 in
set_option maxHeartbeats 4000000 in
theorem bk_X12_fills_170 {g : En} {p : Program} {l : Launch} {e : Env} {s : State} {m : MethodId} {args : Array Value} {below : List Frame} {meth : Method} {c : Code} {M : Mem} {a0 : Nat} {Q : Mem → Prop} {K91 : Mem → Int → Prop} {x1 : Int} {x2 : Int} {x3 : Int} {x4 : Int} {x6 : Int} {x8 : Int} {x9 : Int} (F : Fx g p s m args meth c cX12_fills 10 RX12) (hr : meth.sig.returnType = none) (k0 : kd a0 = 12)
    (hK91 : ∀ (M' : Mem) (x8' : Int), K91 M' x8' → Z g p l e rm_X12_fills s m args below meth c 10 (MQ below (va_Qv (S := Mem) Q (fun u => Rp g u) (aR g)) args s 0 0 (aR g)) M' 91 [(0, .ref (g.2.2.1 + a0)), (1, .int (i3 x1)), (2, .int (i3 x2)), (3, .int (i3 x3)), (4, .long (i6 x4)), (6, .long (i6 x6)), (8, .int (i3 x8'))] [])
    (hw : wp_X12_fills_b170 a0 Q K91 M x1 x2 x3 x4 x6 x8 x9) : Z g p l e rm_X12_fills s m args below meth c 10 (MQ below (va_Qv (S := Mem) Q (fun u => Rp g u) (aR g)) args s 0 0 (aR g)) M 170 [(0, .ref (g.2.2.1 + a0)), (1, .int (i3 x1)), (2, .int (i3 x2)), (3, .int (i3 x3)), (4, .long (i6 x4)), (6, .long (i6 x6)), (8, .int (i3 x8)), (9, .int (i3 x9))] [] := by
  refine z_aload_n F dX12_fills_170 rfl rfl 0 rfl ?_
  refine z_getR F fl_1008 k0 dX12_fills_171 rfl ?_
  refine z_iload F dX12_fills_174 rfl 7 rfl ?_
  refine z_aload_n F dX12_fills_176 rfl rfl 0 rfl ?_
  refine z_getL F fl_1001 k0 dX12_fills_177 rfl ?_
  refine z_last F (tk_12_16 k0) dX12_fills_180 rfl hw (fun hw => ?_)
  refine z_nmM (fun M180 eM180 => ?_)
  have hw := hw M180 eM180
  refine z_aload_n F dX12_fills_181 rfl rfl 0 rfl ?_
  refine z_getR F fl_1009 k0 dX12_fills_182 rfl ?_
  refine z_iload F dX12_fills_185 rfl 7 rfl ?_
  refine z_aload_n F dX12_fills_187 rfl rfl 0 rfl ?_
  refine z_getL F fl_1002 k0 dX12_fills_188 rfl ?_
  refine z_last F (tk_12_17 k0) dX12_fills_191 rfl hw (fun hw => ?_)
  refine z_nmM (fun M191 eM191 => ?_)
  have hw := hw M191 eM191
  refine z_iinc F dX12_fills_192 rfl 6 rfl (by decide) rfl ?_
  refine z_goto F dX12_fills_195 rfl ?_
  refine z_sub [1, 2, 3, 4, 5, 6, 0] rfl ?_
  exact hK91 M191 (x8 + 1) hw
set_option maxRecDepth 100000 in
set_option maxHeartbeats 4000000 in
theorem bk_X12_fills_B91 {g : En} {p : Program} {l : Launch} {e : Env} {s : State} {m : MethodId} {args : Array Value} {below : List Frame} {meth : Method} {c : Code} {M : Mem} {a0 : Nat} {Q : Mem → Prop} {K91 : Mem → Int → Prop} {x1 : Int} {x2 : Int} {x3 : Int} {x4 : Int} {x6 : Int} {x8 : Int} (F : Fx g p s m args meth c cX12_fills 10 RX12) (hr : meth.sig.returnType = none) (k0 : kd a0 = 12)
    (hK91 : ∀ (M' : Mem) (x8' : Int), K91 M' x8' → Z g p l e rm_X12_fills s m args below meth c 10 (MQ below (va_Qv (S := Mem) Q (fun u => Rp g u) (aR g)) args s 0 0 (aR g)) M' 91 [(0, .ref (g.2.2.1 + a0)), (1, .int (i3 x1)), (2, .int (i3 x2)), (3, .int (i3 x3)), (4, .long (i6 x4)), (6, .long (i6 x6)), (8, .int (i3 x8'))] [])
    (hw : wp_X12_fills_B91 a0 Q K91 M x1 x2 x3 x4 x6 x8) : Z g p l e rm_X12_fills s m args below meth c 10 (MQ below (va_Qv (S := Mem) Q (fun u => Rp g u) (aR g)) args s 0 0 (aR g)) M 91 [(0, .ref (g.2.2.1 + a0)), (1, .int (i3 x1)), (2, .int (i3 x2)), (3, .int (i3 x3)), (4, .long (i6 x4)), (6, .long (i6 x6)), (8, .int (i3 x8))] [] := by
  refine z_iload F dX12_fills_91 rfl 6 rfl ?_
  refine z_aload_n F dX12_fills_93 rfl rfl 0 rfl ?_
  refine z_getI F fl_995 k0 dX12_fills_94 rfl ?_
  refine z_icmp_ge F dX12_fills_97 rfl rfl hw (fun hw => ?_) (fun hw => ?_)
  · exact z_vret F hr dX12_fills_198 hw
  · refine z_iconst F dX12_fills_100 rfl ?_
    refine z_iload_n F dX12_fills_101 rfl rfl 1 rfl ?_
    refine z_imul F dX12_fills_102 rfl ?_
    refine z_iload F dX12_fills_103 rfl 6 rfl ?_
    refine z_iadd F dX12_fills_105 rfl ?_
    refine z_istore F dX12_fills_106 rfl (by decide) rfl ?_
    refine z_aload_n F dX12_fills_108 rfl rfl 1 rfl ?_
    refine z_lload F dX12_fills_109 rfl 5 rfl ?_
    refine z_lload F dX12_fills_111 rfl 6 rfl ?_
    refine z_aload_n F dX12_fills_113 rfl rfl 1 rfl ?_
    refine z_getR F fl_1008 k0 dX12_fills_114 rfl ?_
    refine z_iconst F dX12_fills_117 rfl ?_
    refine z_iload_n F dX12_fills_118 rfl rfl 3 rfl ?_
    refine z_imul F dX12_fills_119 rfl ?_
    refine z_iload F dX12_fills_120 rfl 7 rfl ?_
    refine z_iadd F dX12_fills_122 rfl ?_
    refine z_lald F (tk_12_16 k0) dX12_fills_123 rfl hw (fun hw => ?_)
    refine z_aload_n F dX12_fills_124 rfl rfl 1 rfl ?_
    refine z_getR F fl_1009 k0 dX12_fills_125 rfl ?_
    refine z_iconst F dX12_fills_128 rfl ?_
    refine z_iload_n F dX12_fills_129 rfl rfl 3 rfl ?_
    refine z_imul F dX12_fills_130 rfl ?_
    refine z_iload F dX12_fills_131 rfl 7 rfl ?_
    refine z_iadd F dX12_fills_133 rfl ?_
    refine z_lald F (tk_12_17 k0) dX12_fills_134 rfl hw (fun hw => ?_)
    refine z_cVv (As := [.long (i6 x4), .long (i6 x6), .long (i6 (M (rt a0 16) (ix ((5 * x2) + x8)))), .long (i6 (M (rt a0 17) (ix ((5 * x2) + x8))))]) (st := []) F (c_X12_product l g k0 hw) cv_X12_product w_1258 ⟨rfl, rfl, Nat.le_of_ble_eq_true rfl, Nat.le_of_ble_eq_true rfl⟩ k0 rfl rfl (Nat.le_of_ble_eq_true rfl) dX12_fills_135 rfl (fun M135 hw => ?_)
    refine z_iload F dX12_fills_138 rfl 7 rfl ?_
    refine z_iload_n F dX12_fills_140 rfl rfl 4 rfl ?_
    refine z_icmp_eq F dX12_fills_141 rfl rfl hw (fun hw => ?_) (fun hw => ?_)
    · refine z_sub [1, 2, 3, 4, 5, 6, 7, 0] rfl ?_
      exact bk_X12_fills_170 F hr k0 hK91 hw
    · refine z_aload_n F dX12_fills_144 rfl rfl 1 rfl ?_
      refine z_aload_n F dX12_fills_145 rfl rfl 1 rfl ?_
      refine z_getR F fl_1008 k0 dX12_fills_146 rfl ?_
      refine z_iload F dX12_fills_149 rfl 0 rfl ?_
      refine z_lald F (tk_12_16 k0) dX12_fills_151 rfl hw (fun hw => ?_)
      refine z_aload_n F dX12_fills_152 rfl rfl 1 rfl ?_
      refine z_getR F fl_1009 k0 dX12_fills_153 rfl ?_
      refine z_iload F dX12_fills_156 rfl 0 rfl ?_
      refine z_lald F (tk_12_17 k0) dX12_fills_158 rfl hw (fun hw => ?_)
      refine z_aload_n F dX12_fills_159 rfl rfl 1 rfl ?_
      refine z_getL F fl_1001 k0 dX12_fills_160 rfl ?_
      refine z_aload_n F dX12_fills_163 rfl rfl 1 rfl ?_
      refine z_getL F fl_1002 k0 dX12_fills_164 rfl ?_
      refine z_cVv (As := [.long (i6 (M135 (rt a0 16) (ix ((5 * x1) + x8)))), .long (i6 (M135 (rt a0 17) (ix ((5 * x1) + x8)))), .long (i6 (M135 a0 9)), .long (i6 (M135 a0 10))]) (st := []) F (c_X12_sum l g k0 hw) cv_X12_sum w_1266 ⟨rfl, rfl, Nat.le_of_ble_eq_true rfl, Nat.le_of_ble_eq_true rfl⟩ k0 rfl rfl (Nat.le_of_ble_eq_true rfl) dX12_fills_167 rfl (fun M167 hw => ?_)
      refine z_sub [1, 2, 3, 4, 5, 6, 7, 0] rfl ?_
      exact bk_X12_fills_170 F hr k0 hK91 hw
set_option maxRecDepth 100000 in
set_option maxHeartbeats 4000000 in
theorem lp_X12_fills_91 {g : En} {p : Program} {l : Launch} {e : Env} {s : State} {m : MethodId} {args : Array Value} {below : List Frame} {meth : Method} {c : Code} {M : Mem} {a0 : Nat} {Q : Mem → Prop} {x1 : Int} {x2 : Int} {x3 : Int} {x4 : Int} {x6 : Int} {x8 : Int} (F : Fx g p s m args meth c cX12_fills 10 RX12) (hr : meth.sig.returnType = none) (k0 : kd a0 = 12)
    (hw : wp_X12_fills_L91 a0 Q M x1 x2 x3 x4 x6 x8) : Z g p l e rm_X12_fills s m args below meth c 10 (MQ below (va_Qv (S := Mem) Q (fun u => Rp g u) (aR g)) args s 0 0 (aR g)) M 91 [(0, .ref (g.2.2.1 + a0)), (1, .int (i3 x1)), (2, .int (i3 x2)), (3, .int (i3 x3)), (4, .long (i6 x4)), (6, .long (i6 x6)), (8, .int (i3 x8))] [] := by
  obtain ⟨I, μ, h0, hb⟩ := hw
  have key : ∀ (n : Nat) (M : Mem) (x8 : Int), I M x8 → μ M x8 < n → Z g p l e rm_X12_fills s m args below meth c 10 (MQ below (va_Qv (S := Mem) Q (fun u => Rp g u) (aR g)) args s 0 0 (aR g)) M 91 [(0, .ref (g.2.2.1 + a0)), (1, .int (i3 x1)), (2, .int (i3 x2)), (3, .int (i3 x3)), (4, .long (i6 x4)), (6, .long (i6 x6)), (8, .int (i3 x8))] [] := by
    intro n
    induction n with
    | zero => exact fun _ _ _ h => absurd h (Nat.not_lt_zero _)
    | succ n ih =>
      intro M x8 hI hn
      exact bk_X12_fills_B91 F hr k0 (fun M' x8' hk => ih M' x8' hk.1 (Nat.lt_of_lt_of_le hk.2 (Nat.le_of_lt_succ hn))) (hb M x8 hI)
  exact key _ M x8 h0 (Nat.lt_succ_self _)
set_option maxRecDepth 100000 in
set_option maxHeartbeats 4000000 in
theorem c_X12_fills (l : Launch) (g : En) {a0 : Nat} {a1 : Int} {a2 : Int} {a3 : Int} {M : Mem} {Q : Mem → Prop} (k0 : kd a0 = 12) (hw : wp_X12_fills a0 a1 a2 a3 M Q) :
    Met l yX12_fills (WS yX12_fills cX12_fills 10 none) rm_X12_fills (va_Pc [.ref (g.2.2.1 + a0), .int (i3 a1), .int (i3 a2), .int (i3 a3)] (Rp g M)) (va_Qv (S := Mem) Q (fun u => Rp g u) (aR g)) 0 0 (aR g) := by
  refine met_Z (plainFor_of_name rfl) (Nat.le_of_ble_eq_true rfl) ?_
  intro p e s m args below meth c F hr _
  show Z g p l e rm_X12_fills s m args below meth c 10 (MQ below (va_Qv (S := Mem) Q (fun u => Rp g u) (aR g)) args s 0 0 (aR g)) M 0 [(0, .ref (g.2.2.1 + a0)), (1, .int (i3 a1)), (2, .int (i3 a2)), (3, .int (i3 a3))] []
  refine z_aload_n F dX12_fills_0 rfl rfl 0 rfl ?_
  refine z_getR F fl_1008 k0 dX12_fills_1 rfl ?_
  refine z_iconst F dX12_fills_4 rfl ?_
  refine z_iload_n F dX12_fills_5 rfl rfl 1 rfl ?_
  refine z_imul F dX12_fills_6 rfl ?_
  refine z_iload_n F dX12_fills_7 rfl rfl 3 rfl ?_
  refine z_iadd F dX12_fills_8 rfl ?_
  refine z_lald F (tk_12_16 k0) dX12_fills_9 rfl hw (fun hw => ?_)
  refine z_nmL (fun v10 ev10 => ?_)
  have hw := hw v10 ev10
  refine z_lstore F dX12_fills_10 rfl (by decide) rfl ?_
  refine z_aload_n F dX12_fills_12 rfl rfl 1 rfl ?_
  refine z_getR F fl_1009 k0 dX12_fills_13 rfl ?_
  refine z_iconst F dX12_fills_16 rfl ?_
  refine z_iload_n F dX12_fills_17 rfl rfl 2 rfl ?_
  refine z_imul F dX12_fills_18 rfl ?_
  refine z_iload_n F dX12_fills_19 rfl rfl 4 rfl ?_
  refine z_iadd F dX12_fills_20 rfl ?_
  refine z_lald F (tk_12_17 k0) dX12_fills_21 rfl hw (fun hw => ?_)
  refine z_nmL (fun v22 ev22 => ?_)
  have hw := hw v22 ev22
  refine z_lstore F dX12_fills_22 rfl (by decide) rfl ?_
  refine z_aload_n F dX12_fills_24 rfl rfl 2 rfl ?_
  refine z_lload F dX12_fills_25 rfl 1 rfl ?_
  refine z_lload F dX12_fills_27 rfl 0 rfl ?_
  refine z_aload_n F dX12_fills_29 rfl rfl 2 rfl ?_
  refine z_getR F fl_1006 k0 dX12_fills_30 rfl ?_
  refine z_iload_n F dX12_fills_33 rfl rfl 4 rfl ?_
  refine z_lald F (tk_12_14 k0) dX12_fills_34 rfl hw (fun hw => ?_)
  refine z_aload_n F dX12_fills_35 rfl rfl 2 rfl ?_
  refine z_getR F fl_1007 k0 dX12_fills_36 rfl ?_
  refine z_iload_n F dX12_fills_39 rfl rfl 4 rfl ?_
  refine z_lald F (tk_12_15 k0) dX12_fills_40 rfl hw (fun hw => ?_)
  refine z_cVv (As := [.long (i6 v10), .long (i6 v22), .long (i6 (M (rt a0 14) (ix a2))), .long (i6 (M (rt a0 15) (ix a2)))]) (st := []) F (c_X12_product l g k0 hw) cv_X12_product w_1258 ⟨rfl, rfl, Nat.le_of_ble_eq_true rfl, Nat.le_of_ble_eq_true rfl⟩ k0 rfl rfl (Nat.le_of_ble_eq_true rfl) dX12_fills_41 rfl (fun M41 hw => ?_)
  refine z_aload_n F dX12_fills_44 rfl rfl 2 rfl ?_
  refine z_aload_n F dX12_fills_45 rfl rfl 2 rfl ?_
  refine z_getR F fl_1006 k0 dX12_fills_46 rfl ?_
  refine z_iload_n F dX12_fills_49 rfl rfl 3 rfl ?_
  refine z_lald F (tk_12_14 k0) dX12_fills_50 rfl hw (fun hw => ?_)
  refine z_aload_n F dX12_fills_51 rfl rfl 2 rfl ?_
  refine z_getR F fl_1007 k0 dX12_fills_52 rfl ?_
  refine z_iload_n F dX12_fills_55 rfl rfl 3 rfl ?_
  refine z_lald F (tk_12_15 k0) dX12_fills_56 rfl hw (fun hw => ?_)
  refine z_aload_n F dX12_fills_57 rfl rfl 2 rfl ?_
  refine z_getL F fl_1001 k0 dX12_fills_58 rfl ?_
  refine z_aload_n F dX12_fills_61 rfl rfl 2 rfl ?_
  refine z_getL F fl_1002 k0 dX12_fills_62 rfl ?_
  refine z_cVv (As := [.long (i6 (M41 (rt a0 14) (ix a1))), .long (i6 (M41 (rt a0 15) (ix a1))), .long (i6 (M41 a0 9)), .long (i6 (M41 a0 10))]) (st := []) F (c_X12_sum l g k0 hw) cv_X12_sum w_1266 ⟨rfl, rfl, Nat.le_of_ble_eq_true rfl, Nat.le_of_ble_eq_true rfl⟩ k0 rfl rfl (Nat.le_of_ble_eq_true rfl) dX12_fills_65 rfl (fun M65 hw => ?_)
  refine z_aload_n F dX12_fills_68 rfl rfl 2 rfl ?_
  refine z_getR F fl_1006 k0 dX12_fills_69 rfl ?_
  refine z_iload_n F dX12_fills_72 rfl rfl 3 rfl ?_
  refine z_aload_n F dX12_fills_73 rfl rfl 2 rfl ?_
  refine z_getL F fl_1001 k0 dX12_fills_74 rfl ?_
  refine z_last F (tk_12_14 k0) dX12_fills_77 rfl hw (fun hw => ?_)
  refine z_nmM (fun M77 eM77 => ?_)
  have hw := hw M77 eM77
  refine z_aload_n F dX12_fills_78 rfl rfl 2 rfl ?_
  refine z_getR F fl_1007 k0 dX12_fills_79 rfl ?_
  refine z_iload_n F dX12_fills_82 rfl rfl 3 rfl ?_
  refine z_aload_n F dX12_fills_83 rfl rfl 2 rfl ?_
  refine z_getL F fl_1002 k0 dX12_fills_84 rfl ?_
  refine z_last F (tk_12_15 k0) dX12_fills_87 rfl hw (fun hw => ?_)
  refine z_nmM (fun M87 eM87 => ?_)
  have hw := hw M87 eM87
  refine z_iconst F dX12_fills_88 rfl ?_
  refine z_istore F dX12_fills_89 rfl (by decide) rfl ?_
  refine z_sub [3, 4, 5, 6, 2, 1, 0] rfl ?_
  exact lp_X12_fills_91 F hr k0 hw
theorem cv_X12_fills : CV yX12_fills RX12 cX12_fills 10 none 3 := ⟨w_1329, w_57, w_80, w_1330, rfl, by decide +kernel, by decide +kernel, by decide +kernel⟩
abbrev rm_X12_solved : Room := { frames := 7, cells := 0, slots := 0, locals := 180 }
def wp_X12_solved_b86 (a0 : Nat) (Q : Int → Mem → Prop) (K63 : Mem → Int → Prop) (K11 : Mem → Int → Prop) (M : Mem) (x1 : Int) (x2 : Int) (x3 : Int) (x4 : Int) : Prop :=
  K63 M (x4 + 1)
def wp_X12_solved_B63 (a0 : Nat) (Q : Int → Mem → Prop) (K63 : Mem → Int → Prop) (K11 : Mem → Int → Prop) (M : Mem) (x1 : Int) (x2 : Int) (x3 : Int) (x4 : Int) : Prop :=
  (((w32 (M a0 11) ≤ w32 x4) → (
    wp_X12_fills a0 9 x2 x3 M (fun M97 =>
    K11 M97 (x1 + 1)))) ∧
  (¬ (w32 (M a0 11) ≤ w32 x4) → (
    (((w32 x4 = w32 x2) → (
      wp_X12_solved_b86 a0 Q K63 K11 M x1 x2 x3 x4)) ∧
    (¬ (w32 x4 = w32 x2) → (
      wp_X12_fills a0 x4 x2 x3 M (fun M83 =>
      wp_X12_solved_b86 a0 Q K63 K11 M83 x1 x2 x3 x4)))))))
def wp_X12_solved_L63 (a0 : Nat) (Q : Int → Mem → Prop) (K11 : Mem → Int → Prop) (M : Mem) (x1 : Int) (x2 : Int) (x3 : Int) (x4 : Int) : Prop :=
  ∃ (I : Mem → Int → Prop) (μ : Mem → Int → Nat), I M x4 ∧ ∀ (M : Mem) (x4 : Int), I M x4 →
    wp_X12_solved_B63 a0 Q (fun M' x4' => I M' x4' ∧ μ M' x4' < μ M x4) K11 M x1 x2 x3 x4
def wp_X12_solved_B11 (a0 : Nat) (Q : Int → Mem → Prop) (K11 : Mem → Int → Prop) (M : Mem) (x1 : Int) : Prop :=
  (((fb M a0 8) = true → (
    Q (-7) M)) ∧
  ((fb M a0 8) = false → (
    wp_X12_leaves a0 M (fun r19 =>
    (((¬ w32 r19 = w32 (-1)) → (
      wp_X12_enters a0 r19 M (fun r32 M32 =>
      (((fb M32 a0 8) = false → (
        (((¬ w32 r32 = w32 (-1)) → (
          wp_X12_turns a0 r19 r32 M32 (fun M57 =>
          wp_X12_solved_L63 a0 Q K11 M57 x1 r19 r32 0))) ∧
        (¬ (¬ w32 r32 = w32 (-1)) → (
          Q (-8) M32))))) ∧
      ((fb M32 a0 8) = true → (
        Q (-7) M32)))))) ∧
    (¬ (¬ w32 r19 = w32 (-1)) → (
      Q x1 M)))))))
def wp_X12_solved_L11 (a0 : Nat) (Q : Int → Mem → Prop) (M : Mem) (x1 : Int) : Prop :=
  ∃ (I : Mem → Int → Prop) (μ : Mem → Int → Nat), I M x1 ∧ ∀ (M : Mem) (x1 : Int), I M x1 →
    wp_X12_solved_B11 a0 Q (fun M' x1' => I M' x1' ∧ μ M' x1' < μ M x1) M x1
def wp_X12_solved (a0 : Nat) (M : Mem) (Q : Int → Mem → Prop) : Prop :=
  ∀ M2 : Mem, M2 = st2 M a0 8 (bz false) →
  wp_X12_begins a0 M2 (fun M6 =>
  wp_X12_solved_L11 a0 Q M6 0)
set_option maxRecDepth 100000 in
set_option maxHeartbeats 4000000 in
theorem bk_X12_solved_86 {g : En} {p : Program} {l : Launch} {e : Env} {s : State} {m : MethodId} {args : Array Value} {below : List Frame} {meth : Method} {c : Code} {M : Mem} {a0 : Nat} {Q : Int → Mem → Prop} {K63 : Mem → Int → Prop} {K11 : Mem → Int → Prop} {x1 : Int} {x2 : Int} {x3 : Int} {x4 : Int} (F : Fx g p s m args meth c cX12_solved 5 RX12) (hr : meth.sig.returnType = (some .int)) (k0 : kd a0 = 12)
    (hK63 : ∀ (M' : Mem) (x4' : Int), K63 M' x4' → Z g p l e rm_X12_solved s m args below meth c 5 (MQ below (va_Qi (S := Int × Mem) (fun r u => r = i3 u.1 ∧ Q u.1 u.2) (fun u => Rp g u.2) (aR g)) args s 0 0 (aR g)) M' 63 [(0, .ref (g.2.2.1 + a0)), (1, .int (i3 x1)), (2, .int (i3 x2)), (3, .int (i3 x3)), (4, .int (i3 x4'))] [])
    (hK11 : ∀ (M' : Mem) (x1' : Int), K11 M' x1' → Z g p l e rm_X12_solved s m args below meth c 5 (MQ below (va_Qi (S := Int × Mem) (fun r u => r = i3 u.1 ∧ Q u.1 u.2) (fun u => Rp g u.2) (aR g)) args s 0 0 (aR g)) M' 11 [(0, .ref (g.2.2.1 + a0)), (1, .int (i3 x1'))] [])
    (hw : wp_X12_solved_b86 a0 Q K63 K11 M x1 x2 x3 x4) : Z g p l e rm_X12_solved s m args below meth c 5 (MQ below (va_Qi (S := Int × Mem) (fun r u => r = i3 u.1 ∧ Q u.1 u.2) (fun u => Rp g u.2) (aR g)) args s 0 0 (aR g)) M 86 [(0, .ref (g.2.2.1 + a0)), (1, .int (i3 x1)), (2, .int (i3 x2)), (3, .int (i3 x3)), (4, .int (i3 x4))] [] := by
  refine z_iinc F dX12_solved_86 rfl 4 rfl (by decide) rfl ?_
  refine z_goto F dX12_solved_89 rfl ?_
  refine z_sub [1, 2, 3, 4, 0] rfl ?_
  exact hK63 M (x4 + 1) hw
set_option maxRecDepth 100000 in
set_option maxHeartbeats 4000000 in
theorem bk_X12_solved_B63 {g : En} {p : Program} {l : Launch} {e : Env} {s : State} {m : MethodId} {args : Array Value} {below : List Frame} {meth : Method} {c : Code} {M : Mem} {a0 : Nat} {Q : Int → Mem → Prop} {K63 : Mem → Int → Prop} {K11 : Mem → Int → Prop} {x1 : Int} {x2 : Int} {x3 : Int} {x4 : Int} (F : Fx g p s m args meth c cX12_solved 5 RX12) (hr : meth.sig.returnType = (some .int)) (k0 : kd a0 = 12)
    (hK63 : ∀ (M' : Mem) (x4' : Int), K63 M' x4' → Z g p l e rm_X12_solved s m args below meth c 5 (MQ below (va_Qi (S := Int × Mem) (fun r u => r = i3 u.1 ∧ Q u.1 u.2) (fun u => Rp g u.2) (aR g)) args s 0 0 (aR g)) M' 63 [(0, .ref (g.2.2.1 + a0)), (1, .int (i3 x1)), (2, .int (i3 x2)), (3, .int (i3 x3)), (4, .int (i3 x4'))] [])
    (hK11 : ∀ (M' : Mem) (x1' : Int), K11 M' x1' → Z g p l e rm_X12_solved s m args below meth c 5 (MQ below (va_Qi (S := Int × Mem) (fun r u => r = i3 u.1 ∧ Q u.1 u.2) (fun u => Rp g u.2) (aR g)) args s 0 0 (aR g)) M' 11 [(0, .ref (g.2.2.1 + a0)), (1, .int (i3 x1'))] [])
    (hw : wp_X12_solved_B63 a0 Q K63 K11 M x1 x2 x3 x4) : Z g p l e rm_X12_solved s m args below meth c 5 (MQ below (va_Qi (S := Int × Mem) (fun r u => r = i3 u.1 ∧ Q u.1 u.2) (fun u => Rp g u.2) (aR g)) args s 0 0 (aR g)) M 63 [(0, .ref (g.2.2.1 + a0)), (1, .int (i3 x1)), (2, .int (i3 x2)), (3, .int (i3 x3)), (4, .int (i3 x4))] [] := by
  refine z_iload F dX12_solved_63 rfl 4 rfl ?_
  refine z_aload_n F dX12_solved_65 rfl rfl 0 rfl ?_
  refine z_getI F fl_1003 k0 dX12_solved_66 rfl ?_
  refine z_icmp_ge F dX12_solved_69 rfl rfl hw (fun hw => ?_) (fun hw => ?_)
  · refine z_aload_n F dX12_solved_92 rfl rfl 0 rfl ?_
    refine z_bipush F dX12_solved_93 (by decide) rfl ?_
    refine z_iload_n F dX12_solved_95 rfl rfl 2 rfl ?_
    refine z_iload_n F dX12_solved_96 rfl rfl 3 rfl ?_
    refine z_cVv (As := [.int (i3 9), .int (i3 x2), .int (i3 x3)]) (st := []) F (c_X12_fills l g k0 hw) cv_X12_fills w_1327 ⟨rfl, rfl, Nat.le_of_ble_eq_true rfl, Nat.le_of_ble_eq_true rfl⟩ k0 rfl rfl (Nat.le_of_ble_eq_true rfl) dX12_solved_97 rfl (fun M97 hw => ?_)
    refine z_iinc F dX12_solved_100 rfl 1 rfl (by decide) rfl ?_
    refine z_goto F dX12_solved_103 rfl ?_
    refine z_sub [1, 0] rfl ?_
    exact hK11 M97 (x1 + 1) hw
  · refine z_iload F dX12_solved_72 rfl 4 rfl ?_
    refine z_iload_n F dX12_solved_74 rfl rfl 2 rfl ?_
    refine z_icmp_eq F dX12_solved_75 rfl rfl hw (fun hw => ?_) (fun hw => ?_)
    · refine z_sub [0, 1, 2, 3, 4] rfl ?_
      exact bk_X12_solved_86 F hr k0 hK63 hK11 hw
    · refine z_aload_n F dX12_solved_78 rfl rfl 0 rfl ?_
      refine z_iload F dX12_solved_79 rfl 4 rfl ?_
      refine z_iload_n F dX12_solved_81 rfl rfl 2 rfl ?_
      refine z_iload_n F dX12_solved_82 rfl rfl 3 rfl ?_
      refine z_cVv (As := [.int (i3 x4), .int (i3 x2), .int (i3 x3)]) (st := []) F (c_X12_fills l g k0 hw) cv_X12_fills w_1327 ⟨rfl, rfl, Nat.le_of_ble_eq_true rfl, Nat.le_of_ble_eq_true rfl⟩ k0 rfl rfl (Nat.le_of_ble_eq_true rfl) dX12_solved_83 rfl (fun M83 hw => ?_)
      refine z_sub [0, 1, 2, 3, 4] rfl ?_
      exact bk_X12_solved_86 F hr k0 hK63 hK11 hw
set_option maxRecDepth 100000 in
set_option maxHeartbeats 4000000 in
theorem lp_X12_solved_63 {g : En} {p : Program} {l : Launch} {e : Env} {s : State} {m : MethodId} {args : Array Value} {below : List Frame} {meth : Method} {c : Code} {M : Mem} {a0 : Nat} {Q : Int → Mem → Prop} {K11 : Mem → Int → Prop} {x1 : Int} {x2 : Int} {x3 : Int} {x4 : Int} (F : Fx g p s m args meth c cX12_solved 5 RX12) (hr : meth.sig.returnType = (some .int)) (k0 : kd a0 = 12)
    (hK11 : ∀ (M' : Mem) (x1' : Int), K11 M' x1' → Z g p l e rm_X12_solved s m args below meth c 5 (MQ below (va_Qi (S := Int × Mem) (fun r u => r = i3 u.1 ∧ Q u.1 u.2) (fun u => Rp g u.2) (aR g)) args s 0 0 (aR g)) M' 11 [(0, .ref (g.2.2.1 + a0)), (1, .int (i3 x1'))] [])
    (hw : wp_X12_solved_L63 a0 Q K11 M x1 x2 x3 x4) : Z g p l e rm_X12_solved s m args below meth c 5 (MQ below (va_Qi (S := Int × Mem) (fun r u => r = i3 u.1 ∧ Q u.1 u.2) (fun u => Rp g u.2) (aR g)) args s 0 0 (aR g)) M 63 [(0, .ref (g.2.2.1 + a0)), (1, .int (i3 x1)), (2, .int (i3 x2)), (3, .int (i3 x3)), (4, .int (i3 x4))] [] := by
  obtain ⟨I, μ, h0, hb⟩ := hw
  have key : ∀ (n : Nat) (M : Mem) (x4 : Int), I M x4 → μ M x4 < n → Z g p l e rm_X12_solved s m args below meth c 5 (MQ below (va_Qi (S := Int × Mem) (fun r u => r = i3 u.1 ∧ Q u.1 u.2) (fun u => Rp g u.2) (aR g)) args s 0 0 (aR g)) M 63 [(0, .ref (g.2.2.1 + a0)), (1, .int (i3 x1)), (2, .int (i3 x2)), (3, .int (i3 x3)), (4, .int (i3 x4))] [] := by
    intro n
    induction n with
    | zero => exact fun _ _ _ h => absurd h (Nat.not_lt_zero _)
    | succ n ih =>
      intro M x4 hI hn
      exact bk_X12_solved_B63 F hr k0 (fun M' x4' hk => ih M' x4' hk.1 (Nat.lt_of_lt_of_le hk.2 (Nat.le_of_lt_succ hn))) hK11 (hb M x4 hI)
  exact key _ M x4 h0 (Nat.lt_succ_self _)
set_option maxRecDepth 100000 in
set_option maxHeartbeats 4000000 in
theorem bk_X12_solved_B11 {g : En} {p : Program} {l : Launch} {e : Env} {s : State} {m : MethodId} {args : Array Value} {below : List Frame} {meth : Method} {c : Code} {M : Mem} {a0 : Nat} {Q : Int → Mem → Prop} {K11 : Mem → Int → Prop} {x1 : Int} (F : Fx g p s m args meth c cX12_solved 5 RX12) (hr : meth.sig.returnType = (some .int)) (k0 : kd a0 = 12)
    (hK11 : ∀ (M' : Mem) (x1' : Int), K11 M' x1' → Z g p l e rm_X12_solved s m args below meth c 5 (MQ below (va_Qi (S := Int × Mem) (fun r u => r = i3 u.1 ∧ Q u.1 u.2) (fun u => Rp g u.2) (aR g)) args s 0 0 (aR g)) M' 11 [(0, .ref (g.2.2.1 + a0)), (1, .int (i3 x1'))] [])
    (hw : wp_X12_solved_B11 a0 Q K11 M x1) : Z g p l e rm_X12_solved s m args below meth c 5 (MQ below (va_Qi (S := Int × Mem) (fun r u => r = i3 u.1 ∧ Q u.1 u.2) (fun u => Rp g u.2) (aR g)) args s 0 0 (aR g)) M 11 [(0, .ref (g.2.2.1 + a0)), (1, .int (i3 x1))] [] := by
  refine z_aload_n F dX12_solved_11 rfl rfl 0 rfl ?_
  refine z_getB F fl_1000 k0 dX12_solved_12 rfl ?_
  refine z_ifb_ne F dX12_solved_15 rfl rfl hw (fun hw => ?_) (fun hw => ?_)
  · refine z_bipush F dX12_solved_106 (by decide) rfl ?_
    exact z_iret (x := (-7)) F hr dX12_solved_108 hw
  · refine z_aload_n F dX12_solved_18 rfl rfl 0 rfl ?_
    refine z_cVip (As := []) (st := []) F (c_X12_leaves l g k0 hw) cv_X12_leaves w_1311 ⟨rfl, rfl, Nat.le_of_ble_eq_true rfl, Nat.le_of_ble_eq_true rfl⟩ k0 rfl rfl (Nat.le_of_ble_eq_true rfl) dX12_solved_19 rfl (fun r19 hw => ?_)
    refine z_istore_n F dX12_solved_22 rfl rfl (by decide) rfl ?_
    refine z_iload_n F dX12_solved_23 rfl rfl 0 rfl ?_
    refine z_iconst F dX12_solved_24 rfl ?_
    refine z_icmp_ne F dX12_solved_25 rfl rfl hw (fun hw => ?_) (fun hw => ?_)
    · refine z_aload_n F dX12_solved_30 rfl rfl 1 rfl ?_
      refine z_iload_n F dX12_solved_31 rfl rfl 0 rfl ?_
      refine z_cVi (As := [.int (i3 r19)]) (st := []) F (c_X12_enters l g k0 hw) cv_X12_enters w_1315 ⟨rfl, rfl, Nat.le_of_ble_eq_true rfl, Nat.le_of_ble_eq_true rfl⟩ k0 rfl rfl (Nat.le_of_ble_eq_true rfl) dX12_solved_32 rfl (fun r32 M32 hw => ?_)
      refine z_istore_n F dX12_solved_35 rfl rfl (by decide) rfl ?_
      refine z_aload_n F dX12_solved_36 rfl rfl 2 rfl ?_
      refine z_getB F fl_1000 k0 dX12_solved_37 rfl ?_
      refine z_ifb_eq F dX12_solved_40 rfl rfl hw (fun hw => ?_) (fun hw => ?_)
      · refine z_iload_n F dX12_solved_46 rfl rfl 0 rfl ?_
        refine z_iconst F dX12_solved_47 rfl ?_
        refine z_icmp_ne F dX12_solved_48 rfl rfl hw (fun hw => ?_) (fun hw => ?_)
        · refine z_aload_n F dX12_solved_54 rfl rfl 2 rfl ?_
          refine z_iload_n F dX12_solved_55 rfl rfl 1 rfl ?_
          refine z_iload_n F dX12_solved_56 rfl rfl 0 rfl ?_
          refine z_cVv (As := [.int (i3 r19), .int (i3 r32)]) (st := []) F (c_X12_turns l g k0 hw) cv_X12_turns w_1323 ⟨rfl, rfl, Nat.le_of_ble_eq_true rfl, Nat.le_of_ble_eq_true rfl⟩ k0 rfl rfl (Nat.le_of_ble_eq_true rfl) dX12_solved_57 rfl (fun M57 hw => ?_)
          refine z_iconst F dX12_solved_60 rfl ?_
          refine z_istore F dX12_solved_61 rfl (by decide) rfl ?_
          refine z_sub [3, 4, 2, 1, 0] rfl ?_
          exact lp_X12_solved_63 F hr k0 hK11 hw
        · refine z_bipush F dX12_solved_51 (by decide) rfl ?_
          exact z_iret (x := (-8)) F hr dX12_solved_53 hw
      · refine z_bipush F dX12_solved_43 (by decide) rfl ?_
        exact z_iret (x := (-7)) F hr dX12_solved_45 hw
    · refine z_iload_n F dX12_solved_28 rfl rfl 2 rfl ?_
      exact z_iret (x := x1) F hr dX12_solved_29 hw
set_option maxRecDepth 100000 in
set_option maxHeartbeats 4000000 in
theorem lp_X12_solved_11 {g : En} {p : Program} {l : Launch} {e : Env} {s : State} {m : MethodId} {args : Array Value} {below : List Frame} {meth : Method} {c : Code} {M : Mem} {a0 : Nat} {Q : Int → Mem → Prop} {x1 : Int} (F : Fx g p s m args meth c cX12_solved 5 RX12) (hr : meth.sig.returnType = (some .int)) (k0 : kd a0 = 12)
    (hw : wp_X12_solved_L11 a0 Q M x1) : Z g p l e rm_X12_solved s m args below meth c 5 (MQ below (va_Qi (S := Int × Mem) (fun r u => r = i3 u.1 ∧ Q u.1 u.2) (fun u => Rp g u.2) (aR g)) args s 0 0 (aR g)) M 11 [(0, .ref (g.2.2.1 + a0)), (1, .int (i3 x1))] [] := by
  obtain ⟨I, μ, h0, hb⟩ := hw
  have key : ∀ (n : Nat) (M : Mem) (x1 : Int), I M x1 → μ M x1 < n → Z g p l e rm_X12_solved s m args below meth c 5 (MQ below (va_Qi (S := Int × Mem) (fun r u => r = i3 u.1 ∧ Q u.1 u.2) (fun u => Rp g u.2) (aR g)) args s 0 0 (aR g)) M 11 [(0, .ref (g.2.2.1 + a0)), (1, .int (i3 x1))] [] := by
    intro n
    induction n with
    | zero => exact fun _ _ _ h => absurd h (Nat.not_lt_zero _)
    | succ n ih =>
      intro M x1 hI hn
      exact bk_X12_solved_B11 F hr k0 (fun M' x1' hk => ih M' x1' hk.1 (Nat.lt_of_lt_of_le hk.2 (Nat.le_of_lt_succ hn))) (hb M x1 hI)
  exact key _ M x1 h0 (Nat.lt_succ_self _)
set_option maxRecDepth 100000 in
set_option maxHeartbeats 4000000 in
theorem c_X12_solved (l : Launch) (g : En) {a0 : Nat} {M : Mem} {Q : Int → Mem → Prop} (k0 : kd a0 = 12) (hw : wp_X12_solved a0 M Q) :
    Met l yX12_solved (WS yX12_solved cX12_solved 5 (some .int)) rm_X12_solved (va_Pc [.ref (g.2.2.1 + a0)] (Rp g M)) (va_Qi (S := Int × Mem) (fun r u => r = i3 u.1 ∧ Q u.1 u.2) (fun u => Rp g u.2) (aR g)) 0 0 (aR g) := by
  refine met_Z (plainFor_of_name rfl) (Nat.le_of_ble_eq_true rfl) ?_
  intro p e s m args below meth c F hr _
  show Z g p l e rm_X12_solved s m args below meth c 5 (MQ below (va_Qi (S := Int × Mem) (fun r u => r = i3 u.1 ∧ Q u.1 u.2) (fun u => Rp g u.2) (aR g)) args s 0 0 (aR g)) M 0 [(0, .ref (g.2.2.1 + a0))] []
  refine z_aload_n F dX12_solved_0 rfl rfl 0 rfl ?_
  refine z_iconst F dX12_solved_1 rfl ?_
  refine z_putB (r := false) F fp_1000 k0 dX12_solved_2 rfl ?_
  refine z_nmM (fun M2 eM2 => ?_)
  have hw := hw M2 eM2
  refine z_aload_n F dX12_solved_5 rfl rfl 0 rfl ?_
  refine z_cVv (As := []) (st := []) F (c_X12_begins l g k0 hw) cv_X12_begins w_1299 ⟨rfl, rfl, Nat.le_of_ble_eq_true rfl, Nat.le_of_ble_eq_true rfl⟩ k0 rfl rfl (Nat.le_of_ble_eq_true rfl) dX12_solved_6 rfl (fun M6 hw => ?_)
  refine z_iconst F dX12_solved_9 rfl ?_
  refine z_istore_n F dX12_solved_10 rfl rfl (by decide) rfl ?_
  refine z_sub [1, 0] rfl ?_
  exact lp_X12_solved_11 F hr k0 hw
theorem cv_X12_solved : CV yX12_solved RX12 cX12_solved 5 (some .int) 0 := ⟨w_1297, w_50, w_80, w_1298, rfl, by decide +kernel, by decide +kernel, by decide +kernel⟩
abbrev rm_X12_least : Room := { frames := 8, cells := 0, slots := 0, locals := 204 }
def wp_X12_least (a0 : Nat) (M : Mem) (Q : Int → Mem → Prop) : Prop :=
  wp_X12_solved a0 M (fun r1 M1 =>
  Q r1 M1)
set_option maxRecDepth 100000 in
set_option maxHeartbeats 4000000 in
theorem c_X12_least (l : Launch) (g : En) {a0 : Nat} {M : Mem} {Q : Int → Mem → Prop} (k0 : kd a0 = 12) (hw : wp_X12_least a0 M Q) :
    Met l yX12_least (WS yX12_least cX12_least 1 (some .int)) rm_X12_least (va_Pc [.ref (g.2.2.1 + a0)] (Rp g M)) (va_Qi (S := Int × Mem) (fun r u => r = i3 u.1 ∧ Q u.1 u.2) (fun u => Rp g u.2) (aR g)) 0 0 (aR g) := by
  refine met_Z (plainFor_of_name rfl) (Nat.le_of_ble_eq_true rfl) ?_
  intro p e s m args below meth c F hr _
  show Z g p l e rm_X12_least s m args below meth c 1 (MQ below (va_Qi (S := Int × Mem) (fun r u => r = i3 u.1 ∧ Q u.1 u.2) (fun u => Rp g u.2) (aR g)) args s 0 0 (aR g)) M 0 [(0, .ref (g.2.2.1 + a0))] []
  refine z_aload_n F dX12_least_0 rfl rfl 0 rfl ?_
  refine z_cVi (As := []) (st := []) F (c_X12_solved l g k0 hw) cv_X12_solved w_1295 ⟨rfl, rfl, Nat.le_of_ble_eq_true rfl, Nat.le_of_ble_eq_true rfl⟩ k0 rfl rfl (Nat.le_of_ble_eq_true rfl) dX12_least_1 rfl (fun r1 M1 hw => ?_)
  exact z_iret (x := r1) F hr dX12_least_4 hw
theorem cv_X12_least : CV yX12_least RX12 cX12_least 1 (some .int) 0 := ⟨w_1292, w_1293, w_80, w_1294, rfl, by decide +kernel, by decide +kernel, by decide +kernel⟩
abbrev rm_X12_bare : Room := { frames := 0, cells := 0, slots := 0, locals := 0 }
def wp_X12_bare_b50 (a0 : Nat) (Q : Mem → Prop) (K12 : Mem → Int → Prop) (M : Mem) (x1 : Int) (x2 : Int) : Prop :=
  K12 M (x2 + 1)
def wp_X12_bare_B12 (a0 : Nat) (Q : Mem → Prop) (K12 : Mem → Int → Prop) (M : Mem) (x1 : Int) (x2 : Int) : Prop :=
  (((w32 (M a0 11) ≤ w32 x2) → (
    Q M)) ∧
  (¬ (w32 (M a0 11) ≤ w32 x2) → (
    inb (rt a0 12) x2 ∧ (
    (((¬ w32 (M (rt a0 12) (ix x2)) = w32 x1) → (
      wp_X12_bare_b50 a0 Q K12 M x1 x2)) ∧
    (¬ (¬ w32 (M (rt a0 12) (ix x2)) = w32 x1) → (
      inb (rt a0 14) x2 ∧ (
      ∀ M37 : Mem, M37 = st2 M a0 9 (M (rt a0 14) (ix x2)) →
      inb (rt a0 15) x2 ∧ (
      ∀ M47 : Mem, M47 = st2 M37 a0 10 (M37 (rt a0 15) (ix x2)) →
      wp_X12_bare_b50 a0 Q K12 M47 x1 x2)))))))))
def wp_X12_bare_L12 (a0 : Nat) (Q : Mem → Prop) (M : Mem) (x1 : Int) (x2 : Int) : Prop :=
  ∃ (I : Mem → Int → Prop) (μ : Mem → Int → Nat), I M x2 ∧ ∀ (M : Mem) (x2 : Int), I M x2 →
    wp_X12_bare_B12 a0 Q (fun M' x2' => I M' x2' ∧ μ M' x2' < μ M x2) M x1 x2
def wp_X12_bare (a0 : Nat) (a1 : Int) (M : Mem) (Q : Mem → Prop) : Prop :=
  ∀ M2 : Mem, M2 = st2 M a0 9 0 →
  ∀ M7 : Mem, M7 = st2 M2 a0 10 1 →
  wp_X12_bare_L12 a0 Q M7 a1 0
set_option maxRecDepth 100000 in
set_option maxHeartbeats 4000000 in
theorem bk_X12_bare_50 {g : En} {p : Program} {l : Launch} {e : Env} {s : State} {m : MethodId} {args : Array Value} {below : List Frame} {meth : Method} {c : Code} {M : Mem} {a0 : Nat} {Q : Mem → Prop} {K12 : Mem → Int → Prop} {x1 : Int} {x2 : Int} (F : Fx g p s m args meth c cX12_bare 3 RX12) (hr : meth.sig.returnType = none) (k0 : kd a0 = 12)
    (hK12 : ∀ (M' : Mem) (x2' : Int), K12 M' x2' → Z g p l e rm_X12_bare s m args below meth c 3 (MQ below (va_Qv (S := Mem) Q (fun u => Rp g u) (aR g)) args s 0 0 (aR g)) M' 12 [(0, .ref (g.2.2.1 + a0)), (1, .int (i3 x1)), (2, .int (i3 x2'))] [])
    (hw : wp_X12_bare_b50 a0 Q K12 M x1 x2) : Z g p l e rm_X12_bare s m args below meth c 3 (MQ below (va_Qv (S := Mem) Q (fun u => Rp g u) (aR g)) args s 0 0 (aR g)) M 50 [(0, .ref (g.2.2.1 + a0)), (1, .int (i3 x1)), (2, .int (i3 x2))] [] := by
  refine z_iinc F dX12_bare_50 rfl 2 rfl (by decide) rfl ?_
  refine z_goto F dX12_bare_53 rfl ?_
  refine z_sub [1, 2, 0] rfl ?_
  exact hK12 M (x2 + 1) hw
set_option maxRecDepth 100000 in
set_option maxHeartbeats 4000000 in
theorem bk_X12_bare_B12 {g : En} {p : Program} {l : Launch} {e : Env} {s : State} {m : MethodId} {args : Array Value} {below : List Frame} {meth : Method} {c : Code} {M : Mem} {a0 : Nat} {Q : Mem → Prop} {K12 : Mem → Int → Prop} {x1 : Int} {x2 : Int} (F : Fx g p s m args meth c cX12_bare 3 RX12) (hr : meth.sig.returnType = none) (k0 : kd a0 = 12)
    (hK12 : ∀ (M' : Mem) (x2' : Int), K12 M' x2' → Z g p l e rm_X12_bare s m args below meth c 3 (MQ below (va_Qv (S := Mem) Q (fun u => Rp g u) (aR g)) args s 0 0 (aR g)) M' 12 [(0, .ref (g.2.2.1 + a0)), (1, .int (i3 x1)), (2, .int (i3 x2'))] [])
    (hw : wp_X12_bare_B12 a0 Q K12 M x1 x2) : Z g p l e rm_X12_bare s m args below meth c 3 (MQ below (va_Qv (S := Mem) Q (fun u => Rp g u) (aR g)) args s 0 0 (aR g)) M 12 [(0, .ref (g.2.2.1 + a0)), (1, .int (i3 x1)), (2, .int (i3 x2))] [] := by
  refine z_iload_n F dX12_bare_12 rfl rfl 2 rfl ?_
  refine z_aload_n F dX12_bare_13 rfl rfl 0 rfl ?_
  refine z_getI F fl_1003 k0 dX12_bare_14 rfl ?_
  refine z_icmp_ge F dX12_bare_17 rfl rfl hw (fun hw => ?_) (fun hw => ?_)
  · exact z_vret F hr dX12_bare_56 hw
  · refine z_aload_n F dX12_bare_20 rfl rfl 0 rfl ?_
    refine z_getR F fl_1004 k0 dX12_bare_21 rfl ?_
    refine z_iload_n F dX12_bare_24 rfl rfl 2 rfl ?_
    refine z_iald F (tk_12_12 k0) dX12_bare_25 rfl hw (fun hw => ?_)
    refine z_iload_n F dX12_bare_26 rfl rfl 1 rfl ?_
    refine z_icmp_ne F dX12_bare_27 rfl rfl hw (fun hw => ?_) (fun hw => ?_)
    · refine z_sub [0, 1, 2] rfl ?_
      exact bk_X12_bare_50 F hr k0 hK12 hw
    · refine z_aload_n F dX12_bare_30 rfl rfl 0 rfl ?_
      refine z_aload_n F dX12_bare_31 rfl rfl 0 rfl ?_
      refine z_getR F fl_1006 k0 dX12_bare_32 rfl ?_
      refine z_iload_n F dX12_bare_35 rfl rfl 2 rfl ?_
      refine z_lald F (tk_12_14 k0) dX12_bare_36 rfl hw (fun hw => ?_)
      refine z_putL F fp_1001 k0 dX12_bare_37 rfl ?_
      refine z_nmM (fun M37 eM37 => ?_)
      have hw := hw M37 eM37
      refine z_aload_n F dX12_bare_40 rfl rfl 0 rfl ?_
      refine z_aload_n F dX12_bare_41 rfl rfl 0 rfl ?_
      refine z_getR F fl_1007 k0 dX12_bare_42 rfl ?_
      refine z_iload_n F dX12_bare_45 rfl rfl 2 rfl ?_
      refine z_lald F (tk_12_15 k0) dX12_bare_46 rfl hw (fun hw => ?_)
      refine z_putL F fp_1002 k0 dX12_bare_47 rfl ?_
      refine z_nmM (fun M47 eM47 => ?_)
      have hw := hw M47 eM47
      refine z_sub [0, 1, 2] rfl ?_
      exact bk_X12_bare_50 F hr k0 hK12 hw
set_option maxRecDepth 100000 in
set_option maxHeartbeats 4000000 in
theorem lp_X12_bare_12 {g : En} {p : Program} {l : Launch} {e : Env} {s : State} {m : MethodId} {args : Array Value} {below : List Frame} {meth : Method} {c : Code} {M : Mem} {a0 : Nat} {Q : Mem → Prop} {x1 : Int} {x2 : Int} (F : Fx g p s m args meth c cX12_bare 3 RX12) (hr : meth.sig.returnType = none) (k0 : kd a0 = 12)
    (hw : wp_X12_bare_L12 a0 Q M x1 x2) : Z g p l e rm_X12_bare s m args below meth c 3 (MQ below (va_Qv (S := Mem) Q (fun u => Rp g u) (aR g)) args s 0 0 (aR g)) M 12 [(0, .ref (g.2.2.1 + a0)), (1, .int (i3 x1)), (2, .int (i3 x2))] [] := by
  obtain ⟨I, μ, h0, hb⟩ := hw
  have key : ∀ (n : Nat) (M : Mem) (x2 : Int), I M x2 → μ M x2 < n → Z g p l e rm_X12_bare s m args below meth c 3 (MQ below (va_Qv (S := Mem) Q (fun u => Rp g u) (aR g)) args s 0 0 (aR g)) M 12 [(0, .ref (g.2.2.1 + a0)), (1, .int (i3 x1)), (2, .int (i3 x2))] [] := by
    intro n
    induction n with
    | zero => exact fun _ _ _ h => absurd h (Nat.not_lt_zero _)
    | succ n ih =>
      intro M x2 hI hn
      exact bk_X12_bare_B12 F hr k0 (fun M' x2' hk => ih M' x2' hk.1 (Nat.lt_of_lt_of_le hk.2 (Nat.le_of_lt_succ hn))) (hb M x2 hI)
  exact key _ M x2 h0 (Nat.lt_succ_self _)
set_option maxRecDepth 100000 in
set_option maxHeartbeats 4000000 in
theorem c_X12_bare (l : Launch) (g : En) {a0 : Nat} {a1 : Int} {M : Mem} {Q : Mem → Prop} (k0 : kd a0 = 12) (hw : wp_X12_bare a0 a1 M Q) :
    Met l yX12_bare (WS yX12_bare cX12_bare 3 none) rm_X12_bare (va_Pc [.ref (g.2.2.1 + a0), .int (i3 a1)] (Rp g M)) (va_Qv (S := Mem) Q (fun u => Rp g u) (aR g)) 0 0 (aR g) := by
  refine met_Z (plainFor_of_name rfl) (Nat.le_of_ble_eq_true rfl) ?_
  intro p e s m args below meth c F hr _
  show Z g p l e rm_X12_bare s m args below meth c 3 (MQ below (va_Qv (S := Mem) Q (fun u => Rp g u) (aR g)) args s 0 0 (aR g)) M 0 [(0, .ref (g.2.2.1 + a0)), (1, .int (i3 a1))] []
  refine z_aload_n F dX12_bare_0 rfl rfl 0 rfl ?_
  refine z_lconst (v := 0) F dX12_bare_1 rfl rfl ?_
  refine z_putL F fp_1001 k0 dX12_bare_2 rfl ?_
  refine z_nmM (fun M2 eM2 => ?_)
  have hw := hw M2 eM2
  refine z_aload_n F dX12_bare_5 rfl rfl 0 rfl ?_
  refine z_lconst (v := 1) F dX12_bare_6 rfl rfl ?_
  refine z_putL F fp_1002 k0 dX12_bare_7 rfl ?_
  refine z_nmM (fun M7 eM7 => ?_)
  have hw := hw M7 eM7
  refine z_iconst F dX12_bare_10 rfl ?_
  refine z_istore_n F dX12_bare_11 rfl rfl (by decide) rfl ?_
  refine z_sub [1, 2, 0] rfl ?_
  exact lp_X12_bare_12 F hr k0 hw
theorem cv_X12_bare : CV yX12_bare RX12 cX12_bare 3 none 1 := ⟨w_1337, w_58, w_80, w_1338, rfl, by decide +kernel, by decide +kernel, by decide +kernel⟩
abbrev rm_X12_price : Room := { frames := 0, cells := 0, slots := 0, locals := 0 }
def wp_X12_price_b56 (a0 : Nat) (Q : Mem → Prop) (K12 : Mem → Int → Prop) (M : Mem) (x1 : Int) (x2 : Int) : Prop :=
  K12 M (x2 + 1)
def wp_X12_price_B12 (a0 : Nat) (Q : Mem → Prop) (K12 : Mem → Int → Prop) (M : Mem) (x1 : Int) (x2 : Int) : Prop :=
  (((w32 (M a0 3) ≤ w32 x2) → (
    Q M)) ∧
  (¬ (w32 (M a0 3) ≤ w32 x2) → (
    inb (rt a0 13) x2 ∧ (
    (((¬ w32 (M (rt a0 13) (ix x2)) = w32 x1) → (
      wp_X12_price_b56 a0 Q K12 M x1 x2)) ∧
    (¬ (¬ w32 (M (rt a0 13) (ix x2)) = w32 x1) → (
      inb (rt a0 16) (45 + x2) ∧ (
      ∀ M40 : Mem, M40 = st2 M a0 9 (M (rt a0 16) (ix (45 + x2))) →
      inb (rt a0 17) (45 + x2) ∧ (
      ∀ M53 : Mem, M53 = st2 M40 a0 10 (M40 (rt a0 17) (ix (45 + x2))) →
      wp_X12_price_b56 a0 Q K12 M53 x1 x2)))))))))
def wp_X12_price_L12 (a0 : Nat) (Q : Mem → Prop) (M : Mem) (x1 : Int) (x2 : Int) : Prop :=
  ∃ (I : Mem → Int → Prop) (μ : Mem → Int → Nat), I M x2 ∧ ∀ (M : Mem) (x2 : Int), I M x2 →
    wp_X12_price_B12 a0 Q (fun M' x2' => I M' x2' ∧ μ M' x2' < μ M x2) M x1 x2
def wp_X12_price (a0 : Nat) (a1 : Int) (M : Mem) (Q : Mem → Prop) : Prop :=
  ∀ M2 : Mem, M2 = st2 M a0 9 0 →
  ∀ M7 : Mem, M7 = st2 M2 a0 10 1 →
  wp_X12_price_L12 a0 Q M7 a1 0
set_option maxRecDepth 100000 in
set_option maxHeartbeats 4000000 in
theorem bk_X12_price_56 {g : En} {p : Program} {l : Launch} {e : Env} {s : State} {m : MethodId} {args : Array Value} {below : List Frame} {meth : Method} {c : Code} {M : Mem} {a0 : Nat} {Q : Mem → Prop} {K12 : Mem → Int → Prop} {x1 : Int} {x2 : Int} (F : Fx g p s m args meth c cX12_price 3 RX12) (hr : meth.sig.returnType = none) (k0 : kd a0 = 12)
    (hK12 : ∀ (M' : Mem) (x2' : Int), K12 M' x2' → Z g p l e rm_X12_price s m args below meth c 3 (MQ below (va_Qv (S := Mem) Q (fun u => Rp g u) (aR g)) args s 0 0 (aR g)) M' 12 [(0, .ref (g.2.2.1 + a0)), (1, .int (i3 x1)), (2, .int (i3 x2'))] [])
    (hw : wp_X12_price_b56 a0 Q K12 M x1 x2) : Z g p l e rm_X12_price s m args below meth c 3 (MQ below (va_Qv (S := Mem) Q (fun u => Rp g u) (aR g)) args s 0 0 (aR g)) M 56 [(0, .ref (g.2.2.1 + a0)), (1, .int (i3 x1)), (2, .int (i3 x2))] [] := by
  refine z_iinc F dX12_price_56 rfl 2 rfl (by decide) rfl ?_
  refine z_goto F dX12_price_59 rfl ?_
  refine z_sub [1, 2, 0] rfl ?_
  exact hK12 M (x2 + 1) hw
set_option maxRecDepth 100000 in
set_option maxHeartbeats 4000000 in
theorem bk_X12_price_B12 {g : En} {p : Program} {l : Launch} {e : Env} {s : State} {m : MethodId} {args : Array Value} {below : List Frame} {meth : Method} {c : Code} {M : Mem} {a0 : Nat} {Q : Mem → Prop} {K12 : Mem → Int → Prop} {x1 : Int} {x2 : Int} (F : Fx g p s m args meth c cX12_price 3 RX12) (hr : meth.sig.returnType = none) (k0 : kd a0 = 12)
    (hK12 : ∀ (M' : Mem) (x2' : Int), K12 M' x2' → Z g p l e rm_X12_price s m args below meth c 3 (MQ below (va_Qv (S := Mem) Q (fun u => Rp g u) (aR g)) args s 0 0 (aR g)) M' 12 [(0, .ref (g.2.2.1 + a0)), (1, .int (i3 x1)), (2, .int (i3 x2'))] [])
    (hw : wp_X12_price_B12 a0 Q K12 M x1 x2) : Z g p l e rm_X12_price s m args below meth c 3 (MQ below (va_Qv (S := Mem) Q (fun u => Rp g u) (aR g)) args s 0 0 (aR g)) M 12 [(0, .ref (g.2.2.1 + a0)), (1, .int (i3 x1)), (2, .int (i3 x2))] [] := by
  refine z_iload_n F dX12_price_12 rfl rfl 2 rfl ?_
  refine z_aload_n F dX12_price_13 rfl rfl 0 rfl ?_
  refine z_getI F fl_995 k0 dX12_price_14 rfl ?_
  refine z_icmp_ge F dX12_price_17 rfl rfl hw (fun hw => ?_) (fun hw => ?_)
  · exact z_vret F hr dX12_price_62 hw
  · refine z_aload_n F dX12_price_20 rfl rfl 0 rfl ?_
    refine z_getR F fl_1005 k0 dX12_price_21 rfl ?_
    refine z_iload_n F dX12_price_24 rfl rfl 2 rfl ?_
    refine z_iald F (tk_12_13 k0) dX12_price_25 rfl hw (fun hw => ?_)
    refine z_iload_n F dX12_price_26 rfl rfl 1 rfl ?_
    refine z_icmp_ne F dX12_price_27 rfl rfl hw (fun hw => ?_) (fun hw => ?_)
    · refine z_sub [0, 1, 2] rfl ?_
      exact bk_X12_price_56 F hr k0 hK12 hw
    · refine z_aload_n F dX12_price_30 rfl rfl 0 rfl ?_
      refine z_aload_n F dX12_price_31 rfl rfl 0 rfl ?_
      refine z_getR F fl_1008 k0 dX12_price_32 rfl ?_
      refine z_bipush F dX12_price_35 (by decide) rfl ?_
      refine z_iload_n F dX12_price_37 rfl rfl 2 rfl ?_
      refine z_iadd F dX12_price_38 rfl ?_
      refine z_lald F (tk_12_16 k0) dX12_price_39 rfl hw (fun hw => ?_)
      refine z_putL F fp_1001 k0 dX12_price_40 rfl ?_
      refine z_nmM (fun M40 eM40 => ?_)
      have hw := hw M40 eM40
      refine z_aload_n F dX12_price_43 rfl rfl 0 rfl ?_
      refine z_aload_n F dX12_price_44 rfl rfl 0 rfl ?_
      refine z_getR F fl_1009 k0 dX12_price_45 rfl ?_
      refine z_bipush F dX12_price_48 (by decide) rfl ?_
      refine z_iload_n F dX12_price_50 rfl rfl 2 rfl ?_
      refine z_iadd F dX12_price_51 rfl ?_
      refine z_lald F (tk_12_17 k0) dX12_price_52 rfl hw (fun hw => ?_)
      refine z_putL F fp_1002 k0 dX12_price_53 rfl ?_
      refine z_nmM (fun M53 eM53 => ?_)
      have hw := hw M53 eM53
      refine z_sub [0, 1, 2] rfl ?_
      exact bk_X12_price_56 F hr k0 hK12 hw
set_option maxRecDepth 100000 in
set_option maxHeartbeats 4000000 in
theorem lp_X12_price_12 {g : En} {p : Program} {l : Launch} {e : Env} {s : State} {m : MethodId} {args : Array Value} {below : List Frame} {meth : Method} {c : Code} {M : Mem} {a0 : Nat} {Q : Mem → Prop} {x1 : Int} {x2 : Int} (F : Fx g p s m args meth c cX12_price 3 RX12) (hr : meth.sig.returnType = none) (k0 : kd a0 = 12)
    (hw : wp_X12_price_L12 a0 Q M x1 x2) : Z g p l e rm_X12_price s m args below meth c 3 (MQ below (va_Qv (S := Mem) Q (fun u => Rp g u) (aR g)) args s 0 0 (aR g)) M 12 [(0, .ref (g.2.2.1 + a0)), (1, .int (i3 x1)), (2, .int (i3 x2))] [] := by
  obtain ⟨I, μ, h0, hb⟩ := hw
  have key : ∀ (n : Nat) (M : Mem) (x2 : Int), I M x2 → μ M x2 < n → Z g p l e rm_X12_price s m args below meth c 3 (MQ below (va_Qv (S := Mem) Q (fun u => Rp g u) (aR g)) args s 0 0 (aR g)) M 12 [(0, .ref (g.2.2.1 + a0)), (1, .int (i3 x1)), (2, .int (i3 x2))] [] := by
    intro n
    induction n with
    | zero => exact fun _ _ _ h => absurd h (Nat.not_lt_zero _)
    | succ n ih =>
      intro M x2 hI hn
      exact bk_X12_price_B12 F hr k0 (fun M' x2' hk => ih M' x2' hk.1 (Nat.lt_of_lt_of_le hk.2 (Nat.le_of_lt_succ hn))) (hb M x2 hI)
  exact key _ M x2 h0 (Nat.lt_succ_self _)
set_option maxRecDepth 100000 in
set_option maxHeartbeats 4000000 in
theorem c_X12_price (l : Launch) (g : En) {a0 : Nat} {a1 : Int} {M : Mem} {Q : Mem → Prop} (k0 : kd a0 = 12) (hw : wp_X12_price a0 a1 M Q) :
    Met l yX12_price (WS yX12_price cX12_price 3 none) rm_X12_price (va_Pc [.ref (g.2.2.1 + a0), .int (i3 a1)] (Rp g M)) (va_Qv (S := Mem) Q (fun u => Rp g u) (aR g)) 0 0 (aR g) := by
  refine met_Z (plainFor_of_name rfl) (Nat.le_of_ble_eq_true rfl) ?_
  intro p e s m args below meth c F hr _
  show Z g p l e rm_X12_price s m args below meth c 3 (MQ below (va_Qv (S := Mem) Q (fun u => Rp g u) (aR g)) args s 0 0 (aR g)) M 0 [(0, .ref (g.2.2.1 + a0)), (1, .int (i3 a1))] []
  refine z_aload_n F dX12_price_0 rfl rfl 0 rfl ?_
  refine z_lconst (v := 0) F dX12_price_1 rfl rfl ?_
  refine z_putL F fp_1001 k0 dX12_price_2 rfl ?_
  refine z_nmM (fun M2 eM2 => ?_)
  have hw := hw M2 eM2
  refine z_aload_n F dX12_price_5 rfl rfl 0 rfl ?_
  refine z_lconst (v := 1) F dX12_price_6 rfl rfl ?_
  refine z_putL F fp_1002 k0 dX12_price_7 rfl ?_
  refine z_nmM (fun M7 eM7 => ?_)
  have hw := hw M7 eM7
  refine z_iconst F dX12_price_10 rfl ?_
  refine z_istore_n F dX12_price_11 rfl rfl (by decide) rfl ?_
  refine z_sub [1, 2, 0] rfl ?_
  exact lp_X12_price_12 F hr k0 hw
theorem cv_X12_price : CV yX12_price RX12 cX12_price 3 none 1 := ⟨w_1349, w_60, w_80, w_1350, rfl, by decide +kernel, by decide +kernel, by decide +kernel⟩
abbrev rm_X12_amount : Room := { frames := 8, cells := 0, slots := 0, locals := 204 }
def wp_X12_amount_b65 (a0 : Nat) (Q : Int → Mem → Prop) (M : Mem) (x2 : Int) : Prop :=
  wp_X12_part a0 x2 M (fun r67 =>
  Q r67 M)
def wp_X12_amount_b13 (a0 : Nat) (Q : Int → Mem → Prop) (M : Mem) (x1 : Int) (x2 : Int) : Prop :=
  wp_X12_within x2 0 1 M (fun r16 =>
  ((r16 = false → (
    Q (-9223372036854775808) M)) ∧
  (r16 = true → (
    wp_X12_solved a0 M (fun r23 M23 =>
    (((0 ≤ w32 r23) → (
      wp_X12_bare a0 x1 M23 (fun M35 =>
      (((¬ w32 x1 = w32 (-1)) → (
        wp_X12_amount_b65 a0 Q M35 x2)) ∧
      (¬ (¬ w32 x1 = w32 (-1)) → (
        inb (rt a0 14) 9 ∧ (
        ∀ M51 : Mem, M51 = st2 M35 a0 9 (M35 (rt a0 14) (ix 9)) →
        inb (rt a0 15) 9 ∧ (
        ∀ M62 : Mem, M62 = st2 M51 a0 10 (M51 (rt a0 15) (ix 9)) →
        wp_X12_amount_b65 a0 Q M62 x2)))))))) ∧
    (¬ (0 ≤ w32 r23) → (
      Q (-9223372036854775808) M23))))))))
def wp_X12_amount (a0 : Nat) (a1 : Int) (a2 : Int) (M : Mem) (Q : Int → Mem → Prop) : Prop :=
  (((w32 a1 = w32 (-1)) → (
    wp_X12_amount_b13 a0 Q M a1 a2)) ∧
  (¬ (w32 a1 = w32 (-1)) → (
    wp_X12_isBond a0 a1 M (fun r7 =>
    ((r7 = false → (
      Q (-9223372036854775808) M)) ∧
    (r7 = true → (
      wp_X12_amount_b13 a0 Q M a1 a2)))))))
set_option maxRecDepth 100000 in
set_option maxHeartbeats 4000000 in
theorem bk_X12_amount_65 {g : En} {p : Program} {l : Launch} {e : Env} {s : State} {m : MethodId} {args : Array Value} {below : List Frame} {meth : Method} {c : Code} {M : Mem} {a0 : Nat} {Q : Int → Mem → Prop} {x2 : Int} (F : Fx g p s m args meth c cX12_amount 3 RX12) (hr : meth.sig.returnType = (some .long)) (k0 : kd a0 = 12)
    (hw : wp_X12_amount_b65 a0 Q M x2) : Z g p l e rm_X12_amount s m args below meth c 3 (MQ below (va_Ql (S := Int × Mem) (fun r u => r = i6 u.1 ∧ Q u.1 u.2) (fun u => Rp g u.2) (aR g)) args s 0 0 (aR g)) M 65 [(0, .ref (g.2.2.1 + a0)), (2, .int (i3 x2))] [] := by
  refine z_aload_n F dX12_amount_65 rfl rfl 0 rfl ?_
  refine z_iload_n F dX12_amount_66 rfl rfl 1 rfl ?_
  refine z_cVlp (As := [.int (i3 x2)]) (st := []) F (c_X12_part l g k0 hw) cv_X12_part w_1274 ⟨rfl, rfl, Nat.le_of_ble_eq_true rfl, Nat.le_of_ble_eq_true rfl⟩ k0 rfl rfl (Nat.le_of_ble_eq_true rfl) dX12_amount_67 rfl (fun r67 hw => ?_)
  exact z_lret (x := r67) F hr dX12_amount_70 hw
set_option maxRecDepth 100000 in
set_option maxHeartbeats 4000000 in
theorem bk_X12_amount_13 {g : En} {p : Program} {l : Launch} {e : Env} {s : State} {m : MethodId} {args : Array Value} {below : List Frame} {meth : Method} {c : Code} {M : Mem} {a0 : Nat} {Q : Int → Mem → Prop} {x1 : Int} {x2 : Int} (F : Fx g p s m args meth c cX12_amount 3 RX12) (hr : meth.sig.returnType = (some .long)) (k0 : kd a0 = 12)
    (hw : wp_X12_amount_b13 a0 Q M x1 x2) : Z g p l e rm_X12_amount s m args below meth c 3 (MQ below (va_Ql (S := Int × Mem) (fun r u => r = i6 u.1 ∧ Q u.1 u.2) (fun u => Rp g u.2) (aR g)) args s 0 0 (aR g)) M 13 [(0, .ref (g.2.2.1 + a0)), (1, .int (i3 x1)), (2, .int (i3 x2))] [] := by
  refine z_iload_n F dX12_amount_13 rfl rfl 2 rfl ?_
  refine z_iconst F dX12_amount_14 rfl ?_
  refine z_iconst F dX12_amount_15 rfl ?_
  refine z_cSbp (As := [.int (i3 x2), .int (i3 0), .int (i3 1)]) (st := []) F (c_X12_within l g hw) cs_X12_within w_1102 ⟨rfl, rfl, Nat.le_of_ble_eq_true rfl, Nat.le_of_ble_eq_true rfl⟩ rfl (Nat.le_of_ble_eq_true rfl) dX12_amount_16 rfl (fun r16 hw => ?_)
  refine z_ifb_eq F dX12_amount_19 rfl rfl hw (fun hw => ?_) (fun hw => ?_)
  · refine z_ldc2 (n := (-9223372036854775808)) F w_1222 (by decide) dX12_amount_29 rfl ?_
    exact z_lret (x := (-9223372036854775808)) F hr dX12_amount_32 hw
  · refine z_aload_n F dX12_amount_22 rfl rfl 0 rfl ?_
    refine z_cVi (As := []) (st := []) F (c_X12_solved l g k0 hw) cv_X12_solved w_1295 ⟨rfl, rfl, Nat.le_of_ble_eq_true rfl, Nat.le_of_ble_eq_true rfl⟩ k0 rfl rfl (Nat.le_of_ble_eq_true rfl) dX12_amount_23 rfl (fun r23 M23 hw => ?_)
    refine z_if_ge F dX12_amount_26 rfl rfl hw (fun hw => ?_) (fun hw => ?_)
    · refine z_aload_n F dX12_amount_33 rfl rfl 0 rfl ?_
      refine z_iload_n F dX12_amount_34 rfl rfl 1 rfl ?_
      refine z_cVv (As := [.int (i3 x1)]) (st := []) F (c_X12_bare l g k0 hw) cv_X12_bare w_1335 ⟨rfl, rfl, Nat.le_of_ble_eq_true rfl, Nat.le_of_ble_eq_true rfl⟩ k0 rfl rfl (Nat.le_of_ble_eq_true rfl) dX12_amount_35 rfl (fun M35 hw => ?_)
      refine z_iload_n F dX12_amount_38 rfl rfl 1 rfl ?_
      refine z_iconst F dX12_amount_39 rfl ?_
      refine z_icmp_ne F dX12_amount_40 rfl rfl hw (fun hw => ?_) (fun hw => ?_)
      · refine z_sub [0, 2] rfl ?_
        exact bk_X12_amount_65 F hr k0 hw
      · refine z_aload_n F dX12_amount_43 rfl rfl 0 rfl ?_
        refine z_aload_n F dX12_amount_44 rfl rfl 0 rfl ?_
        refine z_getR F fl_1006 k0 dX12_amount_45 rfl ?_
        refine z_bipush F dX12_amount_48 (by decide) rfl ?_
        refine z_lald F (tk_12_14 k0) dX12_amount_50 rfl hw (fun hw => ?_)
        refine z_putL F fp_1001 k0 dX12_amount_51 rfl ?_
        refine z_nmM (fun M51 eM51 => ?_)
        have hw := hw M51 eM51
        refine z_aload_n F dX12_amount_54 rfl rfl 0 rfl ?_
        refine z_aload_n F dX12_amount_55 rfl rfl 0 rfl ?_
        refine z_getR F fl_1007 k0 dX12_amount_56 rfl ?_
        refine z_bipush F dX12_amount_59 (by decide) rfl ?_
        refine z_lald F (tk_12_15 k0) dX12_amount_61 rfl hw (fun hw => ?_)
        refine z_putL F fp_1002 k0 dX12_amount_62 rfl ?_
        refine z_nmM (fun M62 eM62 => ?_)
        have hw := hw M62 eM62
        refine z_sub [0, 2] rfl ?_
        exact bk_X12_amount_65 F hr k0 hw
    · refine z_ldc2 (n := (-9223372036854775808)) F w_1222 (by decide) dX12_amount_29 rfl ?_
      exact z_lret (x := (-9223372036854775808)) F hr dX12_amount_32 hw
set_option maxRecDepth 100000 in
set_option maxHeartbeats 4000000 in
theorem c_X12_amount (l : Launch) (g : En) {a0 : Nat} {a1 : Int} {a2 : Int} {M : Mem} {Q : Int → Mem → Prop} (k0 : kd a0 = 12) (hw : wp_X12_amount a0 a1 a2 M Q) :
    Met l yX12_amount (WS yX12_amount cX12_amount 3 (some .long)) rm_X12_amount (va_Pc [.ref (g.2.2.1 + a0), .int (i3 a1), .int (i3 a2)] (Rp g M)) (va_Ql (S := Int × Mem) (fun r u => r = i6 u.1 ∧ Q u.1 u.2) (fun u => Rp g u.2) (aR g)) 0 0 (aR g) := by
  refine met_Z (plainFor_of_name rfl) (Nat.le_of_ble_eq_true rfl) ?_
  intro p e s m args below meth c F hr _
  show Z g p l e rm_X12_amount s m args below meth c 3 (MQ below (va_Ql (S := Int × Mem) (fun r u => r = i6 u.1 ∧ Q u.1 u.2) (fun u => Rp g u.2) (aR g)) args s 0 0 (aR g)) M 0 [(0, .ref (g.2.2.1 + a0)), (1, .int (i3 a1)), (2, .int (i3 a2))] []
  refine z_iload_n F dX12_amount_0 rfl rfl 1 rfl ?_
  refine z_iconst F dX12_amount_1 rfl ?_
  refine z_icmp_eq F dX12_amount_2 rfl rfl hw (fun hw => ?_) (fun hw => ?_)
  · refine z_sub [0, 1, 2] rfl ?_
    exact bk_X12_amount_13 F hr k0 hw
  · refine z_aload_n F dX12_amount_5 rfl rfl 0 rfl ?_
    refine z_iload_n F dX12_amount_6 rfl rfl 1 rfl ?_
    refine z_cVbp (As := [.int (i3 a1)]) (st := []) F (c_X12_isBond l g k0 hw) cv_X12_isBond w_1151 ⟨rfl, rfl, Nat.le_of_ble_eq_true rfl, Nat.le_of_ble_eq_true rfl⟩ k0 rfl rfl (Nat.le_of_ble_eq_true rfl) dX12_amount_7 rfl (fun r7 hw => ?_)
    refine z_ifb_eq F dX12_amount_10 rfl rfl hw (fun hw => ?_) (fun hw => ?_)
    · refine z_ldc2 (n := (-9223372036854775808)) F w_1222 (by decide) dX12_amount_29 rfl ?_
      exact z_lret (x := (-9223372036854775808)) F hr dX12_amount_32 hw
    · refine z_sub [0, 1, 2] rfl ?_
      exact bk_X12_amount_13 F hr k0 hw
theorem cv_X12_amount : CV yX12_amount RX12 cX12_amount 3 (some .long) 2 := ⟨w_1332, w_1333, w_80, w_1334, rfl, by decide +kernel, by decide +kernel, by decide +kernel⟩
abbrev rm_X12_proofOf : Room := { frames := 6, cells := 0, slots := 0, locals := 158 }
def wp_X12_proofOf_b151 (a0 : Nat) (Q : Mem → Prop) (K13 : Mem → Int → Int → Int → Prop) (M : Mem) (x1 : Int) (x6 : Int) : Prop :=
  K13 M (M a0 9) (M a0 10) (x6 + (-1))
def wp_X12_proofOf_b50 (a0 : Nat) (Q : Mem → Prop) (K13 : Mem → Int → Int → Int → Prop) (M : Mem) (x1 : Int) (x6 : Int) : Prop :=
  wp_X12_price a0 (20 + x6) M (fun M68 =>
  wp_X12_product a0 (M68 a0 9) (M68 a0 10) (-1) 1 M68 (fun M84 =>
  wp_X12_price a0 (10 + x6) M84 (fun M105 =>
  wp_X12_sum a0 (M105 a0 9) (M105 a0 10) (M84 a0 9) (M84 a0 10) M105 (fun M121 =>
  (((w32 ((M121 a0 5) - 1) ≤ w32 x6) → (
    wp_X12_proofOf_b151 a0 Q K13 M121 x1 x6)) ∧
  (¬ (w32 ((M121 a0 5) - 1) ≤ w32 x6) → (
    wp_X12_sum a0 (M121 a0 9) (M121 a0 10) (M a0 9) (M a0 10) M121 (fun M148 =>
    wp_X12_proofOf_b151 a0 Q K13 M148 x1 x6))))))))
def wp_X12_proofOf_B13 (a0 : Nat) (Q : Mem → Prop) (K13 : Mem → Int → Int → Int → Prop) (M : Mem) (x1 : Int) (x2 : Int) (x4 : Int) (x6 : Int) : Prop :=
  (((w32 x6 < w32 x1) → (
    ∀ M170 : Mem, M170 = st2 M a0 9 x2 →
    ∀ M176 : Mem, M176 = st2 M170 a0 10 x4 →
    Q M176)) ∧
  (¬ (w32 x6 < w32 x1) → (
    ∀ M21 : Mem, M21 = st2 M a0 9 x2 →
    ∀ M27 : Mem, M27 = st2 M21 a0 10 x4 →
    (((w32 ((M27 a0 5) - 1) ≤ w32 x6) → (
      wp_X12_proofOf_b50 a0 Q K13 M27 x1 x6)) ∧
    (¬ (w32 ((M27 a0 5) - 1) ≤ w32 x6) → (
      wp_X12_byFactor a0 (x6 + 1) false M27 (fun M47 =>
      wp_X12_proofOf_b50 a0 Q K13 M47 x1 x6)))))))
def wp_X12_proofOf_L13 (a0 : Nat) (Q : Mem → Prop) (M : Mem) (x1 : Int) (x2 : Int) (x4 : Int) (x6 : Int) : Prop :=
  ∃ (I : Mem → Int → Int → Int → Prop) (μ : Mem → Int → Int → Int → Nat), I M x2 x4 x6 ∧ ∀ (M : Mem) (x2 : Int) (x4 : Int) (x6 : Int), I M x2 x4 x6 →
    wp_X12_proofOf_B13 a0 Q (fun M' x2' x4' x6' => I M' x2' x4' x6' ∧ μ M' x2' x4' x6' < μ M x2 x4 x6) M x1 x2 x4 x6
def wp_X12_proofOf (a0 : Nat) (a1 : Int) (M : Mem) (Q : Mem → Prop) : Prop :=
  wp_X12_proofOf_L13 a0 Q M a1 0 1 ((M a0 5) - 1)
set_option maxRecDepth 100000 in
set_option maxHeartbeats 4000000 in
theorem bk_X12_proofOf_151 {g : En} {p : Program} {l : Launch} {e : Env} {s : State} {m : MethodId} {args : Array Value} {below : List Frame} {meth : Method} {c : Code} {M : Mem} {a0 : Nat} {Q : Mem → Prop} {K13 : Mem → Int → Int → Int → Prop} {x1 : Int} {x6 : Int} (F : Fx g p s m args meth c cX12_proofOf 15 RX12) (hr : meth.sig.returnType = none) (k0 : kd a0 = 12)
    (hK13 : ∀ (M' : Mem) (x2' : Int) (x4' : Int) (x6' : Int), K13 M' x2' x4' x6' → Z g p l e rm_X12_proofOf s m args below meth c 15 (MQ below (va_Qv (S := Mem) Q (fun u => Rp g u) (aR g)) args s 0 0 (aR g)) M' 13 [(0, .ref (g.2.2.1 + a0)), (1, .int (i3 x1)), (2, .long (i6 x2')), (4, .long (i6 x4')), (6, .int (i3 x6'))] [])
    (hw : wp_X12_proofOf_b151 a0 Q K13 M x1 x6) : Z g p l e rm_X12_proofOf s m args below meth c 15 (MQ below (va_Qv (S := Mem) Q (fun u => Rp g u) (aR g)) args s 0 0 (aR g)) M 151 [(0, .ref (g.2.2.1 + a0)), (1, .int (i3 x1)), (6, .int (i3 x6))] [] := by
  refine z_aload_n F dX12_proofOf_151 rfl rfl 0 rfl ?_
  refine z_getL F fl_1001 k0 dX12_proofOf_152 rfl ?_
  refine z_lstore_n F dX12_proofOf_155 rfl rfl (by decide) rfl ?_
  refine z_aload_n F dX12_proofOf_156 rfl rfl 1 rfl ?_
  refine z_getL F fl_1002 k0 dX12_proofOf_157 rfl ?_
  refine z_lstore F dX12_proofOf_160 rfl (by decide) rfl ?_
  refine z_iinc F dX12_proofOf_162 rfl 4 rfl (by decide) rfl ?_
  refine z_goto F dX12_proofOf_165 rfl ?_
  refine z_sub [3, 4, 2, 1, 0] rfl ?_
  exact hK13 M (M a0 9) (M a0 10) (x6 + (-1)) hw
set_option maxRecDepth 100000 in
set_option maxHeartbeats 4000000 in
theorem bk_X12_proofOf_50 {g : En} {p : Program} {l : Launch} {e : Env} {s : State} {m : MethodId} {args : Array Value} {below : List Frame} {meth : Method} {c : Code} {M : Mem} {a0 : Nat} {Q : Mem → Prop} {K13 : Mem → Int → Int → Int → Prop} {x1 : Int} {x6 : Int} (F : Fx g p s m args meth c cX12_proofOf 15 RX12) (hr : meth.sig.returnType = none) (k0 : kd a0 = 12)
    (hK13 : ∀ (M' : Mem) (x2' : Int) (x4' : Int) (x6' : Int), K13 M' x2' x4' x6' → Z g p l e rm_X12_proofOf s m args below meth c 15 (MQ below (va_Qv (S := Mem) Q (fun u => Rp g u) (aR g)) args s 0 0 (aR g)) M' 13 [(0, .ref (g.2.2.1 + a0)), (1, .int (i3 x1)), (2, .long (i6 x2')), (4, .long (i6 x4')), (6, .int (i3 x6'))] [])
    (hw : wp_X12_proofOf_b50 a0 Q K13 M x1 x6) : Z g p l e rm_X12_proofOf s m args below meth c 15 (MQ below (va_Qv (S := Mem) Q (fun u => Rp g u) (aR g)) args s 0 0 (aR g)) M 50 [(0, .ref (g.2.2.1 + a0)), (1, .int (i3 x1)), (6, .int (i3 x6))] [] := by
  refine z_aload_n F dX12_proofOf_50 rfl rfl 0 rfl ?_
  refine z_getL F fl_1001 k0 dX12_proofOf_51 rfl ?_
  refine z_lstore F dX12_proofOf_54 rfl (by decide) rfl ?_
  refine z_aload_n F dX12_proofOf_56 rfl rfl 1 rfl ?_
  refine z_getL F fl_1002 k0 dX12_proofOf_57 rfl ?_
  refine z_lstore F dX12_proofOf_60 rfl (by decide) rfl ?_
  refine z_aload_n F dX12_proofOf_62 rfl rfl 2 rfl ?_
  refine z_bipush F dX12_proofOf_63 (by decide) rfl ?_
  refine z_iload F dX12_proofOf_65 rfl 4 rfl ?_
  refine z_iadd F dX12_proofOf_67 rfl ?_
  refine z_cVv (As := [.int (i3 (20 + x6))]) (st := []) F (c_X12_price l g k0 hw) cv_X12_price w_1347 ⟨rfl, rfl, Nat.le_of_ble_eq_true rfl, Nat.le_of_ble_eq_true rfl⟩ k0 rfl rfl (Nat.le_of_ble_eq_true rfl) dX12_proofOf_68 rfl (fun M68 hw => ?_)
  refine z_aload_n F dX12_proofOf_71 rfl rfl 2 rfl ?_
  refine z_aload_n F dX12_proofOf_72 rfl rfl 2 rfl ?_
  refine z_getL F fl_1001 k0 dX12_proofOf_73 rfl ?_
  refine z_aload_n F dX12_proofOf_76 rfl rfl 2 rfl ?_
  refine z_getL F fl_1002 k0 dX12_proofOf_77 rfl ?_
  refine z_ldc2 (n := (-1)) F w_1286 (by decide) dX12_proofOf_80 rfl ?_
  refine z_lconst (v := 1) F dX12_proofOf_83 rfl rfl ?_
  refine z_cVv (As := [.long (i6 (M68 a0 9)), .long (i6 (M68 a0 10)), .long (i6 (-1)), .long (i6 1)]) (st := []) F (c_X12_product l g k0 hw) cv_X12_product w_1258 ⟨rfl, rfl, Nat.le_of_ble_eq_true rfl, Nat.le_of_ble_eq_true rfl⟩ k0 rfl rfl (Nat.le_of_ble_eq_true rfl) dX12_proofOf_84 rfl (fun M84 hw => ?_)
  refine z_aload_n F dX12_proofOf_87 rfl rfl 2 rfl ?_
  refine z_getL F fl_1001 k0 dX12_proofOf_88 rfl ?_
  refine z_lstore F dX12_proofOf_91 rfl (by decide) rfl ?_
  refine z_aload_n F dX12_proofOf_93 rfl rfl 3 rfl ?_
  refine z_getL F fl_1002 k0 dX12_proofOf_94 rfl ?_
  refine z_lstore F dX12_proofOf_97 rfl (by decide) rfl ?_
  refine z_aload_n F dX12_proofOf_99 rfl rfl 4 rfl ?_
  refine z_bipush F dX12_proofOf_100 (by decide) rfl ?_
  refine z_iload F dX12_proofOf_102 rfl 6 rfl ?_
  refine z_iadd F dX12_proofOf_104 rfl ?_
  refine z_cVv (As := [.int (i3 (10 + x6))]) (st := []) F (c_X12_price l g k0 hw) cv_X12_price w_1347 ⟨rfl, rfl, Nat.le_of_ble_eq_true rfl, Nat.le_of_ble_eq_true rfl⟩ k0 rfl rfl (Nat.le_of_ble_eq_true rfl) dX12_proofOf_105 rfl (fun M105 hw => ?_)
  refine z_aload_n F dX12_proofOf_108 rfl rfl 4 rfl ?_
  refine z_aload_n F dX12_proofOf_109 rfl rfl 4 rfl ?_
  refine z_getL F fl_1001 k0 dX12_proofOf_110 rfl ?_
  refine z_aload_n F dX12_proofOf_113 rfl rfl 4 rfl ?_
  refine z_getL F fl_1002 k0 dX12_proofOf_114 rfl ?_
  refine z_lload F dX12_proofOf_117 rfl 1 rfl ?_
  refine z_lload F dX12_proofOf_119 rfl 0 rfl ?_
  refine z_cVv (As := [.long (i6 (M105 a0 9)), .long (i6 (M105 a0 10)), .long (i6 (M84 a0 9)), .long (i6 (M84 a0 10))]) (st := []) F (c_X12_sum l g k0 hw) cv_X12_sum w_1266 ⟨rfl, rfl, Nat.le_of_ble_eq_true rfl, Nat.le_of_ble_eq_true rfl⟩ k0 rfl rfl (Nat.le_of_ble_eq_true rfl) dX12_proofOf_121 rfl (fun M121 hw => ?_)
  refine z_iload F dX12_proofOf_124 rfl 6 rfl ?_
  refine z_aload_n F dX12_proofOf_126 rfl rfl 4 rfl ?_
  refine z_getI F fl_997 k0 dX12_proofOf_127 rfl ?_
  refine z_iconst F dX12_proofOf_130 rfl ?_
  refine z_isub F dX12_proofOf_131 rfl ?_
  refine z_icmp_ge F dX12_proofOf_132 rfl rfl hw (fun hw => ?_) (fun hw => ?_)
  · refine z_sub [4, 5, 6] rfl ?_
    exact bk_X12_proofOf_151 F hr k0 hK13 hw
  · refine z_aload_n F dX12_proofOf_135 rfl rfl 4 rfl ?_
    refine z_aload_n F dX12_proofOf_136 rfl rfl 4 rfl ?_
    refine z_getL F fl_1001 k0 dX12_proofOf_137 rfl ?_
    refine z_aload_n F dX12_proofOf_140 rfl rfl 4 rfl ?_
    refine z_getL F fl_1002 k0 dX12_proofOf_141 rfl ?_
    refine z_lload F dX12_proofOf_144 rfl 3 rfl ?_
    refine z_lload F dX12_proofOf_146 rfl 2 rfl ?_
    refine z_cVv (As := [.long (i6 (M121 a0 9)), .long (i6 (M121 a0 10)), .long (i6 (M a0 9)), .long (i6 (M a0 10))]) (st := []) F (c_X12_sum l g k0 hw) cv_X12_sum w_1266 ⟨rfl, rfl, Nat.le_of_ble_eq_true rfl, Nat.le_of_ble_eq_true rfl⟩ k0 rfl rfl (Nat.le_of_ble_eq_true rfl) dX12_proofOf_148 rfl (fun M148 hw => ?_)
    refine z_sub [4, 5, 6] rfl ?_
    exact bk_X12_proofOf_151 F hr k0 hK13 hw
set_option maxRecDepth 100000 in
set_option maxHeartbeats 4000000 in
theorem bk_X12_proofOf_B13 {g : En} {p : Program} {l : Launch} {e : Env} {s : State} {m : MethodId} {args : Array Value} {below : List Frame} {meth : Method} {c : Code} {M : Mem} {a0 : Nat} {Q : Mem → Prop} {K13 : Mem → Int → Int → Int → Prop} {x1 : Int} {x2 : Int} {x4 : Int} {x6 : Int} (F : Fx g p s m args meth c cX12_proofOf 15 RX12) (hr : meth.sig.returnType = none) (k0 : kd a0 = 12)
    (hK13 : ∀ (M' : Mem) (x2' : Int) (x4' : Int) (x6' : Int), K13 M' x2' x4' x6' → Z g p l e rm_X12_proofOf s m args below meth c 15 (MQ below (va_Qv (S := Mem) Q (fun u => Rp g u) (aR g)) args s 0 0 (aR g)) M' 13 [(0, .ref (g.2.2.1 + a0)), (1, .int (i3 x1)), (2, .long (i6 x2')), (4, .long (i6 x4')), (6, .int (i3 x6'))] [])
    (hw : wp_X12_proofOf_B13 a0 Q K13 M x1 x2 x4 x6) : Z g p l e rm_X12_proofOf s m args below meth c 15 (MQ below (va_Qv (S := Mem) Q (fun u => Rp g u) (aR g)) args s 0 0 (aR g)) M 13 [(0, .ref (g.2.2.1 + a0)), (1, .int (i3 x1)), (2, .long (i6 x2)), (4, .long (i6 x4)), (6, .int (i3 x6))] [] := by
  refine z_iload F dX12_proofOf_13 rfl 4 rfl ?_
  refine z_iload_n F dX12_proofOf_15 rfl rfl 1 rfl ?_
  refine z_icmp_lt F dX12_proofOf_16 rfl rfl hw (fun hw => ?_) (fun hw => ?_)
  · refine z_aload_n F dX12_proofOf_168 rfl rfl 0 rfl ?_
    refine z_lload_n F dX12_proofOf_169 rfl rfl 2 rfl ?_
    refine z_putL F fp_1001 k0 dX12_proofOf_170 rfl ?_
    refine z_nmM (fun M170 eM170 => ?_)
    have hw := hw M170 eM170
    refine z_aload_n F dX12_proofOf_173 rfl rfl 0 rfl ?_
    refine z_lload F dX12_proofOf_174 rfl 3 rfl ?_
    refine z_putL F fp_1002 k0 dX12_proofOf_176 rfl ?_
    refine z_nmM (fun M176 eM176 => ?_)
    have hw := hw M176 eM176
    exact z_vret F hr dX12_proofOf_179 hw
  · refine z_aload_n F dX12_proofOf_19 rfl rfl 0 rfl ?_
    refine z_lload_n F dX12_proofOf_20 rfl rfl 2 rfl ?_
    refine z_putL F fp_1001 k0 dX12_proofOf_21 rfl ?_
    refine z_nmM (fun M21 eM21 => ?_)
    have hw := hw M21 eM21
    refine z_aload_n F dX12_proofOf_24 rfl rfl 0 rfl ?_
    refine z_lload F dX12_proofOf_25 rfl 3 rfl ?_
    refine z_putL F fp_1002 k0 dX12_proofOf_27 rfl ?_
    refine z_nmM (fun M27 eM27 => ?_)
    have hw := hw M27 eM27
    refine z_iload F dX12_proofOf_30 rfl 4 rfl ?_
    refine z_aload_n F dX12_proofOf_32 rfl rfl 0 rfl ?_
    refine z_getI F fl_997 k0 dX12_proofOf_33 rfl ?_
    refine z_iconst F dX12_proofOf_36 rfl ?_
    refine z_isub F dX12_proofOf_37 rfl ?_
    refine z_icmp_ge F dX12_proofOf_38 rfl rfl hw (fun hw => ?_) (fun hw => ?_)
    · refine z_sub [0, 1, 4] rfl ?_
      exact bk_X12_proofOf_50 F hr k0 hK13 hw
    · refine z_aload_n F dX12_proofOf_41 rfl rfl 0 rfl ?_
      refine z_iload F dX12_proofOf_42 rfl 4 rfl ?_
      refine z_iconst F dX12_proofOf_44 rfl ?_
      refine z_iadd F dX12_proofOf_45 rfl ?_
      refine z_iconst F dX12_proofOf_46 rfl ?_
      refine z_cVv (As := [.int (i3 (x6 + 1)), .int (i3 (bz false))]) (st := []) F (c_X12_byFactor l g k0 hw) cv_X12_byFactor w_1235 ⟨rfl, rfl, Nat.le_of_ble_eq_true rfl, Nat.le_of_ble_eq_true rfl⟩ k0 rfl rfl (Nat.le_of_ble_eq_true rfl) dX12_proofOf_47 rfl (fun M47 hw => ?_)
      refine z_sub [0, 1, 4] rfl ?_
      exact bk_X12_proofOf_50 F hr k0 hK13 hw
set_option maxRecDepth 100000 in
set_option maxHeartbeats 4000000 in
theorem lp_X12_proofOf_13 {g : En} {p : Program} {l : Launch} {e : Env} {s : State} {m : MethodId} {args : Array Value} {below : List Frame} {meth : Method} {c : Code} {M : Mem} {a0 : Nat} {Q : Mem → Prop} {x1 : Int} {x2 : Int} {x4 : Int} {x6 : Int} (F : Fx g p s m args meth c cX12_proofOf 15 RX12) (hr : meth.sig.returnType = none) (k0 : kd a0 = 12)
    (hw : wp_X12_proofOf_L13 a0 Q M x1 x2 x4 x6) : Z g p l e rm_X12_proofOf s m args below meth c 15 (MQ below (va_Qv (S := Mem) Q (fun u => Rp g u) (aR g)) args s 0 0 (aR g)) M 13 [(0, .ref (g.2.2.1 + a0)), (1, .int (i3 x1)), (2, .long (i6 x2)), (4, .long (i6 x4)), (6, .int (i3 x6))] [] := by
  obtain ⟨I, μ, h0, hb⟩ := hw
  have key : ∀ (n : Nat) (M : Mem) (x2 : Int) (x4 : Int) (x6 : Int), I M x2 x4 x6 → μ M x2 x4 x6 < n → Z g p l e rm_X12_proofOf s m args below meth c 15 (MQ below (va_Qv (S := Mem) Q (fun u => Rp g u) (aR g)) args s 0 0 (aR g)) M 13 [(0, .ref (g.2.2.1 + a0)), (1, .int (i3 x1)), (2, .long (i6 x2)), (4, .long (i6 x4)), (6, .int (i3 x6))] [] := by
    intro n
    induction n with
    | zero => exact fun _ _ _ _ _ h => absurd h (Nat.not_lt_zero _)
    | succ n ih =>
      intro M x2 x4 x6 hI hn
      exact bk_X12_proofOf_B13 F hr k0 (fun M' x2' x4' x6' hk => ih M' x2' x4' x6' hk.1 (Nat.lt_of_lt_of_le hk.2 (Nat.le_of_lt_succ hn))) (hb M x2 x4 x6 hI)
  exact key _ M x2 x4 x6 h0 (Nat.lt_succ_self _)
set_option maxRecDepth 100000 in
set_option maxHeartbeats 4000000 in
theorem c_X12_proofOf (l : Launch) (g : En) {a0 : Nat} {a1 : Int} {M : Mem} {Q : Mem → Prop} (k0 : kd a0 = 12) (hw : wp_X12_proofOf a0 a1 M Q) :
    Met l yX12_proofOf (WS yX12_proofOf cX12_proofOf 15 none) rm_X12_proofOf (va_Pc [.ref (g.2.2.1 + a0), .int (i3 a1)] (Rp g M)) (va_Qv (S := Mem) Q (fun u => Rp g u) (aR g)) 0 0 (aR g) := by
  refine met_Z (plainFor_of_name rfl) (Nat.le_of_ble_eq_true rfl) ?_
  intro p e s m args below meth c F hr _
  show Z g p l e rm_X12_proofOf s m args below meth c 15 (MQ below (va_Qv (S := Mem) Q (fun u => Rp g u) (aR g)) args s 0 0 (aR g)) M 0 [(0, .ref (g.2.2.1 + a0)), (1, .int (i3 a1))] []
  refine z_lconst (v := 0) F dX12_proofOf_0 rfl rfl ?_
  refine z_lstore_n F dX12_proofOf_1 rfl rfl (by decide) rfl ?_
  refine z_lconst (v := 1) F dX12_proofOf_2 rfl rfl ?_
  refine z_lstore F dX12_proofOf_3 rfl (by decide) rfl ?_
  refine z_aload_n F dX12_proofOf_5 rfl rfl 2 rfl ?_
  refine z_getI F fl_997 k0 dX12_proofOf_6 rfl ?_
  refine z_iconst F dX12_proofOf_9 rfl ?_
  refine z_isub F dX12_proofOf_10 rfl ?_
  refine z_istore F dX12_proofOf_11 rfl (by decide) rfl ?_
  refine z_sub [3, 4, 2, 1, 0] rfl ?_
  exact lp_X12_proofOf_13 F hr k0 hw
theorem cv_X12_proofOf : CV yX12_proofOf RX12 cX12_proofOf 15 none 1 := ⟨w_1345, w_59, w_80, w_1346, rfl, by decide +kernel, by decide +kernel, by decide +kernel⟩
abbrev rm_X12_proof : Room := { frames := 8, cells := 0, slots := 0, locals := 204 }
def wp_X12_proof_b75 (a0 : Nat) (Q : Int → Mem → Prop) (M : Mem) (x3 : Int) : Prop :=
  wp_X12_part a0 x3 M (fun r77 =>
  Q r77 M)
def wp_X12_proof (a0 : Nat) (a1 : Int) (a2 : Int) (a3 : Int) (M : Mem) (Q : Int → Mem → Prop) : Prop :=
  wp_X12_isRung a0 a1 M (fun r2 =>
  ((r2 = false → (
    Q (-9223372036854775808) M)) ∧
  (r2 = true → (
    wp_X12_within a2 0 3 M (fun r11 =>
    ((r11 = false → (
      Q (-9223372036854775808) M)) ∧
    (r11 = true → (
      wp_X12_within a3 0 1 M (fun r20 =>
      ((r20 = false → (
        Q (-9223372036854775808) M)) ∧
      (r20 = true → (
        wp_X12_solved a0 M (fun r27 M27 =>
        (((0 ≤ w32 r27) → (
          (((¬ w32 a2 = 0) → (
            (((¬ w32 a2 = w32 3) → (
              wp_X12_price a0 ((10 * a2) + a1) M27 (fun M72 =>
              wp_X12_proof_b75 a0 Q M72 a3))) ∧
            (¬ (¬ w32 a2 = w32 3) → (
              wp_X12_proofOf a0 a1 M27 (fun M59 =>
              wp_X12_proof_b75 a0 Q M59 a3)))))) ∧
          (¬ (¬ w32 a2 = 0) → (
            wp_X12_bare a0 (10 + a1) M27 (fun M46 =>
            wp_X12_proof_b75 a0 Q M46 a3)))))) ∧
        (¬ (0 ≤ w32 r27) → (
          Q (-9223372036854775808) M27))))))))))))))))
set_option maxRecDepth 100000 in
set_option maxHeartbeats 4000000 in
theorem bk_X12_proof_75 {g : En} {p : Program} {l : Launch} {e : Env} {s : State} {m : MethodId} {args : Array Value} {below : List Frame} {meth : Method} {c : Code} {M : Mem} {a0 : Nat} {Q : Int → Mem → Prop} {x3 : Int} (F : Fx g p s m args meth c cX12_proof 4 RX12) (hr : meth.sig.returnType = (some .long)) (k0 : kd a0 = 12)
    (hw : wp_X12_proof_b75 a0 Q M x3) : Z g p l e rm_X12_proof s m args below meth c 4 (MQ below (va_Ql (S := Int × Mem) (fun r u => r = i6 u.1 ∧ Q u.1 u.2) (fun u => Rp g u.2) (aR g)) args s 0 0 (aR g)) M 75 [(0, .ref (g.2.2.1 + a0)), (3, .int (i3 x3))] [] := by
  refine z_aload_n F dX12_proof_75 rfl rfl 0 rfl ?_
  refine z_iload_n F dX12_proof_76 rfl rfl 1 rfl ?_
  refine z_cVlp (As := [.int (i3 x3)]) (st := []) F (c_X12_part l g k0 hw) cv_X12_part w_1274 ⟨rfl, rfl, Nat.le_of_ble_eq_true rfl, Nat.le_of_ble_eq_true rfl⟩ k0 rfl rfl (Nat.le_of_ble_eq_true rfl) dX12_proof_77 rfl (fun r77 hw => ?_)
  exact z_lret (x := r77) F hr dX12_proof_80 hw
set_option maxRecDepth 100000 in
set_option maxHeartbeats 4000000 in
theorem c_X12_proof (l : Launch) (g : En) {a0 : Nat} {a1 : Int} {a2 : Int} {a3 : Int} {M : Mem} {Q : Int → Mem → Prop} (k0 : kd a0 = 12) (hw : wp_X12_proof a0 a1 a2 a3 M Q) :
    Met l yX12_proof (WS yX12_proof cX12_proof 4 (some .long)) rm_X12_proof (va_Pc [.ref (g.2.2.1 + a0), .int (i3 a1), .int (i3 a2), .int (i3 a3)] (Rp g M)) (va_Ql (S := Int × Mem) (fun r u => r = i6 u.1 ∧ Q u.1 u.2) (fun u => Rp g u.2) (aR g)) 0 0 (aR g) := by
  refine met_Z (plainFor_of_name rfl) (Nat.le_of_ble_eq_true rfl) ?_
  intro p e s m args below meth c F hr _
  show Z g p l e rm_X12_proof s m args below meth c 4 (MQ below (va_Ql (S := Int × Mem) (fun r u => r = i6 u.1 ∧ Q u.1 u.2) (fun u => Rp g u.2) (aR g)) args s 0 0 (aR g)) M 0 [(0, .ref (g.2.2.1 + a0)), (1, .int (i3 a1)), (2, .int (i3 a2)), (3, .int (i3 a3))] []
  refine z_aload_n F dX12_proof_0 rfl rfl 0 rfl ?_
  refine z_iload_n F dX12_proof_1 rfl rfl 1 rfl ?_
  refine z_cVbp (As := [.int (i3 a1)]) (st := []) F (c_X12_isRung l g k0 hw) cv_X12_isRung w_1127 ⟨rfl, rfl, Nat.le_of_ble_eq_true rfl, Nat.le_of_ble_eq_true rfl⟩ k0 rfl rfl (Nat.le_of_ble_eq_true rfl) dX12_proof_2 rfl (fun r2 hw => ?_)
  refine z_ifb_eq F dX12_proof_5 rfl rfl hw (fun hw => ?_) (fun hw => ?_)
  · refine z_ldc2 (n := (-9223372036854775808)) F w_1222 (by decide) dX12_proof_33 rfl ?_
    exact z_lret (x := (-9223372036854775808)) F hr dX12_proof_36 hw
  · refine z_iload_n F dX12_proof_8 rfl rfl 2 rfl ?_
    refine z_iconst F dX12_proof_9 rfl ?_
    refine z_iconst F dX12_proof_10 rfl ?_
    refine z_cSbp (As := [.int (i3 a2), .int (i3 0), .int (i3 3)]) (st := []) F (c_X12_within l g hw) cs_X12_within w_1102 ⟨rfl, rfl, Nat.le_of_ble_eq_true rfl, Nat.le_of_ble_eq_true rfl⟩ rfl (Nat.le_of_ble_eq_true rfl) dX12_proof_11 rfl (fun r11 hw => ?_)
    refine z_ifb_eq F dX12_proof_14 rfl rfl hw (fun hw => ?_) (fun hw => ?_)
    · refine z_ldc2 (n := (-9223372036854775808)) F w_1222 (by decide) dX12_proof_33 rfl ?_
      exact z_lret (x := (-9223372036854775808)) F hr dX12_proof_36 hw
    · refine z_iload_n F dX12_proof_17 rfl rfl 3 rfl ?_
      refine z_iconst F dX12_proof_18 rfl ?_
      refine z_iconst F dX12_proof_19 rfl ?_
      refine z_cSbp (As := [.int (i3 a3), .int (i3 0), .int (i3 1)]) (st := []) F (c_X12_within l g hw) cs_X12_within w_1102 ⟨rfl, rfl, Nat.le_of_ble_eq_true rfl, Nat.le_of_ble_eq_true rfl⟩ rfl (Nat.le_of_ble_eq_true rfl) dX12_proof_20 rfl (fun r20 hw => ?_)
      refine z_ifb_eq F dX12_proof_23 rfl rfl hw (fun hw => ?_) (fun hw => ?_)
      · refine z_ldc2 (n := (-9223372036854775808)) F w_1222 (by decide) dX12_proof_33 rfl ?_
        exact z_lret (x := (-9223372036854775808)) F hr dX12_proof_36 hw
      · refine z_aload_n F dX12_proof_26 rfl rfl 0 rfl ?_
        refine z_cVi (As := []) (st := []) F (c_X12_solved l g k0 hw) cv_X12_solved w_1295 ⟨rfl, rfl, Nat.le_of_ble_eq_true rfl, Nat.le_of_ble_eq_true rfl⟩ k0 rfl rfl (Nat.le_of_ble_eq_true rfl) dX12_proof_27 rfl (fun r27 M27 hw => ?_)
        refine z_if_ge F dX12_proof_30 rfl rfl hw (fun hw => ?_) (fun hw => ?_)
        · refine z_iload_n F dX12_proof_37 rfl rfl 2 rfl ?_
          refine z_if_ne F dX12_proof_38 rfl rfl hw (fun hw => ?_) (fun hw => ?_)
          · refine z_iload_n F dX12_proof_52 rfl rfl 2 rfl ?_
            refine z_iconst F dX12_proof_53 rfl ?_
            refine z_icmp_ne F dX12_proof_54 rfl rfl hw (fun hw => ?_) (fun hw => ?_)
            · refine z_aload_n F dX12_proof_65 rfl rfl 0 rfl ?_
              refine z_bipush F dX12_proof_66 (by decide) rfl ?_
              refine z_iload_n F dX12_proof_68 rfl rfl 2 rfl ?_
              refine z_imul F dX12_proof_69 rfl ?_
              refine z_iload_n F dX12_proof_70 rfl rfl 1 rfl ?_
              refine z_iadd F dX12_proof_71 rfl ?_
              refine z_cVv (As := [.int (i3 ((10 * a2) + a1))]) (st := []) F (c_X12_price l g k0 hw) cv_X12_price w_1347 ⟨rfl, rfl, Nat.le_of_ble_eq_true rfl, Nat.le_of_ble_eq_true rfl⟩ k0 rfl rfl (Nat.le_of_ble_eq_true rfl) dX12_proof_72 rfl (fun M72 hw => ?_)
              refine z_sub [0, 3] rfl ?_
              exact bk_X12_proof_75 F hr k0 hw
            · refine z_aload_n F dX12_proof_57 rfl rfl 0 rfl ?_
              refine z_iload_n F dX12_proof_58 rfl rfl 1 rfl ?_
              refine z_cVv (As := [.int (i3 a1)]) (st := []) F (c_X12_proofOf l g k0 hw) cv_X12_proofOf w_1343 ⟨rfl, rfl, Nat.le_of_ble_eq_true rfl, Nat.le_of_ble_eq_true rfl⟩ k0 rfl rfl (Nat.le_of_ble_eq_true rfl) dX12_proof_59 rfl (fun M59 hw => ?_)
              refine z_goto F dX12_proof_62 rfl ?_
              refine z_sub [0, 3] rfl ?_
              exact bk_X12_proof_75 F hr k0 hw
          · refine z_aload_n F dX12_proof_41 rfl rfl 0 rfl ?_
            refine z_bipush F dX12_proof_42 (by decide) rfl ?_
            refine z_iload_n F dX12_proof_44 rfl rfl 1 rfl ?_
            refine z_iadd F dX12_proof_45 rfl ?_
            refine z_cVv (As := [.int (i3 (10 + a1))]) (st := []) F (c_X12_bare l g k0 hw) cv_X12_bare w_1335 ⟨rfl, rfl, Nat.le_of_ble_eq_true rfl, Nat.le_of_ble_eq_true rfl⟩ k0 rfl rfl (Nat.le_of_ble_eq_true rfl) dX12_proof_46 rfl (fun M46 hw => ?_)
            refine z_goto F dX12_proof_49 rfl ?_
            refine z_sub [0, 3] rfl ?_
            exact bk_X12_proof_75 F hr k0 hw
        · refine z_ldc2 (n := (-9223372036854775808)) F w_1222 (by decide) dX12_proof_33 rfl ?_
          exact z_lret (x := (-9223372036854775808)) F hr dX12_proof_36 hw
theorem cv_X12_proof : CV yX12_proof RX12 cX12_proof 4 (some .long) 3 := ⟨w_1340, w_1341, w_80, w_1342, rfl, by decide +kernel, by decide +kernel, by decide +kernel⟩
abbrev rm_X12_climbs : Room := { frames := 8, cells := 0, slots := 0, locals := 187 }
def wp_X12_climbs_b192 (a0 : Nat) (Q : Mem → Prop) (K40 : Mem → Int → Prop) (M : Mem) (x2 : Int) : Prop :=
  K40 M (x2 + (-1))
def wp_X12_climbs_b132 (a0 : Nat) (Q : Mem → Prop) (K103 : Int → Int → Prop) (K40 : Mem → Int → Prop) (M : Mem) (x2 : Int) (x3 : Int) (x4 : Int) (x5 : Int) : Prop :=
  K103 x4 (x5 + (-1))
def wp_X12_climbs_B103 (a0 : Nat) (Q : Mem → Prop) (K103 : Int → Int → Prop) (K40 : Mem → Int → Prop) (M : Mem) (x2 : Int) (x3 : Int) (x4 : Int) (x5 : Int) : Prop :=
  (((w32 x5 < 0) → (
    (((0 < w32 x3) → (
      (((¬ w32 x4 = w32 (-1)) → (
        wp_X12_paysAtRung a0 x4 x2 M (fun r168 =>
        inb (rt a0 20) x4 ∧ (
        w32 r168 ≠ 0 ∧ (
        inb (rt a0 20) x4 ∧ (
        ∀ M191 : Mem, M191 = st2 M (rt a0 20) (ix x4) ((M (rt a0 20) (ix x4)) + ((w32 ((x3 + r168) - 1)).tdiv (w32 r168))) →
        wp_X12_climbs_b192 a0 Q K40 M191 x2)))))) ∧
      (¬ (¬ w32 x4 = w32 (-1)) → (
        ∀ M158 : Mem, M158 = st2 M a0 21 ((M a0 21) + x3) →
        wp_X12_climbs_b192 a0 Q K40 M158 x2))))) ∧
    (¬ (0 < w32 x3) → (
      wp_X12_climbs_b192 a0 Q K40 M x2))))) ∧
  (¬ (w32 x5 < 0) → (
    inb (rt a0 22) x5 ∧ (
    wp_X12_lastOf a0 (M (rt a0 22) (ix x5)) M (fun r116 =>
    (((¬ w32 r116 = w32 x2) → (
      wp_X12_climbs_b132 a0 Q K103 K40 M x2 x3 x4 x5)) ∧
    (¬ (¬ w32 r116 = w32 x2) → (
      inb (rt a0 22) x5 ∧ (
      wp_X12_climbs_b132 a0 Q K103 K40 M x2 x3 (M (rt a0 22) (ix x5)) x5)))))))))
def wp_X12_climbs_L103 (a0 : Nat) (Q : Mem → Prop) (K40 : Mem → Int → Prop) (M : Mem) (x2 : Int) (x3 : Int) (x4 : Int) (x5 : Int) : Prop :=
  ∃ (I : Int → Int → Prop) (μ : Int → Int → Nat), I x4 x5 ∧ ∀ (x4 : Int) (x5 : Int), I x4 x5 →
    wp_X12_climbs_B103 a0 Q (fun x4' x5' => I x4' x5' ∧ μ x4' x5' < μ x4 x5) K40 M x2 x3 x4 x5
def wp_X12_climbs_B59 (a0 : Nat) (Q : Mem → Prop) (K59 : Int → Int → Prop) (K40 : Mem → Int → Prop) (M : Mem) (x2 : Int) (x3 : Int) (x4 : Int) : Prop :=
  (((w32 (M a0 3) ≤ w32 x4) → (
    wp_X12_climbs_L103 a0 Q K40 M x2 x3 (-1) ((M a0 3) - 1))) ∧
  (¬ (w32 (M a0 3) ≤ w32 x4) → (
    inb (rt a0 20) x4 ∧ (
    wp_X12_paysAtRung a0 x4 x2 M (fun r80 =>
    ∀ v85 : Int, v85 = (x3 - ((M (rt a0 20) (ix x4)) * r80)) →
    K59 v85 (x4 + 1))))))
def wp_X12_climbs_L59 (a0 : Nat) (Q : Mem → Prop) (K40 : Mem → Int → Prop) (M : Mem) (x2 : Int) (x3 : Int) (x4 : Int) : Prop :=
  ∃ (I : Int → Int → Prop) (μ : Int → Int → Nat), I x3 x4 ∧ ∀ (x3 : Int) (x4 : Int), I x3 x4 →
    wp_X12_climbs_B59 a0 Q (fun x3' x4' => I x3' x4' ∧ μ x3' x4' < μ x3 x4) K40 M x2 x3 x4
def wp_X12_climbs_B40 (a0 : Nat) (Q : Mem → Prop) (K40 : Mem → Int → Prop) (M : Mem) (x2 : Int) : Prop :=
  (((w32 x2 < 0) → (
    Q M)) ∧
  (¬ (w32 x2 < 0) → (
    inb (rt a0 6) x2 ∧ (
    inb (rt a0 0) (M (rt a0 6) (ix x2)) ∧ (
    ∀ v55 : Int, v55 = (M (rt a0 0) (ix (M (rt a0 6) (ix x2)))) →
    wp_X12_climbs_L59 a0 Q K40 M x2 v55 0)))))
def wp_X12_climbs_L40 (a0 : Nat) (Q : Mem → Prop) (M : Mem) (x2 : Int) : Prop :=
  ∃ (I : Mem → Int → Prop) (μ : Mem → Int → Nat), I M x2 ∧ ∀ (M : Mem) (x2 : Int), I M x2 →
    wp_X12_climbs_B40 a0 Q (fun M' x2' => I M' x2' ∧ μ M' x2' < μ M x2) M x2
def wp_X12_climbs_B12 (a0 : Nat) (Q : Mem → Prop) (K12 : Mem → Int → Prop) (M : Mem) (x2 : Int) : Prop :=
  (((w32 (M a0 3) ≤ w32 x2) → (
    wp_X12_climbs_L40 a0 Q M ((M a0 5) - 1))) ∧
  (¬ (w32 (M a0 3) ≤ w32 x2) → (
    inb (rt a0 20) x2 ∧ (
    ∀ M26 : Mem, M26 = st2 M (rt a0 20) (ix x2) 0 →
    K12 M26 (x2 + 1)))))
def wp_X12_climbs_L12 (a0 : Nat) (Q : Mem → Prop) (M : Mem) (x2 : Int) : Prop :=
  ∃ (I : Mem → Int → Prop) (μ : Mem → Int → Nat), I M x2 ∧ ∀ (M : Mem) (x2 : Int), I M x2 →
    wp_X12_climbs_B12 a0 Q (fun M' x2' => I M' x2' ∧ μ M' x2' < μ M x2) M x2
def wp_X12_climbs (a0 : Nat) (a1 : Int) (M : Mem) (Q : Mem → Prop) : Prop :=
  wp_X12_ranks a0 a1 M (fun M2 =>
  ∀ M7 : Mem, M7 = st2 M2 a0 21 0 →
  wp_X12_climbs_L12 a0 Q M7 0)
set_option maxRecDepth 100000 in
set_option maxHeartbeats 4000000 in
theorem bk_X12_climbs_192 {g : En} {p : Program} {l : Launch} {e : Env} {s : State} {m : MethodId} {args : Array Value} {below : List Frame} {meth : Method} {c : Code} {M : Mem} {a0 : Nat} {Q : Mem → Prop} {K40 : Mem → Int → Prop} {x2 : Int} (F : Fx g p s m args meth c cX12_climbs 6 RX12) (hr : meth.sig.returnType = none) (k0 : kd a0 = 12)
    (hK40 : ∀ (M' : Mem) (x2' : Int), K40 M' x2' → Z g p l e rm_X12_climbs s m args below meth c 6 (MQ below (va_Qv (S := Mem) Q (fun u => Rp g u) (aR g)) args s 0 0 (aR g)) M' 40 [(0, .ref (g.2.2.1 + a0)), (2, .int (i3 x2'))] [])
    (hw : wp_X12_climbs_b192 a0 Q K40 M x2) : Z g p l e rm_X12_climbs s m args below meth c 6 (MQ below (va_Qv (S := Mem) Q (fun u => Rp g u) (aR g)) args s 0 0 (aR g)) M 192 [(0, .ref (g.2.2.1 + a0)), (2, .int (i3 x2))] [] := by
  refine z_iinc F dX12_climbs_192 rfl 1 rfl (by decide) rfl ?_
  refine z_goto F dX12_climbs_195 rfl ?_
  refine z_sub [1, 0] rfl ?_
  exact hK40 M (x2 + (-1)) hw
set_option maxRecDepth 100000 in
set_option maxHeartbeats 4000000 in
theorem bk_X12_climbs_132 {g : En} {p : Program} {l : Launch} {e : Env} {s : State} {m : MethodId} {args : Array Value} {below : List Frame} {meth : Method} {c : Code} {M : Mem} {a0 : Nat} {Q : Mem → Prop} {K103 : Int → Int → Prop} {K40 : Mem → Int → Prop} {x2 : Int} {x3 : Int} {x4 : Int} {x5 : Int} (F : Fx g p s m args meth c cX12_climbs 6 RX12) (hr : meth.sig.returnType = none) (k0 : kd a0 = 12)
    (hK103 : ∀ (x4' : Int) (x5' : Int), K103 x4' x5' → Z g p l e rm_X12_climbs s m args below meth c 6 (MQ below (va_Qv (S := Mem) Q (fun u => Rp g u) (aR g)) args s 0 0 (aR g)) M 103 [(0, .ref (g.2.2.1 + a0)), (2, .int (i3 x2)), (3, .int (i3 x3)), (4, .int (i3 x4')), (5, .int (i3 x5'))] [])
    (hK40 : ∀ (M' : Mem) (x2' : Int), K40 M' x2' → Z g p l e rm_X12_climbs s m args below meth c 6 (MQ below (va_Qv (S := Mem) Q (fun u => Rp g u) (aR g)) args s 0 0 (aR g)) M' 40 [(0, .ref (g.2.2.1 + a0)), (2, .int (i3 x2'))] [])
    (hw : wp_X12_climbs_b132 a0 Q K103 K40 M x2 x3 x4 x5) : Z g p l e rm_X12_climbs s m args below meth c 6 (MQ below (va_Qv (S := Mem) Q (fun u => Rp g u) (aR g)) args s 0 0 (aR g)) M 132 [(0, .ref (g.2.2.1 + a0)), (2, .int (i3 x2)), (3, .int (i3 x3)), (4, .int (i3 x4)), (5, .int (i3 x5))] [] := by
  refine z_iinc F dX12_climbs_132 rfl 4 rfl (by decide) rfl ?_
  refine z_goto F dX12_climbs_135 rfl ?_
  refine z_sub [1, 2, 3, 4, 0] rfl ?_
  exact hK103 x4 (x5 + (-1)) hw
set_option maxRecDepth 100000 in
set_option maxHeartbeats 4000000 in
theorem bk_X12_climbs_B103 {g : En} {p : Program} {l : Launch} {e : Env} {s : State} {m : MethodId} {args : Array Value} {below : List Frame} {meth : Method} {c : Code} {M : Mem} {a0 : Nat} {Q : Mem → Prop} {K103 : Int → Int → Prop} {K40 : Mem → Int → Prop} {x2 : Int} {x3 : Int} {x4 : Int} {x5 : Int} (F : Fx g p s m args meth c cX12_climbs 6 RX12) (hr : meth.sig.returnType = none) (k0 : kd a0 = 12)
    (hK103 : ∀ (x4' : Int) (x5' : Int), K103 x4' x5' → Z g p l e rm_X12_climbs s m args below meth c 6 (MQ below (va_Qv (S := Mem) Q (fun u => Rp g u) (aR g)) args s 0 0 (aR g)) M 103 [(0, .ref (g.2.2.1 + a0)), (2, .int (i3 x2)), (3, .int (i3 x3)), (4, .int (i3 x4')), (5, .int (i3 x5'))] [])
    (hK40 : ∀ (M' : Mem) (x2' : Int), K40 M' x2' → Z g p l e rm_X12_climbs s m args below meth c 6 (MQ below (va_Qv (S := Mem) Q (fun u => Rp g u) (aR g)) args s 0 0 (aR g)) M' 40 [(0, .ref (g.2.2.1 + a0)), (2, .int (i3 x2'))] [])
    (hw : wp_X12_climbs_B103 a0 Q K103 K40 M x2 x3 x4 x5) : Z g p l e rm_X12_climbs s m args below meth c 6 (MQ below (va_Qv (S := Mem) Q (fun u => Rp g u) (aR g)) args s 0 0 (aR g)) M 103 [(0, .ref (g.2.2.1 + a0)), (2, .int (i3 x2)), (3, .int (i3 x3)), (4, .int (i3 x4)), (5, .int (i3 x5))] [] := by
  refine z_iload F dX12_climbs_103 rfl 4 rfl ?_
  refine z_if_lt F dX12_climbs_105 rfl rfl hw (fun hw => ?_) (fun hw => ?_)
  · refine z_iload_n F dX12_climbs_138 rfl rfl 2 rfl ?_
    refine z_if_gt F dX12_climbs_139 rfl rfl hw (fun hw => ?_) (fun hw => ?_)
    · refine z_iload F dX12_climbs_145 rfl 3 rfl ?_
      refine z_iconst F dX12_climbs_147 rfl ?_
      refine z_icmp_ne F dX12_climbs_148 rfl rfl hw (fun hw => ?_) (fun hw => ?_)
      · refine z_aload_n F dX12_climbs_164 rfl rfl 0 rfl ?_
        refine z_iload F dX12_climbs_165 rfl 3 rfl ?_
        refine z_iload_n F dX12_climbs_167 rfl rfl 1 rfl ?_
        refine z_cVip (As := [.int (i3 x4), .int (i3 x2)]) (st := []) F (c_X12_paysAtRung l g k0 hw) cv_X12_paysAtRung w_1167 ⟨rfl, rfl, Nat.le_of_ble_eq_true rfl, Nat.le_of_ble_eq_true rfl⟩ k0 rfl rfl (Nat.le_of_ble_eq_true rfl) dX12_climbs_168 rfl (fun r168 hw => ?_)
        refine z_istore F dX12_climbs_171 rfl (by decide) rfl ?_
        refine z_aload_n F dX12_climbs_173 rfl rfl 1 rfl ?_
        refine z_getR F fl_1012 k0 dX12_climbs_174 rfl ?_
        refine z_iload F dX12_climbs_177 rfl 4 rfl ?_
        refine z_dup2 F rfl rfl dX12_climbs_179 rfl ?_
        refine z_iald F (tk_12_20 k0) dX12_climbs_180 rfl hw (fun hw => ?_)
        refine z_iload_n F dX12_climbs_181 rfl rfl 3 rfl ?_
        refine z_iload F dX12_climbs_182 rfl 0 rfl ?_
        refine z_iadd F dX12_climbs_184 rfl ?_
        refine z_iconst F dX12_climbs_185 rfl ?_
        refine z_isub F dX12_climbs_186 rfl ?_
        refine z_iload F dX12_climbs_187 rfl 0 rfl ?_
        refine z_idiv F dX12_climbs_189 rfl hw (fun hw => ?_)
        refine z_iadd F dX12_climbs_190 rfl ?_
        refine z_iast F (tk_12_20 k0) dX12_climbs_191 rfl hw (fun hw => ?_)
        refine z_nmM (fun M191 eM191 => ?_)
        have hw := hw M191 eM191
        refine z_sub [1, 2] rfl ?_
        exact bk_X12_climbs_192 F hr k0 hK40 hw
      · refine z_aload_n F dX12_climbs_151 rfl rfl 0 rfl ?_
        refine z_dup F rfl dX12_climbs_152 rfl ?_
        refine z_getI F fl_1013 k0 dX12_climbs_153 rfl ?_
        refine z_iload_n F dX12_climbs_156 rfl rfl 2 rfl ?_
        refine z_iadd F dX12_climbs_157 rfl ?_
        refine z_putI F fp_1013 k0 dX12_climbs_158 rfl ?_
        refine z_nmM (fun M158 eM158 => ?_)
        have hw := hw M158 eM158
        refine z_goto F dX12_climbs_161 rfl ?_
        refine z_sub [0, 1] rfl ?_
        exact bk_X12_climbs_192 F hr k0 hK40 hw
    · refine z_goto F dX12_climbs_142 rfl ?_
      refine z_sub [0, 1] rfl ?_
      exact bk_X12_climbs_192 F hr k0 hK40 hw
  · refine z_aload_n F dX12_climbs_108 rfl rfl 0 rfl ?_
    refine z_aload_n F dX12_climbs_109 rfl rfl 0 rfl ?_
    refine z_getR F fl_1014 k0 dX12_climbs_110 rfl ?_
    refine z_iload F dX12_climbs_113 rfl 4 rfl ?_
    refine z_iald F (tk_12_22 k0) dX12_climbs_115 rfl hw (fun hw => ?_)
    refine z_cVip (As := [.int (i3 (M (rt a0 22) (ix x5)))]) (st := []) F (c_X12_lastOf l g k0 hw) cv_X12_lastOf w_1163 ⟨rfl, rfl, Nat.le_of_ble_eq_true rfl, Nat.le_of_ble_eq_true rfl⟩ k0 rfl rfl (Nat.le_of_ble_eq_true rfl) dX12_climbs_116 rfl (fun r116 hw => ?_)
    refine z_iload_n F dX12_climbs_119 rfl rfl 1 rfl ?_
    refine z_icmp_ne F dX12_climbs_120 rfl rfl hw (fun hw => ?_) (fun hw => ?_)
    · refine z_sub [0, 1, 2, 3, 4] rfl ?_
      exact bk_X12_climbs_132 F hr k0 hK103 hK40 hw
    · refine z_aload_n F dX12_climbs_123 rfl rfl 0 rfl ?_
      refine z_getR F fl_1014 k0 dX12_climbs_124 rfl ?_
      refine z_iload F dX12_climbs_127 rfl 4 rfl ?_
      refine z_iald F (tk_12_22 k0) dX12_climbs_129 rfl hw (fun hw => ?_)
      refine z_istore F dX12_climbs_130 rfl (by decide) rfl ?_
      refine z_sub [1, 2, 3, 0, 4] rfl ?_
      exact bk_X12_climbs_132 F hr k0 hK103 hK40 hw
set_option maxRecDepth 100000 in
set_option maxHeartbeats 4000000 in
theorem lp_X12_climbs_103 {g : En} {p : Program} {l : Launch} {e : Env} {s : State} {m : MethodId} {args : Array Value} {below : List Frame} {meth : Method} {c : Code} {M : Mem} {a0 : Nat} {Q : Mem → Prop} {K40 : Mem → Int → Prop} {x2 : Int} {x3 : Int} {x4 : Int} {x5 : Int} (F : Fx g p s m args meth c cX12_climbs 6 RX12) (hr : meth.sig.returnType = none) (k0 : kd a0 = 12)
    (hK40 : ∀ (M' : Mem) (x2' : Int), K40 M' x2' → Z g p l e rm_X12_climbs s m args below meth c 6 (MQ below (va_Qv (S := Mem) Q (fun u => Rp g u) (aR g)) args s 0 0 (aR g)) M' 40 [(0, .ref (g.2.2.1 + a0)), (2, .int (i3 x2'))] [])
    (hw : wp_X12_climbs_L103 a0 Q K40 M x2 x3 x4 x5) : Z g p l e rm_X12_climbs s m args below meth c 6 (MQ below (va_Qv (S := Mem) Q (fun u => Rp g u) (aR g)) args s 0 0 (aR g)) M 103 [(0, .ref (g.2.2.1 + a0)), (2, .int (i3 x2)), (3, .int (i3 x3)), (4, .int (i3 x4)), (5, .int (i3 x5))] [] := by
  obtain ⟨I, μ, h0, hb⟩ := hw
  have key : ∀ (n : Nat) (x4 : Int) (x5 : Int), I x4 x5 → μ x4 x5 < n → Z g p l e rm_X12_climbs s m args below meth c 6 (MQ below (va_Qv (S := Mem) Q (fun u => Rp g u) (aR g)) args s 0 0 (aR g)) M 103 [(0, .ref (g.2.2.1 + a0)), (2, .int (i3 x2)), (3, .int (i3 x3)), (4, .int (i3 x4)), (5, .int (i3 x5))] [] := by
    intro n
    induction n with
    | zero => exact fun _ _ _ h => absurd h (Nat.not_lt_zero _)
    | succ n ih =>
      intro x4 x5 hI hn
      exact bk_X12_climbs_B103 F hr k0 (fun x4' x5' hk => ih x4' x5' hk.1 (Nat.lt_of_lt_of_le hk.2 (Nat.le_of_lt_succ hn))) hK40 (hb x4 x5 hI)
  exact key _ x4 x5 h0 (Nat.lt_succ_self _)
set_option maxRecDepth 100000 in
set_option maxHeartbeats 4000000 in
theorem bk_X12_climbs_B59 {g : En} {p : Program} {l : Launch} {e : Env} {s : State} {m : MethodId} {args : Array Value} {below : List Frame} {meth : Method} {c : Code} {M : Mem} {a0 : Nat} {Q : Mem → Prop} {K59 : Int → Int → Prop} {K40 : Mem → Int → Prop} {x2 : Int} {x3 : Int} {x4 : Int} (F : Fx g p s m args meth c cX12_climbs 6 RX12) (hr : meth.sig.returnType = none) (k0 : kd a0 = 12)
    (hK59 : ∀ (x3' : Int) (x4' : Int), K59 x3' x4' → Z g p l e rm_X12_climbs s m args below meth c 6 (MQ below (va_Qv (S := Mem) Q (fun u => Rp g u) (aR g)) args s 0 0 (aR g)) M 59 [(0, .ref (g.2.2.1 + a0)), (2, .int (i3 x2)), (3, .int (i3 x3')), (4, .int (i3 x4'))] [])
    (hK40 : ∀ (M' : Mem) (x2' : Int), K40 M' x2' → Z g p l e rm_X12_climbs s m args below meth c 6 (MQ below (va_Qv (S := Mem) Q (fun u => Rp g u) (aR g)) args s 0 0 (aR g)) M' 40 [(0, .ref (g.2.2.1 + a0)), (2, .int (i3 x2'))] [])
    (hw : wp_X12_climbs_B59 a0 Q K59 K40 M x2 x3 x4) : Z g p l e rm_X12_climbs s m args below meth c 6 (MQ below (va_Qv (S := Mem) Q (fun u => Rp g u) (aR g)) args s 0 0 (aR g)) M 59 [(0, .ref (g.2.2.1 + a0)), (2, .int (i3 x2)), (3, .int (i3 x3)), (4, .int (i3 x4))] [] := by
  refine z_iload F dX12_climbs_59 rfl 3 rfl ?_
  refine z_aload_n F dX12_climbs_61 rfl rfl 0 rfl ?_
  refine z_getI F fl_995 k0 dX12_climbs_62 rfl ?_
  refine z_icmp_ge F dX12_climbs_65 rfl rfl hw (fun hw => ?_) (fun hw => ?_)
  · refine z_iconst F dX12_climbs_92 rfl ?_
    refine z_istore F dX12_climbs_93 rfl (by decide) rfl ?_
    refine z_aload_n F dX12_climbs_95 rfl rfl 1 rfl ?_
    refine z_getI F fl_995 k0 dX12_climbs_96 rfl ?_
    refine z_iconst F dX12_climbs_99 rfl ?_
    refine z_isub F dX12_climbs_100 rfl ?_
    refine z_istore F dX12_climbs_101 rfl (by decide) rfl ?_
    refine z_sub [2, 3, 4, 1, 0] rfl ?_
    exact lp_X12_climbs_103 F hr k0 hK40 hw
  · refine z_iload_n F dX12_climbs_68 rfl rfl 2 rfl ?_
    refine z_aload_n F dX12_climbs_69 rfl rfl 0 rfl ?_
    refine z_getR F fl_1012 k0 dX12_climbs_70 rfl ?_
    refine z_iload F dX12_climbs_73 rfl 3 rfl ?_
    refine z_iald F (tk_12_20 k0) dX12_climbs_75 rfl hw (fun hw => ?_)
    refine z_aload_n F dX12_climbs_76 rfl rfl 0 rfl ?_
    refine z_iload F dX12_climbs_77 rfl 3 rfl ?_
    refine z_iload_n F dX12_climbs_79 rfl rfl 1 rfl ?_
    refine z_cVip (As := [.int (i3 x4), .int (i3 x2)]) (st := [.int (i3 (M (rt a0 20) (ix x4))), .int (i3 x3)]) F (c_X12_paysAtRung l g k0 hw) cv_X12_paysAtRung w_1167 ⟨rfl, rfl, Nat.le_of_ble_eq_true rfl, Nat.le_of_ble_eq_true rfl⟩ k0 rfl rfl (Nat.le_of_ble_eq_true rfl) dX12_climbs_80 rfl (fun r80 hw => ?_)
    refine z_imul F dX12_climbs_83 rfl ?_
    refine z_isub F dX12_climbs_84 rfl ?_
    refine z_nmI (fun v85 ev85 => ?_)
    have hw := hw v85 ev85
    refine z_istore_n F dX12_climbs_85 rfl rfl (by decide) rfl ?_
    refine z_iinc F dX12_climbs_86 rfl 3 rfl (by decide) rfl ?_
    refine z_goto F dX12_climbs_89 rfl ?_
    refine z_sub [2, 3, 1, 0] rfl ?_
    exact hK59 v85 (x4 + 1) hw
set_option maxRecDepth 100000 in
set_option maxHeartbeats 4000000 in
theorem lp_X12_climbs_59 {g : En} {p : Program} {l : Launch} {e : Env} {s : State} {m : MethodId} {args : Array Value} {below : List Frame} {meth : Method} {c : Code} {M : Mem} {a0 : Nat} {Q : Mem → Prop} {K40 : Mem → Int → Prop} {x2 : Int} {x3 : Int} {x4 : Int} (F : Fx g p s m args meth c cX12_climbs 6 RX12) (hr : meth.sig.returnType = none) (k0 : kd a0 = 12)
    (hK40 : ∀ (M' : Mem) (x2' : Int), K40 M' x2' → Z g p l e rm_X12_climbs s m args below meth c 6 (MQ below (va_Qv (S := Mem) Q (fun u => Rp g u) (aR g)) args s 0 0 (aR g)) M' 40 [(0, .ref (g.2.2.1 + a0)), (2, .int (i3 x2'))] [])
    (hw : wp_X12_climbs_L59 a0 Q K40 M x2 x3 x4) : Z g p l e rm_X12_climbs s m args below meth c 6 (MQ below (va_Qv (S := Mem) Q (fun u => Rp g u) (aR g)) args s 0 0 (aR g)) M 59 [(0, .ref (g.2.2.1 + a0)), (2, .int (i3 x2)), (3, .int (i3 x3)), (4, .int (i3 x4))] [] := by
  obtain ⟨I, μ, h0, hb⟩ := hw
  have key : ∀ (n : Nat) (x3 : Int) (x4 : Int), I x3 x4 → μ x3 x4 < n → Z g p l e rm_X12_climbs s m args below meth c 6 (MQ below (va_Qv (S := Mem) Q (fun u => Rp g u) (aR g)) args s 0 0 (aR g)) M 59 [(0, .ref (g.2.2.1 + a0)), (2, .int (i3 x2)), (3, .int (i3 x3)), (4, .int (i3 x4))] [] := by
    intro n
    induction n with
    | zero => exact fun _ _ _ h => absurd h (Nat.not_lt_zero _)
    | succ n ih =>
      intro x3 x4 hI hn
      exact bk_X12_climbs_B59 F hr k0 (fun x3' x4' hk => ih x3' x4' hk.1 (Nat.lt_of_lt_of_le hk.2 (Nat.le_of_lt_succ hn))) hK40 (hb x3 x4 hI)
  exact key _ x3 x4 h0 (Nat.lt_succ_self _)
set_option maxRecDepth 100000 in
set_option maxHeartbeats 4000000 in
theorem bk_X12_climbs_B40 {g : En} {p : Program} {l : Launch} {e : Env} {s : State} {m : MethodId} {args : Array Value} {below : List Frame} {meth : Method} {c : Code} {M : Mem} {a0 : Nat} {Q : Mem → Prop} {K40 : Mem → Int → Prop} {x2 : Int} (F : Fx g p s m args meth c cX12_climbs 6 RX12) (hr : meth.sig.returnType = none) (k0 : kd a0 = 12)
    (hK40 : ∀ (M' : Mem) (x2' : Int), K40 M' x2' → Z g p l e rm_X12_climbs s m args below meth c 6 (MQ below (va_Qv (S := Mem) Q (fun u => Rp g u) (aR g)) args s 0 0 (aR g)) M' 40 [(0, .ref (g.2.2.1 + a0)), (2, .int (i3 x2'))] [])
    (hw : wp_X12_climbs_B40 a0 Q K40 M x2) : Z g p l e rm_X12_climbs s m args below meth c 6 (MQ below (va_Qv (S := Mem) Q (fun u => Rp g u) (aR g)) args s 0 0 (aR g)) M 40 [(0, .ref (g.2.2.1 + a0)), (2, .int (i3 x2))] [] := by
  refine z_iload_n F dX12_climbs_40 rfl rfl 1 rfl ?_
  refine z_if_lt F dX12_climbs_41 rfl rfl hw (fun hw => ?_) (fun hw => ?_)
  · exact z_vret F hr dX12_climbs_198 hw
  · refine z_aload_n F dX12_climbs_44 rfl rfl 0 rfl ?_
    refine z_getR F fl_992 k0 dX12_climbs_45 rfl ?_
    refine z_aload_n F dX12_climbs_48 rfl rfl 0 rfl ?_
    refine z_getR F fl_998 k0 dX12_climbs_49 rfl ?_
    refine z_iload_n F dX12_climbs_52 rfl rfl 1 rfl ?_
    refine z_iald F (tk_12_6 k0) dX12_climbs_53 rfl hw (fun hw => ?_)
    refine z_iald F (tk_12_0 k0) dX12_climbs_54 rfl hw (fun hw => ?_)
    refine z_nmI (fun v55 ev55 => ?_)
    have hw := hw v55 ev55
    refine z_istore_n F dX12_climbs_55 rfl rfl (by decide) rfl ?_
    refine z_iconst F dX12_climbs_56 rfl ?_
    refine z_istore F dX12_climbs_57 rfl (by decide) rfl ?_
    refine z_sub [2, 3, 1, 0] rfl ?_
    exact lp_X12_climbs_59 F hr k0 hK40 hw
set_option maxRecDepth 100000 in
set_option maxHeartbeats 4000000 in
theorem lp_X12_climbs_40 {g : En} {p : Program} {l : Launch} {e : Env} {s : State} {m : MethodId} {args : Array Value} {below : List Frame} {meth : Method} {c : Code} {M : Mem} {a0 : Nat} {Q : Mem → Prop} {x2 : Int} (F : Fx g p s m args meth c cX12_climbs 6 RX12) (hr : meth.sig.returnType = none) (k0 : kd a0 = 12)
    (hw : wp_X12_climbs_L40 a0 Q M x2) : Z g p l e rm_X12_climbs s m args below meth c 6 (MQ below (va_Qv (S := Mem) Q (fun u => Rp g u) (aR g)) args s 0 0 (aR g)) M 40 [(0, .ref (g.2.2.1 + a0)), (2, .int (i3 x2))] [] := by
  obtain ⟨I, μ, h0, hb⟩ := hw
  have key : ∀ (n : Nat) (M : Mem) (x2 : Int), I M x2 → μ M x2 < n → Z g p l e rm_X12_climbs s m args below meth c 6 (MQ below (va_Qv (S := Mem) Q (fun u => Rp g u) (aR g)) args s 0 0 (aR g)) M 40 [(0, .ref (g.2.2.1 + a0)), (2, .int (i3 x2))] [] := by
    intro n
    induction n with
    | zero => exact fun _ _ _ h => absurd h (Nat.not_lt_zero _)
    | succ n ih =>
      intro M x2 hI hn
      exact bk_X12_climbs_B40 F hr k0 (fun M' x2' hk => ih M' x2' hk.1 (Nat.lt_of_lt_of_le hk.2 (Nat.le_of_lt_succ hn))) (hb M x2 hI)
  exact key _ M x2 h0 (Nat.lt_succ_self _)
set_option maxRecDepth 100000 in
set_option maxHeartbeats 4000000 in
theorem bk_X12_climbs_B12 {g : En} {p : Program} {l : Launch} {e : Env} {s : State} {m : MethodId} {args : Array Value} {below : List Frame} {meth : Method} {c : Code} {M : Mem} {a0 : Nat} {Q : Mem → Prop} {K12 : Mem → Int → Prop} {x2 : Int} (F : Fx g p s m args meth c cX12_climbs 6 RX12) (hr : meth.sig.returnType = none) (k0 : kd a0 = 12)
    (hK12 : ∀ (M' : Mem) (x2' : Int), K12 M' x2' → Z g p l e rm_X12_climbs s m args below meth c 6 (MQ below (va_Qv (S := Mem) Q (fun u => Rp g u) (aR g)) args s 0 0 (aR g)) M' 12 [(0, .ref (g.2.2.1 + a0)), (2, .int (i3 x2'))] [])
    (hw : wp_X12_climbs_B12 a0 Q K12 M x2) : Z g p l e rm_X12_climbs s m args below meth c 6 (MQ below (va_Qv (S := Mem) Q (fun u => Rp g u) (aR g)) args s 0 0 (aR g)) M 12 [(0, .ref (g.2.2.1 + a0)), (2, .int (i3 x2))] [] := by
  refine z_iload_n F dX12_climbs_12 rfl rfl 1 rfl ?_
  refine z_aload_n F dX12_climbs_13 rfl rfl 0 rfl ?_
  refine z_getI F fl_995 k0 dX12_climbs_14 rfl ?_
  refine z_icmp_ge F dX12_climbs_17 rfl rfl hw (fun hw => ?_) (fun hw => ?_)
  · refine z_aload_n F dX12_climbs_33 rfl rfl 0 rfl ?_
    refine z_getI F fl_997 k0 dX12_climbs_34 rfl ?_
    refine z_iconst F dX12_climbs_37 rfl ?_
    refine z_isub F dX12_climbs_38 rfl ?_
    refine z_istore_n F dX12_climbs_39 rfl rfl (by decide) rfl ?_
    refine z_sub [1, 0] rfl ?_
    exact lp_X12_climbs_40 F hr k0 hw
  · refine z_aload_n F dX12_climbs_20 rfl rfl 0 rfl ?_
    refine z_getR F fl_1012 k0 dX12_climbs_21 rfl ?_
    refine z_iload_n F dX12_climbs_24 rfl rfl 1 rfl ?_
    refine z_iconst F dX12_climbs_25 rfl ?_
    refine z_iast F (tk_12_20 k0) dX12_climbs_26 rfl hw (fun hw => ?_)
    refine z_nmM (fun M26 eM26 => ?_)
    have hw := hw M26 eM26
    refine z_iinc F dX12_climbs_27 rfl 1 rfl (by decide) rfl ?_
    refine z_goto F dX12_climbs_30 rfl ?_
    refine z_sub [1, 0] rfl ?_
    exact hK12 M26 (x2 + 1) hw
set_option maxRecDepth 100000 in
set_option maxHeartbeats 4000000 in
theorem lp_X12_climbs_12 {g : En} {p : Program} {l : Launch} {e : Env} {s : State} {m : MethodId} {args : Array Value} {below : List Frame} {meth : Method} {c : Code} {M : Mem} {a0 : Nat} {Q : Mem → Prop} {x2 : Int} (F : Fx g p s m args meth c cX12_climbs 6 RX12) (hr : meth.sig.returnType = none) (k0 : kd a0 = 12)
    (hw : wp_X12_climbs_L12 a0 Q M x2) : Z g p l e rm_X12_climbs s m args below meth c 6 (MQ below (va_Qv (S := Mem) Q (fun u => Rp g u) (aR g)) args s 0 0 (aR g)) M 12 [(0, .ref (g.2.2.1 + a0)), (2, .int (i3 x2))] [] := by
  obtain ⟨I, μ, h0, hb⟩ := hw
  have key : ∀ (n : Nat) (M : Mem) (x2 : Int), I M x2 → μ M x2 < n → Z g p l e rm_X12_climbs s m args below meth c 6 (MQ below (va_Qv (S := Mem) Q (fun u => Rp g u) (aR g)) args s 0 0 (aR g)) M 12 [(0, .ref (g.2.2.1 + a0)), (2, .int (i3 x2))] [] := by
    intro n
    induction n with
    | zero => exact fun _ _ _ h => absurd h (Nat.not_lt_zero _)
    | succ n ih =>
      intro M x2 hI hn
      exact bk_X12_climbs_B12 F hr k0 (fun M' x2' hk => ih M' x2' hk.1 (Nat.lt_of_lt_of_le hk.2 (Nat.le_of_lt_succ hn))) (hb M x2 hI)
  exact key _ M x2 h0 (Nat.lt_succ_self _)
set_option maxRecDepth 100000 in
set_option maxHeartbeats 4000000 in
theorem c_X12_climbs (l : Launch) (g : En) {a0 : Nat} {a1 : Int} {M : Mem} {Q : Mem → Prop} (k0 : kd a0 = 12) (hw : wp_X12_climbs a0 a1 M Q) :
    Met l yX12_climbs (WS yX12_climbs cX12_climbs 6 none) rm_X12_climbs (va_Pc [.ref (g.2.2.1 + a0), .int (i3 a1)] (Rp g M)) (va_Qv (S := Mem) Q (fun u => Rp g u) (aR g)) 0 0 (aR g) := by
  refine met_Z (plainFor_of_name rfl) (Nat.le_of_ble_eq_true rfl) ?_
  intro p e s m args below meth c F hr _
  show Z g p l e rm_X12_climbs s m args below meth c 6 (MQ below (va_Qv (S := Mem) Q (fun u => Rp g u) (aR g)) args s 0 0 (aR g)) M 0 [(0, .ref (g.2.2.1 + a0)), (1, .int (i3 a1))] []
  refine z_aload_n F dX12_climbs_0 rfl rfl 0 rfl ?_
  refine z_iload_n F dX12_climbs_1 rfl rfl 1 rfl ?_
  refine z_cVv (As := [.int (i3 a1)]) (st := []) F (c_X12_ranks l g k0 hw) cv_X12_ranks w_1206 ⟨rfl, rfl, Nat.le_of_ble_eq_true rfl, Nat.le_of_ble_eq_true rfl⟩ k0 rfl rfl (Nat.le_of_ble_eq_true rfl) dX12_climbs_2 rfl (fun M2 hw => ?_)
  refine z_aload_n F dX12_climbs_5 rfl rfl 0 rfl ?_
  refine z_iconst F dX12_climbs_6 rfl ?_
  refine z_putI F fp_1013 k0 dX12_climbs_7 rfl ?_
  refine z_nmM (fun M7 eM7 => ?_)
  have hw := hw M7 eM7
  refine z_iconst F dX12_climbs_10 rfl ?_
  refine z_istore_n F dX12_climbs_11 rfl rfl (by decide) rfl ?_
  refine z_sub [1, 0] rfl ?_
  exact lp_X12_climbs_12 F hr k0 hw
theorem cv_X12_climbs : CV yX12_climbs RX12 cX12_climbs 6 none 1 := ⟨w_1357, w_61, w_80, w_1358, rfl, by decide +kernel, by decide +kernel, by decide +kernel⟩
abbrev rm_X12_ladder : Room := { frames := 9, cells := 0, slots := 0, locals := 212 }
def wp_X12_ladder_B65 (a0 : Nat) (Q : Int → Mem → Prop) (K65 : Int → Int → Prop) (M : Mem) (x3 : Int) (x4 : Int) : Prop :=
  (((w32 (M a0 3) ≤ w32 x4) → (
    Q x3 M)) ∧
  (¬ (w32 (M a0 3) ≤ w32 x4) → (
    inb (rt a0 20) x4 ∧ (
    wp_X12_of a0 x4 1 M (fun r86 =>
    ∀ v91 : Int, v91 = (x3 + ((M (rt a0 20) (ix x4)) * r86)) →
    K65 v91 (x4 + 1))))))
def wp_X12_ladder_L65 (a0 : Nat) (Q : Int → Mem → Prop) (M : Mem) (x3 : Int) (x4 : Int) : Prop :=
  ∃ (I : Int → Int → Prop) (μ : Int → Int → Nat), I x3 x4 ∧ ∀ (x3 : Int) (x4 : Int), I x3 x4 →
    wp_X12_ladder_B65 a0 Q (fun x3' x4' => I x3' x4' ∧ μ x3' x4' < μ x3 x4) M x3 x4
def wp_X12_ladder_b31 (a0 : Nat) (Q : Int → Mem → Prop) (M : Mem) (x1 : Int) (x2 : Int) : Prop :=
  wp_X12_climbs a0 x1 M (fun M33 =>
  (((w32 10 ≤ w32 x2) → (
    (((¬ w32 x2 = w32 11) → (
      wp_X12_ladder_L65 a0 Q M33 0 0)) ∧
    (¬ (¬ w32 x2 = w32 11) → (
      Q (M33 a0 21) M33))))) ∧
  (¬ (w32 10 ≤ w32 x2) → (
    inb (rt a0 20) x2 ∧ (
    Q (M33 (rt a0 20) (ix x2)) M33)))))
def wp_X12_ladder (a0 : Nat) (a1 : Int) (a2 : Int) (M : Mem) (Q : Int → Mem → Prop) : Prop :=
  wp_X12_within a1 0 3 M (fun r3 =>
  ((r3 = false → (
    Q (-2) M)) ∧
  (r3 = true → (
    wp_X12_isBond a0 a2 M (fun r11 =>
    ((r11 = true → (
      wp_X12_ladder_b31 a0 Q M a1 a2)) ∧
    (r11 = false → (
      wp_X12_within a2 10 11 M (fun r22 =>
      ((r22 = true → (
        wp_X12_ladder_b31 a0 Q M a1 a2)) ∧
      (r22 = false → (
        Q (-2) M))))))))))))
set_option maxRecDepth 100000 in
set_option maxHeartbeats 4000000 in
theorem bk_X12_ladder_B65 {g : En} {p : Program} {l : Launch} {e : Env} {s : State} {m : MethodId} {args : Array Value} {below : List Frame} {meth : Method} {c : Code} {M : Mem} {a0 : Nat} {Q : Int → Mem → Prop} {K65 : Int → Int → Prop} {x3 : Int} {x4 : Int} (F : Fx g p s m args meth c cX12_ladder 5 RX12) (hr : meth.sig.returnType = (some .int)) (k0 : kd a0 = 12)
    (hK65 : ∀ (x3' : Int) (x4' : Int), K65 x3' x4' → Z g p l e rm_X12_ladder s m args below meth c 5 (MQ below (va_Qi (S := Int × Mem) (fun r u => r = i3 u.1 ∧ Q u.1 u.2) (fun u => Rp g u.2) (aR g)) args s 0 0 (aR g)) M 65 [(0, .ref (g.2.2.1 + a0)), (3, .int (i3 x3')), (4, .int (i3 x4'))] [])
    (hw : wp_X12_ladder_B65 a0 Q K65 M x3 x4) : Z g p l e rm_X12_ladder s m args below meth c 5 (MQ below (va_Qi (S := Int × Mem) (fun r u => r = i3 u.1 ∧ Q u.1 u.2) (fun u => Rp g u.2) (aR g)) args s 0 0 (aR g)) M 65 [(0, .ref (g.2.2.1 + a0)), (3, .int (i3 x3)), (4, .int (i3 x4))] [] := by
  refine z_iload F dX12_ladder_65 rfl 2 rfl ?_
  refine z_aload_n F dX12_ladder_67 rfl rfl 0 rfl ?_
  refine z_getI F fl_995 k0 dX12_ladder_68 rfl ?_
  refine z_icmp_ge F dX12_ladder_71 rfl rfl hw (fun hw => ?_) (fun hw => ?_)
  · refine z_iload_n F dX12_ladder_98 rfl rfl 1 rfl ?_
    exact z_iret (x := x3) F hr dX12_ladder_99 hw
  · refine z_iload_n F dX12_ladder_74 rfl rfl 1 rfl ?_
    refine z_aload_n F dX12_ladder_75 rfl rfl 0 rfl ?_
    refine z_getR F fl_1012 k0 dX12_ladder_76 rfl ?_
    refine z_iload F dX12_ladder_79 rfl 2 rfl ?_
    refine z_iald F (tk_12_20 k0) dX12_ladder_81 rfl hw (fun hw => ?_)
    refine z_aload_n F dX12_ladder_82 rfl rfl 0 rfl ?_
    refine z_iload F dX12_ladder_83 rfl 2 rfl ?_
    refine z_iconst F dX12_ladder_85 rfl ?_
    refine z_cVip (As := [.int (i3 x4), .int (i3 1)]) (st := [.int (i3 (M (rt a0 20) (ix x4))), .int (i3 x3)]) F (c_X12_of l g k0 hw) cv_X12_of w_1155 ⟨rfl, rfl, Nat.le_of_ble_eq_true rfl, Nat.le_of_ble_eq_true rfl⟩ k0 rfl rfl (Nat.le_of_ble_eq_true rfl) dX12_ladder_86 rfl (fun r86 hw => ?_)
    refine z_imul F dX12_ladder_89 rfl ?_
    refine z_iadd F dX12_ladder_90 rfl ?_
    refine z_nmI (fun v91 ev91 => ?_)
    have hw := hw v91 ev91
    refine z_istore_n F dX12_ladder_91 rfl rfl (by decide) rfl ?_
    refine z_iinc F dX12_ladder_92 rfl 2 rfl (by decide) rfl ?_
    refine z_goto F dX12_ladder_95 rfl ?_
    refine z_sub [2, 1, 0] rfl ?_
    exact hK65 v91 (x4 + 1) hw
set_option maxRecDepth 100000 in
set_option maxHeartbeats 4000000 in
theorem lp_X12_ladder_65 {g : En} {p : Program} {l : Launch} {e : Env} {s : State} {m : MethodId} {args : Array Value} {below : List Frame} {meth : Method} {c : Code} {M : Mem} {a0 : Nat} {Q : Int → Mem → Prop} {x3 : Int} {x4 : Int} (F : Fx g p s m args meth c cX12_ladder 5 RX12) (hr : meth.sig.returnType = (some .int)) (k0 : kd a0 = 12)
    (hw : wp_X12_ladder_L65 a0 Q M x3 x4) : Z g p l e rm_X12_ladder s m args below meth c 5 (MQ below (va_Qi (S := Int × Mem) (fun r u => r = i3 u.1 ∧ Q u.1 u.2) (fun u => Rp g u.2) (aR g)) args s 0 0 (aR g)) M 65 [(0, .ref (g.2.2.1 + a0)), (3, .int (i3 x3)), (4, .int (i3 x4))] [] := by
  obtain ⟨I, μ, h0, hb⟩ := hw
  have key : ∀ (n : Nat) (x3 : Int) (x4 : Int), I x3 x4 → μ x3 x4 < n → Z g p l e rm_X12_ladder s m args below meth c 5 (MQ below (va_Qi (S := Int × Mem) (fun r u => r = i3 u.1 ∧ Q u.1 u.2) (fun u => Rp g u.2) (aR g)) args s 0 0 (aR g)) M 65 [(0, .ref (g.2.2.1 + a0)), (3, .int (i3 x3)), (4, .int (i3 x4))] [] := by
    intro n
    induction n with
    | zero => exact fun _ _ _ h => absurd h (Nat.not_lt_zero _)
    | succ n ih =>
      intro x3 x4 hI hn
      exact bk_X12_ladder_B65 F hr k0 (fun x3' x4' hk => ih x3' x4' hk.1 (Nat.lt_of_lt_of_le hk.2 (Nat.le_of_lt_succ hn))) (hb x3 x4 hI)
  exact key _ x3 x4 h0 (Nat.lt_succ_self _)
set_option maxRecDepth 100000 in
set_option maxHeartbeats 4000000 in
theorem bk_X12_ladder_31 {g : En} {p : Program} {l : Launch} {e : Env} {s : State} {m : MethodId} {args : Array Value} {below : List Frame} {meth : Method} {c : Code} {M : Mem} {a0 : Nat} {Q : Int → Mem → Prop} {x1 : Int} {x2 : Int} (F : Fx g p s m args meth c cX12_ladder 5 RX12) (hr : meth.sig.returnType = (some .int)) (k0 : kd a0 = 12)
    (hw : wp_X12_ladder_b31 a0 Q M x1 x2) : Z g p l e rm_X12_ladder s m args below meth c 5 (MQ below (va_Qi (S := Int × Mem) (fun r u => r = i3 u.1 ∧ Q u.1 u.2) (fun u => Rp g u.2) (aR g)) args s 0 0 (aR g)) M 31 [(0, .ref (g.2.2.1 + a0)), (1, .int (i3 x1)), (2, .int (i3 x2))] [] := by
  refine z_aload_n F dX12_ladder_31 rfl rfl 0 rfl ?_
  refine z_iload_n F dX12_ladder_32 rfl rfl 1 rfl ?_
  refine z_cVv (As := [.int (i3 x1)]) (st := []) F (c_X12_climbs l g k0 hw) cv_X12_climbs w_1355 ⟨rfl, rfl, Nat.le_of_ble_eq_true rfl, Nat.le_of_ble_eq_true rfl⟩ k0 rfl rfl (Nat.le_of_ble_eq_true rfl) dX12_ladder_33 rfl (fun M33 hw => ?_)
  refine z_iload_n F dX12_ladder_36 rfl rfl 2 rfl ?_
  refine z_bipush F dX12_ladder_37 (by decide) rfl ?_
  refine z_icmp_ge F dX12_ladder_39 rfl rfl hw (fun hw => ?_) (fun hw => ?_)
  · refine z_iload_n F dX12_ladder_49 rfl rfl 2 rfl ?_
    refine z_bipush F dX12_ladder_50 (by decide) rfl ?_
    refine z_icmp_ne F dX12_ladder_52 rfl rfl hw (fun hw => ?_) (fun hw => ?_)
    · refine z_iconst F dX12_ladder_60 rfl ?_
      refine z_istore_n F dX12_ladder_61 rfl rfl (by decide) rfl ?_
      refine z_iconst F dX12_ladder_62 rfl ?_
      refine z_istore F dX12_ladder_63 rfl (by decide) rfl ?_
      refine z_sub [2, 1, 0] rfl ?_
      exact lp_X12_ladder_65 F hr k0 hw
    · refine z_aload_n F dX12_ladder_55 rfl rfl 0 rfl ?_
      refine z_getI F fl_1013 k0 dX12_ladder_56 rfl ?_
      exact z_iret (x := (M33 a0 21)) F hr dX12_ladder_59 hw
  · refine z_aload_n F dX12_ladder_42 rfl rfl 0 rfl ?_
    refine z_getR F fl_1012 k0 dX12_ladder_43 rfl ?_
    refine z_iload_n F dX12_ladder_46 rfl rfl 2 rfl ?_
    refine z_iald F (tk_12_20 k0) dX12_ladder_47 rfl hw (fun hw => ?_)
    exact z_iret (x := (M33 (rt a0 20) (ix x2))) F hr dX12_ladder_48 hw
set_option maxRecDepth 100000 in
set_option maxHeartbeats 4000000 in
theorem c_X12_ladder (l : Launch) (g : En) {a0 : Nat} {a1 : Int} {a2 : Int} {M : Mem} {Q : Int → Mem → Prop} (k0 : kd a0 = 12) (hw : wp_X12_ladder a0 a1 a2 M Q) :
    Met l yX12_ladder (WS yX12_ladder cX12_ladder 5 (some .int)) rm_X12_ladder (va_Pc [.ref (g.2.2.1 + a0), .int (i3 a1), .int (i3 a2)] (Rp g M)) (va_Qi (S := Int × Mem) (fun r u => r = i3 u.1 ∧ Q u.1 u.2) (fun u => Rp g u.2) (aR g)) 0 0 (aR g) := by
  refine met_Z (plainFor_of_name rfl) (Nat.le_of_ble_eq_true rfl) ?_
  intro p e s m args below meth c F hr _
  show Z g p l e rm_X12_ladder s m args below meth c 5 (MQ below (va_Qi (S := Int × Mem) (fun r u => r = i3 u.1 ∧ Q u.1 u.2) (fun u => Rp g u.2) (aR g)) args s 0 0 (aR g)) M 0 [(0, .ref (g.2.2.1 + a0)), (1, .int (i3 a1)), (2, .int (i3 a2))] []
  refine z_iload_n F dX12_ladder_0 rfl rfl 1 rfl ?_
  refine z_iconst F dX12_ladder_1 rfl ?_
  refine z_iconst F dX12_ladder_2 rfl ?_
  refine z_cSbp (As := [.int (i3 a1), .int (i3 0), .int (i3 3)]) (st := []) F (c_X12_within l g hw) cs_X12_within w_1102 ⟨rfl, rfl, Nat.le_of_ble_eq_true rfl, Nat.le_of_ble_eq_true rfl⟩ rfl (Nat.le_of_ble_eq_true rfl) dX12_ladder_3 rfl (fun r3 hw => ?_)
  refine z_ifb_eq F dX12_ladder_6 rfl rfl hw (fun hw => ?_) (fun hw => ?_)
  · refine z_bipush F dX12_ladder_28 (by decide) rfl ?_
    exact z_iret (x := (-2)) F hr dX12_ladder_30 hw
  · refine z_aload_n F dX12_ladder_9 rfl rfl 0 rfl ?_
    refine z_iload_n F dX12_ladder_10 rfl rfl 2 rfl ?_
    refine z_cVbp (As := [.int (i3 a2)]) (st := []) F (c_X12_isBond l g k0 hw) cv_X12_isBond w_1151 ⟨rfl, rfl, Nat.le_of_ble_eq_true rfl, Nat.le_of_ble_eq_true rfl⟩ k0 rfl rfl (Nat.le_of_ble_eq_true rfl) dX12_ladder_11 rfl (fun r11 hw => ?_)
    refine z_ifb_ne F dX12_ladder_14 rfl rfl hw (fun hw => ?_) (fun hw => ?_)
    · refine z_sub [0, 1, 2] rfl ?_
      exact bk_X12_ladder_31 F hr k0 hw
    · refine z_iload_n F dX12_ladder_17 rfl rfl 2 rfl ?_
      refine z_bipush F dX12_ladder_18 (by decide) rfl ?_
      refine z_bipush F dX12_ladder_20 (by decide) rfl ?_
      refine z_cSbp (As := [.int (i3 a2), .int (i3 10), .int (i3 11)]) (st := []) F (c_X12_within l g hw) cs_X12_within w_1102 ⟨rfl, rfl, Nat.le_of_ble_eq_true rfl, Nat.le_of_ble_eq_true rfl⟩ rfl (Nat.le_of_ble_eq_true rfl) dX12_ladder_22 rfl (fun r22 hw => ?_)
      refine z_ifb_ne F dX12_ladder_25 rfl rfl hw (fun hw => ?_) (fun hw => ?_)
      · refine z_sub [0, 1, 2] rfl ?_
        exact bk_X12_ladder_31 F hr k0 hw
      · refine z_bipush F dX12_ladder_28 (by decide) rfl ?_
        exact z_iret (x := (-2)) F hr dX12_ladder_30 hw
theorem cv_X12_ladder : CV yX12_ladder RX12 cX12_ladder 5 (some .int) 2 := ⟨w_1352, w_1353, w_80, w_1354, rfl, by decide +kernel, by decide +kernel, by decide +kernel⟩
abbrev rm_J9_max_f86c9 : Room := { frames := 0, cells := 0, slots := 0, locals := 0 }
def wp_J9_max_f86c9 (a0 : Int) (a1 : Int) (M : Mem) (Q : Int → Prop) : Prop :=
  (((w64 a0 < w64 a1) → (
    Q a1)) ∧
  (¬ (w64 a0 < w64 a1) → (
    Q a0)))
set_option maxRecDepth 100000 in
set_option maxHeartbeats 4000000 in
theorem c_J9_max_f86c9 (l : Launch) (g : En) {a0 : Int} {a1 : Int} {M : Mem} {Q : Int → Prop} (hw : wp_J9_max_f86c9 a0 a1 M Q) :
    Met l yJ9_max_f86c9 (WS yJ9_max_f86c9 cJ9_max_f86c9 4 (some .long)) rm_J9_max_f86c9 (va_Pc [.long (i6 a0), .long (i6 a1)] (Rp g M)) (va_Ql (S := Int × Mem) (fun r u => r = i6 u.1 ∧ (u.2 = M ∧ Q u.1)) (fun u => Rp g u.2) (aR g)) 0 0 (aR g) := by
  refine met_Z (by decide +kernel) (Nat.le_of_ble_eq_true rfl) ?_
  intro p e s m args below meth c F hr _
  show Z g p l e rm_J9_max_f86c9 s m args below meth c 4 (MQ below (va_Ql (S := Int × Mem) (fun r u => r = i6 u.1 ∧ (u.2 = M ∧ Q u.1)) (fun u => Rp g u.2) (aR g)) args s 0 0 (aR g)) M 0 [(0, .long (i6 a0)), (2, .long (i6 a1))] []
  refine z_lload_n F dJ9_max_f86c9_0 rfl rfl 0 rfl ?_
  refine z_lload_n F dJ9_max_f86c9_1 rfl rfl 1 rfl ?_
  refine z_lcmp_lt F dJ9_max_f86c9_2 rfl dJ9_max_f86c9_3 rfl rfl hw (fun hw => ?_) (fun hw => ?_)
  · refine z_lload_n F dJ9_max_f86c9_10 rfl rfl 1 rfl ?_
    exact z_lretp (x := a1) F hr dJ9_max_f86c9_11 hw
  · refine z_lload_n F dJ9_max_f86c9_6 rfl rfl 0 rfl ?_
    refine z_goto F dJ9_max_f86c9_7 rfl ?_
    exact z_lretp (x := a0) F hr dJ9_max_f86c9_11 hw
theorem cs_J9_max_f86c9 : CS yJ9_max_f86c9 cJ9_max_f86c9 4 (some .long) 2 := ⟨w_1371, w_82, w_1372, by decide +kernel, by decide +kernel, by decide +kernel⟩
abbrev rm_X12_plays : Room := { frames := 4, cells := 0, slots := 0, locals := 94 }
def wp_X12_plays_b259 (a0 : Nat) (Q : Int → Mem → Prop) (K28 : Mem → Int → Int → Int → Int → Int → Prop) (M : Mem) (x1 : Int) (x3 : Int) (x5 : Int) (x7 : Int) (x8 : Int) : Prop :=
  K28 M x1 x3 x5 x7 (x8 + 1)
def wp_X12_plays_b230 (a0 : Nat) (Q : Int → Mem → Prop) (K28 : Mem → Int → Int → Int → Int → Int → Prop) (M : Mem) (s0 : Int) (x1 : Int) (x3 : Int) (x5 : Int) (x7 : Int) (x8 : Int) : Prop :=
  ∀ M245 : Mem, M245 = st2 M a0 25 ((M a0 25) + s0) →
  inb (rt a0 23) x7 ∧ (
  ∀ M255 : Mem, M255 = st2 M245 (rt a0 23) (ix x7) (x1 - s0) →
  wp_X12_plays_b259 a0 Q K28 M255 (x1 - s0) x3 x5 (x7 + 1) x8)
def wp_X12_plays_b229 (a0 : Nat) (Q : Int → Mem → Prop) (K28 : Mem → Int → Int → Int → Int → Int → Prop) (M : Mem) (x1 : Int) (x3 : Int) (x5 : Int) (x7 : Int) (x8 : Int) : Prop :=
  wp_X12_plays_b230 a0 Q K28 M 0 x1 x3 x5 x7 x8
def wp_X12_plays_B40 (a0 : Nat) (Q : Int → Mem → Prop) (K40 : Int → Int → Prop) (K28 : Mem → Int → Int → Int → Int → Int → Prop) (M : Mem) (x1 : Int) (x3 : Int) (x5 : Int) (x7 : Int) (x8 : Int) (x9 : Int) : Prop :=
  (((w32 (M a0 3) ≤ w32 x9) → (
    inb (rt a0 6) x7 ∧ (
    (((w32 x8 = w32 (M (rt a0 6) (ix x7))) → (
      wp_X12_rateBy a0 x8 M (fun r97 =>
      w64 4 ≠ 0 ∧ (
      ∀ v109 : Int, v109 = (((w64 (x1 * (w32 (4 + r97)))).tdiv (w64 4)) - x1) →
      ∀ M119 : Mem, M119 = st2 M a0 26 ((M a0 26) + v109) →
      ∀ M129 : Mem, M129 = st2 M119 a0 27 ((M119 a0 27) + x3) →
      inb (rt a0 0) x8 ∧ (
      wp_J9_max_f86c9 0 ((w32 (M129 (rt a0 0) (ix x8))) - (x1 + (v109 + x3))) M129 (fun r158 =>
      inb (rt a0 24) x7 ∧ (
      ∀ M161 : Mem, M161 = st2 M129 (rt a0 24) (ix x7) r158 →
      inb (rt a0 0) x8 ∧ (
      wp_J9_max_f86c9 0 ((x1 + (v109 + x3)) - (w32 (M161 (rt a0 0) (ix x8)))) M161 (fun r173 =>
      inb (rt a0 24) x7 ∧ (
      ∀ v187 : Int, v187 = (x5 + (M161 (rt a0 24) (ix x7))) →
      (((w32 ((M161 a0 5) - 1) ≤ w32 x7) → (
        wp_X12_plays_b229 a0 Q K28 M161 r173 0 v187 x7 x8)) ∧
      (¬ (w32 ((M161 a0 5) - 1) ≤ w32 x7) → (
        inb (rt a0 2) x8 ∧ (
        (((w32 (M161 (rt a0 2) (ix x8)) ≤ 0) → (
          wp_X12_plays_b229 a0 Q K28 M161 r173 0 v187 x7 x8)) ∧
        (¬ (w32 (M161 (rt a0 2) (ix x8)) ≤ 0) → (
          inb (rt a0 2) x8 ∧ (
          wp_J9_max_f86c9 0 (r173 - (w32 ((M161 (rt a0 2) (ix x8)) - 1))) M161 (fun r223 =>
          wp_X12_plays_b230 a0 Q K28 M161 r223 r173 0 v187 x7 x8))))))))))))))))))) ∧
    (¬ (w32 x8 = w32 (M (rt a0 6) (ix x7))) → (
      wp_X12_plays_b259 a0 Q K28 M x1 x3 x5 x7 x8)))))) ∧
  (¬ (w32 (M a0 3) ≤ w32 x9) → (
    wp_X12_of a0 x9 6 M (fun r55 =>
    wp_X12_paysOn a0 x9 x8 M (fun r64 =>
    ∀ v70 : Int, v70 = (x3 + ((w32 r55) * (w32 r64))) →
    K40 v70 (x9 + 1))))))
def wp_X12_plays_L40 (a0 : Nat) (Q : Int → Mem → Prop) (K28 : Mem → Int → Int → Int → Int → Int → Prop) (M : Mem) (x1 : Int) (x3 : Int) (x5 : Int) (x7 : Int) (x8 : Int) (x9 : Int) : Prop :=
  ∃ (I : Int → Int → Prop) (μ : Int → Int → Nat), I x3 x9 ∧ ∀ (x3 : Int) (x9 : Int), I x3 x9 →
    wp_X12_plays_B40 a0 Q (fun x3' x9' => I x3' x9' ∧ μ x3' x9' < μ x3 x9) K28 M x1 x3 x5 x7 x8 x9
def wp_X12_plays_B28 (a0 : Nat) (Q : Int → Mem → Prop) (K28 : Mem → Int → Int → Int → Int → Int → Prop) (M : Mem) (x1 : Int) (x3 : Int) (x5 : Int) (x7 : Int) (x8 : Int) : Prop :=
  (((w32 (M a0 5) ≤ w32 x7) → (
    Q x5 M)) ∧
  (¬ (w32 (M a0 5) ≤ w32 x7) → (
    wp_X12_plays_L40 a0 Q K28 M x1 x3 x5 x7 x8 0)))
def wp_X12_plays_L28 (a0 : Nat) (Q : Int → Mem → Prop) (M : Mem) (x1 : Int) (x3 : Int) (x5 : Int) (x7 : Int) (x8 : Int) : Prop :=
  ∃ (I : Mem → Int → Int → Int → Int → Int → Prop) (μ : Mem → Int → Int → Int → Int → Int → Nat), I M x1 x3 x5 x7 x8 ∧ ∀ (M : Mem) (x1 : Int) (x3 : Int) (x5 : Int) (x7 : Int) (x8 : Int), I M x1 x3 x5 x7 x8 →
    wp_X12_plays_B28 a0 Q (fun M' x1' x3' x5' x7' x8' => I M' x1' x3' x5' x7' x8' ∧ μ M' x1' x3' x5' x7' x8' < μ M x1 x3 x5 x7 x8) M x1 x3 x5 x7 x8
def wp_X12_plays (a0 : Nat) (M : Mem) (Q : Int → Mem → Prop) : Prop :=
  ∀ M2 : Mem, M2 = st2 M a0 25 0 →
  ∀ M7 : Mem, M7 = st2 M2 a0 26 0 →
  ∀ M12 : Mem, M12 = st2 M7 a0 27 0 →
  wp_X12_plays_L28 a0 Q M12 0 0 0 0 1
set_option maxRecDepth 100000 in
set_option maxHeartbeats 4000000 in
theorem bk_X12_plays_259 {g : En} {p : Program} {l : Launch} {e : Env} {s : State} {m : MethodId} {args : Array Value} {below : List Frame} {meth : Method} {c : Code} {M : Mem} {a0 : Nat} {Q : Int → Mem → Prop} {K28 : Mem → Int → Int → Int → Int → Int → Prop} {x1 : Int} {x3 : Int} {x5 : Int} {x7 : Int} {x8 : Int} (F : Fx g p s m args meth c cX12_plays 13 RX12) (hr : meth.sig.returnType = (some .long)) (k0 : kd a0 = 12)
    (hK28 : ∀ (M' : Mem) (x1' : Int) (x3' : Int) (x5' : Int) (x7' : Int) (x8' : Int), K28 M' x1' x3' x5' x7' x8' → Z g p l e rm_X12_plays s m args below meth c 13 (MQ below (va_Ql (S := Int × Mem) (fun r u => r = i6 u.1 ∧ Q u.1 u.2) (fun u => Rp g u.2) (aR g)) args s 0 0 (aR g)) M' 28 [(0, .ref (g.2.2.1 + a0)), (1, .long (i6 x1')), (3, .long (i6 x3')), (5, .long (i6 x5')), (7, .int (i3 x7')), (8, .int (i3 x8'))] [])
    (hw : wp_X12_plays_b259 a0 Q K28 M x1 x3 x5 x7 x8) : Z g p l e rm_X12_plays s m args below meth c 13 (MQ below (va_Ql (S := Int × Mem) (fun r u => r = i6 u.1 ∧ Q u.1 u.2) (fun u => Rp g u.2) (aR g)) args s 0 0 (aR g)) M 259 [(0, .ref (g.2.2.1 + a0)), (1, .long (i6 x1)), (3, .long (i6 x3)), (5, .long (i6 x5)), (7, .int (i3 x7)), (8, .int (i3 x8))] [] := by
  refine z_iinc F dX12_plays_259 rfl 5 rfl (by decide) rfl ?_
  refine z_goto F dX12_plays_262 rfl ?_
  refine z_sub [1, 2, 3, 4, 5, 0] rfl ?_
  exact hK28 M x1 x3 x5 x7 (x8 + 1) hw
set_option maxRecDepth 100000 in
set_option maxHeartbeats 4000000 in
theorem bk_X12_plays_230 {g : En} {p : Program} {l : Launch} {e : Env} {s : State} {m : MethodId} {args : Array Value} {below : List Frame} {meth : Method} {c : Code} {M : Mem} {a0 : Nat} {Q : Int → Mem → Prop} {K28 : Mem → Int → Int → Int → Int → Int → Prop} {s0 : Int} {x1 : Int} {x3 : Int} {x5 : Int} {x7 : Int} {x8 : Int} (F : Fx g p s m args meth c cX12_plays 13 RX12) (hr : meth.sig.returnType = (some .long)) (k0 : kd a0 = 12)
    (hK28 : ∀ (M' : Mem) (x1' : Int) (x3' : Int) (x5' : Int) (x7' : Int) (x8' : Int), K28 M' x1' x3' x5' x7' x8' → Z g p l e rm_X12_plays s m args below meth c 13 (MQ below (va_Ql (S := Int × Mem) (fun r u => r = i6 u.1 ∧ Q u.1 u.2) (fun u => Rp g u.2) (aR g)) args s 0 0 (aR g)) M' 28 [(0, .ref (g.2.2.1 + a0)), (1, .long (i6 x1')), (3, .long (i6 x3')), (5, .long (i6 x5')), (7, .int (i3 x7')), (8, .int (i3 x8'))] [])
    (hw : wp_X12_plays_b230 a0 Q K28 M s0 x1 x3 x5 x7 x8) : Z g p l e rm_X12_plays s m args below meth c 13 (MQ below (va_Ql (S := Int × Mem) (fun r u => r = i6 u.1 ∧ Q u.1 u.2) (fun u => Rp g u.2) (aR g)) args s 0 0 (aR g)) M 230 [(0, .ref (g.2.2.1 + a0)), (1, .long (i6 x1)), (3, .long (i6 x3)), (5, .long (i6 x5)), (7, .int (i3 x7)), (8, .int (i3 x8))] [.long (i6 s0)] := by
  refine z_lstore F dX12_plays_230 rfl (by decide) rfl ?_
  refine z_lload_n F dX12_plays_232 rfl rfl 2 rfl ?_
  refine z_lload F dX12_plays_233 rfl 0 rfl ?_
  refine z_lsub F dX12_plays_235 rfl ?_
  refine z_lstore_n F dX12_plays_236 rfl rfl (by decide) rfl ?_
  refine z_aload_n F dX12_plays_237 rfl rfl 2 rfl ?_
  refine z_dup F rfl dX12_plays_238 rfl ?_
  refine z_getL F fl_1017 k0 dX12_plays_239 rfl ?_
  refine z_lload F dX12_plays_242 rfl 1 rfl ?_
  refine z_ladd F dX12_plays_244 rfl ?_
  refine z_putL F fp_1017 k0 dX12_plays_245 rfl ?_
  refine z_nmM (fun M245 eM245 => ?_)
  have hw := hw M245 eM245
  refine z_aload_n F dX12_plays_248 rfl rfl 2 rfl ?_
  refine z_getR F fl_1015 k0 dX12_plays_249 rfl ?_
  refine z_iload F dX12_plays_252 rfl 5 rfl ?_
  refine z_lload_n F dX12_plays_254 rfl rfl 0 rfl ?_
  refine z_last F (tk_12_23 k0) dX12_plays_255 rfl hw (fun hw => ?_)
  refine z_nmM (fun M255 eM255 => ?_)
  have hw := hw M255 eM255
  refine z_iinc F dX12_plays_256 rfl 5 rfl (by decide) rfl ?_
  refine z_sub [3, 1, 4, 5, 0, 6] rfl ?_
  exact bk_X12_plays_259 F hr k0 hK28 hw
set_option maxRecDepth 100000 in
set_option maxHeartbeats 4000000 in
theorem bk_X12_plays_229 {g : En} {p : Program} {l : Launch} {e : Env} {s : State} {m : MethodId} {args : Array Value} {below : List Frame} {meth : Method} {c : Code} {M : Mem} {a0 : Nat} {Q : Int → Mem → Prop} {K28 : Mem → Int → Int → Int → Int → Int → Prop} {x1 : Int} {x3 : Int} {x5 : Int} {x7 : Int} {x8 : Int} (F : Fx g p s m args meth c cX12_plays 13 RX12) (hr : meth.sig.returnType = (some .long)) (k0 : kd a0 = 12)
    (hK28 : ∀ (M' : Mem) (x1' : Int) (x3' : Int) (x5' : Int) (x7' : Int) (x8' : Int), K28 M' x1' x3' x5' x7' x8' → Z g p l e rm_X12_plays s m args below meth c 13 (MQ below (va_Ql (S := Int × Mem) (fun r u => r = i6 u.1 ∧ Q u.1 u.2) (fun u => Rp g u.2) (aR g)) args s 0 0 (aR g)) M' 28 [(0, .ref (g.2.2.1 + a0)), (1, .long (i6 x1')), (3, .long (i6 x3')), (5, .long (i6 x5')), (7, .int (i3 x7')), (8, .int (i3 x8'))] [])
    (hw : wp_X12_plays_b229 a0 Q K28 M x1 x3 x5 x7 x8) : Z g p l e rm_X12_plays s m args below meth c 13 (MQ below (va_Ql (S := Int × Mem) (fun r u => r = i6 u.1 ∧ Q u.1 u.2) (fun u => Rp g u.2) (aR g)) args s 0 0 (aR g)) M 229 [(0, .ref (g.2.2.1 + a0)), (1, .long (i6 x1)), (3, .long (i6 x3)), (5, .long (i6 x5)), (7, .int (i3 x7)), (8, .int (i3 x8))] [] := by
  refine z_lconst (v := 0) F dX12_plays_229 rfl rfl ?_
  refine z_sub [0, 1, 2, 3, 4, 5] rfl ?_
  exact bk_X12_plays_230 F hr k0 hK28 hw
set_option maxRecDepth 100000 in
set_option maxHeartbeats 4000000 in
theorem bk_X12_plays_B40 {g : En} {p : Program} {l : Launch} {e : Env} {s : State} {m : MethodId} {args : Array Value} {below : List Frame} {meth : Method} {c : Code} {M : Mem} {a0 : Nat} {Q : Int → Mem → Prop} {K40 : Int → Int → Prop} {K28 : Mem → Int → Int → Int → Int → Int → Prop} {x1 : Int} {x3 : Int} {x5 : Int} {x7 : Int} {x8 : Int} {x9 : Int} (F : Fx g p s m args meth c cX12_plays 13 RX12) (hr : meth.sig.returnType = (some .long)) (k0 : kd a0 = 12)
    (hK40 : ∀ (x3' : Int) (x9' : Int), K40 x3' x9' → Z g p l e rm_X12_plays s m args below meth c 13 (MQ below (va_Ql (S := Int × Mem) (fun r u => r = i6 u.1 ∧ Q u.1 u.2) (fun u => Rp g u.2) (aR g)) args s 0 0 (aR g)) M 40 [(0, .ref (g.2.2.1 + a0)), (1, .long (i6 x1)), (3, .long (i6 x3')), (5, .long (i6 x5)), (7, .int (i3 x7)), (8, .int (i3 x8)), (9, .int (i3 x9'))] [])
    (hK28 : ∀ (M' : Mem) (x1' : Int) (x3' : Int) (x5' : Int) (x7' : Int) (x8' : Int), K28 M' x1' x3' x5' x7' x8' → Z g p l e rm_X12_plays s m args below meth c 13 (MQ below (va_Ql (S := Int × Mem) (fun r u => r = i6 u.1 ∧ Q u.1 u.2) (fun u => Rp g u.2) (aR g)) args s 0 0 (aR g)) M' 28 [(0, .ref (g.2.2.1 + a0)), (1, .long (i6 x1')), (3, .long (i6 x3')), (5, .long (i6 x5')), (7, .int (i3 x7')), (8, .int (i3 x8'))] [])
    (hw : wp_X12_plays_B40 a0 Q K40 K28 M x1 x3 x5 x7 x8 x9) : Z g p l e rm_X12_plays s m args below meth c 13 (MQ below (va_Ql (S := Int × Mem) (fun r u => r = i6 u.1 ∧ Q u.1 u.2) (fun u => Rp g u.2) (aR g)) args s 0 0 (aR g)) M 40 [(0, .ref (g.2.2.1 + a0)), (1, .long (i6 x1)), (3, .long (i6 x3)), (5, .long (i6 x5)), (7, .int (i3 x7)), (8, .int (i3 x8)), (9, .int (i3 x9))] [] := by
  refine z_iload F dX12_plays_40 rfl 6 rfl ?_
  refine z_aload_n F dX12_plays_42 rfl rfl 0 rfl ?_
  refine z_getI F fl_995 k0 dX12_plays_43 rfl ?_
  refine z_icmp_ge F dX12_plays_46 rfl rfl hw (fun hw => ?_) (fun hw => ?_)
  · refine z_iload F dX12_plays_77 rfl 5 rfl ?_
    refine z_aload_n F dX12_plays_79 rfl rfl 0 rfl ?_
    refine z_getR F fl_998 k0 dX12_plays_80 rfl ?_
    refine z_iload F dX12_plays_83 rfl 4 rfl ?_
    refine z_iald F (tk_12_6 k0) dX12_plays_85 rfl hw (fun hw => ?_)
    refine z_icmp_eq F dX12_plays_86 rfl rfl hw (fun hw => ?_) (fun hw => ?_)
    · refine z_lload_n F dX12_plays_92 rfl rfl 1 rfl ?_
      refine z_iconst F dX12_plays_93 rfl ?_
      refine z_aload_n F dX12_plays_94 rfl rfl 0 rfl ?_
      refine z_iload F dX12_plays_95 rfl 5 rfl ?_
      refine z_cVip (As := [.int (i3 x8)]) (st := [.int (i3 4), .long (i6 x1)]) F (c_X12_rateBy l g k0 hw) cv_X12_rateBy w_1175 ⟨rfl, rfl, Nat.le_of_ble_eq_true rfl, Nat.le_of_ble_eq_true rfl⟩ k0 rfl rfl (Nat.le_of_ble_eq_true rfl) dX12_plays_97 rfl (fun r97 hw => ?_)
      refine z_iadd F dX12_plays_100 rfl ?_
      refine z_i2l F dX12_plays_101 rfl ?_
      refine z_lmul F dX12_plays_102 rfl ?_
      refine z_ldc2 (n := 4) F w_1243 (by decide) dX12_plays_103 rfl ?_
      refine z_ldiv F dX12_plays_106 rfl hw (fun hw => ?_)
      refine z_lload_n F dX12_plays_107 rfl rfl 1 rfl ?_
      refine z_lsub F dX12_plays_108 rfl ?_
      refine z_nmL (fun v109 ev109 => ?_)
      have hw := hw v109 ev109
      refine z_lstore F dX12_plays_109 rfl (by decide) rfl ?_
      refine z_aload_n F dX12_plays_111 rfl rfl 1 rfl ?_
      refine z_dup F rfl dX12_plays_112 rfl ?_
      refine z_getL F fl_1018 k0 dX12_plays_113 rfl ?_
      refine z_lload F dX12_plays_116 rfl 0 rfl ?_
      refine z_ladd F dX12_plays_118 rfl ?_
      refine z_putL F fp_1018 k0 dX12_plays_119 rfl ?_
      refine z_nmM (fun M119 eM119 => ?_)
      have hw := hw M119 eM119
      refine z_aload_n F dX12_plays_122 rfl rfl 1 rfl ?_
      refine z_dup F rfl dX12_plays_123 rfl ?_
      refine z_getL F fl_1019 k0 dX12_plays_124 rfl ?_
      refine z_lload_n F dX12_plays_127 rfl rfl 3 rfl ?_
      refine z_ladd F dX12_plays_128 rfl ?_
      refine z_putL F fp_1019 k0 dX12_plays_129 rfl ?_
      refine z_nmM (fun M129 eM129 => ?_)
      have hw := hw M129 eM129
      refine z_lload_n F dX12_plays_132 rfl rfl 2 rfl ?_
      refine z_lload F dX12_plays_133 rfl 0 rfl ?_
      refine z_lload_n F dX12_plays_135 rfl rfl 3 rfl ?_
      refine z_ladd F dX12_plays_136 rfl ?_
      refine z_ladd F dX12_plays_137 rfl ?_
      refine z_lstore_n F dX12_plays_138 rfl rfl (by decide) rfl ?_
      refine z_lconst (v := 0) F dX12_plays_139 rfl rfl ?_
      refine z_lstore_n F dX12_plays_140 rfl rfl (by decide) rfl ?_
      refine z_aload_n F dX12_plays_141 rfl rfl 3 rfl ?_
      refine z_getR F fl_1016 k0 dX12_plays_142 rfl ?_
      refine z_iload F dX12_plays_145 rfl 5 rfl ?_
      refine z_lconst (v := 0) F dX12_plays_147 rfl rfl ?_
      refine z_aload_n F dX12_plays_148 rfl rfl 3 rfl ?_
      refine z_getR F fl_992 k0 dX12_plays_149 rfl ?_
      refine z_iload F dX12_plays_152 rfl 6 rfl ?_
      refine z_iald F (tk_12_0 k0) dX12_plays_154 rfl hw (fun hw => ?_)
      refine z_i2l F dX12_plays_155 rfl ?_
      refine z_lload_n F dX12_plays_156 rfl rfl 1 rfl ?_
      refine z_lsub F dX12_plays_157 rfl ?_
      refine z_cSlp (As := [.long (i6 0), .long (i6 ((w32 (M129 (rt a0 0) (ix x8))) - (x1 + (v109 + x3))))]) (st := [.int (i3 x7), .ref (g.2.2.1 + (rt a0 24))]) F (c_J9_max_f86c9 l g hw) cs_J9_max_f86c9 w_1370 ⟨rfl, rfl, Nat.le_of_ble_eq_true rfl, Nat.le_of_ble_eq_true rfl⟩ rfl (Nat.le_of_ble_eq_true rfl) dX12_plays_158 rfl (fun r158 hw => ?_)
      refine z_last F (tk_12_24 k0) dX12_plays_161 rfl hw (fun hw => ?_)
      refine z_nmM (fun M161 eM161 => ?_)
      have hw := hw M161 eM161
      refine z_lconst (v := 0) F dX12_plays_162 rfl rfl ?_
      refine z_lload_n F dX12_plays_163 rfl rfl 1 rfl ?_
      refine z_aload_n F dX12_plays_164 rfl rfl 3 rfl ?_
      refine z_getR F fl_992 k0 dX12_plays_165 rfl ?_
      refine z_iload F dX12_plays_168 rfl 6 rfl ?_
      refine z_iald F (tk_12_0 k0) dX12_plays_170 rfl hw (fun hw => ?_)
      refine z_i2l F dX12_plays_171 rfl ?_
      refine z_lsub F dX12_plays_172 rfl ?_
      refine z_cSlp (As := [.long (i6 0), .long (i6 ((x1 + (v109 + x3)) - (w32 (M161 (rt a0 0) (ix x8)))))]) (st := []) F (c_J9_max_f86c9 l g hw) cs_J9_max_f86c9 w_1370 ⟨rfl, rfl, Nat.le_of_ble_eq_true rfl, Nat.le_of_ble_eq_true rfl⟩ rfl (Nat.le_of_ble_eq_true rfl) dX12_plays_173 rfl (fun r173 hw => ?_)
      refine z_lstore_n F dX12_plays_176 rfl rfl (by decide) rfl ?_
      refine z_lload F dX12_plays_177 rfl 4 rfl ?_
      refine z_aload_n F dX12_plays_179 rfl rfl 3 rfl ?_
      refine z_getR F fl_1016 k0 dX12_plays_180 rfl ?_
      refine z_iload F dX12_plays_183 rfl 5 rfl ?_
      refine z_lald F (tk_12_24 k0) dX12_plays_185 rfl hw (fun hw => ?_)
      refine z_ladd F dX12_plays_186 rfl ?_
      refine z_nmL (fun v187 ev187 => ?_)
      have hw := hw v187 ev187
      refine z_lstore F dX12_plays_187 rfl (by decide) rfl ?_
      refine z_iload F dX12_plays_189 rfl 5 rfl ?_
      refine z_aload_n F dX12_plays_191 rfl rfl 4 rfl ?_
      refine z_getI F fl_997 k0 dX12_plays_192 rfl ?_
      refine z_iconst F dX12_plays_195 rfl ?_
      refine z_isub F dX12_plays_196 rfl ?_
      refine z_icmp_ge F dX12_plays_197 rfl rfl hw (fun hw => ?_) (fun hw => ?_)
      · refine z_sub [4, 1, 2, 0, 5, 6] rfl ?_
        exact bk_X12_plays_229 F hr k0 hK28 hw
      · refine z_aload_n F dX12_plays_200 rfl rfl 4 rfl ?_
        refine z_getR F fl_994 k0 dX12_plays_201 rfl ?_
        refine z_iload F dX12_plays_204 rfl 6 rfl ?_
        refine z_iald F (tk_12_2 k0) dX12_plays_206 rfl hw (fun hw => ?_)
        refine z_if_le F dX12_plays_207 rfl rfl hw (fun hw => ?_) (fun hw => ?_)
        · refine z_sub [4, 1, 2, 0, 5, 6] rfl ?_
          exact bk_X12_plays_229 F hr k0 hK28 hw
        · refine z_lconst (v := 0) F dX12_plays_210 rfl rfl ?_
          refine z_lload_n F dX12_plays_211 rfl rfl 1 rfl ?_
          refine z_aload_n F dX12_plays_212 rfl rfl 4 rfl ?_
          refine z_getR F fl_994 k0 dX12_plays_213 rfl ?_
          refine z_iload F dX12_plays_216 rfl 6 rfl ?_
          refine z_iald F (tk_12_2 k0) dX12_plays_218 rfl hw (fun hw => ?_)
          refine z_iconst F dX12_plays_219 rfl ?_
          refine z_isub F dX12_plays_220 rfl ?_
          refine z_i2l F dX12_plays_221 rfl ?_
          refine z_lsub F dX12_plays_222 rfl ?_
          refine z_cSlp (As := [.long (i6 0), .long (i6 (r173 - (w32 ((M161 (rt a0 2) (ix x8)) - 1))))]) (st := []) F (c_J9_max_f86c9 l g hw) cs_J9_max_f86c9 w_1370 ⟨rfl, rfl, Nat.le_of_ble_eq_true rfl, Nat.le_of_ble_eq_true rfl⟩ rfl (Nat.le_of_ble_eq_true rfl) dX12_plays_223 rfl (fun r223 hw => ?_)
          refine z_goto F dX12_plays_226 rfl ?_
          refine z_sub [4, 1, 2, 0, 5, 6] rfl ?_
          exact bk_X12_plays_230 F hr k0 hK28 hw
    · refine z_goto F dX12_plays_89 rfl ?_
      refine z_sub [0, 1, 2, 3, 4, 5] rfl ?_
      exact bk_X12_plays_259 F hr k0 hK28 hw
  · refine z_lload_n F dX12_plays_49 rfl rfl 2 rfl ?_
    refine z_aload_n F dX12_plays_50 rfl rfl 0 rfl ?_
    refine z_iload F dX12_plays_51 rfl 6 rfl ?_
    refine z_bipush F dX12_plays_53 (by decide) rfl ?_
    refine z_cVip (As := [.int (i3 x9), .int (i3 6)]) (st := [.long (i6 x3)]) F (c_X12_of l g k0 hw) cv_X12_of w_1155 ⟨rfl, rfl, Nat.le_of_ble_eq_true rfl, Nat.le_of_ble_eq_true rfl⟩ k0 rfl rfl (Nat.le_of_ble_eq_true rfl) dX12_plays_55 rfl (fun r55 hw => ?_)
    refine z_i2l F dX12_plays_58 rfl ?_
    refine z_aload_n F dX12_plays_59 rfl rfl 0 rfl ?_
    refine z_iload F dX12_plays_60 rfl 6 rfl ?_
    refine z_iload F dX12_plays_62 rfl 5 rfl ?_
    refine z_cVip (As := [.int (i3 x9), .int (i3 x8)]) (st := [.long (i6 (w32 r55)), .long (i6 x3)]) F (c_X12_paysOn l g k0 hw) cv_X12_paysOn w_1171 ⟨rfl, rfl, Nat.le_of_ble_eq_true rfl, Nat.le_of_ble_eq_true rfl⟩ k0 rfl rfl (Nat.le_of_ble_eq_true rfl) dX12_plays_64 rfl (fun r64 hw => ?_)
    refine z_i2l F dX12_plays_67 rfl ?_
    refine z_lmul F dX12_plays_68 rfl ?_
    refine z_ladd F dX12_plays_69 rfl ?_
    refine z_nmL (fun v70 ev70 => ?_)
    have hw := hw v70 ev70
    refine z_lstore_n F dX12_plays_70 rfl rfl (by decide) rfl ?_
    refine z_iinc F dX12_plays_71 rfl 6 rfl (by decide) rfl ?_
    refine z_goto F dX12_plays_74 rfl ?_
    refine z_sub [2, 3, 1, 4, 5, 6, 0] rfl ?_
    exact hK40 v70 (x9 + 1) hw
set_option maxRecDepth 100000 in
set_option maxHeartbeats 4000000 in
theorem lp_X12_plays_40 {g : En} {p : Program} {l : Launch} {e : Env} {s : State} {m : MethodId} {args : Array Value} {below : List Frame} {meth : Method} {c : Code} {M : Mem} {a0 : Nat} {Q : Int → Mem → Prop} {K28 : Mem → Int → Int → Int → Int → Int → Prop} {x1 : Int} {x3 : Int} {x5 : Int} {x7 : Int} {x8 : Int} {x9 : Int} (F : Fx g p s m args meth c cX12_plays 13 RX12) (hr : meth.sig.returnType = (some .long)) (k0 : kd a0 = 12)
    (hK28 : ∀ (M' : Mem) (x1' : Int) (x3' : Int) (x5' : Int) (x7' : Int) (x8' : Int), K28 M' x1' x3' x5' x7' x8' → Z g p l e rm_X12_plays s m args below meth c 13 (MQ below (va_Ql (S := Int × Mem) (fun r u => r = i6 u.1 ∧ Q u.1 u.2) (fun u => Rp g u.2) (aR g)) args s 0 0 (aR g)) M' 28 [(0, .ref (g.2.2.1 + a0)), (1, .long (i6 x1')), (3, .long (i6 x3')), (5, .long (i6 x5')), (7, .int (i3 x7')), (8, .int (i3 x8'))] [])
    (hw : wp_X12_plays_L40 a0 Q K28 M x1 x3 x5 x7 x8 x9) : Z g p l e rm_X12_plays s m args below meth c 13 (MQ below (va_Ql (S := Int × Mem) (fun r u => r = i6 u.1 ∧ Q u.1 u.2) (fun u => Rp g u.2) (aR g)) args s 0 0 (aR g)) M 40 [(0, .ref (g.2.2.1 + a0)), (1, .long (i6 x1)), (3, .long (i6 x3)), (5, .long (i6 x5)), (7, .int (i3 x7)), (8, .int (i3 x8)), (9, .int (i3 x9))] [] := by
  obtain ⟨I, μ, h0, hb⟩ := hw
  have key : ∀ (n : Nat) (x3 : Int) (x9 : Int), I x3 x9 → μ x3 x9 < n → Z g p l e rm_X12_plays s m args below meth c 13 (MQ below (va_Ql (S := Int × Mem) (fun r u => r = i6 u.1 ∧ Q u.1 u.2) (fun u => Rp g u.2) (aR g)) args s 0 0 (aR g)) M 40 [(0, .ref (g.2.2.1 + a0)), (1, .long (i6 x1)), (3, .long (i6 x3)), (5, .long (i6 x5)), (7, .int (i3 x7)), (8, .int (i3 x8)), (9, .int (i3 x9))] [] := by
    intro n
    induction n with
    | zero => exact fun _ _ _ h => absurd h (Nat.not_lt_zero _)
    | succ n ih =>
      intro x3 x9 hI hn
      exact bk_X12_plays_B40 F hr k0 (fun x3' x9' hk => ih x3' x9' hk.1 (Nat.lt_of_lt_of_le hk.2 (Nat.le_of_lt_succ hn))) hK28 (hb x3 x9 hI)
  exact key _ x3 x9 h0 (Nat.lt_succ_self _)
set_option maxRecDepth 100000 in
set_option maxHeartbeats 4000000 in
theorem bk_X12_plays_B28 {g : En} {p : Program} {l : Launch} {e : Env} {s : State} {m : MethodId} {args : Array Value} {below : List Frame} {meth : Method} {c : Code} {M : Mem} {a0 : Nat} {Q : Int → Mem → Prop} {K28 : Mem → Int → Int → Int → Int → Int → Prop} {x1 : Int} {x3 : Int} {x5 : Int} {x7 : Int} {x8 : Int} (F : Fx g p s m args meth c cX12_plays 13 RX12) (hr : meth.sig.returnType = (some .long)) (k0 : kd a0 = 12)
    (hK28 : ∀ (M' : Mem) (x1' : Int) (x3' : Int) (x5' : Int) (x7' : Int) (x8' : Int), K28 M' x1' x3' x5' x7' x8' → Z g p l e rm_X12_plays s m args below meth c 13 (MQ below (va_Ql (S := Int × Mem) (fun r u => r = i6 u.1 ∧ Q u.1 u.2) (fun u => Rp g u.2) (aR g)) args s 0 0 (aR g)) M' 28 [(0, .ref (g.2.2.1 + a0)), (1, .long (i6 x1')), (3, .long (i6 x3')), (5, .long (i6 x5')), (7, .int (i3 x7')), (8, .int (i3 x8'))] [])
    (hw : wp_X12_plays_B28 a0 Q K28 M x1 x3 x5 x7 x8) : Z g p l e rm_X12_plays s m args below meth c 13 (MQ below (va_Ql (S := Int × Mem) (fun r u => r = i6 u.1 ∧ Q u.1 u.2) (fun u => Rp g u.2) (aR g)) args s 0 0 (aR g)) M 28 [(0, .ref (g.2.2.1 + a0)), (1, .long (i6 x1)), (3, .long (i6 x3)), (5, .long (i6 x5)), (7, .int (i3 x7)), (8, .int (i3 x8))] [] := by
  refine z_iload F dX12_plays_28 rfl 4 rfl ?_
  refine z_aload_n F dX12_plays_30 rfl rfl 0 rfl ?_
  refine z_getI F fl_997 k0 dX12_plays_31 rfl ?_
  refine z_icmp_ge F dX12_plays_34 rfl rfl hw (fun hw => ?_) (fun hw => ?_)
  · refine z_lload F dX12_plays_265 rfl 3 rfl ?_
    exact z_lret (x := x5) F hr dX12_plays_267 hw
  · refine z_iconst F dX12_plays_37 rfl ?_
    refine z_istore F dX12_plays_38 rfl (by decide) rfl ?_
    refine z_sub [1, 2, 3, 4, 5, 6, 0] rfl ?_
    exact lp_X12_plays_40 F hr k0 hK28 hw
set_option maxRecDepth 100000 in
set_option maxHeartbeats 4000000 in
theorem lp_X12_plays_28 {g : En} {p : Program} {l : Launch} {e : Env} {s : State} {m : MethodId} {args : Array Value} {below : List Frame} {meth : Method} {c : Code} {M : Mem} {a0 : Nat} {Q : Int → Mem → Prop} {x1 : Int} {x3 : Int} {x5 : Int} {x7 : Int} {x8 : Int} (F : Fx g p s m args meth c cX12_plays 13 RX12) (hr : meth.sig.returnType = (some .long)) (k0 : kd a0 = 12)
    (hw : wp_X12_plays_L28 a0 Q M x1 x3 x5 x7 x8) : Z g p l e rm_X12_plays s m args below meth c 13 (MQ below (va_Ql (S := Int × Mem) (fun r u => r = i6 u.1 ∧ Q u.1 u.2) (fun u => Rp g u.2) (aR g)) args s 0 0 (aR g)) M 28 [(0, .ref (g.2.2.1 + a0)), (1, .long (i6 x1)), (3, .long (i6 x3)), (5, .long (i6 x5)), (7, .int (i3 x7)), (8, .int (i3 x8))] [] := by
  obtain ⟨I, μ, h0, hb⟩ := hw
  have key : ∀ (n : Nat) (M : Mem) (x1 : Int) (x3 : Int) (x5 : Int) (x7 : Int) (x8 : Int), I M x1 x3 x5 x7 x8 → μ M x1 x3 x5 x7 x8 < n → Z g p l e rm_X12_plays s m args below meth c 13 (MQ below (va_Ql (S := Int × Mem) (fun r u => r = i6 u.1 ∧ Q u.1 u.2) (fun u => Rp g u.2) (aR g)) args s 0 0 (aR g)) M 28 [(0, .ref (g.2.2.1 + a0)), (1, .long (i6 x1)), (3, .long (i6 x3)), (5, .long (i6 x5)), (7, .int (i3 x7)), (8, .int (i3 x8))] [] := by
    intro n
    induction n with
    | zero => exact fun _ _ _ _ _ _ _ h => absurd h (Nat.not_lt_zero _)
    | succ n ih =>
      intro M x1 x3 x5 x7 x8 hI hn
      exact bk_X12_plays_B28 F hr k0 (fun M' x1' x3' x5' x7' x8' hk => ih M' x1' x3' x5' x7' x8' hk.1 (Nat.lt_of_lt_of_le hk.2 (Nat.le_of_lt_succ hn))) (hb M x1 x3 x5 x7 x8 hI)
  exact key _ M x1 x3 x5 x7 x8 h0 (Nat.lt_succ_self _)
set_option maxRecDepth 100000 in
set_option maxHeartbeats 4000000 in
theorem c_X12_plays (l : Launch) (g : En) {a0 : Nat} {M : Mem} {Q : Int → Mem → Prop} (k0 : kd a0 = 12) (hw : wp_X12_plays a0 M Q) :
    Met l yX12_plays (WS yX12_plays cX12_plays 13 (some .long)) rm_X12_plays (va_Pc [.ref (g.2.2.1 + a0)] (Rp g M)) (va_Ql (S := Int × Mem) (fun r u => r = i6 u.1 ∧ Q u.1 u.2) (fun u => Rp g u.2) (aR g)) 0 0 (aR g) := by
  refine met_Z (plainFor_of_name rfl) (Nat.le_of_ble_eq_true rfl) ?_
  intro p e s m args below meth c F hr _
  show Z g p l e rm_X12_plays s m args below meth c 13 (MQ below (va_Ql (S := Int × Mem) (fun r u => r = i6 u.1 ∧ Q u.1 u.2) (fun u => Rp g u.2) (aR g)) args s 0 0 (aR g)) M 0 [(0, .ref (g.2.2.1 + a0))] []
  refine z_aload_n F dX12_plays_0 rfl rfl 0 rfl ?_
  refine z_lconst (v := 0) F dX12_plays_1 rfl rfl ?_
  refine z_putL F fp_1017 k0 dX12_plays_2 rfl ?_
  refine z_nmM (fun M2 eM2 => ?_)
  have hw := hw M2 eM2
  refine z_aload_n F dX12_plays_5 rfl rfl 0 rfl ?_
  refine z_lconst (v := 0) F dX12_plays_6 rfl rfl ?_
  refine z_putL F fp_1018 k0 dX12_plays_7 rfl ?_
  refine z_nmM (fun M7 eM7 => ?_)
  have hw := hw M7 eM7
  refine z_aload_n F dX12_plays_10 rfl rfl 0 rfl ?_
  refine z_lconst (v := 0) F dX12_plays_11 rfl rfl ?_
  refine z_putL F fp_1019 k0 dX12_plays_12 rfl ?_
  refine z_nmM (fun M12 eM12 => ?_)
  have hw := hw M12 eM12
  refine z_lconst (v := 0) F dX12_plays_15 rfl rfl ?_
  refine z_lstore_n F dX12_plays_16 rfl rfl (by decide) rfl ?_
  refine z_lconst (v := 0) F dX12_plays_17 rfl rfl ?_
  refine z_lstore_n F dX12_plays_18 rfl rfl (by decide) rfl ?_
  refine z_lconst (v := 0) F dX12_plays_19 rfl rfl ?_
  refine z_lstore F dX12_plays_20 rfl (by decide) rfl ?_
  refine z_iconst F dX12_plays_22 rfl ?_
  refine z_istore F dX12_plays_23 rfl (by decide) rfl ?_
  refine z_iconst F dX12_plays_25 rfl ?_
  refine z_istore F dX12_plays_26 rfl (by decide) rfl ?_
  refine z_sub [5, 4, 3, 2, 1, 0] rfl ?_
  exact lp_X12_plays_28 F hr k0 hw
theorem cv_X12_plays : CV yX12_plays RX12 cX12_plays 13 (some .long) 0 := ⟨w_1368, w_62, w_80, w_1369, rfl, by decide +kernel, by decide +kernel, by decide +kernel⟩
abbrev rm_X12_isSheet : Room := { frames := 1, cells := 0, slots := 0, locals := 22 }
def wp_X12_isSheet (a0 : Int) (M : Mem) (Q : Bool → Prop) : Prop :=
  wp_X12_within a0 0 3 M (fun r3 =>
  Q r3)
set_option maxRecDepth 100000 in
set_option maxHeartbeats 4000000 in
theorem c_X12_isSheet (l : Launch) (g : En) {a0 : Int} {M : Mem} {Q : Bool → Prop} (hw : wp_X12_isSheet a0 M Q) :
    Met l yX12_isSheet (WS yX12_isSheet cX12_isSheet 1 (some .boolean)) rm_X12_isSheet (va_Pc [.int (i3 a0)] (Rp g M)) (va_Qi (S := Bool × Mem) (fun r u => r = i3 (bz u.1) ∧ (u.2 = M ∧ Q u.1)) (fun u => Rp g u.2) (aR g)) 0 0 (aR g) := by
  refine met_Z (plainFor_of_name rfl) (Nat.le_of_ble_eq_true rfl) ?_
  intro p e s m args below meth c F hr _
  show Z g p l e rm_X12_isSheet s m args below meth c 1 (MQ below (va_Qi (S := Bool × Mem) (fun r u => r = i3 (bz u.1) ∧ (u.2 = M ∧ Q u.1)) (fun u => Rp g u.2) (aR g)) args s 0 0 (aR g)) M 0 [(0, .int (i3 a0))] []
  refine z_iload_n F dX12_isSheet_0 rfl rfl 0 rfl ?_
  refine z_iconst F dX12_isSheet_1 rfl ?_
  refine z_iconst F dX12_isSheet_2 rfl ?_
  refine z_cSbp (As := [.int (i3 a0), .int (i3 0), .int (i3 3)]) (st := []) F (c_X12_within l g hw) cs_X12_within w_1102 ⟨rfl, rfl, Nat.le_of_ble_eq_true rfl, Nat.le_of_ble_eq_true rfl⟩ rfl (Nat.le_of_ble_eq_true rfl) dX12_isSheet_3 rfl (fun r3 hw => ?_)
  exact z_zretp (x := r3) F hr dX12_isSheet_6 hw
theorem cs_X12_isSheet : CS yX12_isSheet cX12_isSheet 1 (some .boolean) 1 := ⟨w_1364, w_80, w_1365, by decide +kernel, by decide +kernel, by decide +kernel⟩
abbrev rm_X12_clears : Room := { frames := 0, cells := 0, slots := 0, locals := 0 }
def wp_X12_clears_B2 (a0 : Nat) (Q : Mem → Prop) (K2 : Mem → Int → Prop) (M : Mem) (x1 : Int) : Prop :=
  (((w32 5 ≤ w32 x1) → (
    Q M)) ∧
  (¬ (w32 5 ≤ w32 x1) → (
    inb (rt a0 7) x1 ∧ (
    ∀ M13 : Mem, M13 = st2 M (rt a0 7) (ix x1) (-1) →
    K2 M13 (x1 + 1)))))
def wp_X12_clears_L2 (a0 : Nat) (Q : Mem → Prop) (M : Mem) (x1 : Int) : Prop :=
  ∃ (I : Mem → Int → Prop) (μ : Mem → Int → Nat), I M x1 ∧ ∀ (M : Mem) (x1 : Int), I M x1 →
    wp_X12_clears_B2 a0 Q (fun M' x1' => I M' x1' ∧ μ M' x1' < μ M x1) M x1
def wp_X12_clears (a0 : Nat) (M : Mem) (Q : Mem → Prop) : Prop :=
  wp_X12_clears_L2 a0 Q M 0
set_option maxRecDepth 100000 in
set_option maxHeartbeats 4000000 in
theorem bk_X12_clears_B2 {g : En} {p : Program} {l : Launch} {e : Env} {s : State} {m : MethodId} {args : Array Value} {below : List Frame} {meth : Method} {c : Code} {M : Mem} {a0 : Nat} {Q : Mem → Prop} {K2 : Mem → Int → Prop} {x1 : Int} (F : Fx g p s m args meth c cX12_clears 2 RX12) (hr : meth.sig.returnType = none) (k0 : kd a0 = 12)
    (hK2 : ∀ (M' : Mem) (x1' : Int), K2 M' x1' → Z g p l e rm_X12_clears s m args below meth c 2 (MQ below (va_Qv (S := Mem) Q (fun u => Rp g u) (aR g)) args s 0 0 (aR g)) M' 2 [(0, .ref (g.2.2.1 + a0)), (1, .int (i3 x1'))] [])
    (hw : wp_X12_clears_B2 a0 Q K2 M x1) : Z g p l e rm_X12_clears s m args below meth c 2 (MQ below (va_Qv (S := Mem) Q (fun u => Rp g u) (aR g)) args s 0 0 (aR g)) M 2 [(0, .ref (g.2.2.1 + a0)), (1, .int (i3 x1))] [] := by
  refine z_iload_n F dX12_clears_2 rfl rfl 1 rfl ?_
  refine z_iconst F dX12_clears_3 rfl ?_
  refine z_icmp_ge F dX12_clears_4 rfl rfl hw (fun hw => ?_) (fun hw => ?_)
  · exact z_vret F hr dX12_clears_20 hw
  · refine z_aload_n F dX12_clears_7 rfl rfl 0 rfl ?_
    refine z_getR F fl_999 k0 dX12_clears_8 rfl ?_
    refine z_iload_n F dX12_clears_11 rfl rfl 1 rfl ?_
    refine z_iconst F dX12_clears_12 rfl ?_
    refine z_iast F (tk_12_7 k0) dX12_clears_13 rfl hw (fun hw => ?_)
    refine z_nmM (fun M13 eM13 => ?_)
    have hw := hw M13 eM13
    refine z_iinc F dX12_clears_14 rfl 1 rfl (by decide) rfl ?_
    refine z_goto F dX12_clears_17 rfl ?_
    refine z_sub [1, 0] rfl ?_
    exact hK2 M13 (x1 + 1) hw
set_option maxRecDepth 100000 in
set_option maxHeartbeats 4000000 in
theorem lp_X12_clears_2 {g : En} {p : Program} {l : Launch} {e : Env} {s : State} {m : MethodId} {args : Array Value} {below : List Frame} {meth : Method} {c : Code} {M : Mem} {a0 : Nat} {Q : Mem → Prop} {x1 : Int} (F : Fx g p s m args meth c cX12_clears 2 RX12) (hr : meth.sig.returnType = none) (k0 : kd a0 = 12)
    (hw : wp_X12_clears_L2 a0 Q M x1) : Z g p l e rm_X12_clears s m args below meth c 2 (MQ below (va_Qv (S := Mem) Q (fun u => Rp g u) (aR g)) args s 0 0 (aR g)) M 2 [(0, .ref (g.2.2.1 + a0)), (1, .int (i3 x1))] [] := by
  obtain ⟨I, μ, h0, hb⟩ := hw
  have key : ∀ (n : Nat) (M : Mem) (x1 : Int), I M x1 → μ M x1 < n → Z g p l e rm_X12_clears s m args below meth c 2 (MQ below (va_Qv (S := Mem) Q (fun u => Rp g u) (aR g)) args s 0 0 (aR g)) M 2 [(0, .ref (g.2.2.1 + a0)), (1, .int (i3 x1))] [] := by
    intro n
    induction n with
    | zero => exact fun _ _ _ h => absurd h (Nat.not_lt_zero _)
    | succ n ih =>
      intro M x1 hI hn
      exact bk_X12_clears_B2 F hr k0 (fun M' x1' hk => ih M' x1' hk.1 (Nat.lt_of_lt_of_le hk.2 (Nat.le_of_lt_succ hn))) (hb M x1 hI)
  exact key _ M x1 h0 (Nat.lt_succ_self _)
set_option maxRecDepth 100000 in
set_option maxHeartbeats 4000000 in
theorem c_X12_clears (l : Launch) (g : En) {a0 : Nat} {M : Mem} {Q : Mem → Prop} (k0 : kd a0 = 12) (hw : wp_X12_clears a0 M Q) :
    Met l yX12_clears (WS yX12_clears cX12_clears 2 none) rm_X12_clears (va_Pc [.ref (g.2.2.1 + a0)] (Rp g M)) (va_Qv (S := Mem) Q (fun u => Rp g u) (aR g)) 0 0 (aR g) := by
  refine met_Z (plainFor_of_name rfl) (Nat.le_of_ble_eq_true rfl) ?_
  intro p e s m args below meth c F hr _
  show Z g p l e rm_X12_clears s m args below meth c 2 (MQ below (va_Qv (S := Mem) Q (fun u => Rp g u) (aR g)) args s 0 0 (aR g)) M 0 [(0, .ref (g.2.2.1 + a0))] []
  refine z_iconst F dX12_clears_0 rfl ?_
  refine z_istore_n F dX12_clears_1 rfl rfl (by decide) rfl ?_
  refine z_sub [1, 0] rfl ?_
  exact lp_X12_clears_2 F hr k0 hw
theorem cv_X12_clears : CV yX12_clears RX12 cX12_clears 2 none 0 := ⟨w_1375, w_63, w_80, w_1376, rfl, by decide +kernel, by decide +kernel, by decide +kernel⟩
abbrev rm_X12_replay : Room := { frames := 5, cells := 0, slots := 0, locals := 126 }
def wp_X12_replay_b179 (a0 : Nat) (Q : Int → Mem → Prop) (M : Mem) (x2 : Int) : Prop :=
  wp_X12_plays a0 M (fun r180 M180 =>
  wp_X12_clears a0 M180 (fun M185 =>
  (((w32 5 ≤ w32 x2) → (
    (((w32 20 ≤ w32 x2) → (
      (((¬ w32 x2 = w32 20) → (
        (((¬ w32 x2 = w32 21) → (
          (((¬ w32 x2 = w32 22) → (
            Q (M185 a0 27) M185)) ∧
          (¬ (¬ w32 x2 = w32 22) → (
            Q (M185 a0 26) M185))))) ∧
        (¬ (¬ w32 x2 = w32 21) → (
          Q (M185 a0 25) M185))))) ∧
      (¬ (¬ w32 x2 = w32 20) → (
        Q r180 M185))))) ∧
    (¬ (w32 20 ≤ w32 x2) → (
      inb (rt a0 24) (x2 - 10) ∧ (
      Q (M185 (rt a0 24) (ix (x2 - 10))) M185)))))) ∧
  (¬ (w32 5 ≤ w32 x2) → (
    inb (rt a0 23) x2 ∧ (
    Q (M185 (rt a0 23) (ix x2)) M185))))))
def wp_X12_replay_B141 (a0 : Nat) (Q : Int → Mem → Prop) (K141 : Mem → Int → Prop) (M : Mem) (x1 : Int) (x2 : Int) (x3 : Int) : Prop :=
  (((w32 x1 = w32 (-1)) → (
    wp_X12_replay_b179 a0 Q M x2)) ∧
  (¬ (w32 x1 = w32 (-1)) → (
    inb (rt a0 32) x1 ∧ (
    (((w32 (M (rt a0 32) (ix x1)) ≤ w32 x3) → (
      wp_X12_replay_b179 a0 Q M x2)) ∧
    (¬ (w32 (M (rt a0 32) (ix x1)) ≤ w32 x3) → (
      inb (rt a0 33) ((40 * x1) + x3) ∧ (
      inb (rt a0 7) x3 ∧ (
      ∀ M172 : Mem, M172 = st2 M (rt a0 7) (ix x3) (M (rt a0 33) (ix ((40 * x1) + x3))) →
      K141 M172 (x3 + 1))))))))))
def wp_X12_replay_L141 (a0 : Nat) (Q : Int → Mem → Prop) (M : Mem) (x1 : Int) (x2 : Int) (x3 : Int) : Prop :=
  ∃ (I : Mem → Int → Prop) (μ : Mem → Int → Nat), I M x3 ∧ ∀ (M : Mem) (x3 : Int), I M x3 →
    wp_X12_replay_B141 a0 Q (fun M' x3' => I M' x3' ∧ μ M' x3' < μ M x3) M x1 x2 x3
def wp_X12_replay_b139 (a0 : Nat) (Q : Int → Mem → Prop) (M : Mem) (x1 : Int) (x2 : Int) : Prop :=
  wp_X12_replay_L141 a0 Q M x1 x2 0
def wp_X12_replay_b119 (a0 : Nat) (Q : Int → Mem → Prop) (M : Mem) (x1 : Int) (x2 : Int) : Prop :=
  (((w32 20 ≤ w32 x2) → (
    wp_X12_replay_b139 a0 Q M x1 x2)) ∧
  (¬ (w32 20 ≤ w32 x2) → (
    w32 10 ≠ 0 ∧ (
    wp_X12_isRung a0 ((w32 x2).tmod (w32 10)) M (fun r130 =>
    ((r130 = true → (
      wp_X12_replay_b139 a0 Q M x1 x2)) ∧
    (r130 = false → (
      Q (-12) M))))))))
def wp_X12_replay_B65 (a0 : Nat) (Q : Int → Mem → Prop) (K65 : Int → Prop) (M : Mem) (x1 : Int) (x2 : Int) (x3 : Int) : Prop :=
  (((w32 x1 = w32 (-1)) → (
    wp_X12_replay_b119 a0 Q M x1 x2)) ∧
  (¬ (w32 x1 = w32 (-1)) → (
    inb (rt a0 32) x1 ∧ (
    (((w32 (M (rt a0 32) (ix x1)) ≤ w32 x3) → (
      wp_X12_replay_b119 a0 Q M x1 x2)) ∧
    (¬ (w32 (M (rt a0 32) (ix x1)) ≤ w32 x3) → (
      inb (rt a0 32) x1 ∧ (
      (((w32 5 < w32 (M (rt a0 32) (ix x1))) → (
        Q (-2) M)) ∧
      (¬ (w32 5 < w32 (M (rt a0 32) (ix x1))) → (
        inb (rt a0 33) ((40 * x1) + x3) ∧ (
        wp_X12_within (M (rt a0 33) (ix ((40 * x1) + x3))) 0 9 M (fun r104 =>
        ((r104 = true → (
          K65 (x3 + 1))) ∧
        (r104 = false → (
          Q (-2) M))))))))))))))))
def wp_X12_replay_L65 (a0 : Nat) (Q : Int → Mem → Prop) (M : Mem) (x1 : Int) (x2 : Int) (x3 : Int) : Prop :=
  ∃ (I : Int → Prop) (μ : Int → Nat), I x3 ∧ ∀ (x3 : Int), I x3 →
    wp_X12_replay_B65 a0 Q (fun x3' => I x3' ∧ μ x3' < μ x3) M x1 x2 x3
def wp_X12_replay_b63 (a0 : Nat) (Q : Int → Mem → Prop) (M : Mem) (x1 : Int) (x2 : Int) : Prop :=
  wp_X12_replay_L65 a0 Q M x1 x2 0
def wp_X12_replay_b46 (a0 : Nat) (Q : Int → Mem → Prop) (M : Mem) (x1 : Int) (x2 : Int) : Prop :=
  (((w32 x1 = w32 (-1)) → (
    wp_X12_replay_b63 a0 Q M x1 x2)) ∧
  (¬ (w32 x1 = w32 (-1)) → (
    inb (rt a0 31) x1 ∧ (
    (((¬ w32 (M (rt a0 31) (ix x1)) = 0) → (
      wp_X12_replay_b63 a0 Q M x1 x2)) ∧
    (¬ (¬ w32 (M (rt a0 31) (ix x1)) = 0) → (
      Q (-11) M)))))))
def wp_X12_replay_b12 (a0 : Nat) (Q : Int → Mem → Prop) (M : Mem) (x1 : Int) (x2 : Int) : Prop :=
  wp_X12_within x2 0 4 M (fun r15 =>
  ((r15 = true → (
    wp_X12_replay_b46 a0 Q M x1 x2)) ∧
  (r15 = false → (
    wp_X12_within x2 10 14 M (fun r26 =>
    ((r26 = true → (
      wp_X12_replay_b46 a0 Q M x1 x2)) ∧
    (r26 = false → (
      wp_X12_within x2 20 23 M (fun r37 =>
      ((r37 = true → (
        wp_X12_replay_b46 a0 Q M x1 x2)) ∧
      (r37 = false → (
        Q (-2) M))))))))))))
def wp_X12_replay (a0 : Nat) (a1 : Int) (a2 : Int) (M : Mem) (Q : Int → Mem → Prop) : Prop :=
  (((w32 a1 = w32 (-1)) → (
    wp_X12_replay_b12 a0 Q M a1 a2)) ∧
  (¬ (w32 a1 = w32 (-1)) → (
    wp_X12_isSheet a1 M (fun r6 =>
    ((r6 = false → (
      Q (-2) M)) ∧
    (r6 = true → (
      wp_X12_replay_b12 a0 Q M a1 a2)))))))
set_option maxRecDepth 100000 in
set_option maxHeartbeats 4000000 in
theorem bk_X12_replay_179 {g : En} {p : Program} {l : Launch} {e : Env} {s : State} {m : MethodId} {args : Array Value} {below : List Frame} {meth : Method} {c : Code} {M : Mem} {a0 : Nat} {Q : Int → Mem → Prop} {x2 : Int} (F : Fx g p s m args meth c cX12_replay 5 RX12) (hr : meth.sig.returnType = (some .int)) (k0 : kd a0 = 12)
    (hw : wp_X12_replay_b179 a0 Q M x2) : Z g p l e rm_X12_replay s m args below meth c 5 (MQ below (va_Qi (S := Int × Mem) (fun r u => r = i3 u.1 ∧ Q u.1 u.2) (fun u => Rp g u.2) (aR g)) args s 0 0 (aR g)) M 179 [(0, .ref (g.2.2.1 + a0)), (2, .int (i3 x2))] [] := by
  refine z_aload_n F dX12_replay_179 rfl rfl 0 rfl ?_
  refine z_cVl (As := []) (st := []) F (c_X12_plays l g k0 hw) cv_X12_plays w_1366 ⟨rfl, rfl, Nat.le_of_ble_eq_true rfl, Nat.le_of_ble_eq_true rfl⟩ k0 rfl rfl (Nat.le_of_ble_eq_true rfl) dX12_replay_180 rfl (fun r180 M180 hw => ?_)
  refine z_lstore_n F dX12_replay_183 rfl rfl (by decide) rfl ?_
  refine z_aload_n F dX12_replay_184 rfl rfl 1 rfl ?_
  refine z_cVv (As := []) (st := []) F (c_X12_clears l g k0 hw) cv_X12_clears w_1373 ⟨rfl, rfl, Nat.le_of_ble_eq_true rfl, Nat.le_of_ble_eq_true rfl⟩ k0 rfl rfl (Nat.le_of_ble_eq_true rfl) dX12_replay_185 rfl (fun M185 hw => ?_)
  refine z_iload_n F dX12_replay_188 rfl rfl 2 rfl ?_
  refine z_iconst F dX12_replay_189 rfl ?_
  refine z_icmp_ge F dX12_replay_190 rfl rfl hw (fun hw => ?_) (fun hw => ?_)
  · refine z_iload_n F dX12_replay_201 rfl rfl 2 rfl ?_
    refine z_bipush F dX12_replay_202 (by decide) rfl ?_
    refine z_icmp_ge F dX12_replay_204 rfl rfl hw (fun hw => ?_) (fun hw => ?_)
    · refine z_iload_n F dX12_replay_218 rfl rfl 2 rfl ?_
      refine z_bipush F dX12_replay_219 (by decide) rfl ?_
      refine z_icmp_ne F dX12_replay_221 rfl rfl hw (fun hw => ?_) (fun hw => ?_)
      · refine z_iload_n F dX12_replay_228 rfl rfl 2 rfl ?_
        refine z_bipush F dX12_replay_229 (by decide) rfl ?_
        refine z_icmp_ne F dX12_replay_231 rfl rfl hw (fun hw => ?_) (fun hw => ?_)
        · refine z_iload_n F dX12_replay_241 rfl rfl 2 rfl ?_
          refine z_bipush F dX12_replay_242 (by decide) rfl ?_
          refine z_icmp_ne F dX12_replay_244 rfl rfl hw (fun hw => ?_) (fun hw => ?_)
          · refine z_aload_n F dX12_replay_254 rfl rfl 1 rfl ?_
            refine z_getL F fl_1019 k0 dX12_replay_255 rfl ?_
            refine z_l2i F dX12_replay_258 rfl ?_
            exact z_iret (x := (M185 a0 27)) F hr dX12_replay_259 hw
          · refine z_aload_n F dX12_replay_247 rfl rfl 1 rfl ?_
            refine z_getL F fl_1018 k0 dX12_replay_248 rfl ?_
            refine z_goto F dX12_replay_251 rfl ?_
            refine z_l2i F dX12_replay_258 rfl ?_
            exact z_iret (x := (M185 a0 26)) F hr dX12_replay_259 hw
        · refine z_aload_n F dX12_replay_234 rfl rfl 1 rfl ?_
          refine z_getL F fl_1017 k0 dX12_replay_235 rfl ?_
          refine z_goto F dX12_replay_238 rfl ?_
          refine z_l2i F dX12_replay_258 rfl ?_
          exact z_iret (x := (M185 a0 25)) F hr dX12_replay_259 hw
      · refine z_lload_n F dX12_replay_224 rfl rfl 0 rfl ?_
        refine z_goto F dX12_replay_225 rfl ?_
        refine z_l2i F dX12_replay_258 rfl ?_
        exact z_iret (x := r180) F hr dX12_replay_259 hw
    · refine z_aload_n F dX12_replay_207 rfl rfl 1 rfl ?_
      refine z_getR F fl_1016 k0 dX12_replay_208 rfl ?_
      refine z_iload_n F dX12_replay_211 rfl rfl 2 rfl ?_
      refine z_bipush F dX12_replay_212 (by decide) rfl ?_
      refine z_isub F dX12_replay_214 rfl ?_
      refine z_lald F (tk_12_24 k0) dX12_replay_215 rfl hw (fun hw => ?_)
      refine z_l2i F dX12_replay_216 rfl ?_
      exact z_iret (x := (M185 (rt a0 24) (ix (x2 - 10)))) F hr dX12_replay_217 hw
  · refine z_aload_n F dX12_replay_193 rfl rfl 1 rfl ?_
    refine z_getR F fl_1015 k0 dX12_replay_194 rfl ?_
    refine z_iload_n F dX12_replay_197 rfl rfl 2 rfl ?_
    refine z_lald F (tk_12_23 k0) dX12_replay_198 rfl hw (fun hw => ?_)
    refine z_l2i F dX12_replay_199 rfl ?_
    exact z_iret (x := (M185 (rt a0 23) (ix x2))) F hr dX12_replay_200 hw
set_option maxRecDepth 100000 in
set_option maxHeartbeats 4000000 in
theorem bk_X12_replay_B141 {g : En} {p : Program} {l : Launch} {e : Env} {s : State} {m : MethodId} {args : Array Value} {below : List Frame} {meth : Method} {c : Code} {M : Mem} {a0 : Nat} {Q : Int → Mem → Prop} {K141 : Mem → Int → Prop} {x1 : Int} {x2 : Int} {x3 : Int} (F : Fx g p s m args meth c cX12_replay 5 RX12) (hr : meth.sig.returnType = (some .int)) (k0 : kd a0 = 12)
    (hK141 : ∀ (M' : Mem) (x3' : Int), K141 M' x3' → Z g p l e rm_X12_replay s m args below meth c 5 (MQ below (va_Qi (S := Int × Mem) (fun r u => r = i3 u.1 ∧ Q u.1 u.2) (fun u => Rp g u.2) (aR g)) args s 0 0 (aR g)) M' 141 [(0, .ref (g.2.2.1 + a0)), (1, .int (i3 x1)), (2, .int (i3 x2)), (3, .int (i3 x3'))] [])
    (hw : wp_X12_replay_B141 a0 Q K141 M x1 x2 x3) : Z g p l e rm_X12_replay s m args below meth c 5 (MQ below (va_Qi (S := Int × Mem) (fun r u => r = i3 u.1 ∧ Q u.1 u.2) (fun u => Rp g u.2) (aR g)) args s 0 0 (aR g)) M 141 [(0, .ref (g.2.2.1 + a0)), (1, .int (i3 x1)), (2, .int (i3 x2)), (3, .int (i3 x3))] [] := by
  refine z_iload_n F dX12_replay_141 rfl rfl 1 rfl ?_
  refine z_iconst F dX12_replay_142 rfl ?_
  refine z_icmp_eq F dX12_replay_143 rfl rfl hw (fun hw => ?_) (fun hw => ?_)
  · refine z_sub [0, 2] rfl ?_
    exact bk_X12_replay_179 F hr k0 hw
  · refine z_iload_n F dX12_replay_146 rfl rfl 3 rfl ?_
    refine z_aload_n F dX12_replay_147 rfl rfl 0 rfl ?_
    refine z_getR F fl_1024 k0 dX12_replay_148 rfl ?_
    refine z_iload_n F dX12_replay_151 rfl rfl 1 rfl ?_
    refine z_iald F (tk_12_32 k0) dX12_replay_152 rfl hw (fun hw => ?_)
    refine z_icmp_ge F dX12_replay_153 rfl rfl hw (fun hw => ?_) (fun hw => ?_)
    · refine z_sub [0, 2] rfl ?_
      exact bk_X12_replay_179 F hr k0 hw
    · refine z_aload_n F dX12_replay_156 rfl rfl 0 rfl ?_
      refine z_getR F fl_999 k0 dX12_replay_157 rfl ?_
      refine z_iload_n F dX12_replay_160 rfl rfl 3 rfl ?_
      refine z_aload_n F dX12_replay_161 rfl rfl 0 rfl ?_
      refine z_getR F fl_1025 k0 dX12_replay_162 rfl ?_
      refine z_bipush F dX12_replay_165 (by decide) rfl ?_
      refine z_iload_n F dX12_replay_167 rfl rfl 1 rfl ?_
      refine z_imul F dX12_replay_168 rfl ?_
      refine z_iload_n F dX12_replay_169 rfl rfl 3 rfl ?_
      refine z_iadd F dX12_replay_170 rfl ?_
      refine z_iald F (tk_12_33 k0) dX12_replay_171 rfl hw (fun hw => ?_)
      refine z_iast F (tk_12_7 k0) dX12_replay_172 rfl hw (fun hw => ?_)
      refine z_nmM (fun M172 eM172 => ?_)
      have hw := hw M172 eM172
      refine z_iinc F dX12_replay_173 rfl 3 rfl (by decide) rfl ?_
      refine z_goto F dX12_replay_176 rfl ?_
      refine z_sub [1, 2, 3, 0] rfl ?_
      exact hK141 M172 (x3 + 1) hw
set_option maxRecDepth 100000 in
set_option maxHeartbeats 4000000 in
theorem lp_X12_replay_141 {g : En} {p : Program} {l : Launch} {e : Env} {s : State} {m : MethodId} {args : Array Value} {below : List Frame} {meth : Method} {c : Code} {M : Mem} {a0 : Nat} {Q : Int → Mem → Prop} {x1 : Int} {x2 : Int} {x3 : Int} (F : Fx g p s m args meth c cX12_replay 5 RX12) (hr : meth.sig.returnType = (some .int)) (k0 : kd a0 = 12)
    (hw : wp_X12_replay_L141 a0 Q M x1 x2 x3) : Z g p l e rm_X12_replay s m args below meth c 5 (MQ below (va_Qi (S := Int × Mem) (fun r u => r = i3 u.1 ∧ Q u.1 u.2) (fun u => Rp g u.2) (aR g)) args s 0 0 (aR g)) M 141 [(0, .ref (g.2.2.1 + a0)), (1, .int (i3 x1)), (2, .int (i3 x2)), (3, .int (i3 x3))] [] := by
  obtain ⟨I, μ, h0, hb⟩ := hw
  have key : ∀ (n : Nat) (M : Mem) (x3 : Int), I M x3 → μ M x3 < n → Z g p l e rm_X12_replay s m args below meth c 5 (MQ below (va_Qi (S := Int × Mem) (fun r u => r = i3 u.1 ∧ Q u.1 u.2) (fun u => Rp g u.2) (aR g)) args s 0 0 (aR g)) M 141 [(0, .ref (g.2.2.1 + a0)), (1, .int (i3 x1)), (2, .int (i3 x2)), (3, .int (i3 x3))] [] := by
    intro n
    induction n with
    | zero => exact fun _ _ _ h => absurd h (Nat.not_lt_zero _)
    | succ n ih =>
      intro M x3 hI hn
      exact bk_X12_replay_B141 F hr k0 (fun M' x3' hk => ih M' x3' hk.1 (Nat.lt_of_lt_of_le hk.2 (Nat.le_of_lt_succ hn))) (hb M x3 hI)
  exact key _ M x3 h0 (Nat.lt_succ_self _)
set_option maxRecDepth 100000 in
set_option maxHeartbeats 4000000 in
theorem bk_X12_replay_139 {g : En} {p : Program} {l : Launch} {e : Env} {s : State} {m : MethodId} {args : Array Value} {below : List Frame} {meth : Method} {c : Code} {M : Mem} {a0 : Nat} {Q : Int → Mem → Prop} {x1 : Int} {x2 : Int} (F : Fx g p s m args meth c cX12_replay 5 RX12) (hr : meth.sig.returnType = (some .int)) (k0 : kd a0 = 12)
    (hw : wp_X12_replay_b139 a0 Q M x1 x2) : Z g p l e rm_X12_replay s m args below meth c 5 (MQ below (va_Qi (S := Int × Mem) (fun r u => r = i3 u.1 ∧ Q u.1 u.2) (fun u => Rp g u.2) (aR g)) args s 0 0 (aR g)) M 139 [(0, .ref (g.2.2.1 + a0)), (1, .int (i3 x1)), (2, .int (i3 x2))] [] := by
  refine z_iconst F dX12_replay_139 rfl ?_
  refine z_istore_n F dX12_replay_140 rfl rfl (by decide) rfl ?_
  refine z_sub [1, 2, 3, 0] rfl ?_
  exact lp_X12_replay_141 F hr k0 hw
set_option maxRecDepth 100000 in
set_option maxHeartbeats 4000000 in
theorem bk_X12_replay_119 {g : En} {p : Program} {l : Launch} {e : Env} {s : State} {m : MethodId} {args : Array Value} {below : List Frame} {meth : Method} {c : Code} {M : Mem} {a0 : Nat} {Q : Int → Mem → Prop} {x1 : Int} {x2 : Int} (F : Fx g p s m args meth c cX12_replay 5 RX12) (hr : meth.sig.returnType = (some .int)) (k0 : kd a0 = 12)
    (hw : wp_X12_replay_b119 a0 Q M x1 x2) : Z g p l e rm_X12_replay s m args below meth c 5 (MQ below (va_Qi (S := Int × Mem) (fun r u => r = i3 u.1 ∧ Q u.1 u.2) (fun u => Rp g u.2) (aR g)) args s 0 0 (aR g)) M 119 [(0, .ref (g.2.2.1 + a0)), (1, .int (i3 x1)), (2, .int (i3 x2))] [] := by
  refine z_iload_n F dX12_replay_119 rfl rfl 2 rfl ?_
  refine z_bipush F dX12_replay_120 (by decide) rfl ?_
  refine z_icmp_ge F dX12_replay_122 rfl rfl hw (fun hw => ?_) (fun hw => ?_)
  · refine z_sub [0, 1, 2] rfl ?_
    exact bk_X12_replay_139 F hr k0 hw
  · refine z_aload_n F dX12_replay_125 rfl rfl 0 rfl ?_
    refine z_iload_n F dX12_replay_126 rfl rfl 2 rfl ?_
    refine z_bipush F dX12_replay_127 (by decide) rfl ?_
    refine z_irem F dX12_replay_129 rfl hw (fun hw => ?_)
    refine z_cVbp (As := [.int (i3 ((w32 x2).tmod (w32 10)))]) (st := []) F (c_X12_isRung l g k0 hw) cv_X12_isRung w_1127 ⟨rfl, rfl, Nat.le_of_ble_eq_true rfl, Nat.le_of_ble_eq_true rfl⟩ k0 rfl rfl (Nat.le_of_ble_eq_true rfl) dX12_replay_130 rfl (fun r130 hw => ?_)
    refine z_ifb_ne F dX12_replay_133 rfl rfl hw (fun hw => ?_) (fun hw => ?_)
    · refine z_sub [0, 1, 2] rfl ?_
      exact bk_X12_replay_139 F hr k0 hw
    · refine z_bipush F dX12_replay_136 (by decide) rfl ?_
      exact z_iret (x := (-12)) F hr dX12_replay_138 hw
set_option maxRecDepth 100000 in
set_option maxHeartbeats 4000000 in
theorem bk_X12_replay_B65 {g : En} {p : Program} {l : Launch} {e : Env} {s : State} {m : MethodId} {args : Array Value} {below : List Frame} {meth : Method} {c : Code} {M : Mem} {a0 : Nat} {Q : Int → Mem → Prop} {K65 : Int → Prop} {x1 : Int} {x2 : Int} {x3 : Int} (F : Fx g p s m args meth c cX12_replay 5 RX12) (hr : meth.sig.returnType = (some .int)) (k0 : kd a0 = 12)
    (hK65 : ∀ (x3' : Int), K65 x3' → Z g p l e rm_X12_replay s m args below meth c 5 (MQ below (va_Qi (S := Int × Mem) (fun r u => r = i3 u.1 ∧ Q u.1 u.2) (fun u => Rp g u.2) (aR g)) args s 0 0 (aR g)) M 65 [(0, .ref (g.2.2.1 + a0)), (1, .int (i3 x1)), (2, .int (i3 x2)), (3, .int (i3 x3'))] [])
    (hw : wp_X12_replay_B65 a0 Q K65 M x1 x2 x3) : Z g p l e rm_X12_replay s m args below meth c 5 (MQ below (va_Qi (S := Int × Mem) (fun r u => r = i3 u.1 ∧ Q u.1 u.2) (fun u => Rp g u.2) (aR g)) args s 0 0 (aR g)) M 65 [(0, .ref (g.2.2.1 + a0)), (1, .int (i3 x1)), (2, .int (i3 x2)), (3, .int (i3 x3))] [] := by
  refine z_iload_n F dX12_replay_65 rfl rfl 1 rfl ?_
  refine z_iconst F dX12_replay_66 rfl ?_
  refine z_icmp_eq F dX12_replay_67 rfl rfl hw (fun hw => ?_) (fun hw => ?_)
  · refine z_sub [0, 1, 2] rfl ?_
    exact bk_X12_replay_119 F hr k0 hw
  · refine z_iload_n F dX12_replay_70 rfl rfl 3 rfl ?_
    refine z_aload_n F dX12_replay_71 rfl rfl 0 rfl ?_
    refine z_getR F fl_1024 k0 dX12_replay_72 rfl ?_
    refine z_iload_n F dX12_replay_75 rfl rfl 1 rfl ?_
    refine z_iald F (tk_12_32 k0) dX12_replay_76 rfl hw (fun hw => ?_)
    refine z_icmp_ge F dX12_replay_77 rfl rfl hw (fun hw => ?_) (fun hw => ?_)
    · refine z_sub [0, 1, 2] rfl ?_
      exact bk_X12_replay_119 F hr k0 hw
    · refine z_aload_n F dX12_replay_80 rfl rfl 0 rfl ?_
      refine z_getR F fl_1024 k0 dX12_replay_81 rfl ?_
      refine z_iload_n F dX12_replay_84 rfl rfl 1 rfl ?_
      refine z_iald F (tk_12_32 k0) dX12_replay_85 rfl hw (fun hw => ?_)
      refine z_iconst F dX12_replay_86 rfl ?_
      refine z_icmp_gt F dX12_replay_87 rfl rfl hw (fun hw => ?_) (fun hw => ?_)
      · refine z_bipush F dX12_replay_110 (by decide) rfl ?_
        exact z_iret (x := (-2)) F hr dX12_replay_112 hw
      · refine z_aload_n F dX12_replay_90 rfl rfl 0 rfl ?_
        refine z_getR F fl_1025 k0 dX12_replay_91 rfl ?_
        refine z_bipush F dX12_replay_94 (by decide) rfl ?_
        refine z_iload_n F dX12_replay_96 rfl rfl 1 rfl ?_
        refine z_imul F dX12_replay_97 rfl ?_
        refine z_iload_n F dX12_replay_98 rfl rfl 3 rfl ?_
        refine z_iadd F dX12_replay_99 rfl ?_
        refine z_iald F (tk_12_33 k0) dX12_replay_100 rfl hw (fun hw => ?_)
        refine z_iconst F dX12_replay_101 rfl ?_
        refine z_bipush F dX12_replay_102 (by decide) rfl ?_
        refine z_cSbp (As := [.int (i3 (M (rt a0 33) (ix ((40 * x1) + x3)))), .int (i3 0), .int (i3 9)]) (st := []) F (c_X12_within l g hw) cs_X12_within w_1102 ⟨rfl, rfl, Nat.le_of_ble_eq_true rfl, Nat.le_of_ble_eq_true rfl⟩ rfl (Nat.le_of_ble_eq_true rfl) dX12_replay_104 rfl (fun r104 hw => ?_)
        refine z_ifb_ne F dX12_replay_107 rfl rfl hw (fun hw => ?_) (fun hw => ?_)
        · refine z_iinc F dX12_replay_113 rfl 3 rfl (by decide) rfl ?_
          refine z_goto F dX12_replay_116 rfl ?_
          refine z_sub [1, 2, 3, 0] rfl ?_
          exact hK65 (x3 + 1) hw
        · refine z_bipush F dX12_replay_110 (by decide) rfl ?_
          exact z_iret (x := (-2)) F hr dX12_replay_112 hw
set_option maxRecDepth 100000 in
set_option maxHeartbeats 4000000 in
theorem lp_X12_replay_65 {g : En} {p : Program} {l : Launch} {e : Env} {s : State} {m : MethodId} {args : Array Value} {below : List Frame} {meth : Method} {c : Code} {M : Mem} {a0 : Nat} {Q : Int → Mem → Prop} {x1 : Int} {x2 : Int} {x3 : Int} (F : Fx g p s m args meth c cX12_replay 5 RX12) (hr : meth.sig.returnType = (some .int)) (k0 : kd a0 = 12)
    (hw : wp_X12_replay_L65 a0 Q M x1 x2 x3) : Z g p l e rm_X12_replay s m args below meth c 5 (MQ below (va_Qi (S := Int × Mem) (fun r u => r = i3 u.1 ∧ Q u.1 u.2) (fun u => Rp g u.2) (aR g)) args s 0 0 (aR g)) M 65 [(0, .ref (g.2.2.1 + a0)), (1, .int (i3 x1)), (2, .int (i3 x2)), (3, .int (i3 x3))] [] := by
  obtain ⟨I, μ, h0, hb⟩ := hw
  have key : ∀ (n : Nat) (x3 : Int), I x3 → μ x3 < n → Z g p l e rm_X12_replay s m args below meth c 5 (MQ below (va_Qi (S := Int × Mem) (fun r u => r = i3 u.1 ∧ Q u.1 u.2) (fun u => Rp g u.2) (aR g)) args s 0 0 (aR g)) M 65 [(0, .ref (g.2.2.1 + a0)), (1, .int (i3 x1)), (2, .int (i3 x2)), (3, .int (i3 x3))] [] := by
    intro n
    induction n with
    | zero => exact fun _ _ h => absurd h (Nat.not_lt_zero _)
    | succ n ih =>
      intro x3 hI hn
      exact bk_X12_replay_B65 F hr k0 (fun x3' hk => ih x3' hk.1 (Nat.lt_of_lt_of_le hk.2 (Nat.le_of_lt_succ hn))) (hb x3 hI)
  exact key _ x3 h0 (Nat.lt_succ_self _)
set_option maxRecDepth 100000 in
set_option maxHeartbeats 4000000 in
theorem bk_X12_replay_63 {g : En} {p : Program} {l : Launch} {e : Env} {s : State} {m : MethodId} {args : Array Value} {below : List Frame} {meth : Method} {c : Code} {M : Mem} {a0 : Nat} {Q : Int → Mem → Prop} {x1 : Int} {x2 : Int} (F : Fx g p s m args meth c cX12_replay 5 RX12) (hr : meth.sig.returnType = (some .int)) (k0 : kd a0 = 12)
    (hw : wp_X12_replay_b63 a0 Q M x1 x2) : Z g p l e rm_X12_replay s m args below meth c 5 (MQ below (va_Qi (S := Int × Mem) (fun r u => r = i3 u.1 ∧ Q u.1 u.2) (fun u => Rp g u.2) (aR g)) args s 0 0 (aR g)) M 63 [(0, .ref (g.2.2.1 + a0)), (1, .int (i3 x1)), (2, .int (i3 x2))] [] := by
  refine z_iconst F dX12_replay_63 rfl ?_
  refine z_istore_n F dX12_replay_64 rfl rfl (by decide) rfl ?_
  refine z_sub [1, 2, 3, 0] rfl ?_
  exact lp_X12_replay_65 F hr k0 hw
set_option maxRecDepth 100000 in
set_option maxHeartbeats 4000000 in
theorem bk_X12_replay_46 {g : En} {p : Program} {l : Launch} {e : Env} {s : State} {m : MethodId} {args : Array Value} {below : List Frame} {meth : Method} {c : Code} {M : Mem} {a0 : Nat} {Q : Int → Mem → Prop} {x1 : Int} {x2 : Int} (F : Fx g p s m args meth c cX12_replay 5 RX12) (hr : meth.sig.returnType = (some .int)) (k0 : kd a0 = 12)
    (hw : wp_X12_replay_b46 a0 Q M x1 x2) : Z g p l e rm_X12_replay s m args below meth c 5 (MQ below (va_Qi (S := Int × Mem) (fun r u => r = i3 u.1 ∧ Q u.1 u.2) (fun u => Rp g u.2) (aR g)) args s 0 0 (aR g)) M 46 [(0, .ref (g.2.2.1 + a0)), (1, .int (i3 x1)), (2, .int (i3 x2))] [] := by
  refine z_iload_n F dX12_replay_46 rfl rfl 1 rfl ?_
  refine z_iconst F dX12_replay_47 rfl ?_
  refine z_icmp_eq F dX12_replay_48 rfl rfl hw (fun hw => ?_) (fun hw => ?_)
  · refine z_sub [0, 1, 2] rfl ?_
    exact bk_X12_replay_63 F hr k0 hw
  · refine z_aload_n F dX12_replay_51 rfl rfl 0 rfl ?_
    refine z_getR F fl_1023 k0 dX12_replay_52 rfl ?_
    refine z_iload_n F dX12_replay_55 rfl rfl 1 rfl ?_
    refine z_iald F (tk_12_31 k0) dX12_replay_56 rfl hw (fun hw => ?_)
    refine z_if_ne F dX12_replay_57 rfl rfl hw (fun hw => ?_) (fun hw => ?_)
    · refine z_sub [0, 1, 2] rfl ?_
      exact bk_X12_replay_63 F hr k0 hw
    · refine z_bipush F dX12_replay_60 (by decide) rfl ?_
      exact z_iret (x := (-11)) F hr dX12_replay_62 hw
set_option maxRecDepth 100000 in
set_option maxHeartbeats 4000000 in
theorem bk_X12_replay_12 {g : En} {p : Program} {l : Launch} {e : Env} {s : State} {m : MethodId} {args : Array Value} {below : List Frame} {meth : Method} {c : Code} {M : Mem} {a0 : Nat} {Q : Int → Mem → Prop} {x1 : Int} {x2 : Int} (F : Fx g p s m args meth c cX12_replay 5 RX12) (hr : meth.sig.returnType = (some .int)) (k0 : kd a0 = 12)
    (hw : wp_X12_replay_b12 a0 Q M x1 x2) : Z g p l e rm_X12_replay s m args below meth c 5 (MQ below (va_Qi (S := Int × Mem) (fun r u => r = i3 u.1 ∧ Q u.1 u.2) (fun u => Rp g u.2) (aR g)) args s 0 0 (aR g)) M 12 [(0, .ref (g.2.2.1 + a0)), (1, .int (i3 x1)), (2, .int (i3 x2))] [] := by
  refine z_iload_n F dX12_replay_12 rfl rfl 2 rfl ?_
  refine z_iconst F dX12_replay_13 rfl ?_
  refine z_iconst F dX12_replay_14 rfl ?_
  refine z_cSbp (As := [.int (i3 x2), .int (i3 0), .int (i3 4)]) (st := []) F (c_X12_within l g hw) cs_X12_within w_1102 ⟨rfl, rfl, Nat.le_of_ble_eq_true rfl, Nat.le_of_ble_eq_true rfl⟩ rfl (Nat.le_of_ble_eq_true rfl) dX12_replay_15 rfl (fun r15 hw => ?_)
  refine z_ifb_ne F dX12_replay_18 rfl rfl hw (fun hw => ?_) (fun hw => ?_)
  · refine z_sub [0, 1, 2] rfl ?_
    exact bk_X12_replay_46 F hr k0 hw
  · refine z_iload_n F dX12_replay_21 rfl rfl 2 rfl ?_
    refine z_bipush F dX12_replay_22 (by decide) rfl ?_
    refine z_bipush F dX12_replay_24 (by decide) rfl ?_
    refine z_cSbp (As := [.int (i3 x2), .int (i3 10), .int (i3 14)]) (st := []) F (c_X12_within l g hw) cs_X12_within w_1102 ⟨rfl, rfl, Nat.le_of_ble_eq_true rfl, Nat.le_of_ble_eq_true rfl⟩ rfl (Nat.le_of_ble_eq_true rfl) dX12_replay_26 rfl (fun r26 hw => ?_)
    refine z_ifb_ne F dX12_replay_29 rfl rfl hw (fun hw => ?_) (fun hw => ?_)
    · refine z_sub [0, 1, 2] rfl ?_
      exact bk_X12_replay_46 F hr k0 hw
    · refine z_iload_n F dX12_replay_32 rfl rfl 2 rfl ?_
      refine z_bipush F dX12_replay_33 (by decide) rfl ?_
      refine z_bipush F dX12_replay_35 (by decide) rfl ?_
      refine z_cSbp (As := [.int (i3 x2), .int (i3 20), .int (i3 23)]) (st := []) F (c_X12_within l g hw) cs_X12_within w_1102 ⟨rfl, rfl, Nat.le_of_ble_eq_true rfl, Nat.le_of_ble_eq_true rfl⟩ rfl (Nat.le_of_ble_eq_true rfl) dX12_replay_37 rfl (fun r37 hw => ?_)
      refine z_ifb_ne F dX12_replay_40 rfl rfl hw (fun hw => ?_) (fun hw => ?_)
      · refine z_sub [0, 1, 2] rfl ?_
        exact bk_X12_replay_46 F hr k0 hw
      · refine z_bipush F dX12_replay_43 (by decide) rfl ?_
        exact z_iret (x := (-2)) F hr dX12_replay_45 hw
set_option maxRecDepth 100000 in
set_option maxHeartbeats 4000000 in
theorem c_X12_replay (l : Launch) (g : En) {a0 : Nat} {a1 : Int} {a2 : Int} {M : Mem} {Q : Int → Mem → Prop} (k0 : kd a0 = 12) (hw : wp_X12_replay a0 a1 a2 M Q) :
    Met l yX12_replay (WS yX12_replay cX12_replay 5 (some .int)) rm_X12_replay (va_Pc [.ref (g.2.2.1 + a0), .int (i3 a1), .int (i3 a2)] (Rp g M)) (va_Qi (S := Int × Mem) (fun r u => r = i3 u.1 ∧ Q u.1 u.2) (fun u => Rp g u.2) (aR g)) 0 0 (aR g) := by
  refine met_Z (plainFor_of_name rfl) (Nat.le_of_ble_eq_true rfl) ?_
  intro p e s m args below meth c F hr _
  show Z g p l e rm_X12_replay s m args below meth c 5 (MQ below (va_Qi (S := Int × Mem) (fun r u => r = i3 u.1 ∧ Q u.1 u.2) (fun u => Rp g u.2) (aR g)) args s 0 0 (aR g)) M 0 [(0, .ref (g.2.2.1 + a0)), (1, .int (i3 a1)), (2, .int (i3 a2))] []
  refine z_iload_n F dX12_replay_0 rfl rfl 1 rfl ?_
  refine z_iconst F dX12_replay_1 rfl ?_
  refine z_icmp_eq F dX12_replay_2 rfl rfl hw (fun hw => ?_) (fun hw => ?_)
  · refine z_sub [0, 1, 2] rfl ?_
    exact bk_X12_replay_12 F hr k0 hw
  · refine z_iload_n F dX12_replay_5 rfl rfl 1 rfl ?_
    refine z_cSbp (As := [.int (i3 a1)]) (st := []) F (c_X12_isSheet l g hw) cs_X12_isSheet w_1363 ⟨rfl, rfl, Nat.le_of_ble_eq_true rfl, Nat.le_of_ble_eq_true rfl⟩ rfl (Nat.le_of_ble_eq_true rfl) dX12_replay_6 rfl (fun r6 hw => ?_)
    refine z_ifb_eq F dX12_replay_9 rfl rfl hw (fun hw => ?_) (fun hw => ?_)
    · refine z_bipush F dX12_replay_43 (by decide) rfl ?_
      exact z_iret (x := (-2)) F hr dX12_replay_45 hw
    · refine z_sub [0, 1, 2] rfl ?_
      exact bk_X12_replay_12 F hr k0 hw
theorem cv_X12_replay : CV yX12_replay RX12 cX12_replay 5 (some .int) 2 := ⟨w_1360, w_1361, w_80, w_1362, rfl, by decide +kernel, by decide +kernel, by decide +kernel⟩
abbrev rm_X12_worst : Room := { frames := 5, cells := 0, slots := 0, locals := 126 }
def wp_X12_worst_b72 (a0 : Nat) (Q : Int → Mem → Prop) (K19 : Mem → Int → Int → Int → Prop) (M : Mem) (x1 : Int) (x2 : Int) (x3 : Int) (x5 : Int) : Prop :=
  K19 M x2 x3 (x5 + 1)
def wp_X12_worst_b66 (a0 : Nat) (Q : Int → Mem → Prop) (K19 : Mem → Int → Int → Int → Prop) (M : Mem) (x1 : Int) (x5 : Int) (x6 : Int) : Prop :=
  wp_X12_worst_b72 a0 Q K19 M x1 x5 x6 x5
def wp_X12_worst_B19 (a0 : Nat) (Q : Int → Mem → Prop) (K19 : Mem → Int → Int → Int → Prop) (M : Mem) (x1 : Int) (x2 : Int) (x3 : Int) (x5 : Int) : Prop :=
  (((w32 (M a0 5) ≤ w32 x5) → (
    (((¬ w32 x1 = 0) → (
      Q x3 M)) ∧
    (¬ (¬ w32 x1 = 0) → (
      Q x2 M))))) ∧
  (¬ (w32 (M a0 5) ≤ w32 x5) → (
    inb (rt a0 7) x5 ∧ (
    ∀ M36 : Mem, M36 = st2 M (rt a0 7) (ix x5) 9 →
    wp_X12_plays a0 M36 (fun r38 M38 =>
    inb (rt a0 7) x5 ∧ (
    ∀ M50 : Mem, M50 = st2 M38 (rt a0 7) (ix x5) (-1) →
    (((w32 x2 = w32 (-1)) → (
      wp_X12_worst_b66 a0 Q K19 M50 x1 x5 r38)) ∧
    (¬ (w32 x2 = w32 (-1)) → (
      (((w64 x3 < w64 r38) → (
        wp_X12_worst_b66 a0 Q K19 M50 x1 x5 r38)) ∧
      (¬ (w64 x3 < w64 r38) → (
        wp_X12_worst_b72 a0 Q K19 M50 x1 x2 x3 x5))))))))))))
def wp_X12_worst_L19 (a0 : Nat) (Q : Int → Mem → Prop) (M : Mem) (x1 : Int) (x2 : Int) (x3 : Int) (x5 : Int) : Prop :=
  ∃ (I : Mem → Int → Int → Int → Prop) (μ : Mem → Int → Int → Int → Nat), I M x2 x3 x5 ∧ ∀ (M : Mem) (x2 : Int) (x3 : Int) (x5 : Int), I M x2 x3 x5 →
    wp_X12_worst_B19 a0 Q (fun M' x2' x3' x5' => I M' x2' x3' x5' ∧ μ M' x2' x3' x5' < μ M x2 x3 x5) M x1 x2 x3 x5
def wp_X12_worst (a0 : Nat) (a1 : Int) (M : Mem) (Q : Int → Mem → Prop) : Prop :=
  wp_X12_within a1 0 1 M (fun r3 =>
  ((r3 = true → (
    wp_X12_worst_L19 a0 Q M a1 (-1) 0 0)) ∧
  (r3 = false → (
    Q (-2) M))))
set_option maxRecDepth 100000 in
set_option maxHeartbeats 4000000 in
theorem bk_X12_worst_72 {g : En} {p : Program} {l : Launch} {e : Env} {s : State} {m : MethodId} {args : Array Value} {below : List Frame} {meth : Method} {c : Code} {M : Mem} {a0 : Nat} {Q : Int → Mem → Prop} {K19 : Mem → Int → Int → Int → Prop} {x1 : Int} {x2 : Int} {x3 : Int} {x5 : Int} (F : Fx g p s m args meth c cX12_worst 8 RX12) (hr : meth.sig.returnType = (some .int)) (k0 : kd a0 = 12)
    (hK19 : ∀ (M' : Mem) (x2' : Int) (x3' : Int) (x5' : Int), K19 M' x2' x3' x5' → Z g p l e rm_X12_worst s m args below meth c 8 (MQ below (va_Qi (S := Int × Mem) (fun r u => r = i3 u.1 ∧ Q u.1 u.2) (fun u => Rp g u.2) (aR g)) args s 0 0 (aR g)) M' 19 [(0, .ref (g.2.2.1 + a0)), (1, .int (i3 x1)), (2, .int (i3 x2')), (3, .long (i6 x3')), (5, .int (i3 x5'))] [])
    (hw : wp_X12_worst_b72 a0 Q K19 M x1 x2 x3 x5) : Z g p l e rm_X12_worst s m args below meth c 8 (MQ below (va_Qi (S := Int × Mem) (fun r u => r = i3 u.1 ∧ Q u.1 u.2) (fun u => Rp g u.2) (aR g)) args s 0 0 (aR g)) M 72 [(0, .ref (g.2.2.1 + a0)), (1, .int (i3 x1)), (2, .int (i3 x2)), (3, .long (i6 x3)), (5, .int (i3 x5))] [] := by
  refine z_iinc F dX12_worst_72 rfl 4 rfl (by decide) rfl ?_
  refine z_goto F dX12_worst_75 rfl ?_
  refine z_sub [1, 2, 3, 4, 0] rfl ?_
  exact hK19 M x2 x3 (x5 + 1) hw
set_option maxRecDepth 100000 in
set_option maxHeartbeats 4000000 in
theorem bk_X12_worst_66 {g : En} {p : Program} {l : Launch} {e : Env} {s : State} {m : MethodId} {args : Array Value} {below : List Frame} {meth : Method} {c : Code} {M : Mem} {a0 : Nat} {Q : Int → Mem → Prop} {K19 : Mem → Int → Int → Int → Prop} {x1 : Int} {x5 : Int} {x6 : Int} (F : Fx g p s m args meth c cX12_worst 8 RX12) (hr : meth.sig.returnType = (some .int)) (k0 : kd a0 = 12)
    (hK19 : ∀ (M' : Mem) (x2' : Int) (x3' : Int) (x5' : Int), K19 M' x2' x3' x5' → Z g p l e rm_X12_worst s m args below meth c 8 (MQ below (va_Qi (S := Int × Mem) (fun r u => r = i3 u.1 ∧ Q u.1 u.2) (fun u => Rp g u.2) (aR g)) args s 0 0 (aR g)) M' 19 [(0, .ref (g.2.2.1 + a0)), (1, .int (i3 x1)), (2, .int (i3 x2')), (3, .long (i6 x3')), (5, .int (i3 x5'))] [])
    (hw : wp_X12_worst_b66 a0 Q K19 M x1 x5 x6) : Z g p l e rm_X12_worst s m args below meth c 8 (MQ below (va_Qi (S := Int × Mem) (fun r u => r = i3 u.1 ∧ Q u.1 u.2) (fun u => Rp g u.2) (aR g)) args s 0 0 (aR g)) M 66 [(0, .ref (g.2.2.1 + a0)), (1, .int (i3 x1)), (5, .int (i3 x5)), (6, .long (i6 x6))] [] := by
  refine z_iload F dX12_worst_66 rfl 2 rfl ?_
  refine z_istore_n F dX12_worst_68 rfl rfl (by decide) rfl ?_
  refine z_lload F dX12_worst_69 rfl 4 rfl ?_
  refine z_lstore_n F dX12_worst_71 rfl rfl (by decide) rfl ?_
  refine z_sub [2, 3, 1, 0, 4] rfl ?_
  exact bk_X12_worst_72 F hr k0 hK19 hw
set_option maxRecDepth 100000 in
set_option maxHeartbeats 4000000 in
theorem bk_X12_worst_B19 {g : En} {p : Program} {l : Launch} {e : Env} {s : State} {m : MethodId} {args : Array Value} {below : List Frame} {meth : Method} {c : Code} {M : Mem} {a0 : Nat} {Q : Int → Mem → Prop} {K19 : Mem → Int → Int → Int → Prop} {x1 : Int} {x2 : Int} {x3 : Int} {x5 : Int} (F : Fx g p s m args meth c cX12_worst 8 RX12) (hr : meth.sig.returnType = (some .int)) (k0 : kd a0 = 12)
    (hK19 : ∀ (M' : Mem) (x2' : Int) (x3' : Int) (x5' : Int), K19 M' x2' x3' x5' → Z g p l e rm_X12_worst s m args below meth c 8 (MQ below (va_Qi (S := Int × Mem) (fun r u => r = i3 u.1 ∧ Q u.1 u.2) (fun u => Rp g u.2) (aR g)) args s 0 0 (aR g)) M' 19 [(0, .ref (g.2.2.1 + a0)), (1, .int (i3 x1)), (2, .int (i3 x2')), (3, .long (i6 x3')), (5, .int (i3 x5'))] [])
    (hw : wp_X12_worst_B19 a0 Q K19 M x1 x2 x3 x5) : Z g p l e rm_X12_worst s m args below meth c 8 (MQ below (va_Qi (S := Int × Mem) (fun r u => r = i3 u.1 ∧ Q u.1 u.2) (fun u => Rp g u.2) (aR g)) args s 0 0 (aR g)) M 19 [(0, .ref (g.2.2.1 + a0)), (1, .int (i3 x1)), (2, .int (i3 x2)), (3, .long (i6 x3)), (5, .int (i3 x5))] [] := by
  refine z_iload F dX12_worst_19 rfl 4 rfl ?_
  refine z_aload_n F dX12_worst_21 rfl rfl 0 rfl ?_
  refine z_getI F fl_997 k0 dX12_worst_22 rfl ?_
  refine z_icmp_ge F dX12_worst_25 rfl rfl hw (fun hw => ?_) (fun hw => ?_)
  · refine z_iload_n F dX12_worst_78 rfl rfl 1 rfl ?_
    refine z_if_ne F dX12_worst_79 rfl rfl hw (fun hw => ?_) (fun hw => ?_)
    · refine z_lload_n F dX12_worst_86 rfl rfl 3 rfl ?_
      refine z_l2i F dX12_worst_87 rfl ?_
      exact z_iret (x := x3) F hr dX12_worst_88 hw
    · refine z_iload_n F dX12_worst_82 rfl rfl 2 rfl ?_
      refine z_goto F dX12_worst_83 rfl ?_
      exact z_iret (x := x2) F hr dX12_worst_88 hw
  · refine z_aload_n F dX12_worst_28 rfl rfl 0 rfl ?_
    refine z_getR F fl_999 k0 dX12_worst_29 rfl ?_
    refine z_iload F dX12_worst_32 rfl 4 rfl ?_
    refine z_bipush F dX12_worst_34 (by decide) rfl ?_
    refine z_iast F (tk_12_7 k0) dX12_worst_36 rfl hw (fun hw => ?_)
    refine z_nmM (fun M36 eM36 => ?_)
    have hw := hw M36 eM36
    refine z_aload_n F dX12_worst_37 rfl rfl 0 rfl ?_
    refine z_cVl (As := []) (st := []) F (c_X12_plays l g k0 hw) cv_X12_plays w_1366 ⟨rfl, rfl, Nat.le_of_ble_eq_true rfl, Nat.le_of_ble_eq_true rfl⟩ k0 rfl rfl (Nat.le_of_ble_eq_true rfl) dX12_worst_38 rfl (fun r38 M38 hw => ?_)
    refine z_lstore F dX12_worst_41 rfl (by decide) rfl ?_
    refine z_aload_n F dX12_worst_43 rfl rfl 1 rfl ?_
    refine z_getR F fl_999 k0 dX12_worst_44 rfl ?_
    refine z_iload F dX12_worst_47 rfl 5 rfl ?_
    refine z_iconst F dX12_worst_49 rfl ?_
    refine z_iast F (tk_12_7 k0) dX12_worst_50 rfl hw (fun hw => ?_)
    refine z_nmM (fun M50 eM50 => ?_)
    have hw := hw M50 eM50
    refine z_iload_n F dX12_worst_51 rfl rfl 3 rfl ?_
    refine z_iconst F dX12_worst_52 rfl ?_
    refine z_icmp_eq F dX12_worst_53 rfl rfl hw (fun hw => ?_) (fun hw => ?_)
    · refine z_sub [1, 2, 5, 0] rfl ?_
      exact bk_X12_worst_66 F hr k0 hK19 hw
    · refine z_lload F dX12_worst_56 rfl 0 rfl ?_
      refine z_lload_n F dX12_worst_58 rfl rfl 4 rfl ?_
      refine z_lcmp_gt F dX12_worst_59 rfl dX12_worst_60 rfl rfl hw (fun hw => ?_) (fun hw => ?_)
      · refine z_sub [1, 2, 5, 0] rfl ?_
        exact bk_X12_worst_66 F hr k0 hK19 hw
      · refine z_goto F dX12_worst_63 rfl ?_
        refine z_sub [1, 2, 3, 4, 5] rfl ?_
        exact bk_X12_worst_72 F hr k0 hK19 hw
set_option maxRecDepth 100000 in
set_option maxHeartbeats 4000000 in
theorem lp_X12_worst_19 {g : En} {p : Program} {l : Launch} {e : Env} {s : State} {m : MethodId} {args : Array Value} {below : List Frame} {meth : Method} {c : Code} {M : Mem} {a0 : Nat} {Q : Int → Mem → Prop} {x1 : Int} {x2 : Int} {x3 : Int} {x5 : Int} (F : Fx g p s m args meth c cX12_worst 8 RX12) (hr : meth.sig.returnType = (some .int)) (k0 : kd a0 = 12)
    (hw : wp_X12_worst_L19 a0 Q M x1 x2 x3 x5) : Z g p l e rm_X12_worst s m args below meth c 8 (MQ below (va_Qi (S := Int × Mem) (fun r u => r = i3 u.1 ∧ Q u.1 u.2) (fun u => Rp g u.2) (aR g)) args s 0 0 (aR g)) M 19 [(0, .ref (g.2.2.1 + a0)), (1, .int (i3 x1)), (2, .int (i3 x2)), (3, .long (i6 x3)), (5, .int (i3 x5))] [] := by
  obtain ⟨I, μ, h0, hb⟩ := hw
  have key : ∀ (n : Nat) (M : Mem) (x2 : Int) (x3 : Int) (x5 : Int), I M x2 x3 x5 → μ M x2 x3 x5 < n → Z g p l e rm_X12_worst s m args below meth c 8 (MQ below (va_Qi (S := Int × Mem) (fun r u => r = i3 u.1 ∧ Q u.1 u.2) (fun u => Rp g u.2) (aR g)) args s 0 0 (aR g)) M 19 [(0, .ref (g.2.2.1 + a0)), (1, .int (i3 x1)), (2, .int (i3 x2)), (3, .long (i6 x3)), (5, .int (i3 x5))] [] := by
    intro n
    induction n with
    | zero => exact fun _ _ _ _ _ h => absurd h (Nat.not_lt_zero _)
    | succ n ih =>
      intro M x2 x3 x5 hI hn
      exact bk_X12_worst_B19 F hr k0 (fun M' x2' x3' x5' hk => ih M' x2' x3' x5' hk.1 (Nat.lt_of_lt_of_le hk.2 (Nat.le_of_lt_succ hn))) (hb M x2 x3 x5 hI)
  exact key _ M x2 x3 x5 h0 (Nat.lt_succ_self _)
set_option maxRecDepth 100000 in
set_option maxHeartbeats 4000000 in
theorem c_X12_worst (l : Launch) (g : En) {a0 : Nat} {a1 : Int} {M : Mem} {Q : Int → Mem → Prop} (k0 : kd a0 = 12) (hw : wp_X12_worst a0 a1 M Q) :
    Met l yX12_worst (WS yX12_worst cX12_worst 8 (some .int)) rm_X12_worst (va_Pc [.ref (g.2.2.1 + a0), .int (i3 a1)] (Rp g M)) (va_Qi (S := Int × Mem) (fun r u => r = i3 u.1 ∧ Q u.1 u.2) (fun u => Rp g u.2) (aR g)) 0 0 (aR g) := by
  refine met_Z (plainFor_of_name rfl) (Nat.le_of_ble_eq_true rfl) ?_
  intro p e s m args below meth c F hr _
  show Z g p l e rm_X12_worst s m args below meth c 8 (MQ below (va_Qi (S := Int × Mem) (fun r u => r = i3 u.1 ∧ Q u.1 u.2) (fun u => Rp g u.2) (aR g)) args s 0 0 (aR g)) M 0 [(0, .ref (g.2.2.1 + a0)), (1, .int (i3 a1))] []
  refine z_iload_n F dX12_worst_0 rfl rfl 1 rfl ?_
  refine z_iconst F dX12_worst_1 rfl ?_
  refine z_iconst F dX12_worst_2 rfl ?_
  refine z_cSbp (As := [.int (i3 a1), .int (i3 0), .int (i3 1)]) (st := []) F (c_X12_within l g hw) cs_X12_within w_1102 ⟨rfl, rfl, Nat.le_of_ble_eq_true rfl, Nat.le_of_ble_eq_true rfl⟩ rfl (Nat.le_of_ble_eq_true rfl) dX12_worst_3 rfl (fun r3 hw => ?_)
  refine z_ifb_ne F dX12_worst_6 rfl rfl hw (fun hw => ?_) (fun hw => ?_)
  · refine z_iconst F dX12_worst_12 rfl ?_
    refine z_istore_n F dX12_worst_13 rfl rfl (by decide) rfl ?_
    refine z_lconst (v := 0) F dX12_worst_14 rfl rfl ?_
    refine z_lstore_n F dX12_worst_15 rfl rfl (by decide) rfl ?_
    refine z_iconst F dX12_worst_16 rfl ?_
    refine z_istore F dX12_worst_17 rfl (by decide) rfl ?_
    refine z_sub [3, 4, 2, 1, 0] rfl ?_
    exact lp_X12_worst_19 F hr k0 hw
  · refine z_bipush F dX12_worst_9 (by decide) rfl ?_
    exact z_iret (x := (-2)) F hr dX12_worst_11 hw
theorem cv_X12_worst : CV yX12_worst RX12 cX12_worst 8 (some .int) 1 := ⟨w_1378, w_1379, w_80, w_1380, rfl, by decide +kernel, by decide +kernel, by decide +kernel⟩
abbrev rm_X12_drawnBy : Room := { frames := 5, cells := 0, slots := 0, locals := 126 }
def wp_X12_drawnBy_B4 (a0 : Nat) (Q : Int → Mem → Prop) (K4 : Mem → Int → Int → Prop) (M : Mem) (x2 : Int) (x3 : Int) : Prop :=
  (((w32 (M a0 5) ≤ w32 x3) → (
    wp_X12_plays a0 M (fun r41 M41 =>
    wp_X12_clears a0 M41 (fun M46 =>
    Q r41 M46)))) ∧
  (¬ (w32 (M a0 5) ≤ w32 x3) → (
    ∀ v21 : Int, v21 = ((x2 * 1103515245) + 12345) →
    w32 4 ≠ 0 ∧ (
    inb (rt a0 7) x3 ∧ (
    ∀ M33 : Mem, M33 = st2 M (rt a0 7) (ix x3) ((w32 (v21 % 4294967296 / 512)).tmod (w32 4)) →
    K4 M33 v21 (x3 + 1))))))
def wp_X12_drawnBy_L4 (a0 : Nat) (Q : Int → Mem → Prop) (M : Mem) (x2 : Int) (x3 : Int) : Prop :=
  ∃ (I : Mem → Int → Int → Prop) (μ : Mem → Int → Int → Nat), I M x2 x3 ∧ ∀ (M : Mem) (x2 : Int) (x3 : Int), I M x2 x3 →
    wp_X12_drawnBy_B4 a0 Q (fun M' x2' x3' => I M' x2' x3' ∧ μ M' x2' x3' < μ M x2 x3) M x2 x3
def wp_X12_drawnBy (a0 : Nat) (a1 : Int) (M : Mem) (Q : Int → Mem → Prop) : Prop :=
  wp_X12_drawnBy_L4 a0 Q M a1 0
set_option maxRecDepth 100000 in
set_option maxHeartbeats 4000000 in
theorem bk_X12_drawnBy_B4 {g : En} {p : Program} {l : Launch} {e : Env} {s : State} {m : MethodId} {args : Array Value} {below : List Frame} {meth : Method} {c : Code} {M : Mem} {a0 : Nat} {Q : Int → Mem → Prop} {K4 : Mem → Int → Int → Prop} {x2 : Int} {x3 : Int} (F : Fx g p s m args meth c cX12_drawnBy 5 RX12) (hr : meth.sig.returnType = (some .int)) (k0 : kd a0 = 12)
    (hK4 : ∀ (M' : Mem) (x2' : Int) (x3' : Int), K4 M' x2' x3' → Z g p l e rm_X12_drawnBy s m args below meth c 5 (MQ below (va_Qi (S := Int × Mem) (fun r u => r = i3 u.1 ∧ Q u.1 u.2) (fun u => Rp g u.2) (aR g)) args s 0 0 (aR g)) M' 4 [(0, .ref (g.2.2.1 + a0)), (2, .int (i3 x2')), (3, .int (i3 x3'))] [])
    (hw : wp_X12_drawnBy_B4 a0 Q K4 M x2 x3) : Z g p l e rm_X12_drawnBy s m args below meth c 5 (MQ below (va_Qi (S := Int × Mem) (fun r u => r = i3 u.1 ∧ Q u.1 u.2) (fun u => Rp g u.2) (aR g)) args s 0 0 (aR g)) M 4 [(0, .ref (g.2.2.1 + a0)), (2, .int (i3 x2)), (3, .int (i3 x3))] [] := by
  refine z_iload_n F dX12_drawnBy_4 rfl rfl 2 rfl ?_
  refine z_aload_n F dX12_drawnBy_5 rfl rfl 0 rfl ?_
  refine z_getI F fl_997 k0 dX12_drawnBy_6 rfl ?_
  refine z_icmp_ge F dX12_drawnBy_9 rfl rfl hw (fun hw => ?_) (fun hw => ?_)
  · refine z_aload_n F dX12_drawnBy_40 rfl rfl 0 rfl ?_
    refine z_cVl (As := []) (st := []) F (c_X12_plays l g k0 hw) cv_X12_plays w_1366 ⟨rfl, rfl, Nat.le_of_ble_eq_true rfl, Nat.le_of_ble_eq_true rfl⟩ k0 rfl rfl (Nat.le_of_ble_eq_true rfl) dX12_drawnBy_41 rfl (fun r41 M41 hw => ?_)
    refine z_lstore_n F dX12_drawnBy_44 rfl rfl (by decide) rfl ?_
    refine z_aload_n F dX12_drawnBy_45 rfl rfl 1 rfl ?_
    refine z_cVv (As := []) (st := []) F (c_X12_clears l g k0 hw) cv_X12_clears w_1373 ⟨rfl, rfl, Nat.le_of_ble_eq_true rfl, Nat.le_of_ble_eq_true rfl⟩ k0 rfl rfl (Nat.le_of_ble_eq_true rfl) dX12_drawnBy_46 rfl (fun M46 hw => ?_)
    refine z_lload_n F dX12_drawnBy_49 rfl rfl 0 rfl ?_
    refine z_l2i F dX12_drawnBy_50 rfl ?_
    exact z_iret (x := r41) F hr dX12_drawnBy_51 hw
  · refine z_iload_n F dX12_drawnBy_12 rfl rfl 1 rfl ?_
    refine z_ldcw (n := 1103515245) F w_1389 (by decide) dX12_drawnBy_13 rfl ?_
    refine z_imul F dX12_drawnBy_16 rfl ?_
    refine z_sipush F dX12_drawnBy_17 (by decide) rfl ?_
    refine z_iadd F dX12_drawnBy_20 rfl ?_
    refine z_nmI (fun v21 ev21 => ?_)
    have hw := hw v21 ev21
    refine z_istore_n F dX12_drawnBy_21 rfl rfl (by decide) rfl ?_
    refine z_aload_n F dX12_drawnBy_22 rfl rfl 1 rfl ?_
    refine z_getR F fl_999 k0 dX12_drawnBy_23 rfl ?_
    refine z_iload_n F dX12_drawnBy_26 rfl rfl 2 rfl ?_
    refine z_iload_n F dX12_drawnBy_27 rfl rfl 0 rfl ?_
    refine z_bipush F dX12_drawnBy_28 (by decide) rfl ?_
    refine z_ush9 F dX12_drawnBy_30 rfl ?_
    refine z_iconst F dX12_drawnBy_31 rfl ?_
    refine z_irem F dX12_drawnBy_32 rfl hw (fun hw => ?_)
    refine z_iast F (tk_12_7 k0) dX12_drawnBy_33 rfl hw (fun hw => ?_)
    refine z_nmM (fun M33 eM33 => ?_)
    have hw := hw M33 eM33
    refine z_iinc F dX12_drawnBy_34 rfl 2 rfl (by decide) rfl ?_
    refine z_goto F dX12_drawnBy_37 rfl ?_
    refine z_sub [2, 1, 0] rfl ?_
    exact hK4 M33 v21 (x3 + 1) hw
set_option maxRecDepth 100000 in
set_option maxHeartbeats 4000000 in
theorem lp_X12_drawnBy_4 {g : En} {p : Program} {l : Launch} {e : Env} {s : State} {m : MethodId} {args : Array Value} {below : List Frame} {meth : Method} {c : Code} {M : Mem} {a0 : Nat} {Q : Int → Mem → Prop} {x2 : Int} {x3 : Int} (F : Fx g p s m args meth c cX12_drawnBy 5 RX12) (hr : meth.sig.returnType = (some .int)) (k0 : kd a0 = 12)
    (hw : wp_X12_drawnBy_L4 a0 Q M x2 x3) : Z g p l e rm_X12_drawnBy s m args below meth c 5 (MQ below (va_Qi (S := Int × Mem) (fun r u => r = i3 u.1 ∧ Q u.1 u.2) (fun u => Rp g u.2) (aR g)) args s 0 0 (aR g)) M 4 [(0, .ref (g.2.2.1 + a0)), (2, .int (i3 x2)), (3, .int (i3 x3))] [] := by
  obtain ⟨I, μ, h0, hb⟩ := hw
  have key : ∀ (n : Nat) (M : Mem) (x2 : Int) (x3 : Int), I M x2 x3 → μ M x2 x3 < n → Z g p l e rm_X12_drawnBy s m args below meth c 5 (MQ below (va_Qi (S := Int × Mem) (fun r u => r = i3 u.1 ∧ Q u.1 u.2) (fun u => Rp g u.2) (aR g)) args s 0 0 (aR g)) M 4 [(0, .ref (g.2.2.1 + a0)), (2, .int (i3 x2)), (3, .int (i3 x3))] [] := by
    intro n
    induction n with
    | zero => exact fun _ _ _ _ h => absurd h (Nat.not_lt_zero _)
    | succ n ih =>
      intro M x2 x3 hI hn
      exact bk_X12_drawnBy_B4 F hr k0 (fun M' x2' x3' hk => ih M' x2' x3' hk.1 (Nat.lt_of_lt_of_le hk.2 (Nat.le_of_lt_succ hn))) (hb M x2 x3 hI)
  exact key _ M x2 x3 h0 (Nat.lt_succ_self _)
set_option maxRecDepth 100000 in
set_option maxHeartbeats 4000000 in
theorem c_X12_drawnBy (l : Launch) (g : En) {a0 : Nat} {a1 : Int} {M : Mem} {Q : Int → Mem → Prop} (k0 : kd a0 = 12) (hw : wp_X12_drawnBy a0 a1 M Q) :
    Met l yX12_drawnBy (WS yX12_drawnBy cX12_drawnBy 5 (some .int)) rm_X12_drawnBy (va_Pc [.ref (g.2.2.1 + a0), .int (i3 a1)] (Rp g M)) (va_Qi (S := Int × Mem) (fun r u => r = i3 u.1 ∧ Q u.1 u.2) (fun u => Rp g u.2) (aR g)) 0 0 (aR g) := by
  refine met_Z (plainFor_of_name rfl) (Nat.le_of_ble_eq_true rfl) ?_
  intro p e s m args below meth c F hr _
  show Z g p l e rm_X12_drawnBy s m args below meth c 5 (MQ below (va_Qi (S := Int × Mem) (fun r u => r = i3 u.1 ∧ Q u.1 u.2) (fun u => Rp g u.2) (aR g)) args s 0 0 (aR g)) M 0 [(0, .ref (g.2.2.1 + a0)), (1, .int (i3 a1))] []
  refine z_iload_n F dX12_drawnBy_0 rfl rfl 1 rfl ?_
  refine z_istore_n F dX12_drawnBy_1 rfl rfl (by decide) rfl ?_
  refine z_iconst F dX12_drawnBy_2 rfl ?_
  refine z_istore_n F dX12_drawnBy_3 rfl rfl (by decide) rfl ?_
  refine z_sub [2, 1, 0] rfl ?_
  exact lp_X12_drawnBy_4 F hr k0 hw
theorem cv_X12_drawnBy : CV yX12_drawnBy RX12 cX12_drawnBy 5 (some .int) 1 := ⟨w_1387, w_64, w_80, w_1388, rfl, by decide +kernel, by decide +kernel, by decide +kernel⟩
abbrev rm_X12_drawn : Room := { frames := 6, cells := 0, slots := 0, locals := 150 }
def wp_X12_drawn (a0 : Nat) (a1 : Int) (M : Mem) (Q : Int → Mem → Prop) : Prop :=
  wp_X12_drawnBy a0 a1 M (fun r2 M2 =>
  Q r2 M2)
set_option maxRecDepth 100000 in
set_option maxHeartbeats 4000000 in
theorem c_X12_drawn (l : Launch) (g : En) {a0 : Nat} {a1 : Int} {M : Mem} {Q : Int → Mem → Prop} (k0 : kd a0 = 12) (hw : wp_X12_drawn a0 a1 M Q) :
    Met l yX12_drawn (WS yX12_drawn cX12_drawn 2 (some .int)) rm_X12_drawn (va_Pc [.ref (g.2.2.1 + a0), .int (i3 a1)] (Rp g M)) (va_Qi (S := Int × Mem) (fun r u => r = i3 u.1 ∧ Q u.1 u.2) (fun u => Rp g u.2) (aR g)) 0 0 (aR g) := by
  refine met_Z (plainFor_of_name rfl) (Nat.le_of_ble_eq_true rfl) ?_
  intro p e s m args below meth c F hr _
  show Z g p l e rm_X12_drawn s m args below meth c 2 (MQ below (va_Qi (S := Int × Mem) (fun r u => r = i3 u.1 ∧ Q u.1 u.2) (fun u => Rp g u.2) (aR g)) args s 0 0 (aR g)) M 0 [(0, .ref (g.2.2.1 + a0)), (1, .int (i3 a1))] []
  refine z_aload_n F dX12_drawn_0 rfl rfl 0 rfl ?_
  refine z_iload_n F dX12_drawn_1 rfl rfl 1 rfl ?_
  refine z_cVi (As := [.int (i3 a1)]) (st := []) F (c_X12_drawnBy l g k0 hw) cv_X12_drawnBy w_1385 ⟨rfl, rfl, Nat.le_of_ble_eq_true rfl, Nat.le_of_ble_eq_true rfl⟩ k0 rfl rfl (Nat.le_of_ble_eq_true rfl) dX12_drawn_2 rfl (fun r2 M2 hw => ?_)
  exact z_iret (x := r2) F hr dX12_drawn_5 hw
theorem cv_X12_drawn : CV yX12_drawn RX12 cX12_drawn 2 (some .int) 1 := ⟨w_1382, w_1383, w_80, w_1384, rfl, by decide +kernel, by decide +kernel, by decide +kernel⟩
abbrev rm_X12_chance : Room := { frames := 6, cells := 0, slots := 0, locals := 150 }
def wp_X12_chance_b48 (a0 : Nat) (Q : Int → Mem → Prop) (K28 : Mem → Int → Int → Prop) (M : Mem) (x1 : Int) (x2 : Int) (x3 : Int) (x4 : Int) (x5 : Int) : Prop :=
  K28 M x4 (x5 + 1)
def wp_X12_chance_B28 (a0 : Nat) (Q : Int → Mem → Prop) (K28 : Mem → Int → Int → Prop) (M : Mem) (x1 : Int) (x2 : Int) (x3 : Int) (x4 : Int) (x5 : Int) : Prop :=
  (((w32 x2 ≤ w32 x5) → (
    ∀ M56 : Mem, M56 = st2 M a0 8 (bz false) →
    wp_X12_lowest a0 (w32 x4) (w32 x2) M56 (fun M65 =>
    wp_X12_part a0 x3 M65 (fun r70 =>
    Q r70 M65)))) ∧
  (¬ (w32 x2 ≤ w32 x5) → (
    wp_X12_drawnBy a0 (x1 + x5) M (fun r39 M39 =>
    (((¬ w32 r39 = 0) → (
      wp_X12_chance_b48 a0 Q K28 M39 x1 x2 x3 x4 x5)) ∧
    (¬ (¬ w32 r39 = 0) → (
      wp_X12_chance_b48 a0 Q K28 M39 x1 x2 x3 (x4 + 1) x5)))))))
def wp_X12_chance_L28 (a0 : Nat) (Q : Int → Mem → Prop) (M : Mem) (x1 : Int) (x2 : Int) (x3 : Int) (x4 : Int) (x5 : Int) : Prop :=
  ∃ (I : Mem → Int → Int → Prop) (μ : Mem → Int → Int → Nat), I M x4 x5 ∧ ∀ (M : Mem) (x4 : Int) (x5 : Int), I M x4 x5 →
    wp_X12_chance_B28 a0 Q (fun M' x4' x5' => I M' x4' x5' ∧ μ M' x4' x5' < μ M x4 x5) M x1 x2 x3 x4 x5
def wp_X12_chance (a0 : Nat) (a1 : Int) (a2 : Int) (a3 : Int) (M : Mem) (Q : Int → Mem → Prop) : Prop :=
  wp_X12_within a2 1 20 M (fun r4 =>
  ((r4 = false → (
    Q (-2) M)) ∧
  (r4 = true → (
    wp_X12_within a3 0 1 M (fun r13 =>
    ((r13 = true → (
      wp_X12_chance_L28 a0 Q M a1 a2 a3 0 0)) ∧
    (r13 = false → (
      Q (-2) M))))))))
set_option maxRecDepth 100000 in
set_option maxHeartbeats 4000000 in
theorem bk_X12_chance_48 {g : En} {p : Program} {l : Launch} {e : Env} {s : State} {m : MethodId} {args : Array Value} {below : List Frame} {meth : Method} {c : Code} {M : Mem} {a0 : Nat} {Q : Int → Mem → Prop} {K28 : Mem → Int → Int → Prop} {x1 : Int} {x2 : Int} {x3 : Int} {x4 : Int} {x5 : Int} (F : Fx g p s m args meth c cX12_chance 6 RX12) (hr : meth.sig.returnType = (some .int)) (k0 : kd a0 = 12)
    (hK28 : ∀ (M' : Mem) (x4' : Int) (x5' : Int), K28 M' x4' x5' → Z g p l e rm_X12_chance s m args below meth c 6 (MQ below (va_Qi (S := Int × Mem) (fun r u => r = i3 u.1 ∧ Q u.1 u.2) (fun u => Rp g u.2) (aR g)) args s 0 0 (aR g)) M' 28 [(0, .ref (g.2.2.1 + a0)), (1, .int (i3 x1)), (2, .int (i3 x2)), (3, .int (i3 x3)), (4, .int (i3 x4')), (5, .int (i3 x5'))] [])
    (hw : wp_X12_chance_b48 a0 Q K28 M x1 x2 x3 x4 x5) : Z g p l e rm_X12_chance s m args below meth c 6 (MQ below (va_Qi (S := Int × Mem) (fun r u => r = i3 u.1 ∧ Q u.1 u.2) (fun u => Rp g u.2) (aR g)) args s 0 0 (aR g)) M 48 [(0, .ref (g.2.2.1 + a0)), (1, .int (i3 x1)), (2, .int (i3 x2)), (3, .int (i3 x3)), (4, .int (i3 x4)), (5, .int (i3 x5))] [] := by
  refine z_iinc F dX12_chance_48 rfl 5 rfl (by decide) rfl ?_
  refine z_goto F dX12_chance_51 rfl ?_
  refine z_sub [1, 2, 3, 4, 5, 0] rfl ?_
  exact hK28 M x4 (x5 + 1) hw
set_option maxRecDepth 100000 in
set_option maxHeartbeats 4000000 in
theorem bk_X12_chance_B28 {g : En} {p : Program} {l : Launch} {e : Env} {s : State} {m : MethodId} {args : Array Value} {below : List Frame} {meth : Method} {c : Code} {M : Mem} {a0 : Nat} {Q : Int → Mem → Prop} {K28 : Mem → Int → Int → Prop} {x1 : Int} {x2 : Int} {x3 : Int} {x4 : Int} {x5 : Int} (F : Fx g p s m args meth c cX12_chance 6 RX12) (hr : meth.sig.returnType = (some .int)) (k0 : kd a0 = 12)
    (hK28 : ∀ (M' : Mem) (x4' : Int) (x5' : Int), K28 M' x4' x5' → Z g p l e rm_X12_chance s m args below meth c 6 (MQ below (va_Qi (S := Int × Mem) (fun r u => r = i3 u.1 ∧ Q u.1 u.2) (fun u => Rp g u.2) (aR g)) args s 0 0 (aR g)) M' 28 [(0, .ref (g.2.2.1 + a0)), (1, .int (i3 x1)), (2, .int (i3 x2)), (3, .int (i3 x3)), (4, .int (i3 x4')), (5, .int (i3 x5'))] [])
    (hw : wp_X12_chance_B28 a0 Q K28 M x1 x2 x3 x4 x5) : Z g p l e rm_X12_chance s m args below meth c 6 (MQ below (va_Qi (S := Int × Mem) (fun r u => r = i3 u.1 ∧ Q u.1 u.2) (fun u => Rp g u.2) (aR g)) args s 0 0 (aR g)) M 28 [(0, .ref (g.2.2.1 + a0)), (1, .int (i3 x1)), (2, .int (i3 x2)), (3, .int (i3 x3)), (4, .int (i3 x4)), (5, .int (i3 x5))] [] := by
  refine z_iload F dX12_chance_28 rfl 5 rfl ?_
  refine z_iload_n F dX12_chance_30 rfl rfl 2 rfl ?_
  refine z_icmp_ge F dX12_chance_31 rfl rfl hw (fun hw => ?_) (fun hw => ?_)
  · refine z_aload_n F dX12_chance_54 rfl rfl 0 rfl ?_
    refine z_iconst F dX12_chance_55 rfl ?_
    refine z_putB (r := false) F fp_1000 k0 dX12_chance_56 rfl ?_
    refine z_nmM (fun M56 eM56 => ?_)
    have hw := hw M56 eM56
    refine z_aload_n F dX12_chance_59 rfl rfl 0 rfl ?_
    refine z_iload F dX12_chance_60 rfl 4 rfl ?_
    refine z_i2l F dX12_chance_62 rfl ?_
    refine z_iload_n F dX12_chance_63 rfl rfl 2 rfl ?_
    refine z_i2l F dX12_chance_64 rfl ?_
    refine z_cVv (As := [.long (i6 (w32 x4)), .long (i6 (w32 x2))]) (st := []) F (c_X12_lowest l g k0 hw) cv_X12_lowest w_1244 ⟨rfl, rfl, Nat.le_of_ble_eq_true rfl, Nat.le_of_ble_eq_true rfl⟩ k0 rfl rfl (Nat.le_of_ble_eq_true rfl) dX12_chance_65 rfl (fun M65 hw => ?_)
    refine z_aload_n F dX12_chance_68 rfl rfl 0 rfl ?_
    refine z_iload_n F dX12_chance_69 rfl rfl 3 rfl ?_
    refine z_cVlp (As := [.int (i3 x3)]) (st := []) F (c_X12_part l g k0 hw) cv_X12_part w_1274 ⟨rfl, rfl, Nat.le_of_ble_eq_true rfl, Nat.le_of_ble_eq_true rfl⟩ k0 rfl rfl (Nat.le_of_ble_eq_true rfl) dX12_chance_70 rfl (fun r70 hw => ?_)
    refine z_l2i F dX12_chance_73 rfl ?_
    exact z_iret (x := r70) F hr dX12_chance_74 hw
  · refine z_aload_n F dX12_chance_34 rfl rfl 0 rfl ?_
    refine z_iload_n F dX12_chance_35 rfl rfl 1 rfl ?_
    refine z_iload F dX12_chance_36 rfl 5 rfl ?_
    refine z_iadd F dX12_chance_38 rfl ?_
    refine z_cVi (As := [.int (i3 (x1 + x5))]) (st := []) F (c_X12_drawnBy l g k0 hw) cv_X12_drawnBy w_1385 ⟨rfl, rfl, Nat.le_of_ble_eq_true rfl, Nat.le_of_ble_eq_true rfl⟩ k0 rfl rfl (Nat.le_of_ble_eq_true rfl) dX12_chance_39 rfl (fun r39 M39 hw => ?_)
    refine z_if_ne F dX12_chance_42 rfl rfl hw (fun hw => ?_) (fun hw => ?_)
    · refine z_sub [0, 1, 2, 3, 4, 5] rfl ?_
      exact bk_X12_chance_48 F hr k0 hK28 hw
    · refine z_iinc F dX12_chance_45 rfl 4 rfl (by decide) rfl ?_
      refine z_sub [1, 2, 3, 4, 0, 5] rfl ?_
      exact bk_X12_chance_48 F hr k0 hK28 hw
set_option maxRecDepth 100000 in
set_option maxHeartbeats 4000000 in
theorem lp_X12_chance_28 {g : En} {p : Program} {l : Launch} {e : Env} {s : State} {m : MethodId} {args : Array Value} {below : List Frame} {meth : Method} {c : Code} {M : Mem} {a0 : Nat} {Q : Int → Mem → Prop} {x1 : Int} {x2 : Int} {x3 : Int} {x4 : Int} {x5 : Int} (F : Fx g p s m args meth c cX12_chance 6 RX12) (hr : meth.sig.returnType = (some .int)) (k0 : kd a0 = 12)
    (hw : wp_X12_chance_L28 a0 Q M x1 x2 x3 x4 x5) : Z g p l e rm_X12_chance s m args below meth c 6 (MQ below (va_Qi (S := Int × Mem) (fun r u => r = i3 u.1 ∧ Q u.1 u.2) (fun u => Rp g u.2) (aR g)) args s 0 0 (aR g)) M 28 [(0, .ref (g.2.2.1 + a0)), (1, .int (i3 x1)), (2, .int (i3 x2)), (3, .int (i3 x3)), (4, .int (i3 x4)), (5, .int (i3 x5))] [] := by
  obtain ⟨I, μ, h0, hb⟩ := hw
  have key : ∀ (n : Nat) (M : Mem) (x4 : Int) (x5 : Int), I M x4 x5 → μ M x4 x5 < n → Z g p l e rm_X12_chance s m args below meth c 6 (MQ below (va_Qi (S := Int × Mem) (fun r u => r = i3 u.1 ∧ Q u.1 u.2) (fun u => Rp g u.2) (aR g)) args s 0 0 (aR g)) M 28 [(0, .ref (g.2.2.1 + a0)), (1, .int (i3 x1)), (2, .int (i3 x2)), (3, .int (i3 x3)), (4, .int (i3 x4)), (5, .int (i3 x5))] [] := by
    intro n
    induction n with
    | zero => exact fun _ _ _ _ h => absurd h (Nat.not_lt_zero _)
    | succ n ih =>
      intro M x4 x5 hI hn
      exact bk_X12_chance_B28 F hr k0 (fun M' x4' x5' hk => ih M' x4' x5' hk.1 (Nat.lt_of_lt_of_le hk.2 (Nat.le_of_lt_succ hn))) (hb M x4 x5 hI)
  exact key _ M x4 x5 h0 (Nat.lt_succ_self _)
set_option maxRecDepth 100000 in
set_option maxHeartbeats 4000000 in
theorem c_X12_chance (l : Launch) (g : En) {a0 : Nat} {a1 : Int} {a2 : Int} {a3 : Int} {M : Mem} {Q : Int → Mem → Prop} (k0 : kd a0 = 12) (hw : wp_X12_chance a0 a1 a2 a3 M Q) :
    Met l yX12_chance (WS yX12_chance cX12_chance 6 (some .int)) rm_X12_chance (va_Pc [.ref (g.2.2.1 + a0), .int (i3 a1), .int (i3 a2), .int (i3 a3)] (Rp g M)) (va_Qi (S := Int × Mem) (fun r u => r = i3 u.1 ∧ Q u.1 u.2) (fun u => Rp g u.2) (aR g)) 0 0 (aR g) := by
  refine met_Z (plainFor_of_name rfl) (Nat.le_of_ble_eq_true rfl) ?_
  intro p e s m args below meth c F hr _
  show Z g p l e rm_X12_chance s m args below meth c 6 (MQ below (va_Qi (S := Int × Mem) (fun r u => r = i3 u.1 ∧ Q u.1 u.2) (fun u => Rp g u.2) (aR g)) args s 0 0 (aR g)) M 0 [(0, .ref (g.2.2.1 + a0)), (1, .int (i3 a1)), (2, .int (i3 a2)), (3, .int (i3 a3))] []
  refine z_iload_n F dX12_chance_0 rfl rfl 2 rfl ?_
  refine z_iconst F dX12_chance_1 rfl ?_
  refine z_bipush F dX12_chance_2 (by decide) rfl ?_
  refine z_cSbp (As := [.int (i3 a2), .int (i3 1), .int (i3 20)]) (st := []) F (c_X12_within l g hw) cs_X12_within w_1102 ⟨rfl, rfl, Nat.le_of_ble_eq_true rfl, Nat.le_of_ble_eq_true rfl⟩ rfl (Nat.le_of_ble_eq_true rfl) dX12_chance_4 rfl (fun r4 hw => ?_)
  refine z_ifb_eq F dX12_chance_7 rfl rfl hw (fun hw => ?_) (fun hw => ?_)
  · refine z_bipush F dX12_chance_19 (by decide) rfl ?_
    exact z_iret (x := (-2)) F hr dX12_chance_21 hw
  · refine z_iload_n F dX12_chance_10 rfl rfl 3 rfl ?_
    refine z_iconst F dX12_chance_11 rfl ?_
    refine z_iconst F dX12_chance_12 rfl ?_
    refine z_cSbp (As := [.int (i3 a3), .int (i3 0), .int (i3 1)]) (st := []) F (c_X12_within l g hw) cs_X12_within w_1102 ⟨rfl, rfl, Nat.le_of_ble_eq_true rfl, Nat.le_of_ble_eq_true rfl⟩ rfl (Nat.le_of_ble_eq_true rfl) dX12_chance_13 rfl (fun r13 hw => ?_)
    refine z_ifb_ne F dX12_chance_16 rfl rfl hw (fun hw => ?_) (fun hw => ?_)
    · refine z_iconst F dX12_chance_22 rfl ?_
      refine z_istore F dX12_chance_23 rfl (by decide) rfl ?_
      refine z_iconst F dX12_chance_25 rfl ?_
      refine z_istore F dX12_chance_26 rfl (by decide) rfl ?_
      refine z_sub [2, 3, 4, 5, 1, 0] rfl ?_
      exact lp_X12_chance_28 F hr k0 hw
    · refine z_bipush F dX12_chance_19 (by decide) rfl ?_
      exact z_iret (x := (-2)) F hr dX12_chance_21 hw
theorem cv_X12_chance : CV yX12_chance RX12 cX12_chance 6 (some .int) 3 := ⟨w_1391, w_1392, w_80, w_1393, rfl, by decide +kernel, by decide +kernel, by decide +kernel⟩
abbrev rm_X12_unlike : Room := { frames := 5, cells := 0, slots := 0, locals := 126 }
def wp_X12_unlike_B7 (a0 : Nat) (Q : Int → Mem → Prop) (K7 : Int → Prop) (M : Mem) (x1 : Int) (x2 : Int) : Prop :=
  inb (rt a0 32) x1 ∧ (
  (((w32 (M (rt a0 32) (ix x1)) ≤ w32 x2) → (
    Q (-1) M)) ∧
  (¬ (w32 (M (rt a0 32) (ix x1)) ≤ w32 x2) → (
    wp_X12_isRung a0 x2 M (fun r19 =>
    ((r19 = false → (
      Q x2 M)) ∧
    (r19 = true → (
      inb (rt a0 23) x2 ∧ (
      inb (rt a0 33) ((40 * x1) + x2) ∧ (
      (((w64 (M (rt a0 23) (ix x2)) = w64 (w32 (M (rt a0 33) (ix ((40 * x1) + x2))))) → (
        K7 (x2 + 1))) ∧
      (¬ (w64 (M (rt a0 23) (ix x2)) = w64 (w32 (M (rt a0 33) (ix ((40 * x1) + x2))))) → (
        Q x2 M)))))))))))))
def wp_X12_unlike_L7 (a0 : Nat) (Q : Int → Mem → Prop) (M : Mem) (x1 : Int) (x2 : Int) : Prop :=
  ∃ (I : Int → Prop) (μ : Int → Nat), I x2 ∧ ∀ (x2 : Int), I x2 →
    wp_X12_unlike_B7 a0 Q (fun x2' => I x2' ∧ μ x2' < μ x2) M x1 x2
def wp_X12_unlike (a0 : Nat) (a1 : Int) (M : Mem) (Q : Int → Mem → Prop) : Prop :=
  wp_X12_plays a0 M (fun r1 M1 =>
  wp_X12_unlike_L7 a0 Q M1 a1 0)
set_option maxRecDepth 100000 in
set_option maxHeartbeats 4000000 in
theorem bk_X12_unlike_B7 {g : En} {p : Program} {l : Launch} {e : Env} {s : State} {m : MethodId} {args : Array Value} {below : List Frame} {meth : Method} {c : Code} {M : Mem} {a0 : Nat} {Q : Int → Mem → Prop} {K7 : Int → Prop} {x1 : Int} {x2 : Int} (F : Fx g p s m args meth c cX12_unlike 3 RX12) (hr : meth.sig.returnType = (some .int)) (k0 : kd a0 = 12)
    (hK7 : ∀ (x2' : Int), K7 x2' → Z g p l e rm_X12_unlike s m args below meth c 3 (MQ below (va_Qi (S := Int × Mem) (fun r u => r = i3 u.1 ∧ Q u.1 u.2) (fun u => Rp g u.2) (aR g)) args s 0 0 (aR g)) M 7 [(0, .ref (g.2.2.1 + a0)), (1, .int (i3 x1)), (2, .int (i3 x2'))] [])
    (hw : wp_X12_unlike_B7 a0 Q K7 M x1 x2) : Z g p l e rm_X12_unlike s m args below meth c 3 (MQ below (va_Qi (S := Int × Mem) (fun r u => r = i3 u.1 ∧ Q u.1 u.2) (fun u => Rp g u.2) (aR g)) args s 0 0 (aR g)) M 7 [(0, .ref (g.2.2.1 + a0)), (1, .int (i3 x1)), (2, .int (i3 x2))] [] := by
  refine z_iload_n F dX12_unlike_7 rfl rfl 2 rfl ?_
  refine z_aload_n F dX12_unlike_8 rfl rfl 0 rfl ?_
  refine z_getR F fl_1024 k0 dX12_unlike_9 rfl ?_
  refine z_iload_n F dX12_unlike_12 rfl rfl 1 rfl ?_
  refine z_iald F (tk_12_32 k0) dX12_unlike_13 rfl hw (fun hw => ?_)
  refine z_icmp_ge F dX12_unlike_14 rfl rfl hw (fun hw => ?_) (fun hw => ?_)
  · refine z_iconst F dX12_unlike_55 rfl ?_
    exact z_iret (x := (-1)) F hr dX12_unlike_56 hw
  · refine z_aload_n F dX12_unlike_17 rfl rfl 0 rfl ?_
    refine z_iload_n F dX12_unlike_18 rfl rfl 2 rfl ?_
    refine z_cVbp (As := [.int (i3 x2)]) (st := []) F (c_X12_isRung l g k0 hw) cv_X12_isRung w_1127 ⟨rfl, rfl, Nat.le_of_ble_eq_true rfl, Nat.le_of_ble_eq_true rfl⟩ k0 rfl rfl (Nat.le_of_ble_eq_true rfl) dX12_unlike_19 rfl (fun r19 hw => ?_)
    refine z_ifb_eq F dX12_unlike_22 rfl rfl hw (fun hw => ?_) (fun hw => ?_)
    · refine z_iload_n F dX12_unlike_47 rfl rfl 2 rfl ?_
      exact z_iret (x := x2) F hr dX12_unlike_48 hw
    · refine z_aload_n F dX12_unlike_25 rfl rfl 0 rfl ?_
      refine z_getR F fl_1015 k0 dX12_unlike_26 rfl ?_
      refine z_iload_n F dX12_unlike_29 rfl rfl 2 rfl ?_
      refine z_lald F (tk_12_23 k0) dX12_unlike_30 rfl hw (fun hw => ?_)
      refine z_aload_n F dX12_unlike_31 rfl rfl 0 rfl ?_
      refine z_getR F fl_1025 k0 dX12_unlike_32 rfl ?_
      refine z_bipush F dX12_unlike_35 (by decide) rfl ?_
      refine z_iload_n F dX12_unlike_37 rfl rfl 1 rfl ?_
      refine z_imul F dX12_unlike_38 rfl ?_
      refine z_iload_n F dX12_unlike_39 rfl rfl 2 rfl ?_
      refine z_iadd F dX12_unlike_40 rfl ?_
      refine z_iald F (tk_12_33 k0) dX12_unlike_41 rfl hw (fun hw => ?_)
      refine z_i2l F dX12_unlike_42 rfl ?_
      refine z_lcmp_eq F dX12_unlike_43 rfl dX12_unlike_44 rfl rfl hw (fun hw => ?_) (fun hw => ?_)
      · refine z_iinc F dX12_unlike_49 rfl 2 rfl (by decide) rfl ?_
        refine z_goto F dX12_unlike_52 rfl ?_
        refine z_sub [1, 2, 0] rfl ?_
        exact hK7 (x2 + 1) hw
      · refine z_iload_n F dX12_unlike_47 rfl rfl 2 rfl ?_
        exact z_iret (x := x2) F hr dX12_unlike_48 hw
set_option maxRecDepth 100000 in
set_option maxHeartbeats 4000000 in
theorem lp_X12_unlike_7 {g : En} {p : Program} {l : Launch} {e : Env} {s : State} {m : MethodId} {args : Array Value} {below : List Frame} {meth : Method} {c : Code} {M : Mem} {a0 : Nat} {Q : Int → Mem → Prop} {x1 : Int} {x2 : Int} (F : Fx g p s m args meth c cX12_unlike 3 RX12) (hr : meth.sig.returnType = (some .int)) (k0 : kd a0 = 12)
    (hw : wp_X12_unlike_L7 a0 Q M x1 x2) : Z g p l e rm_X12_unlike s m args below meth c 3 (MQ below (va_Qi (S := Int × Mem) (fun r u => r = i3 u.1 ∧ Q u.1 u.2) (fun u => Rp g u.2) (aR g)) args s 0 0 (aR g)) M 7 [(0, .ref (g.2.2.1 + a0)), (1, .int (i3 x1)), (2, .int (i3 x2))] [] := by
  obtain ⟨I, μ, h0, hb⟩ := hw
  have key : ∀ (n : Nat) (x2 : Int), I x2 → μ x2 < n → Z g p l e rm_X12_unlike s m args below meth c 3 (MQ below (va_Qi (S := Int × Mem) (fun r u => r = i3 u.1 ∧ Q u.1 u.2) (fun u => Rp g u.2) (aR g)) args s 0 0 (aR g)) M 7 [(0, .ref (g.2.2.1 + a0)), (1, .int (i3 x1)), (2, .int (i3 x2))] [] := by
    intro n
    induction n with
    | zero => exact fun _ _ h => absurd h (Nat.not_lt_zero _)
    | succ n ih =>
      intro x2 hI hn
      exact bk_X12_unlike_B7 F hr k0 (fun x2' hk => ih x2' hk.1 (Nat.lt_of_lt_of_le hk.2 (Nat.le_of_lt_succ hn))) (hb x2 hI)
  exact key _ x2 h0 (Nat.lt_succ_self _)
set_option maxRecDepth 100000 in
set_option maxHeartbeats 4000000 in
theorem c_X12_unlike (l : Launch) (g : En) {a0 : Nat} {a1 : Int} {M : Mem} {Q : Int → Mem → Prop} (k0 : kd a0 = 12) (hw : wp_X12_unlike a0 a1 M Q) :
    Met l yX12_unlike (WS yX12_unlike cX12_unlike 3 (some .int)) rm_X12_unlike (va_Pc [.ref (g.2.2.1 + a0), .int (i3 a1)] (Rp g M)) (va_Qi (S := Int × Mem) (fun r u => r = i3 u.1 ∧ Q u.1 u.2) (fun u => Rp g u.2) (aR g)) 0 0 (aR g) := by
  refine met_Z (plainFor_of_name rfl) (Nat.le_of_ble_eq_true rfl) ?_
  intro p e s m args below meth c F hr _
  show Z g p l e rm_X12_unlike s m args below meth c 3 (MQ below (va_Qi (S := Int × Mem) (fun r u => r = i3 u.1 ∧ Q u.1 u.2) (fun u => Rp g u.2) (aR g)) args s 0 0 (aR g)) M 0 [(0, .ref (g.2.2.1 + a0)), (1, .int (i3 a1))] []
  refine z_aload_n F dX12_unlike_0 rfl rfl 0 rfl ?_
  refine z_cVl (As := []) (st := []) F (c_X12_plays l g k0 hw) cv_X12_plays w_1366 ⟨rfl, rfl, Nat.le_of_ble_eq_true rfl, Nat.le_of_ble_eq_true rfl⟩ k0 rfl rfl (Nat.le_of_ble_eq_true rfl) dX12_unlike_1 rfl (fun r1 M1 hw => ?_)
  refine z_pop2 F rfl dX12_unlike_4 rfl ?_
  refine z_iconst F dX12_unlike_5 rfl ?_
  refine z_istore_n F dX12_unlike_6 rfl rfl (by decide) rfl ?_
  refine z_sub [1, 2, 0] rfl ?_
  exact lp_X12_unlike_7 F hr k0 hw
theorem cv_X12_unlike : CV yX12_unlike RX12 cX12_unlike 3 (some .int) 1 := ⟨w_1400, w_65, w_80, w_1401, rfl, by decide +kernel, by decide +kernel, by decide +kernel⟩
abbrev rm_X12_tells : Room := { frames := 6, cells := 0, slots := 0, locals := 148 }
def wp_X12_tells_b120 (a0 : Nat) (Q : Int → Mem → Prop) (K85 : Mem → Int → Int → Int → Prop) (M : Mem) (x1 : Int) (x2 : Int) (x3 : Int) (x4 : Int) (x5 : Int) (x6 : Int) (x7 : Int) : Prop :=
  K85 M x5 x6 (x7 + (-1))
def wp_X12_tells_B85 (a0 : Nat) (Q : Int → Mem → Prop) (K85 : Mem → Int → Int → Int → Prop) (M : Mem) (x1 : Int) (x2 : Int) (x3 : Int) (x4 : Int) (x5 : Int) (x6 : Int) (x7 : Int) : Prop :=
  (((w32 x7 < 0) → (
    inb (rt a0 4) (30 + x3) ∧ (
    ∀ M136 : Mem, M136 = st2 M (rt a0 4) (ix (30 + x3)) x4 →
    (((¬ w32 x2 = w32 1) → (
      Q x6 M136)) ∧
    (¬ (¬ w32 x2 = w32 1) → (
      Q x5 M136)))))) ∧
  (¬ (w32 x7 < 0) → (
    inb (rt a0 4) (30 + x3) ∧ (
    ∀ M100 : Mem, M100 = st2 M (rt a0 4) (ix (30 + x3)) x7 →
    wp_X12_unlike a0 x1 M100 (fun r103 M103 =>
    (((w32 r103 = w32 (-1)) → (
      wp_X12_tells_b120 a0 Q K85 M103 x1 x2 x3 x4 (x5 + 1) x7 x7)) ∧
    (¬ (w32 r103 = w32 (-1)) → (
      wp_X12_tells_b120 a0 Q K85 M103 x1 x2 x3 x4 x5 x6 x7))))))))
def wp_X12_tells_L85 (a0 : Nat) (Q : Int → Mem → Prop) (M : Mem) (x1 : Int) (x2 : Int) (x3 : Int) (x4 : Int) (x5 : Int) (x6 : Int) (x7 : Int) : Prop :=
  ∃ (I : Mem → Int → Int → Int → Prop) (μ : Mem → Int → Int → Int → Nat), I M x5 x6 x7 ∧ ∀ (M : Mem) (x5 : Int) (x6 : Int) (x7 : Int), I M x5 x6 x7 →
    wp_X12_tells_B85 a0 Q (fun M' x5' x6' x7' => I M' x5' x6' x7' ∧ μ M' x5' x6' x7' < μ M x5 x6 x7) M x1 x2 x3 x4 x5 x6 x7
def wp_X12_tells_b31 (a0 : Nat) (Q : Int → Mem → Prop) (M : Mem) (x1 : Int) (x2 : Int) (x3 : Int) : Prop :=
  inb (rt a0 31) x1 ∧ (
  (((¬ w32 (M (rt a0 31) (ix x1)) = 0) → (
    inb (rt a0 32) x1 ∧ (
    (((w32 (M (rt a0 32) (ix x1)) ≤ w32 5) → (
      (((¬ w32 x2 = 0) → (
        wp_X12_of a0 x3 6 M (fun r70 =>
        wp_X12_tells_L85 a0 Q M x1 x2 x3 r70 0 (-1) 99))) ∧
      (¬ (¬ w32 x2 = 0) → (
        wp_X12_unlike a0 x1 M (fun r62 M62 =>
        Q r62 M62)))))) ∧
    (¬ (w32 (M (rt a0 32) (ix x1)) ≤ w32 5) → (
      Q (-2) M)))))) ∧
  (¬ (¬ w32 (M (rt a0 31) (ix x1)) = 0) → (
    Q (-11) M))))
def wp_X12_tells (a0 : Nat) (a1 : Int) (a2 : Int) (a3 : Int) (M : Mem) (Q : Int → Mem → Prop) : Prop :=
  wp_X12_isSheet a1 M (fun r1 =>
  ((r1 = false → (
    Q (-2) M)) ∧
  (r1 = true → (
    wp_X12_within a2 0 2 M (fun r10 =>
    ((r10 = false → (
      Q (-2) M)) ∧
    (r10 = true → (
      (((w32 a2 ≤ 0) → (
        wp_X12_tells_b31 a0 Q M a1 a2 a3)) ∧
      (¬ (w32 a2 ≤ 0) → (
        wp_X12_isBond a0 a3 M (fun r22 =>
        ((r22 = true → (
          wp_X12_tells_b31 a0 Q M a1 a2 a3)) ∧
        (r22 = false → (
          Q (-2) M)))))))))))))))
set_option maxRecDepth 100000 in
set_option maxHeartbeats 4000000 in
theorem bk_X12_tells_120 {g : En} {p : Program} {l : Launch} {e : Env} {s : State} {m : MethodId} {args : Array Value} {below : List Frame} {meth : Method} {c : Code} {M : Mem} {a0 : Nat} {Q : Int → Mem → Prop} {K85 : Mem → Int → Int → Int → Prop} {x1 : Int} {x2 : Int} {x3 : Int} {x4 : Int} {x5 : Int} {x6 : Int} {x7 : Int} (F : Fx g p s m args meth c cX12_tells 8 RX12) (hr : meth.sig.returnType = (some .int)) (k0 : kd a0 = 12)
    (hK85 : ∀ (M' : Mem) (x5' : Int) (x6' : Int) (x7' : Int), K85 M' x5' x6' x7' → Z g p l e rm_X12_tells s m args below meth c 8 (MQ below (va_Qi (S := Int × Mem) (fun r u => r = i3 u.1 ∧ Q u.1 u.2) (fun u => Rp g u.2) (aR g)) args s 0 0 (aR g)) M' 85 [(0, .ref (g.2.2.1 + a0)), (1, .int (i3 x1)), (2, .int (i3 x2)), (3, .int (i3 x3)), (4, .int (i3 x4)), (5, .int (i3 x5')), (6, .int (i3 x6')), (7, .int (i3 x7'))] [])
    (hw : wp_X12_tells_b120 a0 Q K85 M x1 x2 x3 x4 x5 x6 x7) : Z g p l e rm_X12_tells s m args below meth c 8 (MQ below (va_Qi (S := Int × Mem) (fun r u => r = i3 u.1 ∧ Q u.1 u.2) (fun u => Rp g u.2) (aR g)) args s 0 0 (aR g)) M 120 [(0, .ref (g.2.2.1 + a0)), (1, .int (i3 x1)), (2, .int (i3 x2)), (3, .int (i3 x3)), (4, .int (i3 x4)), (5, .int (i3 x5)), (6, .int (i3 x6)), (7, .int (i3 x7))] [] := by
  refine z_iinc F dX12_tells_120 rfl 7 rfl (by decide) rfl ?_
  refine z_goto F dX12_tells_123 rfl ?_
  refine z_sub [1, 2, 3, 4, 5, 6, 7, 0] rfl ?_
  exact hK85 M x5 x6 (x7 + (-1)) hw
set_option maxRecDepth 100000 in
set_option maxHeartbeats 4000000 in
theorem bk_X12_tells_B85 {g : En} {p : Program} {l : Launch} {e : Env} {s : State} {m : MethodId} {args : Array Value} {below : List Frame} {meth : Method} {c : Code} {M : Mem} {a0 : Nat} {Q : Int → Mem → Prop} {K85 : Mem → Int → Int → Int → Prop} {x1 : Int} {x2 : Int} {x3 : Int} {x4 : Int} {x5 : Int} {x6 : Int} {x7 : Int} (F : Fx g p s m args meth c cX12_tells 8 RX12) (hr : meth.sig.returnType = (some .int)) (k0 : kd a0 = 12)
    (hK85 : ∀ (M' : Mem) (x5' : Int) (x6' : Int) (x7' : Int), K85 M' x5' x6' x7' → Z g p l e rm_X12_tells s m args below meth c 8 (MQ below (va_Qi (S := Int × Mem) (fun r u => r = i3 u.1 ∧ Q u.1 u.2) (fun u => Rp g u.2) (aR g)) args s 0 0 (aR g)) M' 85 [(0, .ref (g.2.2.1 + a0)), (1, .int (i3 x1)), (2, .int (i3 x2)), (3, .int (i3 x3)), (4, .int (i3 x4)), (5, .int (i3 x5')), (6, .int (i3 x6')), (7, .int (i3 x7'))] [])
    (hw : wp_X12_tells_B85 a0 Q K85 M x1 x2 x3 x4 x5 x6 x7) : Z g p l e rm_X12_tells s m args below meth c 8 (MQ below (va_Qi (S := Int × Mem) (fun r u => r = i3 u.1 ∧ Q u.1 u.2) (fun u => Rp g u.2) (aR g)) args s 0 0 (aR g)) M 85 [(0, .ref (g.2.2.1 + a0)), (1, .int (i3 x1)), (2, .int (i3 x2)), (3, .int (i3 x3)), (4, .int (i3 x4)), (5, .int (i3 x5)), (6, .int (i3 x6)), (7, .int (i3 x7))] [] := by
  refine z_iload F dX12_tells_85 rfl 7 rfl ?_
  refine z_if_lt F dX12_tells_87 rfl rfl hw (fun hw => ?_) (fun hw => ?_)
  · refine z_aload_n F dX12_tells_126 rfl rfl 0 rfl ?_
    refine z_getR F fl_996 k0 dX12_tells_127 rfl ?_
    refine z_bipush F dX12_tells_130 (by decide) rfl ?_
    refine z_iload_n F dX12_tells_132 rfl rfl 3 rfl ?_
    refine z_iadd F dX12_tells_133 rfl ?_
    refine z_iload F dX12_tells_134 rfl 4 rfl ?_
    refine z_iast F (tk_12_4 k0) dX12_tells_136 rfl hw (fun hw => ?_)
    refine z_nmM (fun M136 eM136 => ?_)
    have hw := hw M136 eM136
    refine z_iload_n F dX12_tells_137 rfl rfl 2 rfl ?_
    refine z_iconst F dX12_tells_138 rfl ?_
    refine z_icmp_ne F dX12_tells_139 rfl rfl hw (fun hw => ?_) (fun hw => ?_)
    · refine z_iload F dX12_tells_147 rfl 6 rfl ?_
      exact z_iret (x := x6) F hr dX12_tells_149 hw
    · refine z_iload F dX12_tells_142 rfl 5 rfl ?_
      refine z_goto F dX12_tells_144 rfl ?_
      exact z_iret (x := x5) F hr dX12_tells_149 hw
  · refine z_aload_n F dX12_tells_90 rfl rfl 0 rfl ?_
    refine z_getR F fl_996 k0 dX12_tells_91 rfl ?_
    refine z_bipush F dX12_tells_94 (by decide) rfl ?_
    refine z_iload_n F dX12_tells_96 rfl rfl 3 rfl ?_
    refine z_iadd F dX12_tells_97 rfl ?_
    refine z_iload F dX12_tells_98 rfl 7 rfl ?_
    refine z_iast F (tk_12_4 k0) dX12_tells_100 rfl hw (fun hw => ?_)
    refine z_nmM (fun M100 eM100 => ?_)
    have hw := hw M100 eM100
    refine z_aload_n F dX12_tells_101 rfl rfl 0 rfl ?_
    refine z_iload_n F dX12_tells_102 rfl rfl 1 rfl ?_
    refine z_cVi (As := [.int (i3 x1)]) (st := []) F (c_X12_unlike l g k0 hw) cv_X12_unlike w_1398 ⟨rfl, rfl, Nat.le_of_ble_eq_true rfl, Nat.le_of_ble_eq_true rfl⟩ k0 rfl rfl (Nat.le_of_ble_eq_true rfl) dX12_tells_103 rfl (fun r103 M103 hw => ?_)
    refine z_iconst F dX12_tells_106 rfl ?_
    refine z_icmp_eq F dX12_tells_107 rfl rfl hw (fun hw => ?_) (fun hw => ?_)
    · refine z_iinc F dX12_tells_113 rfl 5 rfl (by decide) rfl ?_
      refine z_iload F dX12_tells_116 rfl 7 rfl ?_
      refine z_istore F dX12_tells_118 rfl (by decide) rfl ?_
      refine z_sub [2, 3, 4, 5, 6, 1, 0, 7] rfl ?_
      exact bk_X12_tells_120 F hr k0 hK85 hw
    · refine z_goto F dX12_tells_110 rfl ?_
      refine z_sub [0, 1, 2, 3, 4, 5, 6, 7] rfl ?_
      exact bk_X12_tells_120 F hr k0 hK85 hw
set_option maxRecDepth 100000 in
set_option maxHeartbeats 4000000 in
theorem lp_X12_tells_85 {g : En} {p : Program} {l : Launch} {e : Env} {s : State} {m : MethodId} {args : Array Value} {below : List Frame} {meth : Method} {c : Code} {M : Mem} {a0 : Nat} {Q : Int → Mem → Prop} {x1 : Int} {x2 : Int} {x3 : Int} {x4 : Int} {x5 : Int} {x6 : Int} {x7 : Int} (F : Fx g p s m args meth c cX12_tells 8 RX12) (hr : meth.sig.returnType = (some .int)) (k0 : kd a0 = 12)
    (hw : wp_X12_tells_L85 a0 Q M x1 x2 x3 x4 x5 x6 x7) : Z g p l e rm_X12_tells s m args below meth c 8 (MQ below (va_Qi (S := Int × Mem) (fun r u => r = i3 u.1 ∧ Q u.1 u.2) (fun u => Rp g u.2) (aR g)) args s 0 0 (aR g)) M 85 [(0, .ref (g.2.2.1 + a0)), (1, .int (i3 x1)), (2, .int (i3 x2)), (3, .int (i3 x3)), (4, .int (i3 x4)), (5, .int (i3 x5)), (6, .int (i3 x6)), (7, .int (i3 x7))] [] := by
  obtain ⟨I, μ, h0, hb⟩ := hw
  have key : ∀ (n : Nat) (M : Mem) (x5 : Int) (x6 : Int) (x7 : Int), I M x5 x6 x7 → μ M x5 x6 x7 < n → Z g p l e rm_X12_tells s m args below meth c 8 (MQ below (va_Qi (S := Int × Mem) (fun r u => r = i3 u.1 ∧ Q u.1 u.2) (fun u => Rp g u.2) (aR g)) args s 0 0 (aR g)) M 85 [(0, .ref (g.2.2.1 + a0)), (1, .int (i3 x1)), (2, .int (i3 x2)), (3, .int (i3 x3)), (4, .int (i3 x4)), (5, .int (i3 x5)), (6, .int (i3 x6)), (7, .int (i3 x7))] [] := by
    intro n
    induction n with
    | zero => exact fun _ _ _ _ _ h => absurd h (Nat.not_lt_zero _)
    | succ n ih =>
      intro M x5 x6 x7 hI hn
      exact bk_X12_tells_B85 F hr k0 (fun M' x5' x6' x7' hk => ih M' x5' x6' x7' hk.1 (Nat.lt_of_lt_of_le hk.2 (Nat.le_of_lt_succ hn))) (hb M x5 x6 x7 hI)
  exact key _ M x5 x6 x7 h0 (Nat.lt_succ_self _)
set_option maxRecDepth 100000 in
set_option maxHeartbeats 4000000 in
theorem bk_X12_tells_31 {g : En} {p : Program} {l : Launch} {e : Env} {s : State} {m : MethodId} {args : Array Value} {below : List Frame} {meth : Method} {c : Code} {M : Mem} {a0 : Nat} {Q : Int → Mem → Prop} {x1 : Int} {x2 : Int} {x3 : Int} (F : Fx g p s m args meth c cX12_tells 8 RX12) (hr : meth.sig.returnType = (some .int)) (k0 : kd a0 = 12)
    (hw : wp_X12_tells_b31 a0 Q M x1 x2 x3) : Z g p l e rm_X12_tells s m args below meth c 8 (MQ below (va_Qi (S := Int × Mem) (fun r u => r = i3 u.1 ∧ Q u.1 u.2) (fun u => Rp g u.2) (aR g)) args s 0 0 (aR g)) M 31 [(0, .ref (g.2.2.1 + a0)), (1, .int (i3 x1)), (2, .int (i3 x2)), (3, .int (i3 x3))] [] := by
  refine z_aload_n F dX12_tells_31 rfl rfl 0 rfl ?_
  refine z_getR F fl_1023 k0 dX12_tells_32 rfl ?_
  refine z_iload_n F dX12_tells_35 rfl rfl 1 rfl ?_
  refine z_iald F (tk_12_31 k0) dX12_tells_36 rfl hw (fun hw => ?_)
  refine z_if_ne F dX12_tells_37 rfl rfl hw (fun hw => ?_) (fun hw => ?_)
  · refine z_aload_n F dX12_tells_43 rfl rfl 0 rfl ?_
    refine z_getR F fl_1024 k0 dX12_tells_44 rfl ?_
    refine z_iload_n F dX12_tells_47 rfl rfl 1 rfl ?_
    refine z_iald F (tk_12_32 k0) dX12_tells_48 rfl hw (fun hw => ?_)
    refine z_iconst F dX12_tells_49 rfl ?_
    refine z_icmp_le F dX12_tells_50 rfl rfl hw (fun hw => ?_) (fun hw => ?_)
    · refine z_iload_n F dX12_tells_56 rfl rfl 2 rfl ?_
      refine z_if_ne F dX12_tells_57 rfl rfl hw (fun hw => ?_) (fun hw => ?_)
      · refine z_aload_n F dX12_tells_66 rfl rfl 0 rfl ?_
        refine z_iload_n F dX12_tells_67 rfl rfl 3 rfl ?_
        refine z_bipush F dX12_tells_68 (by decide) rfl ?_
        refine z_cVip (As := [.int (i3 x3), .int (i3 6)]) (st := []) F (c_X12_of l g k0 hw) cv_X12_of w_1155 ⟨rfl, rfl, Nat.le_of_ble_eq_true rfl, Nat.le_of_ble_eq_true rfl⟩ k0 rfl rfl (Nat.le_of_ble_eq_true rfl) dX12_tells_70 rfl (fun r70 hw => ?_)
        refine z_istore F dX12_tells_73 rfl (by decide) rfl ?_
        refine z_iconst F dX12_tells_75 rfl ?_
        refine z_istore F dX12_tells_76 rfl (by decide) rfl ?_
        refine z_iconst F dX12_tells_78 rfl ?_
        refine z_istore F dX12_tells_79 rfl (by decide) rfl ?_
        refine z_bipush F dX12_tells_81 (by decide) rfl ?_
        refine z_istore F dX12_tells_83 rfl (by decide) rfl ?_
        refine z_sub [4, 5, 6, 7, 3, 2, 1, 0] rfl ?_
        exact lp_X12_tells_85 F hr k0 hw
      · refine z_aload_n F dX12_tells_60 rfl rfl 0 rfl ?_
        refine z_iload_n F dX12_tells_61 rfl rfl 1 rfl ?_
        refine z_cVi (As := [.int (i3 x1)]) (st := []) F (c_X12_unlike l g k0 hw) cv_X12_unlike w_1398 ⟨rfl, rfl, Nat.le_of_ble_eq_true rfl, Nat.le_of_ble_eq_true rfl⟩ k0 rfl rfl (Nat.le_of_ble_eq_true rfl) dX12_tells_62 rfl (fun r62 M62 hw => ?_)
        exact z_iret (x := r62) F hr dX12_tells_65 hw
    · refine z_bipush F dX12_tells_53 (by decide) rfl ?_
      exact z_iret (x := (-2)) F hr dX12_tells_55 hw
  · refine z_bipush F dX12_tells_40 (by decide) rfl ?_
    exact z_iret (x := (-11)) F hr dX12_tells_42 hw
set_option maxRecDepth 100000 in
set_option maxHeartbeats 4000000 in
theorem c_X12_tells (l : Launch) (g : En) {a0 : Nat} {a1 : Int} {a2 : Int} {a3 : Int} {M : Mem} {Q : Int → Mem → Prop} (k0 : kd a0 = 12) (hw : wp_X12_tells a0 a1 a2 a3 M Q) :
    Met l yX12_tells (WS yX12_tells cX12_tells 8 (some .int)) rm_X12_tells (va_Pc [.ref (g.2.2.1 + a0), .int (i3 a1), .int (i3 a2), .int (i3 a3)] (Rp g M)) (va_Qi (S := Int × Mem) (fun r u => r = i3 u.1 ∧ Q u.1 u.2) (fun u => Rp g u.2) (aR g)) 0 0 (aR g) := by
  refine met_Z (plainFor_of_name rfl) (Nat.le_of_ble_eq_true rfl) ?_
  intro p e s m args below meth c F hr _
  show Z g p l e rm_X12_tells s m args below meth c 8 (MQ below (va_Qi (S := Int × Mem) (fun r u => r = i3 u.1 ∧ Q u.1 u.2) (fun u => Rp g u.2) (aR g)) args s 0 0 (aR g)) M 0 [(0, .ref (g.2.2.1 + a0)), (1, .int (i3 a1)), (2, .int (i3 a2)), (3, .int (i3 a3))] []
  refine z_iload_n F dX12_tells_0 rfl rfl 1 rfl ?_
  refine z_cSbp (As := [.int (i3 a1)]) (st := []) F (c_X12_isSheet l g hw) cs_X12_isSheet w_1363 ⟨rfl, rfl, Nat.le_of_ble_eq_true rfl, Nat.le_of_ble_eq_true rfl⟩ rfl (Nat.le_of_ble_eq_true rfl) dX12_tells_1 rfl (fun r1 hw => ?_)
  refine z_ifb_eq F dX12_tells_4 rfl rfl hw (fun hw => ?_) (fun hw => ?_)
  · refine z_bipush F dX12_tells_28 (by decide) rfl ?_
    exact z_iret (x := (-2)) F hr dX12_tells_30 hw
  · refine z_iload_n F dX12_tells_7 rfl rfl 2 rfl ?_
    refine z_iconst F dX12_tells_8 rfl ?_
    refine z_iconst F dX12_tells_9 rfl ?_
    refine z_cSbp (As := [.int (i3 a2), .int (i3 0), .int (i3 2)]) (st := []) F (c_X12_within l g hw) cs_X12_within w_1102 ⟨rfl, rfl, Nat.le_of_ble_eq_true rfl, Nat.le_of_ble_eq_true rfl⟩ rfl (Nat.le_of_ble_eq_true rfl) dX12_tells_10 rfl (fun r10 hw => ?_)
    refine z_ifb_eq F dX12_tells_13 rfl rfl hw (fun hw => ?_) (fun hw => ?_)
    · refine z_bipush F dX12_tells_28 (by decide) rfl ?_
      exact z_iret (x := (-2)) F hr dX12_tells_30 hw
    · refine z_iload_n F dX12_tells_16 rfl rfl 2 rfl ?_
      refine z_if_le F dX12_tells_17 rfl rfl hw (fun hw => ?_) (fun hw => ?_)
      · refine z_sub [0, 1, 2, 3] rfl ?_
        exact bk_X12_tells_31 F hr k0 hw
      · refine z_aload_n F dX12_tells_20 rfl rfl 0 rfl ?_
        refine z_iload_n F dX12_tells_21 rfl rfl 3 rfl ?_
        refine z_cVbp (As := [.int (i3 a3)]) (st := []) F (c_X12_isBond l g k0 hw) cv_X12_isBond w_1151 ⟨rfl, rfl, Nat.le_of_ble_eq_true rfl, Nat.le_of_ble_eq_true rfl⟩ k0 rfl rfl (Nat.le_of_ble_eq_true rfl) dX12_tells_22 rfl (fun r22 hw => ?_)
        refine z_ifb_ne F dX12_tells_25 rfl rfl hw (fun hw => ?_) (fun hw => ?_)
        · refine z_sub [0, 1, 2, 3] rfl ?_
          exact bk_X12_tells_31 F hr k0 hw
        · refine z_bipush F dX12_tells_28 (by decide) rfl ?_
          exact z_iret (x := (-2)) F hr dX12_tells_30 hw
theorem cv_X12_tells : CV yX12_tells RX12 cX12_tells 8 (some .int) 3 := ⟨w_1395, w_1396, w_80, w_1397, rfl, by decide +kernel, by decide +kernel, by decide +kernel⟩
abbrev rm_X12_film : Room := { frames := 5, cells := 0, slots := 0, locals := 126 }
def wp_X12_film_b69 (a0 : Nat) (Q : Int → Mem → Prop) (K34 : Mem → Int → Prop) (M : Mem) (s1 : Int) (s2 : Int) (x1 : Int) (x2 : Int) : Prop :=
  inb (rt a0 33) s1 ∧ (
  ∀ M69 : Mem, M69 = st2 M (rt a0 33) (ix s1) s2 →
  K34 M69 (x2 + 1))
def wp_X12_film_B34 (a0 : Nat) (Q : Int → Mem → Prop) (K34 : Mem → Int → Prop) (M : Mem) (x1 : Int) (x2 : Int) : Prop :=
  (((w32 40 ≤ w32 x2) → (
    Q (M a0 5) M)) ∧
  (¬ (w32 40 ≤ w32 x2) → (
    (((w32 (M a0 5) ≤ w32 x2) → (
      wp_X12_film_b69 a0 Q K34 M ((40 * x1) + x2) 0 x1 x2)) ∧
    (¬ (w32 (M a0 5) ≤ w32 x2) → (
      inb (rt a0 23) x2 ∧ (
      wp_X12_film_b69 a0 Q K34 M ((40 * x1) + x2) (M (rt a0 23) (ix x2)) x1 x2)))))))
def wp_X12_film_L34 (a0 : Nat) (Q : Int → Mem → Prop) (M : Mem) (x1 : Int) (x2 : Int) : Prop :=
  ∃ (I : Mem → Int → Prop) (μ : Mem → Int → Nat), I M x2 ∧ ∀ (M : Mem) (x2 : Int), I M x2 →
    wp_X12_film_B34 a0 Q (fun M' x2' => I M' x2' ∧ μ M' x2' < μ M x2) M x1 x2
def wp_X12_film (a0 : Nat) (a1 : Int) (M : Mem) (Q : Int → Mem → Prop) : Prop :=
  wp_X12_isSheet a1 M (fun r1 =>
  ((r1 = true → (
    wp_X12_plays a0 M (fun r11 M11 =>
    inb (rt a0 31) a1 ∧ (
    ∀ M21 : Mem, M21 = st2 M11 (rt a0 31) (ix a1) 2 →
    inb (rt a0 32) a1 ∧ (
    ∀ M31 : Mem, M31 = st2 M21 (rt a0 32) (ix a1) (M21 a0 5) →
    wp_X12_film_L34 a0 Q M31 a1 0))))) ∧
  (r1 = false → (
    Q (-2) M))))
set_option maxRecDepth 100000 in
set_option maxHeartbeats 4000000 in
theorem bk_X12_film_69 {g : En} {p : Program} {l : Launch} {e : Env} {s : State} {m : MethodId} {args : Array Value} {below : List Frame} {meth : Method} {c : Code} {M : Mem} {a0 : Nat} {Q : Int → Mem → Prop} {K34 : Mem → Int → Prop} {s1 : Int} {s2 : Int} {x1 : Int} {x2 : Int} (F : Fx g p s m args meth c cX12_film 3 RX12) (hr : meth.sig.returnType = (some .int)) (k0 : kd a0 = 12)
    (hK34 : ∀ (M' : Mem) (x2' : Int), K34 M' x2' → Z g p l e rm_X12_film s m args below meth c 3 (MQ below (va_Qi (S := Int × Mem) (fun r u => r = i3 u.1 ∧ Q u.1 u.2) (fun u => Rp g u.2) (aR g)) args s 0 0 (aR g)) M' 34 [(0, .ref (g.2.2.1 + a0)), (1, .int (i3 x1)), (2, .int (i3 x2'))] [])
    (hw : wp_X12_film_b69 a0 Q K34 M s1 s2 x1 x2) : Z g p l e rm_X12_film s m args below meth c 3 (MQ below (va_Qi (S := Int × Mem) (fun r u => r = i3 u.1 ∧ Q u.1 u.2) (fun u => Rp g u.2) (aR g)) args s 0 0 (aR g)) M 69 [(0, .ref (g.2.2.1 + a0)), (1, .int (i3 x1)), (2, .int (i3 x2))] [.int (i3 s2), .int (i3 s1), .ref (g.2.2.1 + (rt a0 33))] := by
  refine z_iast F (tk_12_33 k0) dX12_film_69 rfl hw (fun hw => ?_)
  refine z_nmM (fun M69 eM69 => ?_)
  have hw := hw M69 eM69
  refine z_iinc F dX12_film_70 rfl 2 rfl (by decide) rfl ?_
  refine z_goto F dX12_film_73 rfl ?_
  refine z_sub [1, 2, 0] rfl ?_
  exact hK34 M69 (x2 + 1) hw
set_option maxRecDepth 100000 in
set_option maxHeartbeats 4000000 in
theorem bk_X12_film_B34 {g : En} {p : Program} {l : Launch} {e : Env} {s : State} {m : MethodId} {args : Array Value} {below : List Frame} {meth : Method} {c : Code} {M : Mem} {a0 : Nat} {Q : Int → Mem → Prop} {K34 : Mem → Int → Prop} {x1 : Int} {x2 : Int} (F : Fx g p s m args meth c cX12_film 3 RX12) (hr : meth.sig.returnType = (some .int)) (k0 : kd a0 = 12)
    (hK34 : ∀ (M' : Mem) (x2' : Int), K34 M' x2' → Z g p l e rm_X12_film s m args below meth c 3 (MQ below (va_Qi (S := Int × Mem) (fun r u => r = i3 u.1 ∧ Q u.1 u.2) (fun u => Rp g u.2) (aR g)) args s 0 0 (aR g)) M' 34 [(0, .ref (g.2.2.1 + a0)), (1, .int (i3 x1)), (2, .int (i3 x2'))] [])
    (hw : wp_X12_film_B34 a0 Q K34 M x1 x2) : Z g p l e rm_X12_film s m args below meth c 3 (MQ below (va_Qi (S := Int × Mem) (fun r u => r = i3 u.1 ∧ Q u.1 u.2) (fun u => Rp g u.2) (aR g)) args s 0 0 (aR g)) M 34 [(0, .ref (g.2.2.1 + a0)), (1, .int (i3 x1)), (2, .int (i3 x2))] [] := by
  refine z_iload_n F dX12_film_34 rfl rfl 2 rfl ?_
  refine z_bipush F dX12_film_35 (by decide) rfl ?_
  refine z_icmp_ge F dX12_film_37 rfl rfl hw (fun hw => ?_) (fun hw => ?_)
  · refine z_aload_n F dX12_film_76 rfl rfl 0 rfl ?_
    refine z_getI F fl_997 k0 dX12_film_77 rfl ?_
    exact z_iret (x := (M a0 5)) F hr dX12_film_80 hw
  · refine z_aload_n F dX12_film_40 rfl rfl 0 rfl ?_
    refine z_getR F fl_1025 k0 dX12_film_41 rfl ?_
    refine z_bipush F dX12_film_44 (by decide) rfl ?_
    refine z_iload_n F dX12_film_46 rfl rfl 1 rfl ?_
    refine z_imul F dX12_film_47 rfl ?_
    refine z_iload_n F dX12_film_48 rfl rfl 2 rfl ?_
    refine z_iadd F dX12_film_49 rfl ?_
    refine z_iload_n F dX12_film_50 rfl rfl 2 rfl ?_
    refine z_aload_n F dX12_film_51 rfl rfl 0 rfl ?_
    refine z_getI F fl_997 k0 dX12_film_52 rfl ?_
    refine z_icmp_ge F dX12_film_55 rfl rfl hw (fun hw => ?_) (fun hw => ?_)
    · refine z_iconst F dX12_film_68 rfl ?_
      refine z_sub [0, 1, 2] rfl ?_
      exact bk_X12_film_69 F hr k0 hK34 hw
    · refine z_aload_n F dX12_film_58 rfl rfl 0 rfl ?_
      refine z_getR F fl_1015 k0 dX12_film_59 rfl ?_
      refine z_iload_n F dX12_film_62 rfl rfl 2 rfl ?_
      refine z_lald F (tk_12_23 k0) dX12_film_63 rfl hw (fun hw => ?_)
      refine z_l2i F dX12_film_64 rfl ?_
      refine z_goto F dX12_film_65 rfl ?_
      refine z_sub [0, 1, 2] rfl ?_
      exact bk_X12_film_69 F hr k0 hK34 hw
set_option maxRecDepth 100000 in
set_option maxHeartbeats 4000000 in
theorem lp_X12_film_34 {g : En} {p : Program} {l : Launch} {e : Env} {s : State} {m : MethodId} {args : Array Value} {below : List Frame} {meth : Method} {c : Code} {M : Mem} {a0 : Nat} {Q : Int → Mem → Prop} {x1 : Int} {x2 : Int} (F : Fx g p s m args meth c cX12_film 3 RX12) (hr : meth.sig.returnType = (some .int)) (k0 : kd a0 = 12)
    (hw : wp_X12_film_L34 a0 Q M x1 x2) : Z g p l e rm_X12_film s m args below meth c 3 (MQ below (va_Qi (S := Int × Mem) (fun r u => r = i3 u.1 ∧ Q u.1 u.2) (fun u => Rp g u.2) (aR g)) args s 0 0 (aR g)) M 34 [(0, .ref (g.2.2.1 + a0)), (1, .int (i3 x1)), (2, .int (i3 x2))] [] := by
  obtain ⟨I, μ, h0, hb⟩ := hw
  have key : ∀ (n : Nat) (M : Mem) (x2 : Int), I M x2 → μ M x2 < n → Z g p l e rm_X12_film s m args below meth c 3 (MQ below (va_Qi (S := Int × Mem) (fun r u => r = i3 u.1 ∧ Q u.1 u.2) (fun u => Rp g u.2) (aR g)) args s 0 0 (aR g)) M 34 [(0, .ref (g.2.2.1 + a0)), (1, .int (i3 x1)), (2, .int (i3 x2))] [] := by
    intro n
    induction n with
    | zero => exact fun _ _ _ h => absurd h (Nat.not_lt_zero _)
    | succ n ih =>
      intro M x2 hI hn
      exact bk_X12_film_B34 F hr k0 (fun M' x2' hk => ih M' x2' hk.1 (Nat.lt_of_lt_of_le hk.2 (Nat.le_of_lt_succ hn))) (hb M x2 hI)
  exact key _ M x2 h0 (Nat.lt_succ_self _)
set_option maxRecDepth 100000 in
set_option maxHeartbeats 4000000 in
theorem c_X12_film (l : Launch) (g : En) {a0 : Nat} {a1 : Int} {M : Mem} {Q : Int → Mem → Prop} (k0 : kd a0 = 12) (hw : wp_X12_film a0 a1 M Q) :
    Met l yX12_film (WS yX12_film cX12_film 3 (some .int)) rm_X12_film (va_Pc [.ref (g.2.2.1 + a0), .int (i3 a1)] (Rp g M)) (va_Qi (S := Int × Mem) (fun r u => r = i3 u.1 ∧ Q u.1 u.2) (fun u => Rp g u.2) (aR g)) 0 0 (aR g) := by
  refine met_Z (plainFor_of_name rfl) (Nat.le_of_ble_eq_true rfl) ?_
  intro p e s m args below meth c F hr _
  show Z g p l e rm_X12_film s m args below meth c 3 (MQ below (va_Qi (S := Int × Mem) (fun r u => r = i3 u.1 ∧ Q u.1 u.2) (fun u => Rp g u.2) (aR g)) args s 0 0 (aR g)) M 0 [(0, .ref (g.2.2.1 + a0)), (1, .int (i3 a1))] []
  refine z_iload_n F dX12_film_0 rfl rfl 1 rfl ?_
  refine z_cSbp (As := [.int (i3 a1)]) (st := []) F (c_X12_isSheet l g hw) cs_X12_isSheet w_1363 ⟨rfl, rfl, Nat.le_of_ble_eq_true rfl, Nat.le_of_ble_eq_true rfl⟩ rfl (Nat.le_of_ble_eq_true rfl) dX12_film_1 rfl (fun r1 hw => ?_)
  refine z_ifb_ne F dX12_film_4 rfl rfl hw (fun hw => ?_) (fun hw => ?_)
  · refine z_aload_n F dX12_film_10 rfl rfl 0 rfl ?_
    refine z_cVl (As := []) (st := []) F (c_X12_plays l g k0 hw) cv_X12_plays w_1366 ⟨rfl, rfl, Nat.le_of_ble_eq_true rfl, Nat.le_of_ble_eq_true rfl⟩ k0 rfl rfl (Nat.le_of_ble_eq_true rfl) dX12_film_11 rfl (fun r11 M11 hw => ?_)
    refine z_pop2 F rfl dX12_film_14 rfl ?_
    refine z_aload_n F dX12_film_15 rfl rfl 0 rfl ?_
    refine z_getR F fl_1023 k0 dX12_film_16 rfl ?_
    refine z_iload_n F dX12_film_19 rfl rfl 1 rfl ?_
    refine z_iconst F dX12_film_20 rfl ?_
    refine z_iast F (tk_12_31 k0) dX12_film_21 rfl hw (fun hw => ?_)
    refine z_nmM (fun M21 eM21 => ?_)
    have hw := hw M21 eM21
    refine z_aload_n F dX12_film_22 rfl rfl 0 rfl ?_
    refine z_getR F fl_1024 k0 dX12_film_23 rfl ?_
    refine z_iload_n F dX12_film_26 rfl rfl 1 rfl ?_
    refine z_aload_n F dX12_film_27 rfl rfl 0 rfl ?_
    refine z_getI F fl_997 k0 dX12_film_28 rfl ?_
    refine z_iast F (tk_12_32 k0) dX12_film_31 rfl hw (fun hw => ?_)
    refine z_nmM (fun M31 eM31 => ?_)
    have hw := hw M31 eM31
    refine z_iconst F dX12_film_32 rfl ?_
    refine z_istore_n F dX12_film_33 rfl rfl (by decide) rfl ?_
    refine z_sub [1, 2, 0] rfl ?_
    exact lp_X12_film_34 F hr k0 hw
  · refine z_bipush F dX12_film_7 (by decide) rfl ?_
    exact z_iret (x := (-2)) F hr dX12_film_9 hw
theorem cv_X12_film : CV yX12_film RX12 cX12_film 3 (some .int) 1 := ⟨w_1403, w_1404, w_80, w_1405, rfl, by decide +kernel, by decide +kernel, by decide +kernel⟩
abbrev rm_X12_image : Room := { frames := 0, cells := 0, slots := 0, locals := 0 }
def wp_X12_image_B71 (a0 : Nat) (Q : Int → Mem → Prop) (K71 : Mem → Int → Prop) (M : Mem) (x1 : Int) : Prop :=
  (((w32 35 ≤ w32 x1) → (
    Q (M a0 3) M)) ∧
  (¬ (w32 35 ≤ w32 x1) → (
    inb (rt a0 4) x1 ∧ (
    inb (rt a0 30) (183 + x1) ∧ (
    ∀ M92 : Mem, M92 = st2 M (rt a0 30) (ix (183 + x1)) (M (rt a0 4) (ix x1)) →
    K71 M92 (x1 + 1))))))
def wp_X12_image_L71 (a0 : Nat) (Q : Int → Mem → Prop) (M : Mem) (x1 : Int) : Prop :=
  ∃ (I : Mem → Int → Prop) (μ : Mem → Int → Nat), I M x1 ∧ ∀ (M : Mem) (x1 : Int), I M x1 →
    wp_X12_image_B71 a0 Q (fun M' x1' => I M' x1' ∧ μ M' x1' < μ M x1) M x1
def wp_X12_image_B15 (a0 : Nat) (Q : Int → Mem → Prop) (K15 : Mem → Int → Prop) (M : Mem) (x1 : Int) : Prop :=
  (((w32 60 < w32 x1) → (
    wp_X12_image_L71 a0 Q M 0)) ∧
  (¬ (w32 60 < w32 x1) → (
    inb (rt a0 0) x1 ∧ (
    inb (rt a0 30) x1 ∧ (
    ∀ M32 : Mem, M32 = st2 M (rt a0 30) (ix x1) (M (rt a0 0) (ix x1)) →
    inb (rt a0 1) x1 ∧ (
    inb (rt a0 30) (61 + x1) ∧ (
    ∀ M47 : Mem, M47 = st2 M32 (rt a0 30) (ix (61 + x1)) (M32 (rt a0 1) (ix x1)) →
    inb (rt a0 2) x1 ∧ (
    inb (rt a0 30) (122 + x1) ∧ (
    ∀ M62 : Mem, M62 = st2 M47 (rt a0 30) (ix (122 + x1)) (M47 (rt a0 2) (ix x1)) →
    K15 M62 (x1 + 1))))))))))
def wp_X12_image_L15 (a0 : Nat) (Q : Int → Mem → Prop) (M : Mem) (x1 : Int) : Prop :=
  ∃ (I : Mem → Int → Prop) (μ : Mem → Int → Nat), I M x1 ∧ ∀ (M : Mem) (x1 : Int), I M x1 →
    wp_X12_image_B15 a0 Q (fun M' x1' => I M' x1' ∧ μ M' x1' < μ M x1) M x1
def wp_X12_image (a0 : Nat) (M : Mem) (Q : Int → Mem → Prop) : Prop :=
  ∀ M2 : Mem, M2 = st2 M a0 28 (bz true) →
  ∀ M10 : Mem, M10 = st2 M2 a0 29 (M2 a0 3) →
  wp_X12_image_L15 a0 Q M10 0
set_option maxRecDepth 100000 in
set_option maxHeartbeats 4000000 in
theorem bk_X12_image_B71 {g : En} {p : Program} {l : Launch} {e : Env} {s : State} {m : MethodId} {args : Array Value} {below : List Frame} {meth : Method} {c : Code} {M : Mem} {a0 : Nat} {Q : Int → Mem → Prop} {K71 : Mem → Int → Prop} {x1 : Int} (F : Fx g p s m args meth c cX12_image 2 RX12) (hr : meth.sig.returnType = (some .int)) (k0 : kd a0 = 12)
    (hK71 : ∀ (M' : Mem) (x1' : Int), K71 M' x1' → Z g p l e rm_X12_image s m args below meth c 2 (MQ below (va_Qi (S := Int × Mem) (fun r u => r = i3 u.1 ∧ Q u.1 u.2) (fun u => Rp g u.2) (aR g)) args s 0 0 (aR g)) M' 71 [(0, .ref (g.2.2.1 + a0)), (1, .int (i3 x1'))] [])
    (hw : wp_X12_image_B71 a0 Q K71 M x1) : Z g p l e rm_X12_image s m args below meth c 2 (MQ below (va_Qi (S := Int × Mem) (fun r u => r = i3 u.1 ∧ Q u.1 u.2) (fun u => Rp g u.2) (aR g)) args s 0 0 (aR g)) M 71 [(0, .ref (g.2.2.1 + a0)), (1, .int (i3 x1))] [] := by
  refine z_iload_n F dX12_image_71 rfl rfl 1 rfl ?_
  refine z_bipush F dX12_image_72 (by decide) rfl ?_
  refine z_icmp_ge F dX12_image_74 rfl rfl hw (fun hw => ?_) (fun hw => ?_)
  · refine z_aload_n F dX12_image_99 rfl rfl 0 rfl ?_
    refine z_getI F fl_995 k0 dX12_image_100 rfl ?_
    exact z_iret (x := (M a0 3)) F hr dX12_image_103 hw
  · refine z_aload_n F dX12_image_77 rfl rfl 0 rfl ?_
    refine z_getR F fl_1022 k0 dX12_image_78 rfl ?_
    refine z_sipush F dX12_image_81 (by decide) rfl ?_
    refine z_iload_n F dX12_image_84 rfl rfl 1 rfl ?_
    refine z_iadd F dX12_image_85 rfl ?_
    refine z_aload_n F dX12_image_86 rfl rfl 0 rfl ?_
    refine z_getR F fl_996 k0 dX12_image_87 rfl ?_
    refine z_iload_n F dX12_image_90 rfl rfl 1 rfl ?_
    refine z_iald F (tk_12_4 k0) dX12_image_91 rfl hw (fun hw => ?_)
    refine z_iast F (tk_12_30 k0) dX12_image_92 rfl hw (fun hw => ?_)
    refine z_nmM (fun M92 eM92 => ?_)
    have hw := hw M92 eM92
    refine z_iinc F dX12_image_93 rfl 1 rfl (by decide) rfl ?_
    refine z_goto F dX12_image_96 rfl ?_
    refine z_sub [1, 0] rfl ?_
    exact hK71 M92 (x1 + 1) hw
set_option maxRecDepth 100000 in
set_option maxHeartbeats 4000000 in
theorem lp_X12_image_71 {g : En} {p : Program} {l : Launch} {e : Env} {s : State} {m : MethodId} {args : Array Value} {below : List Frame} {meth : Method} {c : Code} {M : Mem} {a0 : Nat} {Q : Int → Mem → Prop} {x1 : Int} (F : Fx g p s m args meth c cX12_image 2 RX12) (hr : meth.sig.returnType = (some .int)) (k0 : kd a0 = 12)
    (hw : wp_X12_image_L71 a0 Q M x1) : Z g p l e rm_X12_image s m args below meth c 2 (MQ below (va_Qi (S := Int × Mem) (fun r u => r = i3 u.1 ∧ Q u.1 u.2) (fun u => Rp g u.2) (aR g)) args s 0 0 (aR g)) M 71 [(0, .ref (g.2.2.1 + a0)), (1, .int (i3 x1))] [] := by
  obtain ⟨I, μ, h0, hb⟩ := hw
  have key : ∀ (n : Nat) (M : Mem) (x1 : Int), I M x1 → μ M x1 < n → Z g p l e rm_X12_image s m args below meth c 2 (MQ below (va_Qi (S := Int × Mem) (fun r u => r = i3 u.1 ∧ Q u.1 u.2) (fun u => Rp g u.2) (aR g)) args s 0 0 (aR g)) M 71 [(0, .ref (g.2.2.1 + a0)), (1, .int (i3 x1))] [] := by
    intro n
    induction n with
    | zero => exact fun _ _ _ h => absurd h (Nat.not_lt_zero _)
    | succ n ih =>
      intro M x1 hI hn
      exact bk_X12_image_B71 F hr k0 (fun M' x1' hk => ih M' x1' hk.1 (Nat.lt_of_lt_of_le hk.2 (Nat.le_of_lt_succ hn))) (hb M x1 hI)
  exact key _ M x1 h0 (Nat.lt_succ_self _)
set_option maxRecDepth 100000 in
set_option maxHeartbeats 4000000 in
theorem bk_X12_image_B15 {g : En} {p : Program} {l : Launch} {e : Env} {s : State} {m : MethodId} {args : Array Value} {below : List Frame} {meth : Method} {c : Code} {M : Mem} {a0 : Nat} {Q : Int → Mem → Prop} {K15 : Mem → Int → Prop} {x1 : Int} (F : Fx g p s m args meth c cX12_image 2 RX12) (hr : meth.sig.returnType = (some .int)) (k0 : kd a0 = 12)
    (hK15 : ∀ (M' : Mem) (x1' : Int), K15 M' x1' → Z g p l e rm_X12_image s m args below meth c 2 (MQ below (va_Qi (S := Int × Mem) (fun r u => r = i3 u.1 ∧ Q u.1 u.2) (fun u => Rp g u.2) (aR g)) args s 0 0 (aR g)) M' 15 [(0, .ref (g.2.2.1 + a0)), (1, .int (i3 x1'))] [])
    (hw : wp_X12_image_B15 a0 Q K15 M x1) : Z g p l e rm_X12_image s m args below meth c 2 (MQ below (va_Qi (S := Int × Mem) (fun r u => r = i3 u.1 ∧ Q u.1 u.2) (fun u => Rp g u.2) (aR g)) args s 0 0 (aR g)) M 15 [(0, .ref (g.2.2.1 + a0)), (1, .int (i3 x1))] [] := by
  refine z_iload_n F dX12_image_15 rfl rfl 1 rfl ?_
  refine z_bipush F dX12_image_16 (by decide) rfl ?_
  refine z_icmp_gt F dX12_image_18 rfl rfl hw (fun hw => ?_) (fun hw => ?_)
  · refine z_iconst F dX12_image_69 rfl ?_
    refine z_istore_n F dX12_image_70 rfl rfl (by decide) rfl ?_
    refine z_sub [1, 0] rfl ?_
    exact lp_X12_image_71 F hr k0 hw
  · refine z_aload_n F dX12_image_21 rfl rfl 0 rfl ?_
    refine z_getR F fl_1022 k0 dX12_image_22 rfl ?_
    refine z_iload_n F dX12_image_25 rfl rfl 1 rfl ?_
    refine z_aload_n F dX12_image_26 rfl rfl 0 rfl ?_
    refine z_getR F fl_992 k0 dX12_image_27 rfl ?_
    refine z_iload_n F dX12_image_30 rfl rfl 1 rfl ?_
    refine z_iald F (tk_12_0 k0) dX12_image_31 rfl hw (fun hw => ?_)
    refine z_iast F (tk_12_30 k0) dX12_image_32 rfl hw (fun hw => ?_)
    refine z_nmM (fun M32 eM32 => ?_)
    have hw := hw M32 eM32
    refine z_aload_n F dX12_image_33 rfl rfl 0 rfl ?_
    refine z_getR F fl_1022 k0 dX12_image_34 rfl ?_
    refine z_bipush F dX12_image_37 (by decide) rfl ?_
    refine z_iload_n F dX12_image_39 rfl rfl 1 rfl ?_
    refine z_iadd F dX12_image_40 rfl ?_
    refine z_aload_n F dX12_image_41 rfl rfl 0 rfl ?_
    refine z_getR F fl_993 k0 dX12_image_42 rfl ?_
    refine z_iload_n F dX12_image_45 rfl rfl 1 rfl ?_
    refine z_iald F (tk_12_1 k0) dX12_image_46 rfl hw (fun hw => ?_)
    refine z_iast F (tk_12_30 k0) dX12_image_47 rfl hw (fun hw => ?_)
    refine z_nmM (fun M47 eM47 => ?_)
    have hw := hw M47 eM47
    refine z_aload_n F dX12_image_48 rfl rfl 0 rfl ?_
    refine z_getR F fl_1022 k0 dX12_image_49 rfl ?_
    refine z_bipush F dX12_image_52 (by decide) rfl ?_
    refine z_iload_n F dX12_image_54 rfl rfl 1 rfl ?_
    refine z_iadd F dX12_image_55 rfl ?_
    refine z_aload_n F dX12_image_56 rfl rfl 0 rfl ?_
    refine z_getR F fl_994 k0 dX12_image_57 rfl ?_
    refine z_iload_n F dX12_image_60 rfl rfl 1 rfl ?_
    refine z_iald F (tk_12_2 k0) dX12_image_61 rfl hw (fun hw => ?_)
    refine z_iast F (tk_12_30 k0) dX12_image_62 rfl hw (fun hw => ?_)
    refine z_nmM (fun M62 eM62 => ?_)
    have hw := hw M62 eM62
    refine z_iinc F dX12_image_63 rfl 1 rfl (by decide) rfl ?_
    refine z_goto F dX12_image_66 rfl ?_
    refine z_sub [1, 0] rfl ?_
    exact hK15 M62 (x1 + 1) hw
set_option maxRecDepth 100000 in
set_option maxHeartbeats 4000000 in
theorem lp_X12_image_15 {g : En} {p : Program} {l : Launch} {e : Env} {s : State} {m : MethodId} {args : Array Value} {below : List Frame} {meth : Method} {c : Code} {M : Mem} {a0 : Nat} {Q : Int → Mem → Prop} {x1 : Int} (F : Fx g p s m args meth c cX12_image 2 RX12) (hr : meth.sig.returnType = (some .int)) (k0 : kd a0 = 12)
    (hw : wp_X12_image_L15 a0 Q M x1) : Z g p l e rm_X12_image s m args below meth c 2 (MQ below (va_Qi (S := Int × Mem) (fun r u => r = i3 u.1 ∧ Q u.1 u.2) (fun u => Rp g u.2) (aR g)) args s 0 0 (aR g)) M 15 [(0, .ref (g.2.2.1 + a0)), (1, .int (i3 x1))] [] := by
  obtain ⟨I, μ, h0, hb⟩ := hw
  have key : ∀ (n : Nat) (M : Mem) (x1 : Int), I M x1 → μ M x1 < n → Z g p l e rm_X12_image s m args below meth c 2 (MQ below (va_Qi (S := Int × Mem) (fun r u => r = i3 u.1 ∧ Q u.1 u.2) (fun u => Rp g u.2) (aR g)) args s 0 0 (aR g)) M 15 [(0, .ref (g.2.2.1 + a0)), (1, .int (i3 x1))] [] := by
    intro n
    induction n with
    | zero => exact fun _ _ _ h => absurd h (Nat.not_lt_zero _)
    | succ n ih =>
      intro M x1 hI hn
      exact bk_X12_image_B15 F hr k0 (fun M' x1' hk => ih M' x1' hk.1 (Nat.lt_of_lt_of_le hk.2 (Nat.le_of_lt_succ hn))) (hb M x1 hI)
  exact key _ M x1 h0 (Nat.lt_succ_self _)
set_option maxRecDepth 100000 in
set_option maxHeartbeats 4000000 in
theorem c_X12_image (l : Launch) (g : En) {a0 : Nat} {M : Mem} {Q : Int → Mem → Prop} (k0 : kd a0 = 12) (hw : wp_X12_image a0 M Q) :
    Met l yX12_image (WS yX12_image cX12_image 2 (some .int)) rm_X12_image (va_Pc [.ref (g.2.2.1 + a0)] (Rp g M)) (va_Qi (S := Int × Mem) (fun r u => r = i3 u.1 ∧ Q u.1 u.2) (fun u => Rp g u.2) (aR g)) 0 0 (aR g) := by
  refine met_Z (plainFor_of_name rfl) (Nat.le_of_ble_eq_true rfl) ?_
  intro p e s m args below meth c F hr _
  show Z g p l e rm_X12_image s m args below meth c 2 (MQ below (va_Qi (S := Int × Mem) (fun r u => r = i3 u.1 ∧ Q u.1 u.2) (fun u => Rp g u.2) (aR g)) args s 0 0 (aR g)) M 0 [(0, .ref (g.2.2.1 + a0))] []
  refine z_aload_n F dX12_image_0 rfl rfl 0 rfl ?_
  refine z_iconst F dX12_image_1 rfl ?_
  refine z_putB (r := true) F fp_1020 k0 dX12_image_2 rfl ?_
  refine z_nmM (fun M2 eM2 => ?_)
  have hw := hw M2 eM2
  refine z_aload_n F dX12_image_5 rfl rfl 0 rfl ?_
  refine z_aload_n F dX12_image_6 rfl rfl 0 rfl ?_
  refine z_getI F fl_995 k0 dX12_image_7 rfl ?_
  refine z_putI F fp_1021 k0 dX12_image_10 rfl ?_
  refine z_nmM (fun M10 eM10 => ?_)
  have hw := hw M10 eM10
  refine z_iconst F dX12_image_13 rfl ?_
  refine z_istore_n F dX12_image_14 rfl rfl (by decide) rfl ?_
  refine z_sub [1, 0] rfl ?_
  exact lp_X12_image_15 F hr k0 hw
theorem cv_X12_image : CV yX12_image RX12 cX12_image 2 (some .int) 0 := ⟨w_1407, w_1408, w_80, w_1409, rfl, by decide +kernel, by decide +kernel, by decide +kernel⟩
abbrev rm_X12_back : Room := { frames := 1, cells := 0, slots := 0, locals := 21 }
def wp_X12_back_B76 (a0 : Nat) (Q : Int → Mem → Prop) (K76 : Mem → Int → Prop) (M : Mem) (x1 : Int) : Prop :=
  (((w32 35 ≤ w32 x1) → (
    wp_X12_finds a0 M (fun M105 =>
    Q (M105 a0 3) M105))) ∧
  (¬ (w32 35 ≤ w32 x1) → (
    inb (rt a0 30) (183 + x1) ∧ (
    inb (rt a0 4) x1 ∧ (
    ∀ M97 : Mem, M97 = st2 M (rt a0 4) (ix x1) (M (rt a0 30) (ix (183 + x1))) →
    K76 M97 (x1 + 1))))))
def wp_X12_back_L76 (a0 : Nat) (Q : Int → Mem → Prop) (M : Mem) (x1 : Int) : Prop :=
  ∃ (I : Mem → Int → Prop) (μ : Mem → Int → Nat), I M x1 ∧ ∀ (M : Mem) (x1 : Int), I M x1 →
    wp_X12_back_B76 a0 Q (fun M' x1' => I M' x1' ∧ μ M' x1' < μ M x1) M x1
def wp_X12_back_B20 (a0 : Nat) (Q : Int → Mem → Prop) (K20 : Mem → Int → Prop) (M : Mem) (x1 : Int) : Prop :=
  (((w32 60 < w32 x1) → (
    wp_X12_back_L76 a0 Q M 0)) ∧
  (¬ (w32 60 < w32 x1) → (
    inb (rt a0 30) x1 ∧ (
    inb (rt a0 0) x1 ∧ (
    ∀ M37 : Mem, M37 = st2 M (rt a0 0) (ix x1) (M (rt a0 30) (ix x1)) →
    inb (rt a0 30) (61 + x1) ∧ (
    inb (rt a0 1) x1 ∧ (
    ∀ M52 : Mem, M52 = st2 M37 (rt a0 1) (ix x1) (M37 (rt a0 30) (ix (61 + x1))) →
    inb (rt a0 30) (122 + x1) ∧ (
    inb (rt a0 2) x1 ∧ (
    ∀ M67 : Mem, M67 = st2 M52 (rt a0 2) (ix x1) (M52 (rt a0 30) (ix (122 + x1))) →
    K20 M67 (x1 + 1))))))))))
def wp_X12_back_L20 (a0 : Nat) (Q : Int → Mem → Prop) (M : Mem) (x1 : Int) : Prop :=
  ∃ (I : Mem → Int → Prop) (μ : Mem → Int → Nat), I M x1 ∧ ∀ (M : Mem) (x1 : Int), I M x1 →
    wp_X12_back_B20 a0 Q (fun M' x1' => I M' x1' ∧ μ M' x1' < μ M x1) M x1
def wp_X12_back (a0 : Nat) (M : Mem) (Q : Int → Mem → Prop) : Prop :=
  (((fb M a0 28) = true → (
    ∀ M15 : Mem, M15 = st2 M a0 3 (M a0 29) →
    wp_X12_back_L20 a0 Q M15 0)) ∧
  ((fb M a0 28) = false → (
    Q (-3) M)))
set_option maxRecDepth 100000 in
set_option maxHeartbeats 4000000 in
theorem bk_X12_back_B76 {g : En} {p : Program} {l : Launch} {e : Env} {s : State} {m : MethodId} {args : Array Value} {below : List Frame} {meth : Method} {c : Code} {M : Mem} {a0 : Nat} {Q : Int → Mem → Prop} {K76 : Mem → Int → Prop} {x1 : Int} (F : Fx g p s m args meth c cX12_back 2 RX12) (hr : meth.sig.returnType = (some .int)) (k0 : kd a0 = 12)
    (hK76 : ∀ (M' : Mem) (x1' : Int), K76 M' x1' → Z g p l e rm_X12_back s m args below meth c 2 (MQ below (va_Qi (S := Int × Mem) (fun r u => r = i3 u.1 ∧ Q u.1 u.2) (fun u => Rp g u.2) (aR g)) args s 0 0 (aR g)) M' 76 [(0, .ref (g.2.2.1 + a0)), (1, .int (i3 x1'))] [])
    (hw : wp_X12_back_B76 a0 Q K76 M x1) : Z g p l e rm_X12_back s m args below meth c 2 (MQ below (va_Qi (S := Int × Mem) (fun r u => r = i3 u.1 ∧ Q u.1 u.2) (fun u => Rp g u.2) (aR g)) args s 0 0 (aR g)) M 76 [(0, .ref (g.2.2.1 + a0)), (1, .int (i3 x1))] [] := by
  refine z_iload_n F dX12_back_76 rfl rfl 1 rfl ?_
  refine z_bipush F dX12_back_77 (by decide) rfl ?_
  refine z_icmp_ge F dX12_back_79 rfl rfl hw (fun hw => ?_) (fun hw => ?_)
  · refine z_aload_n F dX12_back_104 rfl rfl 0 rfl ?_
    refine z_cVv (As := []) (st := []) F (c_X12_finds l g k0 hw) cv_X12_finds w_1111 ⟨rfl, rfl, Nat.le_of_ble_eq_true rfl, Nat.le_of_ble_eq_true rfl⟩ k0 rfl rfl (Nat.le_of_ble_eq_true rfl) dX12_back_105 rfl (fun M105 hw => ?_)
    refine z_aload_n F dX12_back_108 rfl rfl 0 rfl ?_
    refine z_getI F fl_995 k0 dX12_back_109 rfl ?_
    exact z_iret (x := (M105 a0 3)) F hr dX12_back_112 hw
  · refine z_aload_n F dX12_back_82 rfl rfl 0 rfl ?_
    refine z_getR F fl_996 k0 dX12_back_83 rfl ?_
    refine z_iload_n F dX12_back_86 rfl rfl 1 rfl ?_
    refine z_aload_n F dX12_back_87 rfl rfl 0 rfl ?_
    refine z_getR F fl_1022 k0 dX12_back_88 rfl ?_
    refine z_sipush F dX12_back_91 (by decide) rfl ?_
    refine z_iload_n F dX12_back_94 rfl rfl 1 rfl ?_
    refine z_iadd F dX12_back_95 rfl ?_
    refine z_iald F (tk_12_30 k0) dX12_back_96 rfl hw (fun hw => ?_)
    refine z_iast F (tk_12_4 k0) dX12_back_97 rfl hw (fun hw => ?_)
    refine z_nmM (fun M97 eM97 => ?_)
    have hw := hw M97 eM97
    refine z_iinc F dX12_back_98 rfl 1 rfl (by decide) rfl ?_
    refine z_goto F dX12_back_101 rfl ?_
    refine z_sub [1, 0] rfl ?_
    exact hK76 M97 (x1 + 1) hw
set_option maxRecDepth 100000 in
set_option maxHeartbeats 4000000 in
theorem lp_X12_back_76 {g : En} {p : Program} {l : Launch} {e : Env} {s : State} {m : MethodId} {args : Array Value} {below : List Frame} {meth : Method} {c : Code} {M : Mem} {a0 : Nat} {Q : Int → Mem → Prop} {x1 : Int} (F : Fx g p s m args meth c cX12_back 2 RX12) (hr : meth.sig.returnType = (some .int)) (k0 : kd a0 = 12)
    (hw : wp_X12_back_L76 a0 Q M x1) : Z g p l e rm_X12_back s m args below meth c 2 (MQ below (va_Qi (S := Int × Mem) (fun r u => r = i3 u.1 ∧ Q u.1 u.2) (fun u => Rp g u.2) (aR g)) args s 0 0 (aR g)) M 76 [(0, .ref (g.2.2.1 + a0)), (1, .int (i3 x1))] [] := by
  obtain ⟨I, μ, h0, hb⟩ := hw
  have key : ∀ (n : Nat) (M : Mem) (x1 : Int), I M x1 → μ M x1 < n → Z g p l e rm_X12_back s m args below meth c 2 (MQ below (va_Qi (S := Int × Mem) (fun r u => r = i3 u.1 ∧ Q u.1 u.2) (fun u => Rp g u.2) (aR g)) args s 0 0 (aR g)) M 76 [(0, .ref (g.2.2.1 + a0)), (1, .int (i3 x1))] [] := by
    intro n
    induction n with
    | zero => exact fun _ _ _ h => absurd h (Nat.not_lt_zero _)
    | succ n ih =>
      intro M x1 hI hn
      exact bk_X12_back_B76 F hr k0 (fun M' x1' hk => ih M' x1' hk.1 (Nat.lt_of_lt_of_le hk.2 (Nat.le_of_lt_succ hn))) (hb M x1 hI)
  exact key _ M x1 h0 (Nat.lt_succ_self _)
set_option maxRecDepth 100000 in
set_option maxHeartbeats 4000000 in
theorem bk_X12_back_B20 {g : En} {p : Program} {l : Launch} {e : Env} {s : State} {m : MethodId} {args : Array Value} {below : List Frame} {meth : Method} {c : Code} {M : Mem} {a0 : Nat} {Q : Int → Mem → Prop} {K20 : Mem → Int → Prop} {x1 : Int} (F : Fx g p s m args meth c cX12_back 2 RX12) (hr : meth.sig.returnType = (some .int)) (k0 : kd a0 = 12)
    (hK20 : ∀ (M' : Mem) (x1' : Int), K20 M' x1' → Z g p l e rm_X12_back s m args below meth c 2 (MQ below (va_Qi (S := Int × Mem) (fun r u => r = i3 u.1 ∧ Q u.1 u.2) (fun u => Rp g u.2) (aR g)) args s 0 0 (aR g)) M' 20 [(0, .ref (g.2.2.1 + a0)), (1, .int (i3 x1'))] [])
    (hw : wp_X12_back_B20 a0 Q K20 M x1) : Z g p l e rm_X12_back s m args below meth c 2 (MQ below (va_Qi (S := Int × Mem) (fun r u => r = i3 u.1 ∧ Q u.1 u.2) (fun u => Rp g u.2) (aR g)) args s 0 0 (aR g)) M 20 [(0, .ref (g.2.2.1 + a0)), (1, .int (i3 x1))] [] := by
  refine z_iload_n F dX12_back_20 rfl rfl 1 rfl ?_
  refine z_bipush F dX12_back_21 (by decide) rfl ?_
  refine z_icmp_gt F dX12_back_23 rfl rfl hw (fun hw => ?_) (fun hw => ?_)
  · refine z_iconst F dX12_back_74 rfl ?_
    refine z_istore_n F dX12_back_75 rfl rfl (by decide) rfl ?_
    refine z_sub [1, 0] rfl ?_
    exact lp_X12_back_76 F hr k0 hw
  · refine z_aload_n F dX12_back_26 rfl rfl 0 rfl ?_
    refine z_getR F fl_992 k0 dX12_back_27 rfl ?_
    refine z_iload_n F dX12_back_30 rfl rfl 1 rfl ?_
    refine z_aload_n F dX12_back_31 rfl rfl 0 rfl ?_
    refine z_getR F fl_1022 k0 dX12_back_32 rfl ?_
    refine z_iload_n F dX12_back_35 rfl rfl 1 rfl ?_
    refine z_iald F (tk_12_30 k0) dX12_back_36 rfl hw (fun hw => ?_)
    refine z_iast F (tk_12_0 k0) dX12_back_37 rfl hw (fun hw => ?_)
    refine z_nmM (fun M37 eM37 => ?_)
    have hw := hw M37 eM37
    refine z_aload_n F dX12_back_38 rfl rfl 0 rfl ?_
    refine z_getR F fl_993 k0 dX12_back_39 rfl ?_
    refine z_iload_n F dX12_back_42 rfl rfl 1 rfl ?_
    refine z_aload_n F dX12_back_43 rfl rfl 0 rfl ?_
    refine z_getR F fl_1022 k0 dX12_back_44 rfl ?_
    refine z_bipush F dX12_back_47 (by decide) rfl ?_
    refine z_iload_n F dX12_back_49 rfl rfl 1 rfl ?_
    refine z_iadd F dX12_back_50 rfl ?_
    refine z_iald F (tk_12_30 k0) dX12_back_51 rfl hw (fun hw => ?_)
    refine z_iast F (tk_12_1 k0) dX12_back_52 rfl hw (fun hw => ?_)
    refine z_nmM (fun M52 eM52 => ?_)
    have hw := hw M52 eM52
    refine z_aload_n F dX12_back_53 rfl rfl 0 rfl ?_
    refine z_getR F fl_994 k0 dX12_back_54 rfl ?_
    refine z_iload_n F dX12_back_57 rfl rfl 1 rfl ?_
    refine z_aload_n F dX12_back_58 rfl rfl 0 rfl ?_
    refine z_getR F fl_1022 k0 dX12_back_59 rfl ?_
    refine z_bipush F dX12_back_62 (by decide) rfl ?_
    refine z_iload_n F dX12_back_64 rfl rfl 1 rfl ?_
    refine z_iadd F dX12_back_65 rfl ?_
    refine z_iald F (tk_12_30 k0) dX12_back_66 rfl hw (fun hw => ?_)
    refine z_iast F (tk_12_2 k0) dX12_back_67 rfl hw (fun hw => ?_)
    refine z_nmM (fun M67 eM67 => ?_)
    have hw := hw M67 eM67
    refine z_iinc F dX12_back_68 rfl 1 rfl (by decide) rfl ?_
    refine z_goto F dX12_back_71 rfl ?_
    refine z_sub [1, 0] rfl ?_
    exact hK20 M67 (x1 + 1) hw
set_option maxRecDepth 100000 in
set_option maxHeartbeats 4000000 in
theorem lp_X12_back_20 {g : En} {p : Program} {l : Launch} {e : Env} {s : State} {m : MethodId} {args : Array Value} {below : List Frame} {meth : Method} {c : Code} {M : Mem} {a0 : Nat} {Q : Int → Mem → Prop} {x1 : Int} (F : Fx g p s m args meth c cX12_back 2 RX12) (hr : meth.sig.returnType = (some .int)) (k0 : kd a0 = 12)
    (hw : wp_X12_back_L20 a0 Q M x1) : Z g p l e rm_X12_back s m args below meth c 2 (MQ below (va_Qi (S := Int × Mem) (fun r u => r = i3 u.1 ∧ Q u.1 u.2) (fun u => Rp g u.2) (aR g)) args s 0 0 (aR g)) M 20 [(0, .ref (g.2.2.1 + a0)), (1, .int (i3 x1))] [] := by
  obtain ⟨I, μ, h0, hb⟩ := hw
  have key : ∀ (n : Nat) (M : Mem) (x1 : Int), I M x1 → μ M x1 < n → Z g p l e rm_X12_back s m args below meth c 2 (MQ below (va_Qi (S := Int × Mem) (fun r u => r = i3 u.1 ∧ Q u.1 u.2) (fun u => Rp g u.2) (aR g)) args s 0 0 (aR g)) M 20 [(0, .ref (g.2.2.1 + a0)), (1, .int (i3 x1))] [] := by
    intro n
    induction n with
    | zero => exact fun _ _ _ h => absurd h (Nat.not_lt_zero _)
    | succ n ih =>
      intro M x1 hI hn
      exact bk_X12_back_B20 F hr k0 (fun M' x1' hk => ih M' x1' hk.1 (Nat.lt_of_lt_of_le hk.2 (Nat.le_of_lt_succ hn))) (hb M x1 hI)
  exact key _ M x1 h0 (Nat.lt_succ_self _)
set_option maxRecDepth 100000 in
set_option maxHeartbeats 4000000 in
theorem c_X12_back (l : Launch) (g : En) {a0 : Nat} {M : Mem} {Q : Int → Mem → Prop} (k0 : kd a0 = 12) (hw : wp_X12_back a0 M Q) :
    Met l yX12_back (WS yX12_back cX12_back 2 (some .int)) rm_X12_back (va_Pc [.ref (g.2.2.1 + a0)] (Rp g M)) (va_Qi (S := Int × Mem) (fun r u => r = i3 u.1 ∧ Q u.1 u.2) (fun u => Rp g u.2) (aR g)) 0 0 (aR g) := by
  refine met_Z (plainFor_of_name rfl) (Nat.le_of_ble_eq_true rfl) ?_
  intro p e s m args below meth c F hr _
  show Z g p l e rm_X12_back s m args below meth c 2 (MQ below (va_Qi (S := Int × Mem) (fun r u => r = i3 u.1 ∧ Q u.1 u.2) (fun u => Rp g u.2) (aR g)) args s 0 0 (aR g)) M 0 [(0, .ref (g.2.2.1 + a0))] []
  refine z_aload_n F dX12_back_0 rfl rfl 0 rfl ?_
  refine z_getB F fl_1020 k0 dX12_back_1 rfl ?_
  refine z_ifb_ne F dX12_back_4 rfl rfl hw (fun hw => ?_) (fun hw => ?_)
  · refine z_aload_n F dX12_back_10 rfl rfl 0 rfl ?_
    refine z_aload_n F dX12_back_11 rfl rfl 0 rfl ?_
    refine z_getI F fl_1021 k0 dX12_back_12 rfl ?_
    refine z_putI F fp_995 k0 dX12_back_15 rfl ?_
    refine z_nmM (fun M15 eM15 => ?_)
    have hw := hw M15 eM15
    refine z_iconst F dX12_back_18 rfl ?_
    refine z_istore_n F dX12_back_19 rfl rfl (by decide) rfl ?_
    refine z_sub [1, 0] rfl ?_
    exact lp_X12_back_20 F hr k0 hw
  · refine z_bipush F dX12_back_7 (by decide) rfl ?_
    exact z_iret (x := (-3)) F hr dX12_back_9 hw
theorem cv_X12_back : CV yX12_back RX12 cX12_back 2 (some .int) 0 := ⟨w_1411, w_1412, w_80, w_1413, rfl, by decide +kernel, by decide +kernel, by decide +kernel⟩
abbrev rm_X12_count : Room := { frames := 1, cells := 0, slots := 0, locals := 22 }
def wp_X12_count_B64 (a0 : Nat) (Q : Int → Prop) (K64 : Int → Int → Prop) (M : Mem) (x2 : Int) (x3 : Int) : Prop :=
  (((w32 (M a0 3) ≤ w32 x3) → (
    Q x2)) ∧
  (¬ (w32 (M a0 3) ≤ w32 x3) → (
    wp_X12_of a0 x3 6 M (fun r77 =>
    K64 (x2 + r77) (x3 + 1)))))
def wp_X12_count_L64 (a0 : Nat) (Q : Int → Prop) (M : Mem) (x2 : Int) (x3 : Int) : Prop :=
  ∃ (I : Int → Int → Prop) (μ : Int → Int → Nat), I x2 x3 ∧ ∀ (x2 : Int) (x3 : Int), I x2 x3 →
    wp_X12_count_B64 a0 Q (fun x2' x3' => I x2' x3' ∧ μ x2' x3' < μ x2 x3) M x2 x3
def wp_X12_count (a0 : Nat) (a1 : Int) (M : Mem) (Q : Int → Prop) : Prop :=
  ((w32 a1 = 0 → (
    Q (M a0 5))) ∧
  (w32 a1 = 1 → (
    wp_X12_many (rt a0 1) M (fun r45 =>
    Q r45))) ∧
  (w32 a1 = 2 → (
    wp_X12_many (rt a0 2) M (fun r53 =>
    Q r53))) ∧
  (w32 a1 = 3 → (
    Q (M a0 3))) ∧
  (w32 a1 = 4 → (
    wp_X12_count_L64 a0 Q M 0 0)) ∧
  ((w32 a1 < 0 ∨ 4 < w32 a1) → (
    Q (-2))))
set_option maxRecDepth 100000 in
set_option maxHeartbeats 4000000 in
theorem bk_X12_count_B64 {g : En} {p : Program} {l : Launch} {e : Env} {s : State} {m : MethodId} {args : Array Value} {below : List Frame} {meth : Method} {c : Code} {M : Mem} {a0 : Nat} {Q : Int → Prop} {K64 : Int → Int → Prop} {x2 : Int} {x3 : Int} (F : Fx g p s m args meth c cX12_count 4 RX12) (hr : meth.sig.returnType = (some .int)) (k0 : kd a0 = 12)
    (hK64 : ∀ (x2' : Int) (x3' : Int), K64 x2' x3' → Z g p l e rm_X12_count s m args below meth c 4 (MQ below (va_Qi (S := Int × Mem) (fun r u => r = i3 u.1 ∧ (u.2 = M ∧ Q u.1)) (fun u => Rp g u.2) (aR g)) args s 0 0 (aR g)) M 64 [(0, .ref (g.2.2.1 + a0)), (2, .int (i3 x2')), (3, .int (i3 x3'))] [])
    (hw : wp_X12_count_B64 a0 Q K64 M x2 x3) : Z g p l e rm_X12_count s m args below meth c 4 (MQ below (va_Qi (S := Int × Mem) (fun r u => r = i3 u.1 ∧ (u.2 = M ∧ Q u.1)) (fun u => Rp g u.2) (aR g)) args s 0 0 (aR g)) M 64 [(0, .ref (g.2.2.1 + a0)), (2, .int (i3 x2)), (3, .int (i3 x3))] [] := by
  refine z_iload_n F dX12_count_64 rfl rfl 2 rfl ?_
  refine z_aload_n F dX12_count_65 rfl rfl 0 rfl ?_
  refine z_getI F fl_995 k0 dX12_count_66 rfl ?_
  refine z_icmp_ge F dX12_count_69 rfl rfl hw (fun hw => ?_) (fun hw => ?_)
  · refine z_iload_n F dX12_count_88 rfl rfl 1 rfl ?_
    exact z_iretp (x := x2) F hr dX12_count_89 hw
  · refine z_iload_n F dX12_count_72 rfl rfl 1 rfl ?_
    refine z_aload_n F dX12_count_73 rfl rfl 0 rfl ?_
    refine z_iload_n F dX12_count_74 rfl rfl 2 rfl ?_
    refine z_bipush F dX12_count_75 (by decide) rfl ?_
    refine z_cVip (As := [.int (i3 x3), .int (i3 6)]) (st := [.int (i3 x2)]) F (c_X12_of l g k0 hw) cv_X12_of w_1155 ⟨rfl, rfl, Nat.le_of_ble_eq_true rfl, Nat.le_of_ble_eq_true rfl⟩ k0 rfl rfl (Nat.le_of_ble_eq_true rfl) dX12_count_77 rfl (fun r77 hw => ?_)
    refine z_iadd F dX12_count_80 rfl ?_
    refine z_istore_n F dX12_count_81 rfl rfl (by decide) rfl ?_
    refine z_iinc F dX12_count_82 rfl 2 rfl (by decide) rfl ?_
    refine z_goto F dX12_count_85 rfl ?_
    refine z_sub [2, 1, 0] rfl ?_
    exact hK64 (x2 + r77) (x3 + 1) hw
set_option maxRecDepth 100000 in
set_option maxHeartbeats 4000000 in
theorem lp_X12_count_64 {g : En} {p : Program} {l : Launch} {e : Env} {s : State} {m : MethodId} {args : Array Value} {below : List Frame} {meth : Method} {c : Code} {M : Mem} {a0 : Nat} {Q : Int → Prop} {x2 : Int} {x3 : Int} (F : Fx g p s m args meth c cX12_count 4 RX12) (hr : meth.sig.returnType = (some .int)) (k0 : kd a0 = 12)
    (hw : wp_X12_count_L64 a0 Q M x2 x3) : Z g p l e rm_X12_count s m args below meth c 4 (MQ below (va_Qi (S := Int × Mem) (fun r u => r = i3 u.1 ∧ (u.2 = M ∧ Q u.1)) (fun u => Rp g u.2) (aR g)) args s 0 0 (aR g)) M 64 [(0, .ref (g.2.2.1 + a0)), (2, .int (i3 x2)), (3, .int (i3 x3))] [] := by
  obtain ⟨I, μ, h0, hb⟩ := hw
  have key : ∀ (n : Nat) (x2 : Int) (x3 : Int), I x2 x3 → μ x2 x3 < n → Z g p l e rm_X12_count s m args below meth c 4 (MQ below (va_Qi (S := Int × Mem) (fun r u => r = i3 u.1 ∧ (u.2 = M ∧ Q u.1)) (fun u => Rp g u.2) (aR g)) args s 0 0 (aR g)) M 64 [(0, .ref (g.2.2.1 + a0)), (2, .int (i3 x2)), (3, .int (i3 x3))] [] := by
    intro n
    induction n with
    | zero => exact fun _ _ _ h => absurd h (Nat.not_lt_zero _)
    | succ n ih =>
      intro x2 x3 hI hn
      exact bk_X12_count_B64 F hr k0 (fun x2' x3' hk => ih x2' x3' hk.1 (Nat.lt_of_lt_of_le hk.2 (Nat.le_of_lt_succ hn))) (hb x2 x3 hI)
  exact key _ x2 x3 h0 (Nat.lt_succ_self _)
set_option maxRecDepth 100000 in
set_option maxHeartbeats 4000000 in
theorem c_X12_count (l : Launch) (g : En) {a0 : Nat} {a1 : Int} {M : Mem} {Q : Int → Prop} (k0 : kd a0 = 12) (hw : wp_X12_count a0 a1 M Q) :
    Met l yX12_count (WS yX12_count cX12_count 4 (some .int)) rm_X12_count (va_Pc [.ref (g.2.2.1 + a0), .int (i3 a1)] (Rp g M)) (va_Qi (S := Int × Mem) (fun r u => r = i3 u.1 ∧ (u.2 = M ∧ Q u.1)) (fun u => Rp g u.2) (aR g)) 0 0 (aR g) := by
  refine met_Z (plainFor_of_name rfl) (Nat.le_of_ble_eq_true rfl) ?_
  intro p e s m args below meth c F hr _
  show Z g p l e rm_X12_count s m args below meth c 4 (MQ below (va_Qi (S := Int × Mem) (fun r u => r = i3 u.1 ∧ (u.2 = M ∧ Q u.1)) (fun u => Rp g u.2) (aR g)) args s 0 0 (aR g)) M 0 [(0, .ref (g.2.2.1 + a0)), (1, .int (i3 a1))] []
  refine z_iconst F dX12_count_0 rfl ?_
  refine z_istore_n F dX12_count_1 rfl rfl (by decide) rfl ?_
  refine z_iload_n F dX12_count_2 rfl rfl 2 rfl ?_
  by_cases e3_0 : w32 a1 = 0
  · refine z_swcase F 0 dX12_count_3 e3_0 (by decide) (by decide) rfl rfl ?_
    have hw := hw.1 e3_0
    refine z_aload_n F dX12_count_36 rfl rfl 1 rfl ?_
    refine z_getI F fl_997 k0 dX12_count_37 rfl ?_
    exact z_iretp (x := (M a0 5)) F hr dX12_count_40 hw
  · skip
    by_cases e3_1 : w32 a1 = 1
    · refine z_swcase F 1 dX12_count_3 e3_1 (by decide) (by decide) rfl rfl ?_
      have hw := hw.2.1 e3_1
      refine z_aload_n F dX12_count_41 rfl rfl 1 rfl ?_
      refine z_getR F fl_993 k0 dX12_count_42 rfl ?_
      refine z_cSip (As := [.ref (g.2.2.1 + (rt a0 1))]) (st := []) F (c_X12_many l g (tk_12_1 k0) hw) cs_X12_many w_1108 ⟨rfl, rfl, Nat.le_of_ble_eq_true rfl, Nat.le_of_ble_eq_true rfl⟩ rfl (Nat.le_of_ble_eq_true rfl) dX12_count_45 rfl (fun r45 hw => ?_)
      exact z_iretp (x := r45) F hr dX12_count_48 hw
    · skip
      by_cases e3_2 : w32 a1 = 2
      · refine z_swcase F 2 dX12_count_3 e3_2 (by decide) (by decide) rfl rfl ?_
        have hw := hw.2.2.1 e3_2
        refine z_aload_n F dX12_count_49 rfl rfl 1 rfl ?_
        refine z_getR F fl_994 k0 dX12_count_50 rfl ?_
        refine z_cSip (As := [.ref (g.2.2.1 + (rt a0 2))]) (st := []) F (c_X12_many l g (tk_12_2 k0) hw) cs_X12_many w_1108 ⟨rfl, rfl, Nat.le_of_ble_eq_true rfl, Nat.le_of_ble_eq_true rfl⟩ rfl (Nat.le_of_ble_eq_true rfl) dX12_count_53 rfl (fun r53 hw => ?_)
        exact z_iretp (x := r53) F hr dX12_count_56 hw
      · skip
        by_cases e3_3 : w32 a1 = 3
        · refine z_swcase F 3 dX12_count_3 e3_3 (by decide) (by decide) rfl rfl ?_
          have hw := hw.2.2.2.1 e3_3
          refine z_aload_n F dX12_count_57 rfl rfl 1 rfl ?_
          refine z_getI F fl_995 k0 dX12_count_58 rfl ?_
          exact z_iretp (x := (M a0 3)) F hr dX12_count_61 hw
        · skip
          by_cases e3_4 : w32 a1 = 4
          · refine z_swcase F 4 dX12_count_3 e3_4 (by decide) (by decide) rfl rfl ?_
            have hw := hw.2.2.2.2.1 e3_4
            refine z_iconst F dX12_count_62 rfl ?_
            refine z_istore_n F dX12_count_63 rfl rfl (by decide) rfl ?_
            refine z_sub [2, 1, 0] rfl ?_
            exact lp_X12_count_64 F hr k0 hw
          · skip
            have h9 : w32 a1 < 0 ∨ 4 < w32 a1 := by omega
            refine z_swout F dX12_count_3 h9 rfl ?_
            have hw := hw.2.2.2.2.2 h9
            refine z_bipush F dX12_count_90 (by decide) rfl ?_
            exact z_iretp (x := (-2)) F hr dX12_count_92 hw
theorem cv_X12_count : CV yX12_count RX12 cX12_count 4 (some .int) 1 := ⟨w_1415, w_1416, w_80, w_1417, rfl, by decide +kernel, by decide +kernel, by decide +kernel⟩
abbrev rm_X12_sheet : Room := { frames := 2, cells := 0, slots := 0, locals := 42 }
def wp_X12_sheet_B67 (a0 : Nat) (Q : Int → Mem → Prop) (K67 : Mem → Int → Prop) (M : Mem) (x1 : Int) (x4 : Int) : Prop :=
  (((w32 40 ≤ w32 x4) → (
    Q 1 M)) ∧
  (¬ (w32 40 ≤ w32 x4) → (
    inb (rt a0 33) ((40 * x1) + x4) ∧ (
    ∀ M86 : Mem, M86 = st2 M (rt a0 33) (ix ((40 * x1) + x4)) 0 →
    K67 M86 (x4 + 1)))))
def wp_X12_sheet_L67 (a0 : Nat) (Q : Int → Mem → Prop) (M : Mem) (x1 : Int) (x4 : Int) : Prop :=
  ∃ (I : Mem → Int → Prop) (μ : Mem → Int → Nat), I M x4 ∧ ∀ (M : Mem) (x4 : Int), I M x4 →
    wp_X12_sheet_B67 a0 Q (fun M' x4' => I M' x4' ∧ μ M' x4' < μ M x4) M x1 x4
def wp_X12_sheet_b63 (a0 : Nat) (Q : Int → Mem → Prop) (M : Mem) (s1 : Int) (s2 : Int) (x1 : Int) : Prop :=
  inb (rt a0 32) s1 ∧ (
  ∀ M63 : Mem, M63 = st2 M (rt a0 32) (ix s1) s2 →
  wp_X12_sheet_L67 a0 Q M63 x1 0)
def wp_X12_sheet_b40 (a0 : Nat) (Q : Int → Mem → Prop) (M : Mem) (x1 : Int) (x2 : Int) (x3 : Int) : Prop :=
  inb (rt a0 31) x1 ∧ (
  ∀ M48 : Mem, M48 = st2 M (rt a0 31) (ix x1) (x2 + 1) →
  (((0 ≤ w32 x2) → (
    wp_X12_sheet_b63 a0 Q M48 x1 x3 x1)) ∧
  (¬ (0 ≤ w32 x2) → (
    wp_X12_sheet_b63 a0 Q M48 x1 0 x1))))
def wp_X12_sheet_b29 (a0 : Nat) (Q : Int → Mem → Prop) (M : Mem) (x1 : Int) (x2 : Int) (x3 : Int) : Prop :=
  (((w32 x2 < 0) → (
    wp_X12_sheet_b40 a0 Q M x1 x2 x3)) ∧
  (¬ (w32 x2 < 0) → (
    (((0 ≤ w32 x3) → (
      wp_X12_sheet_b40 a0 Q M x1 x2 x3)) ∧
    (¬ (0 ≤ w32 x3) → (
      Q (-14) M))))))
def wp_X12_sheet (a0 : Nat) (a1 : Int) (a2 : Int) (a3 : Int) (M : Mem) (Q : Int → Mem → Prop) : Prop :=
  wp_X12_isSheet a1 M (fun r1 =>
  ((r1 = false → (
    Q (-2) M)) ∧
  (r1 = true → (
    wp_X12_within a2 (-1) 1 M (fun r10 =>
    ((r10 = false → (
      Q (-2) M)) ∧
    (r10 = true → (
      (((w32 a2 < 0) → (
        wp_X12_sheet_b29 a0 Q M a1 a2 a3)) ∧
      (¬ (w32 a2 < 0) → (
        (((w32 a3 ≤ w32 40) → (
          wp_X12_sheet_b29 a0 Q M a1 a2 a3)) ∧
        (¬ (w32 a3 ≤ w32 40) → (
          Q (-2) M))))))))))))))
set_option maxRecDepth 100000 in
set_option maxHeartbeats 4000000 in
theorem bk_X12_sheet_B67 {g : En} {p : Program} {l : Launch} {e : Env} {s : State} {m : MethodId} {args : Array Value} {below : List Frame} {meth : Method} {c : Code} {M : Mem} {a0 : Nat} {Q : Int → Mem → Prop} {K67 : Mem → Int → Prop} {x1 : Int} {x4 : Int} (F : Fx g p s m args meth c cX12_sheet 5 RX12) (hr : meth.sig.returnType = (some .int)) (k0 : kd a0 = 12)
    (hK67 : ∀ (M' : Mem) (x4' : Int), K67 M' x4' → Z g p l e rm_X12_sheet s m args below meth c 5 (MQ below (va_Qi (S := Int × Mem) (fun r u => r = i3 u.1 ∧ Q u.1 u.2) (fun u => Rp g u.2) (aR g)) args s 0 0 (aR g)) M' 67 [(0, .ref (g.2.2.1 + a0)), (1, .int (i3 x1)), (4, .int (i3 x4'))] [])
    (hw : wp_X12_sheet_B67 a0 Q K67 M x1 x4) : Z g p l e rm_X12_sheet s m args below meth c 5 (MQ below (va_Qi (S := Int × Mem) (fun r u => r = i3 u.1 ∧ Q u.1 u.2) (fun u => Rp g u.2) (aR g)) args s 0 0 (aR g)) M 67 [(0, .ref (g.2.2.1 + a0)), (1, .int (i3 x1)), (4, .int (i3 x4))] [] := by
  refine z_iload F dX12_sheet_67 rfl 2 rfl ?_
  refine z_bipush F dX12_sheet_69 (by decide) rfl ?_
  refine z_icmp_ge F dX12_sheet_71 rfl rfl hw (fun hw => ?_) (fun hw => ?_)
  · refine z_iconst F dX12_sheet_93 rfl ?_
    exact z_iret (x := 1) F hr dX12_sheet_94 hw
  · refine z_aload_n F dX12_sheet_74 rfl rfl 0 rfl ?_
    refine z_getR F fl_1025 k0 dX12_sheet_75 rfl ?_
    refine z_bipush F dX12_sheet_78 (by decide) rfl ?_
    refine z_iload_n F dX12_sheet_80 rfl rfl 1 rfl ?_
    refine z_imul F dX12_sheet_81 rfl ?_
    refine z_iload F dX12_sheet_82 rfl 2 rfl ?_
    refine z_iadd F dX12_sheet_84 rfl ?_
    refine z_iconst F dX12_sheet_85 rfl ?_
    refine z_iast F (tk_12_33 k0) dX12_sheet_86 rfl hw (fun hw => ?_)
    refine z_nmM (fun M86 eM86 => ?_)
    have hw := hw M86 eM86
    refine z_iinc F dX12_sheet_87 rfl 2 rfl (by decide) rfl ?_
    refine z_goto F dX12_sheet_90 rfl ?_
    refine z_sub [1, 2, 0] rfl ?_
    exact hK67 M86 (x4 + 1) hw
set_option maxRecDepth 100000 in
set_option maxHeartbeats 4000000 in
theorem lp_X12_sheet_67 {g : En} {p : Program} {l : Launch} {e : Env} {s : State} {m : MethodId} {args : Array Value} {below : List Frame} {meth : Method} {c : Code} {M : Mem} {a0 : Nat} {Q : Int → Mem → Prop} {x1 : Int} {x4 : Int} (F : Fx g p s m args meth c cX12_sheet 5 RX12) (hr : meth.sig.returnType = (some .int)) (k0 : kd a0 = 12)
    (hw : wp_X12_sheet_L67 a0 Q M x1 x4) : Z g p l e rm_X12_sheet s m args below meth c 5 (MQ below (va_Qi (S := Int × Mem) (fun r u => r = i3 u.1 ∧ Q u.1 u.2) (fun u => Rp g u.2) (aR g)) args s 0 0 (aR g)) M 67 [(0, .ref (g.2.2.1 + a0)), (1, .int (i3 x1)), (4, .int (i3 x4))] [] := by
  obtain ⟨I, μ, h0, hb⟩ := hw
  have key : ∀ (n : Nat) (M : Mem) (x4 : Int), I M x4 → μ M x4 < n → Z g p l e rm_X12_sheet s m args below meth c 5 (MQ below (va_Qi (S := Int × Mem) (fun r u => r = i3 u.1 ∧ Q u.1 u.2) (fun u => Rp g u.2) (aR g)) args s 0 0 (aR g)) M 67 [(0, .ref (g.2.2.1 + a0)), (1, .int (i3 x1)), (4, .int (i3 x4))] [] := by
    intro n
    induction n with
    | zero => exact fun _ _ _ h => absurd h (Nat.not_lt_zero _)
    | succ n ih =>
      intro M x4 hI hn
      exact bk_X12_sheet_B67 F hr k0 (fun M' x4' hk => ih M' x4' hk.1 (Nat.lt_of_lt_of_le hk.2 (Nat.le_of_lt_succ hn))) (hb M x4 hI)
  exact key _ M x4 h0 (Nat.lt_succ_self _)
set_option maxRecDepth 100000 in
set_option maxHeartbeats 4000000 in
theorem bk_X12_sheet_63 {g : En} {p : Program} {l : Launch} {e : Env} {s : State} {m : MethodId} {args : Array Value} {below : List Frame} {meth : Method} {c : Code} {M : Mem} {a0 : Nat} {Q : Int → Mem → Prop} {s1 : Int} {s2 : Int} {x1 : Int} (F : Fx g p s m args meth c cX12_sheet 5 RX12) (hr : meth.sig.returnType = (some .int)) (k0 : kd a0 = 12)
    (hw : wp_X12_sheet_b63 a0 Q M s1 s2 x1) : Z g p l e rm_X12_sheet s m args below meth c 5 (MQ below (va_Qi (S := Int × Mem) (fun r u => r = i3 u.1 ∧ Q u.1 u.2) (fun u => Rp g u.2) (aR g)) args s 0 0 (aR g)) M 63 [(0, .ref (g.2.2.1 + a0)), (1, .int (i3 x1))] [.int (i3 s2), .int (i3 s1), .ref (g.2.2.1 + (rt a0 32))] := by
  refine z_iast F (tk_12_32 k0) dX12_sheet_63 rfl hw (fun hw => ?_)
  refine z_nmM (fun M63 eM63 => ?_)
  have hw := hw M63 eM63
  refine z_iconst F dX12_sheet_64 rfl ?_
  refine z_istore F dX12_sheet_65 rfl (by decide) rfl ?_
  refine z_sub [1, 2, 0] rfl ?_
  exact lp_X12_sheet_67 F hr k0 hw
set_option maxRecDepth 100000 in
set_option maxHeartbeats 4000000 in
theorem bk_X12_sheet_40 {g : En} {p : Program} {l : Launch} {e : Env} {s : State} {m : MethodId} {args : Array Value} {below : List Frame} {meth : Method} {c : Code} {M : Mem} {a0 : Nat} {Q : Int → Mem → Prop} {x1 : Int} {x2 : Int} {x3 : Int} (F : Fx g p s m args meth c cX12_sheet 5 RX12) (hr : meth.sig.returnType = (some .int)) (k0 : kd a0 = 12)
    (hw : wp_X12_sheet_b40 a0 Q M x1 x2 x3) : Z g p l e rm_X12_sheet s m args below meth c 5 (MQ below (va_Qi (S := Int × Mem) (fun r u => r = i3 u.1 ∧ Q u.1 u.2) (fun u => Rp g u.2) (aR g)) args s 0 0 (aR g)) M 40 [(0, .ref (g.2.2.1 + a0)), (1, .int (i3 x1)), (2, .int (i3 x2)), (3, .int (i3 x3))] [] := by
  refine z_aload_n F dX12_sheet_40 rfl rfl 0 rfl ?_
  refine z_getR F fl_1023 k0 dX12_sheet_41 rfl ?_
  refine z_iload_n F dX12_sheet_44 rfl rfl 1 rfl ?_
  refine z_iload_n F dX12_sheet_45 rfl rfl 2 rfl ?_
  refine z_iconst F dX12_sheet_46 rfl ?_
  refine z_iadd F dX12_sheet_47 rfl ?_
  refine z_iast F (tk_12_31 k0) dX12_sheet_48 rfl hw (fun hw => ?_)
  refine z_nmM (fun M48 eM48 => ?_)
  have hw := hw M48 eM48
  refine z_aload_n F dX12_sheet_49 rfl rfl 0 rfl ?_
  refine z_getR F fl_1024 k0 dX12_sheet_50 rfl ?_
  refine z_iload_n F dX12_sheet_53 rfl rfl 1 rfl ?_
  refine z_iload_n F dX12_sheet_54 rfl rfl 2 rfl ?_
  refine z_if_ge F dX12_sheet_55 rfl rfl hw (fun hw => ?_) (fun hw => ?_)
  · refine z_iload_n F dX12_sheet_62 rfl rfl 3 rfl ?_
    refine z_sub [0, 1] rfl ?_
    exact bk_X12_sheet_63 F hr k0 hw
  · refine z_iconst F dX12_sheet_58 rfl ?_
    refine z_goto F dX12_sheet_59 rfl ?_
    refine z_sub [0, 1] rfl ?_
    exact bk_X12_sheet_63 F hr k0 hw
set_option maxRecDepth 100000 in
set_option maxHeartbeats 4000000 in
theorem bk_X12_sheet_29 {g : En} {p : Program} {l : Launch} {e : Env} {s : State} {m : MethodId} {args : Array Value} {below : List Frame} {meth : Method} {c : Code} {M : Mem} {a0 : Nat} {Q : Int → Mem → Prop} {x1 : Int} {x2 : Int} {x3 : Int} (F : Fx g p s m args meth c cX12_sheet 5 RX12) (hr : meth.sig.returnType = (some .int)) (k0 : kd a0 = 12)
    (hw : wp_X12_sheet_b29 a0 Q M x1 x2 x3) : Z g p l e rm_X12_sheet s m args below meth c 5 (MQ below (va_Qi (S := Int × Mem) (fun r u => r = i3 u.1 ∧ Q u.1 u.2) (fun u => Rp g u.2) (aR g)) args s 0 0 (aR g)) M 29 [(0, .ref (g.2.2.1 + a0)), (1, .int (i3 x1)), (2, .int (i3 x2)), (3, .int (i3 x3))] [] := by
  refine z_iload_n F dX12_sheet_29 rfl rfl 2 rfl ?_
  refine z_if_lt F dX12_sheet_30 rfl rfl hw (fun hw => ?_) (fun hw => ?_)
  · refine z_sub [0, 1, 2, 3] rfl ?_
    exact bk_X12_sheet_40 F hr k0 hw
  · refine z_iload_n F dX12_sheet_33 rfl rfl 3 rfl ?_
    refine z_if_ge F dX12_sheet_34 rfl rfl hw (fun hw => ?_) (fun hw => ?_)
    · refine z_sub [0, 1, 2, 3] rfl ?_
      exact bk_X12_sheet_40 F hr k0 hw
    · refine z_bipush F dX12_sheet_37 (by decide) rfl ?_
      exact z_iret (x := (-14)) F hr dX12_sheet_39 hw
set_option maxRecDepth 100000 in
set_option maxHeartbeats 4000000 in
theorem c_X12_sheet (l : Launch) (g : En) {a0 : Nat} {a1 : Int} {a2 : Int} {a3 : Int} {M : Mem} {Q : Int → Mem → Prop} (k0 : kd a0 = 12) (hw : wp_X12_sheet a0 a1 a2 a3 M Q) :
    Met l yX12_sheet (WS yX12_sheet cX12_sheet 5 (some .int)) rm_X12_sheet (va_Pc [.ref (g.2.2.1 + a0), .int (i3 a1), .int (i3 a2), .int (i3 a3)] (Rp g M)) (va_Qi (S := Int × Mem) (fun r u => r = i3 u.1 ∧ Q u.1 u.2) (fun u => Rp g u.2) (aR g)) 0 0 (aR g) := by
  refine met_Z (plainFor_of_name rfl) (Nat.le_of_ble_eq_true rfl) ?_
  intro p e s m args below meth c F hr _
  show Z g p l e rm_X12_sheet s m args below meth c 5 (MQ below (va_Qi (S := Int × Mem) (fun r u => r = i3 u.1 ∧ Q u.1 u.2) (fun u => Rp g u.2) (aR g)) args s 0 0 (aR g)) M 0 [(0, .ref (g.2.2.1 + a0)), (1, .int (i3 a1)), (2, .int (i3 a2)), (3, .int (i3 a3))] []
  refine z_iload_n F dX12_sheet_0 rfl rfl 1 rfl ?_
  refine z_cSbp (As := [.int (i3 a1)]) (st := []) F (c_X12_isSheet l g hw) cs_X12_isSheet w_1363 ⟨rfl, rfl, Nat.le_of_ble_eq_true rfl, Nat.le_of_ble_eq_true rfl⟩ rfl (Nat.le_of_ble_eq_true rfl) dX12_sheet_1 rfl (fun r1 hw => ?_)
  refine z_ifb_eq F dX12_sheet_4 rfl rfl hw (fun hw => ?_) (fun hw => ?_)
  · refine z_bipush F dX12_sheet_26 (by decide) rfl ?_
    exact z_iret (x := (-2)) F hr dX12_sheet_28 hw
  · refine z_iload_n F dX12_sheet_7 rfl rfl 2 rfl ?_
    refine z_iconst F dX12_sheet_8 rfl ?_
    refine z_iconst F dX12_sheet_9 rfl ?_
    refine z_cSbp (As := [.int (i3 a2), .int (i3 (-1)), .int (i3 1)]) (st := []) F (c_X12_within l g hw) cs_X12_within w_1102 ⟨rfl, rfl, Nat.le_of_ble_eq_true rfl, Nat.le_of_ble_eq_true rfl⟩ rfl (Nat.le_of_ble_eq_true rfl) dX12_sheet_10 rfl (fun r10 hw => ?_)
    refine z_ifb_eq F dX12_sheet_13 rfl rfl hw (fun hw => ?_) (fun hw => ?_)
    · refine z_bipush F dX12_sheet_26 (by decide) rfl ?_
      exact z_iret (x := (-2)) F hr dX12_sheet_28 hw
    · refine z_iload_n F dX12_sheet_16 rfl rfl 2 rfl ?_
      refine z_if_lt F dX12_sheet_17 rfl rfl hw (fun hw => ?_) (fun hw => ?_)
      · refine z_sub [0, 1, 2, 3] rfl ?_
        exact bk_X12_sheet_29 F hr k0 hw
      · refine z_iload_n F dX12_sheet_20 rfl rfl 3 rfl ?_
        refine z_bipush F dX12_sheet_21 (by decide) rfl ?_
        refine z_icmp_le F dX12_sheet_23 rfl rfl hw (fun hw => ?_) (fun hw => ?_)
        · refine z_sub [0, 1, 2, 3] rfl ?_
          exact bk_X12_sheet_29 F hr k0 hw
        · refine z_bipush F dX12_sheet_26 (by decide) rfl ?_
          exact z_iret (x := (-2)) F hr dX12_sheet_28 hw
theorem cv_X12_sheet : CV yX12_sheet RX12 cX12_sheet 5 (some .int) 3 := ⟨w_1419, w_1420, w_80, w_1421, rfl, by decide +kernel, by decide +kernel, by decide +kernel⟩
abbrev rm_X12_put : Room := { frames := 2, cells := 0, slots := 0, locals := 42 }
def wp_X12_put_b67 (a0 : Nat) (Q : Int → Mem → Prop) (M : Mem) (s1 : Int) (s2 : Int) : Prop :=
  inb (rt a0 33) s1 ∧ (
  ∀ M67 : Mem, M67 = st2 M (rt a0 33) (ix s1) s2 →
  Q 1 M67)
def wp_X12_put (a0 : Nat) (a1 : Int) (a2 : Int) (a3 : Int) (M : Mem) (Q : Int → Mem → Prop) : Prop :=
  wp_X12_isSheet a1 M (fun r1 =>
  ((r1 = true → (
    inb (rt a0 31) a1 ∧ (
    (((¬ w32 (M (rt a0 31) (ix a1)) = 0) → (
      inb (rt a0 32) a1 ∧ (
      wp_X12_within a2 0 ((M (rt a0 32) (ix a1)) - 1) M (fun r32 =>
      ((r32 = true → (
        inb (rt a0 31) a1 ∧ (
        (((¬ w32 (M (rt a0 31) (ix a1)) = w32 1) → (
          wp_X12_put_b67 a0 Q M ((40 * a1) + a2) a3)) ∧
        (¬ (¬ w32 (M (rt a0 31) (ix a1)) = w32 1) → (
          wp_X12_put_b67 a0 Q M ((40 * a1) + a2) (w8 a3))))))) ∧
      (r32 = false → (
        Q (-12) M))))))) ∧
    (¬ (¬ w32 (M (rt a0 31) (ix a1)) = 0) → (
      Q (-11) M)))))) ∧
  (r1 = false → (
    Q (-2) M))))
set_option maxRecDepth 100000 in
set_option maxHeartbeats 4000000 in
theorem bk_X12_put_67 {g : En} {p : Program} {l : Launch} {e : Env} {s : State} {m : MethodId} {args : Array Value} {below : List Frame} {meth : Method} {c : Code} {M : Mem} {a0 : Nat} {Q : Int → Mem → Prop} {s1 : Int} {s2 : Int} (F : Fx g p s m args meth c cX12_put 4 RX12) (hr : meth.sig.returnType = (some .int)) (k0 : kd a0 = 12)
    (hw : wp_X12_put_b67 a0 Q M s1 s2) : Z g p l e rm_X12_put s m args below meth c 4 (MQ below (va_Qi (S := Int × Mem) (fun r u => r = i3 u.1 ∧ Q u.1 u.2) (fun u => Rp g u.2) (aR g)) args s 0 0 (aR g)) M 67 [] [.int (i3 s2), .int (i3 s1), .ref (g.2.2.1 + (rt a0 33))] := by
  refine z_iast F (tk_12_33 k0) dX12_put_67 rfl hw (fun hw => ?_)
  refine z_nmM (fun M67 eM67 => ?_)
  have hw := hw M67 eM67
  refine z_iconst F dX12_put_68 rfl ?_
  exact z_iret (x := 1) F hr dX12_put_69 hw
set_option maxRecDepth 100000 in
set_option maxHeartbeats 4000000 in
theorem c_X12_put (l : Launch) (g : En) {a0 : Nat} {a1 : Int} {a2 : Int} {a3 : Int} {M : Mem} {Q : Int → Mem → Prop} (k0 : kd a0 = 12) (hw : wp_X12_put a0 a1 a2 a3 M Q) :
    Met l yX12_put (WS yX12_put cX12_put 4 (some .int)) rm_X12_put (va_Pc [.ref (g.2.2.1 + a0), .int (i3 a1), .int (i3 a2), .int (i3 a3)] (Rp g M)) (va_Qi (S := Int × Mem) (fun r u => r = i3 u.1 ∧ Q u.1 u.2) (fun u => Rp g u.2) (aR g)) 0 0 (aR g) := by
  refine met_Z (plainFor_of_name rfl) (Nat.le_of_ble_eq_true rfl) ?_
  intro p e s m args below meth c F hr _
  show Z g p l e rm_X12_put s m args below meth c 4 (MQ below (va_Qi (S := Int × Mem) (fun r u => r = i3 u.1 ∧ Q u.1 u.2) (fun u => Rp g u.2) (aR g)) args s 0 0 (aR g)) M 0 [(0, .ref (g.2.2.1 + a0)), (1, .int (i3 a1)), (2, .int (i3 a2)), (3, .int (i3 a3))] []
  refine z_iload_n F dX12_put_0 rfl rfl 1 rfl ?_
  refine z_cSbp (As := [.int (i3 a1)]) (st := []) F (c_X12_isSheet l g hw) cs_X12_isSheet w_1363 ⟨rfl, rfl, Nat.le_of_ble_eq_true rfl, Nat.le_of_ble_eq_true rfl⟩ rfl (Nat.le_of_ble_eq_true rfl) dX12_put_1 rfl (fun r1 hw => ?_)
  refine z_ifb_ne F dX12_put_4 rfl rfl hw (fun hw => ?_) (fun hw => ?_)
  · refine z_aload_n F dX12_put_10 rfl rfl 0 rfl ?_
    refine z_getR F fl_1023 k0 dX12_put_11 rfl ?_
    refine z_iload_n F dX12_put_14 rfl rfl 1 rfl ?_
    refine z_iald F (tk_12_31 k0) dX12_put_15 rfl hw (fun hw => ?_)
    refine z_if_ne F dX12_put_16 rfl rfl hw (fun hw => ?_) (fun hw => ?_)
    · refine z_iload_n F dX12_put_22 rfl rfl 2 rfl ?_
      refine z_iconst F dX12_put_23 rfl ?_
      refine z_aload_n F dX12_put_24 rfl rfl 0 rfl ?_
      refine z_getR F fl_1024 k0 dX12_put_25 rfl ?_
      refine z_iload_n F dX12_put_28 rfl rfl 1 rfl ?_
      refine z_iald F (tk_12_32 k0) dX12_put_29 rfl hw (fun hw => ?_)
      refine z_iconst F dX12_put_30 rfl ?_
      refine z_isub F dX12_put_31 rfl ?_
      refine z_cSbp (As := [.int (i3 a2), .int (i3 0), .int (i3 ((M (rt a0 32) (ix a1)) - 1))]) (st := []) F (c_X12_within l g hw) cs_X12_within w_1102 ⟨rfl, rfl, Nat.le_of_ble_eq_true rfl, Nat.le_of_ble_eq_true rfl⟩ rfl (Nat.le_of_ble_eq_true rfl) dX12_put_32 rfl (fun r32 hw => ?_)
      refine z_ifb_ne F dX12_put_35 rfl rfl hw (fun hw => ?_) (fun hw => ?_)
      · refine z_aload_n F dX12_put_41 rfl rfl 0 rfl ?_
        refine z_getR F fl_1025 k0 dX12_put_42 rfl ?_
        refine z_bipush F dX12_put_45 (by decide) rfl ?_
        refine z_iload_n F dX12_put_47 rfl rfl 1 rfl ?_
        refine z_imul F dX12_put_48 rfl ?_
        refine z_iload_n F dX12_put_49 rfl rfl 2 rfl ?_
        refine z_iadd F dX12_put_50 rfl ?_
        refine z_aload_n F dX12_put_51 rfl rfl 0 rfl ?_
        refine z_getR F fl_1023 k0 dX12_put_52 rfl ?_
        refine z_iload_n F dX12_put_55 rfl rfl 1 rfl ?_
        refine z_iald F (tk_12_31 k0) dX12_put_56 rfl hw (fun hw => ?_)
        refine z_iconst F dX12_put_57 rfl ?_
        refine z_icmp_ne F dX12_put_58 rfl rfl hw (fun hw => ?_) (fun hw => ?_)
        · refine z_iload_n F dX12_put_66 rfl rfl 3 rfl ?_
          refine z_sub [] rfl ?_
          exact bk_X12_put_67 F hr k0 hw
        · refine z_iload_n F dX12_put_61 rfl rfl 3 rfl ?_
          refine z_i2b F dX12_put_62 rfl ?_
          refine z_goto F dX12_put_63 rfl ?_
          refine z_sub [] rfl ?_
          exact bk_X12_put_67 F hr k0 hw
      · refine z_bipush F dX12_put_38 (by decide) rfl ?_
        exact z_iret (x := (-12)) F hr dX12_put_40 hw
    · refine z_bipush F dX12_put_19 (by decide) rfl ?_
      exact z_iret (x := (-11)) F hr dX12_put_21 hw
  · refine z_bipush F dX12_put_7 (by decide) rfl ?_
    exact z_iret (x := (-2)) F hr dX12_put_9 hw
theorem cv_X12_put : CV yX12_put RX12 cX12_put 4 (some .int) 3 := ⟨w_1423, w_1424, w_80, w_1425, rfl, by decide +kernel, by decide +kernel, by decide +kernel⟩
abbrev rm_X12_copy : Room := { frames := 2, cells := 0, slots := 0, locals := 42 }
def wp_X12_copy_B171 (a0 : Nat) (Q : Int → Mem → Prop) (K171 : Mem → Int → Prop) (M : Mem) (x1 : Int) (x2 : Int) (x3 : Int) (x4 : Int) (x5 : Int) (x6 : Int) : Prop :=
  (((w32 x5 ≤ w32 x6) → (
    Q x5 M)) ∧
  (¬ (w32 x5 ≤ w32 x6) → (
    inb (rt a0 33) (((40 * x1) + x2) + x6) ∧ (
    inb (rt a0 33) (((40 * x3) + x4) + x6) ∧ (
    ∀ M206 : Mem, M206 = st2 M (rt a0 33) (ix (((40 * x3) + x4) + x6)) (M (rt a0 33) (ix (((40 * x1) + x2) + x6))) →
    K171 M206 (x6 + 1))))))
def wp_X12_copy_L171 (a0 : Nat) (Q : Int → Mem → Prop) (M : Mem) (x1 : Int) (x2 : Int) (x3 : Int) (x4 : Int) (x5 : Int) (x6 : Int) : Prop :=
  ∃ (I : Mem → Int → Prop) (μ : Mem → Int → Nat), I M x6 ∧ ∀ (M : Mem) (x6 : Int), I M x6 →
    wp_X12_copy_B171 a0 Q (fun M' x6' => I M' x6' ∧ μ M' x6' < μ M x6) M x1 x2 x3 x4 x5 x6
def wp_X12_copy_b168 (a0 : Nat) (Q : Int → Mem → Prop) (M : Mem) (x1 : Int) (x2 : Int) (x3 : Int) (x4 : Int) (x5 : Int) : Prop :=
  wp_X12_copy_L171 a0 Q M x1 x2 x3 x4 x5 0
def wp_X12_copy_B125 (a0 : Nat) (Q : Int → Mem → Prop) (K125 : Mem → Int → Prop) (M : Mem) (x1 : Int) (x2 : Int) (x3 : Int) (x4 : Int) (x5 : Int) (x6 : Int) : Prop :=
  (((w32 x6 < 0) → (
    Q x5 M)) ∧
  (¬ (w32 x6 < 0) → (
    inb (rt a0 33) (((40 * x1) + x2) + x6) ∧ (
    inb (rt a0 33) (((40 * x3) + x4) + x6) ∧ (
    ∀ M158 : Mem, M158 = st2 M (rt a0 33) (ix (((40 * x3) + x4) + x6)) (M (rt a0 33) (ix (((40 * x1) + x2) + x6))) →
    K125 M158 (x6 + (-1)))))))
def wp_X12_copy_L125 (a0 : Nat) (Q : Int → Mem → Prop) (M : Mem) (x1 : Int) (x2 : Int) (x3 : Int) (x4 : Int) (x5 : Int) (x6 : Int) : Prop :=
  ∃ (I : Mem → Int → Prop) (μ : Mem → Int → Nat), I M x6 ∧ ∀ (M : Mem) (x6 : Int), I M x6 →
    wp_X12_copy_B125 a0 Q (fun M' x6' => I M' x6' ∧ μ M' x6' < μ M x6) M x1 x2 x3 x4 x5 x6
def wp_X12_copy (a0 : Nat) (a1 : Int) (a2 : Int) (a3 : Int) (a4 : Int) (a5 : Int) (M : Mem) (Q : Int → Mem → Prop) : Prop :=
  wp_X12_isSheet a1 M (fun r1 =>
  ((r1 = false → (
    Q (-2) M)) ∧
  (r1 = true → (
    wp_X12_isSheet a3 M (fun r8 =>
    ((r8 = true → (
      inb (rt a0 31) a1 ∧ (
      (((w32 (M (rt a0 31) (ix a1)) = 0) → (
        Q (-11) M)) ∧
      (¬ (w32 (M (rt a0 31) (ix a1)) = 0) → (
        inb (rt a0 31) a3 ∧ (
        (((¬ w32 (M (rt a0 31) (ix a3)) = 0) → (
          inb (rt a0 31) a1 ∧ (
          inb (rt a0 31) a3 ∧ (
          (((w32 (M (rt a0 31) (ix a1)) = w32 (M (rt a0 31) (ix a3))) → (
            (((w32 a5 < 0) → (
              Q (-12) M)) ∧
            (¬ (w32 a5 < 0) → (
              (((w32 a2 < 0) → (
                Q (-12) M)) ∧
              (¬ (w32 a2 < 0) → (
                (((w32 a4 < 0) → (
                  Q (-12) M)) ∧
                (¬ (w32 a4 < 0) → (
                  inb (rt a0 32) a1 ∧ (
                  (((w64 (w32 (M (rt a0 32) (ix a1))) < w64 ((w32 a2) + (w32 a5))) → (
                    Q (-12) M)) ∧
                  (¬ (w64 (w32 (M (rt a0 32) (ix a1))) < w64 ((w32 a2) + (w32 a5))) → (
                    inb (rt a0 32) a3 ∧ (
                    (((w64 ((w32 a4) + (w32 a5)) ≤ w64 (w32 (M (rt a0 32) (ix a3)))) → (
                      (((¬ w32 a1 = w32 a3) → (
                        wp_X12_copy_b168 a0 Q M a1 a2 a3 a4 a5)) ∧
                      (¬ (¬ w32 a1 = w32 a3) → (
                        (((w32 a4 ≤ w32 a2) → (
                          wp_X12_copy_b168 a0 Q M a1 a2 a3 a4 a5)) ∧
                        (¬ (w32 a4 ≤ w32 a2) → (
                          wp_X12_copy_L125 a0 Q M a1 a2 a3 a4 a5 (a5 - 1))))))))) ∧
                    (¬ (w64 ((w32 a4) + (w32 a5)) ≤ w64 (w32 (M (rt a0 32) (ix a3)))) → (
                      Q (-12) M))))))))))))))))))) ∧
          (¬ (w32 (M (rt a0 31) (ix a1)) = w32 (M (rt a0 31) (ix a3))) → (
            Q (-13) M))))))) ∧
        (¬ (¬ w32 (M (rt a0 31) (ix a3)) = 0) → (
          Q (-11) M)))))))))) ∧
    (r8 = false → (
      Q (-2) M))))))))
set_option maxRecDepth 100000 in
set_option maxHeartbeats 4000000 in
theorem bk_X12_copy_B171 {g : En} {p : Program} {l : Launch} {e : Env} {s : State} {m : MethodId} {args : Array Value} {below : List Frame} {meth : Method} {c : Code} {M : Mem} {a0 : Nat} {Q : Int → Mem → Prop} {K171 : Mem → Int → Prop} {x1 : Int} {x2 : Int} {x3 : Int} {x4 : Int} {x5 : Int} {x6 : Int} (F : Fx g p s m args meth c cX12_copy 7 RX12) (hr : meth.sig.returnType = (some .int)) (k0 : kd a0 = 12)
    (hK171 : ∀ (M' : Mem) (x6' : Int), K171 M' x6' → Z g p l e rm_X12_copy s m args below meth c 7 (MQ below (va_Qi (S := Int × Mem) (fun r u => r = i3 u.1 ∧ Q u.1 u.2) (fun u => Rp g u.2) (aR g)) args s 0 0 (aR g)) M' 171 [(0, .ref (g.2.2.1 + a0)), (1, .int (i3 x1)), (2, .int (i3 x2)), (3, .int (i3 x3)), (4, .int (i3 x4)), (5, .int (i3 x5)), (6, .int (i3 x6'))] [])
    (hw : wp_X12_copy_B171 a0 Q K171 M x1 x2 x3 x4 x5 x6) : Z g p l e rm_X12_copy s m args below meth c 7 (MQ below (va_Qi (S := Int × Mem) (fun r u => r = i3 u.1 ∧ Q u.1 u.2) (fun u => Rp g u.2) (aR g)) args s 0 0 (aR g)) M 171 [(0, .ref (g.2.2.1 + a0)), (1, .int (i3 x1)), (2, .int (i3 x2)), (3, .int (i3 x3)), (4, .int (i3 x4)), (5, .int (i3 x5)), (6, .int (i3 x6))] [] := by
  refine z_iload F dX12_copy_171 rfl 6 rfl ?_
  refine z_iload F dX12_copy_173 rfl 5 rfl ?_
  refine z_icmp_ge F dX12_copy_175 rfl rfl hw (fun hw => ?_) (fun hw => ?_)
  · refine z_iload F dX12_copy_213 rfl 5 rfl ?_
    exact z_iret (x := x5) F hr dX12_copy_215 hw
  · refine z_aload_n F dX12_copy_178 rfl rfl 0 rfl ?_
    refine z_getR F fl_1025 k0 dX12_copy_179 rfl ?_
    refine z_bipush F dX12_copy_182 (by decide) rfl ?_
    refine z_iload_n F dX12_copy_184 rfl rfl 3 rfl ?_
    refine z_imul F dX12_copy_185 rfl ?_
    refine z_iload F dX12_copy_186 rfl 4 rfl ?_
    refine z_iadd F dX12_copy_188 rfl ?_
    refine z_iload F dX12_copy_189 rfl 6 rfl ?_
    refine z_iadd F dX12_copy_191 rfl ?_
    refine z_aload_n F dX12_copy_192 rfl rfl 0 rfl ?_
    refine z_getR F fl_1025 k0 dX12_copy_193 rfl ?_
    refine z_bipush F dX12_copy_196 (by decide) rfl ?_
    refine z_iload_n F dX12_copy_198 rfl rfl 1 rfl ?_
    refine z_imul F dX12_copy_199 rfl ?_
    refine z_iload_n F dX12_copy_200 rfl rfl 2 rfl ?_
    refine z_iadd F dX12_copy_201 rfl ?_
    refine z_iload F dX12_copy_202 rfl 6 rfl ?_
    refine z_iadd F dX12_copy_204 rfl ?_
    refine z_iald F (tk_12_33 k0) dX12_copy_205 rfl hw (fun hw => ?_)
    refine z_iast F (tk_12_33 k0) dX12_copy_206 rfl hw (fun hw => ?_)
    refine z_nmM (fun M206 eM206 => ?_)
    have hw := hw M206 eM206
    refine z_iinc F dX12_copy_207 rfl 6 rfl (by decide) rfl ?_
    refine z_goto F dX12_copy_210 rfl ?_
    refine z_sub [1, 2, 3, 4, 5, 6, 0] rfl ?_
    exact hK171 M206 (x6 + 1) hw
set_option maxRecDepth 100000 in
set_option maxHeartbeats 4000000 in
theorem lp_X12_copy_171 {g : En} {p : Program} {l : Launch} {e : Env} {s : State} {m : MethodId} {args : Array Value} {below : List Frame} {meth : Method} {c : Code} {M : Mem} {a0 : Nat} {Q : Int → Mem → Prop} {x1 : Int} {x2 : Int} {x3 : Int} {x4 : Int} {x5 : Int} {x6 : Int} (F : Fx g p s m args meth c cX12_copy 7 RX12) (hr : meth.sig.returnType = (some .int)) (k0 : kd a0 = 12)
    (hw : wp_X12_copy_L171 a0 Q M x1 x2 x3 x4 x5 x6) : Z g p l e rm_X12_copy s m args below meth c 7 (MQ below (va_Qi (S := Int × Mem) (fun r u => r = i3 u.1 ∧ Q u.1 u.2) (fun u => Rp g u.2) (aR g)) args s 0 0 (aR g)) M 171 [(0, .ref (g.2.2.1 + a0)), (1, .int (i3 x1)), (2, .int (i3 x2)), (3, .int (i3 x3)), (4, .int (i3 x4)), (5, .int (i3 x5)), (6, .int (i3 x6))] [] := by
  obtain ⟨I, μ, h0, hb⟩ := hw
  have key : ∀ (n : Nat) (M : Mem) (x6 : Int), I M x6 → μ M x6 < n → Z g p l e rm_X12_copy s m args below meth c 7 (MQ below (va_Qi (S := Int × Mem) (fun r u => r = i3 u.1 ∧ Q u.1 u.2) (fun u => Rp g u.2) (aR g)) args s 0 0 (aR g)) M 171 [(0, .ref (g.2.2.1 + a0)), (1, .int (i3 x1)), (2, .int (i3 x2)), (3, .int (i3 x3)), (4, .int (i3 x4)), (5, .int (i3 x5)), (6, .int (i3 x6))] [] := by
    intro n
    induction n with
    | zero => exact fun _ _ _ h => absurd h (Nat.not_lt_zero _)
    | succ n ih =>
      intro M x6 hI hn
      exact bk_X12_copy_B171 F hr k0 (fun M' x6' hk => ih M' x6' hk.1 (Nat.lt_of_lt_of_le hk.2 (Nat.le_of_lt_succ hn))) (hb M x6 hI)
  exact key _ M x6 h0 (Nat.lt_succ_self _)
set_option maxRecDepth 100000 in
set_option maxHeartbeats 4000000 in
theorem bk_X12_copy_168 {g : En} {p : Program} {l : Launch} {e : Env} {s : State} {m : MethodId} {args : Array Value} {below : List Frame} {meth : Method} {c : Code} {M : Mem} {a0 : Nat} {Q : Int → Mem → Prop} {x1 : Int} {x2 : Int} {x3 : Int} {x4 : Int} {x5 : Int} (F : Fx g p s m args meth c cX12_copy 7 RX12) (hr : meth.sig.returnType = (some .int)) (k0 : kd a0 = 12)
    (hw : wp_X12_copy_b168 a0 Q M x1 x2 x3 x4 x5) : Z g p l e rm_X12_copy s m args below meth c 7 (MQ below (va_Qi (S := Int × Mem) (fun r u => r = i3 u.1 ∧ Q u.1 u.2) (fun u => Rp g u.2) (aR g)) args s 0 0 (aR g)) M 168 [(0, .ref (g.2.2.1 + a0)), (1, .int (i3 x1)), (2, .int (i3 x2)), (3, .int (i3 x3)), (4, .int (i3 x4)), (5, .int (i3 x5))] [] := by
  refine z_iconst F dX12_copy_168 rfl ?_
  refine z_istore F dX12_copy_169 rfl (by decide) rfl ?_
  refine z_sub [1, 2, 3, 4, 5, 6, 0] rfl ?_
  exact lp_X12_copy_171 F hr k0 hw
set_option maxRecDepth 100000 in
set_option maxHeartbeats 4000000 in
theorem bk_X12_copy_B125 {g : En} {p : Program} {l : Launch} {e : Env} {s : State} {m : MethodId} {args : Array Value} {below : List Frame} {meth : Method} {c : Code} {M : Mem} {a0 : Nat} {Q : Int → Mem → Prop} {K125 : Mem → Int → Prop} {x1 : Int} {x2 : Int} {x3 : Int} {x4 : Int} {x5 : Int} {x6 : Int} (F : Fx g p s m args meth c cX12_copy 7 RX12) (hr : meth.sig.returnType = (some .int)) (k0 : kd a0 = 12)
    (hK125 : ∀ (M' : Mem) (x6' : Int), K125 M' x6' → Z g p l e rm_X12_copy s m args below meth c 7 (MQ below (va_Qi (S := Int × Mem) (fun r u => r = i3 u.1 ∧ Q u.1 u.2) (fun u => Rp g u.2) (aR g)) args s 0 0 (aR g)) M' 125 [(0, .ref (g.2.2.1 + a0)), (1, .int (i3 x1)), (2, .int (i3 x2)), (3, .int (i3 x3)), (4, .int (i3 x4)), (5, .int (i3 x5)), (6, .int (i3 x6'))] [])
    (hw : wp_X12_copy_B125 a0 Q K125 M x1 x2 x3 x4 x5 x6) : Z g p l e rm_X12_copy s m args below meth c 7 (MQ below (va_Qi (S := Int × Mem) (fun r u => r = i3 u.1 ∧ Q u.1 u.2) (fun u => Rp g u.2) (aR g)) args s 0 0 (aR g)) M 125 [(0, .ref (g.2.2.1 + a0)), (1, .int (i3 x1)), (2, .int (i3 x2)), (3, .int (i3 x3)), (4, .int (i3 x4)), (5, .int (i3 x5)), (6, .int (i3 x6))] [] := by
  refine z_iload F dX12_copy_125 rfl 6 rfl ?_
  refine z_if_lt F dX12_copy_127 rfl rfl hw (fun hw => ?_) (fun hw => ?_)
  · refine z_goto F dX12_copy_165 rfl ?_
    refine z_iload F dX12_copy_213 rfl 5 rfl ?_
    exact z_iret (x := x5) F hr dX12_copy_215 hw
  · refine z_aload_n F dX12_copy_130 rfl rfl 0 rfl ?_
    refine z_getR F fl_1025 k0 dX12_copy_131 rfl ?_
    refine z_bipush F dX12_copy_134 (by decide) rfl ?_
    refine z_iload_n F dX12_copy_136 rfl rfl 3 rfl ?_
    refine z_imul F dX12_copy_137 rfl ?_
    refine z_iload F dX12_copy_138 rfl 4 rfl ?_
    refine z_iadd F dX12_copy_140 rfl ?_
    refine z_iload F dX12_copy_141 rfl 6 rfl ?_
    refine z_iadd F dX12_copy_143 rfl ?_
    refine z_aload_n F dX12_copy_144 rfl rfl 0 rfl ?_
    refine z_getR F fl_1025 k0 dX12_copy_145 rfl ?_
    refine z_bipush F dX12_copy_148 (by decide) rfl ?_
    refine z_iload_n F dX12_copy_150 rfl rfl 1 rfl ?_
    refine z_imul F dX12_copy_151 rfl ?_
    refine z_iload_n F dX12_copy_152 rfl rfl 2 rfl ?_
    refine z_iadd F dX12_copy_153 rfl ?_
    refine z_iload F dX12_copy_154 rfl 6 rfl ?_
    refine z_iadd F dX12_copy_156 rfl ?_
    refine z_iald F (tk_12_33 k0) dX12_copy_157 rfl hw (fun hw => ?_)
    refine z_iast F (tk_12_33 k0) dX12_copy_158 rfl hw (fun hw => ?_)
    refine z_nmM (fun M158 eM158 => ?_)
    have hw := hw M158 eM158
    refine z_iinc F dX12_copy_159 rfl 6 rfl (by decide) rfl ?_
    refine z_goto F dX12_copy_162 rfl ?_
    refine z_sub [1, 2, 3, 4, 5, 6, 0] rfl ?_
    exact hK125 M158 (x6 + (-1)) hw
set_option maxRecDepth 100000 in
set_option maxHeartbeats 4000000 in
theorem lp_X12_copy_125 {g : En} {p : Program} {l : Launch} {e : Env} {s : State} {m : MethodId} {args : Array Value} {below : List Frame} {meth : Method} {c : Code} {M : Mem} {a0 : Nat} {Q : Int → Mem → Prop} {x1 : Int} {x2 : Int} {x3 : Int} {x4 : Int} {x5 : Int} {x6 : Int} (F : Fx g p s m args meth c cX12_copy 7 RX12) (hr : meth.sig.returnType = (some .int)) (k0 : kd a0 = 12)
    (hw : wp_X12_copy_L125 a0 Q M x1 x2 x3 x4 x5 x6) : Z g p l e rm_X12_copy s m args below meth c 7 (MQ below (va_Qi (S := Int × Mem) (fun r u => r = i3 u.1 ∧ Q u.1 u.2) (fun u => Rp g u.2) (aR g)) args s 0 0 (aR g)) M 125 [(0, .ref (g.2.2.1 + a0)), (1, .int (i3 x1)), (2, .int (i3 x2)), (3, .int (i3 x3)), (4, .int (i3 x4)), (5, .int (i3 x5)), (6, .int (i3 x6))] [] := by
  obtain ⟨I, μ, h0, hb⟩ := hw
  have key : ∀ (n : Nat) (M : Mem) (x6 : Int), I M x6 → μ M x6 < n → Z g p l e rm_X12_copy s m args below meth c 7 (MQ below (va_Qi (S := Int × Mem) (fun r u => r = i3 u.1 ∧ Q u.1 u.2) (fun u => Rp g u.2) (aR g)) args s 0 0 (aR g)) M 125 [(0, .ref (g.2.2.1 + a0)), (1, .int (i3 x1)), (2, .int (i3 x2)), (3, .int (i3 x3)), (4, .int (i3 x4)), (5, .int (i3 x5)), (6, .int (i3 x6))] [] := by
    intro n
    induction n with
    | zero => exact fun _ _ _ h => absurd h (Nat.not_lt_zero _)
    | succ n ih =>
      intro M x6 hI hn
      exact bk_X12_copy_B125 F hr k0 (fun M' x6' hk => ih M' x6' hk.1 (Nat.lt_of_lt_of_le hk.2 (Nat.le_of_lt_succ hn))) (hb M x6 hI)
  exact key _ M x6 h0 (Nat.lt_succ_self _)
set_option maxRecDepth 100000 in
set_option maxHeartbeats 4000000 in
theorem c_X12_copy (l : Launch) (g : En) {a0 : Nat} {a1 : Int} {a2 : Int} {a3 : Int} {a4 : Int} {a5 : Int} {M : Mem} {Q : Int → Mem → Prop} (k0 : kd a0 = 12) (hw : wp_X12_copy a0 a1 a2 a3 a4 a5 M Q) :
    Met l yX12_copy (WS yX12_copy cX12_copy 7 (some .int)) rm_X12_copy (va_Pc [.ref (g.2.2.1 + a0), .int (i3 a1), .int (i3 a2), .int (i3 a3), .int (i3 a4), .int (i3 a5)] (Rp g M)) (va_Qi (S := Int × Mem) (fun r u => r = i3 u.1 ∧ Q u.1 u.2) (fun u => Rp g u.2) (aR g)) 0 0 (aR g) := by
  refine met_Z (plainFor_of_name rfl) (Nat.le_of_ble_eq_true rfl) ?_
  intro p e s m args below meth c F hr _
  show Z g p l e rm_X12_copy s m args below meth c 7 (MQ below (va_Qi (S := Int × Mem) (fun r u => r = i3 u.1 ∧ Q u.1 u.2) (fun u => Rp g u.2) (aR g)) args s 0 0 (aR g)) M 0 [(0, .ref (g.2.2.1 + a0)), (1, .int (i3 a1)), (2, .int (i3 a2)), (3, .int (i3 a3)), (4, .int (i3 a4)), (5, .int (i3 a5))] []
  refine z_iload_n F dX12_copy_0 rfl rfl 1 rfl ?_
  refine z_cSbp (As := [.int (i3 a1)]) (st := []) F (c_X12_isSheet l g hw) cs_X12_isSheet w_1363 ⟨rfl, rfl, Nat.le_of_ble_eq_true rfl, Nat.le_of_ble_eq_true rfl⟩ rfl (Nat.le_of_ble_eq_true rfl) dX12_copy_1 rfl (fun r1 hw => ?_)
  refine z_ifb_eq F dX12_copy_4 rfl rfl hw (fun hw => ?_) (fun hw => ?_)
  · refine z_bipush F dX12_copy_14 (by decide) rfl ?_
    exact z_iret (x := (-2)) F hr dX12_copy_16 hw
  · refine z_iload_n F dX12_copy_7 rfl rfl 3 rfl ?_
    refine z_cSbp (As := [.int (i3 a3)]) (st := []) F (c_X12_isSheet l g hw) cs_X12_isSheet w_1363 ⟨rfl, rfl, Nat.le_of_ble_eq_true rfl, Nat.le_of_ble_eq_true rfl⟩ rfl (Nat.le_of_ble_eq_true rfl) dX12_copy_8 rfl (fun r8 hw => ?_)
    refine z_ifb_ne F dX12_copy_11 rfl rfl hw (fun hw => ?_) (fun hw => ?_)
    · refine z_aload_n F dX12_copy_17 rfl rfl 0 rfl ?_
      refine z_getR F fl_1023 k0 dX12_copy_18 rfl ?_
      refine z_iload_n F dX12_copy_21 rfl rfl 1 rfl ?_
      refine z_iald F (tk_12_31 k0) dX12_copy_22 rfl hw (fun hw => ?_)
      refine z_if_eq F dX12_copy_23 rfl rfl hw (fun hw => ?_) (fun hw => ?_)
      · refine z_bipush F dX12_copy_35 (by decide) rfl ?_
        exact z_iret (x := (-11)) F hr dX12_copy_37 hw
      · refine z_aload_n F dX12_copy_26 rfl rfl 0 rfl ?_
        refine z_getR F fl_1023 k0 dX12_copy_27 rfl ?_
        refine z_iload_n F dX12_copy_30 rfl rfl 3 rfl ?_
        refine z_iald F (tk_12_31 k0) dX12_copy_31 rfl hw (fun hw => ?_)
        refine z_if_ne F dX12_copy_32 rfl rfl hw (fun hw => ?_) (fun hw => ?_)
        · refine z_aload_n F dX12_copy_38 rfl rfl 0 rfl ?_
          refine z_getR F fl_1023 k0 dX12_copy_39 rfl ?_
          refine z_iload_n F dX12_copy_42 rfl rfl 1 rfl ?_
          refine z_iald F (tk_12_31 k0) dX12_copy_43 rfl hw (fun hw => ?_)
          refine z_aload_n F dX12_copy_44 rfl rfl 0 rfl ?_
          refine z_getR F fl_1023 k0 dX12_copy_45 rfl ?_
          refine z_iload_n F dX12_copy_48 rfl rfl 3 rfl ?_
          refine z_iald F (tk_12_31 k0) dX12_copy_49 rfl hw (fun hw => ?_)
          refine z_icmp_eq F dX12_copy_50 rfl rfl hw (fun hw => ?_) (fun hw => ?_)
          · refine z_iload F dX12_copy_56 rfl 5 rfl ?_
            refine z_if_lt F dX12_copy_58 rfl rfl hw (fun hw => ?_) (fun hw => ?_)
            · refine z_bipush F dX12_copy_105 (by decide) rfl ?_
              exact z_iret (x := (-12)) F hr dX12_copy_107 hw
            · refine z_iload_n F dX12_copy_61 rfl rfl 2 rfl ?_
              refine z_if_lt F dX12_copy_62 rfl rfl hw (fun hw => ?_) (fun hw => ?_)
              · refine z_bipush F dX12_copy_105 (by decide) rfl ?_
                exact z_iret (x := (-12)) F hr dX12_copy_107 hw
              · refine z_iload F dX12_copy_65 rfl 4 rfl ?_
                refine z_if_lt F dX12_copy_67 rfl rfl hw (fun hw => ?_) (fun hw => ?_)
                · refine z_bipush F dX12_copy_105 (by decide) rfl ?_
                  exact z_iret (x := (-12)) F hr dX12_copy_107 hw
                · refine z_iload_n F dX12_copy_70 rfl rfl 2 rfl ?_
                  refine z_i2l F dX12_copy_71 rfl ?_
                  refine z_iload F dX12_copy_72 rfl 5 rfl ?_
                  refine z_i2l F dX12_copy_74 rfl ?_
                  refine z_ladd F dX12_copy_75 rfl ?_
                  refine z_aload_n F dX12_copy_76 rfl rfl 0 rfl ?_
                  refine z_getR F fl_1024 k0 dX12_copy_77 rfl ?_
                  refine z_iload_n F dX12_copy_80 rfl rfl 1 rfl ?_
                  refine z_iald F (tk_12_32 k0) dX12_copy_81 rfl hw (fun hw => ?_)
                  refine z_i2l F dX12_copy_82 rfl ?_
                  refine z_lcmp_gt F dX12_copy_83 rfl dX12_copy_84 rfl rfl hw (fun hw => ?_) (fun hw => ?_)
                  · refine z_bipush F dX12_copy_105 (by decide) rfl ?_
                    exact z_iret (x := (-12)) F hr dX12_copy_107 hw
                  · refine z_iload F dX12_copy_87 rfl 4 rfl ?_
                    refine z_i2l F dX12_copy_89 rfl ?_
                    refine z_iload F dX12_copy_90 rfl 5 rfl ?_
                    refine z_i2l F dX12_copy_92 rfl ?_
                    refine z_ladd F dX12_copy_93 rfl ?_
                    refine z_aload_n F dX12_copy_94 rfl rfl 0 rfl ?_
                    refine z_getR F fl_1024 k0 dX12_copy_95 rfl ?_
                    refine z_iload_n F dX12_copy_98 rfl rfl 3 rfl ?_
                    refine z_iald F (tk_12_32 k0) dX12_copy_99 rfl hw (fun hw => ?_)
                    refine z_i2l F dX12_copy_100 rfl ?_
                    refine z_lcmp_le F dX12_copy_101 rfl dX12_copy_102 rfl rfl hw (fun hw => ?_) (fun hw => ?_)
                    · refine z_iload_n F dX12_copy_108 rfl rfl 1 rfl ?_
                      refine z_iload_n F dX12_copy_109 rfl rfl 3 rfl ?_
                      refine z_icmp_ne F dX12_copy_110 rfl rfl hw (fun hw => ?_) (fun hw => ?_)
                      · refine z_sub [0, 1, 2, 3, 4, 5] rfl ?_
                        exact bk_X12_copy_168 F hr k0 hw
                      · refine z_iload_n F dX12_copy_113 rfl rfl 2 rfl ?_
                        refine z_iload F dX12_copy_114 rfl 4 rfl ?_
                        refine z_icmp_ge F dX12_copy_116 rfl rfl hw (fun hw => ?_) (fun hw => ?_)
                        · refine z_sub [0, 1, 2, 3, 4, 5] rfl ?_
                          exact bk_X12_copy_168 F hr k0 hw
                        · refine z_iload F dX12_copy_119 rfl 5 rfl ?_
                          refine z_iconst F dX12_copy_121 rfl ?_
                          refine z_isub F dX12_copy_122 rfl ?_
                          refine z_istore F dX12_copy_123 rfl (by decide) rfl ?_
                          refine z_sub [1, 2, 3, 4, 5, 6, 0] rfl ?_
                          exact lp_X12_copy_125 F hr k0 hw
                    · refine z_bipush F dX12_copy_105 (by decide) rfl ?_
                      exact z_iret (x := (-12)) F hr dX12_copy_107 hw
          · refine z_bipush F dX12_copy_53 (by decide) rfl ?_
            exact z_iret (x := (-13)) F hr dX12_copy_55 hw
        · refine z_bipush F dX12_copy_35 (by decide) rfl ?_
          exact z_iret (x := (-11)) F hr dX12_copy_37 hw
    · refine z_bipush F dX12_copy_14 (by decide) rfl ?_
      exact z_iret (x := (-2)) F hr dX12_copy_16 hw
theorem cv_X12_copy : CV yX12_copy RX12 cX12_copy 7 (some .int) 5 := ⟨w_1427, w_1428, w_80, w_1429, rfl, by decide +kernel, by decide +kernel, by decide +kernel⟩
abbrev rm_X12_load : Room := { frames := 3, cells := 0, slots := 0, locals := 69 }
def wp_X12_load_b151 (a0 : Nat) (Q : Int → Mem → Prop) (K71 : Mem → Int → Int → Prop) (M : Mem) (x1 : Int) (x3 : Int) (x4 : Int) (x5 : Int) (x6 : Int) : Prop :=
  K71 M x5 (x6 + 1)
def wp_X12_load_B71 (a0 : Nat) (Q : Int → Mem → Prop) (K71 : Mem → Int → Int → Prop) (M : Mem) (x1 : Int) (x3 : Int) (x4 : Int) (x5 : Int) (x6 : Int) : Prop :=
  (((w32 x4 ≤ w32 x6) → (
    Q x5 M)) ∧
  (¬ (w32 x4 ≤ w32 x6) → (
    ∀ v88 : Int, v88 = ((w32 x3) + (2 * (w32 x6))) →
    (((w64 v88 < w64 0) → (
      Q (-12) M)) ∧
    (¬ (w64 v88 < w64 0) → (
      inb (rt a0 32) x1 ∧ (
      (((w64 (v88 + 1) < w64 (w32 (M (rt a0 32) (ix x1)))) → (
        inb (rt a0 33) ((40 * x1) + v88) ∧ (
        inb (rt a0 33) (((40 * x1) + v88) + 1) ∧ (
        wp_X12_due a0 (M (rt a0 33) (ix ((40 * x1) + v88))) (M (rt a0 33) (ix (((40 * x1) + v88) + 1))) M (fun r142 M142 =>
        (((w32 r142 < 0) → (
          wp_X12_load_b151 a0 Q K71 M142 x1 x3 x4 x5 x6)) ∧
        (¬ (w32 r142 < 0) → (
          wp_X12_load_b151 a0 Q K71 M142 x1 x3 x4 (x5 + 1) x6)))))))) ∧
      (¬ (w64 (v88 + 1) < w64 (w32 (M (rt a0 32) (ix x1)))) → (
        Q (-12) M))))))))))
def wp_X12_load_L71 (a0 : Nat) (Q : Int → Mem → Prop) (M : Mem) (x1 : Int) (x3 : Int) (x4 : Int) (x5 : Int) (x6 : Int) : Prop :=
  ∃ (I : Mem → Int → Int → Prop) (μ : Mem → Int → Int → Nat), I M x5 x6 ∧ ∀ (M : Mem) (x5 : Int) (x6 : Int), I M x5 x6 →
    wp_X12_load_B71 a0 Q (fun M' x5' x6' => I M' x5' x6' ∧ μ M' x5' x6' < μ M x5 x6) M x1 x3 x4 x5 x6
def wp_X12_load_b53 (a0 : Nat) (Q : Int → Mem → Prop) (M : Mem) (x1 : Int) (x3 : Int) (x4 : Int) : Prop :=
  inb (rt a0 31) x1 ∧ (
  (((¬ w32 (M (rt a0 31) (ix x1)) = 0) → (
    wp_X12_load_L71 a0 Q M x1 x3 x4 0 0)) ∧
  (¬ (¬ w32 (M (rt a0 31) (ix x1)) = 0) → (
    Q (-11) M))))
def wp_X12_load (a0 : Nat) (a1 : Int) (a2 : Int) (a3 : Int) (a4 : Int) (M : Mem) (Q : Int → Mem → Prop) : Prop :=
  wp_X12_isSheet a1 M (fun r1 =>
  ((r1 = false → (
    Q (-2) M)) ∧
  (r1 = true → (
    wp_X12_within a2 0 1 M (fun r10 =>
    ((r10 = false → (
      Q (-2) M)) ∧
    (r10 = true → (
      wp_X12_within a4 0 5 M (fun r20 =>
      ((r20 = true → (
        inb (rt a0 31) a1 ∧ (
        (((w32 (M (rt a0 31) (ix a1)) = 0) → (
          wp_X12_load_b53 a0 Q M a1 a3 a4)) ∧
        (¬ (w32 (M (rt a0 31) (ix a1)) = 0) → (
          inb (rt a0 31) a1 ∧ (
          (((w32 (M (rt a0 31) (ix a1)) = w32 (a2 + 1)) → (
            wp_X12_load_b53 a0 Q M a1 a3 a4)) ∧
          (¬ (w32 (M (rt a0 31) (ix a1)) = w32 (a2 + 1)) → (
            Q (-13) M)))))))))) ∧
      (r20 = false → (
        Q (-2) M))))))))))))
set_option maxRecDepth 100000 in
set_option maxHeartbeats 4000000 in
theorem bk_X12_load_151 {g : En} {p : Program} {l : Launch} {e : Env} {s : State} {m : MethodId} {args : Array Value} {below : List Frame} {meth : Method} {c : Code} {M : Mem} {a0 : Nat} {Q : Int → Mem → Prop} {K71 : Mem → Int → Int → Prop} {x1 : Int} {x3 : Int} {x4 : Int} {x5 : Int} {x6 : Int} (F : Fx g p s m args meth c cX12_load 10 RX12) (hr : meth.sig.returnType = (some .int)) (k0 : kd a0 = 12)
    (hK71 : ∀ (M' : Mem) (x5' : Int) (x6' : Int), K71 M' x5' x6' → Z g p l e rm_X12_load s m args below meth c 10 (MQ below (va_Qi (S := Int × Mem) (fun r u => r = i3 u.1 ∧ Q u.1 u.2) (fun u => Rp g u.2) (aR g)) args s 0 0 (aR g)) M' 71 [(0, .ref (g.2.2.1 + a0)), (1, .int (i3 x1)), (3, .int (i3 x3)), (4, .int (i3 x4)), (5, .int (i3 x5')), (6, .int (i3 x6'))] [])
    (hw : wp_X12_load_b151 a0 Q K71 M x1 x3 x4 x5 x6) : Z g p l e rm_X12_load s m args below meth c 10 (MQ below (va_Qi (S := Int × Mem) (fun r u => r = i3 u.1 ∧ Q u.1 u.2) (fun u => Rp g u.2) (aR g)) args s 0 0 (aR g)) M 151 [(0, .ref (g.2.2.1 + a0)), (1, .int (i3 x1)), (3, .int (i3 x3)), (4, .int (i3 x4)), (5, .int (i3 x5)), (6, .int (i3 x6))] [] := by
  refine z_iinc F dX12_load_151 rfl 5 rfl (by decide) rfl ?_
  refine z_goto F dX12_load_154 rfl ?_
  refine z_sub [1, 2, 3, 4, 5, 0] rfl ?_
  exact hK71 M x5 (x6 + 1) hw
set_option maxRecDepth 100000 in
set_option maxHeartbeats 4000000 in
theorem bk_X12_load_B71 {g : En} {p : Program} {l : Launch} {e : Env} {s : State} {m : MethodId} {args : Array Value} {below : List Frame} {meth : Method} {c : Code} {M : Mem} {a0 : Nat} {Q : Int → Mem → Prop} {K71 : Mem → Int → Int → Prop} {x1 : Int} {x3 : Int} {x4 : Int} {x5 : Int} {x6 : Int} (F : Fx g p s m args meth c cX12_load 10 RX12) (hr : meth.sig.returnType = (some .int)) (k0 : kd a0 = 12)
    (hK71 : ∀ (M' : Mem) (x5' : Int) (x6' : Int), K71 M' x5' x6' → Z g p l e rm_X12_load s m args below meth c 10 (MQ below (va_Qi (S := Int × Mem) (fun r u => r = i3 u.1 ∧ Q u.1 u.2) (fun u => Rp g u.2) (aR g)) args s 0 0 (aR g)) M' 71 [(0, .ref (g.2.2.1 + a0)), (1, .int (i3 x1)), (3, .int (i3 x3)), (4, .int (i3 x4)), (5, .int (i3 x5')), (6, .int (i3 x6'))] [])
    (hw : wp_X12_load_B71 a0 Q K71 M x1 x3 x4 x5 x6) : Z g p l e rm_X12_load s m args below meth c 10 (MQ below (va_Qi (S := Int × Mem) (fun r u => r = i3 u.1 ∧ Q u.1 u.2) (fun u => Rp g u.2) (aR g)) args s 0 0 (aR g)) M 71 [(0, .ref (g.2.2.1 + a0)), (1, .int (i3 x1)), (3, .int (i3 x3)), (4, .int (i3 x4)), (5, .int (i3 x5)), (6, .int (i3 x6))] [] := by
  refine z_iload F dX12_load_71 rfl 5 rfl ?_
  refine z_iload F dX12_load_73 rfl 3 rfl ?_
  refine z_icmp_ge F dX12_load_75 rfl rfl hw (fun hw => ?_) (fun hw => ?_)
  · refine z_iload F dX12_load_157 rfl 4 rfl ?_
    exact z_iret (x := x5) F hr dX12_load_159 hw
  · refine z_iload_n F dX12_load_78 rfl rfl 2 rfl ?_
    refine z_i2l F dX12_load_79 rfl ?_
    refine z_ldc2 (n := 2) F w_1434 (by decide) dX12_load_80 rfl ?_
    refine z_iload F dX12_load_83 rfl 5 rfl ?_
    refine z_i2l F dX12_load_85 rfl ?_
    refine z_lmul F dX12_load_86 rfl ?_
    refine z_ladd F dX12_load_87 rfl ?_
    refine z_nmL (fun v88 ev88 => ?_)
    have hw := hw v88 ev88
    refine z_lstore F dX12_load_88 rfl (by decide) rfl ?_
    refine z_lload F dX12_load_90 rfl 0 rfl ?_
    refine z_lconst (v := 0) F dX12_load_92 rfl rfl ?_
    refine z_lcmp_lt F dX12_load_93 rfl dX12_load_94 rfl rfl hw (fun hw => ?_) (fun hw => ?_)
    · refine z_bipush F dX12_load_112 (by decide) rfl ?_
      exact z_iret (x := (-12)) F hr dX12_load_114 hw
    · refine z_lload F dX12_load_97 rfl 0 rfl ?_
      refine z_lconst (v := 1) F dX12_load_99 rfl rfl ?_
      refine z_ladd F dX12_load_100 rfl ?_
      refine z_aload_n F dX12_load_101 rfl rfl 1 rfl ?_
      refine z_getR F fl_1024 k0 dX12_load_102 rfl ?_
      refine z_iload_n F dX12_load_105 rfl rfl 2 rfl ?_
      refine z_iald F (tk_12_32 k0) dX12_load_106 rfl hw (fun hw => ?_)
      refine z_i2l F dX12_load_107 rfl ?_
      refine z_lcmp_lt F dX12_load_108 rfl dX12_load_109 rfl rfl hw (fun hw => ?_) (fun hw => ?_)
      · refine z_bipush F dX12_load_115 (by decide) rfl ?_
        refine z_iload_n F dX12_load_117 rfl rfl 2 rfl ?_
        refine z_imul F dX12_load_118 rfl ?_
        refine z_lload F dX12_load_119 rfl 0 rfl ?_
        refine z_l2i F dX12_load_121 rfl ?_
        refine z_iadd F dX12_load_122 rfl ?_
        refine z_istore F dX12_load_123 rfl (by decide) rfl ?_
        refine z_aload_n F dX12_load_125 rfl rfl 2 rfl ?_
        refine z_aload_n F dX12_load_126 rfl rfl 2 rfl ?_
        refine z_getR F fl_1025 k0 dX12_load_127 rfl ?_
        refine z_iload F dX12_load_130 rfl 0 rfl ?_
        refine z_iald F (tk_12_33 k0) dX12_load_132 rfl hw (fun hw => ?_)
        refine z_aload_n F dX12_load_133 rfl rfl 2 rfl ?_
        refine z_getR F fl_1025 k0 dX12_load_134 rfl ?_
        refine z_iload F dX12_load_137 rfl 0 rfl ?_
        refine z_iconst F dX12_load_139 rfl ?_
        refine z_iadd F dX12_load_140 rfl ?_
        refine z_iald F (tk_12_33 k0) dX12_load_141 rfl hw (fun hw => ?_)
        refine z_cVi (As := [.int (i3 (M (rt a0 33) (ix ((40 * x1) + v88)))), .int (i3 (M (rt a0 33) (ix (((40 * x1) + v88) + 1))))]) (st := []) F (c_X12_due l g k0 hw) cv_X12_due w_1435 ⟨rfl, rfl, Nat.le_of_ble_eq_true rfl, Nat.le_of_ble_eq_true rfl⟩ k0 rfl rfl (Nat.le_of_ble_eq_true rfl) dX12_load_142 rfl (fun r142 M142 hw => ?_)
        refine z_if_lt F dX12_load_145 rfl rfl hw (fun hw => ?_) (fun hw => ?_)
        · refine z_sub [2, 3, 4, 5, 6, 7] rfl ?_
          exact bk_X12_load_151 F hr k0 hK71 hw
        · refine z_iinc F dX12_load_148 rfl 6 rfl (by decide) rfl ?_
          refine z_sub [3, 4, 5, 6, 0, 7] rfl ?_
          exact bk_X12_load_151 F hr k0 hK71 hw
      · refine z_bipush F dX12_load_112 (by decide) rfl ?_
        exact z_iret (x := (-12)) F hr dX12_load_114 hw
set_option maxRecDepth 100000 in
set_option maxHeartbeats 4000000 in
theorem lp_X12_load_71 {g : En} {p : Program} {l : Launch} {e : Env} {s : State} {m : MethodId} {args : Array Value} {below : List Frame} {meth : Method} {c : Code} {M : Mem} {a0 : Nat} {Q : Int → Mem → Prop} {x1 : Int} {x3 : Int} {x4 : Int} {x5 : Int} {x6 : Int} (F : Fx g p s m args meth c cX12_load 10 RX12) (hr : meth.sig.returnType = (some .int)) (k0 : kd a0 = 12)
    (hw : wp_X12_load_L71 a0 Q M x1 x3 x4 x5 x6) : Z g p l e rm_X12_load s m args below meth c 10 (MQ below (va_Qi (S := Int × Mem) (fun r u => r = i3 u.1 ∧ Q u.1 u.2) (fun u => Rp g u.2) (aR g)) args s 0 0 (aR g)) M 71 [(0, .ref (g.2.2.1 + a0)), (1, .int (i3 x1)), (3, .int (i3 x3)), (4, .int (i3 x4)), (5, .int (i3 x5)), (6, .int (i3 x6))] [] := by
  obtain ⟨I, μ, h0, hb⟩ := hw
  have key : ∀ (n : Nat) (M : Mem) (x5 : Int) (x6 : Int), I M x5 x6 → μ M x5 x6 < n → Z g p l e rm_X12_load s m args below meth c 10 (MQ below (va_Qi (S := Int × Mem) (fun r u => r = i3 u.1 ∧ Q u.1 u.2) (fun u => Rp g u.2) (aR g)) args s 0 0 (aR g)) M 71 [(0, .ref (g.2.2.1 + a0)), (1, .int (i3 x1)), (3, .int (i3 x3)), (4, .int (i3 x4)), (5, .int (i3 x5)), (6, .int (i3 x6))] [] := by
    intro n
    induction n with
    | zero => exact fun _ _ _ _ h => absurd h (Nat.not_lt_zero _)
    | succ n ih =>
      intro M x5 x6 hI hn
      exact bk_X12_load_B71 F hr k0 (fun M' x5' x6' hk => ih M' x5' x6' hk.1 (Nat.lt_of_lt_of_le hk.2 (Nat.le_of_lt_succ hn))) (hb M x5 x6 hI)
  exact key _ M x5 x6 h0 (Nat.lt_succ_self _)
set_option maxRecDepth 100000 in
set_option maxHeartbeats 4000000 in
theorem bk_X12_load_53 {g : En} {p : Program} {l : Launch} {e : Env} {s : State} {m : MethodId} {args : Array Value} {below : List Frame} {meth : Method} {c : Code} {M : Mem} {a0 : Nat} {Q : Int → Mem → Prop} {x1 : Int} {x3 : Int} {x4 : Int} (F : Fx g p s m args meth c cX12_load 10 RX12) (hr : meth.sig.returnType = (some .int)) (k0 : kd a0 = 12)
    (hw : wp_X12_load_b53 a0 Q M x1 x3 x4) : Z g p l e rm_X12_load s m args below meth c 10 (MQ below (va_Qi (S := Int × Mem) (fun r u => r = i3 u.1 ∧ Q u.1 u.2) (fun u => Rp g u.2) (aR g)) args s 0 0 (aR g)) M 53 [(0, .ref (g.2.2.1 + a0)), (1, .int (i3 x1)), (3, .int (i3 x3)), (4, .int (i3 x4))] [] := by
  refine z_aload_n F dX12_load_53 rfl rfl 0 rfl ?_
  refine z_getR F fl_1023 k0 dX12_load_54 rfl ?_
  refine z_iload_n F dX12_load_57 rfl rfl 1 rfl ?_
  refine z_iald F (tk_12_31 k0) dX12_load_58 rfl hw (fun hw => ?_)
  refine z_if_ne F dX12_load_59 rfl rfl hw (fun hw => ?_) (fun hw => ?_)
  · refine z_iconst F dX12_load_65 rfl ?_
    refine z_istore F dX12_load_66 rfl (by decide) rfl ?_
    refine z_iconst F dX12_load_68 rfl ?_
    refine z_istore F dX12_load_69 rfl (by decide) rfl ?_
    refine z_sub [2, 3, 4, 5, 1, 0] rfl ?_
    exact lp_X12_load_71 F hr k0 hw
  · refine z_bipush F dX12_load_62 (by decide) rfl ?_
    exact z_iret (x := (-11)) F hr dX12_load_64 hw
set_option maxRecDepth 100000 in
set_option maxHeartbeats 4000000 in
theorem c_X12_load (l : Launch) (g : En) {a0 : Nat} {a1 : Int} {a2 : Int} {a3 : Int} {a4 : Int} {M : Mem} {Q : Int → Mem → Prop} (k0 : kd a0 = 12) (hw : wp_X12_load a0 a1 a2 a3 a4 M Q) :
    Met l yX12_load (WS yX12_load cX12_load 10 (some .int)) rm_X12_load (va_Pc [.ref (g.2.2.1 + a0), .int (i3 a1), .int (i3 a2), .int (i3 a3), .int (i3 a4)] (Rp g M)) (va_Qi (S := Int × Mem) (fun r u => r = i3 u.1 ∧ Q u.1 u.2) (fun u => Rp g u.2) (aR g)) 0 0 (aR g) := by
  refine met_Z (plainFor_of_name rfl) (Nat.le_of_ble_eq_true rfl) ?_
  intro p e s m args below meth c F hr _
  show Z g p l e rm_X12_load s m args below meth c 10 (MQ below (va_Qi (S := Int × Mem) (fun r u => r = i3 u.1 ∧ Q u.1 u.2) (fun u => Rp g u.2) (aR g)) args s 0 0 (aR g)) M 0 [(0, .ref (g.2.2.1 + a0)), (1, .int (i3 a1)), (2, .int (i3 a2)), (3, .int (i3 a3)), (4, .int (i3 a4))] []
  refine z_iload_n F dX12_load_0 rfl rfl 1 rfl ?_
  refine z_cSbp (As := [.int (i3 a1)]) (st := []) F (c_X12_isSheet l g hw) cs_X12_isSheet w_1363 ⟨rfl, rfl, Nat.le_of_ble_eq_true rfl, Nat.le_of_ble_eq_true rfl⟩ rfl (Nat.le_of_ble_eq_true rfl) dX12_load_1 rfl (fun r1 hw => ?_)
  refine z_ifb_eq F dX12_load_4 rfl rfl hw (fun hw => ?_) (fun hw => ?_)
  · refine z_bipush F dX12_load_26 (by decide) rfl ?_
    exact z_iret (x := (-2)) F hr dX12_load_28 hw
  · refine z_iload_n F dX12_load_7 rfl rfl 2 rfl ?_
    refine z_iconst F dX12_load_8 rfl ?_
    refine z_iconst F dX12_load_9 rfl ?_
    refine z_cSbp (As := [.int (i3 a2), .int (i3 0), .int (i3 1)]) (st := []) F (c_X12_within l g hw) cs_X12_within w_1102 ⟨rfl, rfl, Nat.le_of_ble_eq_true rfl, Nat.le_of_ble_eq_true rfl⟩ rfl (Nat.le_of_ble_eq_true rfl) dX12_load_10 rfl (fun r10 hw => ?_)
    refine z_ifb_eq F dX12_load_13 rfl rfl hw (fun hw => ?_) (fun hw => ?_)
    · refine z_bipush F dX12_load_26 (by decide) rfl ?_
      exact z_iret (x := (-2)) F hr dX12_load_28 hw
    · refine z_iload F dX12_load_16 rfl 4 rfl ?_
      refine z_iconst F dX12_load_18 rfl ?_
      refine z_iconst F dX12_load_19 rfl ?_
      refine z_cSbp (As := [.int (i3 a4), .int (i3 0), .int (i3 5)]) (st := []) F (c_X12_within l g hw) cs_X12_within w_1102 ⟨rfl, rfl, Nat.le_of_ble_eq_true rfl, Nat.le_of_ble_eq_true rfl⟩ rfl (Nat.le_of_ble_eq_true rfl) dX12_load_20 rfl (fun r20 hw => ?_)
      refine z_ifb_ne F dX12_load_23 rfl rfl hw (fun hw => ?_) (fun hw => ?_)
      · refine z_aload_n F dX12_load_29 rfl rfl 0 rfl ?_
        refine z_getR F fl_1023 k0 dX12_load_30 rfl ?_
        refine z_iload_n F dX12_load_33 rfl rfl 1 rfl ?_
        refine z_iald F (tk_12_31 k0) dX12_load_34 rfl hw (fun hw => ?_)
        refine z_if_eq F dX12_load_35 rfl rfl hw (fun hw => ?_) (fun hw => ?_)
        · refine z_sub [0, 1, 3, 4] rfl ?_
          exact bk_X12_load_53 F hr k0 hw
        · refine z_aload_n F dX12_load_38 rfl rfl 0 rfl ?_
          refine z_getR F fl_1023 k0 dX12_load_39 rfl ?_
          refine z_iload_n F dX12_load_42 rfl rfl 1 rfl ?_
          refine z_iald F (tk_12_31 k0) dX12_load_43 rfl hw (fun hw => ?_)
          refine z_iload_n F dX12_load_44 rfl rfl 2 rfl ?_
          refine z_iconst F dX12_load_45 rfl ?_
          refine z_iadd F dX12_load_46 rfl ?_
          refine z_icmp_eq F dX12_load_47 rfl rfl hw (fun hw => ?_) (fun hw => ?_)
          · refine z_sub [0, 1, 3, 4] rfl ?_
            exact bk_X12_load_53 F hr k0 hw
          · refine z_bipush F dX12_load_50 (by decide) rfl ?_
            exact z_iret (x := (-13)) F hr dX12_load_52 hw
      · refine z_bipush F dX12_load_26 (by decide) rfl ?_
        exact z_iret (x := (-2)) F hr dX12_load_28 hw
theorem cv_X12_load : CV yX12_load RX12 cX12_load 10 (some .int) 4 := ⟨w_1431, w_1432, w_80, w_1433, rfl, by decide +kernel, by decide +kernel, by decide +kernel⟩
