abbrev rm_X9_begin : Room := { frames := 1, cells := 0, slots := 0, locals := 23 }
def wp_X9_begin (a0 : Nat) (a1 : Int) (a2 : Int) (M : Mem) (Q : Mem → Prop) : Prop :=
  ∀ M2 : Mem, M2 = st2 M a0 1 a1 →
  ∀ M7 : Mem, M7 = st2 M2 a0 2 a2 →
  wp_J7_fill_53178 (rt a0 0) 0 M7 (fun M15 =>
  Q M15)
set_option maxRecDepth 100000 in
set_option maxHeartbeats 4000000 in
theorem c_X9_begin (l : Launch) (g : En) {a0 : Nat} {a1 : Int} {a2 : Int} {M : Mem} {Q : Mem → Prop} (k0 : kd a0 = 9) (hw : wp_X9_begin a0 a1 a2 M Q) :
    Met l yX9_begin (WS yX9_begin cX9_begin 3 none) rm_X9_begin (va_Pc [.ref (g.2.2.1 + a0), .int (i3 a1), .int (i3 a2)] (Rp g M)) (va_Qv (S := Mem) Q (fun u => Rp g u) (aR g)) 0 0 (aR g) := by
  refine met_Z (plainFor_of_name rfl) (Nat.le_of_ble_eq_true rfl) ?_
  intro p e s m args below meth c F hr _
  show Z g p l e rm_X9_begin s m args below meth c 3 (MQ below (va_Qv (S := Mem) Q (fun u => Rp g u) (aR g)) args s 0 0 (aR g)) M 0 [(0, .ref (g.2.2.1 + a0)), (1, .int (i3 a1)), (2, .int (i3 a2))] []
  refine z_aload_n F dX9_begin_0 rfl rfl 0 rfl ?_
  refine z_iload_n F dX9_begin_1 rfl rfl 1 rfl ?_
  refine z_putI F fp_433 k0 dX9_begin_2 rfl ?_
  refine z_nmM (fun M2 eM2 => ?_)
  have hw := hw M2 eM2
  refine z_aload_n F dX9_begin_5 rfl rfl 0 rfl ?_
  refine z_iload_n F dX9_begin_6 rfl rfl 2 rfl ?_
  refine z_putI F fp_435 k0 dX9_begin_7 rfl ?_
  refine z_nmM (fun M7 eM7 => ?_)
  have hw := hw M7 eM7
  refine z_aload_n F dX9_begin_10 rfl rfl 0 rfl ?_
  refine z_getR F fl_430 k0 dX9_begin_11 rfl ?_
  refine z_iconst F dX9_begin_14 rfl ?_
  refine z_cSv (As := [.ref (g.2.2.1 + (rt a0 0)), .int (i3 0)]) (st := []) F (c_J7_fill_53178 l g (tk_9_0 k0) hw) cs_J7_fill_53178 w_919 ⟨rfl, rfl, Nat.le_of_ble_eq_true rfl, Nat.le_of_ble_eq_true rfl⟩ rfl (Nat.le_of_ble_eq_true rfl) dX9_begin_15 rfl (fun M15 hw => ?_)
  exact z_vret F hr dX9_begin_18 hw
theorem cv_X9_begin : CV yX9_begin RX9 cX9_begin 3 none 2 := ⟨w_916, w_917, w_79, w_918, rfl, by decide +kernel, by decide +kernel, by decide +kernel⟩
abbrev rm_X9_isMissing : Room := { frames := 0, cells := 0, slots := 0, locals := 0 }
def wp_X9_isMissing (a0 : Nat) (M : Mem) (Q : Bool → Prop) : Prop :=
  (((¬ w32 (M a0 1) = w32 (-1)) → (
    Q false)) ∧
  (¬ (¬ w32 (M a0 1) = w32 (-1)) → (
    Q true)))
set_option maxRecDepth 100000 in
set_option maxHeartbeats 4000000 in
theorem c_X9_isMissing (l : Launch) (g : En) {a0 : Nat} {M : Mem} {Q : Bool → Prop} (k0 : kd a0 = 9) (hw : wp_X9_isMissing a0 M Q) :
    Met l yX9_isMissing (WS yX9_isMissing cX9_isMissing 1 (some .boolean)) rm_X9_isMissing (va_Pc [.ref (g.2.2.1 + a0)] (Rp g M)) (va_Qi (S := Bool × Mem) (fun r u => r = i3 (bz u.1) ∧ (u.2 = M ∧ Q u.1)) (fun u => Rp g u.2) (aR g)) 0 0 (aR g) := by
  refine met_Z (plainFor_of_name rfl) (Nat.le_of_ble_eq_true rfl) ?_
  intro p e s m args below meth c F hr _
  show Z g p l e rm_X9_isMissing s m args below meth c 1 (MQ below (va_Qi (S := Bool × Mem) (fun r u => r = i3 (bz u.1) ∧ (u.2 = M ∧ Q u.1)) (fun u => Rp g u.2) (aR g)) args s 0 0 (aR g)) M 0 [(0, .ref (g.2.2.1 + a0))] []
  refine z_aload_n F dX9_isMissing_0 rfl rfl 0 rfl ?_
  refine z_getI F fl_433 k0 dX9_isMissing_1 rfl ?_
  refine z_iconst F dX9_isMissing_4 rfl ?_
  refine z_icmp_ne F dX9_isMissing_5 rfl rfl hw (fun hw => ?_) (fun hw => ?_)
  · refine z_iconst F dX9_isMissing_12 rfl ?_
    exact z_zretp (x := false) F hr dX9_isMissing_13 hw
  · refine z_iconst F dX9_isMissing_8 rfl ?_
    refine z_goto F dX9_isMissing_9 rfl ?_
    exact z_zretp (x := true) F hr dX9_isMissing_13 hw
theorem cv_X9_isMissing : CV yX9_isMissing RX9 cX9_isMissing 1 (some .boolean) 0 := ⟨w_863, w_864, w_79, w_865, rfl, by decide +kernel, by decide +kernel, by decide +kernel⟩
abbrev rm_X9_hasItem : Room := { frames := 0, cells := 0, slots := 0, locals := 0 }
def wp_X9_hasItem (a0 : Nat) (a1 : Int) (M : Mem) (Q : Bool → Prop) : Prop :=
  (((w32 a1 < 0) → (
    Q false)) ∧
  (¬ (w32 a1 < 0) → (
    (((w32 (M a0 2) ≤ w32 a1) → (
      Q false)) ∧
    (¬ (w32 (M a0 2) ≤ w32 a1) → (
      Q true))))))
set_option maxRecDepth 100000 in
set_option maxHeartbeats 4000000 in
theorem c_X9_hasItem (l : Launch) (g : En) {a0 : Nat} {a1 : Int} {M : Mem} {Q : Bool → Prop} (k0 : kd a0 = 9) (hw : wp_X9_hasItem a0 a1 M Q) :
    Met l yX9_hasItem (WS yX9_hasItem cX9_hasItem 2 (some .boolean)) rm_X9_hasItem (va_Pc [.ref (g.2.2.1 + a0), .int (i3 a1)] (Rp g M)) (va_Qi (S := Bool × Mem) (fun r u => r = i3 (bz u.1) ∧ (u.2 = M ∧ Q u.1)) (fun u => Rp g u.2) (aR g)) 0 0 (aR g) := by
  refine met_Z (plainFor_of_name rfl) (Nat.le_of_ble_eq_true rfl) ?_
  intro p e s m args below meth c F hr _
  show Z g p l e rm_X9_hasItem s m args below meth c 2 (MQ below (va_Qi (S := Bool × Mem) (fun r u => r = i3 (bz u.1) ∧ (u.2 = M ∧ Q u.1)) (fun u => Rp g u.2) (aR g)) args s 0 0 (aR g)) M 0 [(0, .ref (g.2.2.1 + a0)), (1, .int (i3 a1))] []
  refine z_iload_n F dX9_hasItem_0 rfl rfl 1 rfl ?_
  refine z_if_lt F dX9_hasItem_1 rfl rfl hw (fun hw => ?_) (fun hw => ?_)
  · refine z_iconst F dX9_hasItem_16 rfl ?_
    exact z_zretp (x := false) F hr dX9_hasItem_17 hw
  · refine z_iload_n F dX9_hasItem_4 rfl rfl 1 rfl ?_
    refine z_aload_n F dX9_hasItem_5 rfl rfl 0 rfl ?_
    refine z_getI F fl_435 k0 dX9_hasItem_6 rfl ?_
    refine z_icmp_ge F dX9_hasItem_9 rfl rfl hw (fun hw => ?_) (fun hw => ?_)
    · refine z_iconst F dX9_hasItem_16 rfl ?_
      exact z_zretp (x := false) F hr dX9_hasItem_17 hw
    · refine z_iconst F dX9_hasItem_12 rfl ?_
      refine z_goto F dX9_hasItem_13 rfl ?_
      exact z_zretp (x := true) F hr dX9_hasItem_17 hw
theorem cv_X9_hasItem : CV yX9_hasItem RX9 cX9_hasItem 2 (some .boolean) 1 := ⟨w_965, w_966, w_79, w_967, rfl, by decide +kernel, by decide +kernel, by decide +kernel⟩
abbrev rm_X9_hasItems : Room := { frames := 0, cells := 0, slots := 0, locals := 0 }
def wp_X9_hasItems (a0 : Nat) (a1 : Int) (a2 : Int) (M : Mem) (Q : Bool → Prop) : Prop :=
  (((w32 a1 < 0) → (
    Q false)) ∧
  (¬ (w32 a1 < 0) → (
    (((w32 a2 < 0) → (
      Q false)) ∧
    (¬ (w32 a2 < 0) → (
      (((w32 ((M a0 2) - a2) < w32 a1) → (
        Q false)) ∧
      (¬ (w32 ((M a0 2) - a2) < w32 a1) → (
        Q true)))))))))
set_option maxRecDepth 100000 in
set_option maxHeartbeats 4000000 in
theorem c_X9_hasItems (l : Launch) (g : En) {a0 : Nat} {a1 : Int} {a2 : Int} {M : Mem} {Q : Bool → Prop} (k0 : kd a0 = 9) (hw : wp_X9_hasItems a0 a1 a2 M Q) :
    Met l yX9_hasItems (WS yX9_hasItems cX9_hasItems 3 (some .boolean)) rm_X9_hasItems (va_Pc [.ref (g.2.2.1 + a0), .int (i3 a1), .int (i3 a2)] (Rp g M)) (va_Qi (S := Bool × Mem) (fun r u => r = i3 (bz u.1) ∧ (u.2 = M ∧ Q u.1)) (fun u => Rp g u.2) (aR g)) 0 0 (aR g) := by
  refine met_Z (plainFor_of_name rfl) (Nat.le_of_ble_eq_true rfl) ?_
  intro p e s m args below meth c F hr _
  show Z g p l e rm_X9_hasItems s m args below meth c 3 (MQ below (va_Qi (S := Bool × Mem) (fun r u => r = i3 (bz u.1) ∧ (u.2 = M ∧ Q u.1)) (fun u => Rp g u.2) (aR g)) args s 0 0 (aR g)) M 0 [(0, .ref (g.2.2.1 + a0)), (1, .int (i3 a1)), (2, .int (i3 a2))] []
  refine z_iload_n F dX9_hasItems_0 rfl rfl 1 rfl ?_
  refine z_if_lt F dX9_hasItems_1 rfl rfl hw (fun hw => ?_) (fun hw => ?_)
  · refine z_iconst F dX9_hasItems_22 rfl ?_
    exact z_zretp (x := false) F hr dX9_hasItems_23 hw
  · refine z_iload_n F dX9_hasItems_4 rfl rfl 2 rfl ?_
    refine z_if_lt F dX9_hasItems_5 rfl rfl hw (fun hw => ?_) (fun hw => ?_)
    · refine z_iconst F dX9_hasItems_22 rfl ?_
      exact z_zretp (x := false) F hr dX9_hasItems_23 hw
    · refine z_iload_n F dX9_hasItems_8 rfl rfl 1 rfl ?_
      refine z_aload_n F dX9_hasItems_9 rfl rfl 0 rfl ?_
      refine z_getI F fl_435 k0 dX9_hasItems_10 rfl ?_
      refine z_iload_n F dX9_hasItems_13 rfl rfl 2 rfl ?_
      refine z_isub F dX9_hasItems_14 rfl ?_
      refine z_icmp_gt F dX9_hasItems_15 rfl rfl hw (fun hw => ?_) (fun hw => ?_)
      · refine z_iconst F dX9_hasItems_22 rfl ?_
        exact z_zretp (x := false) F hr dX9_hasItems_23 hw
      · refine z_iconst F dX9_hasItems_18 rfl ?_
        refine z_goto F dX9_hasItems_19 rfl ?_
        exact z_zretp (x := true) F hr dX9_hasItems_23 hw
theorem cv_X9_hasItems : CV yX9_hasItems RX9 cX9_hasItems 3 (some .boolean) 2 := ⟨w_977, w_978, w_79, w_979, rfl, by decide +kernel, by decide +kernel, by decide +kernel⟩
abbrev rm_X9_write : Room := { frames := 0, cells := 0, slots := 0, locals := 0 }
def wp_X9_write_b18 (a0 : Nat) (Q : Mem → Prop) (M : Mem) (s1 : Int) (s2 : Int) : Prop :=
  inb (rt a0 0) s1 ∧ (
  ∀ M18 : Mem, M18 = st2 M (rt a0 0) (ix s1) s2 →
  Q M18)
def wp_X9_write (a0 : Nat) (a1 : Int) (a2 : Int) (M : Mem) (Q : Mem → Prop) : Prop :=
  (((¬ w32 (M a0 1) = 0) → (
    wp_X9_write_b18 a0 Q M a1 a2)) ∧
  (¬ (¬ w32 (M a0 1) = 0) → (
    wp_X9_write_b18 a0 Q M a1 (w8 a2))))
set_option maxRecDepth 100000 in
set_option maxHeartbeats 4000000 in
theorem bk_X9_write_18 {g : En} {p : Program} {l : Launch} {e : Env} {s : State} {m : MethodId} {args : Array Value} {below : List Frame} {meth : Method} {c : Code} {M : Mem} {a0 : Nat} {Q : Mem → Prop} {s1 : Int} {s2 : Int} (F : Fx g p s m args meth c cX9_write 3 RX9) (hr : meth.sig.returnType = none) (k0 : kd a0 = 9)
    (hw : wp_X9_write_b18 a0 Q M s1 s2) : Z g p l e rm_X9_write s m args below meth c 3 (MQ below (va_Qv (S := Mem) Q (fun u => Rp g u) (aR g)) args s 0 0 (aR g)) M 18 [] [.int (i3 s2), .int (i3 s1), .ref (g.2.2.1 + (rt a0 0))] := by
  refine z_iast F (tk_9_0 k0) dX9_write_18 rfl hw (fun hw => ?_)
  refine z_nmM (fun M18 eM18 => ?_)
  have hw := hw M18 eM18
  exact z_vret F hr dX9_write_19 hw
set_option maxRecDepth 100000 in
set_option maxHeartbeats 4000000 in
theorem c_X9_write (l : Launch) (g : En) {a0 : Nat} {a1 : Int} {a2 : Int} {M : Mem} {Q : Mem → Prop} (k0 : kd a0 = 9) (hw : wp_X9_write a0 a1 a2 M Q) :
    Met l yX9_write (WS yX9_write cX9_write 3 none) rm_X9_write (va_Pc [.ref (g.2.2.1 + a0), .int (i3 a1), .int (i3 a2)] (Rp g M)) (va_Qv (S := Mem) Q (fun u => Rp g u) (aR g)) 0 0 (aR g) := by
  refine met_Z (plainFor_of_name rfl) (Nat.le_of_ble_eq_true rfl) ?_
  intro p e s m args below meth c F hr _
  show Z g p l e rm_X9_write s m args below meth c 3 (MQ below (va_Qv (S := Mem) Q (fun u => Rp g u) (aR g)) args s 0 0 (aR g)) M 0 [(0, .ref (g.2.2.1 + a0)), (1, .int (i3 a1)), (2, .int (i3 a2))] []
  refine z_aload_n F dX9_write_0 rfl rfl 0 rfl ?_
  refine z_getR F fl_430 k0 dX9_write_1 rfl ?_
  refine z_iload_n F dX9_write_4 rfl rfl 1 rfl ?_
  refine z_aload_n F dX9_write_5 rfl rfl 0 rfl ?_
  refine z_getI F fl_433 k0 dX9_write_6 rfl ?_
  refine z_if_ne F dX9_write_9 rfl rfl hw (fun hw => ?_) (fun hw => ?_)
  · refine z_iload_n F dX9_write_17 rfl rfl 2 rfl ?_
    refine z_sub [] rfl ?_
    exact bk_X9_write_18 F hr k0 hw
  · refine z_iload_n F dX9_write_12 rfl rfl 2 rfl ?_
    refine z_i2b F dX9_write_13 rfl ?_
    refine z_goto F dX9_write_14 rfl ?_
    refine z_sub [] rfl ?_
    exact bk_X9_write_18 F hr k0 hw
theorem cv_X9_write : CV yX9_write RX9 cX9_write 3 none 2 := ⟨w_969, w_970, w_79, w_971, rfl, by decide +kernel, by decide +kernel, by decide +kernel⟩
abbrev rm_X10_reckonWorth : Room := { frames := 3, cells := 0, slots := 0, locals := 76 }
def wp_X10_reckonWorth_B36 (a0 : Nat) (a1 : Nat) (a2 : Nat) (Q : Mem → Prop) (K36 : Mem → Int → Prop) (K11 : Mem → Int → Prop) (M : Mem) (x3 : Int) (x4 : Int) : Prop :=
  (((w32 x3 < w32 x4) → (
    inb (rt a0 3) x3 ∧ (
    wp_X4_add (rt a0 0) (rt (rt a0 3) (ix x3)) M (fun M85 =>
    K11 M85 (x3 + 1))))) ∧
  (¬ (w32 x3 < w32 x4) → (
    inb (rt a2 3) x4 ∧ (
    wp_X4_becomeFactor (rt a0 4) (M (rt a2 3) (ix x4)) M (fun M53 =>
    inb (rt a0 3) x3 ∧ (
    wp_X4_divide (rt (rt a0 3) (ix x3)) (rt a0 4) M53 (fun M66 =>
    K36 M66 (x4 + 1))))))))
def wp_X10_reckonWorth_L36 (a0 : Nat) (a1 : Nat) (a2 : Nat) (Q : Mem → Prop) (K11 : Mem → Int → Prop) (M : Mem) (x3 : Int) (x4 : Int) : Prop :=
  ∃ (I : Mem → Int → Prop) (μ : Mem → Int → Nat), I M x4 ∧ ∀ (M : Mem) (x4 : Int), I M x4 →
    wp_X10_reckonWorth_B36 a0 a1 a2 Q (fun M' x4' => I M' x4' ∧ μ M' x4' < μ M x4) K11 M x3 x4
def wp_X10_reckonWorth_B11 (a0 : Nat) (a1 : Nat) (a2 : Nat) (Q : Mem → Prop) (K11 : Mem → Int → Prop) (M : Mem) (x3 : Int) : Prop :=
  (((w32 (M a2 0) ≤ w32 x3) → (
    Q M)) ∧
  (¬ (w32 (M a2 0) ≤ w32 x3) → (
    inb (rt a0 3) x3 ∧ (
    inb a1 x3 ∧ (
    wp_X4_become (rt (rt a0 3) (ix x3)) (w32 (M a1 (ix x3))) 1 M (fun M30 =>
    wp_X10_reckonWorth_L36 a0 a1 a2 Q K11 M30 x3 0))))))
def wp_X10_reckonWorth_L11 (a0 : Nat) (a1 : Nat) (a2 : Nat) (Q : Mem → Prop) (M : Mem) (x3 : Int) : Prop :=
  ∃ (I : Mem → Int → Prop) (μ : Mem → Int → Nat), I M x3 ∧ ∀ (M : Mem) (x3 : Int), I M x3 →
    wp_X10_reckonWorth_B11 a0 a1 a2 Q (fun M' x3' => I M' x3' ∧ μ M' x3' < μ M x3) M x3
def wp_X10_reckonWorth (a0 : Nat) (a1 : Nat) (a2 : Nat) (M : Mem) (Q : Mem → Prop) : Prop :=
  wp_X4_become (rt a0 0) 0 1 M (fun M6 =>
  wp_X10_reckonWorth_L11 a0 a1 a2 Q M6 0)
set_option maxRecDepth 100000 in
set_option maxHeartbeats 4000000 in
theorem bk_X10_reckonWorth_B36 {g : En} {p : Program} {l : Launch} {e : Env} {s : State} {m : MethodId} {args : Array Value} {below : List Frame} {meth : Method} {c : Code} {M : Mem} {a0 : Nat} {a1 : Nat} {a2 : Nat} {Q : Mem → Prop} {K36 : Mem → Int → Prop} {K11 : Mem → Int → Prop} {x3 : Int} {x4 : Int} (F : Fx g p s m args meth c cX10_reckonWorth 5 RX10) (hr : meth.sig.returnType = none) (k0 : kd a0 = 10) (k1 : kd a1 = 13) (k2 : kd a2 = 8)
    (hK36 : ∀ (M' : Mem) (x4' : Int), K36 M' x4' → Z g p l e rm_X10_reckonWorth s m args below meth c 5 (MQ below (va_Qv (S := Mem) Q (fun u => Rp g u) (aR g)) args s 0 0 (aR g)) M' 36 [(0, .ref (g.2.2.1 + a0)), (1, .ref (g.2.2.1 + a1)), (2, .ref (g.2.2.1 + a2)), (3, .int (i3 x3)), (4, .int (i3 x4'))] [])
    (hK11 : ∀ (M' : Mem) (x3' : Int), K11 M' x3' → Z g p l e rm_X10_reckonWorth s m args below meth c 5 (MQ below (va_Qv (S := Mem) Q (fun u => Rp g u) (aR g)) args s 0 0 (aR g)) M' 11 [(0, .ref (g.2.2.1 + a0)), (1, .ref (g.2.2.1 + a1)), (2, .ref (g.2.2.1 + a2)), (3, .int (i3 x3'))] [])
    (hw : wp_X10_reckonWorth_B36 a0 a1 a2 Q K36 K11 M x3 x4) : Z g p l e rm_X10_reckonWorth s m args below meth c 5 (MQ below (va_Qv (S := Mem) Q (fun u => Rp g u) (aR g)) args s 0 0 (aR g)) M 36 [(0, .ref (g.2.2.1 + a0)), (1, .ref (g.2.2.1 + a1)), (2, .ref (g.2.2.1 + a2)), (3, .int (i3 x3)), (4, .int (i3 x4))] [] := by
  refine z_iload F dX10_reckonWorth_36 rfl 4 rfl ?_
  refine z_iload_n F dX10_reckonWorth_38 rfl rfl 3 rfl ?_
  refine z_icmp_gt F dX10_reckonWorth_39 rfl rfl hw (fun hw => ?_) (fun hw => ?_)
  · refine z_aload_n F dX10_reckonWorth_75 rfl rfl 0 rfl ?_
    refine z_getR F fl_281 k0 dX10_reckonWorth_76 rfl ?_
    refine z_aload_n F dX10_reckonWorth_79 rfl rfl 0 rfl ?_
    refine z_getR F fl_287 k0 dX10_reckonWorth_80 rfl ?_
    refine z_iload_n F dX10_reckonWorth_83 rfl rfl 3 rfl ?_
    have n84 := hw.1
    refine z_aald F 1 (tk_10_3 k0) rfl rfl dX10_reckonWorth_84 rfl hw (fun hw => ?_)
    refine z_cVv (As := [.ref (g.2.2.1 + (rt (rt a0 3) (ix x3)))]) (st := []) F (c_X4_add l g (tk_10_0 k0) (tka_16 (tk_10_3 k0) n84) hw) cv_X4_add w_688 ⟨rfl, rfl, Nat.le_of_ble_eq_true rfl, Nat.le_of_ble_eq_true rfl⟩ (tk_10_0 k0) rfl rfl (Nat.le_of_ble_eq_true rfl) dX10_reckonWorth_85 rfl (fun M85 hw => ?_)
    refine z_iinc F dX10_reckonWorth_88 rfl 3 rfl (by decide) rfl ?_
    refine z_goto F dX10_reckonWorth_91 rfl ?_
    refine z_sub [1, 2, 3, 0] rfl ?_
    exact hK11 M85 (x3 + 1) hw
  · refine z_aload_n F dX10_reckonWorth_42 rfl rfl 0 rfl ?_
    refine z_getR F fl_288 k0 dX10_reckonWorth_43 rfl ?_
    refine z_aload_n F dX10_reckonWorth_46 rfl rfl 2 rfl ?_
    refine z_getR F fl_208 k2 dX10_reckonWorth_47 rfl ?_
    refine z_iload F dX10_reckonWorth_50 rfl 4 rfl ?_
    refine z_iald F (tk_8_3 k2) dX10_reckonWorth_52 rfl hw (fun hw => ?_)
    refine z_cVv (As := [.int (i3 (M (rt a2 3) (ix x4)))]) (st := []) F (c_X4_becomeFactor l g (tk_10_4 k0) hw) cv_X4_becomeFactor w_674 ⟨rfl, rfl, Nat.le_of_ble_eq_true rfl, Nat.le_of_ble_eq_true rfl⟩ (tk_10_4 k0) rfl rfl (Nat.le_of_ble_eq_true rfl) dX10_reckonWorth_53 rfl (fun M53 hw => ?_)
    refine z_aload_n F dX10_reckonWorth_56 rfl rfl 0 rfl ?_
    refine z_getR F fl_287 k0 dX10_reckonWorth_57 rfl ?_
    refine z_iload_n F dX10_reckonWorth_60 rfl rfl 3 rfl ?_
    have n61 := hw.1
    refine z_aald F 1 (tk_10_3 k0) rfl rfl dX10_reckonWorth_61 rfl hw (fun hw => ?_)
    refine z_aload_n F dX10_reckonWorth_62 rfl rfl 0 rfl ?_
    refine z_getR F fl_288 k0 dX10_reckonWorth_63 rfl ?_
    refine z_cVv (As := [.ref (g.2.2.1 + (rt a0 4))]) (st := []) F (c_X4_divide l g (tka_16 (tk_10_3 k0) n61) (tk_10_4 k0) hw) cv_X4_divide w_680 ⟨rfl, rfl, Nat.le_of_ble_eq_true rfl, Nat.le_of_ble_eq_true rfl⟩ (tka_16 (tk_10_3 k0) n61) rfl rfl (Nat.le_of_ble_eq_true rfl) dX10_reckonWorth_66 rfl (fun M66 hw => ?_)
    refine z_iinc F dX10_reckonWorth_69 rfl 4 rfl (by decide) rfl ?_
    refine z_goto F dX10_reckonWorth_72 rfl ?_
    refine z_sub [1, 2, 3, 4, 0] rfl ?_
    exact hK36 M66 (x4 + 1) hw
set_option maxRecDepth 100000 in
set_option maxHeartbeats 4000000 in
theorem lp_X10_reckonWorth_36 {g : En} {p : Program} {l : Launch} {e : Env} {s : State} {m : MethodId} {args : Array Value} {below : List Frame} {meth : Method} {c : Code} {M : Mem} {a0 : Nat} {a1 : Nat} {a2 : Nat} {Q : Mem → Prop} {K11 : Mem → Int → Prop} {x3 : Int} {x4 : Int} (F : Fx g p s m args meth c cX10_reckonWorth 5 RX10) (hr : meth.sig.returnType = none) (k0 : kd a0 = 10) (k1 : kd a1 = 13) (k2 : kd a2 = 8)
    (hK11 : ∀ (M' : Mem) (x3' : Int), K11 M' x3' → Z g p l e rm_X10_reckonWorth s m args below meth c 5 (MQ below (va_Qv (S := Mem) Q (fun u => Rp g u) (aR g)) args s 0 0 (aR g)) M' 11 [(0, .ref (g.2.2.1 + a0)), (1, .ref (g.2.2.1 + a1)), (2, .ref (g.2.2.1 + a2)), (3, .int (i3 x3'))] [])
    (hw : wp_X10_reckonWorth_L36 a0 a1 a2 Q K11 M x3 x4) : Z g p l e rm_X10_reckonWorth s m args below meth c 5 (MQ below (va_Qv (S := Mem) Q (fun u => Rp g u) (aR g)) args s 0 0 (aR g)) M 36 [(0, .ref (g.2.2.1 + a0)), (1, .ref (g.2.2.1 + a1)), (2, .ref (g.2.2.1 + a2)), (3, .int (i3 x3)), (4, .int (i3 x4))] [] := by
  obtain ⟨I, μ, h0, hb⟩ := hw
  have key : ∀ (n : Nat) (M : Mem) (x4 : Int), I M x4 → μ M x4 < n → Z g p l e rm_X10_reckonWorth s m args below meth c 5 (MQ below (va_Qv (S := Mem) Q (fun u => Rp g u) (aR g)) args s 0 0 (aR g)) M 36 [(0, .ref (g.2.2.1 + a0)), (1, .ref (g.2.2.1 + a1)), (2, .ref (g.2.2.1 + a2)), (3, .int (i3 x3)), (4, .int (i3 x4))] [] := by
    intro n
    induction n with
    | zero => exact fun _ _ _ h => absurd h (Nat.not_lt_zero _)
    | succ n ih =>
      intro M x4 hI hn
      exact bk_X10_reckonWorth_B36 F hr k0 k1 k2 (fun M' x4' hk => ih M' x4' hk.1 (Nat.lt_of_lt_of_le hk.2 (Nat.le_of_lt_succ hn))) hK11 (hb M x4 hI)
  exact key _ M x4 h0 (Nat.lt_succ_self _)
set_option maxRecDepth 100000 in
set_option maxHeartbeats 4000000 in
theorem bk_X10_reckonWorth_B11 {g : En} {p : Program} {l : Launch} {e : Env} {s : State} {m : MethodId} {args : Array Value} {below : List Frame} {meth : Method} {c : Code} {M : Mem} {a0 : Nat} {a1 : Nat} {a2 : Nat} {Q : Mem → Prop} {K11 : Mem → Int → Prop} {x3 : Int} (F : Fx g p s m args meth c cX10_reckonWorth 5 RX10) (hr : meth.sig.returnType = none) (k0 : kd a0 = 10) (k1 : kd a1 = 13) (k2 : kd a2 = 8)
    (hK11 : ∀ (M' : Mem) (x3' : Int), K11 M' x3' → Z g p l e rm_X10_reckonWorth s m args below meth c 5 (MQ below (va_Qv (S := Mem) Q (fun u => Rp g u) (aR g)) args s 0 0 (aR g)) M' 11 [(0, .ref (g.2.2.1 + a0)), (1, .ref (g.2.2.1 + a1)), (2, .ref (g.2.2.1 + a2)), (3, .int (i3 x3'))] [])
    (hw : wp_X10_reckonWorth_B11 a0 a1 a2 Q K11 M x3) : Z g p l e rm_X10_reckonWorth s m args below meth c 5 (MQ below (va_Qv (S := Mem) Q (fun u => Rp g u) (aR g)) args s 0 0 (aR g)) M 11 [(0, .ref (g.2.2.1 + a0)), (1, .ref (g.2.2.1 + a1)), (2, .ref (g.2.2.1 + a2)), (3, .int (i3 x3))] [] := by
  refine z_iload_n F dX10_reckonWorth_11 rfl rfl 3 rfl ?_
  refine z_aload_n F dX10_reckonWorth_12 rfl rfl 2 rfl ?_
  refine z_getI F fl_194 k2 dX10_reckonWorth_13 rfl ?_
  refine z_icmp_ge F dX10_reckonWorth_16 rfl rfl hw (fun hw => ?_) (fun hw => ?_)
  · exact z_vret F hr dX10_reckonWorth_94 hw
  · refine z_aload_n F dX10_reckonWorth_19 rfl rfl 0 rfl ?_
    refine z_getR F fl_287 k0 dX10_reckonWorth_20 rfl ?_
    refine z_iload_n F dX10_reckonWorth_23 rfl rfl 3 rfl ?_
    have n24 := hw.1
    refine z_aald F 1 (tk_10_3 k0) rfl rfl dX10_reckonWorth_24 rfl hw (fun hw => ?_)
    refine z_aload_n F dX10_reckonWorth_25 rfl rfl 1 rfl ?_
    refine z_iload_n F dX10_reckonWorth_26 rfl rfl 3 rfl ?_
    refine z_iald F k1 dX10_reckonWorth_27 rfl hw (fun hw => ?_)
    refine z_i2l F dX10_reckonWorth_28 rfl ?_
    refine z_lconst (v := 1) F dX10_reckonWorth_29 rfl rfl ?_
    refine z_cVv (As := [.long (i6 (w32 (M a1 (ix x3)))), .long (i6 1)]) (st := []) F (c_X4_become l g (tka_16 (tk_10_3 k0) n24) hw) cv_X4_become w_665 ⟨rfl, rfl, Nat.le_of_ble_eq_true rfl, Nat.le_of_ble_eq_true rfl⟩ (tka_16 (tk_10_3 k0) n24) rfl rfl (Nat.le_of_ble_eq_true rfl) dX10_reckonWorth_30 rfl (fun M30 hw => ?_)
    refine z_iconst F dX10_reckonWorth_33 rfl ?_
    refine z_istore F dX10_reckonWorth_34 rfl (by decide) rfl ?_
    refine z_sub [1, 2, 3, 4, 0] rfl ?_
    exact lp_X10_reckonWorth_36 F hr k0 k1 k2 hK11 hw
set_option maxRecDepth 100000 in
set_option maxHeartbeats 4000000 in
theorem lp_X10_reckonWorth_11 {g : En} {p : Program} {l : Launch} {e : Env} {s : State} {m : MethodId} {args : Array Value} {below : List Frame} {meth : Method} {c : Code} {M : Mem} {a0 : Nat} {a1 : Nat} {a2 : Nat} {Q : Mem → Prop} {x3 : Int} (F : Fx g p s m args meth c cX10_reckonWorth 5 RX10) (hr : meth.sig.returnType = none) (k0 : kd a0 = 10) (k1 : kd a1 = 13) (k2 : kd a2 = 8)
    (hw : wp_X10_reckonWorth_L11 a0 a1 a2 Q M x3) : Z g p l e rm_X10_reckonWorth s m args below meth c 5 (MQ below (va_Qv (S := Mem) Q (fun u => Rp g u) (aR g)) args s 0 0 (aR g)) M 11 [(0, .ref (g.2.2.1 + a0)), (1, .ref (g.2.2.1 + a1)), (2, .ref (g.2.2.1 + a2)), (3, .int (i3 x3))] [] := by
  obtain ⟨I, μ, h0, hb⟩ := hw
  have key : ∀ (n : Nat) (M : Mem) (x3 : Int), I M x3 → μ M x3 < n → Z g p l e rm_X10_reckonWorth s m args below meth c 5 (MQ below (va_Qv (S := Mem) Q (fun u => Rp g u) (aR g)) args s 0 0 (aR g)) M 11 [(0, .ref (g.2.2.1 + a0)), (1, .ref (g.2.2.1 + a1)), (2, .ref (g.2.2.1 + a2)), (3, .int (i3 x3))] [] := by
    intro n
    induction n with
    | zero => exact fun _ _ _ h => absurd h (Nat.not_lt_zero _)
    | succ n ih =>
      intro M x3 hI hn
      exact bk_X10_reckonWorth_B11 F hr k0 k1 k2 (fun M' x3' hk => ih M' x3' hk.1 (Nat.lt_of_lt_of_le hk.2 (Nat.le_of_lt_succ hn))) (hb M x3 hI)
  exact key _ M x3 h0 (Nat.lt_succ_self _)
set_option maxRecDepth 100000 in
set_option maxHeartbeats 4000000 in
theorem c_X10_reckonWorth (l : Launch) (g : En) {a0 : Nat} {a1 : Nat} {a2 : Nat} {M : Mem} {Q : Mem → Prop} (k0 : kd a0 = 10) (k1 : kd a1 = 13) (k2 : kd a2 = 8) (hw : wp_X10_reckonWorth a0 a1 a2 M Q) :
    Met l yX10_reckonWorth (WS yX10_reckonWorth cX10_reckonWorth 5 none) rm_X10_reckonWorth (va_Pc [.ref (g.2.2.1 + a0), .ref (g.2.2.1 + a1), .ref (g.2.2.1 + a2)] (Rp g M)) (va_Qv (S := Mem) Q (fun u => Rp g u) (aR g)) 0 0 (aR g) := by
  refine met_Z (plainFor_of_name rfl) (Nat.le_of_ble_eq_true rfl) ?_
  intro p e s m args below meth c F hr _
  show Z g p l e rm_X10_reckonWorth s m args below meth c 5 (MQ below (va_Qv (S := Mem) Q (fun u => Rp g u) (aR g)) args s 0 0 (aR g)) M 0 [(0, .ref (g.2.2.1 + a0)), (1, .ref (g.2.2.1 + a1)), (2, .ref (g.2.2.1 + a2))] []
  refine z_aload_n F dX10_reckonWorth_0 rfl rfl 0 rfl ?_
  refine z_getR F fl_281 k0 dX10_reckonWorth_1 rfl ?_
  refine z_lconst (v := 0) F dX10_reckonWorth_4 rfl rfl ?_
  refine z_lconst (v := 1) F dX10_reckonWorth_5 rfl rfl ?_
  refine z_cVv (As := [.long (i6 0), .long (i6 1)]) (st := []) F (c_X4_become l g (tk_10_0 k0) hw) cv_X4_become w_665 ⟨rfl, rfl, Nat.le_of_ble_eq_true rfl, Nat.le_of_ble_eq_true rfl⟩ (tk_10_0 k0) rfl rfl (Nat.le_of_ble_eq_true rfl) dX10_reckonWorth_6 rfl (fun M6 hw => ?_)
  refine z_iconst F dX10_reckonWorth_9 rfl ?_
  refine z_istore_n F dX10_reckonWorth_10 rfl rfl (by decide) rfl ?_
  refine z_sub [1, 2, 3, 0] rfl ?_
  exact lp_X10_reckonWorth_11 F hr k0 k1 k2 hw
theorem cv_X10_reckonWorth : CV yX10_reckonWorth RX10 cX10_reckonWorth 5 none 2 := ⟨w_662, w_663, w_73, w_664, rfl, by decide +kernel, by decide +kernel, by decide +kernel⟩
abbrev rm_X10_reckonLength : Room := { frames := 2, cells := 0, slots := 0, locals := 58 }
def wp_X10_reckonLength_B11 (a0 : Nat) (Q : Mem → Prop) (K11 : Mem → Int → Prop) (M : Mem) (x1 : Int) (x2 : Int) : Prop :=
  (((w32 x1 ≤ w32 x2) → (
    wp_X4_divide (rt a0 1) (rt a0 0) M (fun M66 =>
    Q M66))) ∧
  (¬ (w32 x1 ≤ w32 x2) → (
    wp_X4_become (rt a0 5) (w32 (x2 + 1)) 1 M (fun M25 =>
    inb (rt a0 3) x2 ∧ (
    wp_X4_multiply (rt a0 5) (rt (rt a0 3) (ix x2)) M25 (fun M38 =>
    wp_X4_add (rt a0 1) (rt a0 5) M38 (fun M49 =>
    K11 M49 (x2 + 1))))))))
def wp_X10_reckonLength_L11 (a0 : Nat) (Q : Mem → Prop) (M : Mem) (x1 : Int) (x2 : Int) : Prop :=
  ∃ (I : Mem → Int → Prop) (μ : Mem → Int → Nat), I M x2 ∧ ∀ (M : Mem) (x2 : Int), I M x2 →
    wp_X10_reckonLength_B11 a0 Q (fun M' x2' => I M' x2' ∧ μ M' x2' < μ M x2) M x1 x2
def wp_X10_reckonLength (a0 : Nat) (a1 : Int) (M : Mem) (Q : Mem → Prop) : Prop :=
  wp_X4_become (rt a0 1) 0 1 M (fun M6 =>
  wp_X10_reckonLength_L11 a0 Q M6 a1 0)
set_option maxRecDepth 100000 in
set_option maxHeartbeats 4000000 in
theorem bk_X10_reckonLength_B11 {g : En} {p : Program} {l : Launch} {e : Env} {s : State} {m : MethodId} {args : Array Value} {below : List Frame} {meth : Method} {c : Code} {M : Mem} {a0 : Nat} {Q : Mem → Prop} {K11 : Mem → Int → Prop} {x1 : Int} {x2 : Int} (F : Fx g p s m args meth c cX10_reckonLength 3 RX10) (hr : meth.sig.returnType = none) (k0 : kd a0 = 10)
    (hK11 : ∀ (M' : Mem) (x2' : Int), K11 M' x2' → Z g p l e rm_X10_reckonLength s m args below meth c 3 (MQ below (va_Qv (S := Mem) Q (fun u => Rp g u) (aR g)) args s 0 0 (aR g)) M' 11 [(0, .ref (g.2.2.1 + a0)), (1, .int (i3 x1)), (2, .int (i3 x2'))] [])
    (hw : wp_X10_reckonLength_B11 a0 Q K11 M x1 x2) : Z g p l e rm_X10_reckonLength s m args below meth c 3 (MQ below (va_Qv (S := Mem) Q (fun u => Rp g u) (aR g)) args s 0 0 (aR g)) M 11 [(0, .ref (g.2.2.1 + a0)), (1, .int (i3 x1)), (2, .int (i3 x2))] [] := by
  refine z_iload_n F dX10_reckonLength_11 rfl rfl 2 rfl ?_
  refine z_iload_n F dX10_reckonLength_12 rfl rfl 1 rfl ?_
  refine z_icmp_ge F dX10_reckonLength_13 rfl rfl hw (fun hw => ?_) (fun hw => ?_)
  · refine z_aload_n F dX10_reckonLength_58 rfl rfl 0 rfl ?_
    refine z_getR F fl_283 k0 dX10_reckonLength_59 rfl ?_
    refine z_aload_n F dX10_reckonLength_62 rfl rfl 0 rfl ?_
    refine z_getR F fl_281 k0 dX10_reckonLength_63 rfl ?_
    refine z_cVv (As := [.ref (g.2.2.1 + (rt a0 0))]) (st := []) F (c_X4_divide l g (tk_10_1 k0) (tk_10_0 k0) hw) cv_X4_divide w_680 ⟨rfl, rfl, Nat.le_of_ble_eq_true rfl, Nat.le_of_ble_eq_true rfl⟩ (tk_10_1 k0) rfl rfl (Nat.le_of_ble_eq_true rfl) dX10_reckonLength_66 rfl (fun M66 hw => ?_)
    exact z_vret F hr dX10_reckonLength_69 hw
  · refine z_aload_n F dX10_reckonLength_16 rfl rfl 0 rfl ?_
    refine z_getR F fl_289 k0 dX10_reckonLength_17 rfl ?_
    refine z_iload_n F dX10_reckonLength_20 rfl rfl 2 rfl ?_
    refine z_iconst F dX10_reckonLength_21 rfl ?_
    refine z_iadd F dX10_reckonLength_22 rfl ?_
    refine z_i2l F dX10_reckonLength_23 rfl ?_
    refine z_lconst (v := 1) F dX10_reckonLength_24 rfl rfl ?_
    refine z_cVv (As := [.long (i6 (w32 (x2 + 1))), .long (i6 1)]) (st := []) F (c_X4_become l g (tk_10_5 k0) hw) cv_X4_become w_665 ⟨rfl, rfl, Nat.le_of_ble_eq_true rfl, Nat.le_of_ble_eq_true rfl⟩ (tk_10_5 k0) rfl rfl (Nat.le_of_ble_eq_true rfl) dX10_reckonLength_25 rfl (fun M25 hw => ?_)
    refine z_aload_n F dX10_reckonLength_28 rfl rfl 0 rfl ?_
    refine z_getR F fl_289 k0 dX10_reckonLength_29 rfl ?_
    refine z_aload_n F dX10_reckonLength_32 rfl rfl 0 rfl ?_
    refine z_getR F fl_287 k0 dX10_reckonLength_33 rfl ?_
    refine z_iload_n F dX10_reckonLength_36 rfl rfl 2 rfl ?_
    have n37 := hw.1
    refine z_aald F 1 (tk_10_3 k0) rfl rfl dX10_reckonLength_37 rfl hw (fun hw => ?_)
    refine z_cVv (As := [.ref (g.2.2.1 + (rt (rt a0 3) (ix x2)))]) (st := []) F (c_X4_multiply l g (tk_10_5 k0) (tka_16 (tk_10_3 k0) n37) hw) cv_X4_multiply w_707 ⟨rfl, rfl, Nat.le_of_ble_eq_true rfl, Nat.le_of_ble_eq_true rfl⟩ (tk_10_5 k0) rfl rfl (Nat.le_of_ble_eq_true rfl) dX10_reckonLength_38 rfl (fun M38 hw => ?_)
    refine z_aload_n F dX10_reckonLength_41 rfl rfl 0 rfl ?_
    refine z_getR F fl_283 k0 dX10_reckonLength_42 rfl ?_
    refine z_aload_n F dX10_reckonLength_45 rfl rfl 0 rfl ?_
    refine z_getR F fl_289 k0 dX10_reckonLength_46 rfl ?_
    refine z_cVv (As := [.ref (g.2.2.1 + (rt a0 5))]) (st := []) F (c_X4_add l g (tk_10_1 k0) (tk_10_5 k0) hw) cv_X4_add w_688 ⟨rfl, rfl, Nat.le_of_ble_eq_true rfl, Nat.le_of_ble_eq_true rfl⟩ (tk_10_1 k0) rfl rfl (Nat.le_of_ble_eq_true rfl) dX10_reckonLength_49 rfl (fun M49 hw => ?_)
    refine z_iinc F dX10_reckonLength_52 rfl 2 rfl (by decide) rfl ?_
    refine z_goto F dX10_reckonLength_55 rfl ?_
    refine z_sub [1, 2, 0] rfl ?_
    exact hK11 M49 (x2 + 1) hw
set_option maxRecDepth 100000 in
set_option maxHeartbeats 4000000 in
theorem lp_X10_reckonLength_11 {g : En} {p : Program} {l : Launch} {e : Env} {s : State} {m : MethodId} {args : Array Value} {below : List Frame} {meth : Method} {c : Code} {M : Mem} {a0 : Nat} {Q : Mem → Prop} {x1 : Int} {x2 : Int} (F : Fx g p s m args meth c cX10_reckonLength 3 RX10) (hr : meth.sig.returnType = none) (k0 : kd a0 = 10)
    (hw : wp_X10_reckonLength_L11 a0 Q M x1 x2) : Z g p l e rm_X10_reckonLength s m args below meth c 3 (MQ below (va_Qv (S := Mem) Q (fun u => Rp g u) (aR g)) args s 0 0 (aR g)) M 11 [(0, .ref (g.2.2.1 + a0)), (1, .int (i3 x1)), (2, .int (i3 x2))] [] := by
  obtain ⟨I, μ, h0, hb⟩ := hw
  have key : ∀ (n : Nat) (M : Mem) (x2 : Int), I M x2 → μ M x2 < n → Z g p l e rm_X10_reckonLength s m args below meth c 3 (MQ below (va_Qv (S := Mem) Q (fun u => Rp g u) (aR g)) args s 0 0 (aR g)) M 11 [(0, .ref (g.2.2.1 + a0)), (1, .int (i3 x1)), (2, .int (i3 x2))] [] := by
    intro n
    induction n with
    | zero => exact fun _ _ _ h => absurd h (Nat.not_lt_zero _)
    | succ n ih =>
      intro M x2 hI hn
      exact bk_X10_reckonLength_B11 F hr k0 (fun M' x2' hk => ih M' x2' hk.1 (Nat.lt_of_lt_of_le hk.2 (Nat.le_of_lt_succ hn))) (hb M x2 hI)
  exact key _ M x2 h0 (Nat.lt_succ_self _)
set_option maxRecDepth 100000 in
set_option maxHeartbeats 4000000 in
theorem c_X10_reckonLength (l : Launch) (g : En) {a0 : Nat} {a1 : Int} {M : Mem} {Q : Mem → Prop} (k0 : kd a0 = 10) (hw : wp_X10_reckonLength a0 a1 M Q) :
    Met l yX10_reckonLength (WS yX10_reckonLength cX10_reckonLength 3 none) rm_X10_reckonLength (va_Pc [.ref (g.2.2.1 + a0), .int (i3 a1)] (Rp g M)) (va_Qv (S := Mem) Q (fun u => Rp g u) (aR g)) 0 0 (aR g) := by
  refine met_Z (plainFor_of_name rfl) (Nat.le_of_ble_eq_true rfl) ?_
  intro p e s m args below meth c F hr _
  show Z g p l e rm_X10_reckonLength s m args below meth c 3 (MQ below (va_Qv (S := Mem) Q (fun u => Rp g u) (aR g)) args s 0 0 (aR g)) M 0 [(0, .ref (g.2.2.1 + a0)), (1, .int (i3 a1))] []
  refine z_aload_n F dX10_reckonLength_0 rfl rfl 0 rfl ?_
  refine z_getR F fl_283 k0 dX10_reckonLength_1 rfl ?_
  refine z_lconst (v := 0) F dX10_reckonLength_4 rfl rfl ?_
  refine z_lconst (v := 1) F dX10_reckonLength_5 rfl rfl ?_
  refine z_cVv (As := [.long (i6 0), .long (i6 1)]) (st := []) F (c_X4_become l g (tk_10_1 k0) hw) cv_X4_become w_665 ⟨rfl, rfl, Nat.le_of_ble_eq_true rfl, Nat.le_of_ble_eq_true rfl⟩ (tk_10_1 k0) rfl rfl (Nat.le_of_ble_eq_true rfl) dX10_reckonLength_6 rfl (fun M6 hw => ?_)
  refine z_iconst F dX10_reckonLength_9 rfl ?_
  refine z_istore_n F dX10_reckonLength_10 rfl rfl (by decide) rfl ?_
  refine z_sub [1, 2, 0] rfl ?_
  exact lp_X10_reckonLength_11 F hr k0 hw
theorem cv_X10_reckonLength : CV yX10_reckonLength RX10 cX10_reckonLength 3 none 1 := ⟨w_704, w_705, w_73, w_706, rfl, by decide +kernel, by decide +kernel, by decide +kernel⟩
abbrev rm_X10_reckonSpread : Room := { frames := 2, cells := 0, slots := 0, locals := 58 }
def wp_X10_reckonSpread_B11 (a0 : Nat) (Q : Mem → Prop) (K11 : Mem → Int → Prop) (M : Mem) (x1 : Int) (x2 : Int) : Prop :=
  (((w32 x1 ≤ w32 x2) → (
    wp_X4_divide (rt a0 2) (rt a0 0) M (fun M117 =>
    Q M117))) ∧
  (¬ (w32 x1 ≤ w32 x2) → (
    wp_X4_become_ (rt a0 5) (rt a0 1) M (fun M24 =>
    wp_X4_negate (rt a0 5) M24 (fun M31 =>
    wp_X4_become (rt a0 6) (w32 (x2 + 1)) 1 M31 (fun M43 =>
    wp_X4_add (rt a0 6) (rt a0 5) M43 (fun M54 =>
    wp_X4_become_ (rt a0 5) (rt a0 6) M54 (fun M65 =>
    wp_X4_multiply (rt a0 5) (rt a0 6) M65 (fun M76 =>
    inb (rt a0 3) x2 ∧ (
    wp_X4_multiply (rt a0 5) (rt (rt a0 3) (ix x2)) M76 (fun M89 =>
    wp_X4_add (rt a0 2) (rt a0 5) M89 (fun M100 =>
    K11 M100 (x2 + 1)))))))))))))
def wp_X10_reckonSpread_L11 (a0 : Nat) (Q : Mem → Prop) (M : Mem) (x1 : Int) (x2 : Int) : Prop :=
  ∃ (I : Mem → Int → Prop) (μ : Mem → Int → Nat), I M x2 ∧ ∀ (M : Mem) (x2 : Int), I M x2 →
    wp_X10_reckonSpread_B11 a0 Q (fun M' x2' => I M' x2' ∧ μ M' x2' < μ M x2) M x1 x2
def wp_X10_reckonSpread (a0 : Nat) (a1 : Int) (M : Mem) (Q : Mem → Prop) : Prop :=
  wp_X4_become (rt a0 2) 0 1 M (fun M6 =>
  wp_X10_reckonSpread_L11 a0 Q M6 a1 0)
set_option maxRecDepth 100000 in
set_option maxHeartbeats 4000000 in
theorem bk_X10_reckonSpread_B11 {g : En} {p : Program} {l : Launch} {e : Env} {s : State} {m : MethodId} {args : Array Value} {below : List Frame} {meth : Method} {c : Code} {M : Mem} {a0 : Nat} {Q : Mem → Prop} {K11 : Mem → Int → Prop} {x1 : Int} {x2 : Int} (F : Fx g p s m args meth c cX10_reckonSpread 3 RX10) (hr : meth.sig.returnType = none) (k0 : kd a0 = 10)
    (hK11 : ∀ (M' : Mem) (x2' : Int), K11 M' x2' → Z g p l e rm_X10_reckonSpread s m args below meth c 3 (MQ below (va_Qv (S := Mem) Q (fun u => Rp g u) (aR g)) args s 0 0 (aR g)) M' 11 [(0, .ref (g.2.2.1 + a0)), (1, .int (i3 x1)), (2, .int (i3 x2'))] [])
    (hw : wp_X10_reckonSpread_B11 a0 Q K11 M x1 x2) : Z g p l e rm_X10_reckonSpread s m args below meth c 3 (MQ below (va_Qv (S := Mem) Q (fun u => Rp g u) (aR g)) args s 0 0 (aR g)) M 11 [(0, .ref (g.2.2.1 + a0)), (1, .int (i3 x1)), (2, .int (i3 x2))] [] := by
  refine z_iload_n F dX10_reckonSpread_11 rfl rfl 2 rfl ?_
  refine z_iload_n F dX10_reckonSpread_12 rfl rfl 1 rfl ?_
  refine z_icmp_ge F dX10_reckonSpread_13 rfl rfl hw (fun hw => ?_) (fun hw => ?_)
  · refine z_aload_n F dX10_reckonSpread_109 rfl rfl 0 rfl ?_
    refine z_getR F fl_285 k0 dX10_reckonSpread_110 rfl ?_
    refine z_aload_n F dX10_reckonSpread_113 rfl rfl 0 rfl ?_
    refine z_getR F fl_281 k0 dX10_reckonSpread_114 rfl ?_
    refine z_cVv (As := [.ref (g.2.2.1 + (rt a0 0))]) (st := []) F (c_X4_divide l g (tk_10_2 k0) (tk_10_0 k0) hw) cv_X4_divide w_680 ⟨rfl, rfl, Nat.le_of_ble_eq_true rfl, Nat.le_of_ble_eq_true rfl⟩ (tk_10_2 k0) rfl rfl (Nat.le_of_ble_eq_true rfl) dX10_reckonSpread_117 rfl (fun M117 hw => ?_)
    exact z_vret F hr dX10_reckonSpread_120 hw
  · refine z_aload_n F dX10_reckonSpread_16 rfl rfl 0 rfl ?_
    refine z_getR F fl_289 k0 dX10_reckonSpread_17 rfl ?_
    refine z_aload_n F dX10_reckonSpread_20 rfl rfl 0 rfl ?_
    refine z_getR F fl_283 k0 dX10_reckonSpread_21 rfl ?_
    refine z_cVv (As := [.ref (g.2.2.1 + (rt a0 1))]) (st := []) F (c_X4_become_ l g (tk_10_5 k0) (tk_10_1 k0) hw) cv_X4_become_ w_715 ⟨rfl, rfl, Nat.le_of_ble_eq_true rfl, Nat.le_of_ble_eq_true rfl⟩ (tk_10_5 k0) rfl rfl (Nat.le_of_ble_eq_true rfl) dX10_reckonSpread_24 rfl (fun M24 hw => ?_)
    refine z_aload_n F dX10_reckonSpread_27 rfl rfl 0 rfl ?_
    refine z_getR F fl_289 k0 dX10_reckonSpread_28 rfl ?_
    refine z_cVv (As := []) (st := []) F (c_X4_negate l g (tk_10_5 k0) hw) cv_X4_negate w_719 ⟨rfl, rfl, Nat.le_of_ble_eq_true rfl, Nat.le_of_ble_eq_true rfl⟩ (tk_10_5 k0) rfl rfl (Nat.le_of_ble_eq_true rfl) dX10_reckonSpread_31 rfl (fun M31 hw => ?_)
    refine z_aload_n F dX10_reckonSpread_34 rfl rfl 0 rfl ?_
    refine z_getR F fl_290 k0 dX10_reckonSpread_35 rfl ?_
    refine z_iload_n F dX10_reckonSpread_38 rfl rfl 2 rfl ?_
    refine z_iconst F dX10_reckonSpread_39 rfl ?_
    refine z_iadd F dX10_reckonSpread_40 rfl ?_
    refine z_i2l F dX10_reckonSpread_41 rfl ?_
    refine z_lconst (v := 1) F dX10_reckonSpread_42 rfl rfl ?_
    refine z_cVv (As := [.long (i6 (w32 (x2 + 1))), .long (i6 1)]) (st := []) F (c_X4_become l g (tk_10_6 k0) hw) cv_X4_become w_665 ⟨rfl, rfl, Nat.le_of_ble_eq_true rfl, Nat.le_of_ble_eq_true rfl⟩ (tk_10_6 k0) rfl rfl (Nat.le_of_ble_eq_true rfl) dX10_reckonSpread_43 rfl (fun M43 hw => ?_)
    refine z_aload_n F dX10_reckonSpread_46 rfl rfl 0 rfl ?_
    refine z_getR F fl_290 k0 dX10_reckonSpread_47 rfl ?_
    refine z_aload_n F dX10_reckonSpread_50 rfl rfl 0 rfl ?_
    refine z_getR F fl_289 k0 dX10_reckonSpread_51 rfl ?_
    refine z_cVv (As := [.ref (g.2.2.1 + (rt a0 5))]) (st := []) F (c_X4_add l g (tk_10_6 k0) (tk_10_5 k0) hw) cv_X4_add w_688 ⟨rfl, rfl, Nat.le_of_ble_eq_true rfl, Nat.le_of_ble_eq_true rfl⟩ (tk_10_6 k0) rfl rfl (Nat.le_of_ble_eq_true rfl) dX10_reckonSpread_54 rfl (fun M54 hw => ?_)
    refine z_aload_n F dX10_reckonSpread_57 rfl rfl 0 rfl ?_
    refine z_getR F fl_289 k0 dX10_reckonSpread_58 rfl ?_
    refine z_aload_n F dX10_reckonSpread_61 rfl rfl 0 rfl ?_
    refine z_getR F fl_290 k0 dX10_reckonSpread_62 rfl ?_
    refine z_cVv (As := [.ref (g.2.2.1 + (rt a0 6))]) (st := []) F (c_X4_become_ l g (tk_10_5 k0) (tk_10_6 k0) hw) cv_X4_become_ w_715 ⟨rfl, rfl, Nat.le_of_ble_eq_true rfl, Nat.le_of_ble_eq_true rfl⟩ (tk_10_5 k0) rfl rfl (Nat.le_of_ble_eq_true rfl) dX10_reckonSpread_65 rfl (fun M65 hw => ?_)
    refine z_aload_n F dX10_reckonSpread_68 rfl rfl 0 rfl ?_
    refine z_getR F fl_289 k0 dX10_reckonSpread_69 rfl ?_
    refine z_aload_n F dX10_reckonSpread_72 rfl rfl 0 rfl ?_
    refine z_getR F fl_290 k0 dX10_reckonSpread_73 rfl ?_
    refine z_cVv (As := [.ref (g.2.2.1 + (rt a0 6))]) (st := []) F (c_X4_multiply l g (tk_10_5 k0) (tk_10_6 k0) hw) cv_X4_multiply w_707 ⟨rfl, rfl, Nat.le_of_ble_eq_true rfl, Nat.le_of_ble_eq_true rfl⟩ (tk_10_5 k0) rfl rfl (Nat.le_of_ble_eq_true rfl) dX10_reckonSpread_76 rfl (fun M76 hw => ?_)
    refine z_aload_n F dX10_reckonSpread_79 rfl rfl 0 rfl ?_
    refine z_getR F fl_289 k0 dX10_reckonSpread_80 rfl ?_
    refine z_aload_n F dX10_reckonSpread_83 rfl rfl 0 rfl ?_
    refine z_getR F fl_287 k0 dX10_reckonSpread_84 rfl ?_
    refine z_iload_n F dX10_reckonSpread_87 rfl rfl 2 rfl ?_
    have n88 := hw.1
    refine z_aald F 1 (tk_10_3 k0) rfl rfl dX10_reckonSpread_88 rfl hw (fun hw => ?_)
    refine z_cVv (As := [.ref (g.2.2.1 + (rt (rt a0 3) (ix x2)))]) (st := []) F (c_X4_multiply l g (tk_10_5 k0) (tka_16 (tk_10_3 k0) n88) hw) cv_X4_multiply w_707 ⟨rfl, rfl, Nat.le_of_ble_eq_true rfl, Nat.le_of_ble_eq_true rfl⟩ (tk_10_5 k0) rfl rfl (Nat.le_of_ble_eq_true rfl) dX10_reckonSpread_89 rfl (fun M89 hw => ?_)
    refine z_aload_n F dX10_reckonSpread_92 rfl rfl 0 rfl ?_
    refine z_getR F fl_285 k0 dX10_reckonSpread_93 rfl ?_
    refine z_aload_n F dX10_reckonSpread_96 rfl rfl 0 rfl ?_
    refine z_getR F fl_289 k0 dX10_reckonSpread_97 rfl ?_
    refine z_cVv (As := [.ref (g.2.2.1 + (rt a0 5))]) (st := []) F (c_X4_add l g (tk_10_2 k0) (tk_10_5 k0) hw) cv_X4_add w_688 ⟨rfl, rfl, Nat.le_of_ble_eq_true rfl, Nat.le_of_ble_eq_true rfl⟩ (tk_10_2 k0) rfl rfl (Nat.le_of_ble_eq_true rfl) dX10_reckonSpread_100 rfl (fun M100 hw => ?_)
    refine z_iinc F dX10_reckonSpread_103 rfl 2 rfl (by decide) rfl ?_
    refine z_goto F dX10_reckonSpread_106 rfl ?_
    refine z_sub [1, 2, 0] rfl ?_
    exact hK11 M100 (x2 + 1) hw
set_option maxRecDepth 100000 in
set_option maxHeartbeats 4000000 in
theorem lp_X10_reckonSpread_11 {g : En} {p : Program} {l : Launch} {e : Env} {s : State} {m : MethodId} {args : Array Value} {below : List Frame} {meth : Method} {c : Code} {M : Mem} {a0 : Nat} {Q : Mem → Prop} {x1 : Int} {x2 : Int} (F : Fx g p s m args meth c cX10_reckonSpread 3 RX10) (hr : meth.sig.returnType = none) (k0 : kd a0 = 10)
    (hw : wp_X10_reckonSpread_L11 a0 Q M x1 x2) : Z g p l e rm_X10_reckonSpread s m args below meth c 3 (MQ below (va_Qv (S := Mem) Q (fun u => Rp g u) (aR g)) args s 0 0 (aR g)) M 11 [(0, .ref (g.2.2.1 + a0)), (1, .int (i3 x1)), (2, .int (i3 x2))] [] := by
  obtain ⟨I, μ, h0, hb⟩ := hw
  have key : ∀ (n : Nat) (M : Mem) (x2 : Int), I M x2 → μ M x2 < n → Z g p l e rm_X10_reckonSpread s m args below meth c 3 (MQ below (va_Qv (S := Mem) Q (fun u => Rp g u) (aR g)) args s 0 0 (aR g)) M 11 [(0, .ref (g.2.2.1 + a0)), (1, .int (i3 x1)), (2, .int (i3 x2))] [] := by
    intro n
    induction n with
    | zero => exact fun _ _ _ h => absurd h (Nat.not_lt_zero _)
    | succ n ih =>
      intro M x2 hI hn
      exact bk_X10_reckonSpread_B11 F hr k0 (fun M' x2' hk => ih M' x2' hk.1 (Nat.lt_of_lt_of_le hk.2 (Nat.le_of_lt_succ hn))) (hb M x2 hI)
  exact key _ M x2 h0 (Nat.lt_succ_self _)
set_option maxRecDepth 100000 in
set_option maxHeartbeats 4000000 in
theorem c_X10_reckonSpread (l : Launch) (g : En) {a0 : Nat} {a1 : Int} {M : Mem} {Q : Mem → Prop} (k0 : kd a0 = 10) (hw : wp_X10_reckonSpread a0 a1 M Q) :
    Met l yX10_reckonSpread (WS yX10_reckonSpread cX10_reckonSpread 3 none) rm_X10_reckonSpread (va_Pc [.ref (g.2.2.1 + a0), .int (i3 a1)] (Rp g M)) (va_Qv (S := Mem) Q (fun u => Rp g u) (aR g)) 0 0 (aR g) := by
  refine met_Z (plainFor_of_name rfl) (Nat.le_of_ble_eq_true rfl) ?_
  intro p e s m args below meth c F hr _
  show Z g p l e rm_X10_reckonSpread s m args below meth c 3 (MQ below (va_Qv (S := Mem) Q (fun u => Rp g u) (aR g)) args s 0 0 (aR g)) M 0 [(0, .ref (g.2.2.1 + a0)), (1, .int (i3 a1))] []
  refine z_aload_n F dX10_reckonSpread_0 rfl rfl 0 rfl ?_
  refine z_getR F fl_285 k0 dX10_reckonSpread_1 rfl ?_
  refine z_lconst (v := 0) F dX10_reckonSpread_4 rfl rfl ?_
  refine z_lconst (v := 1) F dX10_reckonSpread_5 rfl rfl ?_
  refine z_cVv (As := [.long (i6 0), .long (i6 1)]) (st := []) F (c_X4_become l g (tk_10_2 k0) hw) cv_X4_become w_665 ⟨rfl, rfl, Nat.le_of_ble_eq_true rfl, Nat.le_of_ble_eq_true rfl⟩ (tk_10_2 k0) rfl rfl (Nat.le_of_ble_eq_true rfl) dX10_reckonSpread_6 rfl (fun M6 hw => ?_)
  refine z_iconst F dX10_reckonSpread_9 rfl ?_
  refine z_istore_n F dX10_reckonSpread_10 rfl rfl (by decide) rfl ?_
  refine z_sub [1, 2, 0] rfl ?_
  exact lp_X10_reckonSpread_11 F hr k0 hw
theorem cv_X10_reckonSpread : CV yX10_reckonSpread RX10 cX10_reckonSpread 3 none 1 := ⟨w_712, w_713, w_73, w_714, rfl, by decide +kernel, by decide +kernel, by decide +kernel⟩
abbrev rm_X11_within : Room := { frames := 0, cells := 0, slots := 0, locals := 0 }
def wp_X11_within (a0 : Int) (a1 : Int) (a2 : Int) (M : Mem) (Q : Bool → Prop) : Prop :=
  (((w32 a0 < w32 a1) → (
    Q false)) ∧
  (¬ (w32 a0 < w32 a1) → (
    (((w32 a2 < w32 a0) → (
      Q false)) ∧
    (¬ (w32 a2 < w32 a0) → (
      Q true))))))
set_option maxRecDepth 100000 in
set_option maxHeartbeats 4000000 in
theorem c_X11_within (l : Launch) (g : En) {a0 : Int} {a1 : Int} {a2 : Int} {M : Mem} {Q : Bool → Prop} (hw : wp_X11_within a0 a1 a2 M Q) :
    Met l yX11_within (WS yX11_within cX11_within 3 (some .boolean)) rm_X11_within (va_Pc [.int (i3 a0), .int (i3 a1), .int (i3 a2)] (Rp g M)) (va_Qi (S := Bool × Mem) (fun r u => r = i3 (bz u.1) ∧ (u.2 = M ∧ Q u.1)) (fun u => Rp g u.2) (aR g)) 0 0 (aR g) := by
  refine met_Z (plainFor_of_name rfl) (Nat.le_of_ble_eq_true rfl) ?_
  intro p e s m args below meth c F hr _
  show Z g p l e rm_X11_within s m args below meth c 3 (MQ below (va_Qi (S := Bool × Mem) (fun r u => r = i3 (bz u.1) ∧ (u.2 = M ∧ Q u.1)) (fun u => Rp g u.2) (aR g)) args s 0 0 (aR g)) M 0 [(0, .int (i3 a0)), (1, .int (i3 a1)), (2, .int (i3 a2))] []
  refine z_iload_n F dX11_within_0 rfl rfl 0 rfl ?_
  refine z_iload_n F dX11_within_1 rfl rfl 1 rfl ?_
  refine z_icmp_lt F dX11_within_2 rfl rfl hw (fun hw => ?_) (fun hw => ?_)
  · refine z_iconst F dX11_within_14 rfl ?_
    exact z_zretp (x := false) F hr dX11_within_15 hw
  · refine z_iload_n F dX11_within_5 rfl rfl 0 rfl ?_
    refine z_iload_n F dX11_within_6 rfl rfl 2 rfl ?_
    refine z_icmp_gt F dX11_within_7 rfl rfl hw (fun hw => ?_) (fun hw => ?_)
    · refine z_iconst F dX11_within_14 rfl ?_
      exact z_zretp (x := false) F hr dX11_within_15 hw
    · refine z_iconst F dX11_within_10 rfl ?_
      refine z_goto F dX11_within_11 rfl ?_
      exact z_zretp (x := true) F hr dX11_within_15 hw
theorem cs_X11_within : CS yX11_within cX11_within 3 (some .boolean) 3 := ⟨w_508, w_67, w_509, by decide +kernel, by decide +kernel, by decide +kernel⟩
abbrev rm_X11_isDay : Room := { frames := 1, cells := 0, slots := 0, locals := 22 }
def wp_X11_isDay (a0 : Int) (M : Mem) (Q : Bool → Prop) : Prop :=
  wp_X11_within a0 1 60 M (fun r4 =>
  Q r4)
set_option maxRecDepth 100000 in
set_option maxHeartbeats 4000000 in
theorem c_X11_isDay (l : Launch) (g : En) {a0 : Int} {M : Mem} {Q : Bool → Prop} (hw : wp_X11_isDay a0 M Q) :
    Met l yX11_isDay (WS yX11_isDay cX11_isDay 1 (some .boolean)) rm_X11_isDay (va_Pc [.int (i3 a0)] (Rp g M)) (va_Qi (S := Bool × Mem) (fun r u => r = i3 (bz u.1) ∧ (u.2 = M ∧ Q u.1)) (fun u => Rp g u.2) (aR g)) 0 0 (aR g) := by
  refine met_Z (plainFor_of_name rfl) (Nat.le_of_ble_eq_true rfl) ?_
  intro p e s m args below meth c F hr _
  show Z g p l e rm_X11_isDay s m args below meth c 1 (MQ below (va_Qi (S := Bool × Mem) (fun r u => r = i3 (bz u.1) ∧ (u.2 = M ∧ Q u.1)) (fun u => Rp g u.2) (aR g)) args s 0 0 (aR g)) M 0 [(0, .int (i3 a0))] []
  refine z_iload_n F dX11_isDay_0 rfl rfl 0 rfl ?_
  refine z_iconst F dX11_isDay_1 rfl ?_
  refine z_bipush F dX11_isDay_2 (by decide) rfl ?_
  refine z_cSbp (As := [.int (i3 a0), .int (i3 1), .int (i3 60)]) (st := []) F (c_X11_within l g hw) cs_X11_within w_507 ⟨rfl, rfl, Nat.le_of_ble_eq_true rfl, Nat.le_of_ble_eq_true rfl⟩ rfl (Nat.le_of_ble_eq_true rfl) dX11_isDay_4 rfl (fun r4 hw => ?_)
  exact z_zretp (x := r4) F hr dX11_isDay_7 hw
theorem cs_X11_isDay : CS yX11_isDay cX11_isDay 1 (some .boolean) 1 := ⟨w_505, w_67, w_506, by decide +kernel, by decide +kernel, by decide +kernel⟩
abbrev rm_X11_due : Room := { frames := 2, cells := 0, slots := 0, locals := 45 }
def wp_X11_due (a0 : Nat) (a1 : Int) (a2 : Int) (M : Mem) (Q : Int → Mem → Prop) : Prop :=
  wp_X11_isDay a1 M (fun r1 =>
  ((r1 = false → (
    Q (-2) M)) ∧
  (r1 = true → (
    wp_X11_within a2 0 99 M (fun r11 =>
    ((r11 = true → (
      ∀ M22 : Mem, M22 = st2 M a0 5 (bz true) →
      wp_X2_tell (rt (rt a0 0) 0) a1 a2 M22 (fun r34 M34 =>
      Q r34 M34))) ∧
    (r11 = false → (
      Q (-2) M))))))))
set_option maxRecDepth 100000 in
set_option maxHeartbeats 4000000 in
theorem c_X11_due (l : Launch) (g : En) {a0 : Nat} {a1 : Int} {a2 : Int} {M : Mem} {Q : Int → Mem → Prop} (k0 : kd a0 = 11) (hw : wp_X11_due a0 a1 a2 M Q) :
    Met l yX11_due (WS yX11_due cX11_due 3 (some .int)) rm_X11_due (va_Pc [.ref (g.2.2.1 + a0), .int (i3 a1), .int (i3 a2)] (Rp g M)) (va_Qi (S := Int × Mem) (fun r u => r = i3 u.1 ∧ Q u.1 u.2) (fun u => Rp g u.2) (aR g)) 0 0 (aR g) := by
  refine met_Z (plainFor_of_name rfl) (Nat.le_of_ble_eq_true rfl) ?_
  intro p e s m args below meth c F hr _
  show Z g p l e rm_X11_due s m args below meth c 3 (MQ below (va_Qi (S := Int × Mem) (fun r u => r = i3 u.1 ∧ Q u.1 u.2) (fun u => Rp g u.2) (aR g)) args s 0 0 (aR g)) M 0 [(0, .ref (g.2.2.1 + a0)), (1, .int (i3 a1)), (2, .int (i3 a2))] []
  refine z_iload_n F dX11_due_0 rfl rfl 1 rfl ?_
  refine z_cSbp (As := [.int (i3 a1)]) (st := []) F (c_X11_isDay l g hw) cs_X11_isDay w_504 ⟨rfl, rfl, Nat.le_of_ble_eq_true rfl, Nat.le_of_ble_eq_true rfl⟩ rfl (Nat.le_of_ble_eq_true rfl) dX11_due_1 rfl (fun r1 hw => ?_)
  refine z_ifb_eq F dX11_due_4 rfl rfl hw (fun hw => ?_) (fun hw => ?_)
  · refine z_bipush F dX11_due_17 (by decide) rfl ?_
    exact z_iret (x := (-2)) F hr dX11_due_19 hw
  · refine z_iload_n F dX11_due_7 rfl rfl 2 rfl ?_
    refine z_iconst F dX11_due_8 rfl ?_
    refine z_bipush F dX11_due_9 (by decide) rfl ?_
    refine z_cSbp (As := [.int (i3 a2), .int (i3 0), .int (i3 99)]) (st := []) F (c_X11_within l g hw) cs_X11_within w_507 ⟨rfl, rfl, Nat.le_of_ble_eq_true rfl, Nat.le_of_ble_eq_true rfl⟩ rfl (Nat.le_of_ble_eq_true rfl) dX11_due_11 rfl (fun r11 hw => ?_)
    refine z_ifb_ne F dX11_due_14 rfl rfl hw (fun hw => ?_) (fun hw => ?_)
    · refine z_aload_n F dX11_due_20 rfl rfl 0 rfl ?_
      refine z_iconst F dX11_due_21 rfl ?_
      refine z_putB (r := true) F fp_450 k0 dX11_due_22 rfl ?_
      refine z_nmM (fun M22 eM22 => ?_)
      have hw := hw M22 eM22
      refine z_aload_n F dX11_due_25 rfl rfl 0 rfl ?_
      refine z_getR F fl_445 k0 dX11_due_26 rfl ?_
      refine z_getR F fl_156 (tk_11_0 k0) dX11_due_29 rfl ?_
      refine z_iload_n F dX11_due_32 rfl rfl 1 rfl ?_
      refine z_iload_n F dX11_due_33 rfl rfl 2 rfl ?_
      refine z_cVi (As := [.int (i3 a1), .int (i3 a2)]) (st := []) F (c_X2_tell l g (tk_1_0 (tk_11_0 k0)) hw) cv_X2_tell w_510 ⟨rfl, rfl, Nat.le_of_ble_eq_true rfl, Nat.le_of_ble_eq_true rfl⟩ (tk_1_0 (tk_11_0 k0)) rfl rfl (Nat.le_of_ble_eq_true rfl) dX11_due_34 rfl (fun r34 M34 hw => ?_)
      exact z_iret (x := r34) F hr dX11_due_37 hw
    · refine z_bipush F dX11_due_17 (by decide) rfl ?_
      exact z_iret (x := (-2)) F hr dX11_due_19 hw
theorem cv_X11_due : CV yX11_due RX11 cX11_due 3 (some .int) 2 := ⟨w_501, w_502, w_67, w_503, rfl, by decide +kernel, by decide +kernel, by decide +kernel⟩
abbrev rm_X11_rate : Room := { frames := 2, cells := 0, slots := 0, locals := 45 }
def wp_X11_rate (a0 : Nat) (a1 : Int) (a2 : Int) (M : Mem) (Q : Int → Mem → Prop) : Prop :=
  wp_X11_isDay a1 M (fun r1 =>
  ((r1 = false → (
    Q (-2) M)) ∧
  (r1 = true → (
    wp_X11_within a2 (-1) 3 M (fun r10 =>
    ((r10 = true → (
      ∀ M21 : Mem, M21 = st2 M a0 5 (bz true) →
      wp_X2_tell (rt (rt a0 0) 1) a1 a2 M21 (fun r33 M33 =>
      Q r33 M33))) ∧
    (r10 = false → (
      Q (-2) M))))))))
set_option maxRecDepth 100000 in
set_option maxHeartbeats 4000000 in
theorem c_X11_rate (l : Launch) (g : En) {a0 : Nat} {a1 : Int} {a2 : Int} {M : Mem} {Q : Int → Mem → Prop} (k0 : kd a0 = 11) (hw : wp_X11_rate a0 a1 a2 M Q) :
    Met l yX11_rate (WS yX11_rate cX11_rate 3 (some .int)) rm_X11_rate (va_Pc [.ref (g.2.2.1 + a0), .int (i3 a1), .int (i3 a2)] (Rp g M)) (va_Qi (S := Int × Mem) (fun r u => r = i3 u.1 ∧ Q u.1 u.2) (fun u => Rp g u.2) (aR g)) 0 0 (aR g) := by
  refine met_Z (plainFor_of_name rfl) (Nat.le_of_ble_eq_true rfl) ?_
  intro p e s m args below meth c F hr _
  show Z g p l e rm_X11_rate s m args below meth c 3 (MQ below (va_Qi (S := Int × Mem) (fun r u => r = i3 u.1 ∧ Q u.1 u.2) (fun u => Rp g u.2) (aR g)) args s 0 0 (aR g)) M 0 [(0, .ref (g.2.2.1 + a0)), (1, .int (i3 a1)), (2, .int (i3 a2))] []
  refine z_iload_n F dX11_rate_0 rfl rfl 1 rfl ?_
  refine z_cSbp (As := [.int (i3 a1)]) (st := []) F (c_X11_isDay l g hw) cs_X11_isDay w_504 ⟨rfl, rfl, Nat.le_of_ble_eq_true rfl, Nat.le_of_ble_eq_true rfl⟩ rfl (Nat.le_of_ble_eq_true rfl) dX11_rate_1 rfl (fun r1 hw => ?_)
  refine z_ifb_eq F dX11_rate_4 rfl rfl hw (fun hw => ?_) (fun hw => ?_)
  · refine z_bipush F dX11_rate_16 (by decide) rfl ?_
    exact z_iret (x := (-2)) F hr dX11_rate_18 hw
  · refine z_iload_n F dX11_rate_7 rfl rfl 2 rfl ?_
    refine z_iconst F dX11_rate_8 rfl ?_
    refine z_iconst F dX11_rate_9 rfl ?_
    refine z_cSbp (As := [.int (i3 a2), .int (i3 (-1)), .int (i3 3)]) (st := []) F (c_X11_within l g hw) cs_X11_within w_507 ⟨rfl, rfl, Nat.le_of_ble_eq_true rfl, Nat.le_of_ble_eq_true rfl⟩ rfl (Nat.le_of_ble_eq_true rfl) dX11_rate_10 rfl (fun r10 hw => ?_)
    refine z_ifb_ne F dX11_rate_13 rfl rfl hw (fun hw => ?_) (fun hw => ?_)
    · refine z_aload_n F dX11_rate_19 rfl rfl 0 rfl ?_
      refine z_iconst F dX11_rate_20 rfl ?_
      refine z_putB (r := true) F fp_450 k0 dX11_rate_21 rfl ?_
      refine z_nmM (fun M21 eM21 => ?_)
      have hw := hw M21 eM21
      refine z_aload_n F dX11_rate_24 rfl rfl 0 rfl ?_
      refine z_getR F fl_445 k0 dX11_rate_25 rfl ?_
      refine z_getR F fl_160 (tk_11_0 k0) dX11_rate_28 rfl ?_
      refine z_iload_n F dX11_rate_31 rfl rfl 1 rfl ?_
      refine z_iload_n F dX11_rate_32 rfl rfl 2 rfl ?_
      refine z_cVi (As := [.int (i3 a1), .int (i3 a2)]) (st := []) F (c_X2_tell l g (tk_1_1 (tk_11_0 k0)) hw) cv_X2_tell w_510 ⟨rfl, rfl, Nat.le_of_ble_eq_true rfl, Nat.le_of_ble_eq_true rfl⟩ (tk_1_1 (tk_11_0 k0)) rfl rfl (Nat.le_of_ble_eq_true rfl) dX11_rate_33 rfl (fun r33 M33 hw => ?_)
      exact z_iret (x := r33) F hr dX11_rate_36 hw
    · refine z_bipush F dX11_rate_16 (by decide) rfl ?_
      exact z_iret (x := (-2)) F hr dX11_rate_18 hw
theorem cv_X11_rate : CV yX11_rate RX11 cX11_rate 3 (some .int) 2 := ⟨w_519, w_520, w_67, w_521, rfl, by decide +kernel, by decide +kernel, by decide +kernel⟩
abbrev rm_X11_limit : Room := { frames := 2, cells := 0, slots := 0, locals := 45 }
def wp_X11_limit (a0 : Nat) (a1 : Int) (a2 : Int) (M : Mem) (Q : Int → Mem → Prop) : Prop :=
  wp_X11_isDay a1 M (fun r1 =>
  ((r1 = false → (
    Q (-2) M)) ∧
  (r1 = true → (
    wp_X11_within a2 (-1) 99 M (fun r11 =>
    ((r11 = true → (
      ∀ M22 : Mem, M22 = st2 M a0 5 (bz true) →
      wp_X2_tell (rt (rt a0 0) 2) a1 a2 M22 (fun r34 M34 =>
      Q r34 M34))) ∧
    (r11 = false → (
      Q (-2) M))))))))
set_option maxRecDepth 100000 in
set_option maxHeartbeats 4000000 in
theorem c_X11_limit (l : Launch) (g : En) {a0 : Nat} {a1 : Int} {a2 : Int} {M : Mem} {Q : Int → Mem → Prop} (k0 : kd a0 = 11) (hw : wp_X11_limit a0 a1 a2 M Q) :
    Met l yX11_limit (WS yX11_limit cX11_limit 3 (some .int)) rm_X11_limit (va_Pc [.ref (g.2.2.1 + a0), .int (i3 a1), .int (i3 a2)] (Rp g M)) (va_Qi (S := Int × Mem) (fun r u => r = i3 u.1 ∧ Q u.1 u.2) (fun u => Rp g u.2) (aR g)) 0 0 (aR g) := by
  refine met_Z (plainFor_of_name rfl) (Nat.le_of_ble_eq_true rfl) ?_
  intro p e s m args below meth c F hr _
  show Z g p l e rm_X11_limit s m args below meth c 3 (MQ below (va_Qi (S := Int × Mem) (fun r u => r = i3 u.1 ∧ Q u.1 u.2) (fun u => Rp g u.2) (aR g)) args s 0 0 (aR g)) M 0 [(0, .ref (g.2.2.1 + a0)), (1, .int (i3 a1)), (2, .int (i3 a2))] []
  refine z_iload_n F dX11_limit_0 rfl rfl 1 rfl ?_
  refine z_cSbp (As := [.int (i3 a1)]) (st := []) F (c_X11_isDay l g hw) cs_X11_isDay w_504 ⟨rfl, rfl, Nat.le_of_ble_eq_true rfl, Nat.le_of_ble_eq_true rfl⟩ rfl (Nat.le_of_ble_eq_true rfl) dX11_limit_1 rfl (fun r1 hw => ?_)
  refine z_ifb_eq F dX11_limit_4 rfl rfl hw (fun hw => ?_) (fun hw => ?_)
  · refine z_bipush F dX11_limit_17 (by decide) rfl ?_
    exact z_iret (x := (-2)) F hr dX11_limit_19 hw
  · refine z_iload_n F dX11_limit_7 rfl rfl 2 rfl ?_
    refine z_iconst F dX11_limit_8 rfl ?_
    refine z_bipush F dX11_limit_9 (by decide) rfl ?_
    refine z_cSbp (As := [.int (i3 a2), .int (i3 (-1)), .int (i3 99)]) (st := []) F (c_X11_within l g hw) cs_X11_within w_507 ⟨rfl, rfl, Nat.le_of_ble_eq_true rfl, Nat.le_of_ble_eq_true rfl⟩ rfl (Nat.le_of_ble_eq_true rfl) dX11_limit_11 rfl (fun r11 hw => ?_)
    refine z_ifb_ne F dX11_limit_14 rfl rfl hw (fun hw => ?_) (fun hw => ?_)
    · refine z_aload_n F dX11_limit_20 rfl rfl 0 rfl ?_
      refine z_iconst F dX11_limit_21 rfl ?_
      refine z_putB (r := true) F fp_450 k0 dX11_limit_22 rfl ?_
      refine z_nmM (fun M22 eM22 => ?_)
      have hw := hw M22 eM22
      refine z_aload_n F dX11_limit_25 rfl rfl 0 rfl ?_
      refine z_getR F fl_445 k0 dX11_limit_26 rfl ?_
      refine z_getR F fl_162 (tk_11_0 k0) dX11_limit_29 rfl ?_
      refine z_iload_n F dX11_limit_32 rfl rfl 1 rfl ?_
      refine z_iload_n F dX11_limit_33 rfl rfl 2 rfl ?_
      refine z_cVi (As := [.int (i3 a1), .int (i3 a2)]) (st := []) F (c_X2_tell l g (tk_1_2 (tk_11_0 k0)) hw) cv_X2_tell w_510 ⟨rfl, rfl, Nat.le_of_ble_eq_true rfl, Nat.le_of_ble_eq_true rfl⟩ (tk_1_2 (tk_11_0 k0)) rfl rfl (Nat.le_of_ble_eq_true rfl) dX11_limit_34 rfl (fun r34 M34 hw => ?_)
      exact z_iret (x := r34) F hr dX11_limit_37 hw
    · refine z_bipush F dX11_limit_17 (by decide) rfl ?_
      exact z_iret (x := (-2)) F hr dX11_limit_19 hw
theorem cv_X11_limit : CV yX11_limit RX11 cX11_limit 3 (some .int) 2 := ⟨w_523, w_524, w_67, w_525, rfl, by decide +kernel, by decide +kernel, by decide +kernel⟩
abbrev rm_X11_look : Room := { frames := 3, cells := 0, slots := 0, locals := 72 }
def wp_X11_look (a0 : Nat) (M : Mem) (Q : Mem → Prop) : Prop :=
  (((fb M a0 5) = false → (
    Q M)) ∧
  ((fb M a0 5) = true → (
    wp_X8_lay (rt a0 3) (rt a0 0) (rt a0 6) M (fun M19 =>
    ∀ M24 : Mem, M24 = st2 M19 a0 13 (bz false) →
    ∀ M29 : Mem, M29 = st2 M24 a0 5 (bz false) →
    Q M29))))
set_option maxRecDepth 100000 in
set_option maxHeartbeats 4000000 in
theorem c_X11_look (l : Launch) (g : En) {a0 : Nat} {M : Mem} {Q : Mem → Prop} (k0 : kd a0 = 11) (hw : wp_X11_look a0 M Q) :
    Met l yX11_look (WS yX11_look cX11_look 1 none) rm_X11_look (va_Pc [.ref (g.2.2.1 + a0)] (Rp g M)) (va_Qv (S := Mem) Q (fun u => Rp g u) (aR g)) 0 0 (aR g) := by
  refine met_Z (plainFor_of_name rfl) (Nat.le_of_ble_eq_true rfl) ?_
  intro p e s m args below meth c F hr _
  show Z g p l e rm_X11_look s m args below meth c 1 (MQ below (va_Qv (S := Mem) Q (fun u => Rp g u) (aR g)) args s 0 0 (aR g)) M 0 [(0, .ref (g.2.2.1 + a0))] []
  refine z_aload_n F dX11_look_0 rfl rfl 0 rfl ?_
  refine z_getB F fl_450 k0 dX11_look_1 rfl ?_
  refine z_ifb_eq F dX11_look_4 rfl rfl hw (fun hw => ?_) (fun hw => ?_)
  · exact z_vret F hr dX11_look_32 hw
  · refine z_aload_n F dX11_look_7 rfl rfl 0 rfl ?_
    refine z_getR F fl_448 k0 dX11_look_8 rfl ?_
    refine z_aload_n F dX11_look_11 rfl rfl 0 rfl ?_
    refine z_getR F fl_445 k0 dX11_look_12 rfl ?_
    refine z_aload_n F dX11_look_15 rfl rfl 0 rfl ?_
    refine z_getR F fl_451 k0 dX11_look_16 rfl ?_
    refine z_cVv (As := [.ref (g.2.2.1 + (rt a0 0)), .ref (g.2.2.1 + (rt a0 6))]) (st := []) F (c_X8_lay l g (tk_11_3 k0) (tk_11_0 k0) (tk_11_6 k0) hw) cv_X8_lay w_534 ⟨rfl, rfl, Nat.le_of_ble_eq_true rfl, Nat.le_of_ble_eq_true rfl⟩ (tk_11_3 k0) rfl rfl (Nat.le_of_ble_eq_true rfl) dX11_look_19 rfl (fun M19 hw => ?_)
    refine z_aload_n F dX11_look_22 rfl rfl 0 rfl ?_
    refine z_iconst F dX11_look_23 rfl ?_
    refine z_putB (r := false) F fp_458 k0 dX11_look_24 rfl ?_
    refine z_nmM (fun M24 eM24 => ?_)
    have hw := hw M24 eM24
    refine z_aload_n F dX11_look_27 rfl rfl 0 rfl ?_
    refine z_iconst F dX11_look_28 rfl ?_
    refine z_putB (r := false) F fp_450 k0 dX11_look_29 rfl ?_
    refine z_nmM (fun M29 eM29 => ?_)
    have hw := hw M29 eM29
    exact z_vret F hr dX11_look_32 hw
theorem cv_X11_look : CV yX11_look RX11 cX11_look 1 none 0 := ⟨w_532, w_0, w_67, w_533, rfl, by decide +kernel, by decide +kernel, by decide +kernel⟩
abbrev rm_X11_rung : Room := { frames := 4, cells := 0, slots := 0, locals := 92 }
def wp_X11_rung (a0 : Nat) (a1 : Int) (a2 : Int) (M : Mem) (Q : Int → Mem → Prop) : Prop :=
  wp_X11_within a2 0 3 M (fun r3 =>
  ((r3 = true → (
    wp_X11_look a0 M (fun M13 =>
    wp_X8_hasRung (rt a0 3) a1 M13 (fun r21 =>
    ((r21 = true → (
      ((w32 a2 = 0 → (
        inb (rt (rt a0 3) 1) a1 ∧ (
        Q (M13 (rt (rt a0 3) 1) (ix a1)) M13))) ∧
      (w32 a2 = 1 → (
        inb (rt (rt a0 3) 2) a1 ∧ (
        Q (M13 (rt (rt a0 3) 2) (ix a1)) M13))) ∧
      (w32 a2 = 2 → (
        inb (rt (rt a0 3) 3) a1 ∧ (
        Q (M13 (rt (rt a0 3) 3) (ix a1)) M13))) ∧
      ((w32 a2 < 0 ∨ 2 < w32 a2) → (
        inb (rt (rt a0 3) 4) a1 ∧ (
        Q (M13 (rt (rt a0 3) 4) (ix a1)) M13)))))) ∧
    (r21 = false → (
      Q (-12) M13))))))) ∧
  (r3 = false → (
    Q (-2) M))))
set_option maxRecDepth 100000 in
set_option maxHeartbeats 4000000 in
theorem c_X11_rung (l : Launch) (g : En) {a0 : Nat} {a1 : Int} {a2 : Int} {M : Mem} {Q : Int → Mem → Prop} (k0 : kd a0 = 11) (hw : wp_X11_rung a0 a1 a2 M Q) :
    Met l yX11_rung (WS yX11_rung cX11_rung 3 (some .int)) rm_X11_rung (va_Pc [.ref (g.2.2.1 + a0), .int (i3 a1), .int (i3 a2)] (Rp g M)) (va_Qi (S := Int × Mem) (fun r u => r = i3 u.1 ∧ Q u.1 u.2) (fun u => Rp g u.2) (aR g)) 0 0 (aR g) := by
  refine met_Z (plainFor_of_name rfl) (Nat.le_of_ble_eq_true rfl) ?_
  intro p e s m args below meth c F hr _
  show Z g p l e rm_X11_rung s m args below meth c 3 (MQ below (va_Qi (S := Int × Mem) (fun r u => r = i3 u.1 ∧ Q u.1 u.2) (fun u => Rp g u.2) (aR g)) args s 0 0 (aR g)) M 0 [(0, .ref (g.2.2.1 + a0)), (1, .int (i3 a1)), (2, .int (i3 a2))] []
  refine z_iload_n F dX11_rung_0 rfl rfl 2 rfl ?_
  refine z_iconst F dX11_rung_1 rfl ?_
  refine z_iconst F dX11_rung_2 rfl ?_
  refine z_cSbp (As := [.int (i3 a2), .int (i3 0), .int (i3 3)]) (st := []) F (c_X11_within l g hw) cs_X11_within w_507 ⟨rfl, rfl, Nat.le_of_ble_eq_true rfl, Nat.le_of_ble_eq_true rfl⟩ rfl (Nat.le_of_ble_eq_true rfl) dX11_rung_3 rfl (fun r3 hw => ?_)
  refine z_ifb_ne F dX11_rung_6 rfl rfl hw (fun hw => ?_) (fun hw => ?_)
  · refine z_aload_n F dX11_rung_12 rfl rfl 0 rfl ?_
    refine z_cVv (As := []) (st := []) F (c_X11_look l g k0 hw) cv_X11_look w_530 ⟨rfl, rfl, Nat.le_of_ble_eq_true rfl, Nat.le_of_ble_eq_true rfl⟩ k0 rfl rfl (Nat.le_of_ble_eq_true rfl) dX11_rung_13 rfl (fun M13 hw => ?_)
    refine z_aload_n F dX11_rung_16 rfl rfl 0 rfl ?_
    refine z_getR F fl_448 k0 dX11_rung_17 rfl ?_
    refine z_iload_n F dX11_rung_20 rfl rfl 1 rfl ?_
    refine z_cVbp (As := [.int (i3 a1)]) (st := []) F (c_X8_hasRung l g (tk_11_3 k0) hw) cv_X8_hasRung w_564 ⟨rfl, rfl, Nat.le_of_ble_eq_true rfl, Nat.le_of_ble_eq_true rfl⟩ (tk_11_3 k0) rfl rfl (Nat.le_of_ble_eq_true rfl) dX11_rung_21 rfl (fun r21 hw => ?_)
    refine z_ifb_ne F dX11_rung_24 rfl rfl hw (fun hw => ?_) (fun hw => ?_)
    · refine z_iload_n F dX11_rung_30 rfl rfl 2 rfl ?_
      by_cases e31_0 : w32 a2 = 0
      · refine z_swcase F 0 dX11_rung_31 e31_0 (by decide) (by decide) rfl rfl ?_
        have hw := hw.1 e31_0
        refine z_aload_n F dX11_rung_56 rfl rfl 0 rfl ?_
        refine z_getR F fl_448 k0 dX11_rung_57 rfl ?_
        refine z_getR F fl_200 (tk_11_3 k0) dX11_rung_60 rfl ?_
        refine z_iload_n F dX11_rung_63 rfl rfl 1 rfl ?_
        refine z_iald F (tk_8_1 (tk_11_3 k0)) dX11_rung_64 rfl hw (fun hw => ?_)
        exact z_iret (x := (M13 (rt (rt a0 3) 1) (ix a1))) F hr dX11_rung_65 hw
      · skip
        by_cases e31_1 : w32 a2 = 1
        · refine z_swcase F 1 dX11_rung_31 e31_1 (by decide) (by decide) rfl rfl ?_
          have hw := hw.2.1 e31_1
          refine z_aload_n F dX11_rung_66 rfl rfl 0 rfl ?_
          refine z_getR F fl_448 k0 dX11_rung_67 rfl ?_
          refine z_getR F fl_204 (tk_11_3 k0) dX11_rung_70 rfl ?_
          refine z_iload_n F dX11_rung_73 rfl rfl 1 rfl ?_
          refine z_iald F (tk_8_2 (tk_11_3 k0)) dX11_rung_74 rfl hw (fun hw => ?_)
          exact z_iret (x := (M13 (rt (rt a0 3) 2) (ix a1))) F hr dX11_rung_75 hw
        · skip
          by_cases e31_2 : w32 a2 = 2
          · refine z_swcase F 2 dX11_rung_31 e31_2 (by decide) (by decide) rfl rfl ?_
            have hw := hw.2.2.1 e31_2
            refine z_aload_n F dX11_rung_76 rfl rfl 0 rfl ?_
            refine z_getR F fl_448 k0 dX11_rung_77 rfl ?_
            refine z_getR F fl_209 (tk_11_3 k0) dX11_rung_80 rfl ?_
            refine z_iload_n F dX11_rung_83 rfl rfl 1 rfl ?_
            refine z_iald F (tk_8_3 (tk_11_3 k0)) dX11_rung_84 rfl hw (fun hw => ?_)
            exact z_iret (x := (M13 (rt (rt a0 3) 3) (ix a1))) F hr dX11_rung_85 hw
          · skip
            have h9 : w32 a2 < 0 ∨ 2 < w32 a2 := by omega
            refine z_swout F dX11_rung_31 h9 rfl ?_
            have hw := hw.2.2.2 h9
            refine z_aload_n F dX11_rung_86 rfl rfl 0 rfl ?_
            refine z_getR F fl_448 k0 dX11_rung_87 rfl ?_
            refine z_getR F fl_214 (tk_11_3 k0) dX11_rung_90 rfl ?_
            refine z_iload_n F dX11_rung_93 rfl rfl 1 rfl ?_
            refine z_iald F (tk_8_4 (tk_11_3 k0)) dX11_rung_94 rfl hw (fun hw => ?_)
            exact z_iret (x := (M13 (rt (rt a0 3) 4) (ix a1))) F hr dX11_rung_95 hw
    · refine z_bipush F dX11_rung_27 (by decide) rfl ?_
      exact z_iret (x := (-12)) F hr dX11_rung_29 hw
  · refine z_bipush F dX11_rung_9 (by decide) rfl ?_
    exact z_iret (x := (-2)) F hr dX11_rung_11 hw
theorem cv_X11_rung : CV yX11_rung RX11 cX11_rung 3 (some .int) 2 := ⟨w_527, w_528, w_67, w_529, rfl, by decide +kernel, by decide +kernel, by decide +kernel⟩
abbrev rm_X11_day : Room := { frames := 4, cells := 0, slots := 0, locals := 92 }
def wp_X11_day (a0 : Nat) (a1 : Int) (a2 : Int) (M : Mem) (Q : Int → Mem → Prop) : Prop :=
  wp_X11_isDay a1 M (fun r1 =>
  ((r1 = false → (
    Q (-2) M)) ∧
  (r1 = true → (
    wp_X11_within a2 0 1 M (fun r10 =>
    ((r10 = true → (
      wp_X11_look a0 M (fun M20 =>
      (((¬ w32 a2 = 0) → (
        inb (rt (rt a0 3) 5) a1 ∧ (
        Q (M20 (rt (rt a0 3) 5) (ix a1)) M20))) ∧
      (¬ (¬ w32 a2 = 0) → (
        inb (rt (rt a0 3) 6) a1 ∧ (
        Q (M20 (rt (rt a0 3) 6) (ix a1)) M20))))))) ∧
    (r10 = false → (
      Q (-2) M))))))))
set_option maxRecDepth 100000 in
set_option maxHeartbeats 4000000 in
theorem c_X11_day (l : Launch) (g : En) {a0 : Nat} {a1 : Int} {a2 : Int} {M : Mem} {Q : Int → Mem → Prop} (k0 : kd a0 = 11) (hw : wp_X11_day a0 a1 a2 M Q) :
    Met l yX11_day (WS yX11_day cX11_day 3 (some .int)) rm_X11_day (va_Pc [.ref (g.2.2.1 + a0), .int (i3 a1), .int (i3 a2)] (Rp g M)) (va_Qi (S := Int × Mem) (fun r u => r = i3 u.1 ∧ Q u.1 u.2) (fun u => Rp g u.2) (aR g)) 0 0 (aR g) := by
  refine met_Z (plainFor_of_name rfl) (Nat.le_of_ble_eq_true rfl) ?_
  intro p e s m args below meth c F hr _
  show Z g p l e rm_X11_day s m args below meth c 3 (MQ below (va_Qi (S := Int × Mem) (fun r u => r = i3 u.1 ∧ Q u.1 u.2) (fun u => Rp g u.2) (aR g)) args s 0 0 (aR g)) M 0 [(0, .ref (g.2.2.1 + a0)), (1, .int (i3 a1)), (2, .int (i3 a2))] []
  refine z_iload_n F dX11_day_0 rfl rfl 1 rfl ?_
  refine z_cSbp (As := [.int (i3 a1)]) (st := []) F (c_X11_isDay l g hw) cs_X11_isDay w_504 ⟨rfl, rfl, Nat.le_of_ble_eq_true rfl, Nat.le_of_ble_eq_true rfl⟩ rfl (Nat.le_of_ble_eq_true rfl) dX11_day_1 rfl (fun r1 hw => ?_)
  refine z_ifb_eq F dX11_day_4 rfl rfl hw (fun hw => ?_) (fun hw => ?_)
  · refine z_bipush F dX11_day_16 (by decide) rfl ?_
    exact z_iret (x := (-2)) F hr dX11_day_18 hw
  · refine z_iload_n F dX11_day_7 rfl rfl 2 rfl ?_
    refine z_iconst F dX11_day_8 rfl ?_
    refine z_iconst F dX11_day_9 rfl ?_
    refine z_cSbp (As := [.int (i3 a2), .int (i3 0), .int (i3 1)]) (st := []) F (c_X11_within l g hw) cs_X11_within w_507 ⟨rfl, rfl, Nat.le_of_ble_eq_true rfl, Nat.le_of_ble_eq_true rfl⟩ rfl (Nat.le_of_ble_eq_true rfl) dX11_day_10 rfl (fun r10 hw => ?_)
    refine z_ifb_ne F dX11_day_13 rfl rfl hw (fun hw => ?_) (fun hw => ?_)
    · refine z_aload_n F dX11_day_19 rfl rfl 0 rfl ?_
      refine z_cVv (As := []) (st := []) F (c_X11_look l g k0 hw) cv_X11_look w_530 ⟨rfl, rfl, Nat.le_of_ble_eq_true rfl, Nat.le_of_ble_eq_true rfl⟩ k0 rfl rfl (Nat.le_of_ble_eq_true rfl) dX11_day_20 rfl (fun M20 hw => ?_)
      refine z_iload_n F dX11_day_23 rfl rfl 2 rfl ?_
      refine z_if_ne F dX11_day_24 rfl rfl hw (fun hw => ?_) (fun hw => ?_)
      · refine z_aload_n F dX11_day_39 rfl rfl 0 rfl ?_
        refine z_getR F fl_448 k0 dX11_day_40 rfl ?_
        refine z_getR F fl_216 (tk_11_3 k0) dX11_day_43 rfl ?_
        refine z_iload_n F dX11_day_46 rfl rfl 1 rfl ?_
        refine z_iald F (tk_8_5 (tk_11_3 k0)) dX11_day_47 rfl hw (fun hw => ?_)
        exact z_iret (x := (M20 (rt (rt a0 3) 5) (ix a1))) F hr dX11_day_48 hw
      · refine z_aload_n F dX11_day_27 rfl rfl 0 rfl ?_
        refine z_getR F fl_448 k0 dX11_day_28 rfl ?_
        refine z_getR F fl_218 (tk_11_3 k0) dX11_day_31 rfl ?_
        refine z_iload_n F dX11_day_34 rfl rfl 1 rfl ?_
        refine z_iald F (tk_8_6 (tk_11_3 k0)) dX11_day_35 rfl hw (fun hw => ?_)
        refine z_goto F dX11_day_36 rfl ?_
        exact z_iret (x := (M20 (rt (rt a0 3) 6) (ix a1))) F hr dX11_day_48 hw
    · refine z_bipush F dX11_day_16 (by decide) rfl ?_
      exact z_iret (x := (-2)) F hr dX11_day_18 hw
theorem cv_X11_day : CV yX11_day RX11 cX11_day 3 (some .int) 2 := ⟨w_569, w_570, w_67, w_571, rfl, by decide +kernel, by decide +kernel, by decide +kernel⟩
abbrev rm_X11_isKind : Room := { frames := 1, cells := 0, slots := 0, locals := 22 }
def wp_X11_isKind (a0 : Int) (M : Mem) (Q : Bool → Prop) : Prop :=
  wp_X11_within a0 0 5 M (fun r3 =>
  Q r3)
set_option maxRecDepth 100000 in
set_option maxHeartbeats 4000000 in
theorem c_X11_isKind (l : Launch) (g : En) {a0 : Int} {M : Mem} {Q : Bool → Prop} (hw : wp_X11_isKind a0 M Q) :
    Met l yX11_isKind (WS yX11_isKind cX11_isKind 1 (some .boolean)) rm_X11_isKind (va_Pc [.int (i3 a0)] (Rp g M)) (va_Qi (S := Bool × Mem) (fun r u => r = i3 (bz u.1) ∧ (u.2 = M ∧ Q u.1)) (fun u => Rp g u.2) (aR g)) 0 0 (aR g) := by
  refine met_Z (plainFor_of_name rfl) (Nat.le_of_ble_eq_true rfl) ?_
  intro p e s m args below meth c F hr _
  show Z g p l e rm_X11_isKind s m args below meth c 1 (MQ below (va_Qi (S := Bool × Mem) (fun r u => r = i3 (bz u.1) ∧ (u.2 = M ∧ Q u.1)) (fun u => Rp g u.2) (aR g)) args s 0 0 (aR g)) M 0 [(0, .int (i3 a0))] []
  refine z_iload_n F dX11_isKind_0 rfl rfl 0 rfl ?_
  refine z_iconst F dX11_isKind_1 rfl ?_
  refine z_iconst F dX11_isKind_2 rfl ?_
  refine z_cSbp (As := [.int (i3 a0), .int (i3 0), .int (i3 5)]) (st := []) F (c_X11_within l g hw) cs_X11_within w_507 ⟨rfl, rfl, Nat.le_of_ble_eq_true rfl, Nat.le_of_ble_eq_true rfl⟩ rfl (Nat.le_of_ble_eq_true rfl) dX11_isKind_3 rfl (fun r3 hw => ?_)
  exact z_zretp (x := r3) F hr dX11_isKind_6 hw
theorem cs_X11_isKind : CS yX11_isKind cX11_isKind 1 (some .boolean) 1 := ⟨w_577, w_67, w_578, by decide +kernel, by decide +kernel, by decide +kernel⟩
abbrev rm_X11_bond : Room := { frames := 2, cells := 0, slots := 0, locals := 42 }
def wp_X11_bond (a0 : Nat) (a1 : Int) (a2 : Int) (a3 : Int) (a4 : Int) (a5 : Int) (a6 : Int) (M : Mem) (Q : Int → Mem → Prop) : Prop :=
  wp_X11_isKind a1 M (fun r1 =>
  ((r1 = false → (
    Q (-2) M)) ∧
  (r1 = true → (
    wp_X11_within a2 1 99 M (fun r11 =>
    ((r11 = false → (
      Q (-2) M)) ∧
    (r11 = true → (
      wp_X11_within a3 0 9 M (fun r21 =>
      ((r21 = false → (
        Q (-2) M)) ∧
      (r21 = true → (
        wp_X11_within a4 1 30 M (fun r32 =>
        ((r32 = false → (
          Q (-2) M)) ∧
        (r32 = true → (
          wp_X11_isDay a5 M (fun r40 =>
          ((r40 = false → (
            Q (-2) M)) ∧
          (r40 = true → (
            wp_X11_within a6 1 60 M (fun r51 =>
            ((r51 = true → (
              (((w32 (M (rt a0 0) 4) < w32 5) → (
                ∀ M76 : Mem, M76 = st2 M a0 5 (bz true) →
                inb (rt (rt a0 0) 3) (M76 (rt a0 0) 4) ∧ (
                wp_X0_begin (rt (rt (rt a0 0) 3) (ix (M76 (rt a0 0) 4))) a1 a2 a3 a4 a5 a6 M76 (fun M107 =>
                ∀ M118 : Mem, M118 = st2 M107 (rt a0 0) 4 ((M76 (rt a0 0) 4) + 1) →
                Q (M76 (rt a0 0) 4) M118)))) ∧
              (¬ (w32 (M (rt a0 0) 4) < w32 5) → (
                Q (-4) M))))) ∧
            (r51 = false → (
              Q (-2) M))))))))))))))))))))))))
set_option maxRecDepth 100000 in
set_option maxHeartbeats 4000000 in
theorem c_X11_bond (l : Launch) (g : En) {a0 : Nat} {a1 : Int} {a2 : Int} {a3 : Int} {a4 : Int} {a5 : Int} {a6 : Int} {M : Mem} {Q : Int → Mem → Prop} (k0 : kd a0 = 11) (hw : wp_X11_bond a0 a1 a2 a3 a4 a5 a6 M Q) :
    Met l yX11_bond (WS yX11_bond cX11_bond 8 (some .int)) rm_X11_bond (va_Pc [.ref (g.2.2.1 + a0), .int (i3 a1), .int (i3 a2), .int (i3 a3), .int (i3 a4), .int (i3 a5), .int (i3 a6)] (Rp g M)) (va_Qi (S := Int × Mem) (fun r u => r = i3 u.1 ∧ Q u.1 u.2) (fun u => Rp g u.2) (aR g)) 0 0 (aR g) := by
  refine met_Z (plainFor_of_name rfl) (Nat.le_of_ble_eq_true rfl) ?_
  intro p e s m args below meth c F hr _
  show Z g p l e rm_X11_bond s m args below meth c 8 (MQ below (va_Qi (S := Int × Mem) (fun r u => r = i3 u.1 ∧ Q u.1 u.2) (fun u => Rp g u.2) (aR g)) args s 0 0 (aR g)) M 0 [(0, .ref (g.2.2.1 + a0)), (1, .int (i3 a1)), (2, .int (i3 a2)), (3, .int (i3 a3)), (4, .int (i3 a4)), (5, .int (i3 a5)), (6, .int (i3 a6))] []
  refine z_iload_n F dX11_bond_0 rfl rfl 1 rfl ?_
  refine z_cSbp (As := [.int (i3 a1)]) (st := []) F (c_X11_isKind l g hw) cs_X11_isKind w_576 ⟨rfl, rfl, Nat.le_of_ble_eq_true rfl, Nat.le_of_ble_eq_true rfl⟩ rfl (Nat.le_of_ble_eq_true rfl) dX11_bond_1 rfl (fun r1 hw => ?_)
  refine z_ifb_eq F dX11_bond_4 rfl rfl hw (fun hw => ?_) (fun hw => ?_)
  · refine z_bipush F dX11_bond_57 (by decide) rfl ?_
    exact z_iret (x := (-2)) F hr dX11_bond_59 hw
  · refine z_iload_n F dX11_bond_7 rfl rfl 2 rfl ?_
    refine z_iconst F dX11_bond_8 rfl ?_
    refine z_bipush F dX11_bond_9 (by decide) rfl ?_
    refine z_cSbp (As := [.int (i3 a2), .int (i3 1), .int (i3 99)]) (st := []) F (c_X11_within l g hw) cs_X11_within w_507 ⟨rfl, rfl, Nat.le_of_ble_eq_true rfl, Nat.le_of_ble_eq_true rfl⟩ rfl (Nat.le_of_ble_eq_true rfl) dX11_bond_11 rfl (fun r11 hw => ?_)
    refine z_ifb_eq F dX11_bond_14 rfl rfl hw (fun hw => ?_) (fun hw => ?_)
    · refine z_bipush F dX11_bond_57 (by decide) rfl ?_
      exact z_iret (x := (-2)) F hr dX11_bond_59 hw
    · refine z_iload_n F dX11_bond_17 rfl rfl 3 rfl ?_
      refine z_iconst F dX11_bond_18 rfl ?_
      refine z_bipush F dX11_bond_19 (by decide) rfl ?_
      refine z_cSbp (As := [.int (i3 a3), .int (i3 0), .int (i3 9)]) (st := []) F (c_X11_within l g hw) cs_X11_within w_507 ⟨rfl, rfl, Nat.le_of_ble_eq_true rfl, Nat.le_of_ble_eq_true rfl⟩ rfl (Nat.le_of_ble_eq_true rfl) dX11_bond_21 rfl (fun r21 hw => ?_)
      refine z_ifb_eq F dX11_bond_24 rfl rfl hw (fun hw => ?_) (fun hw => ?_)
      · refine z_bipush F dX11_bond_57 (by decide) rfl ?_
        exact z_iret (x := (-2)) F hr dX11_bond_59 hw
      · refine z_iload F dX11_bond_27 rfl 4 rfl ?_
        refine z_iconst F dX11_bond_29 rfl ?_
        refine z_bipush F dX11_bond_30 (by decide) rfl ?_
        refine z_cSbp (As := [.int (i3 a4), .int (i3 1), .int (i3 30)]) (st := []) F (c_X11_within l g hw) cs_X11_within w_507 ⟨rfl, rfl, Nat.le_of_ble_eq_true rfl, Nat.le_of_ble_eq_true rfl⟩ rfl (Nat.le_of_ble_eq_true rfl) dX11_bond_32 rfl (fun r32 hw => ?_)
        refine z_ifb_eq F dX11_bond_35 rfl rfl hw (fun hw => ?_) (fun hw => ?_)
        · refine z_bipush F dX11_bond_57 (by decide) rfl ?_
          exact z_iret (x := (-2)) F hr dX11_bond_59 hw
        · refine z_iload F dX11_bond_38 rfl 5 rfl ?_
          refine z_cSbp (As := [.int (i3 a5)]) (st := []) F (c_X11_isDay l g hw) cs_X11_isDay w_504 ⟨rfl, rfl, Nat.le_of_ble_eq_true rfl, Nat.le_of_ble_eq_true rfl⟩ rfl (Nat.le_of_ble_eq_true rfl) dX11_bond_40 rfl (fun r40 hw => ?_)
          refine z_ifb_eq F dX11_bond_43 rfl rfl hw (fun hw => ?_) (fun hw => ?_)
          · refine z_bipush F dX11_bond_57 (by decide) rfl ?_
            exact z_iret (x := (-2)) F hr dX11_bond_59 hw
          · refine z_iload F dX11_bond_46 rfl 6 rfl ?_
            refine z_iconst F dX11_bond_48 rfl ?_
            refine z_bipush F dX11_bond_49 (by decide) rfl ?_
            refine z_cSbp (As := [.int (i3 a6), .int (i3 1), .int (i3 60)]) (st := []) F (c_X11_within l g hw) cs_X11_within w_507 ⟨rfl, rfl, Nat.le_of_ble_eq_true rfl, Nat.le_of_ble_eq_true rfl⟩ rfl (Nat.le_of_ble_eq_true rfl) dX11_bond_51 rfl (fun r51 hw => ?_)
            refine z_ifb_ne F dX11_bond_54 rfl rfl hw (fun hw => ?_) (fun hw => ?_)
            · refine z_aload_n F dX11_bond_60 rfl rfl 0 rfl ?_
              refine z_getR F fl_445 k0 dX11_bond_61 rfl ?_
              refine z_getI F fl_173 (tk_11_0 k0) dX11_bond_64 rfl ?_
              refine z_iconst F dX11_bond_67 rfl ?_
              refine z_icmp_lt F dX11_bond_68 rfl rfl hw (fun hw => ?_) (fun hw => ?_)
              · refine z_aload_n F dX11_bond_74 rfl rfl 0 rfl ?_
                refine z_iconst F dX11_bond_75 rfl ?_
                refine z_putB (r := true) F fp_450 k0 dX11_bond_76 rfl ?_
                refine z_nmM (fun M76 eM76 => ?_)
                have hw := hw M76 eM76
                refine z_aload_n F dX11_bond_79 rfl rfl 0 rfl ?_
                refine z_getR F fl_445 k0 dX11_bond_80 rfl ?_
                refine z_getI F fl_173 (tk_11_0 k0) dX11_bond_83 rfl ?_
                refine z_istore F dX11_bond_86 rfl (by decide) rfl ?_
                refine z_aload_n F dX11_bond_88 rfl rfl 1 rfl ?_
                refine z_getR F fl_445 k0 dX11_bond_89 rfl ?_
                refine z_getR F fl_168 (tk_11_0 k0) dX11_bond_92 rfl ?_
                refine z_iload F dX11_bond_95 rfl 0 rfl ?_
                have n97 := hw.1
                refine z_aald F 0 (tk_1_3 (tk_11_0 k0)) rfl rfl dX11_bond_97 rfl hw (fun hw => ?_)
                refine z_iload_n F dX11_bond_98 rfl rfl 2 rfl ?_
                refine z_iload_n F dX11_bond_99 rfl rfl 3 rfl ?_
                refine z_iload_n F dX11_bond_100 rfl rfl 4 rfl ?_
                refine z_iload F dX11_bond_101 rfl 5 rfl ?_
                refine z_iload F dX11_bond_103 rfl 6 rfl ?_
                refine z_iload F dX11_bond_105 rfl 7 rfl ?_
                refine z_cVv (As := [.int (i3 a1), .int (i3 a2), .int (i3 a3), .int (i3 a4), .int (i3 a5), .int (i3 a6)]) (st := []) F (c_X0_begin l g (tka_15 (tk_1_3 (tk_11_0 k0)) n97) hw) cv_X0_begin w_579 ⟨rfl, rfl, Nat.le_of_ble_eq_true rfl, Nat.le_of_ble_eq_true rfl⟩ (tka_15 (tk_1_3 (tk_11_0 k0)) n97) rfl rfl (Nat.le_of_ble_eq_true rfl) dX11_bond_107 rfl (fun M107 hw => ?_)
                refine z_aload_n F dX11_bond_110 rfl rfl 1 rfl ?_
                refine z_getR F fl_445 k0 dX11_bond_111 rfl ?_
                refine z_iload F dX11_bond_114 rfl 0 rfl ?_
                refine z_iconst F dX11_bond_116 rfl ?_
                refine z_iadd F dX11_bond_117 rfl ?_
                refine z_putI F fp_173 (tk_11_0 k0) dX11_bond_118 rfl ?_
                refine z_nmM (fun M118 eM118 => ?_)
                have hw := hw M118 eM118
                refine z_iload F dX11_bond_121 rfl 0 rfl ?_
                exact z_iret (x := (M76 (rt a0 0) 4)) F hr dX11_bond_123 hw
              · refine z_bipush F dX11_bond_71 (by decide) rfl ?_
                exact z_iret (x := (-4)) F hr dX11_bond_73 hw
            · refine z_bipush F dX11_bond_57 (by decide) rfl ?_
              exact z_iret (x := (-2)) F hr dX11_bond_59 hw
theorem cv_X11_bond : CV yX11_bond RX11 cX11_bond 8 (some .int) 6 := ⟨w_573, w_574, w_67, w_575, rfl, by decide +kernel, by decide +kernel, by decide +kernel⟩
abbrev rm_X11_hold : Room := { frames := 1, cells := 0, slots := 0, locals := 22 }
def wp_X11_hold (a0 : Nat) (a1 : Int) (a2 : Int) (M : Mem) (Q : Int → Mem → Prop) : Prop :=
  wp_X1_hasBond (rt a0 0) a1 M (fun r5 =>
  ((r5 = false → (
    Q (-2) M)) ∧
  (r5 = true → (
    wp_X11_within a2 0 99 M (fun r15 =>
    ((r15 = true → (
      inb (rt (rt a0 0) 3) a1 ∧ (
      ∀ v36 : Int, v36 = (M (rt (rt (rt a0 0) 3) (ix a1)) 6) →
      inb (rt (rt a0 0) 3) a1 ∧ (
      ∀ M47 : Mem, M47 = st2 M (rt (rt (rt a0 0) 3) (ix a1)) 6 a2 →
      Q v36 M47)))) ∧
    (r15 = false → (
      Q (-2) M))))))))
set_option maxRecDepth 100000 in
set_option maxHeartbeats 4000000 in
theorem c_X11_hold (l : Launch) (g : En) {a0 : Nat} {a1 : Int} {a2 : Int} {M : Mem} {Q : Int → Mem → Prop} (k0 : kd a0 = 11) (hw : wp_X11_hold a0 a1 a2 M Q) :
    Met l yX11_hold (WS yX11_hold cX11_hold 4 (some .int)) rm_X11_hold (va_Pc [.ref (g.2.2.1 + a0), .int (i3 a1), .int (i3 a2)] (Rp g M)) (va_Qi (S := Int × Mem) (fun r u => r = i3 u.1 ∧ Q u.1 u.2) (fun u => Rp g u.2) (aR g)) 0 0 (aR g) := by
  refine met_Z (plainFor_of_name rfl) (Nat.le_of_ble_eq_true rfl) ?_
  intro p e s m args below meth c F hr _
  show Z g p l e rm_X11_hold s m args below meth c 4 (MQ below (va_Qi (S := Int × Mem) (fun r u => r = i3 u.1 ∧ Q u.1 u.2) (fun u => Rp g u.2) (aR g)) args s 0 0 (aR g)) M 0 [(0, .ref (g.2.2.1 + a0)), (1, .int (i3 a1)), (2, .int (i3 a2))] []
  refine z_aload_n F dX11_hold_0 rfl rfl 0 rfl ?_
  refine z_getR F fl_445 k0 dX11_hold_1 rfl ?_
  refine z_iload_n F dX11_hold_4 rfl rfl 1 rfl ?_
  refine z_cVbp (As := [.int (i3 a1)]) (st := []) F (c_X1_hasBond l g (tk_11_0 k0) hw) cv_X1_hasBond w_587 ⟨rfl, rfl, Nat.le_of_ble_eq_true rfl, Nat.le_of_ble_eq_true rfl⟩ (tk_11_0 k0) rfl rfl (Nat.le_of_ble_eq_true rfl) dX11_hold_5 rfl (fun r5 hw => ?_)
  refine z_ifb_eq F dX11_hold_8 rfl rfl hw (fun hw => ?_) (fun hw => ?_)
  · refine z_bipush F dX11_hold_21 (by decide) rfl ?_
    exact z_iret (x := (-2)) F hr dX11_hold_23 hw
  · refine z_iload_n F dX11_hold_11 rfl rfl 2 rfl ?_
    refine z_iconst F dX11_hold_12 rfl ?_
    refine z_bipush F dX11_hold_13 (by decide) rfl ?_
    refine z_cSbp (As := [.int (i3 a2), .int (i3 0), .int (i3 99)]) (st := []) F (c_X11_within l g hw) cs_X11_within w_507 ⟨rfl, rfl, Nat.le_of_ble_eq_true rfl, Nat.le_of_ble_eq_true rfl⟩ rfl (Nat.le_of_ble_eq_true rfl) dX11_hold_15 rfl (fun r15 hw => ?_)
    refine z_ifb_ne F dX11_hold_18 rfl rfl hw (fun hw => ?_) (fun hw => ?_)
    · refine z_aload_n F dX11_hold_24 rfl rfl 0 rfl ?_
      refine z_getR F fl_445 k0 dX11_hold_25 rfl ?_
      refine z_getR F fl_168 (tk_11_0 k0) dX11_hold_28 rfl ?_
      refine z_iload_n F dX11_hold_31 rfl rfl 1 rfl ?_
      have n32 := hw.1
      refine z_aald F 0 (tk_1_3 (tk_11_0 k0)) rfl rfl dX11_hold_32 rfl hw (fun hw => ?_)
      refine z_getI F fl_139 (tka_15 (tk_1_3 (tk_11_0 k0)) n32) dX11_hold_33 rfl ?_
      refine z_nmI (fun v36 ev36 => ?_)
      have hw := hw v36 ev36
      refine z_istore_n F dX11_hold_36 rfl rfl (by decide) rfl ?_
      refine z_aload_n F dX11_hold_37 rfl rfl 1 rfl ?_
      refine z_getR F fl_445 k0 dX11_hold_38 rfl ?_
      refine z_getR F fl_168 (tk_11_0 k0) dX11_hold_41 rfl ?_
      refine z_iload_n F dX11_hold_44 rfl rfl 2 rfl ?_
      have n45 := hw.1
      refine z_aald F 0 (tk_1_3 (tk_11_0 k0)) rfl rfl dX11_hold_45 rfl hw (fun hw => ?_)
      refine z_iload_n F dX11_hold_46 rfl rfl 3 rfl ?_
      refine z_putI F fp_139 (tka_15 (tk_1_3 (tk_11_0 k0)) n45) dX11_hold_47 rfl ?_
      refine z_nmM (fun M47 eM47 => ?_)
      have hw := hw M47 eM47
      refine z_iload_n F dX11_hold_50 rfl rfl 0 rfl ?_
      exact z_iret (x := v36) F hr dX11_hold_51 hw
    · refine z_bipush F dX11_hold_21 (by decide) rfl ?_
      exact z_iret (x := (-2)) F hr dX11_hold_23 hw
theorem cv_X11_hold : CV yX11_hold RX11 cX11_hold 4 (some .int) 2 := ⟨w_584, w_585, w_67, w_586, rfl, by decide +kernel, by decide +kernel, by decide +kernel⟩
abbrev rm_X11_told : Room := { frames := 4, cells := 0, slots := 0, locals := 92 }
def wp_X11_told (a0 : Nat) (a1 : Int) (a2 : Int) (M : Mem) (Q : Int → Mem → Prop) : Prop :=
  wp_X1_hasBond (rt a0 0) a1 M (fun r5 =>
  ((r5 = false → (
    Q (-2) M)) ∧
  (r5 = true → (
    wp_X11_within a2 0 8 M (fun r15 =>
    ((r15 = true → (
      wp_X11_look a0 M (fun M25 =>
      (((¬ w32 a2 = w32 7) → (
        (((¬ w32 a2 = w32 8) → (
          inb (rt (rt a0 0) 3) a1 ∧ (
          wp_X0_term (rt (rt (rt a0 0) 3) (ix a1)) a2 M25 (fun r72 =>
          Q r72 M25)))) ∧
        (¬ (¬ w32 a2 = w32 8) → (
          inb (rt (rt a0 3) 9) a1 ∧ (
          Q (M25 (rt (rt a0 3) 9) (ix a1)) M25)))))) ∧
      (¬ (¬ w32 a2 = w32 7) → (
        inb (rt (rt a0 3) 10) a1 ∧ (
        Q (M25 (rt (rt a0 3) 10) (ix a1)) M25))))))) ∧
    (r15 = false → (
      Q (-2) M))))))))
set_option maxRecDepth 100000 in
set_option maxHeartbeats 4000000 in
theorem c_X11_told (l : Launch) (g : En) {a0 : Nat} {a1 : Int} {a2 : Int} {M : Mem} {Q : Int → Mem → Prop} (k0 : kd a0 = 11) (hw : wp_X11_told a0 a1 a2 M Q) :
    Met l yX11_told (WS yX11_told cX11_told 3 (some .int)) rm_X11_told (va_Pc [.ref (g.2.2.1 + a0), .int (i3 a1), .int (i3 a2)] (Rp g M)) (va_Qi (S := Int × Mem) (fun r u => r = i3 u.1 ∧ Q u.1 u.2) (fun u => Rp g u.2) (aR g)) 0 0 (aR g) := by
  refine met_Z (plainFor_of_name rfl) (Nat.le_of_ble_eq_true rfl) ?_
  intro p e s m args below meth c F hr _
  show Z g p l e rm_X11_told s m args below meth c 3 (MQ below (va_Qi (S := Int × Mem) (fun r u => r = i3 u.1 ∧ Q u.1 u.2) (fun u => Rp g u.2) (aR g)) args s 0 0 (aR g)) M 0 [(0, .ref (g.2.2.1 + a0)), (1, .int (i3 a1)), (2, .int (i3 a2))] []
  refine z_aload_n F dX11_told_0 rfl rfl 0 rfl ?_
  refine z_getR F fl_445 k0 dX11_told_1 rfl ?_
  refine z_iload_n F dX11_told_4 rfl rfl 1 rfl ?_
  refine z_cVbp (As := [.int (i3 a1)]) (st := []) F (c_X1_hasBond l g (tk_11_0 k0) hw) cv_X1_hasBond w_587 ⟨rfl, rfl, Nat.le_of_ble_eq_true rfl, Nat.le_of_ble_eq_true rfl⟩ (tk_11_0 k0) rfl rfl (Nat.le_of_ble_eq_true rfl) dX11_told_5 rfl (fun r5 hw => ?_)
  refine z_ifb_eq F dX11_told_8 rfl rfl hw (fun hw => ?_) (fun hw => ?_)
  · refine z_bipush F dX11_told_21 (by decide) rfl ?_
    exact z_iret (x := (-2)) F hr dX11_told_23 hw
  · refine z_iload_n F dX11_told_11 rfl rfl 2 rfl ?_
    refine z_iconst F dX11_told_12 rfl ?_
    refine z_bipush F dX11_told_13 (by decide) rfl ?_
    refine z_cSbp (As := [.int (i3 a2), .int (i3 0), .int (i3 8)]) (st := []) F (c_X11_within l g hw) cs_X11_within w_507 ⟨rfl, rfl, Nat.le_of_ble_eq_true rfl, Nat.le_of_ble_eq_true rfl⟩ rfl (Nat.le_of_ble_eq_true rfl) dX11_told_15 rfl (fun r15 hw => ?_)
    refine z_ifb_ne F dX11_told_18 rfl rfl hw (fun hw => ?_) (fun hw => ?_)
    · refine z_aload_n F dX11_told_24 rfl rfl 0 rfl ?_
      refine z_cVv (As := []) (st := []) F (c_X11_look l g k0 hw) cv_X11_look w_530 ⟨rfl, rfl, Nat.le_of_ble_eq_true rfl, Nat.le_of_ble_eq_true rfl⟩ k0 rfl rfl (Nat.le_of_ble_eq_true rfl) dX11_told_25 rfl (fun M25 hw => ?_)
      refine z_iload_n F dX11_told_28 rfl rfl 2 rfl ?_
      refine z_bipush F dX11_told_29 (by decide) rfl ?_
      refine z_icmp_ne F dX11_told_31 rfl rfl hw (fun hw => ?_) (fun hw => ?_)
      · refine z_iload_n F dX11_told_44 rfl rfl 2 rfl ?_
        refine z_bipush F dX11_told_45 (by decide) rfl ?_
        refine z_icmp_ne F dX11_told_47 rfl rfl hw (fun hw => ?_) (fun hw => ?_)
        · refine z_aload_n F dX11_told_62 rfl rfl 0 rfl ?_
          refine z_getR F fl_445 k0 dX11_told_63 rfl ?_
          refine z_getR F fl_168 (tk_11_0 k0) dX11_told_66 rfl ?_
          refine z_iload_n F dX11_told_69 rfl rfl 1 rfl ?_
          have n70 := hw.1
          refine z_aald F 0 (tk_1_3 (tk_11_0 k0)) rfl rfl dX11_told_70 rfl hw (fun hw => ?_)
          refine z_iload_n F dX11_told_71 rfl rfl 2 rfl ?_
          refine z_cVip (As := [.int (i3 a2)]) (st := []) F (c_X0_term l g (tka_15 (tk_1_3 (tk_11_0 k0)) n70) hw) cv_X0_term w_595 ⟨rfl, rfl, Nat.le_of_ble_eq_true rfl, Nat.le_of_ble_eq_true rfl⟩ (tka_15 (tk_1_3 (tk_11_0 k0)) n70) rfl rfl (Nat.le_of_ble_eq_true rfl) dX11_told_72 rfl (fun r72 hw => ?_)
          exact z_iret (x := r72) F hr dX11_told_75 hw
        · refine z_aload_n F dX11_told_50 rfl rfl 0 rfl ?_
          refine z_getR F fl_448 k0 dX11_told_51 rfl ?_
          refine z_getR F fl_227 (tk_11_3 k0) dX11_told_54 rfl ?_
          refine z_iload_n F dX11_told_57 rfl rfl 1 rfl ?_
          refine z_iald F (tk_8_9 (tk_11_3 k0)) dX11_told_58 rfl hw (fun hw => ?_)
          refine z_goto F dX11_told_59 rfl ?_
          exact z_iret (x := (M25 (rt (rt a0 3) 9) (ix a1))) F hr dX11_told_75 hw
      · refine z_aload_n F dX11_told_34 rfl rfl 0 rfl ?_
        refine z_getR F fl_448 k0 dX11_told_35 rfl ?_
        refine z_getR F fl_230 (tk_11_3 k0) dX11_told_38 rfl ?_
        refine z_iload_n F dX11_told_41 rfl rfl 1 rfl ?_
        refine z_iald F (tk_8_10 (tk_11_3 k0)) dX11_told_42 rfl hw (fun hw => ?_)
        exact z_iret (x := (M25 (rt (rt a0 3) 10) (ix a1))) F hr dX11_told_43 hw
    · refine z_bipush F dX11_told_21 (by decide) rfl ?_
      exact z_iret (x := (-2)) F hr dX11_told_23 hw
theorem cv_X11_told : CV yX11_told RX11 cX11_told 3 (some .int) 2 := ⟨w_592, w_593, w_67, w_594, rfl, by decide +kernel, by decide +kernel, by decide +kernel⟩
abbrev rm_X11_pays : Room := { frames := 4, cells := 0, slots := 0, locals := 92 }
def wp_X11_pays (a0 : Nat) (a1 : Int) (a2 : Int) (M : Mem) (Q : Int → Mem → Prop) : Prop :=
  wp_X1_hasBond (rt a0 0) a1 M (fun r5 =>
  ((r5 = false → (
    Q (-2) M)) ∧
  (r5 = true → (
    wp_X11_isDay a2 M (fun r12 =>
    ((r12 = true → (
      wp_X11_look a0 M (fun M22 =>
      inb (rt (rt a0 3) 7) a1 ∧ (
      inb (rt (rt (rt a0 3) 7) (ix a1)) a2 ∧ (
      Q (M22 (rt (rt (rt a0 3) 7) (ix a1)) (ix a2)) M22))))) ∧
    (r12 = false → (
      Q (-2) M))))))))
set_option maxRecDepth 100000 in
set_option maxHeartbeats 4000000 in
theorem c_X11_pays (l : Launch) (g : En) {a0 : Nat} {a1 : Int} {a2 : Int} {M : Mem} {Q : Int → Mem → Prop} (k0 : kd a0 = 11) (hw : wp_X11_pays a0 a1 a2 M Q) :
    Met l yX11_pays (WS yX11_pays cX11_pays 3 (some .int)) rm_X11_pays (va_Pc [.ref (g.2.2.1 + a0), .int (i3 a1), .int (i3 a2)] (Rp g M)) (va_Qi (S := Int × Mem) (fun r u => r = i3 u.1 ∧ Q u.1 u.2) (fun u => Rp g u.2) (aR g)) 0 0 (aR g) := by
  refine met_Z (plainFor_of_name rfl) (Nat.le_of_ble_eq_true rfl) ?_
  intro p e s m args below meth c F hr _
  show Z g p l e rm_X11_pays s m args below meth c 3 (MQ below (va_Qi (S := Int × Mem) (fun r u => r = i3 u.1 ∧ Q u.1 u.2) (fun u => Rp g u.2) (aR g)) args s 0 0 (aR g)) M 0 [(0, .ref (g.2.2.1 + a0)), (1, .int (i3 a1)), (2, .int (i3 a2))] []
  refine z_aload_n F dX11_pays_0 rfl rfl 0 rfl ?_
  refine z_getR F fl_445 k0 dX11_pays_1 rfl ?_
  refine z_iload_n F dX11_pays_4 rfl rfl 1 rfl ?_
  refine z_cVbp (As := [.int (i3 a1)]) (st := []) F (c_X1_hasBond l g (tk_11_0 k0) hw) cv_X1_hasBond w_587 ⟨rfl, rfl, Nat.le_of_ble_eq_true rfl, Nat.le_of_ble_eq_true rfl⟩ (tk_11_0 k0) rfl rfl (Nat.le_of_ble_eq_true rfl) dX11_pays_5 rfl (fun r5 hw => ?_)
  refine z_ifb_eq F dX11_pays_8 rfl rfl hw (fun hw => ?_) (fun hw => ?_)
  · refine z_bipush F dX11_pays_18 (by decide) rfl ?_
    exact z_iret (x := (-2)) F hr dX11_pays_20 hw
  · refine z_iload_n F dX11_pays_11 rfl rfl 2 rfl ?_
    refine z_cSbp (As := [.int (i3 a2)]) (st := []) F (c_X11_isDay l g hw) cs_X11_isDay w_504 ⟨rfl, rfl, Nat.le_of_ble_eq_true rfl, Nat.le_of_ble_eq_true rfl⟩ rfl (Nat.le_of_ble_eq_true rfl) dX11_pays_12 rfl (fun r12 hw => ?_)
    refine z_ifb_ne F dX11_pays_15 rfl rfl hw (fun hw => ?_) (fun hw => ?_)
    · refine z_aload_n F dX11_pays_21 rfl rfl 0 rfl ?_
      refine z_cVv (As := []) (st := []) F (c_X11_look l g k0 hw) cv_X11_look w_530 ⟨rfl, rfl, Nat.le_of_ble_eq_true rfl, Nat.le_of_ble_eq_true rfl⟩ k0 rfl rfl (Nat.le_of_ble_eq_true rfl) dX11_pays_22 rfl (fun M22 hw => ?_)
      refine z_aload_n F dX11_pays_25 rfl rfl 0 rfl ?_
      refine z_getR F fl_448 k0 dX11_pays_26 rfl ?_
      refine z_getR F fl_220 (tk_11_3 k0) dX11_pays_29 rfl ?_
      refine z_iload_n F dX11_pays_32 rfl rfl 1 rfl ?_
      have n33 := hw.1
      refine z_aald F 4 (tk_8_7 (tk_11_3 k0)) rfl rfl dX11_pays_33 rfl hw (fun hw => ?_)
      refine z_iload_n F dX11_pays_34 rfl rfl 2 rfl ?_
      refine z_iald F (tka_19 (tk_8_7 (tk_11_3 k0)) n33) dX11_pays_35 rfl hw (fun hw => ?_)
      exact z_iret (x := (M22 (rt (rt (rt a0 3) 7) (ix a1)) (ix a2))) F hr dX11_pays_36 hw
    · refine z_bipush F dX11_pays_18 (by decide) rfl ?_
      exact z_iret (x := (-2)) F hr dX11_pays_20 hw
theorem cv_X11_pays : CV yX11_pays RX11 cX11_pays 3 (some .int) 2 := ⟨w_600, w_601, w_67, w_602, rfl, by decide +kernel, by decide +kernel, by decide +kernel⟩
abbrev rm_X11_paysAt : Room := { frames := 4, cells := 0, slots := 0, locals := 92 }
def wp_X11_paysAt (a0 : Nat) (a1 : Int) (a2 : Int) (M : Mem) (Q : Int → Mem → Prop) : Prop :=
  wp_X1_hasBond (rt a0 0) a1 M (fun r5 =>
  ((r5 = true → (
    wp_X11_look a0 M (fun M15 =>
    wp_X8_hasRung (rt a0 3) a2 M15 (fun r23 =>
    ((r23 = false → (
      Q (-12) M15)) ∧
    (r23 = true → (
      inb (rt (rt a0 3) 8) a1 ∧ (
      inb (rt (rt (rt a0 3) 8) (ix a1)) a2 ∧ (
      Q (M15 (rt (rt (rt a0 3) 8) (ix a1)) (ix a2)) M15))))))))) ∧
  (r5 = false → (
    Q (-2) M))))
set_option maxRecDepth 100000 in
set_option maxHeartbeats 4000000 in
theorem c_X11_paysAt (l : Launch) (g : En) {a0 : Nat} {a1 : Int} {a2 : Int} {M : Mem} {Q : Int → Mem → Prop} (k0 : kd a0 = 11) (hw : wp_X11_paysAt a0 a1 a2 M Q) :
    Met l yX11_paysAt (WS yX11_paysAt cX11_paysAt 3 (some .int)) rm_X11_paysAt (va_Pc [.ref (g.2.2.1 + a0), .int (i3 a1), .int (i3 a2)] (Rp g M)) (va_Qi (S := Int × Mem) (fun r u => r = i3 u.1 ∧ Q u.1 u.2) (fun u => Rp g u.2) (aR g)) 0 0 (aR g) := by
  refine met_Z (plainFor_of_name rfl) (Nat.le_of_ble_eq_true rfl) ?_
  intro p e s m args below meth c F hr _
  show Z g p l e rm_X11_paysAt s m args below meth c 3 (MQ below (va_Qi (S := Int × Mem) (fun r u => r = i3 u.1 ∧ Q u.1 u.2) (fun u => Rp g u.2) (aR g)) args s 0 0 (aR g)) M 0 [(0, .ref (g.2.2.1 + a0)), (1, .int (i3 a1)), (2, .int (i3 a2))] []
  refine z_aload_n F dX11_paysAt_0 rfl rfl 0 rfl ?_
  refine z_getR F fl_445 k0 dX11_paysAt_1 rfl ?_
  refine z_iload_n F dX11_paysAt_4 rfl rfl 1 rfl ?_
  refine z_cVbp (As := [.int (i3 a1)]) (st := []) F (c_X1_hasBond l g (tk_11_0 k0) hw) cv_X1_hasBond w_587 ⟨rfl, rfl, Nat.le_of_ble_eq_true rfl, Nat.le_of_ble_eq_true rfl⟩ (tk_11_0 k0) rfl rfl (Nat.le_of_ble_eq_true rfl) dX11_paysAt_5 rfl (fun r5 hw => ?_)
  refine z_ifb_ne F dX11_paysAt_8 rfl rfl hw (fun hw => ?_) (fun hw => ?_)
  · refine z_aload_n F dX11_paysAt_14 rfl rfl 0 rfl ?_
    refine z_cVv (As := []) (st := []) F (c_X11_look l g k0 hw) cv_X11_look w_530 ⟨rfl, rfl, Nat.le_of_ble_eq_true rfl, Nat.le_of_ble_eq_true rfl⟩ k0 rfl rfl (Nat.le_of_ble_eq_true rfl) dX11_paysAt_15 rfl (fun M15 hw => ?_)
    refine z_aload_n F dX11_paysAt_18 rfl rfl 0 rfl ?_
    refine z_getR F fl_448 k0 dX11_paysAt_19 rfl ?_
    refine z_iload_n F dX11_paysAt_22 rfl rfl 2 rfl ?_
    refine z_cVbp (As := [.int (i3 a2)]) (st := []) F (c_X8_hasRung l g (tk_11_3 k0) hw) cv_X8_hasRung w_564 ⟨rfl, rfl, Nat.le_of_ble_eq_true rfl, Nat.le_of_ble_eq_true rfl⟩ (tk_11_3 k0) rfl rfl (Nat.le_of_ble_eq_true rfl) dX11_paysAt_23 rfl (fun r23 hw => ?_)
    refine z_ifb_eq F dX11_paysAt_26 rfl rfl hw (fun hw => ?_) (fun hw => ?_)
    · refine z_bipush F dX11_paysAt_43 (by decide) rfl ?_
      exact z_iret (x := (-12)) F hr dX11_paysAt_45 hw
    · refine z_aload_n F dX11_paysAt_29 rfl rfl 0 rfl ?_
      refine z_getR F fl_448 k0 dX11_paysAt_30 rfl ?_
      refine z_getR F fl_224 (tk_11_3 k0) dX11_paysAt_33 rfl ?_
      refine z_iload_n F dX11_paysAt_36 rfl rfl 1 rfl ?_
      have n37 := hw.1
      refine z_aald F 4 (tk_8_8 (tk_11_3 k0)) rfl rfl dX11_paysAt_37 rfl hw (fun hw => ?_)
      refine z_iload_n F dX11_paysAt_38 rfl rfl 2 rfl ?_
      refine z_iald F (tka_19 (tk_8_8 (tk_11_3 k0)) n37) dX11_paysAt_39 rfl hw (fun hw => ?_)
      refine z_goto F dX11_paysAt_40 rfl ?_
      exact z_iret (x := (M15 (rt (rt (rt a0 3) 8) (ix a1)) (ix a2))) F hr dX11_paysAt_45 hw
  · refine z_bipush F dX11_paysAt_11 (by decide) rfl ?_
    exact z_iret (x := (-2)) F hr dX11_paysAt_13 hw
theorem cv_X11_paysAt : CV yX11_paysAt RX11 cX11_paysAt 3 (some .int) 2 := ⟨w_604, w_605, w_67, w_606, rfl, by decide +kernel, by decide +kernel, by decide +kernel⟩
abbrev rm_X11_taken : Room := { frames := 2, cells := 0, slots := 0, locals := 42 }
def wp_X11_taken (a0 : Nat) (a1 : Int) (a2 : Int) (M : Mem) (Q : Int → Prop) : Prop :=
  wp_X1_hasBond (rt a0 0) a1 M (fun r5 =>
  ((r5 = false → (
    Q (-2))) ∧
  (r5 = true → (
    wp_X11_isKind a2 M (fun r12 =>
    ((r12 = true → (
      inb (rt (rt a0 0) 3) a1 ∧ (
      wp_X0_isOfKind (rt (rt (rt a0 0) 3) (ix a1)) a2 M (fun r31 =>
      ((r31 = false → (
        Q (-13))) ∧
      (r31 = true → (
        inb (rt (rt a0 0) 3) a1 ∧ (
        Q (M (rt (rt (rt a0 0) 3) (ix a1)) 1))))))))) ∧
    (r12 = false → (
      Q (-2)))))))))
set_option maxRecDepth 100000 in
set_option maxHeartbeats 4000000 in
theorem c_X11_taken (l : Launch) (g : En) {a0 : Nat} {a1 : Int} {a2 : Int} {M : Mem} {Q : Int → Prop} (k0 : kd a0 = 11) (hw : wp_X11_taken a0 a1 a2 M Q) :
    Met l yX11_taken (WS yX11_taken cX11_taken 3 (some .int)) rm_X11_taken (va_Pc [.ref (g.2.2.1 + a0), .int (i3 a1), .int (i3 a2)] (Rp g M)) (va_Qi (S := Int × Mem) (fun r u => r = i3 u.1 ∧ (u.2 = M ∧ Q u.1)) (fun u => Rp g u.2) (aR g)) 0 0 (aR g) := by
  refine met_Z (plainFor_of_name rfl) (Nat.le_of_ble_eq_true rfl) ?_
  intro p e s m args below meth c F hr _
  show Z g p l e rm_X11_taken s m args below meth c 3 (MQ below (va_Qi (S := Int × Mem) (fun r u => r = i3 u.1 ∧ (u.2 = M ∧ Q u.1)) (fun u => Rp g u.2) (aR g)) args s 0 0 (aR g)) M 0 [(0, .ref (g.2.2.1 + a0)), (1, .int (i3 a1)), (2, .int (i3 a2))] []
  refine z_aload_n F dX11_taken_0 rfl rfl 0 rfl ?_
  refine z_getR F fl_445 k0 dX11_taken_1 rfl ?_
  refine z_iload_n F dX11_taken_4 rfl rfl 1 rfl ?_
  refine z_cVbp (As := [.int (i3 a1)]) (st := []) F (c_X1_hasBond l g (tk_11_0 k0) hw) cv_X1_hasBond w_587 ⟨rfl, rfl, Nat.le_of_ble_eq_true rfl, Nat.le_of_ble_eq_true rfl⟩ (tk_11_0 k0) rfl rfl (Nat.le_of_ble_eq_true rfl) dX11_taken_5 rfl (fun r5 hw => ?_)
  refine z_ifb_eq F dX11_taken_8 rfl rfl hw (fun hw => ?_) (fun hw => ?_)
  · refine z_bipush F dX11_taken_18 (by decide) rfl ?_
    exact z_iretp (x := (-2)) F hr dX11_taken_20 hw
  · refine z_iload_n F dX11_taken_11 rfl rfl 2 rfl ?_
    refine z_cSbp (As := [.int (i3 a2)]) (st := []) F (c_X11_isKind l g hw) cs_X11_isKind w_576 ⟨rfl, rfl, Nat.le_of_ble_eq_true rfl, Nat.le_of_ble_eq_true rfl⟩ rfl (Nat.le_of_ble_eq_true rfl) dX11_taken_12 rfl (fun r12 hw => ?_)
    refine z_ifb_ne F dX11_taken_15 rfl rfl hw (fun hw => ?_) (fun hw => ?_)
    · refine z_aload_n F dX11_taken_21 rfl rfl 0 rfl ?_
      refine z_getR F fl_445 k0 dX11_taken_22 rfl ?_
      refine z_getR F fl_168 (tk_11_0 k0) dX11_taken_25 rfl ?_
      refine z_iload_n F dX11_taken_28 rfl rfl 1 rfl ?_
      have n29 := hw.1
      refine z_aald F 0 (tk_1_3 (tk_11_0 k0)) rfl rfl dX11_taken_29 rfl hw (fun hw => ?_)
      refine z_iload_n F dX11_taken_30 rfl rfl 2 rfl ?_
      refine z_cVbp (As := [.int (i3 a2)]) (st := []) F (c_X0_isOfKind l g (tka_15 (tk_1_3 (tk_11_0 k0)) n29) hw) cv_X0_isOfKind w_611 ⟨rfl, rfl, Nat.le_of_ble_eq_true rfl, Nat.le_of_ble_eq_true rfl⟩ (tka_15 (tk_1_3 (tk_11_0 k0)) n29) rfl rfl (Nat.le_of_ble_eq_true rfl) dX11_taken_31 rfl (fun r31 hw => ?_)
      refine z_ifb_eq F dX11_taken_34 rfl rfl hw (fun hw => ?_) (fun hw => ?_)
      · refine z_bipush F dX11_taken_52 (by decide) rfl ?_
        exact z_iretp (x := (-13)) F hr dX11_taken_54 hw
      · refine z_aload_n F dX11_taken_37 rfl rfl 0 rfl ?_
        refine z_getR F fl_445 k0 dX11_taken_38 rfl ?_
        refine z_getR F fl_168 (tk_11_0 k0) dX11_taken_41 rfl ?_
        refine z_iload_n F dX11_taken_44 rfl rfl 1 rfl ?_
        have n45 := hw.1
        refine z_aald F 0 (tk_1_3 (tk_11_0 k0)) rfl rfl dX11_taken_45 rfl hw (fun hw => ?_)
        refine z_getI F fl_130 (tka_15 (tk_1_3 (tk_11_0 k0)) n45) dX11_taken_46 rfl ?_
        refine z_goto F dX11_taken_49 rfl ?_
        exact z_iretp (x := (M (rt (rt (rt a0 0) 3) (ix a1)) 1)) F hr dX11_taken_54 hw
    · refine z_bipush F dX11_taken_18 (by decide) rfl ?_
      exact z_iretp (x := (-2)) F hr dX11_taken_20 hw
theorem cv_X11_taken : CV yX11_taken RX11 cX11_taken 3 (some .int) 2 := ⟨w_608, w_609, w_67, w_610, rfl, by decide +kernel, by decide +kernel, by decide +kernel⟩
abbrev rm_X11_isRanking : Room := { frames := 1, cells := 0, slots := 0, locals := 22 }
def wp_X11_isRanking (a0 : Int) (M : Mem) (Q : Bool → Prop) : Prop :=
  wp_X11_within a0 0 3 M (fun r3 =>
  Q r3)
set_option maxRecDepth 100000 in
set_option maxHeartbeats 4000000 in
theorem c_X11_isRanking (l : Launch) (g : En) {a0 : Int} {M : Mem} {Q : Bool → Prop} (hw : wp_X11_isRanking a0 M Q) :
    Met l yX11_isRanking (WS yX11_isRanking cX11_isRanking 1 (some .boolean)) rm_X11_isRanking (va_Pc [.int (i3 a0)] (Rp g M)) (va_Qi (S := Bool × Mem) (fun r u => r = i3 (bz u.1) ∧ (u.2 = M ∧ Q u.1)) (fun u => Rp g u.2) (aR g)) 0 0 (aR g) := by
  refine met_Z (plainFor_of_name rfl) (Nat.le_of_ble_eq_true rfl) ?_
  intro p e s m args below meth c F hr _
  show Z g p l e rm_X11_isRanking s m args below meth c 1 (MQ below (va_Qi (S := Bool × Mem) (fun r u => r = i3 (bz u.1) ∧ (u.2 = M ∧ Q u.1)) (fun u => Rp g u.2) (aR g)) args s 0 0 (aR g)) M 0 [(0, .int (i3 a0))] []
  refine z_iload_n F dX11_isRanking_0 rfl rfl 0 rfl ?_
  refine z_iconst F dX11_isRanking_1 rfl ?_
  refine z_iconst F dX11_isRanking_2 rfl ?_
  refine z_cSbp (As := [.int (i3 a0), .int (i3 0), .int (i3 3)]) (st := []) F (c_X11_within l g hw) cs_X11_within w_507 ⟨rfl, rfl, Nat.le_of_ble_eq_true rfl, Nat.le_of_ble_eq_true rfl⟩ rfl (Nat.le_of_ble_eq_true rfl) dX11_isRanking_3 rfl (fun r3 hw => ?_)
  exact z_zretp (x := r3) F hr dX11_isRanking_6 hw
theorem cs_X11_isRanking : CS yX11_isRanking cX11_isRanking 1 (some .boolean) 1 := ⟨w_622, w_67, w_623, by decide +kernel, by decide +kernel, by decide +kernel⟩
abbrev rm_X11_ranked : Room := { frames := 4, cells := 0, slots := 0, locals := 95 }
def wp_X11_ranked (a0 : Nat) (a1 : Int) (a2 : Int) (M : Mem) (Q : Int → Mem → Prop) : Prop :=
  wp_X11_isRanking a1 M (fun r1 =>
  ((r1 = true → (
    wp_X1_hasBond (rt a0 0) a2 M (fun r15 =>
    ((r15 = true → (
      wp_X11_look a0 M (fun M25 =>
      wp_X5_rank (rt a0 15) a1 (rt a0 0) (rt a0 3) M25 (fun M41 =>
      inb (rt (rt a0 15) 0) a2 ∧ (
      Q (M41 (rt (rt a0 15) 0) (ix a2)) M41))))) ∧
    (r15 = false → (
      Q (-12) M)))))) ∧
  (r1 = false → (
    Q (-2) M))))
set_option maxRecDepth 100000 in
set_option maxHeartbeats 4000000 in
theorem c_X11_ranked (l : Launch) (g : En) {a0 : Nat} {a1 : Int} {a2 : Int} {M : Mem} {Q : Int → Mem → Prop} (k0 : kd a0 = 11) (hw : wp_X11_ranked a0 a1 a2 M Q) :
    Met l yX11_ranked (WS yX11_ranked cX11_ranked 3 (some .int)) rm_X11_ranked (va_Pc [.ref (g.2.2.1 + a0), .int (i3 a1), .int (i3 a2)] (Rp g M)) (va_Qi (S := Int × Mem) (fun r u => r = i3 u.1 ∧ Q u.1 u.2) (fun u => Rp g u.2) (aR g)) 0 0 (aR g) := by
  refine met_Z (plainFor_of_name rfl) (Nat.le_of_ble_eq_true rfl) ?_
  intro p e s m args below meth c F hr _
  show Z g p l e rm_X11_ranked s m args below meth c 3 (MQ below (va_Qi (S := Int × Mem) (fun r u => r = i3 u.1 ∧ Q u.1 u.2) (fun u => Rp g u.2) (aR g)) args s 0 0 (aR g)) M 0 [(0, .ref (g.2.2.1 + a0)), (1, .int (i3 a1)), (2, .int (i3 a2))] []
  refine z_iload_n F dX11_ranked_0 rfl rfl 1 rfl ?_
  refine z_cSbp (As := [.int (i3 a1)]) (st := []) F (c_X11_isRanking l g hw) cs_X11_isRanking w_621 ⟨rfl, rfl, Nat.le_of_ble_eq_true rfl, Nat.le_of_ble_eq_true rfl⟩ rfl (Nat.le_of_ble_eq_true rfl) dX11_ranked_1 rfl (fun r1 hw => ?_)
  refine z_ifb_ne F dX11_ranked_4 rfl rfl hw (fun hw => ?_) (fun hw => ?_)
  · refine z_aload_n F dX11_ranked_10 rfl rfl 0 rfl ?_
    refine z_getR F fl_445 k0 dX11_ranked_11 rfl ?_
    refine z_iload_n F dX11_ranked_14 rfl rfl 2 rfl ?_
    refine z_cVbp (As := [.int (i3 a2)]) (st := []) F (c_X1_hasBond l g (tk_11_0 k0) hw) cv_X1_hasBond w_587 ⟨rfl, rfl, Nat.le_of_ble_eq_true rfl, Nat.le_of_ble_eq_true rfl⟩ (tk_11_0 k0) rfl rfl (Nat.le_of_ble_eq_true rfl) dX11_ranked_15 rfl (fun r15 hw => ?_)
    refine z_ifb_ne F dX11_ranked_18 rfl rfl hw (fun hw => ?_) (fun hw => ?_)
    · refine z_aload_n F dX11_ranked_24 rfl rfl 0 rfl ?_
      refine z_cVv (As := []) (st := []) F (c_X11_look l g k0 hw) cv_X11_look w_530 ⟨rfl, rfl, Nat.le_of_ble_eq_true rfl, Nat.le_of_ble_eq_true rfl⟩ k0 rfl rfl (Nat.le_of_ble_eq_true rfl) dX11_ranked_25 rfl (fun M25 hw => ?_)
      refine z_aload_n F dX11_ranked_28 rfl rfl 0 rfl ?_
      refine z_getR F fl_460 k0 dX11_ranked_29 rfl ?_
      refine z_iload_n F dX11_ranked_32 rfl rfl 1 rfl ?_
      refine z_aload_n F dX11_ranked_33 rfl rfl 0 rfl ?_
      refine z_getR F fl_445 k0 dX11_ranked_34 rfl ?_
      refine z_aload_n F dX11_ranked_37 rfl rfl 0 rfl ?_
      refine z_getR F fl_448 k0 dX11_ranked_38 rfl ?_
      refine z_cVv (As := [.int (i3 a1), .ref (g.2.2.1 + (rt a0 0)), .ref (g.2.2.1 + (rt a0 3))]) (st := []) F (c_X5_rank l g (tk_11_15 k0) (tk_11_0 k0) (tk_11_3 k0) hw) cv_X5_rank w_624 ⟨rfl, rfl, Nat.le_of_ble_eq_true rfl, Nat.le_of_ble_eq_true rfl⟩ (tk_11_15 k0) rfl rfl (Nat.le_of_ble_eq_true rfl) dX11_ranked_41 rfl (fun M41 hw => ?_)
      refine z_aload_n F dX11_ranked_44 rfl rfl 0 rfl ?_
      refine z_getR F fl_460 k0 dX11_ranked_45 rfl ?_
      refine z_getR F fl_375 (tk_11_15 k0) dX11_ranked_48 rfl ?_
      refine z_iload_n F dX11_ranked_51 rfl rfl 2 rfl ?_
      refine z_iald F (tk_5_0 (tk_11_15 k0)) dX11_ranked_52 rfl hw (fun hw => ?_)
      exact z_iret (x := (M41 (rt (rt a0 15) 0) (ix a2))) F hr dX11_ranked_53 hw
    · refine z_bipush F dX11_ranked_21 (by decide) rfl ?_
      exact z_iret (x := (-12)) F hr dX11_ranked_23 hw
  · refine z_bipush F dX11_ranked_7 (by decide) rfl ?_
    exact z_iret (x := (-2)) F hr dX11_ranked_9 hw
theorem cv_X11_ranked : CV yX11_ranked RX11 cX11_ranked 3 (some .int) 2 := ⟨w_618, w_619, w_67, w_620, rfl, by decide +kernel, by decide +kernel, by decide +kernel⟩
abbrev rm_X11_isRow : Room := { frames := 1, cells := 0, slots := 0, locals := 21 }
def wp_X11_isRow (a0 : Nat) (a1 : Int) (M : Mem) (Q : Bool → Prop) : Prop :=
  (((w32 a1 = w32 (-1)) → (
    Q true)) ∧
  (¬ (w32 a1 = w32 (-1)) → (
    (((w32 a1 = w32 (-2)) → (
      Q true)) ∧
    (¬ (w32 a1 = w32 (-2)) → (
      wp_X1_hasBond (rt a0 0) a1 M (fun r16 =>
      ((r16 = false → (
        Q false)) ∧
      (r16 = true → (
        Q true))))))))))
set_option maxRecDepth 100000 in
set_option maxHeartbeats 4000000 in
theorem c_X11_isRow (l : Launch) (g : En) {a0 : Nat} {a1 : Int} {M : Mem} {Q : Bool → Prop} (k0 : kd a0 = 11) (hw : wp_X11_isRow a0 a1 M Q) :
    Met l yX11_isRow (WS yX11_isRow cX11_isRow 2 (some .boolean)) rm_X11_isRow (va_Pc [.ref (g.2.2.1 + a0), .int (i3 a1)] (Rp g M)) (va_Qi (S := Bool × Mem) (fun r u => r = i3 (bz u.1) ∧ (u.2 = M ∧ Q u.1)) (fun u => Rp g u.2) (aR g)) 0 0 (aR g) := by
  refine met_Z (plainFor_of_name rfl) (Nat.le_of_ble_eq_true rfl) ?_
  intro p e s m args below meth c F hr _
  show Z g p l e rm_X11_isRow s m args below meth c 2 (MQ below (va_Qi (S := Bool × Mem) (fun r u => r = i3 (bz u.1) ∧ (u.2 = M ∧ Q u.1)) (fun u => Rp g u.2) (aR g)) args s 0 0 (aR g)) M 0 [(0, .ref (g.2.2.1 + a0)), (1, .int (i3 a1))] []
  refine z_iload_n F dX11_isRow_0 rfl rfl 1 rfl ?_
  refine z_iconst F dX11_isRow_1 rfl ?_
  refine z_icmp_eq F dX11_isRow_2 rfl rfl hw (fun hw => ?_) (fun hw => ?_)
  · refine z_iconst F dX11_isRow_22 rfl ?_
    refine z_goto F dX11_isRow_23 rfl ?_
    exact z_zretp (x := true) F hr dX11_isRow_27 hw
  · refine z_iload_n F dX11_isRow_5 rfl rfl 1 rfl ?_
    refine z_bipush F dX11_isRow_6 (by decide) rfl ?_
    refine z_icmp_eq F dX11_isRow_8 rfl rfl hw (fun hw => ?_) (fun hw => ?_)
    · refine z_iconst F dX11_isRow_22 rfl ?_
      refine z_goto F dX11_isRow_23 rfl ?_
      exact z_zretp (x := true) F hr dX11_isRow_27 hw
    · refine z_aload_n F dX11_isRow_11 rfl rfl 0 rfl ?_
      refine z_getR F fl_445 k0 dX11_isRow_12 rfl ?_
      refine z_iload_n F dX11_isRow_15 rfl rfl 1 rfl ?_
      refine z_cVbp (As := [.int (i3 a1)]) (st := []) F (c_X1_hasBond l g (tk_11_0 k0) hw) cv_X1_hasBond w_587 ⟨rfl, rfl, Nat.le_of_ble_eq_true rfl, Nat.le_of_ble_eq_true rfl⟩ (tk_11_0 k0) rfl rfl (Nat.le_of_ble_eq_true rfl) dX11_isRow_16 rfl (fun r16 hw => ?_)
      refine z_ifb_eq F dX11_isRow_19 rfl rfl hw (fun hw => ?_) (fun hw => ?_)
      · refine z_iconst F dX11_isRow_26 rfl ?_
        exact z_zretp (x := false) F hr dX11_isRow_27 hw
      · refine z_iconst F dX11_isRow_22 rfl ?_
        refine z_goto F dX11_isRow_23 rfl ?_
        exact z_zretp (x := true) F hr dX11_isRow_27 hw
theorem cv_X11_isRow : CV yX11_isRow RX11 cX11_isRow 2 (some .boolean) 1 := ⟨w_643, w_6, w_67, w_644, rfl, by decide +kernel, by decide +kernel, by decide +kernel⟩
abbrev rm_X11_isPart : Room := { frames := 1, cells := 0, slots := 0, locals := 22 }
def wp_X11_isPart (a0 : Int) (M : Mem) (Q : Bool → Prop) : Prop :=
  wp_X11_within a0 0 1 M (fun r3 =>
  Q r3)
set_option maxRecDepth 100000 in
set_option maxHeartbeats 4000000 in
theorem c_X11_isPart (l : Launch) (g : En) {a0 : Int} {M : Mem} {Q : Bool → Prop} (hw : wp_X11_isPart a0 M Q) :
    Met l yX11_isPart (WS yX11_isPart cX11_isPart 1 (some .boolean)) rm_X11_isPart (va_Pc [.int (i3 a0)] (Rp g M)) (va_Qi (S := Bool × Mem) (fun r u => r = i3 (bz u.1) ∧ (u.2 = M ∧ Q u.1)) (fun u => Rp g u.2) (aR g)) 0 0 (aR g) := by
  refine met_Z (plainFor_of_name rfl) (Nat.le_of_ble_eq_true rfl) ?_
  intro p e s m args below meth c F hr _
  show Z g p l e rm_X11_isPart s m args below meth c 1 (MQ below (va_Qi (S := Bool × Mem) (fun r u => r = i3 (bz u.1) ∧ (u.2 = M ∧ Q u.1)) (fun u => Rp g u.2) (aR g)) args s 0 0 (aR g)) M 0 [(0, .int (i3 a0))] []
  refine z_iload_n F dX11_isPart_0 rfl rfl 0 rfl ?_
  refine z_iconst F dX11_isPart_1 rfl ?_
  refine z_iconst F dX11_isPart_2 rfl ?_
  refine z_cSbp (As := [.int (i3 a0), .int (i3 0), .int (i3 1)]) (st := []) F (c_X11_within l g hw) cs_X11_within w_507 ⟨rfl, rfl, Nat.le_of_ble_eq_true rfl, Nat.le_of_ble_eq_true rfl⟩ rfl (Nat.le_of_ble_eq_true rfl) dX11_isPart_3 rfl (fun r3 hw => ?_)
  exact z_zretp (x := r3) F hr dX11_isPart_6 hw
theorem cs_X11_isPart : CS yX11_isPart cX11_isPart 1 (some .boolean) 1 := ⟨w_646, w_67, w_647, by decide +kernel, by decide +kernel, by decide +kernel⟩
abbrev rm_X11_readHeld : Room := { frames := 1, cells := 0, slots := 0, locals := 21 }
def wp_X11_readHeld_b39 (a0 : Nat) (Q : Mem → Prop) (K2 : Mem → Int → Prop) (M : Mem) (s1 : Int) (s2 : Int) (x1 : Int) : Prop :=
  inb (rt a0 8) s1 ∧ (
  ∀ M39 : Mem, M39 = st2 M (rt a0 8) (ix s1) s2 →
  K2 M39 (x1 + 1))
def wp_X11_readHeld_B2 (a0 : Nat) (Q : Mem → Prop) (K2 : Mem → Int → Prop) (M : Mem) (x1 : Int) : Prop :=
  (((w32 5 ≤ w32 x1) → (
    Q M)) ∧
  (¬ (w32 5 ≤ w32 x1) → (
    wp_X1_hasBond (rt a0 0) x1 M (fun r17 =>
    ((r17 = false → (
      wp_X11_readHeld_b39 a0 Q K2 M x1 0 x1)) ∧
    (r17 = true → (
      inb (rt (rt a0 0) 3) x1 ∧ (
      wp_X11_readHeld_b39 a0 Q K2 M x1 (M (rt (rt (rt a0 0) 3) (ix x1)) 6) x1))))))))
def wp_X11_readHeld_L2 (a0 : Nat) (Q : Mem → Prop) (M : Mem) (x1 : Int) : Prop :=
  ∃ (I : Mem → Int → Prop) (μ : Mem → Int → Nat), I M x1 ∧ ∀ (M : Mem) (x1 : Int), I M x1 →
    wp_X11_readHeld_B2 a0 Q (fun M' x1' => I M' x1' ∧ μ M' x1' < μ M x1) M x1
def wp_X11_readHeld (a0 : Nat) (M : Mem) (Q : Mem → Prop) : Prop :=
  wp_X11_readHeld_L2 a0 Q M 0
set_option maxRecDepth 100000 in
set_option maxHeartbeats 4000000 in
theorem bk_X11_readHeld_39 {g : En} {p : Program} {l : Launch} {e : Env} {s : State} {m : MethodId} {args : Array Value} {below : List Frame} {meth : Method} {c : Code} {M : Mem} {a0 : Nat} {Q : Mem → Prop} {K2 : Mem → Int → Prop} {s1 : Int} {s2 : Int} {x1 : Int} (F : Fx g p s m args meth c cX11_readHeld 2 RX11) (hr : meth.sig.returnType = none) (k0 : kd a0 = 11)
    (hK2 : ∀ (M' : Mem) (x1' : Int), K2 M' x1' → Z g p l e rm_X11_readHeld s m args below meth c 2 (MQ below (va_Qv (S := Mem) Q (fun u => Rp g u) (aR g)) args s 0 0 (aR g)) M' 2 [(0, .ref (g.2.2.1 + a0)), (1, .int (i3 x1'))] [])
    (hw : wp_X11_readHeld_b39 a0 Q K2 M s1 s2 x1) : Z g p l e rm_X11_readHeld s m args below meth c 2 (MQ below (va_Qv (S := Mem) Q (fun u => Rp g u) (aR g)) args s 0 0 (aR g)) M 39 [(0, .ref (g.2.2.1 + a0)), (1, .int (i3 x1))] [.int (i3 s2), .int (i3 s1), .ref (g.2.2.1 + (rt a0 8))] := by
  refine z_iast F (tk_11_8 k0) dX11_readHeld_39 rfl hw (fun hw => ?_)
  refine z_nmM (fun M39 eM39 => ?_)
  have hw := hw M39 eM39
  refine z_iinc F dX11_readHeld_40 rfl 1 rfl (by decide) rfl ?_
  refine z_goto F dX11_readHeld_43 rfl ?_
  refine z_sub [1, 0] rfl ?_
  exact hK2 M39 (x1 + 1) hw
set_option maxRecDepth 100000 in
set_option maxHeartbeats 4000000 in
theorem bk_X11_readHeld_B2 {g : En} {p : Program} {l : Launch} {e : Env} {s : State} {m : MethodId} {args : Array Value} {below : List Frame} {meth : Method} {c : Code} {M : Mem} {a0 : Nat} {Q : Mem → Prop} {K2 : Mem → Int → Prop} {x1 : Int} (F : Fx g p s m args meth c cX11_readHeld 2 RX11) (hr : meth.sig.returnType = none) (k0 : kd a0 = 11)
    (hK2 : ∀ (M' : Mem) (x1' : Int), K2 M' x1' → Z g p l e rm_X11_readHeld s m args below meth c 2 (MQ below (va_Qv (S := Mem) Q (fun u => Rp g u) (aR g)) args s 0 0 (aR g)) M' 2 [(0, .ref (g.2.2.1 + a0)), (1, .int (i3 x1'))] [])
    (hw : wp_X11_readHeld_B2 a0 Q K2 M x1) : Z g p l e rm_X11_readHeld s m args below meth c 2 (MQ below (va_Qv (S := Mem) Q (fun u => Rp g u) (aR g)) args s 0 0 (aR g)) M 2 [(0, .ref (g.2.2.1 + a0)), (1, .int (i3 x1))] [] := by
  refine z_iload_n F dX11_readHeld_2 rfl rfl 1 rfl ?_
  refine z_iconst F dX11_readHeld_3 rfl ?_
  refine z_icmp_ge F dX11_readHeld_4 rfl rfl hw (fun hw => ?_) (fun hw => ?_)
  · exact z_vret F hr dX11_readHeld_46 hw
  · refine z_aload_n F dX11_readHeld_7 rfl rfl 0 rfl ?_
    refine z_getR F fl_453 k0 dX11_readHeld_8 rfl ?_
    refine z_iload_n F dX11_readHeld_11 rfl rfl 1 rfl ?_
    refine z_aload_n F dX11_readHeld_12 rfl rfl 0 rfl ?_
    refine z_getR F fl_445 k0 dX11_readHeld_13 rfl ?_
    refine z_iload_n F dX11_readHeld_16 rfl rfl 1 rfl ?_
    refine z_cVbp (As := [.int (i3 x1)]) (st := [.int (i3 x1), .ref (g.2.2.1 + (rt a0 8))]) F (c_X1_hasBond l g (tk_11_0 k0) hw) cv_X1_hasBond w_587 ⟨rfl, rfl, Nat.le_of_ble_eq_true rfl, Nat.le_of_ble_eq_true rfl⟩ (tk_11_0 k0) rfl rfl (Nat.le_of_ble_eq_true rfl) dX11_readHeld_17 rfl (fun r17 hw => ?_)
    refine z_ifb_eq F dX11_readHeld_20 rfl rfl hw (fun hw => ?_) (fun hw => ?_)
    · refine z_iconst F dX11_readHeld_38 rfl ?_
      refine z_sub [0, 1] rfl ?_
      exact bk_X11_readHeld_39 F hr k0 hK2 hw
    · refine z_aload_n F dX11_readHeld_23 rfl rfl 0 rfl ?_
      refine z_getR F fl_445 k0 dX11_readHeld_24 rfl ?_
      refine z_getR F fl_168 (tk_11_0 k0) dX11_readHeld_27 rfl ?_
      refine z_iload_n F dX11_readHeld_30 rfl rfl 1 rfl ?_
      have n31 := hw.1
      refine z_aald F 0 (tk_1_3 (tk_11_0 k0)) rfl rfl dX11_readHeld_31 rfl hw (fun hw => ?_)
      refine z_getI F fl_139 (tka_15 (tk_1_3 (tk_11_0 k0)) n31) dX11_readHeld_32 rfl ?_
      refine z_goto F dX11_readHeld_35 rfl ?_
      refine z_sub [0, 1] rfl ?_
      exact bk_X11_readHeld_39 F hr k0 hK2 hw
set_option maxRecDepth 100000 in
set_option maxHeartbeats 4000000 in
theorem lp_X11_readHeld_2 {g : En} {p : Program} {l : Launch} {e : Env} {s : State} {m : MethodId} {args : Array Value} {below : List Frame} {meth : Method} {c : Code} {M : Mem} {a0 : Nat} {Q : Mem → Prop} {x1 : Int} (F : Fx g p s m args meth c cX11_readHeld 2 RX11) (hr : meth.sig.returnType = none) (k0 : kd a0 = 11)
    (hw : wp_X11_readHeld_L2 a0 Q M x1) : Z g p l e rm_X11_readHeld s m args below meth c 2 (MQ below (va_Qv (S := Mem) Q (fun u => Rp g u) (aR g)) args s 0 0 (aR g)) M 2 [(0, .ref (g.2.2.1 + a0)), (1, .int (i3 x1))] [] := by
  obtain ⟨I, μ, h0, hb⟩ := hw
  have key : ∀ (n : Nat) (M : Mem) (x1 : Int), I M x1 → μ M x1 < n → Z g p l e rm_X11_readHeld s m args below meth c 2 (MQ below (va_Qv (S := Mem) Q (fun u => Rp g u) (aR g)) args s 0 0 (aR g)) M 2 [(0, .ref (g.2.2.1 + a0)), (1, .int (i3 x1))] [] := by
    intro n
    induction n with
    | zero => exact fun _ _ _ h => absurd h (Nat.not_lt_zero _)
    | succ n ih =>
      intro M x1 hI hn
      exact bk_X11_readHeld_B2 F hr k0 (fun M' x1' hk => ih M' x1' hk.1 (Nat.lt_of_lt_of_le hk.2 (Nat.le_of_lt_succ hn))) (hb M x1 hI)
  exact key _ M x1 h0 (Nat.lt_succ_self _)
set_option maxRecDepth 100000 in
set_option maxHeartbeats 4000000 in
theorem c_X11_readHeld (l : Launch) (g : En) {a0 : Nat} {M : Mem} {Q : Mem → Prop} (k0 : kd a0 = 11) (hw : wp_X11_readHeld a0 M Q) :
    Met l yX11_readHeld (WS yX11_readHeld cX11_readHeld 2 none) rm_X11_readHeld (va_Pc [.ref (g.2.2.1 + a0)] (Rp g M)) (va_Qv (S := Mem) Q (fun u => Rp g u) (aR g)) 0 0 (aR g) := by
  refine met_Z (plainFor_of_name rfl) (Nat.le_of_ble_eq_true rfl) ?_
  intro p e s m args below meth c F hr _
  show Z g p l e rm_X11_readHeld s m args below meth c 2 (MQ below (va_Qv (S := Mem) Q (fun u => Rp g u) (aR g)) args s 0 0 (aR g)) M 0 [(0, .ref (g.2.2.1 + a0))] []
  refine z_iconst F dX11_readHeld_0 rfl ?_
  refine z_istore_n F dX11_readHeld_1 rfl rfl (by decide) rfl ?_
  refine z_sub [1, 0] rfl ?_
  exact lp_X11_readHeld_2 F hr k0 hw
theorem cv_X11_readHeld : CV yX11_readHeld RX11 cX11_readHeld 2 none 0 := ⟨w_655, w_8, w_67, w_656, rfl, by decide +kernel, by decide +kernel, by decide +kernel⟩
abbrev rm_X11_reckonRow : Room := { frames := 4, cells := 0, slots := 0, locals := 100 }
def wp_X11_reckonRow_b88 (a0 : Nat) (Q : Mem → Prop) (K6 : Mem → Int → Prop) (M : Mem) (x1 : Int) (x2 : Int) : Prop :=
  K6 M (x2 + 1)
def wp_X11_reckonRow_B6 (a0 : Nat) (Q : Mem → Prop) (K6 : Mem → Int → Prop) (M : Mem) (x1 : Int) (x2 : Int) : Prop :=
  (((w32 (M (rt a0 3) 0) ≤ w32 x2) → (
    wp_X10_reckonWorth (rt a0 10) (rt a0 9) (rt a0 3) M (fun M106 =>
    Q M106))) ∧
  (¬ (w32 (M (rt a0 3) 0) ≤ w32 x2) → (
    (((¬ w32 x1 = w32 (-1)) → (
      (((¬ w32 x1 = w32 (-2)) → (
        inb (rt (rt a0 3) 8) x1 ∧ (
        inb (rt (rt (rt a0 3) 8) (ix x1)) x2 ∧ (
        inb (rt a0 9) x2 ∧ (
        ∀ M87 : Mem, M87 = st2 M (rt a0 9) (ix x2) (M (rt (rt (rt a0 3) 8) (ix x1)) (ix x2)) →
        wp_X11_reckonRow_b88 a0 Q K6 M87 x1 x2))))) ∧
      (¬ (¬ w32 x1 = w32 (-2)) → (
        wp_X11_readHeld a0 M (fun M47 =>
        wp_X8_paidByAll (rt a0 3) (rt a0 8) x2 M47 (fun r64 =>
        inb (rt a0 9) x2 ∧ (
        ∀ M67 : Mem, M67 = st2 M47 (rt a0 9) (ix x2) r64 →
        wp_X11_reckonRow_b88 a0 Q K6 M67 x1 x2)))))))) ∧
    (¬ (¬ w32 x1 = w32 (-1)) → (
      inb (rt (rt a0 3) 2) x2 ∧ (
      inb (rt a0 9) x2 ∧ (
      ∀ M36 : Mem, M36 = st2 M (rt a0 9) (ix x2) (M (rt (rt a0 3) 2) (ix x2)) →
      wp_X11_reckonRow_b88 a0 Q K6 M36 x1 x2))))))))
def wp_X11_reckonRow_L6 (a0 : Nat) (Q : Mem → Prop) (M : Mem) (x1 : Int) (x2 : Int) : Prop :=
  ∃ (I : Mem → Int → Prop) (μ : Mem → Int → Nat), I M x2 ∧ ∀ (M : Mem) (x2 : Int), I M x2 →
    wp_X11_reckonRow_B6 a0 Q (fun M' x2' => I M' x2' ∧ μ M' x2' < μ M x2) M x1 x2
def wp_X11_reckonRow (a0 : Nat) (a1 : Int) (M : Mem) (Q : Mem → Prop) : Prop :=
  wp_X11_look a0 M (fun M1 =>
  wp_X11_reckonRow_L6 a0 Q M1 a1 0)
set_option maxRecDepth 100000 in
set_option maxHeartbeats 4000000 in
theorem bk_X11_reckonRow_88 {g : En} {p : Program} {l : Launch} {e : Env} {s : State} {m : MethodId} {args : Array Value} {below : List Frame} {meth : Method} {c : Code} {M : Mem} {a0 : Nat} {Q : Mem → Prop} {K6 : Mem → Int → Prop} {x1 : Int} {x2 : Int} (F : Fx g p s m args meth c cX11_reckonRow 3 RX11) (hr : meth.sig.returnType = none) (k0 : kd a0 = 11)
    (hK6 : ∀ (M' : Mem) (x2' : Int), K6 M' x2' → Z g p l e rm_X11_reckonRow s m args below meth c 3 (MQ below (va_Qv (S := Mem) Q (fun u => Rp g u) (aR g)) args s 0 0 (aR g)) M' 6 [(0, .ref (g.2.2.1 + a0)), (1, .int (i3 x1)), (2, .int (i3 x2'))] [])
    (hw : wp_X11_reckonRow_b88 a0 Q K6 M x1 x2) : Z g p l e rm_X11_reckonRow s m args below meth c 3 (MQ below (va_Qv (S := Mem) Q (fun u => Rp g u) (aR g)) args s 0 0 (aR g)) M 88 [(0, .ref (g.2.2.1 + a0)), (1, .int (i3 x1)), (2, .int (i3 x2))] [] := by
  refine z_iinc F dX11_reckonRow_88 rfl 2 rfl (by decide) rfl ?_
  refine z_goto F dX11_reckonRow_91 rfl ?_
  refine z_sub [1, 2, 0] rfl ?_
  exact hK6 M (x2 + 1) hw
set_option maxRecDepth 100000 in
set_option maxHeartbeats 4000000 in
theorem bk_X11_reckonRow_B6 {g : En} {p : Program} {l : Launch} {e : Env} {s : State} {m : MethodId} {args : Array Value} {below : List Frame} {meth : Method} {c : Code} {M : Mem} {a0 : Nat} {Q : Mem → Prop} {K6 : Mem → Int → Prop} {x1 : Int} {x2 : Int} (F : Fx g p s m args meth c cX11_reckonRow 3 RX11) (hr : meth.sig.returnType = none) (k0 : kd a0 = 11)
    (hK6 : ∀ (M' : Mem) (x2' : Int), K6 M' x2' → Z g p l e rm_X11_reckonRow s m args below meth c 3 (MQ below (va_Qv (S := Mem) Q (fun u => Rp g u) (aR g)) args s 0 0 (aR g)) M' 6 [(0, .ref (g.2.2.1 + a0)), (1, .int (i3 x1)), (2, .int (i3 x2'))] [])
    (hw : wp_X11_reckonRow_B6 a0 Q K6 M x1 x2) : Z g p l e rm_X11_reckonRow s m args below meth c 3 (MQ below (va_Qv (S := Mem) Q (fun u => Rp g u) (aR g)) args s 0 0 (aR g)) M 6 [(0, .ref (g.2.2.1 + a0)), (1, .int (i3 x1)), (2, .int (i3 x2))] [] := by
  refine z_iload_n F dX11_reckonRow_6 rfl rfl 2 rfl ?_
  refine z_aload_n F dX11_reckonRow_7 rfl rfl 0 rfl ?_
  refine z_getR F fl_448 k0 dX11_reckonRow_8 rfl ?_
  refine z_getI F fl_198 (tk_11_3 k0) dX11_reckonRow_11 rfl ?_
  refine z_icmp_ge F dX11_reckonRow_14 rfl rfl hw (fun hw => ?_) (fun hw => ?_)
  · refine z_aload_n F dX11_reckonRow_94 rfl rfl 0 rfl ?_
    refine z_getR F fl_455 k0 dX11_reckonRow_95 rfl ?_
    refine z_aload_n F dX11_reckonRow_98 rfl rfl 0 rfl ?_
    refine z_getR F fl_454 k0 dX11_reckonRow_99 rfl ?_
    refine z_aload_n F dX11_reckonRow_102 rfl rfl 0 rfl ?_
    refine z_getR F fl_448 k0 dX11_reckonRow_103 rfl ?_
    refine z_cVv (As := [.ref (g.2.2.1 + (rt a0 9)), .ref (g.2.2.1 + (rt a0 3))]) (st := []) F (c_X10_reckonWorth l g (tk_11_10 k0) (tk_11_9 k0) (tk_11_3 k0) hw) cv_X10_reckonWorth w_661 ⟨rfl, rfl, Nat.le_of_ble_eq_true rfl, Nat.le_of_ble_eq_true rfl⟩ (tk_11_10 k0) rfl rfl (Nat.le_of_ble_eq_true rfl) dX11_reckonRow_106 rfl (fun M106 hw => ?_)
    exact z_vret F hr dX11_reckonRow_109 hw
  · refine z_iload_n F dX11_reckonRow_17 rfl rfl 1 rfl ?_
    refine z_iconst F dX11_reckonRow_18 rfl ?_
    refine z_icmp_ne F dX11_reckonRow_19 rfl rfl hw (fun hw => ?_) (fun hw => ?_)
    · refine z_iload_n F dX11_reckonRow_40 rfl rfl 1 rfl ?_
      refine z_bipush F dX11_reckonRow_41 (by decide) rfl ?_
      refine z_icmp_ne F dX11_reckonRow_43 rfl rfl hw (fun hw => ?_) (fun hw => ?_)
      · refine z_aload_n F dX11_reckonRow_71 rfl rfl 0 rfl ?_
        refine z_getR F fl_454 k0 dX11_reckonRow_72 rfl ?_
        refine z_iload_n F dX11_reckonRow_75 rfl rfl 2 rfl ?_
        refine z_aload_n F dX11_reckonRow_76 rfl rfl 0 rfl ?_
        refine z_getR F fl_448 k0 dX11_reckonRow_77 rfl ?_
        refine z_getR F fl_224 (tk_11_3 k0) dX11_reckonRow_80 rfl ?_
        refine z_iload_n F dX11_reckonRow_83 rfl rfl 1 rfl ?_
        have n84 := hw.1
        refine z_aald F 4 (tk_8_8 (tk_11_3 k0)) rfl rfl dX11_reckonRow_84 rfl hw (fun hw => ?_)
        refine z_iload_n F dX11_reckonRow_85 rfl rfl 2 rfl ?_
        refine z_iald F (tka_19 (tk_8_8 (tk_11_3 k0)) n84) dX11_reckonRow_86 rfl hw (fun hw => ?_)
        refine z_iast F (tk_11_9 k0) dX11_reckonRow_87 rfl hw (fun hw => ?_)
        refine z_nmM (fun M87 eM87 => ?_)
        have hw := hw M87 eM87
        refine z_sub [0, 1, 2] rfl ?_
        exact bk_X11_reckonRow_88 F hr k0 hK6 hw
      · refine z_aload_n F dX11_reckonRow_46 rfl rfl 0 rfl ?_
        refine z_cVv (As := []) (st := []) F (c_X11_readHeld l g k0 hw) cv_X11_readHeld w_653 ⟨rfl, rfl, Nat.le_of_ble_eq_true rfl, Nat.le_of_ble_eq_true rfl⟩ k0 rfl rfl (Nat.le_of_ble_eq_true rfl) dX11_reckonRow_47 rfl (fun M47 hw => ?_)
        refine z_aload_n F dX11_reckonRow_50 rfl rfl 0 rfl ?_
        refine z_getR F fl_454 k0 dX11_reckonRow_51 rfl ?_
        refine z_iload_n F dX11_reckonRow_54 rfl rfl 2 rfl ?_
        refine z_aload_n F dX11_reckonRow_55 rfl rfl 0 rfl ?_
        refine z_getR F fl_448 k0 dX11_reckonRow_56 rfl ?_
        refine z_aload_n F dX11_reckonRow_59 rfl rfl 0 rfl ?_
        refine z_getR F fl_453 k0 dX11_reckonRow_60 rfl ?_
        refine z_iload_n F dX11_reckonRow_63 rfl rfl 2 rfl ?_
        refine z_cVip (As := [.ref (g.2.2.1 + (rt a0 8)), .int (i3 x2)]) (st := [.int (i3 x2), .ref (g.2.2.1 + (rt a0 9))]) F (c_X8_paidByAll l g (tk_11_3 k0) (tk_11_8 k0) hw) cv_X8_paidByAll w_657 ⟨rfl, rfl, Nat.le_of_ble_eq_true rfl, Nat.le_of_ble_eq_true rfl⟩ (tk_11_3 k0) rfl rfl (Nat.le_of_ble_eq_true rfl) dX11_reckonRow_64 rfl (fun r64 hw => ?_)
        refine z_iast F (tk_11_9 k0) dX11_reckonRow_67 rfl hw (fun hw => ?_)
        refine z_nmM (fun M67 eM67 => ?_)
        have hw := hw M67 eM67
        refine z_goto F dX11_reckonRow_68 rfl ?_
        refine z_sub [0, 1, 2] rfl ?_
        exact bk_X11_reckonRow_88 F hr k0 hK6 hw
    · refine z_aload_n F dX11_reckonRow_22 rfl rfl 0 rfl ?_
      refine z_getR F fl_454 k0 dX11_reckonRow_23 rfl ?_
      refine z_iload_n F dX11_reckonRow_26 rfl rfl 2 rfl ?_
      refine z_aload_n F dX11_reckonRow_27 rfl rfl 0 rfl ?_
      refine z_getR F fl_448 k0 dX11_reckonRow_28 rfl ?_
      refine z_getR F fl_204 (tk_11_3 k0) dX11_reckonRow_31 rfl ?_
      refine z_iload_n F dX11_reckonRow_34 rfl rfl 2 rfl ?_
      refine z_iald F (tk_8_2 (tk_11_3 k0)) dX11_reckonRow_35 rfl hw (fun hw => ?_)
      refine z_iast F (tk_11_9 k0) dX11_reckonRow_36 rfl hw (fun hw => ?_)
      refine z_nmM (fun M36 eM36 => ?_)
      have hw := hw M36 eM36
      refine z_goto F dX11_reckonRow_37 rfl ?_
      refine z_sub [0, 1, 2] rfl ?_
      exact bk_X11_reckonRow_88 F hr k0 hK6 hw
set_option maxRecDepth 100000 in
set_option maxHeartbeats 4000000 in
theorem lp_X11_reckonRow_6 {g : En} {p : Program} {l : Launch} {e : Env} {s : State} {m : MethodId} {args : Array Value} {below : List Frame} {meth : Method} {c : Code} {M : Mem} {a0 : Nat} {Q : Mem → Prop} {x1 : Int} {x2 : Int} (F : Fx g p s m args meth c cX11_reckonRow 3 RX11) (hr : meth.sig.returnType = none) (k0 : kd a0 = 11)
    (hw : wp_X11_reckonRow_L6 a0 Q M x1 x2) : Z g p l e rm_X11_reckonRow s m args below meth c 3 (MQ below (va_Qv (S := Mem) Q (fun u => Rp g u) (aR g)) args s 0 0 (aR g)) M 6 [(0, .ref (g.2.2.1 + a0)), (1, .int (i3 x1)), (2, .int (i3 x2))] [] := by
  obtain ⟨I, μ, h0, hb⟩ := hw
  have key : ∀ (n : Nat) (M : Mem) (x2 : Int), I M x2 → μ M x2 < n → Z g p l e rm_X11_reckonRow s m args below meth c 3 (MQ below (va_Qv (S := Mem) Q (fun u => Rp g u) (aR g)) args s 0 0 (aR g)) M 6 [(0, .ref (g.2.2.1 + a0)), (1, .int (i3 x1)), (2, .int (i3 x2))] [] := by
    intro n
    induction n with
    | zero => exact fun _ _ _ h => absurd h (Nat.not_lt_zero _)
    | succ n ih =>
      intro M x2 hI hn
      exact bk_X11_reckonRow_B6 F hr k0 (fun M' x2' hk => ih M' x2' hk.1 (Nat.lt_of_lt_of_le hk.2 (Nat.le_of_lt_succ hn))) (hb M x2 hI)
  exact key _ M x2 h0 (Nat.lt_succ_self _)
set_option maxRecDepth 100000 in
set_option maxHeartbeats 4000000 in
theorem c_X11_reckonRow (l : Launch) (g : En) {a0 : Nat} {a1 : Int} {M : Mem} {Q : Mem → Prop} (k0 : kd a0 = 11) (hw : wp_X11_reckonRow a0 a1 M Q) :
    Met l yX11_reckonRow (WS yX11_reckonRow cX11_reckonRow 3 none) rm_X11_reckonRow (va_Pc [.ref (g.2.2.1 + a0), .int (i3 a1)] (Rp g M)) (va_Qv (S := Mem) Q (fun u => Rp g u) (aR g)) 0 0 (aR g) := by
  refine met_Z (plainFor_of_name rfl) (Nat.le_of_ble_eq_true rfl) ?_
  intro p e s m args below meth c F hr _
  show Z g p l e rm_X11_reckonRow s m args below meth c 3 (MQ below (va_Qv (S := Mem) Q (fun u => Rp g u) (aR g)) args s 0 0 (aR g)) M 0 [(0, .ref (g.2.2.1 + a0)), (1, .int (i3 a1))] []
  refine z_aload_n F dX11_reckonRow_0 rfl rfl 0 rfl ?_
  refine z_cVv (As := []) (st := []) F (c_X11_look l g k0 hw) cv_X11_look w_530 ⟨rfl, rfl, Nat.le_of_ble_eq_true rfl, Nat.le_of_ble_eq_true rfl⟩ k0 rfl rfl (Nat.le_of_ble_eq_true rfl) dX11_reckonRow_1 rfl (fun M1 hw => ?_)
  refine z_iconst F dX11_reckonRow_4 rfl ?_
  refine z_istore_n F dX11_reckonRow_5 rfl rfl (by decide) rfl ?_
  refine z_sub [1, 2, 0] rfl ?_
  exact lp_X11_reckonRow_6 F hr k0 hw
theorem cv_X11_reckonRow : CV yX11_reckonRow RX11 cX11_reckonRow 3 none 1 := ⟨w_651, w_7, w_67, w_652, rfl, by decide +kernel, by decide +kernel, by decide +kernel⟩
abbrev rm_X11_worth : Room := { frames := 5, cells := 0, slots := 0, locals := 122 }
def wp_X11_worth (a0 : Nat) (a1 : Int) (a2 : Int) (M : Mem) (Q : Int → Mem → Prop) : Prop :=
  wp_X11_isRow a0 a1 M (fun r2 =>
  ((r2 = false → (
    Q (-9223372036854775808) M)) ∧
  (r2 = true → (
    wp_X11_isPart a2 M (fun r9 =>
    ((r9 = true → (
      wp_X11_reckonRow a0 a1 M (fun M21 =>
      wp_X4_part (rt (rt a0 10) 0) a2 M21 (fun r32 =>
      Q r32 M21)))) ∧
    (r9 = false → (
      Q (-9223372036854775808) M))))))))
set_option maxRecDepth 100000 in
set_option maxHeartbeats 4000000 in
theorem c_X11_worth (l : Launch) (g : En) {a0 : Nat} {a1 : Int} {a2 : Int} {M : Mem} {Q : Int → Mem → Prop} (k0 : kd a0 = 11) (hw : wp_X11_worth a0 a1 a2 M Q) :
    Met l yX11_worth (WS yX11_worth cX11_worth 3 (some .long)) rm_X11_worth (va_Pc [.ref (g.2.2.1 + a0), .int (i3 a1), .int (i3 a2)] (Rp g M)) (va_Ql (S := Int × Mem) (fun r u => r = i6 u.1 ∧ Q u.1 u.2) (fun u => Rp g u.2) (aR g)) 0 0 (aR g) := by
  refine met_Z (plainFor_of_name rfl) (Nat.le_of_ble_eq_true rfl) ?_
  intro p e s m args below meth c F hr _
  show Z g p l e rm_X11_worth s m args below meth c 3 (MQ below (va_Ql (S := Int × Mem) (fun r u => r = i6 u.1 ∧ Q u.1 u.2) (fun u => Rp g u.2) (aR g)) args s 0 0 (aR g)) M 0 [(0, .ref (g.2.2.1 + a0)), (1, .int (i3 a1)), (2, .int (i3 a2))] []
  refine z_aload_n F dX11_worth_0 rfl rfl 0 rfl ?_
  refine z_iload_n F dX11_worth_1 rfl rfl 1 rfl ?_
  refine z_cVbp (As := [.int (i3 a1)]) (st := []) F (c_X11_isRow l g k0 hw) cv_X11_isRow w_641 ⟨rfl, rfl, Nat.le_of_ble_eq_true rfl, Nat.le_of_ble_eq_true rfl⟩ k0 rfl rfl (Nat.le_of_ble_eq_true rfl) dX11_worth_2 rfl (fun r2 hw => ?_)
  refine z_ifb_eq F dX11_worth_5 rfl rfl hw (fun hw => ?_) (fun hw => ?_)
  · refine z_ldc2 (n := (-9223372036854775808)) F w_648 (by decide) dX11_worth_15 rfl ?_
    exact z_lret (x := (-9223372036854775808)) F hr dX11_worth_18 hw
  · refine z_iload_n F dX11_worth_8 rfl rfl 2 rfl ?_
    refine z_cSbp (As := [.int (i3 a2)]) (st := []) F (c_X11_isPart l g hw) cs_X11_isPart w_645 ⟨rfl, rfl, Nat.le_of_ble_eq_true rfl, Nat.le_of_ble_eq_true rfl⟩ rfl (Nat.le_of_ble_eq_true rfl) dX11_worth_9 rfl (fun r9 hw => ?_)
    refine z_ifb_ne F dX11_worth_12 rfl rfl hw (fun hw => ?_) (fun hw => ?_)
    · refine z_aload_n F dX11_worth_19 rfl rfl 0 rfl ?_
      refine z_iload_n F dX11_worth_20 rfl rfl 1 rfl ?_
      refine z_cVv (As := [.int (i3 a1)]) (st := []) F (c_X11_reckonRow l g k0 hw) cv_X11_reckonRow w_649 ⟨rfl, rfl, Nat.le_of_ble_eq_true rfl, Nat.le_of_ble_eq_true rfl⟩ k0 rfl rfl (Nat.le_of_ble_eq_true rfl) dX11_worth_21 rfl (fun M21 hw => ?_)
      refine z_aload_n F dX11_worth_24 rfl rfl 0 rfl ?_
      refine z_getR F fl_455 k0 dX11_worth_25 rfl ?_
      refine z_getR F fl_282 (tk_11_10 k0) dX11_worth_28 rfl ?_
      refine z_iload_n F dX11_worth_31 rfl rfl 2 rfl ?_
      refine z_cVlp (As := [.int (i3 a2)]) (st := []) F (c_X4_part l g (tk_10_0 (tk_11_10 k0)) hw) cv_X4_part w_695 ⟨rfl, rfl, Nat.le_of_ble_eq_true rfl, Nat.le_of_ble_eq_true rfl⟩ (tk_10_0 (tk_11_10 k0)) rfl rfl (Nat.le_of_ble_eq_true rfl) dX11_worth_32 rfl (fun r32 hw => ?_)
      exact z_lret (x := r32) F hr dX11_worth_35 hw
    · refine z_ldc2 (n := (-9223372036854775808)) F w_648 (by decide) dX11_worth_15 rfl ?_
      exact z_lret (x := (-9223372036854775808)) F hr dX11_worth_18 hw
theorem cv_X11_worth : CV yX11_worth RX11 cX11_worth 3 (some .long) 2 := ⟨w_638, w_639, w_67, w_640, rfl, by decide +kernel, by decide +kernel, by decide +kernel⟩
abbrev rm_X11_length : Room := { frames := 5, cells := 0, slots := 0, locals := 122 }
def wp_X11_length (a0 : Nat) (a1 : Int) (a2 : Int) (a3 : Int) (M : Mem) (Q : Int → Mem → Prop) : Prop :=
  wp_X11_isRow a0 a1 M (fun r2 =>
  ((r2 = false → (
    Q (-9223372036854775808) M)) ∧
  (r2 = true → (
    wp_X11_within a2 0 1 M (fun r11 =>
    ((r11 = false → (
      Q (-9223372036854775808) M)) ∧
    (r11 = true → (
      wp_X11_isPart a3 M (fun r18 =>
      ((r18 = true → (
        wp_X11_reckonRow a0 a1 M (fun M30 =>
        (((¬ w64 (M30 (rt (rt a0 10) 0) 0) = w64 0) → (
          wp_X10_reckonLength (rt a0 10) (M30 (rt a0 3) 0) M30 (fun M63 =>
          (((¬ w32 a2 = 0) → (
            wp_X10_reckonSpread (rt a0 10) (M63 (rt a0 3) 0) M63 (fun M93 =>
            wp_X4_part (rt (rt a0 10) 2) a3 M93 (fun r104 =>
            Q r104 M93)))) ∧
          (¬ (¬ w32 a2 = 0) → (
            wp_X4_part (rt (rt a0 10) 1) a3 M63 (fun r78 =>
            Q r78 M63))))))) ∧
        (¬ (¬ w64 (M30 (rt (rt a0 10) 0) 0) = w64 0) → (
          Q (-9223372036854775808) M30)))))) ∧
      (r18 = false → (
        Q (-9223372036854775808) M))))))))))))
set_option maxRecDepth 100000 in
set_option maxHeartbeats 4000000 in
theorem c_X11_length (l : Launch) (g : En) {a0 : Nat} {a1 : Int} {a2 : Int} {a3 : Int} {M : Mem} {Q : Int → Mem → Prop} (k0 : kd a0 = 11) (hw : wp_X11_length a0 a1 a2 a3 M Q) :
    Met l yX11_length (WS yX11_length cX11_length 4 (some .long)) rm_X11_length (va_Pc [.ref (g.2.2.1 + a0), .int (i3 a1), .int (i3 a2), .int (i3 a3)] (Rp g M)) (va_Ql (S := Int × Mem) (fun r u => r = i6 u.1 ∧ Q u.1 u.2) (fun u => Rp g u.2) (aR g)) 0 0 (aR g) := by
  refine met_Z (plainFor_of_name rfl) (Nat.le_of_ble_eq_true rfl) ?_
  intro p e s m args below meth c F hr _
  show Z g p l e rm_X11_length s m args below meth c 4 (MQ below (va_Ql (S := Int × Mem) (fun r u => r = i6 u.1 ∧ Q u.1 u.2) (fun u => Rp g u.2) (aR g)) args s 0 0 (aR g)) M 0 [(0, .ref (g.2.2.1 + a0)), (1, .int (i3 a1)), (2, .int (i3 a2)), (3, .int (i3 a3))] []
  refine z_aload_n F dX11_length_0 rfl rfl 0 rfl ?_
  refine z_iload_n F dX11_length_1 rfl rfl 1 rfl ?_
  refine z_cVbp (As := [.int (i3 a1)]) (st := []) F (c_X11_isRow l g k0 hw) cv_X11_isRow w_641 ⟨rfl, rfl, Nat.le_of_ble_eq_true rfl, Nat.le_of_ble_eq_true rfl⟩ k0 rfl rfl (Nat.le_of_ble_eq_true rfl) dX11_length_2 rfl (fun r2 hw => ?_)
  refine z_ifb_eq F dX11_length_5 rfl rfl hw (fun hw => ?_) (fun hw => ?_)
  · refine z_ldc2 (n := (-9223372036854775808)) F w_648 (by decide) dX11_length_24 rfl ?_
    exact z_lret (x := (-9223372036854775808)) F hr dX11_length_27 hw
  · refine z_iload_n F dX11_length_8 rfl rfl 2 rfl ?_
    refine z_iconst F dX11_length_9 rfl ?_
    refine z_iconst F dX11_length_10 rfl ?_
    refine z_cSbp (As := [.int (i3 a2), .int (i3 0), .int (i3 1)]) (st := []) F (c_X11_within l g hw) cs_X11_within w_507 ⟨rfl, rfl, Nat.le_of_ble_eq_true rfl, Nat.le_of_ble_eq_true rfl⟩ rfl (Nat.le_of_ble_eq_true rfl) dX11_length_11 rfl (fun r11 hw => ?_)
    refine z_ifb_eq F dX11_length_14 rfl rfl hw (fun hw => ?_) (fun hw => ?_)
    · refine z_ldc2 (n := (-9223372036854775808)) F w_648 (by decide) dX11_length_24 rfl ?_
      exact z_lret (x := (-9223372036854775808)) F hr dX11_length_27 hw
    · refine z_iload_n F dX11_length_17 rfl rfl 3 rfl ?_
      refine z_cSbp (As := [.int (i3 a3)]) (st := []) F (c_X11_isPart l g hw) cs_X11_isPart w_645 ⟨rfl, rfl, Nat.le_of_ble_eq_true rfl, Nat.le_of_ble_eq_true rfl⟩ rfl (Nat.le_of_ble_eq_true rfl) dX11_length_18 rfl (fun r18 hw => ?_)
      refine z_ifb_ne F dX11_length_21 rfl rfl hw (fun hw => ?_) (fun hw => ?_)
      · refine z_aload_n F dX11_length_28 rfl rfl 0 rfl ?_
        refine z_iload_n F dX11_length_29 rfl rfl 1 rfl ?_
        refine z_cVv (As := [.int (i3 a1)]) (st := []) F (c_X11_reckonRow l g k0 hw) cv_X11_reckonRow w_649 ⟨rfl, rfl, Nat.le_of_ble_eq_true rfl, Nat.le_of_ble_eq_true rfl⟩ k0 rfl rfl (Nat.le_of_ble_eq_true rfl) dX11_length_30 rfl (fun M30 hw => ?_)
        refine z_aload_n F dX11_length_33 rfl rfl 0 rfl ?_
        refine z_getR F fl_455 k0 dX11_length_34 rfl ?_
        refine z_getR F fl_282 (tk_11_10 k0) dX11_length_37 rfl ?_
        refine z_getL F fl_268 (tk_10_0 (tk_11_10 k0)) dX11_length_40 rfl ?_
        refine z_lconst (v := 0) F dX11_length_43 rfl rfl ?_
        refine z_lcmp_ne F dX11_length_44 rfl dX11_length_45 rfl rfl hw (fun hw => ?_) (fun hw => ?_)
        · refine z_aload_n F dX11_length_52 rfl rfl 0 rfl ?_
          refine z_getR F fl_455 k0 dX11_length_53 rfl ?_
          refine z_aload_n F dX11_length_56 rfl rfl 0 rfl ?_
          refine z_getR F fl_448 k0 dX11_length_57 rfl ?_
          refine z_getI F fl_198 (tk_11_3 k0) dX11_length_60 rfl ?_
          refine z_cVv (As := [.int (i3 (M30 (rt a0 3) 0))]) (st := []) F (c_X10_reckonLength l g (tk_11_10 k0) hw) cv_X10_reckonLength w_703 ⟨rfl, rfl, Nat.le_of_ble_eq_true rfl, Nat.le_of_ble_eq_true rfl⟩ (tk_11_10 k0) rfl rfl (Nat.le_of_ble_eq_true rfl) dX11_length_63 rfl (fun M63 hw => ?_)
          refine z_iload_n F dX11_length_66 rfl rfl 2 rfl ?_
          refine z_if_ne F dX11_length_67 rfl rfl hw (fun hw => ?_) (fun hw => ?_)
          · refine z_aload_n F dX11_length_82 rfl rfl 0 rfl ?_
            refine z_getR F fl_455 k0 dX11_length_83 rfl ?_
            refine z_aload_n F dX11_length_86 rfl rfl 0 rfl ?_
            refine z_getR F fl_448 k0 dX11_length_87 rfl ?_
            refine z_getI F fl_198 (tk_11_3 k0) dX11_length_90 rfl ?_
            refine z_cVv (As := [.int (i3 (M63 (rt a0 3) 0))]) (st := []) F (c_X10_reckonSpread l g (tk_11_10 k0) hw) cv_X10_reckonSpread w_711 ⟨rfl, rfl, Nat.le_of_ble_eq_true rfl, Nat.le_of_ble_eq_true rfl⟩ (tk_11_10 k0) rfl rfl (Nat.le_of_ble_eq_true rfl) dX11_length_93 rfl (fun M93 hw => ?_)
            refine z_aload_n F dX11_length_96 rfl rfl 0 rfl ?_
            refine z_getR F fl_455 k0 dX11_length_97 rfl ?_
            refine z_getR F fl_286 (tk_11_10 k0) dX11_length_100 rfl ?_
            refine z_iload_n F dX11_length_103 rfl rfl 3 rfl ?_
            refine z_cVlp (As := [.int (i3 a3)]) (st := []) F (c_X4_part l g (tk_10_2 (tk_11_10 k0)) hw) cv_X4_part w_695 ⟨rfl, rfl, Nat.le_of_ble_eq_true rfl, Nat.le_of_ble_eq_true rfl⟩ (tk_10_2 (tk_11_10 k0)) rfl rfl (Nat.le_of_ble_eq_true rfl) dX11_length_104 rfl (fun r104 hw => ?_)
            exact z_lret (x := r104) F hr dX11_length_107 hw
          · refine z_aload_n F dX11_length_70 rfl rfl 0 rfl ?_
            refine z_getR F fl_455 k0 dX11_length_71 rfl ?_
            refine z_getR F fl_284 (tk_11_10 k0) dX11_length_74 rfl ?_
            refine z_iload_n F dX11_length_77 rfl rfl 3 rfl ?_
            refine z_cVlp (As := [.int (i3 a3)]) (st := []) F (c_X4_part l g (tk_10_1 (tk_11_10 k0)) hw) cv_X4_part w_695 ⟨rfl, rfl, Nat.le_of_ble_eq_true rfl, Nat.le_of_ble_eq_true rfl⟩ (tk_10_1 (tk_11_10 k0)) rfl rfl (Nat.le_of_ble_eq_true rfl) dX11_length_78 rfl (fun r78 hw => ?_)
            exact z_lret (x := r78) F hr dX11_length_81 hw
        · refine z_ldc2 (n := (-9223372036854775808)) F w_648 (by decide) dX11_length_48 rfl ?_
          exact z_lret (x := (-9223372036854775808)) F hr dX11_length_51 hw
      · refine z_ldc2 (n := (-9223372036854775808)) F w_648 (by decide) dX11_length_24 rfl ?_
        exact z_lret (x := (-9223372036854775808)) F hr dX11_length_27 hw
theorem cv_X11_length : CV yX11_length RX11 cX11_length 4 (some .long) 3 := ⟨w_700, w_701, w_67, w_702, rfl, by decide +kernel, by decide +kernel, by decide +kernel⟩
abbrev rm_X11_surplus : Room := { frames := 5, cells := 0, slots := 0, locals := 122 }
def wp_X11_surplus (a0 : Nat) (a1 : Int) (M : Mem) (Q : Int → Mem → Prop) : Prop :=
  wp_X11_isPart a1 M (fun r1 =>
  ((r1 = true → (
    wp_X11_reckonRow a0 (-2) M (fun M14 =>
    wp_X4_become_ (rt a0 11) (rt (rt a0 10) 0) M14 (fun M28 =>
    wp_X11_reckonRow a0 (-1) M28 (fun M33 =>
    wp_X4_negate (rt (rt a0 10) 0) M33 (fun M43 =>
    wp_X4_add (rt a0 11) (rt (rt a0 10) 0) M43 (fun M57 =>
    wp_X4_part (rt a0 11) a1 M57 (fun r65 =>
    Q r65 M57)))))))) ∧
  (r1 = false → (
    Q (-9223372036854775808) M))))
set_option maxRecDepth 100000 in
set_option maxHeartbeats 4000000 in
theorem c_X11_surplus (l : Launch) (g : En) {a0 : Nat} {a1 : Int} {M : Mem} {Q : Int → Mem → Prop} (k0 : kd a0 = 11) (hw : wp_X11_surplus a0 a1 M Q) :
    Met l yX11_surplus (WS yX11_surplus cX11_surplus 2 (some .long)) rm_X11_surplus (va_Pc [.ref (g.2.2.1 + a0), .int (i3 a1)] (Rp g M)) (va_Ql (S := Int × Mem) (fun r u => r = i6 u.1 ∧ Q u.1 u.2) (fun u => Rp g u.2) (aR g)) 0 0 (aR g) := by
  refine met_Z (plainFor_of_name rfl) (Nat.le_of_ble_eq_true rfl) ?_
  intro p e s m args below meth c F hr _
  show Z g p l e rm_X11_surplus s m args below meth c 2 (MQ below (va_Ql (S := Int × Mem) (fun r u => r = i6 u.1 ∧ Q u.1 u.2) (fun u => Rp g u.2) (aR g)) args s 0 0 (aR g)) M 0 [(0, .ref (g.2.2.1 + a0)), (1, .int (i3 a1))] []
  refine z_iload_n F dX11_surplus_0 rfl rfl 1 rfl ?_
  refine z_cSbp (As := [.int (i3 a1)]) (st := []) F (c_X11_isPart l g hw) cs_X11_isPart w_645 ⟨rfl, rfl, Nat.le_of_ble_eq_true rfl, Nat.le_of_ble_eq_true rfl⟩ rfl (Nat.le_of_ble_eq_true rfl) dX11_surplus_1 rfl (fun r1 hw => ?_)
  refine z_ifb_ne F dX11_surplus_4 rfl rfl hw (fun hw => ?_) (fun hw => ?_)
  · refine z_aload_n F dX11_surplus_11 rfl rfl 0 rfl ?_
    refine z_bipush F dX11_surplus_12 (by decide) rfl ?_
    refine z_cVv (As := [.int (i3 (-2))]) (st := []) F (c_X11_reckonRow l g k0 hw) cv_X11_reckonRow w_649 ⟨rfl, rfl, Nat.le_of_ble_eq_true rfl, Nat.le_of_ble_eq_true rfl⟩ k0 rfl rfl (Nat.le_of_ble_eq_true rfl) dX11_surplus_14 rfl (fun M14 hw => ?_)
    refine z_aload_n F dX11_surplus_17 rfl rfl 0 rfl ?_
    refine z_getR F fl_456 k0 dX11_surplus_18 rfl ?_
    refine z_aload_n F dX11_surplus_21 rfl rfl 0 rfl ?_
    refine z_getR F fl_455 k0 dX11_surplus_22 rfl ?_
    refine z_getR F fl_282 (tk_11_10 k0) dX11_surplus_25 rfl ?_
    refine z_cVv (As := [.ref (g.2.2.1 + (rt (rt a0 10) 0))]) (st := []) F (c_X4_become_ l g (tk_11_11 k0) (tk_10_0 (tk_11_10 k0)) hw) cv_X4_become_ w_727 ⟨rfl, rfl, Nat.le_of_ble_eq_true rfl, Nat.le_of_ble_eq_true rfl⟩ (tk_11_11 k0) rfl rfl (Nat.le_of_ble_eq_true rfl) dX11_surplus_28 rfl (fun M28 hw => ?_)
    refine z_aload_n F dX11_surplus_31 rfl rfl 0 rfl ?_
    refine z_iconst F dX11_surplus_32 rfl ?_
    refine z_cVv (As := [.int (i3 (-1))]) (st := []) F (c_X11_reckonRow l g k0 hw) cv_X11_reckonRow w_649 ⟨rfl, rfl, Nat.le_of_ble_eq_true rfl, Nat.le_of_ble_eq_true rfl⟩ k0 rfl rfl (Nat.le_of_ble_eq_true rfl) dX11_surplus_33 rfl (fun M33 hw => ?_)
    refine z_aload_n F dX11_surplus_36 rfl rfl 0 rfl ?_
    refine z_getR F fl_455 k0 dX11_surplus_37 rfl ?_
    refine z_getR F fl_282 (tk_11_10 k0) dX11_surplus_40 rfl ?_
    refine z_cVv (As := []) (st := []) F (c_X4_negate l g (tk_10_0 (tk_11_10 k0)) hw) cv_X4_negate w_728 ⟨rfl, rfl, Nat.le_of_ble_eq_true rfl, Nat.le_of_ble_eq_true rfl⟩ (tk_10_0 (tk_11_10 k0)) rfl rfl (Nat.le_of_ble_eq_true rfl) dX11_surplus_43 rfl (fun M43 hw => ?_)
    refine z_aload_n F dX11_surplus_46 rfl rfl 0 rfl ?_
    refine z_getR F fl_456 k0 dX11_surplus_47 rfl ?_
    refine z_aload_n F dX11_surplus_50 rfl rfl 0 rfl ?_
    refine z_getR F fl_455 k0 dX11_surplus_51 rfl ?_
    refine z_getR F fl_282 (tk_11_10 k0) dX11_surplus_54 rfl ?_
    refine z_cVv (As := [.ref (g.2.2.1 + (rt (rt a0 10) 0))]) (st := []) F (c_X4_add l g (tk_11_11 k0) (tk_10_0 (tk_11_10 k0)) hw) cv_X4_add w_729 ⟨rfl, rfl, Nat.le_of_ble_eq_true rfl, Nat.le_of_ble_eq_true rfl⟩ (tk_11_11 k0) rfl rfl (Nat.le_of_ble_eq_true rfl) dX11_surplus_57 rfl (fun M57 hw => ?_)
    refine z_aload_n F dX11_surplus_60 rfl rfl 0 rfl ?_
    refine z_getR F fl_456 k0 dX11_surplus_61 rfl ?_
    refine z_iload_n F dX11_surplus_64 rfl rfl 1 rfl ?_
    refine z_cVlp (As := [.int (i3 a1)]) (st := []) F (c_X4_part l g (tk_11_11 k0) hw) cv_X4_part w_695 ⟨rfl, rfl, Nat.le_of_ble_eq_true rfl, Nat.le_of_ble_eq_true rfl⟩ (tk_11_11 k0) rfl rfl (Nat.le_of_ble_eq_true rfl) dX11_surplus_65 rfl (fun r65 hw => ?_)
    exact z_lret (x := r65) F hr dX11_surplus_68 hw
  · refine z_ldc2 (n := (-9223372036854775808)) F w_648 (by decide) dX11_surplus_7 rfl ?_
    exact z_lret (x := (-9223372036854775808)) F hr dX11_surplus_10 hw
theorem cv_X11_surplus : CV yX11_surplus RX11 cX11_surplus 2 (some .long) 1 := ⟨w_724, w_725, w_67, w_726, rfl, by decide +kernel, by decide +kernel, by decide +kernel⟩
abbrev rm_X11_solve : Room := { frames := 5, cells := 0, slots := 0, locals := 130 }
def wp_X11_solve (a0 : Nat) (M : Mem) (Q : Mem → Prop) : Prop :=
  wp_X11_look a0 M (fun M1 =>
  (((fb M1 a0 13) = true → (
    Q M1)) ∧
  ((fb M1 a0 13) = false → (
    wp_X3_begin (rt a0 12) (rt a0 0) (rt a0 3) M1 (fun M23 =>
    wp_X3_solve (rt a0 12) M23 (fun r31 M31 =>
    ∀ M34 : Mem, M34 = st2 M31 a0 14 r31 →
    ∀ M39 : Mem, M39 = st2 M34 a0 13 (bz true) →
    Q M39))))))
set_option maxRecDepth 100000 in
set_option maxHeartbeats 4000000 in
theorem c_X11_solve (l : Launch) (g : En) {a0 : Nat} {M : Mem} {Q : Mem → Prop} (k0 : kd a0 = 11) (hw : wp_X11_solve a0 M Q) :
    Met l yX11_solve (WS yX11_solve cX11_solve 1 none) rm_X11_solve (va_Pc [.ref (g.2.2.1 + a0)] (Rp g M)) (va_Qv (S := Mem) Q (fun u => Rp g u) (aR g)) 0 0 (aR g) := by
  refine met_Z (plainFor_of_name rfl) (Nat.le_of_ble_eq_true rfl) ?_
  intro p e s m args below meth c F hr _
  show Z g p l e rm_X11_solve s m args below meth c 1 (MQ below (va_Qv (S := Mem) Q (fun u => Rp g u) (aR g)) args s 0 0 (aR g)) M 0 [(0, .ref (g.2.2.1 + a0))] []
  refine z_aload_n F dX11_solve_0 rfl rfl 0 rfl ?_
  refine z_cVv (As := []) (st := []) F (c_X11_look l g k0 hw) cv_X11_look w_530 ⟨rfl, rfl, Nat.le_of_ble_eq_true rfl, Nat.le_of_ble_eq_true rfl⟩ k0 rfl rfl (Nat.le_of_ble_eq_true rfl) dX11_solve_1 rfl (fun M1 hw => ?_)
  refine z_aload_n F dX11_solve_4 rfl rfl 0 rfl ?_
  refine z_getB F fl_458 k0 dX11_solve_5 rfl ?_
  refine z_ifb_ne F dX11_solve_8 rfl rfl hw (fun hw => ?_) (fun hw => ?_)
  · exact z_vret F hr dX11_solve_42 hw
  · refine z_aload_n F dX11_solve_11 rfl rfl 0 rfl ?_
    refine z_getR F fl_457 k0 dX11_solve_12 rfl ?_
    refine z_aload_n F dX11_solve_15 rfl rfl 0 rfl ?_
    refine z_getR F fl_445 k0 dX11_solve_16 rfl ?_
    refine z_aload_n F dX11_solve_19 rfl rfl 0 rfl ?_
    refine z_getR F fl_448 k0 dX11_solve_20 rfl ?_
    refine z_cVv (As := [.ref (g.2.2.1 + (rt a0 0)), .ref (g.2.2.1 + (rt a0 3))]) (st := []) F (c_X3_begin l g (tk_11_12 k0) (tk_11_0 k0) (tk_11_3 k0) hw) cv_X3_begin w_738 ⟨rfl, rfl, Nat.le_of_ble_eq_true rfl, Nat.le_of_ble_eq_true rfl⟩ (tk_11_12 k0) rfl rfl (Nat.le_of_ble_eq_true rfl) dX11_solve_23 rfl (fun M23 hw => ?_)
    refine z_aload_n F dX11_solve_26 rfl rfl 0 rfl ?_
    refine z_aload_n F dX11_solve_27 rfl rfl 0 rfl ?_
    refine z_getR F fl_457 k0 dX11_solve_28 rfl ?_
    refine z_cVi (As := []) (st := [.ref (g.2.2.1 + a0)]) F (c_X3_solve l g (tk_11_12 k0) hw) cv_X3_solve w_773 ⟨rfl, rfl, Nat.le_of_ble_eq_true rfl, Nat.le_of_ble_eq_true rfl⟩ (tk_11_12 k0) rfl rfl (Nat.le_of_ble_eq_true rfl) dX11_solve_31 rfl (fun r31 M31 hw => ?_)
    refine z_putI F fp_459 k0 dX11_solve_34 rfl ?_
    refine z_nmM (fun M34 eM34 => ?_)
    have hw := hw M34 eM34
    refine z_aload_n F dX11_solve_37 rfl rfl 0 rfl ?_
    refine z_iconst F dX11_solve_38 rfl ?_
    refine z_putB (r := true) F fp_458 k0 dX11_solve_39 rfl ?_
    refine z_nmM (fun M39 eM39 => ?_)
    have hw := hw M39 eM39
    exact z_vret F hr dX11_solve_42 hw
theorem cv_X11_solve : CV yX11_solve RX11 cX11_solve 1 none 0 := ⟨w_736, w_10, w_67, w_737, rfl, by decide +kernel, by decide +kernel, by decide +kernel⟩
abbrev rm_X11_least : Room := { frames := 6, cells := 0, slots := 0, locals := 150 }
def wp_X11_least (a0 : Nat) (M : Mem) (Q : Int → Mem → Prop) : Prop :=
  wp_X11_solve a0 M (fun M1 =>
  Q (M1 a0 14) M1)
set_option maxRecDepth 100000 in
set_option maxHeartbeats 4000000 in
theorem c_X11_least (l : Launch) (g : En) {a0 : Nat} {M : Mem} {Q : Int → Mem → Prop} (k0 : kd a0 = 11) (hw : wp_X11_least a0 M Q) :
    Met l yX11_least (WS yX11_least cX11_least 1 (some .int)) rm_X11_least (va_Pc [.ref (g.2.2.1 + a0)] (Rp g M)) (va_Qi (S := Int × Mem) (fun r u => r = i3 u.1 ∧ Q u.1 u.2) (fun u => Rp g u.2) (aR g)) 0 0 (aR g) := by
  refine met_Z (plainFor_of_name rfl) (Nat.le_of_ble_eq_true rfl) ?_
  intro p e s m args below meth c F hr _
  show Z g p l e rm_X11_least s m args below meth c 1 (MQ below (va_Qi (S := Int × Mem) (fun r u => r = i3 u.1 ∧ Q u.1 u.2) (fun u => Rp g u.2) (aR g)) args s 0 0 (aR g)) M 0 [(0, .ref (g.2.2.1 + a0))] []
  refine z_aload_n F dX11_least_0 rfl rfl 0 rfl ?_
  refine z_cVv (As := []) (st := []) F (c_X11_solve l g k0 hw) cv_X11_solve w_734 ⟨rfl, rfl, Nat.le_of_ble_eq_true rfl, Nat.le_of_ble_eq_true rfl⟩ k0 rfl rfl (Nat.le_of_ble_eq_true rfl) dX11_least_1 rfl (fun M1 hw => ?_)
  refine z_aload_n F dX11_least_4 rfl rfl 0 rfl ?_
  refine z_getI F fl_459 k0 dX11_least_5 rfl ?_
  exact z_iret (x := (M1 a0 14)) F hr dX11_least_8 hw
theorem cv_X11_least : CV yX11_least RX11 cX11_least 1 (some .int) 0 := ⟨w_731, w_732, w_67, w_733, rfl, by decide +kernel, by decide +kernel, by decide +kernel⟩
abbrev rm_X11_amount : Room := { frames := 6, cells := 0, slots := 0, locals := 150 }
def wp_X11_amount_b16 (a0 : Nat) (Q : Int → Mem → Prop) (M : Mem) (x1 : Int) (x2 : Int) : Prop :=
  wp_X11_isPart x2 M (fun r17 =>
  ((r17 = true → (
    wp_X11_solve a0 M (fun M28 =>
    (((0 ≤ w32 (M28 a0 14)) → (
      (((¬ w32 x1 = w32 (-1)) → (
        wp_X3_amountOf (rt a0 12) x1 (rt a0 11) M28 (fun M71 =>
        wp_X4_part (rt a0 11) x2 M71 (fun r79 =>
        Q r79 M71)))) ∧
      (¬ (¬ w32 x1 = w32 (-1)) → (
        wp_X4_part (rt (rt (rt a0 12) 0) 1) x2 M28 (fun r58 =>
        Q r58 M28)))))) ∧
    (¬ (0 ≤ w32 (M28 a0 14)) → (
      Q (-9223372036854775808) M28)))))) ∧
  (r17 = false → (
    Q (-9223372036854775808) M))))
def wp_X11_amount (a0 : Nat) (a1 : Int) (a2 : Int) (M : Mem) (Q : Int → Mem → Prop) : Prop :=
  (((w32 a1 = w32 (-1)) → (
    wp_X11_amount_b16 a0 Q M a1 a2)) ∧
  (¬ (w32 a1 = w32 (-1)) → (
    wp_X1_hasBond (rt a0 0) a1 M (fun r10 =>
    ((r10 = false → (
      Q (-9223372036854775808) M)) ∧
    (r10 = true → (
      wp_X11_amount_b16 a0 Q M a1 a2)))))))
set_option maxRecDepth 100000 in
set_option maxHeartbeats 4000000 in
theorem bk_X11_amount_16 {g : En} {p : Program} {l : Launch} {e : Env} {s : State} {m : MethodId} {args : Array Value} {below : List Frame} {meth : Method} {c : Code} {M : Mem} {a0 : Nat} {Q : Int → Mem → Prop} {x1 : Int} {x2 : Int} (F : Fx g p s m args meth c cX11_amount 3 RX11) (hr : meth.sig.returnType = (some .long)) (k0 : kd a0 = 11)
    (hw : wp_X11_amount_b16 a0 Q M x1 x2) : Z g p l e rm_X11_amount s m args below meth c 3 (MQ below (va_Ql (S := Int × Mem) (fun r u => r = i6 u.1 ∧ Q u.1 u.2) (fun u => Rp g u.2) (aR g)) args s 0 0 (aR g)) M 16 [(0, .ref (g.2.2.1 + a0)), (1, .int (i3 x1)), (2, .int (i3 x2))] [] := by
  refine z_iload_n F dX11_amount_16 rfl rfl 2 rfl ?_
  refine z_cSbp (As := [.int (i3 x2)]) (st := []) F (c_X11_isPart l g hw) cs_X11_isPart w_645 ⟨rfl, rfl, Nat.le_of_ble_eq_true rfl, Nat.le_of_ble_eq_true rfl⟩ rfl (Nat.le_of_ble_eq_true rfl) dX11_amount_17 rfl (fun r17 hw => ?_)
  refine z_ifb_ne F dX11_amount_20 rfl rfl hw (fun hw => ?_) (fun hw => ?_)
  · refine z_aload_n F dX11_amount_27 rfl rfl 0 rfl ?_
    refine z_cVv (As := []) (st := []) F (c_X11_solve l g k0 hw) cv_X11_solve w_734 ⟨rfl, rfl, Nat.le_of_ble_eq_true rfl, Nat.le_of_ble_eq_true rfl⟩ k0 rfl rfl (Nat.le_of_ble_eq_true rfl) dX11_amount_28 rfl (fun M28 hw => ?_)
    refine z_aload_n F dX11_amount_31 rfl rfl 0 rfl ?_
    refine z_getI F fl_459 k0 dX11_amount_32 rfl ?_
    refine z_if_ge F dX11_amount_35 rfl rfl hw (fun hw => ?_) (fun hw => ?_)
    · refine z_iload_n F dX11_amount_42 rfl rfl 1 rfl ?_
      refine z_iconst F dX11_amount_43 rfl ?_
      refine z_icmp_ne F dX11_amount_44 rfl rfl hw (fun hw => ?_) (fun hw => ?_)
      · refine z_aload_n F dX11_amount_62 rfl rfl 0 rfl ?_
        refine z_getR F fl_457 k0 dX11_amount_63 rfl ?_
        refine z_iload_n F dX11_amount_66 rfl rfl 1 rfl ?_
        refine z_aload_n F dX11_amount_67 rfl rfl 0 rfl ?_
        refine z_getR F fl_456 k0 dX11_amount_68 rfl ?_
        refine z_cVv (As := [.int (i3 x1), .ref (g.2.2.1 + (rt a0 11))]) (st := []) F (c_X3_amountOf l g (tk_11_12 k0) (tk_11_11 k0) hw) cv_X3_amountOf w_821 ⟨rfl, rfl, Nat.le_of_ble_eq_true rfl, Nat.le_of_ble_eq_true rfl⟩ (tk_11_12 k0) rfl rfl (Nat.le_of_ble_eq_true rfl) dX11_amount_71 rfl (fun M71 hw => ?_)
        refine z_aload_n F dX11_amount_74 rfl rfl 0 rfl ?_
        refine z_getR F fl_456 k0 dX11_amount_75 rfl ?_
        refine z_iload_n F dX11_amount_78 rfl rfl 2 rfl ?_
        refine z_cVlp (As := [.int (i3 x2)]) (st := []) F (c_X4_part l g (tk_11_11 k0) hw) cv_X4_part w_695 ⟨rfl, rfl, Nat.le_of_ble_eq_true rfl, Nat.le_of_ble_eq_true rfl⟩ (tk_11_11 k0) rfl rfl (Nat.le_of_ble_eq_true rfl) dX11_amount_79 rfl (fun r79 hw => ?_)
        exact z_lret (x := r79) F hr dX11_amount_82 hw
      · refine z_aload_n F dX11_amount_47 rfl rfl 0 rfl ?_
        refine z_getR F fl_457 k0 dX11_amount_48 rfl ?_
        refine z_getR F fl_340 (tk_11_12 k0) dX11_amount_51 rfl ?_
        refine z_getR F fl_326 (tk_3_0 (tk_11_12 k0)) dX11_amount_54 rfl ?_
        refine z_iload_n F dX11_amount_57 rfl rfl 2 rfl ?_
        refine z_cVlp (As := [.int (i3 x2)]) (st := []) F (c_X4_part l g (tk_7_1 (tk_3_0 (tk_11_12 k0))) hw) cv_X4_part w_695 ⟨rfl, rfl, Nat.le_of_ble_eq_true rfl, Nat.le_of_ble_eq_true rfl⟩ (tk_7_1 (tk_3_0 (tk_11_12 k0))) rfl rfl (Nat.le_of_ble_eq_true rfl) dX11_amount_58 rfl (fun r58 hw => ?_)
        exact z_lret (x := r58) F hr dX11_amount_61 hw
    · refine z_ldc2 (n := (-9223372036854775808)) F w_648 (by decide) dX11_amount_38 rfl ?_
      exact z_lret (x := (-9223372036854775808)) F hr dX11_amount_41 hw
  · refine z_ldc2 (n := (-9223372036854775808)) F w_648 (by decide) dX11_amount_23 rfl ?_
    exact z_lret (x := (-9223372036854775808)) F hr dX11_amount_26 hw
set_option maxRecDepth 100000 in
set_option maxHeartbeats 4000000 in
theorem c_X11_amount (l : Launch) (g : En) {a0 : Nat} {a1 : Int} {a2 : Int} {M : Mem} {Q : Int → Mem → Prop} (k0 : kd a0 = 11) (hw : wp_X11_amount a0 a1 a2 M Q) :
    Met l yX11_amount (WS yX11_amount cX11_amount 3 (some .long)) rm_X11_amount (va_Pc [.ref (g.2.2.1 + a0), .int (i3 a1), .int (i3 a2)] (Rp g M)) (va_Ql (S := Int × Mem) (fun r u => r = i6 u.1 ∧ Q u.1 u.2) (fun u => Rp g u.2) (aR g)) 0 0 (aR g) := by
  refine met_Z (plainFor_of_name rfl) (Nat.le_of_ble_eq_true rfl) ?_
  intro p e s m args below meth c F hr _
  show Z g p l e rm_X11_amount s m args below meth c 3 (MQ below (va_Ql (S := Int × Mem) (fun r u => r = i6 u.1 ∧ Q u.1 u.2) (fun u => Rp g u.2) (aR g)) args s 0 0 (aR g)) M 0 [(0, .ref (g.2.2.1 + a0)), (1, .int (i3 a1)), (2, .int (i3 a2))] []
  refine z_iload_n F dX11_amount_0 rfl rfl 1 rfl ?_
  refine z_iconst F dX11_amount_1 rfl ?_
  refine z_icmp_eq F dX11_amount_2 rfl rfl hw (fun hw => ?_) (fun hw => ?_)
  · refine z_sub [0, 1, 2] rfl ?_
    exact bk_X11_amount_16 F hr k0 hw
  · refine z_aload_n F dX11_amount_5 rfl rfl 0 rfl ?_
    refine z_getR F fl_445 k0 dX11_amount_6 rfl ?_
    refine z_iload_n F dX11_amount_9 rfl rfl 1 rfl ?_
    refine z_cVbp (As := [.int (i3 a1)]) (st := []) F (c_X1_hasBond l g (tk_11_0 k0) hw) cv_X1_hasBond w_587 ⟨rfl, rfl, Nat.le_of_ble_eq_true rfl, Nat.le_of_ble_eq_true rfl⟩ (tk_11_0 k0) rfl rfl (Nat.le_of_ble_eq_true rfl) dX11_amount_10 rfl (fun r10 hw => ?_)
    refine z_ifb_eq F dX11_amount_13 rfl rfl hw (fun hw => ?_) (fun hw => ?_)
    · refine z_ldc2 (n := (-9223372036854775808)) F w_648 (by decide) dX11_amount_23 rfl ?_
      exact z_lret (x := (-9223372036854775808)) F hr dX11_amount_26 hw
    · refine z_sub [0, 1, 2] rfl ?_
      exact bk_X11_amount_16 F hr k0 hw
theorem cv_X11_amount : CV yX11_amount RX11 cX11_amount 3 (some .long) 2 := ⟨w_818, w_819, w_67, w_820, rfl, by decide +kernel, by decide +kernel, by decide +kernel⟩
abbrev rm_X11_proof : Room := { frames := 6, cells := 0, slots := 0, locals := 150 }
def wp_X11_proof_b146 (a0 : Nat) (Q : Int → Mem → Prop) (M : Mem) (x3 : Int) : Prop :=
  wp_X4_part (rt a0 11) x3 M (fun r151 =>
  Q r151 M)
def wp_X11_proof (a0 : Nat) (a1 : Int) (a2 : Int) (a3 : Int) (M : Mem) (Q : Int → Mem → Prop) : Prop :=
  wp_X11_look a0 M (fun M1 =>
  wp_X8_hasRung (rt a0 3) a1 M1 (fun r9 =>
  ((r9 = false → (
    Q (-9223372036854775808) M1)) ∧
  (r9 = true → (
    wp_X11_within a2 0 3 M1 (fun r18 =>
    ((r18 = false → (
      Q (-9223372036854775808) M1)) ∧
    (r18 = true → (
      wp_X11_isPart a3 M1 (fun r25 =>
      ((r25 = true → (
        wp_X11_solve a0 M1 (fun M36 =>
        (((0 ≤ w32 (M36 a0 14)) → (
          ((w32 a2 = 0 → (
            wp_X3_amountOf (rt a0 12) (10 + a1) (rt a0 11) M36 (fun M88 =>
            wp_X11_proof_b146 a0 Q M88 a3))) ∧
          (w32 a2 = 1 → (
            wp_X3_priceOf (rt a0 12) (10 + a1) (rt a0 11) M36 (fun M106 =>
            wp_X11_proof_b146 a0 Q M106 a3))) ∧
          (w32 a2 = 2 → (
            wp_X3_priceOf (rt a0 12) (20 + a1) (rt a0 11) M36 (fun M124 =>
            wp_X11_proof_b146 a0 Q M124 a3))) ∧
          ((w32 a2 < 0 ∨ 2 < w32 a2) → (
            wp_X3_prove (rt a0 12) a1 (rt a0 3) (rt a0 11) M36 (fun M143 =>
            wp_X11_proof_b146 a0 Q M143 a3)))))) ∧
        (¬ (0 ≤ w32 (M36 a0 14)) → (
          Q (-9223372036854775808) M36)))))) ∧
      (r25 = false → (
        Q (-9223372036854775808) M1)))))))))))))
set_option maxRecDepth 100000 in
set_option maxHeartbeats 4000000 in
theorem bk_X11_proof_146 {g : En} {p : Program} {l : Launch} {e : Env} {s : State} {m : MethodId} {args : Array Value} {below : List Frame} {meth : Method} {c : Code} {M : Mem} {a0 : Nat} {Q : Int → Mem → Prop} {x3 : Int} (F : Fx g p s m args meth c cX11_proof 4 RX11) (hr : meth.sig.returnType = (some .long)) (k0 : kd a0 = 11)
    (hw : wp_X11_proof_b146 a0 Q M x3) : Z g p l e rm_X11_proof s m args below meth c 4 (MQ below (va_Ql (S := Int × Mem) (fun r u => r = i6 u.1 ∧ Q u.1 u.2) (fun u => Rp g u.2) (aR g)) args s 0 0 (aR g)) M 146 [(0, .ref (g.2.2.1 + a0)), (3, .int (i3 x3))] [] := by
  refine z_aload_n F dX11_proof_146 rfl rfl 0 rfl ?_
  refine z_getR F fl_456 k0 dX11_proof_147 rfl ?_
  refine z_iload_n F dX11_proof_150 rfl rfl 1 rfl ?_
  refine z_cVlp (As := [.int (i3 x3)]) (st := []) F (c_X4_part l g (tk_11_11 k0) hw) cv_X4_part w_695 ⟨rfl, rfl, Nat.le_of_ble_eq_true rfl, Nat.le_of_ble_eq_true rfl⟩ (tk_11_11 k0) rfl rfl (Nat.le_of_ble_eq_true rfl) dX11_proof_151 rfl (fun r151 hw => ?_)
  exact z_lret (x := r151) F hr dX11_proof_154 hw
set_option maxRecDepth 100000 in
set_option maxHeartbeats 4000000 in
theorem c_X11_proof (l : Launch) (g : En) {a0 : Nat} {a1 : Int} {a2 : Int} {a3 : Int} {M : Mem} {Q : Int → Mem → Prop} (k0 : kd a0 = 11) (hw : wp_X11_proof a0 a1 a2 a3 M Q) :
    Met l yX11_proof (WS yX11_proof cX11_proof 4 (some .long)) rm_X11_proof (va_Pc [.ref (g.2.2.1 + a0), .int (i3 a1), .int (i3 a2), .int (i3 a3)] (Rp g M)) (va_Ql (S := Int × Mem) (fun r u => r = i6 u.1 ∧ Q u.1 u.2) (fun u => Rp g u.2) (aR g)) 0 0 (aR g) := by
  refine met_Z (plainFor_of_name rfl) (Nat.le_of_ble_eq_true rfl) ?_
  intro p e s m args below meth c F hr _
  show Z g p l e rm_X11_proof s m args below meth c 4 (MQ below (va_Ql (S := Int × Mem) (fun r u => r = i6 u.1 ∧ Q u.1 u.2) (fun u => Rp g u.2) (aR g)) args s 0 0 (aR g)) M 0 [(0, .ref (g.2.2.1 + a0)), (1, .int (i3 a1)), (2, .int (i3 a2)), (3, .int (i3 a3))] []
  refine z_aload_n F dX11_proof_0 rfl rfl 0 rfl ?_
  refine z_cVv (As := []) (st := []) F (c_X11_look l g k0 hw) cv_X11_look w_530 ⟨rfl, rfl, Nat.le_of_ble_eq_true rfl, Nat.le_of_ble_eq_true rfl⟩ k0 rfl rfl (Nat.le_of_ble_eq_true rfl) dX11_proof_1 rfl (fun M1 hw => ?_)
  refine z_aload_n F dX11_proof_4 rfl rfl 0 rfl ?_
  refine z_getR F fl_448 k0 dX11_proof_5 rfl ?_
  refine z_iload_n F dX11_proof_8 rfl rfl 1 rfl ?_
  refine z_cVbp (As := [.int (i3 a1)]) (st := []) F (c_X8_hasRung l g (tk_11_3 k0) hw) cv_X8_hasRung w_564 ⟨rfl, rfl, Nat.le_of_ble_eq_true rfl, Nat.le_of_ble_eq_true rfl⟩ (tk_11_3 k0) rfl rfl (Nat.le_of_ble_eq_true rfl) dX11_proof_9 rfl (fun r9 hw => ?_)
  refine z_ifb_eq F dX11_proof_12 rfl rfl hw (fun hw => ?_) (fun hw => ?_)
  · refine z_ldc2 (n := (-9223372036854775808)) F w_648 (by decide) dX11_proof_31 rfl ?_
    exact z_lret (x := (-9223372036854775808)) F hr dX11_proof_34 hw
  · refine z_iload_n F dX11_proof_15 rfl rfl 2 rfl ?_
    refine z_iconst F dX11_proof_16 rfl ?_
    refine z_iconst F dX11_proof_17 rfl ?_
    refine z_cSbp (As := [.int (i3 a2), .int (i3 0), .int (i3 3)]) (st := []) F (c_X11_within l g hw) cs_X11_within w_507 ⟨rfl, rfl, Nat.le_of_ble_eq_true rfl, Nat.le_of_ble_eq_true rfl⟩ rfl (Nat.le_of_ble_eq_true rfl) dX11_proof_18 rfl (fun r18 hw => ?_)
    refine z_ifb_eq F dX11_proof_21 rfl rfl hw (fun hw => ?_) (fun hw => ?_)
    · refine z_ldc2 (n := (-9223372036854775808)) F w_648 (by decide) dX11_proof_31 rfl ?_
      exact z_lret (x := (-9223372036854775808)) F hr dX11_proof_34 hw
    · refine z_iload_n F dX11_proof_24 rfl rfl 3 rfl ?_
      refine z_cSbp (As := [.int (i3 a3)]) (st := []) F (c_X11_isPart l g hw) cs_X11_isPart w_645 ⟨rfl, rfl, Nat.le_of_ble_eq_true rfl, Nat.le_of_ble_eq_true rfl⟩ rfl (Nat.le_of_ble_eq_true rfl) dX11_proof_25 rfl (fun r25 hw => ?_)
      refine z_ifb_ne F dX11_proof_28 rfl rfl hw (fun hw => ?_) (fun hw => ?_)
      · refine z_aload_n F dX11_proof_35 rfl rfl 0 rfl ?_
        refine z_cVv (As := []) (st := []) F (c_X11_solve l g k0 hw) cv_X11_solve w_734 ⟨rfl, rfl, Nat.le_of_ble_eq_true rfl, Nat.le_of_ble_eq_true rfl⟩ k0 rfl rfl (Nat.le_of_ble_eq_true rfl) dX11_proof_36 rfl (fun M36 hw => ?_)
        refine z_aload_n F dX11_proof_39 rfl rfl 0 rfl ?_
        refine z_getI F fl_459 k0 dX11_proof_40 rfl ?_
        refine z_if_ge F dX11_proof_43 rfl rfl hw (fun hw => ?_) (fun hw => ?_)
        · refine z_iload_n F dX11_proof_50 rfl rfl 2 rfl ?_
          by_cases e51_0 : w32 a2 = 0
          · refine z_swcase F 0 dX11_proof_51 e51_0 (by decide) (by decide) rfl rfl ?_
            have hw := hw.1 e51_0
            refine z_aload_n F dX11_proof_76 rfl rfl 0 rfl ?_
            refine z_getR F fl_457 k0 dX11_proof_77 rfl ?_
            refine z_bipush F dX11_proof_80 (by decide) rfl ?_
            refine z_iload_n F dX11_proof_82 rfl rfl 1 rfl ?_
            refine z_iadd F dX11_proof_83 rfl ?_
            refine z_aload_n F dX11_proof_84 rfl rfl 0 rfl ?_
            refine z_getR F fl_456 k0 dX11_proof_85 rfl ?_
            refine z_cVv (As := [.int (i3 (10 + a1)), .ref (g.2.2.1 + (rt a0 11))]) (st := []) F (c_X3_amountOf l g (tk_11_12 k0) (tk_11_11 k0) hw) cv_X3_amountOf w_821 ⟨rfl, rfl, Nat.le_of_ble_eq_true rfl, Nat.le_of_ble_eq_true rfl⟩ (tk_11_12 k0) rfl rfl (Nat.le_of_ble_eq_true rfl) dX11_proof_88 rfl (fun M88 hw => ?_)
            refine z_goto F dX11_proof_91 rfl ?_
            refine z_sub [0, 3] rfl ?_
            exact bk_X11_proof_146 F hr k0 hw
          · skip
            by_cases e51_1 : w32 a2 = 1
            · refine z_swcase F 1 dX11_proof_51 e51_1 (by decide) (by decide) rfl rfl ?_
              have hw := hw.2.1 e51_1
              refine z_aload_n F dX11_proof_94 rfl rfl 0 rfl ?_
              refine z_getR F fl_457 k0 dX11_proof_95 rfl ?_
              refine z_bipush F dX11_proof_98 (by decide) rfl ?_
              refine z_iload_n F dX11_proof_100 rfl rfl 1 rfl ?_
              refine z_iadd F dX11_proof_101 rfl ?_
              refine z_aload_n F dX11_proof_102 rfl rfl 0 rfl ?_
              refine z_getR F fl_456 k0 dX11_proof_103 rfl ?_
              refine z_cVv (As := [.int (i3 (10 + a1)), .ref (g.2.2.1 + (rt a0 11))]) (st := []) F (c_X3_priceOf l g (tk_11_12 k0) (tk_11_11 k0) hw) cv_X3_priceOf w_829 ⟨rfl, rfl, Nat.le_of_ble_eq_true rfl, Nat.le_of_ble_eq_true rfl⟩ (tk_11_12 k0) rfl rfl (Nat.le_of_ble_eq_true rfl) dX11_proof_106 rfl (fun M106 hw => ?_)
              refine z_goto F dX11_proof_109 rfl ?_
              refine z_sub [0, 3] rfl ?_
              exact bk_X11_proof_146 F hr k0 hw
            · skip
              by_cases e51_2 : w32 a2 = 2
              · refine z_swcase F 2 dX11_proof_51 e51_2 (by decide) (by decide) rfl rfl ?_
                have hw := hw.2.2.1 e51_2
                refine z_aload_n F dX11_proof_112 rfl rfl 0 rfl ?_
                refine z_getR F fl_457 k0 dX11_proof_113 rfl ?_
                refine z_bipush F dX11_proof_116 (by decide) rfl ?_
                refine z_iload_n F dX11_proof_118 rfl rfl 1 rfl ?_
                refine z_iadd F dX11_proof_119 rfl ?_
                refine z_aload_n F dX11_proof_120 rfl rfl 0 rfl ?_
                refine z_getR F fl_456 k0 dX11_proof_121 rfl ?_
                refine z_cVv (As := [.int (i3 (20 + a1)), .ref (g.2.2.1 + (rt a0 11))]) (st := []) F (c_X3_priceOf l g (tk_11_12 k0) (tk_11_11 k0) hw) cv_X3_priceOf w_829 ⟨rfl, rfl, Nat.le_of_ble_eq_true rfl, Nat.le_of_ble_eq_true rfl⟩ (tk_11_12 k0) rfl rfl (Nat.le_of_ble_eq_true rfl) dX11_proof_124 rfl (fun M124 hw => ?_)
                refine z_goto F dX11_proof_127 rfl ?_
                refine z_sub [0, 3] rfl ?_
                exact bk_X11_proof_146 F hr k0 hw
              · skip
                have h9 : w32 a2 < 0 ∨ 2 < w32 a2 := by omega
                refine z_swout F dX11_proof_51 h9 rfl ?_
                have hw := hw.2.2.2 h9
                refine z_aload_n F dX11_proof_130 rfl rfl 0 rfl ?_
                refine z_getR F fl_457 k0 dX11_proof_131 rfl ?_
                refine z_iload_n F dX11_proof_134 rfl rfl 1 rfl ?_
                refine z_aload_n F dX11_proof_135 rfl rfl 0 rfl ?_
                refine z_getR F fl_448 k0 dX11_proof_136 rfl ?_
                refine z_aload_n F dX11_proof_139 rfl rfl 0 rfl ?_
                refine z_getR F fl_456 k0 dX11_proof_140 rfl ?_
                refine z_cVv (As := [.int (i3 a1), .ref (g.2.2.1 + (rt a0 3)), .ref (g.2.2.1 + (rt a0 11))]) (st := []) F (c_X3_prove l g (tk_11_12 k0) (tk_11_3 k0) (tk_11_11 k0) hw) cv_X3_prove w_833 ⟨rfl, rfl, Nat.le_of_ble_eq_true rfl, Nat.le_of_ble_eq_true rfl⟩ (tk_11_12 k0) rfl rfl (Nat.le_of_ble_eq_true rfl) dX11_proof_143 rfl (fun M143 hw => ?_)
                refine z_sub [0, 3] rfl ?_
                exact bk_X11_proof_146 F hr k0 hw
        · refine z_ldc2 (n := (-9223372036854775808)) F w_648 (by decide) dX11_proof_46 rfl ?_
          exact z_lret (x := (-9223372036854775808)) F hr dX11_proof_49 hw
      · refine z_ldc2 (n := (-9223372036854775808)) F w_648 (by decide) dX11_proof_31 rfl ?_
        exact z_lret (x := (-9223372036854775808)) F hr dX11_proof_34 hw
theorem cv_X11_proof : CV yX11_proof RX11 cX11_proof 4 (some .long) 3 := ⟨w_826, w_827, w_67, w_828, rfl, by decide +kernel, by decide +kernel, by decide +kernel⟩
abbrev rm_X11_ladder : Room := { frames := 4, cells := 0, slots := 0, locals := 95 }
def wp_X11_ladder_b33 (a0 : Nat) (Q : Int → Mem → Prop) (M : Mem) (x1 : Int) (x2 : Int) : Prop :=
  wp_X11_look a0 M (fun M34 =>
  wp_X5_rank (rt a0 15) x1 (rt a0 0) (rt a0 3) M34 (fun M50 =>
  wp_X5_buy (rt a0 15) (rt a0 0) (rt a0 3) M50 (fun M65 =>
  (((¬ w32 x2 = w32 10) → (
    (((¬ w32 x2 = w32 11) → (
      inb (rt (rt a0 15) 1) x2 ∧ (
      Q (M65 (rt (rt a0 15) 1) (ix x2)) M65))) ∧
    (¬ (¬ w32 x2 = w32 11) → (
      Q (M65 (rt a0 15) 3) M65))))) ∧
  (¬ (¬ w32 x2 = w32 10) → (
    Q (M65 (rt a0 15) 2) M65))))))
def wp_X11_ladder (a0 : Nat) (a1 : Int) (a2 : Int) (M : Mem) (Q : Int → Mem → Prop) : Prop :=
  wp_X11_isRanking a1 M (fun r1 =>
  ((r1 = false → (
    Q (-2) M)) ∧
  (r1 = true → (
    wp_X1_hasBond (rt a0 0) a2 M (fun r12 =>
    ((r12 = true → (
      wp_X11_ladder_b33 a0 Q M a1 a2)) ∧
    (r12 = false → (
      (((w32 a2 = w32 10) → (
        wp_X11_ladder_b33 a0 Q M a1 a2)) ∧
      (¬ (w32 a2 = w32 10) → (
        (((w32 a2 = w32 11) → (
          wp_X11_ladder_b33 a0 Q M a1 a2)) ∧
        (¬ (w32 a2 = w32 11) → (
          Q (-2) M))))))))))))))
set_option maxRecDepth 100000 in
set_option maxHeartbeats 4000000 in
theorem bk_X11_ladder_33 {g : En} {p : Program} {l : Launch} {e : Env} {s : State} {m : MethodId} {args : Array Value} {below : List Frame} {meth : Method} {c : Code} {M : Mem} {a0 : Nat} {Q : Int → Mem → Prop} {x1 : Int} {x2 : Int} (F : Fx g p s m args meth c cX11_ladder 3 RX11) (hr : meth.sig.returnType = (some .int)) (k0 : kd a0 = 11)
    (hw : wp_X11_ladder_b33 a0 Q M x1 x2) : Z g p l e rm_X11_ladder s m args below meth c 3 (MQ below (va_Qi (S := Int × Mem) (fun r u => r = i3 u.1 ∧ Q u.1 u.2) (fun u => Rp g u.2) (aR g)) args s 0 0 (aR g)) M 33 [(0, .ref (g.2.2.1 + a0)), (1, .int (i3 x1)), (2, .int (i3 x2))] [] := by
  refine z_aload_n F dX11_ladder_33 rfl rfl 0 rfl ?_
  refine z_cVv (As := []) (st := []) F (c_X11_look l g k0 hw) cv_X11_look w_530 ⟨rfl, rfl, Nat.le_of_ble_eq_true rfl, Nat.le_of_ble_eq_true rfl⟩ k0 rfl rfl (Nat.le_of_ble_eq_true rfl) dX11_ladder_34 rfl (fun M34 hw => ?_)
  refine z_aload_n F dX11_ladder_37 rfl rfl 0 rfl ?_
  refine z_getR F fl_460 k0 dX11_ladder_38 rfl ?_
  refine z_iload_n F dX11_ladder_41 rfl rfl 1 rfl ?_
  refine z_aload_n F dX11_ladder_42 rfl rfl 0 rfl ?_
  refine z_getR F fl_445 k0 dX11_ladder_43 rfl ?_
  refine z_aload_n F dX11_ladder_46 rfl rfl 0 rfl ?_
  refine z_getR F fl_448 k0 dX11_ladder_47 rfl ?_
  refine z_cVv (As := [.int (i3 x1), .ref (g.2.2.1 + (rt a0 0)), .ref (g.2.2.1 + (rt a0 3))]) (st := []) F (c_X5_rank l g (tk_11_15 k0) (tk_11_0 k0) (tk_11_3 k0) hw) cv_X5_rank w_624 ⟨rfl, rfl, Nat.le_of_ble_eq_true rfl, Nat.le_of_ble_eq_true rfl⟩ (tk_11_15 k0) rfl rfl (Nat.le_of_ble_eq_true rfl) dX11_ladder_50 rfl (fun M50 hw => ?_)
  refine z_aload_n F dX11_ladder_53 rfl rfl 0 rfl ?_
  refine z_getR F fl_460 k0 dX11_ladder_54 rfl ?_
  refine z_aload_n F dX11_ladder_57 rfl rfl 0 rfl ?_
  refine z_getR F fl_445 k0 dX11_ladder_58 rfl ?_
  refine z_aload_n F dX11_ladder_61 rfl rfl 0 rfl ?_
  refine z_getR F fl_448 k0 dX11_ladder_62 rfl ?_
  refine z_cVv (As := [.ref (g.2.2.1 + (rt a0 0)), .ref (g.2.2.1 + (rt a0 3))]) (st := []) F (c_X5_buy l g (tk_11_15 k0) (tk_11_0 k0) (tk_11_3 k0) hw) cv_X5_buy w_842 ⟨rfl, rfl, Nat.le_of_ble_eq_true rfl, Nat.le_of_ble_eq_true rfl⟩ (tk_11_15 k0) rfl rfl (Nat.le_of_ble_eq_true rfl) dX11_ladder_65 rfl (fun M65 hw => ?_)
  refine z_iload_n F dX11_ladder_68 rfl rfl 2 rfl ?_
  refine z_bipush F dX11_ladder_69 (by decide) rfl ?_
  refine z_icmp_ne F dX11_ladder_71 rfl rfl hw (fun hw => ?_) (fun hw => ?_)
  · refine z_iload_n F dX11_ladder_82 rfl rfl 2 rfl ?_
    refine z_bipush F dX11_ladder_83 (by decide) rfl ?_
    refine z_icmp_ne F dX11_ladder_85 rfl rfl hw (fun hw => ?_) (fun hw => ?_)
    · refine z_aload_n F dX11_ladder_98 rfl rfl 0 rfl ?_
      refine z_getR F fl_460 k0 dX11_ladder_99 rfl ?_
      refine z_getR F fl_377 (tk_11_15 k0) dX11_ladder_102 rfl ?_
      refine z_iload_n F dX11_ladder_105 rfl rfl 2 rfl ?_
      refine z_iald F (tk_5_1 (tk_11_15 k0)) dX11_ladder_106 rfl hw (fun hw => ?_)
      exact z_iret (x := (M65 (rt (rt a0 15) 1) (ix x2))) F hr dX11_ladder_107 hw
    · refine z_aload_n F dX11_ladder_88 rfl rfl 0 rfl ?_
      refine z_getR F fl_460 k0 dX11_ladder_89 rfl ?_
      refine z_getI F fl_381 (tk_11_15 k0) dX11_ladder_92 rfl ?_
      refine z_goto F dX11_ladder_95 rfl ?_
      exact z_iret (x := (M65 (rt a0 15) 3)) F hr dX11_ladder_107 hw
  · refine z_aload_n F dX11_ladder_74 rfl rfl 0 rfl ?_
    refine z_getR F fl_460 k0 dX11_ladder_75 rfl ?_
    refine z_getI F fl_379 (tk_11_15 k0) dX11_ladder_78 rfl ?_
    exact z_iret (x := (M65 (rt a0 15) 2)) F hr dX11_ladder_81 hw
set_option maxRecDepth 100000 in
set_option maxHeartbeats 4000000 in
theorem c_X11_ladder (l : Launch) (g : En) {a0 : Nat} {a1 : Int} {a2 : Int} {M : Mem} {Q : Int → Mem → Prop} (k0 : kd a0 = 11) (hw : wp_X11_ladder a0 a1 a2 M Q) :
    Met l yX11_ladder (WS yX11_ladder cX11_ladder 3 (some .int)) rm_X11_ladder (va_Pc [.ref (g.2.2.1 + a0), .int (i3 a1), .int (i3 a2)] (Rp g M)) (va_Qi (S := Int × Mem) (fun r u => r = i3 u.1 ∧ Q u.1 u.2) (fun u => Rp g u.2) (aR g)) 0 0 (aR g) := by
  refine met_Z (plainFor_of_name rfl) (Nat.le_of_ble_eq_true rfl) ?_
  intro p e s m args below meth c F hr _
  show Z g p l e rm_X11_ladder s m args below meth c 3 (MQ below (va_Qi (S := Int × Mem) (fun r u => r = i3 u.1 ∧ Q u.1 u.2) (fun u => Rp g u.2) (aR g)) args s 0 0 (aR g)) M 0 [(0, .ref (g.2.2.1 + a0)), (1, .int (i3 a1)), (2, .int (i3 a2))] []
  refine z_iload_n F dX11_ladder_0 rfl rfl 1 rfl ?_
  refine z_cSbp (As := [.int (i3 a1)]) (st := []) F (c_X11_isRanking l g hw) cs_X11_isRanking w_621 ⟨rfl, rfl, Nat.le_of_ble_eq_true rfl, Nat.le_of_ble_eq_true rfl⟩ rfl (Nat.le_of_ble_eq_true rfl) dX11_ladder_1 rfl (fun r1 hw => ?_)
  refine z_ifb_eq F dX11_ladder_4 rfl rfl hw (fun hw => ?_) (fun hw => ?_)
  · refine z_bipush F dX11_ladder_30 (by decide) rfl ?_
    exact z_iret (x := (-2)) F hr dX11_ladder_32 hw
  · refine z_aload_n F dX11_ladder_7 rfl rfl 0 rfl ?_
    refine z_getR F fl_445 k0 dX11_ladder_8 rfl ?_
    refine z_iload_n F dX11_ladder_11 rfl rfl 2 rfl ?_
    refine z_cVbp (As := [.int (i3 a2)]) (st := []) F (c_X1_hasBond l g (tk_11_0 k0) hw) cv_X1_hasBond w_587 ⟨rfl, rfl, Nat.le_of_ble_eq_true rfl, Nat.le_of_ble_eq_true rfl⟩ (tk_11_0 k0) rfl rfl (Nat.le_of_ble_eq_true rfl) dX11_ladder_12 rfl (fun r12 hw => ?_)
    refine z_ifb_ne F dX11_ladder_15 rfl rfl hw (fun hw => ?_) (fun hw => ?_)
    · refine z_sub [0, 1, 2] rfl ?_
      exact bk_X11_ladder_33 F hr k0 hw
    · refine z_iload_n F dX11_ladder_18 rfl rfl 2 rfl ?_
      refine z_bipush F dX11_ladder_19 (by decide) rfl ?_
      refine z_icmp_eq F dX11_ladder_21 rfl rfl hw (fun hw => ?_) (fun hw => ?_)
      · refine z_sub [0, 1, 2] rfl ?_
        exact bk_X11_ladder_33 F hr k0 hw
      · refine z_iload_n F dX11_ladder_24 rfl rfl 2 rfl ?_
        refine z_bipush F dX11_ladder_25 (by decide) rfl ?_
        refine z_icmp_eq F dX11_ladder_27 rfl rfl hw (fun hw => ?_) (fun hw => ?_)
        · refine z_sub [0, 1, 2] rfl ?_
          exact bk_X11_ladder_33 F hr k0 hw
        · refine z_bipush F dX11_ladder_30 (by decide) rfl ?_
          exact z_iret (x := (-2)) F hr dX11_ladder_32 hw
theorem cv_X11_ladder : CV yX11_ladder RX11 cX11_ladder 3 (some .int) 2 := ⟨w_839, w_840, w_67, w_841, rfl, by decide +kernel, by decide +kernel, by decide +kernel⟩
abbrev rm_X11_isSheet : Room := { frames := 1, cells := 0, slots := 0, locals := 22 }
def wp_X11_isSheet (a0 : Int) (M : Mem) (Q : Bool → Prop) : Prop :=
  wp_X11_within a0 0 3 M (fun r3 =>
  Q r3)
set_option maxRecDepth 100000 in
set_option maxHeartbeats 4000000 in
theorem c_X11_isSheet (l : Launch) (g : En) {a0 : Int} {M : Mem} {Q : Bool → Prop} (hw : wp_X11_isSheet a0 M Q) :
    Met l yX11_isSheet (WS yX11_isSheet cX11_isSheet 1 (some .boolean)) rm_X11_isSheet (va_Pc [.int (i3 a0)] (Rp g M)) (va_Qi (S := Bool × Mem) (fun r u => r = i3 (bz u.1) ∧ (u.2 = M ∧ Q u.1)) (fun u => Rp g u.2) (aR g)) 0 0 (aR g) := by
  refine met_Z (plainFor_of_name rfl) (Nat.le_of_ble_eq_true rfl) ?_
  intro p e s m args below meth c F hr _
  show Z g p l e rm_X11_isSheet s m args below meth c 1 (MQ below (va_Qi (S := Bool × Mem) (fun r u => r = i3 (bz u.1) ∧ (u.2 = M ∧ Q u.1)) (fun u => Rp g u.2) (aR g)) args s 0 0 (aR g)) M 0 [(0, .int (i3 a0))] []
  refine z_iload_n F dX11_isSheet_0 rfl rfl 0 rfl ?_
  refine z_iconst F dX11_isSheet_1 rfl ?_
  refine z_iconst F dX11_isSheet_2 rfl ?_
  refine z_cSbp (As := [.int (i3 a0), .int (i3 0), .int (i3 3)]) (st := []) F (c_X11_within l g hw) cs_X11_within w_507 ⟨rfl, rfl, Nat.le_of_ble_eq_true rfl, Nat.le_of_ble_eq_true rfl⟩ rfl (Nat.le_of_ble_eq_true rfl) dX11_isSheet_3 rfl (fun r3 hw => ?_)
  exact z_zretp (x := r3) F hr dX11_isSheet_6 hw
theorem cs_X11_isSheet : CS yX11_isSheet cX11_isSheet 1 (some .boolean) 1 := ⟨w_857, w_67, w_858, by decide +kernel, by decide +kernel, by decide +kernel⟩
abbrev rm_X11_isAskedOfReplay : Room := { frames := 1, cells := 0, slots := 0, locals := 22 }
def wp_X11_isAskedOfReplay (a0 : Int) (M : Mem) (Q : Bool → Prop) : Prop :=
  wp_X11_within a0 0 4 M (fun r3 =>
  ((r3 = true → (
    Q true)) ∧
  (r3 = false → (
    wp_X11_within a0 10 14 M (fun r14 =>
    ((r14 = true → (
      Q true)) ∧
    (r14 = false → (
      wp_X11_within a0 20 23 M (fun r25 =>
      ((r25 = false → (
        Q false)) ∧
      (r25 = true → (
        Q true))))))))))))
set_option maxRecDepth 100000 in
set_option maxHeartbeats 4000000 in
theorem c_X11_isAskedOfReplay (l : Launch) (g : En) {a0 : Int} {M : Mem} {Q : Bool → Prop} (hw : wp_X11_isAskedOfReplay a0 M Q) :
    Met l yX11_isAskedOfReplay (WS yX11_isAskedOfReplay cX11_isAskedOfReplay 1 (some .boolean)) rm_X11_isAskedOfReplay (va_Pc [.int (i3 a0)] (Rp g M)) (va_Qi (S := Bool × Mem) (fun r u => r = i3 (bz u.1) ∧ (u.2 = M ∧ Q u.1)) (fun u => Rp g u.2) (aR g)) 0 0 (aR g) := by
  refine met_Z (plainFor_of_name rfl) (Nat.le_of_ble_eq_true rfl) ?_
  intro p e s m args below meth c F hr _
  show Z g p l e rm_X11_isAskedOfReplay s m args below meth c 1 (MQ below (va_Qi (S := Bool × Mem) (fun r u => r = i3 (bz u.1) ∧ (u.2 = M ∧ Q u.1)) (fun u => Rp g u.2) (aR g)) args s 0 0 (aR g)) M 0 [(0, .int (i3 a0))] []
  refine z_iload_n F dX11_isAskedOfReplay_0 rfl rfl 0 rfl ?_
  refine z_iconst F dX11_isAskedOfReplay_1 rfl ?_
  refine z_iconst F dX11_isAskedOfReplay_2 rfl ?_
  refine z_cSbp (As := [.int (i3 a0), .int (i3 0), .int (i3 4)]) (st := []) F (c_X11_within l g hw) cs_X11_within w_507 ⟨rfl, rfl, Nat.le_of_ble_eq_true rfl, Nat.le_of_ble_eq_true rfl⟩ rfl (Nat.le_of_ble_eq_true rfl) dX11_isAskedOfReplay_3 rfl (fun r3 hw => ?_)
  refine z_ifb_ne F dX11_isAskedOfReplay_6 rfl rfl hw (fun hw => ?_) (fun hw => ?_)
  · refine z_iconst F dX11_isAskedOfReplay_31 rfl ?_
    refine z_goto F dX11_isAskedOfReplay_32 rfl ?_
    exact z_zretp (x := true) F hr dX11_isAskedOfReplay_36 hw
  · refine z_iload_n F dX11_isAskedOfReplay_9 rfl rfl 0 rfl ?_
    refine z_bipush F dX11_isAskedOfReplay_10 (by decide) rfl ?_
    refine z_bipush F dX11_isAskedOfReplay_12 (by decide) rfl ?_
    refine z_cSbp (As := [.int (i3 a0), .int (i3 10), .int (i3 14)]) (st := []) F (c_X11_within l g hw) cs_X11_within w_507 ⟨rfl, rfl, Nat.le_of_ble_eq_true rfl, Nat.le_of_ble_eq_true rfl⟩ rfl (Nat.le_of_ble_eq_true rfl) dX11_isAskedOfReplay_14 rfl (fun r14 hw => ?_)
    refine z_ifb_ne F dX11_isAskedOfReplay_17 rfl rfl hw (fun hw => ?_) (fun hw => ?_)
    · refine z_iconst F dX11_isAskedOfReplay_31 rfl ?_
      refine z_goto F dX11_isAskedOfReplay_32 rfl ?_
      exact z_zretp (x := true) F hr dX11_isAskedOfReplay_36 hw
    · refine z_iload_n F dX11_isAskedOfReplay_20 rfl rfl 0 rfl ?_
      refine z_bipush F dX11_isAskedOfReplay_21 (by decide) rfl ?_
      refine z_bipush F dX11_isAskedOfReplay_23 (by decide) rfl ?_
      refine z_cSbp (As := [.int (i3 a0), .int (i3 20), .int (i3 23)]) (st := []) F (c_X11_within l g hw) cs_X11_within w_507 ⟨rfl, rfl, Nat.le_of_ble_eq_true rfl, Nat.le_of_ble_eq_true rfl⟩ rfl (Nat.le_of_ble_eq_true rfl) dX11_isAskedOfReplay_25 rfl (fun r25 hw => ?_)
      refine z_ifb_eq F dX11_isAskedOfReplay_28 rfl rfl hw (fun hw => ?_) (fun hw => ?_)
      · refine z_iconst F dX11_isAskedOfReplay_35 rfl ?_
        exact z_zretp (x := false) F hr dX11_isAskedOfReplay_36 hw
      · refine z_iconst F dX11_isAskedOfReplay_31 rfl ?_
        refine z_goto F dX11_isAskedOfReplay_32 rfl ?_
        exact z_zretp (x := true) F hr dX11_isAskedOfReplay_36 hw
theorem cs_X11_isAskedOfReplay : CS yX11_isAskedOfReplay cX11_isAskedOfReplay 1 (some .boolean) 1 := ⟨w_860, w_67, w_861, by decide +kernel, by decide +kernel, by decide +kernel⟩
abbrev rm_X11_readRates : Room := { frames := 1, cells := 0, slots := 0, locals := 22 }
def wp_X11_readRates_B12 (a0 : Nat) (a1 : Nat) (Q : Bool → Mem → Prop) (K12 : Mem → Int → Prop) (M : Mem) (x2 : Int) : Prop :=
  (((w32 (M a1 2) ≤ w32 x2) → (
    Q true M)) ∧
  (¬ (w32 (M a1 2) ≤ w32 x2) → (
    inb (rt a1 0) x2 ∧ (
    wp_X11_within (M (rt a1 0) (ix x2)) 0 9 M (fun r29 =>
    ((r29 = true → (
      inb (rt a1 0) x2 ∧ (
      inb (rt a0 7) x2 ∧ (
      ∀ M48 : Mem, M48 = st2 M (rt a0 7) (ix x2) (M (rt a1 0) (ix x2)) →
      K12 M48 (x2 + 1))))) ∧
    (r29 = false → (
      Q false M))))))))
def wp_X11_readRates_L12 (a0 : Nat) (a1 : Nat) (Q : Bool → Mem → Prop) (M : Mem) (x2 : Int) : Prop :=
  ∃ (I : Mem → Int → Prop) (μ : Mem → Int → Nat), I M x2 ∧ ∀ (M : Mem) (x2 : Int), I M x2 →
    wp_X11_readRates_B12 a0 a1 Q (fun M' x2' => I M' x2' ∧ μ M' x2' < μ M x2) M x2
def wp_X11_readRates (a0 : Nat) (a1 : Nat) (M : Mem) (Q : Bool → Mem → Prop) : Prop :=
  (((w32 (M a1 2) ≤ w32 5) → (
    wp_X11_readRates_L12 a0 a1 Q M 0)) ∧
  (¬ (w32 (M a1 2) ≤ w32 5) → (
    Q false M)))
set_option maxRecDepth 100000 in
set_option maxHeartbeats 4000000 in
theorem bk_X11_readRates_B12 {g : En} {p : Program} {l : Launch} {e : Env} {s : State} {m : MethodId} {args : Array Value} {below : List Frame} {meth : Method} {c : Code} {M : Mem} {a0 : Nat} {a1 : Nat} {Q : Bool → Mem → Prop} {K12 : Mem → Int → Prop} {x2 : Int} (F : Fx g p s m args meth c cX11_readRates 3 RX11) (hr : meth.sig.returnType = (some .boolean)) (k0 : kd a0 = 11) (k1 : kd a1 = 9)
    (hK12 : ∀ (M' : Mem) (x2' : Int), K12 M' x2' → Z g p l e rm_X11_readRates s m args below meth c 3 (MQ below (va_Qi (S := Bool × Mem) (fun r u => r = i3 (bz u.1) ∧ Q u.1 u.2) (fun u => Rp g u.2) (aR g)) args s 0 0 (aR g)) M' 12 [(0, .ref (g.2.2.1 + a0)), (1, .ref (g.2.2.1 + a1)), (2, .int (i3 x2'))] [])
    (hw : wp_X11_readRates_B12 a0 a1 Q K12 M x2) : Z g p l e rm_X11_readRates s m args below meth c 3 (MQ below (va_Qi (S := Bool × Mem) (fun r u => r = i3 (bz u.1) ∧ Q u.1 u.2) (fun u => Rp g u.2) (aR g)) args s 0 0 (aR g)) M 12 [(0, .ref (g.2.2.1 + a0)), (1, .ref (g.2.2.1 + a1)), (2, .int (i3 x2))] [] := by
  refine z_iload_n F dX11_readRates_12 rfl rfl 2 rfl ?_
  refine z_aload_n F dX11_readRates_13 rfl rfl 1 rfl ?_
  refine z_getI F fl_437 k1 dX11_readRates_14 rfl ?_
  refine z_icmp_ge F dX11_readRates_17 rfl rfl hw (fun hw => ?_) (fun hw => ?_)
  · refine z_iconst F dX11_readRates_55 rfl ?_
    exact z_zret (x := true) F hr dX11_readRates_56 hw
  · refine z_aload_n F dX11_readRates_20 rfl rfl 1 rfl ?_
    refine z_getR F fl_432 k1 dX11_readRates_21 rfl ?_
    refine z_iload_n F dX11_readRates_24 rfl rfl 2 rfl ?_
    refine z_iald F (tk_9_0 k1) dX11_readRates_25 rfl hw (fun hw => ?_)
    refine z_iconst F dX11_readRates_26 rfl ?_
    refine z_bipush F dX11_readRates_27 (by decide) rfl ?_
    refine z_cSbp (As := [.int (i3 (M (rt a1 0) (ix x2))), .int (i3 0), .int (i3 9)]) (st := []) F (c_X11_within l g hw) cs_X11_within w_507 ⟨rfl, rfl, Nat.le_of_ble_eq_true rfl, Nat.le_of_ble_eq_true rfl⟩ rfl (Nat.le_of_ble_eq_true rfl) dX11_readRates_29 rfl (fun r29 hw => ?_)
    refine z_ifb_ne F dX11_readRates_32 rfl rfl hw (fun hw => ?_) (fun hw => ?_)
    · refine z_aload_n F dX11_readRates_37 rfl rfl 0 rfl ?_
      refine z_getR F fl_452 k0 dX11_readRates_38 rfl ?_
      refine z_iload_n F dX11_readRates_41 rfl rfl 2 rfl ?_
      refine z_aload_n F dX11_readRates_42 rfl rfl 1 rfl ?_
      refine z_getR F fl_432 k1 dX11_readRates_43 rfl ?_
      refine z_iload_n F dX11_readRates_46 rfl rfl 2 rfl ?_
      refine z_iald F (tk_9_0 k1) dX11_readRates_47 rfl hw (fun hw => ?_)
      refine z_iast F (tk_11_7 k0) dX11_readRates_48 rfl hw (fun hw => ?_)
      refine z_nmM (fun M48 eM48 => ?_)
      have hw := hw M48 eM48
      refine z_iinc F dX11_readRates_49 rfl 2 rfl (by decide) rfl ?_
      refine z_goto F dX11_readRates_52 rfl ?_
      refine z_sub [1, 2, 0] rfl ?_
      exact hK12 M48 (x2 + 1) hw
    · refine z_iconst F dX11_readRates_35 rfl ?_
      exact z_zret (x := false) F hr dX11_readRates_36 hw
set_option maxRecDepth 100000 in
set_option maxHeartbeats 4000000 in
theorem lp_X11_readRates_12 {g : En} {p : Program} {l : Launch} {e : Env} {s : State} {m : MethodId} {args : Array Value} {below : List Frame} {meth : Method} {c : Code} {M : Mem} {a0 : Nat} {a1 : Nat} {Q : Bool → Mem → Prop} {x2 : Int} (F : Fx g p s m args meth c cX11_readRates 3 RX11) (hr : meth.sig.returnType = (some .boolean)) (k0 : kd a0 = 11) (k1 : kd a1 = 9)
    (hw : wp_X11_readRates_L12 a0 a1 Q M x2) : Z g p l e rm_X11_readRates s m args below meth c 3 (MQ below (va_Qi (S := Bool × Mem) (fun r u => r = i3 (bz u.1) ∧ Q u.1 u.2) (fun u => Rp g u.2) (aR g)) args s 0 0 (aR g)) M 12 [(0, .ref (g.2.2.1 + a0)), (1, .ref (g.2.2.1 + a1)), (2, .int (i3 x2))] [] := by
  obtain ⟨I, μ, h0, hb⟩ := hw
  have key : ∀ (n : Nat) (M : Mem) (x2 : Int), I M x2 → μ M x2 < n → Z g p l e rm_X11_readRates s m args below meth c 3 (MQ below (va_Qi (S := Bool × Mem) (fun r u => r = i3 (bz u.1) ∧ Q u.1 u.2) (fun u => Rp g u.2) (aR g)) args s 0 0 (aR g)) M 12 [(0, .ref (g.2.2.1 + a0)), (1, .ref (g.2.2.1 + a1)), (2, .int (i3 x2))] [] := by
    intro n
    induction n with
    | zero => exact fun _ _ _ h => absurd h (Nat.not_lt_zero _)
    | succ n ih =>
      intro M x2 hI hn
      exact bk_X11_readRates_B12 F hr k0 k1 (fun M' x2' hk => ih M' x2' hk.1 (Nat.lt_of_lt_of_le hk.2 (Nat.le_of_lt_succ hn))) (hb M x2 hI)
  exact key _ M x2 h0 (Nat.lt_succ_self _)
set_option maxRecDepth 100000 in
set_option maxHeartbeats 4000000 in
theorem c_X11_readRates (l : Launch) (g : En) {a0 : Nat} {a1 : Nat} {M : Mem} {Q : Bool → Mem → Prop} (k0 : kd a0 = 11) (k1 : kd a1 = 9) (hw : wp_X11_readRates a0 a1 M Q) :
    Met l yX11_readRates (WS yX11_readRates cX11_readRates 3 (some .boolean)) rm_X11_readRates (va_Pc [.ref (g.2.2.1 + a0), .ref (g.2.2.1 + a1)] (Rp g M)) (va_Qi (S := Bool × Mem) (fun r u => r = i3 (bz u.1) ∧ Q u.1 u.2) (fun u => Rp g u.2) (aR g)) 0 0 (aR g) := by
  refine met_Z (plainFor_of_name rfl) (Nat.le_of_ble_eq_true rfl) ?_
  intro p e s m args below meth c F hr _
  show Z g p l e rm_X11_readRates s m args below meth c 3 (MQ below (va_Qi (S := Bool × Mem) (fun r u => r = i3 (bz u.1) ∧ Q u.1 u.2) (fun u => Rp g u.2) (aR g)) args s 0 0 (aR g)) M 0 [(0, .ref (g.2.2.1 + a0)), (1, .ref (g.2.2.1 + a1))] []
  refine z_aload_n F dX11_readRates_0 rfl rfl 1 rfl ?_
  refine z_getI F fl_437 k1 dX11_readRates_1 rfl ?_
  refine z_iconst F dX11_readRates_4 rfl ?_
  refine z_icmp_le F dX11_readRates_5 rfl rfl hw (fun hw => ?_) (fun hw => ?_)
  · refine z_iconst F dX11_readRates_10 rfl ?_
    refine z_istore_n F dX11_readRates_11 rfl rfl (by decide) rfl ?_
    refine z_sub [1, 2, 0] rfl ?_
    exact lp_X11_readRates_12 F hr k0 k1 hw
  · refine z_iconst F dX11_readRates_8 rfl ?_
    exact z_zret (x := false) F hr dX11_readRates_9 hw
theorem cv_X11_readRates : CV yX11_readRates RX11 cX11_readRates 3 (some .boolean) 1 := ⟨w_868, w_19, w_67, w_869, rfl, by decide +kernel, by decide +kernel, by decide +kernel⟩
abbrev rm_X11_playBy : Room := { frames := 3, cells := 0, slots := 0, locals := 72 }
def wp_X11_playBy (a0 : Nat) (a1 : Nat) (M : Mem) (Q : Mem → Prop) : Prop :=
  wp_X8_lay (rt a0 4) (rt a0 0) a1 M (fun M9 =>
  wp_X11_readHeld a0 M9 (fun M13 =>
  wp_X6_play (rt a0 16) (rt a0 4) (rt a0 8) M13 (fun M28 =>
  Q M28)))
set_option maxRecDepth 100000 in
set_option maxHeartbeats 4000000 in
theorem c_X11_playBy (l : Launch) (g : En) {a0 : Nat} {a1 : Nat} {M : Mem} {Q : Mem → Prop} (k0 : kd a0 = 11) (k1 : kd a1 = 13) (hw : wp_X11_playBy a0 a1 M Q) :
    Met l yX11_playBy (WS yX11_playBy cX11_playBy 2 none) rm_X11_playBy (va_Pc [.ref (g.2.2.1 + a0), .ref (g.2.2.1 + a1)] (Rp g M)) (va_Qv (S := Mem) Q (fun u => Rp g u) (aR g)) 0 0 (aR g) := by
  refine met_Z (plainFor_of_name rfl) (Nat.le_of_ble_eq_true rfl) ?_
  intro p e s m args below meth c F hr _
  show Z g p l e rm_X11_playBy s m args below meth c 2 (MQ below (va_Qv (S := Mem) Q (fun u => Rp g u) (aR g)) args s 0 0 (aR g)) M 0 [(0, .ref (g.2.2.1 + a0)), (1, .ref (g.2.2.1 + a1))] []
  refine z_aload_n F dX11_playBy_0 rfl rfl 0 rfl ?_
  refine z_getR F fl_449 k0 dX11_playBy_1 rfl ?_
  refine z_aload_n F dX11_playBy_4 rfl rfl 0 rfl ?_
  refine z_getR F fl_445 k0 dX11_playBy_5 rfl ?_
  refine z_aload_n F dX11_playBy_8 rfl rfl 1 rfl ?_
  refine z_cVv (As := [.ref (g.2.2.1 + (rt a0 0)), .ref (g.2.2.1 + a1)]) (st := []) F (c_X8_lay l g (tk_11_4 k0) (tk_11_0 k0) k1 hw) cv_X8_lay w_534 ⟨rfl, rfl, Nat.le_of_ble_eq_true rfl, Nat.le_of_ble_eq_true rfl⟩ (tk_11_4 k0) rfl rfl (Nat.le_of_ble_eq_true rfl) dX11_playBy_9 rfl (fun M9 hw => ?_)
  refine z_aload_n F dX11_playBy_12 rfl rfl 0 rfl ?_
  refine z_cVv (As := []) (st := []) F (c_X11_readHeld l g k0 hw) cv_X11_readHeld w_653 ⟨rfl, rfl, Nat.le_of_ble_eq_true rfl, Nat.le_of_ble_eq_true rfl⟩ k0 rfl rfl (Nat.le_of_ble_eq_true rfl) dX11_playBy_13 rfl (fun M13 hw => ?_)
  refine z_aload_n F dX11_playBy_16 rfl rfl 0 rfl ?_
  refine z_getR F fl_461 k0 dX11_playBy_17 rfl ?_
  refine z_aload_n F dX11_playBy_20 rfl rfl 0 rfl ?_
  refine z_getR F fl_449 k0 dX11_playBy_21 rfl ?_
  refine z_aload_n F dX11_playBy_24 rfl rfl 0 rfl ?_
  refine z_getR F fl_453 k0 dX11_playBy_25 rfl ?_
  refine z_cVv (As := [.ref (g.2.2.1 + (rt a0 4)), .ref (g.2.2.1 + (rt a0 8))]) (st := []) F (c_X6_play l g (tk_11_16 k0) (tk_11_4 k0) (tk_11_8 k0) hw) cv_X6_play w_874 ⟨rfl, rfl, Nat.le_of_ble_eq_true rfl, Nat.le_of_ble_eq_true rfl⟩ (tk_11_16 k0) rfl rfl (Nat.le_of_ble_eq_true rfl) dX11_playBy_28 rfl (fun M28 hw => ?_)
  exact z_vret F hr dX11_playBy_31 hw
theorem cv_X11_playBy : CV yX11_playBy RX11 cX11_playBy 2 none 1 := ⟨w_872, w_20, w_67, w_873, rfl, by decide +kernel, by decide +kernel, by decide +kernel⟩
abbrev rm_X11_replay : Room := { frames := 4, cells := 0, slots := 0, locals := 93 }
def wp_X11_replay_b93 (a0 : Nat) (Q : Int → Mem → Prop) (M : Mem) (x2 : Int) : Prop :=
  wp_X11_playBy a0 (rt a0 7) M (fun M98 =>
  wp_X6_tell (rt a0 16) x2 M98 (fun r106 =>
  Q r106 M98))
def wp_X11_replay_b66 (a0 : Nat) (Q : Int → Mem → Prop) (M : Mem) (x2 : Int) : Prop :=
  wp_X11_look a0 M (fun M67 =>
  (((w32 20 ≤ w32 x2) → (
    wp_X11_replay_b93 a0 Q M67 x2)) ∧
  (¬ (w32 20 ≤ w32 x2) → (
    w32 10 ≠ 0 ∧ (
    wp_X8_hasRung (rt a0 3) ((w32 x2).tmod (w32 10)) M67 (fun r84 =>
    ((r84 = true → (
      wp_X11_replay_b93 a0 Q M67 x2)) ∧
    (r84 = false → (
      Q (-12) M67)))))))))
def wp_X11_replay_b12 (a0 : Nat) (Q : Int → Mem → Prop) (M : Mem) (x1 : Int) (x2 : Int) : Prop :=
  wp_X11_isAskedOfReplay x2 M (fun r13 =>
  ((r13 = true → (
    wp_J7_fill_53178 (rt a0 7) (-1) M (fun M27 =>
    (((w32 x1 = w32 (-1)) → (
      wp_X11_replay_b66 a0 Q M27 x2)) ∧
    (¬ (w32 x1 = w32 (-1)) → (
      inb (rt a0 17) x1 ∧ (
      wp_X9_isMissing (rt (rt a0 17) (ix x1)) M27 (fun r41 =>
      ((r41 = false → (
        inb (rt a0 17) x1 ∧ (
        wp_X11_readRates a0 (rt (rt a0 17) (ix x1)) M27 (fun r57 M57 =>
        ((r57 = true → (
          wp_X11_replay_b66 a0 Q M57 x2)) ∧
        (r57 = false → (
          Q (-2) M57))))))) ∧
      (r41 = true → (
        Q (-11) M27))))))))))) ∧
  (r13 = false → (
    Q (-2) M))))
def wp_X11_replay (a0 : Nat) (a1 : Int) (a2 : Int) (M : Mem) (Q : Int → Mem → Prop) : Prop :=
  (((w32 a1 = w32 (-1)) → (
    wp_X11_replay_b12 a0 Q M a1 a2)) ∧
  (¬ (w32 a1 = w32 (-1)) → (
    wp_X11_isSheet a1 M (fun r6 =>
    ((r6 = false → (
      Q (-2) M)) ∧
    (r6 = true → (
      wp_X11_replay_b12 a0 Q M a1 a2)))))))
set_option maxRecDepth 100000 in
set_option maxHeartbeats 4000000 in
theorem bk_X11_replay_93 {g : En} {p : Program} {l : Launch} {e : Env} {s : State} {m : MethodId} {args : Array Value} {below : List Frame} {meth : Method} {c : Code} {M : Mem} {a0 : Nat} {Q : Int → Mem → Prop} {x2 : Int} (F : Fx g p s m args meth c cX11_replay 3 RX11) (hr : meth.sig.returnType = (some .int)) (k0 : kd a0 = 11)
    (hw : wp_X11_replay_b93 a0 Q M x2) : Z g p l e rm_X11_replay s m args below meth c 3 (MQ below (va_Qi (S := Int × Mem) (fun r u => r = i3 u.1 ∧ Q u.1 u.2) (fun u => Rp g u.2) (aR g)) args s 0 0 (aR g)) M 93 [(0, .ref (g.2.2.1 + a0)), (2, .int (i3 x2))] [] := by
  refine z_aload_n F dX11_replay_93 rfl rfl 0 rfl ?_
  refine z_aload_n F dX11_replay_94 rfl rfl 0 rfl ?_
  refine z_getR F fl_452 k0 dX11_replay_95 rfl ?_
  refine z_cVv (As := [.ref (g.2.2.1 + (rt a0 7))]) (st := []) F (c_X11_playBy l g k0 (tk_11_7 k0) hw) cv_X11_playBy w_870 ⟨rfl, rfl, Nat.le_of_ble_eq_true rfl, Nat.le_of_ble_eq_true rfl⟩ k0 rfl rfl (Nat.le_of_ble_eq_true rfl) dX11_replay_98 rfl (fun M98 hw => ?_)
  refine z_aload_n F dX11_replay_101 rfl rfl 0 rfl ?_
  refine z_getR F fl_461 k0 dX11_replay_102 rfl ?_
  refine z_iload_n F dX11_replay_105 rfl rfl 1 rfl ?_
  refine z_cVlp (As := [.int (i3 x2)]) (st := []) F (c_X6_tell l g (tk_11_16 k0) hw) cv_X6_tell w_881 ⟨rfl, rfl, Nat.le_of_ble_eq_true rfl, Nat.le_of_ble_eq_true rfl⟩ (tk_11_16 k0) rfl rfl (Nat.le_of_ble_eq_true rfl) dX11_replay_106 rfl (fun r106 hw => ?_)
  refine z_l2i F dX11_replay_109 rfl ?_
  exact z_iret (x := r106) F hr dX11_replay_110 hw
set_option maxRecDepth 100000 in
set_option maxHeartbeats 4000000 in
theorem bk_X11_replay_66 {g : En} {p : Program} {l : Launch} {e : Env} {s : State} {m : MethodId} {args : Array Value} {below : List Frame} {meth : Method} {c : Code} {M : Mem} {a0 : Nat} {Q : Int → Mem → Prop} {x2 : Int} (F : Fx g p s m args meth c cX11_replay 3 RX11) (hr : meth.sig.returnType = (some .int)) (k0 : kd a0 = 11)
    (hw : wp_X11_replay_b66 a0 Q M x2) : Z g p l e rm_X11_replay s m args below meth c 3 (MQ below (va_Qi (S := Int × Mem) (fun r u => r = i3 u.1 ∧ Q u.1 u.2) (fun u => Rp g u.2) (aR g)) args s 0 0 (aR g)) M 66 [(0, .ref (g.2.2.1 + a0)), (2, .int (i3 x2))] [] := by
  refine z_aload_n F dX11_replay_66 rfl rfl 0 rfl ?_
  refine z_cVv (As := []) (st := []) F (c_X11_look l g k0 hw) cv_X11_look w_530 ⟨rfl, rfl, Nat.le_of_ble_eq_true rfl, Nat.le_of_ble_eq_true rfl⟩ k0 rfl rfl (Nat.le_of_ble_eq_true rfl) dX11_replay_67 rfl (fun M67 hw => ?_)
  refine z_iload_n F dX11_replay_70 rfl rfl 1 rfl ?_
  refine z_bipush F dX11_replay_71 (by decide) rfl ?_
  refine z_icmp_ge F dX11_replay_73 rfl rfl hw (fun hw => ?_) (fun hw => ?_)
  · refine z_sub [0, 1] rfl ?_
    exact bk_X11_replay_93 F hr k0 hw
  · refine z_aload_n F dX11_replay_76 rfl rfl 0 rfl ?_
    refine z_getR F fl_448 k0 dX11_replay_77 rfl ?_
    refine z_iload_n F dX11_replay_80 rfl rfl 1 rfl ?_
    refine z_bipush F dX11_replay_81 (by decide) rfl ?_
    refine z_irem F dX11_replay_83 rfl hw (fun hw => ?_)
    refine z_cVbp (As := [.int (i3 ((w32 x2).tmod (w32 10)))]) (st := []) F (c_X8_hasRung l g (tk_11_3 k0) hw) cv_X8_hasRung w_564 ⟨rfl, rfl, Nat.le_of_ble_eq_true rfl, Nat.le_of_ble_eq_true rfl⟩ (tk_11_3 k0) rfl rfl (Nat.le_of_ble_eq_true rfl) dX11_replay_84 rfl (fun r84 hw => ?_)
    refine z_ifb_ne F dX11_replay_87 rfl rfl hw (fun hw => ?_) (fun hw => ?_)
    · refine z_sub [0, 1] rfl ?_
      exact bk_X11_replay_93 F hr k0 hw
    · refine z_bipush F dX11_replay_90 (by decide) rfl ?_
      exact z_iret (x := (-12)) F hr dX11_replay_92 hw
set_option maxRecDepth 100000 in
set_option maxHeartbeats 4000000 in
theorem bk_X11_replay_12 {g : En} {p : Program} {l : Launch} {e : Env} {s : State} {m : MethodId} {args : Array Value} {below : List Frame} {meth : Method} {c : Code} {M : Mem} {a0 : Nat} {Q : Int → Mem → Prop} {x1 : Int} {x2 : Int} (F : Fx g p s m args meth c cX11_replay 3 RX11) (hr : meth.sig.returnType = (some .int)) (k0 : kd a0 = 11)
    (hw : wp_X11_replay_b12 a0 Q M x1 x2) : Z g p l e rm_X11_replay s m args below meth c 3 (MQ below (va_Qi (S := Int × Mem) (fun r u => r = i3 u.1 ∧ Q u.1 u.2) (fun u => Rp g u.2) (aR g)) args s 0 0 (aR g)) M 12 [(0, .ref (g.2.2.1 + a0)), (1, .int (i3 x1)), (2, .int (i3 x2))] [] := by
  refine z_iload_n F dX11_replay_12 rfl rfl 2 rfl ?_
  refine z_cSbp (As := [.int (i3 x2)]) (st := []) F (c_X11_isAskedOfReplay l g hw) cs_X11_isAskedOfReplay w_859 ⟨rfl, rfl, Nat.le_of_ble_eq_true rfl, Nat.le_of_ble_eq_true rfl⟩ rfl (Nat.le_of_ble_eq_true rfl) dX11_replay_13 rfl (fun r13 hw => ?_)
  refine z_ifb_ne F dX11_replay_16 rfl rfl hw (fun hw => ?_) (fun hw => ?_)
  · refine z_aload_n F dX11_replay_22 rfl rfl 0 rfl ?_
    refine z_getR F fl_452 k0 dX11_replay_23 rfl ?_
    refine z_iconst F dX11_replay_26 rfl ?_
    refine z_cSv (As := [.ref (g.2.2.1 + (rt a0 7)), .int (i3 (-1))]) (st := []) F (c_J7_fill_53178 l g (tk_11_7 k0) hw) cs_J7_fill_53178 w_424 ⟨rfl, rfl, Nat.le_of_ble_eq_true rfl, Nat.le_of_ble_eq_true rfl⟩ rfl (Nat.le_of_ble_eq_true rfl) dX11_replay_27 rfl (fun M27 hw => ?_)
    refine z_iload_n F dX11_replay_30 rfl rfl 1 rfl ?_
    refine z_iconst F dX11_replay_31 rfl ?_
    refine z_icmp_eq F dX11_replay_32 rfl rfl hw (fun hw => ?_) (fun hw => ?_)
    · refine z_sub [0, 2] rfl ?_
      exact bk_X11_replay_66 F hr k0 hw
    · refine z_aload_n F dX11_replay_35 rfl rfl 0 rfl ?_
      refine z_getR F fl_462 k0 dX11_replay_36 rfl ?_
      refine z_iload_n F dX11_replay_39 rfl rfl 1 rfl ?_
      have n40 := hw.1
      refine z_aald F 3 (tk_11_17 k0) rfl rfl dX11_replay_40 rfl hw (fun hw => ?_)
      refine z_cVbp (As := []) (st := []) F (c_X9_isMissing l g (tka_18 (tk_11_17 k0) n40) hw) cv_X9_isMissing w_862 ⟨rfl, rfl, Nat.le_of_ble_eq_true rfl, Nat.le_of_ble_eq_true rfl⟩ (tka_18 (tk_11_17 k0) n40) rfl rfl (Nat.le_of_ble_eq_true rfl) dX11_replay_41 rfl (fun r41 hw => ?_)
      refine z_ifb_eq F dX11_replay_44 rfl rfl hw (fun hw => ?_) (fun hw => ?_)
      · refine z_aload_n F dX11_replay_50 rfl rfl 0 rfl ?_
        refine z_aload_n F dX11_replay_51 rfl rfl 0 rfl ?_
        refine z_getR F fl_462 k0 dX11_replay_52 rfl ?_
        refine z_iload_n F dX11_replay_55 rfl rfl 1 rfl ?_
        have n56 := hw.1
        refine z_aald F 3 (tk_11_17 k0) rfl rfl dX11_replay_56 rfl hw (fun hw => ?_)
        refine z_cVb (As := [.ref (g.2.2.1 + (rt (rt a0 17) (ix x1)))]) (st := []) F (c_X11_readRates l g k0 (tka_18 (tk_11_17 k0) n56) hw) cv_X11_readRates w_866 ⟨rfl, rfl, Nat.le_of_ble_eq_true rfl, Nat.le_of_ble_eq_true rfl⟩ k0 rfl rfl (Nat.le_of_ble_eq_true rfl) dX11_replay_57 rfl (fun r57 M57 hw => ?_)
        refine z_ifb_ne F dX11_replay_60 rfl rfl hw (fun hw => ?_) (fun hw => ?_)
        · refine z_sub [0, 2] rfl ?_
          exact bk_X11_replay_66 F hr k0 hw
        · refine z_bipush F dX11_replay_63 (by decide) rfl ?_
          exact z_iret (x := (-2)) F hr dX11_replay_65 hw
      · refine z_bipush F dX11_replay_47 (by decide) rfl ?_
        exact z_iret (x := (-11)) F hr dX11_replay_49 hw
  · refine z_bipush F dX11_replay_19 (by decide) rfl ?_
    exact z_iret (x := (-2)) F hr dX11_replay_21 hw
set_option maxRecDepth 100000 in
set_option maxHeartbeats 4000000 in
theorem c_X11_replay (l : Launch) (g : En) {a0 : Nat} {a1 : Int} {a2 : Int} {M : Mem} {Q : Int → Mem → Prop} (k0 : kd a0 = 11) (hw : wp_X11_replay a0 a1 a2 M Q) :
    Met l yX11_replay (WS yX11_replay cX11_replay 3 (some .int)) rm_X11_replay (va_Pc [.ref (g.2.2.1 + a0), .int (i3 a1), .int (i3 a2)] (Rp g M)) (va_Qi (S := Int × Mem) (fun r u => r = i3 u.1 ∧ Q u.1 u.2) (fun u => Rp g u.2) (aR g)) 0 0 (aR g) := by
  refine met_Z (plainFor_of_name rfl) (Nat.le_of_ble_eq_true rfl) ?_
  intro p e s m args below meth c F hr _
  show Z g p l e rm_X11_replay s m args below meth c 3 (MQ below (va_Qi (S := Int × Mem) (fun r u => r = i3 u.1 ∧ Q u.1 u.2) (fun u => Rp g u.2) (aR g)) args s 0 0 (aR g)) M 0 [(0, .ref (g.2.2.1 + a0)), (1, .int (i3 a1)), (2, .int (i3 a2))] []
  refine z_iload_n F dX11_replay_0 rfl rfl 1 rfl ?_
  refine z_iconst F dX11_replay_1 rfl ?_
  refine z_icmp_eq F dX11_replay_2 rfl rfl hw (fun hw => ?_) (fun hw => ?_)
  · refine z_sub [0, 1, 2] rfl ?_
    exact bk_X11_replay_12 F hr k0 hw
  · refine z_iload_n F dX11_replay_5 rfl rfl 1 rfl ?_
    refine z_cSbp (As := [.int (i3 a1)]) (st := []) F (c_X11_isSheet l g hw) cs_X11_isSheet w_856 ⟨rfl, rfl, Nat.le_of_ble_eq_true rfl, Nat.le_of_ble_eq_true rfl⟩ rfl (Nat.le_of_ble_eq_true rfl) dX11_replay_6 rfl (fun r6 hw => ?_)
    refine z_ifb_eq F dX11_replay_9 rfl rfl hw (fun hw => ?_) (fun hw => ?_)
    · refine z_bipush F dX11_replay_19 (by decide) rfl ?_
      exact z_iret (x := (-2)) F hr dX11_replay_21 hw
    · refine z_sub [0, 1, 2] rfl ?_
      exact bk_X11_replay_12 F hr k0 hw
theorem cv_X11_replay : CV yX11_replay RX11 cX11_replay 3 (some .int) 2 := ⟨w_853, w_854, w_67, w_855, rfl, by decide +kernel, by decide +kernel, by decide +kernel⟩
abbrev rm_X11_worst : Room := { frames := 4, cells := 0, slots := 0, locals := 93 }
def wp_X11_worst_b88 (a0 : Nat) (Q : Int → Mem → Prop) (K23 : Mem → Int → Int → Int → Prop) (M : Mem) (x1 : Int) (x2 : Int) (x3 : Int) (x5 : Int) : Prop :=
  K23 M x2 x3 (x5 + 1)
def wp_X11_worst_b77 (a0 : Nat) (Q : Int → Mem → Prop) (K23 : Mem → Int → Int → Int → Prop) (M : Mem) (x1 : Int) (x5 : Int) : Prop :=
  wp_X11_worst_b88 a0 Q K23 M x1 x5 (M (rt a0 16) 1) x5
def wp_X11_worst_B23 (a0 : Nat) (Q : Int → Mem → Prop) (K23 : Mem → Int → Int → Int → Prop) (M : Mem) (x1 : Int) (x2 : Int) (x3 : Int) (x5 : Int) : Prop :=
  (((w32 (M (rt a0 3) 0) ≤ w32 x5) → (
    (((¬ w32 x1 = 0) → (
      Q x3 M)) ∧
    (¬ (¬ w32 x1 = 0) → (
      Q x2 M))))) ∧
  (¬ (w32 (M (rt a0 3) 0) ≤ w32 x5) → (
    wp_J7_fill_53178 (rt a0 7) (-1) M (fun M40 =>
    inb (rt a0 7) x5 ∧ (
    ∀ M51 : Mem, M51 = st2 M40 (rt a0 7) (ix x5) 9 →
    wp_X11_playBy a0 (rt a0 7) M51 (fun M57 =>
    (((w32 x2 = w32 (-1)) → (
      wp_X11_worst_b77 a0 Q K23 M57 x1 x5)) ∧
    (¬ (w32 x2 = w32 (-1)) → (
      (((w64 (M57 (rt a0 16) 1) ≤ w64 x3) → (
        wp_X11_worst_b88 a0 Q K23 M57 x1 x2 x3 x5)) ∧
      (¬ (w64 (M57 (rt a0 16) 1) ≤ w64 x3) → (
        wp_X11_worst_b77 a0 Q K23 M57 x1 x5))))))))))))
def wp_X11_worst_L23 (a0 : Nat) (Q : Int → Mem → Prop) (M : Mem) (x1 : Int) (x2 : Int) (x3 : Int) (x5 : Int) : Prop :=
  ∃ (I : Mem → Int → Int → Int → Prop) (μ : Mem → Int → Int → Int → Nat), I M x2 x3 x5 ∧ ∀ (M : Mem) (x2 : Int) (x3 : Int) (x5 : Int), I M x2 x3 x5 →
    wp_X11_worst_B23 a0 Q (fun M' x2' x3' x5' => I M' x2' x3' x5' ∧ μ M' x2' x3' x5' < μ M x2 x3 x5) M x1 x2 x3 x5
def wp_X11_worst (a0 : Nat) (a1 : Int) (M : Mem) (Q : Int → Mem → Prop) : Prop :=
  wp_X11_within a1 0 1 M (fun r3 =>
  ((r3 = true → (
    wp_X11_look a0 M (fun M13 =>
    wp_X11_worst_L23 a0 Q M13 a1 (-1) 0 0))) ∧
  (r3 = false → (
    Q (-2) M))))
set_option maxRecDepth 100000 in
set_option maxHeartbeats 4000000 in
theorem bk_X11_worst_88 {g : En} {p : Program} {l : Launch} {e : Env} {s : State} {m : MethodId} {args : Array Value} {below : List Frame} {meth : Method} {c : Code} {M : Mem} {a0 : Nat} {Q : Int → Mem → Prop} {K23 : Mem → Int → Int → Int → Prop} {x1 : Int} {x2 : Int} {x3 : Int} {x5 : Int} (F : Fx g p s m args meth c cX11_worst 6 RX11) (hr : meth.sig.returnType = (some .int)) (k0 : kd a0 = 11)
    (hK23 : ∀ (M' : Mem) (x2' : Int) (x3' : Int) (x5' : Int), K23 M' x2' x3' x5' → Z g p l e rm_X11_worst s m args below meth c 6 (MQ below (va_Qi (S := Int × Mem) (fun r u => r = i3 u.1 ∧ Q u.1 u.2) (fun u => Rp g u.2) (aR g)) args s 0 0 (aR g)) M' 23 [(0, .ref (g.2.2.1 + a0)), (1, .int (i3 x1)), (2, .int (i3 x2')), (3, .long (i6 x3')), (5, .int (i3 x5'))] [])
    (hw : wp_X11_worst_b88 a0 Q K23 M x1 x2 x3 x5) : Z g p l e rm_X11_worst s m args below meth c 6 (MQ below (va_Qi (S := Int × Mem) (fun r u => r = i3 u.1 ∧ Q u.1 u.2) (fun u => Rp g u.2) (aR g)) args s 0 0 (aR g)) M 88 [(0, .ref (g.2.2.1 + a0)), (1, .int (i3 x1)), (2, .int (i3 x2)), (3, .long (i6 x3)), (5, .int (i3 x5))] [] := by
  refine z_iinc F dX11_worst_88 rfl 4 rfl (by decide) rfl ?_
  refine z_goto F dX11_worst_91 rfl ?_
  refine z_sub [1, 2, 3, 4, 0] rfl ?_
  exact hK23 M x2 x3 (x5 + 1) hw
set_option maxRecDepth 100000 in
set_option maxHeartbeats 4000000 in
theorem bk_X11_worst_77 {g : En} {p : Program} {l : Launch} {e : Env} {s : State} {m : MethodId} {args : Array Value} {below : List Frame} {meth : Method} {c : Code} {M : Mem} {a0 : Nat} {Q : Int → Mem → Prop} {K23 : Mem → Int → Int → Int → Prop} {x1 : Int} {x5 : Int} (F : Fx g p s m args meth c cX11_worst 6 RX11) (hr : meth.sig.returnType = (some .int)) (k0 : kd a0 = 11)
    (hK23 : ∀ (M' : Mem) (x2' : Int) (x3' : Int) (x5' : Int), K23 M' x2' x3' x5' → Z g p l e rm_X11_worst s m args below meth c 6 (MQ below (va_Qi (S := Int × Mem) (fun r u => r = i3 u.1 ∧ Q u.1 u.2) (fun u => Rp g u.2) (aR g)) args s 0 0 (aR g)) M' 23 [(0, .ref (g.2.2.1 + a0)), (1, .int (i3 x1)), (2, .int (i3 x2')), (3, .long (i6 x3')), (5, .int (i3 x5'))] [])
    (hw : wp_X11_worst_b77 a0 Q K23 M x1 x5) : Z g p l e rm_X11_worst s m args below meth c 6 (MQ below (va_Qi (S := Int × Mem) (fun r u => r = i3 u.1 ∧ Q u.1 u.2) (fun u => Rp g u.2) (aR g)) args s 0 0 (aR g)) M 77 [(0, .ref (g.2.2.1 + a0)), (1, .int (i3 x1)), (5, .int (i3 x5))] [] := by
  refine z_iload F dX11_worst_77 rfl 2 rfl ?_
  refine z_istore_n F dX11_worst_79 rfl rfl (by decide) rfl ?_
  refine z_aload_n F dX11_worst_80 rfl rfl 1 rfl ?_
  refine z_getR F fl_461 k0 dX11_worst_81 rfl ?_
  refine z_getL F fl_400 (tk_11_16 k0) dX11_worst_84 rfl ?_
  refine z_lstore_n F dX11_worst_87 rfl rfl (by decide) rfl ?_
  refine z_sub [2, 3, 1, 0, 4] rfl ?_
  exact bk_X11_worst_88 F hr k0 hK23 hw
set_option maxRecDepth 100000 in
set_option maxHeartbeats 4000000 in
theorem bk_X11_worst_B23 {g : En} {p : Program} {l : Launch} {e : Env} {s : State} {m : MethodId} {args : Array Value} {below : List Frame} {meth : Method} {c : Code} {M : Mem} {a0 : Nat} {Q : Int → Mem → Prop} {K23 : Mem → Int → Int → Int → Prop} {x1 : Int} {x2 : Int} {x3 : Int} {x5 : Int} (F : Fx g p s m args meth c cX11_worst 6 RX11) (hr : meth.sig.returnType = (some .int)) (k0 : kd a0 = 11)
    (hK23 : ∀ (M' : Mem) (x2' : Int) (x3' : Int) (x5' : Int), K23 M' x2' x3' x5' → Z g p l e rm_X11_worst s m args below meth c 6 (MQ below (va_Qi (S := Int × Mem) (fun r u => r = i3 u.1 ∧ Q u.1 u.2) (fun u => Rp g u.2) (aR g)) args s 0 0 (aR g)) M' 23 [(0, .ref (g.2.2.1 + a0)), (1, .int (i3 x1)), (2, .int (i3 x2')), (3, .long (i6 x3')), (5, .int (i3 x5'))] [])
    (hw : wp_X11_worst_B23 a0 Q K23 M x1 x2 x3 x5) : Z g p l e rm_X11_worst s m args below meth c 6 (MQ below (va_Qi (S := Int × Mem) (fun r u => r = i3 u.1 ∧ Q u.1 u.2) (fun u => Rp g u.2) (aR g)) args s 0 0 (aR g)) M 23 [(0, .ref (g.2.2.1 + a0)), (1, .int (i3 x1)), (2, .int (i3 x2)), (3, .long (i6 x3)), (5, .int (i3 x5))] [] := by
  refine z_iload F dX11_worst_23 rfl 4 rfl ?_
  refine z_aload_n F dX11_worst_25 rfl rfl 0 rfl ?_
  refine z_getR F fl_448 k0 dX11_worst_26 rfl ?_
  refine z_getI F fl_198 (tk_11_3 k0) dX11_worst_29 rfl ?_
  refine z_icmp_ge F dX11_worst_32 rfl rfl hw (fun hw => ?_) (fun hw => ?_)
  · refine z_iload_n F dX11_worst_94 rfl rfl 1 rfl ?_
    refine z_if_ne F dX11_worst_95 rfl rfl hw (fun hw => ?_) (fun hw => ?_)
    · refine z_lload_n F dX11_worst_102 rfl rfl 3 rfl ?_
      refine z_l2i F dX11_worst_103 rfl ?_
      exact z_iret (x := x3) F hr dX11_worst_104 hw
    · refine z_iload_n F dX11_worst_98 rfl rfl 2 rfl ?_
      refine z_goto F dX11_worst_99 rfl ?_
      exact z_iret (x := x2) F hr dX11_worst_104 hw
  · refine z_aload_n F dX11_worst_35 rfl rfl 0 rfl ?_
    refine z_getR F fl_452 k0 dX11_worst_36 rfl ?_
    refine z_iconst F dX11_worst_39 rfl ?_
    refine z_cSv (As := [.ref (g.2.2.1 + (rt a0 7)), .int (i3 (-1))]) (st := []) F (c_J7_fill_53178 l g (tk_11_7 k0) hw) cs_J7_fill_53178 w_424 ⟨rfl, rfl, Nat.le_of_ble_eq_true rfl, Nat.le_of_ble_eq_true rfl⟩ rfl (Nat.le_of_ble_eq_true rfl) dX11_worst_40 rfl (fun M40 hw => ?_)
    refine z_aload_n F dX11_worst_43 rfl rfl 0 rfl ?_
    refine z_getR F fl_452 k0 dX11_worst_44 rfl ?_
    refine z_iload F dX11_worst_47 rfl 4 rfl ?_
    refine z_bipush F dX11_worst_49 (by decide) rfl ?_
    refine z_iast F (tk_11_7 k0) dX11_worst_51 rfl hw (fun hw => ?_)
    refine z_nmM (fun M51 eM51 => ?_)
    have hw := hw M51 eM51
    refine z_aload_n F dX11_worst_52 rfl rfl 0 rfl ?_
    refine z_aload_n F dX11_worst_53 rfl rfl 0 rfl ?_
    refine z_getR F fl_452 k0 dX11_worst_54 rfl ?_
    refine z_cVv (As := [.ref (g.2.2.1 + (rt a0 7))]) (st := []) F (c_X11_playBy l g k0 (tk_11_7 k0) hw) cv_X11_playBy w_870 ⟨rfl, rfl, Nat.le_of_ble_eq_true rfl, Nat.le_of_ble_eq_true rfl⟩ k0 rfl rfl (Nat.le_of_ble_eq_true rfl) dX11_worst_57 rfl (fun M57 hw => ?_)
    refine z_iload_n F dX11_worst_60 rfl rfl 2 rfl ?_
    refine z_iconst F dX11_worst_61 rfl ?_
    refine z_icmp_eq F dX11_worst_62 rfl rfl hw (fun hw => ?_) (fun hw => ?_)
    · refine z_sub [0, 1, 4] rfl ?_
      exact bk_X11_worst_77 F hr k0 hK23 hw
    · refine z_aload_n F dX11_worst_65 rfl rfl 0 rfl ?_
      refine z_getR F fl_461 k0 dX11_worst_66 rfl ?_
      refine z_getL F fl_400 (tk_11_16 k0) dX11_worst_69 rfl ?_
      refine z_lload_n F dX11_worst_72 rfl rfl 3 rfl ?_
      refine z_lcmp_le F dX11_worst_73 rfl dX11_worst_74 rfl rfl hw (fun hw => ?_) (fun hw => ?_)
      · refine z_sub [0, 1, 2, 3, 4] rfl ?_
        exact bk_X11_worst_88 F hr k0 hK23 hw
      · refine z_sub [0, 1, 4] rfl ?_
        exact bk_X11_worst_77 F hr k0 hK23 hw
set_option maxRecDepth 100000 in
set_option maxHeartbeats 4000000 in
theorem lp_X11_worst_23 {g : En} {p : Program} {l : Launch} {e : Env} {s : State} {m : MethodId} {args : Array Value} {below : List Frame} {meth : Method} {c : Code} {M : Mem} {a0 : Nat} {Q : Int → Mem → Prop} {x1 : Int} {x2 : Int} {x3 : Int} {x5 : Int} (F : Fx g p s m args meth c cX11_worst 6 RX11) (hr : meth.sig.returnType = (some .int)) (k0 : kd a0 = 11)
    (hw : wp_X11_worst_L23 a0 Q M x1 x2 x3 x5) : Z g p l e rm_X11_worst s m args below meth c 6 (MQ below (va_Qi (S := Int × Mem) (fun r u => r = i3 u.1 ∧ Q u.1 u.2) (fun u => Rp g u.2) (aR g)) args s 0 0 (aR g)) M 23 [(0, .ref (g.2.2.1 + a0)), (1, .int (i3 x1)), (2, .int (i3 x2)), (3, .long (i6 x3)), (5, .int (i3 x5))] [] := by
  obtain ⟨I, μ, h0, hb⟩ := hw
  have key : ∀ (n : Nat) (M : Mem) (x2 : Int) (x3 : Int) (x5 : Int), I M x2 x3 x5 → μ M x2 x3 x5 < n → Z g p l e rm_X11_worst s m args below meth c 6 (MQ below (va_Qi (S := Int × Mem) (fun r u => r = i3 u.1 ∧ Q u.1 u.2) (fun u => Rp g u.2) (aR g)) args s 0 0 (aR g)) M 23 [(0, .ref (g.2.2.1 + a0)), (1, .int (i3 x1)), (2, .int (i3 x2)), (3, .long (i6 x3)), (5, .int (i3 x5))] [] := by
    intro n
    induction n with
    | zero => exact fun _ _ _ _ _ h => absurd h (Nat.not_lt_zero _)
    | succ n ih =>
      intro M x2 x3 x5 hI hn
      exact bk_X11_worst_B23 F hr k0 (fun M' x2' x3' x5' hk => ih M' x2' x3' x5' hk.1 (Nat.lt_of_lt_of_le hk.2 (Nat.le_of_lt_succ hn))) (hb M x2 x3 x5 hI)
  exact key _ M x2 x3 x5 h0 (Nat.lt_succ_self _)
set_option maxRecDepth 100000 in
set_option maxHeartbeats 4000000 in
theorem c_X11_worst (l : Launch) (g : En) {a0 : Nat} {a1 : Int} {M : Mem} {Q : Int → Mem → Prop} (k0 : kd a0 = 11) (hw : wp_X11_worst a0 a1 M Q) :
    Met l yX11_worst (WS yX11_worst cX11_worst 6 (some .int)) rm_X11_worst (va_Pc [.ref (g.2.2.1 + a0), .int (i3 a1)] (Rp g M)) (va_Qi (S := Int × Mem) (fun r u => r = i3 u.1 ∧ Q u.1 u.2) (fun u => Rp g u.2) (aR g)) 0 0 (aR g) := by
  refine met_Z (plainFor_of_name rfl) (Nat.le_of_ble_eq_true rfl) ?_
  intro p e s m args below meth c F hr _
  show Z g p l e rm_X11_worst s m args below meth c 6 (MQ below (va_Qi (S := Int × Mem) (fun r u => r = i3 u.1 ∧ Q u.1 u.2) (fun u => Rp g u.2) (aR g)) args s 0 0 (aR g)) M 0 [(0, .ref (g.2.2.1 + a0)), (1, .int (i3 a1))] []
  refine z_iload_n F dX11_worst_0 rfl rfl 1 rfl ?_
  refine z_iconst F dX11_worst_1 rfl ?_
  refine z_iconst F dX11_worst_2 rfl ?_
  refine z_cSbp (As := [.int (i3 a1), .int (i3 0), .int (i3 1)]) (st := []) F (c_X11_within l g hw) cs_X11_within w_507 ⟨rfl, rfl, Nat.le_of_ble_eq_true rfl, Nat.le_of_ble_eq_true rfl⟩ rfl (Nat.le_of_ble_eq_true rfl) dX11_worst_3 rfl (fun r3 hw => ?_)
  refine z_ifb_ne F dX11_worst_6 rfl rfl hw (fun hw => ?_) (fun hw => ?_)
  · refine z_aload_n F dX11_worst_12 rfl rfl 0 rfl ?_
    refine z_cVv (As := []) (st := []) F (c_X11_look l g k0 hw) cv_X11_look w_530 ⟨rfl, rfl, Nat.le_of_ble_eq_true rfl, Nat.le_of_ble_eq_true rfl⟩ k0 rfl rfl (Nat.le_of_ble_eq_true rfl) dX11_worst_13 rfl (fun M13 hw => ?_)
    refine z_iconst F dX11_worst_16 rfl ?_
    refine z_istore_n F dX11_worst_17 rfl rfl (by decide) rfl ?_
    refine z_lconst (v := 0) F dX11_worst_18 rfl rfl ?_
    refine z_lstore_n F dX11_worst_19 rfl rfl (by decide) rfl ?_
    refine z_iconst F dX11_worst_20 rfl ?_
    refine z_istore F dX11_worst_21 rfl (by decide) rfl ?_
    refine z_sub [3, 4, 2, 1, 0] rfl ?_
    exact lp_X11_worst_23 F hr k0 hw
  · refine z_bipush F dX11_worst_9 (by decide) rfl ?_
    exact z_iret (x := (-2)) F hr dX11_worst_11 hw
theorem cv_X11_worst : CV yX11_worst RX11 cX11_worst 6 (some .int) 1 := ⟨w_886, w_887, w_67, w_888, rfl, by decide +kernel, by decide +kernel, by decide +kernel⟩
abbrev rm_X11_shortBySeed : Room := { frames := 4, cells := 0, slots := 0, locals := 93 }
def wp_X11_shortBySeed_B4 (a0 : Nat) (Q : Int → Mem → Prop) (K4 : Mem → Int → Int → Prop) (M : Mem) (x2 : Int) (x3 : Int) : Prop :=
  (((w32 5 ≤ w32 x3) → (
    wp_X11_playBy a0 (rt a0 7) M (fun M42 =>
    Q (M42 (rt a0 16) 1) M42))) ∧
  (¬ (w32 5 ≤ w32 x3) → (
    ∀ v18 : Int, v18 = ((x2 * 1103515245) + 12345) →
    w32 4 ≠ 0 ∧ (
    inb (rt a0 7) x3 ∧ (
    ∀ M30 : Mem, M30 = st2 M (rt a0 7) (ix x3) ((w32 (v18 % 4294967296 / 512)).tmod (w32 4)) →
    K4 M30 v18 (x3 + 1))))))
def wp_X11_shortBySeed_L4 (a0 : Nat) (Q : Int → Mem → Prop) (M : Mem) (x2 : Int) (x3 : Int) : Prop :=
  ∃ (I : Mem → Int → Int → Prop) (μ : Mem → Int → Int → Nat), I M x2 x3 ∧ ∀ (M : Mem) (x2 : Int) (x3 : Int), I M x2 x3 →
    wp_X11_shortBySeed_B4 a0 Q (fun M' x2' x3' => I M' x2' x3' ∧ μ M' x2' x3' < μ M x2 x3) M x2 x3
def wp_X11_shortBySeed (a0 : Nat) (a1 : Int) (M : Mem) (Q : Int → Mem → Prop) : Prop :=
  wp_X11_shortBySeed_L4 a0 Q M a1 0
set_option maxRecDepth 100000 in
set_option maxHeartbeats 4000000 in
theorem bk_X11_shortBySeed_B4 {g : En} {p : Program} {l : Launch} {e : Env} {s : State} {m : MethodId} {args : Array Value} {below : List Frame} {meth : Method} {c : Code} {M : Mem} {a0 : Nat} {Q : Int → Mem → Prop} {K4 : Mem → Int → Int → Prop} {x2 : Int} {x3 : Int} (F : Fx g p s m args meth c cX11_shortBySeed 4 RX11) (hr : meth.sig.returnType = (some .long)) (k0 : kd a0 = 11)
    (hK4 : ∀ (M' : Mem) (x2' : Int) (x3' : Int), K4 M' x2' x3' → Z g p l e rm_X11_shortBySeed s m args below meth c 4 (MQ below (va_Ql (S := Int × Mem) (fun r u => r = i6 u.1 ∧ Q u.1 u.2) (fun u => Rp g u.2) (aR g)) args s 0 0 (aR g)) M' 4 [(0, .ref (g.2.2.1 + a0)), (2, .int (i3 x2')), (3, .int (i3 x3'))] [])
    (hw : wp_X11_shortBySeed_B4 a0 Q K4 M x2 x3) : Z g p l e rm_X11_shortBySeed s m args below meth c 4 (MQ below (va_Ql (S := Int × Mem) (fun r u => r = i6 u.1 ∧ Q u.1 u.2) (fun u => Rp g u.2) (aR g)) args s 0 0 (aR g)) M 4 [(0, .ref (g.2.2.1 + a0)), (2, .int (i3 x2)), (3, .int (i3 x3))] [] := by
  refine z_iload_n F dX11_shortBySeed_4 rfl rfl 2 rfl ?_
  refine z_iconst F dX11_shortBySeed_5 rfl ?_
  refine z_icmp_ge F dX11_shortBySeed_6 rfl rfl hw (fun hw => ?_) (fun hw => ?_)
  · refine z_aload_n F dX11_shortBySeed_37 rfl rfl 0 rfl ?_
    refine z_aload_n F dX11_shortBySeed_38 rfl rfl 0 rfl ?_
    refine z_getR F fl_452 k0 dX11_shortBySeed_39 rfl ?_
    refine z_cVv (As := [.ref (g.2.2.1 + (rt a0 7))]) (st := []) F (c_X11_playBy l g k0 (tk_11_7 k0) hw) cv_X11_playBy w_870 ⟨rfl, rfl, Nat.le_of_ble_eq_true rfl, Nat.le_of_ble_eq_true rfl⟩ k0 rfl rfl (Nat.le_of_ble_eq_true rfl) dX11_shortBySeed_42 rfl (fun M42 hw => ?_)
    refine z_aload_n F dX11_shortBySeed_45 rfl rfl 0 rfl ?_
    refine z_getR F fl_461 k0 dX11_shortBySeed_46 rfl ?_
    refine z_getL F fl_400 (tk_11_16 k0) dX11_shortBySeed_49 rfl ?_
    exact z_lret (x := (M42 (rt a0 16) 1)) F hr dX11_shortBySeed_52 hw
  · refine z_iload_n F dX11_shortBySeed_9 rfl rfl 1 rfl ?_
    refine z_ldcw (n := 1103515245) F w_897 (by decide) dX11_shortBySeed_10 rfl ?_
    refine z_imul F dX11_shortBySeed_13 rfl ?_
    refine z_sipush F dX11_shortBySeed_14 (by decide) rfl ?_
    refine z_iadd F dX11_shortBySeed_17 rfl ?_
    refine z_nmI (fun v18 ev18 => ?_)
    have hw := hw v18 ev18
    refine z_istore_n F dX11_shortBySeed_18 rfl rfl (by decide) rfl ?_
    refine z_aload_n F dX11_shortBySeed_19 rfl rfl 1 rfl ?_
    refine z_getR F fl_452 k0 dX11_shortBySeed_20 rfl ?_
    refine z_iload_n F dX11_shortBySeed_23 rfl rfl 2 rfl ?_
    refine z_iload_n F dX11_shortBySeed_24 rfl rfl 0 rfl ?_
    refine z_bipush F dX11_shortBySeed_25 (by decide) rfl ?_
    refine z_ush9 F dX11_shortBySeed_27 rfl ?_
    refine z_iconst F dX11_shortBySeed_28 rfl ?_
    refine z_irem F dX11_shortBySeed_29 rfl hw (fun hw => ?_)
    refine z_iast F (tk_11_7 k0) dX11_shortBySeed_30 rfl hw (fun hw => ?_)
    refine z_nmM (fun M30 eM30 => ?_)
    have hw := hw M30 eM30
    refine z_iinc F dX11_shortBySeed_31 rfl 2 rfl (by decide) rfl ?_
    refine z_goto F dX11_shortBySeed_34 rfl ?_
    refine z_sub [2, 1, 0] rfl ?_
    exact hK4 M30 v18 (x3 + 1) hw
set_option maxRecDepth 100000 in
set_option maxHeartbeats 4000000 in
theorem lp_X11_shortBySeed_4 {g : En} {p : Program} {l : Launch} {e : Env} {s : State} {m : MethodId} {args : Array Value} {below : List Frame} {meth : Method} {c : Code} {M : Mem} {a0 : Nat} {Q : Int → Mem → Prop} {x2 : Int} {x3 : Int} (F : Fx g p s m args meth c cX11_shortBySeed 4 RX11) (hr : meth.sig.returnType = (some .long)) (k0 : kd a0 = 11)
    (hw : wp_X11_shortBySeed_L4 a0 Q M x2 x3) : Z g p l e rm_X11_shortBySeed s m args below meth c 4 (MQ below (va_Ql (S := Int × Mem) (fun r u => r = i6 u.1 ∧ Q u.1 u.2) (fun u => Rp g u.2) (aR g)) args s 0 0 (aR g)) M 4 [(0, .ref (g.2.2.1 + a0)), (2, .int (i3 x2)), (3, .int (i3 x3))] [] := by
  obtain ⟨I, μ, h0, hb⟩ := hw
  have key : ∀ (n : Nat) (M : Mem) (x2 : Int) (x3 : Int), I M x2 x3 → μ M x2 x3 < n → Z g p l e rm_X11_shortBySeed s m args below meth c 4 (MQ below (va_Ql (S := Int × Mem) (fun r u => r = i6 u.1 ∧ Q u.1 u.2) (fun u => Rp g u.2) (aR g)) args s 0 0 (aR g)) M 4 [(0, .ref (g.2.2.1 + a0)), (2, .int (i3 x2)), (3, .int (i3 x3))] [] := by
    intro n
    induction n with
    | zero => exact fun _ _ _ _ h => absurd h (Nat.not_lt_zero _)
    | succ n ih =>
      intro M x2 x3 hI hn
      exact bk_X11_shortBySeed_B4 F hr k0 (fun M' x2' x3' hk => ih M' x2' x3' hk.1 (Nat.lt_of_lt_of_le hk.2 (Nat.le_of_lt_succ hn))) (hb M x2 x3 hI)
  exact key _ M x2 x3 h0 (Nat.lt_succ_self _)
set_option maxRecDepth 100000 in
set_option maxHeartbeats 4000000 in
theorem c_X11_shortBySeed (l : Launch) (g : En) {a0 : Nat} {a1 : Int} {M : Mem} {Q : Int → Mem → Prop} (k0 : kd a0 = 11) (hw : wp_X11_shortBySeed a0 a1 M Q) :
    Met l yX11_shortBySeed (WS yX11_shortBySeed cX11_shortBySeed 4 (some .long)) rm_X11_shortBySeed (va_Pc [.ref (g.2.2.1 + a0), .int (i3 a1)] (Rp g M)) (va_Ql (S := Int × Mem) (fun r u => r = i6 u.1 ∧ Q u.1 u.2) (fun u => Rp g u.2) (aR g)) 0 0 (aR g) := by
  refine met_Z (plainFor_of_name rfl) (Nat.le_of_ble_eq_true rfl) ?_
  intro p e s m args below meth c F hr _
  show Z g p l e rm_X11_shortBySeed s m args below meth c 4 (MQ below (va_Ql (S := Int × Mem) (fun r u => r = i6 u.1 ∧ Q u.1 u.2) (fun u => Rp g u.2) (aR g)) args s 0 0 (aR g)) M 0 [(0, .ref (g.2.2.1 + a0)), (1, .int (i3 a1))] []
  refine z_iload_n F dX11_shortBySeed_0 rfl rfl 1 rfl ?_
  refine z_istore_n F dX11_shortBySeed_1 rfl rfl (by decide) rfl ?_
  refine z_iconst F dX11_shortBySeed_2 rfl ?_
  refine z_istore_n F dX11_shortBySeed_3 rfl rfl (by decide) rfl ?_
  refine z_sub [2, 1, 0] rfl ?_
  exact lp_X11_shortBySeed_4 F hr k0 hw
theorem cv_X11_shortBySeed : CV yX11_shortBySeed RX11 cX11_shortBySeed 4 (some .long) 1 := ⟨w_895, w_21, w_67, w_896, rfl, by decide +kernel, by decide +kernel, by decide +kernel⟩
abbrev rm_X11_drawn : Room := { frames := 5, cells := 0, slots := 0, locals := 116 }
def wp_X11_drawn (a0 : Nat) (a1 : Int) (M : Mem) (Q : Int → Mem → Prop) : Prop :=
  wp_X11_shortBySeed a0 a1 M (fun r2 M2 =>
  Q r2 M2)
set_option maxRecDepth 100000 in
set_option maxHeartbeats 4000000 in
theorem c_X11_drawn (l : Launch) (g : En) {a0 : Nat} {a1 : Int} {M : Mem} {Q : Int → Mem → Prop} (k0 : kd a0 = 11) (hw : wp_X11_drawn a0 a1 M Q) :
    Met l yX11_drawn (WS yX11_drawn cX11_drawn 2 (some .int)) rm_X11_drawn (va_Pc [.ref (g.2.2.1 + a0), .int (i3 a1)] (Rp g M)) (va_Qi (S := Int × Mem) (fun r u => r = i3 u.1 ∧ Q u.1 u.2) (fun u => Rp g u.2) (aR g)) 0 0 (aR g) := by
  refine met_Z (plainFor_of_name rfl) (Nat.le_of_ble_eq_true rfl) ?_
  intro p e s m args below meth c F hr _
  show Z g p l e rm_X11_drawn s m args below meth c 2 (MQ below (va_Qi (S := Int × Mem) (fun r u => r = i3 u.1 ∧ Q u.1 u.2) (fun u => Rp g u.2) (aR g)) args s 0 0 (aR g)) M 0 [(0, .ref (g.2.2.1 + a0)), (1, .int (i3 a1))] []
  refine z_aload_n F dX11_drawn_0 rfl rfl 0 rfl ?_
  refine z_iload_n F dX11_drawn_1 rfl rfl 1 rfl ?_
  refine z_cVl (As := [.int (i3 a1)]) (st := []) F (c_X11_shortBySeed l g k0 hw) cv_X11_shortBySeed w_893 ⟨rfl, rfl, Nat.le_of_ble_eq_true rfl, Nat.le_of_ble_eq_true rfl⟩ k0 rfl rfl (Nat.le_of_ble_eq_true rfl) dX11_drawn_2 rfl (fun r2 M2 hw => ?_)
  refine z_l2i F dX11_drawn_5 rfl ?_
  exact z_iret (x := r2) F hr dX11_drawn_6 hw
theorem cv_X11_drawn : CV yX11_drawn RX11 cX11_drawn 2 (some .int) 1 := ⟨w_890, w_891, w_67, w_892, rfl, by decide +kernel, by decide +kernel, by decide +kernel⟩
abbrev rm_X11_chance : Room := { frames := 5, cells := 0, slots := 0, locals := 116 }
def wp_X11_chance_b48 (a0 : Nat) (Q : Int → Mem → Prop) (K26 : Mem → Int → Int → Prop) (M : Mem) (x1 : Int) (x2 : Int) (x3 : Int) (x4 : Int) (x5 : Int) : Prop :=
  K26 M x4 (x5 + 1)
def wp_X11_chance_B26 (a0 : Nat) (Q : Int → Mem → Prop) (K26 : Mem → Int → Int → Prop) (M : Mem) (x1 : Int) (x2 : Int) (x3 : Int) (x4 : Int) (x5 : Int) : Prop :=
  (((w32 x2 ≤ w32 x5) → (
    wp_X4_become (rt a0 11) (w32 x4) (w32 x2) M (fun M63 =>
    wp_X4_part (rt a0 11) x3 M63 (fun r71 =>
    Q r71 M63)))) ∧
  (¬ (w32 x2 ≤ w32 x5) → (
    wp_X11_shortBySeed a0 (x1 + x5) M (fun r37 M37 =>
    (((¬ w64 r37 = w64 0) → (
      wp_X11_chance_b48 a0 Q K26 M37 x1 x2 x3 x4 x5)) ∧
    (¬ (¬ w64 r37 = w64 0) → (
      wp_X11_chance_b48 a0 Q K26 M37 x1 x2 x3 (x4 + 1) x5)))))))
def wp_X11_chance_L26 (a0 : Nat) (Q : Int → Mem → Prop) (M : Mem) (x1 : Int) (x2 : Int) (x3 : Int) (x4 : Int) (x5 : Int) : Prop :=
  ∃ (I : Mem → Int → Int → Prop) (μ : Mem → Int → Int → Nat), I M x4 x5 ∧ ∀ (M : Mem) (x4 : Int) (x5 : Int), I M x4 x5 →
    wp_X11_chance_B26 a0 Q (fun M' x4' x5' => I M' x4' x5' ∧ μ M' x4' x5' < μ M x4 x5) M x1 x2 x3 x4 x5
def wp_X11_chance (a0 : Nat) (a1 : Int) (a2 : Int) (a3 : Int) (M : Mem) (Q : Int → Mem → Prop) : Prop :=
  wp_X11_within a2 1 20 M (fun r4 =>
  ((r4 = false → (
    Q (-2) M)) ∧
  (r4 = true → (
    wp_X11_isPart a3 M (fun r11 =>
    ((r11 = true → (
      wp_X11_chance_L26 a0 Q M a1 a2 a3 0 0)) ∧
    (r11 = false → (
      Q (-2) M))))))))
set_option maxRecDepth 100000 in
set_option maxHeartbeats 4000000 in
theorem bk_X11_chance_48 {g : En} {p : Program} {l : Launch} {e : Env} {s : State} {m : MethodId} {args : Array Value} {below : List Frame} {meth : Method} {c : Code} {M : Mem} {a0 : Nat} {Q : Int → Mem → Prop} {K26 : Mem → Int → Int → Prop} {x1 : Int} {x2 : Int} {x3 : Int} {x4 : Int} {x5 : Int} (F : Fx g p s m args meth c cX11_chance 6 RX11) (hr : meth.sig.returnType = (some .int)) (k0 : kd a0 = 11)
    (hK26 : ∀ (M' : Mem) (x4' : Int) (x5' : Int), K26 M' x4' x5' → Z g p l e rm_X11_chance s m args below meth c 6 (MQ below (va_Qi (S := Int × Mem) (fun r u => r = i3 u.1 ∧ Q u.1 u.2) (fun u => Rp g u.2) (aR g)) args s 0 0 (aR g)) M' 26 [(0, .ref (g.2.2.1 + a0)), (1, .int (i3 x1)), (2, .int (i3 x2)), (3, .int (i3 x3)), (4, .int (i3 x4')), (5, .int (i3 x5'))] [])
    (hw : wp_X11_chance_b48 a0 Q K26 M x1 x2 x3 x4 x5) : Z g p l e rm_X11_chance s m args below meth c 6 (MQ below (va_Qi (S := Int × Mem) (fun r u => r = i3 u.1 ∧ Q u.1 u.2) (fun u => Rp g u.2) (aR g)) args s 0 0 (aR g)) M 48 [(0, .ref (g.2.2.1 + a0)), (1, .int (i3 x1)), (2, .int (i3 x2)), (3, .int (i3 x3)), (4, .int (i3 x4)), (5, .int (i3 x5))] [] := by
  refine z_iinc F dX11_chance_48 rfl 5 rfl (by decide) rfl ?_
  refine z_goto F dX11_chance_51 rfl ?_
  refine z_sub [1, 2, 3, 4, 5, 0] rfl ?_
  exact hK26 M x4 (x5 + 1) hw
set_option maxRecDepth 100000 in
set_option maxHeartbeats 4000000 in
theorem bk_X11_chance_B26 {g : En} {p : Program} {l : Launch} {e : Env} {s : State} {m : MethodId} {args : Array Value} {below : List Frame} {meth : Method} {c : Code} {M : Mem} {a0 : Nat} {Q : Int → Mem → Prop} {K26 : Mem → Int → Int → Prop} {x1 : Int} {x2 : Int} {x3 : Int} {x4 : Int} {x5 : Int} (F : Fx g p s m args meth c cX11_chance 6 RX11) (hr : meth.sig.returnType = (some .int)) (k0 : kd a0 = 11)
    (hK26 : ∀ (M' : Mem) (x4' : Int) (x5' : Int), K26 M' x4' x5' → Z g p l e rm_X11_chance s m args below meth c 6 (MQ below (va_Qi (S := Int × Mem) (fun r u => r = i3 u.1 ∧ Q u.1 u.2) (fun u => Rp g u.2) (aR g)) args s 0 0 (aR g)) M' 26 [(0, .ref (g.2.2.1 + a0)), (1, .int (i3 x1)), (2, .int (i3 x2)), (3, .int (i3 x3)), (4, .int (i3 x4')), (5, .int (i3 x5'))] [])
    (hw : wp_X11_chance_B26 a0 Q K26 M x1 x2 x3 x4 x5) : Z g p l e rm_X11_chance s m args below meth c 6 (MQ below (va_Qi (S := Int × Mem) (fun r u => r = i3 u.1 ∧ Q u.1 u.2) (fun u => Rp g u.2) (aR g)) args s 0 0 (aR g)) M 26 [(0, .ref (g.2.2.1 + a0)), (1, .int (i3 x1)), (2, .int (i3 x2)), (3, .int (i3 x3)), (4, .int (i3 x4)), (5, .int (i3 x5))] [] := by
  refine z_iload F dX11_chance_26 rfl 5 rfl ?_
  refine z_iload_n F dX11_chance_28 rfl rfl 2 rfl ?_
  refine z_icmp_ge F dX11_chance_29 rfl rfl hw (fun hw => ?_) (fun hw => ?_)
  · refine z_aload_n F dX11_chance_54 rfl rfl 0 rfl ?_
    refine z_getR F fl_456 k0 dX11_chance_55 rfl ?_
    refine z_iload F dX11_chance_58 rfl 4 rfl ?_
    refine z_i2l F dX11_chance_60 rfl ?_
    refine z_iload_n F dX11_chance_61 rfl rfl 2 rfl ?_
    refine z_i2l F dX11_chance_62 rfl ?_
    refine z_cVv (As := [.long (i6 (w32 x4)), .long (i6 (w32 x2))]) (st := []) F (c_X4_become l g (tk_11_11 k0) hw) cv_X4_become w_902 ⟨rfl, rfl, Nat.le_of_ble_eq_true rfl, Nat.le_of_ble_eq_true rfl⟩ (tk_11_11 k0) rfl rfl (Nat.le_of_ble_eq_true rfl) dX11_chance_63 rfl (fun M63 hw => ?_)
    refine z_aload_n F dX11_chance_66 rfl rfl 0 rfl ?_
    refine z_getR F fl_456 k0 dX11_chance_67 rfl ?_
    refine z_iload_n F dX11_chance_70 rfl rfl 3 rfl ?_
    refine z_cVlp (As := [.int (i3 x3)]) (st := []) F (c_X4_part l g (tk_11_11 k0) hw) cv_X4_part w_695 ⟨rfl, rfl, Nat.le_of_ble_eq_true rfl, Nat.le_of_ble_eq_true rfl⟩ (tk_11_11 k0) rfl rfl (Nat.le_of_ble_eq_true rfl) dX11_chance_71 rfl (fun r71 hw => ?_)
    refine z_l2i F dX11_chance_74 rfl ?_
    exact z_iret (x := r71) F hr dX11_chance_75 hw
  · refine z_aload_n F dX11_chance_32 rfl rfl 0 rfl ?_
    refine z_iload_n F dX11_chance_33 rfl rfl 1 rfl ?_
    refine z_iload F dX11_chance_34 rfl 5 rfl ?_
    refine z_iadd F dX11_chance_36 rfl ?_
    refine z_cVl (As := [.int (i3 (x1 + x5))]) (st := []) F (c_X11_shortBySeed l g k0 hw) cv_X11_shortBySeed w_893 ⟨rfl, rfl, Nat.le_of_ble_eq_true rfl, Nat.le_of_ble_eq_true rfl⟩ k0 rfl rfl (Nat.le_of_ble_eq_true rfl) dX11_chance_37 rfl (fun r37 M37 hw => ?_)
    refine z_lconst (v := 0) F dX11_chance_40 rfl rfl ?_
    refine z_lcmp_ne F dX11_chance_41 rfl dX11_chance_42 rfl rfl hw (fun hw => ?_) (fun hw => ?_)
    · refine z_sub [0, 1, 2, 3, 4, 5] rfl ?_
      exact bk_X11_chance_48 F hr k0 hK26 hw
    · refine z_iinc F dX11_chance_45 rfl 4 rfl (by decide) rfl ?_
      refine z_sub [1, 2, 3, 4, 0, 5] rfl ?_
      exact bk_X11_chance_48 F hr k0 hK26 hw
set_option maxRecDepth 100000 in
set_option maxHeartbeats 4000000 in
theorem lp_X11_chance_26 {g : En} {p : Program} {l : Launch} {e : Env} {s : State} {m : MethodId} {args : Array Value} {below : List Frame} {meth : Method} {c : Code} {M : Mem} {a0 : Nat} {Q : Int → Mem → Prop} {x1 : Int} {x2 : Int} {x3 : Int} {x4 : Int} {x5 : Int} (F : Fx g p s m args meth c cX11_chance 6 RX11) (hr : meth.sig.returnType = (some .int)) (k0 : kd a0 = 11)
    (hw : wp_X11_chance_L26 a0 Q M x1 x2 x3 x4 x5) : Z g p l e rm_X11_chance s m args below meth c 6 (MQ below (va_Qi (S := Int × Mem) (fun r u => r = i3 u.1 ∧ Q u.1 u.2) (fun u => Rp g u.2) (aR g)) args s 0 0 (aR g)) M 26 [(0, .ref (g.2.2.1 + a0)), (1, .int (i3 x1)), (2, .int (i3 x2)), (3, .int (i3 x3)), (4, .int (i3 x4)), (5, .int (i3 x5))] [] := by
  obtain ⟨I, μ, h0, hb⟩ := hw
  have key : ∀ (n : Nat) (M : Mem) (x4 : Int) (x5 : Int), I M x4 x5 → μ M x4 x5 < n → Z g p l e rm_X11_chance s m args below meth c 6 (MQ below (va_Qi (S := Int × Mem) (fun r u => r = i3 u.1 ∧ Q u.1 u.2) (fun u => Rp g u.2) (aR g)) args s 0 0 (aR g)) M 26 [(0, .ref (g.2.2.1 + a0)), (1, .int (i3 x1)), (2, .int (i3 x2)), (3, .int (i3 x3)), (4, .int (i3 x4)), (5, .int (i3 x5))] [] := by
    intro n
    induction n with
    | zero => exact fun _ _ _ _ h => absurd h (Nat.not_lt_zero _)
    | succ n ih =>
      intro M x4 x5 hI hn
      exact bk_X11_chance_B26 F hr k0 (fun M' x4' x5' hk => ih M' x4' x5' hk.1 (Nat.lt_of_lt_of_le hk.2 (Nat.le_of_lt_succ hn))) (hb M x4 x5 hI)
  exact key _ M x4 x5 h0 (Nat.lt_succ_self _)
set_option maxRecDepth 100000 in
set_option maxHeartbeats 4000000 in
theorem c_X11_chance (l : Launch) (g : En) {a0 : Nat} {a1 : Int} {a2 : Int} {a3 : Int} {M : Mem} {Q : Int → Mem → Prop} (k0 : kd a0 = 11) (hw : wp_X11_chance a0 a1 a2 a3 M Q) :
    Met l yX11_chance (WS yX11_chance cX11_chance 6 (some .int)) rm_X11_chance (va_Pc [.ref (g.2.2.1 + a0), .int (i3 a1), .int (i3 a2), .int (i3 a3)] (Rp g M)) (va_Qi (S := Int × Mem) (fun r u => r = i3 u.1 ∧ Q u.1 u.2) (fun u => Rp g u.2) (aR g)) 0 0 (aR g) := by
  refine met_Z (plainFor_of_name rfl) (Nat.le_of_ble_eq_true rfl) ?_
  intro p e s m args below meth c F hr _
  show Z g p l e rm_X11_chance s m args below meth c 6 (MQ below (va_Qi (S := Int × Mem) (fun r u => r = i3 u.1 ∧ Q u.1 u.2) (fun u => Rp g u.2) (aR g)) args s 0 0 (aR g)) M 0 [(0, .ref (g.2.2.1 + a0)), (1, .int (i3 a1)), (2, .int (i3 a2)), (3, .int (i3 a3))] []
  refine z_iload_n F dX11_chance_0 rfl rfl 2 rfl ?_
  refine z_iconst F dX11_chance_1 rfl ?_
  refine z_bipush F dX11_chance_2 (by decide) rfl ?_
  refine z_cSbp (As := [.int (i3 a2), .int (i3 1), .int (i3 20)]) (st := []) F (c_X11_within l g hw) cs_X11_within w_507 ⟨rfl, rfl, Nat.le_of_ble_eq_true rfl, Nat.le_of_ble_eq_true rfl⟩ rfl (Nat.le_of_ble_eq_true rfl) dX11_chance_4 rfl (fun r4 hw => ?_)
  refine z_ifb_eq F dX11_chance_7 rfl rfl hw (fun hw => ?_) (fun hw => ?_)
  · refine z_bipush F dX11_chance_17 (by decide) rfl ?_
    exact z_iret (x := (-2)) F hr dX11_chance_19 hw
  · refine z_iload_n F dX11_chance_10 rfl rfl 3 rfl ?_
    refine z_cSbp (As := [.int (i3 a3)]) (st := []) F (c_X11_isPart l g hw) cs_X11_isPart w_645 ⟨rfl, rfl, Nat.le_of_ble_eq_true rfl, Nat.le_of_ble_eq_true rfl⟩ rfl (Nat.le_of_ble_eq_true rfl) dX11_chance_11 rfl (fun r11 hw => ?_)
    refine z_ifb_ne F dX11_chance_14 rfl rfl hw (fun hw => ?_) (fun hw => ?_)
    · refine z_iconst F dX11_chance_20 rfl ?_
      refine z_istore F dX11_chance_21 rfl (by decide) rfl ?_
      refine z_iconst F dX11_chance_23 rfl ?_
      refine z_istore F dX11_chance_24 rfl (by decide) rfl ?_
      refine z_sub [2, 3, 4, 5, 1, 0] rfl ?_
      exact lp_X11_chance_26 F hr k0 hw
    · refine z_bipush F dX11_chance_17 (by decide) rfl ?_
      exact z_iret (x := (-2)) F hr dX11_chance_19 hw
theorem cv_X11_chance : CV yX11_chance RX11 cX11_chance 6 (some .int) 3 := ⟨w_899, w_900, w_67, w_901, rfl, by decide +kernel, by decide +kernel, by decide +kernel⟩
abbrev rm_X11_tells : Room := { frames := 4, cells := 0, slots := 0, locals := 92 }
def wp_X11_tells_b172 (a0 : Nat) (Q : Int → Mem → Prop) (K111 : Mem → Int → Int → Int → Prop) (M : Mem) (x2 : Int) (x3 : Int) (x4 : Nat) (x5 : Int) (x6 : Int) (x7 : Int) : Prop :=
  K111 M x5 x6 (x7 + 1)
def wp_X11_tells_b170 (a0 : Nat) (Q : Int → Mem → Prop) (K111 : Mem → Int → Int → Int → Prop) (M : Mem) (s0 : Int) (x2 : Int) (x3 : Int) (x4 : Nat) (x5 : Int) (x7 : Int) : Prop :=
  wp_X11_tells_b172 a0 Q K111 M x2 x3 x4 x5 s0 x7
def wp_X11_tells_B111 (a0 : Nat) (Q : Int → Mem → Prop) (K111 : Mem → Int → Int → Int → Prop) (M : Mem) (x2 : Int) (x3 : Int) (x4 : Nat) (x5 : Int) (x6 : Int) (x7 : Int) : Prop :=
  (((w32 99 < w32 x7) → (
    (((¬ w32 x2 = w32 1) → (
      Q x6 M)) ∧
    (¬ (¬ w32 x2 = w32 1) → (
      Q x5 M))))) ∧
  (¬ (w32 99 < w32 x7) → (
    inb (rt a0 8) x3 ∧ (
    ∀ M125 : Mem, M125 = st2 M (rt a0 8) (ix x3) x7 →
    wp_X6_play (rt a0 16) (rt a0 3) (rt a0 8) M125 (fun M138 =>
    wp_X6_firstOtherwise (rt a0 16) x4 M138 (fun r147 =>
    (((¬ w32 r147 = w32 (-1)) → (
      wp_X11_tells_b172 a0 Q K111 M138 x2 x3 x4 x5 x6 x7)) ∧
    (¬ (¬ w32 r147 = w32 (-1)) → (
      (((¬ w32 x6 = w32 (-1)) → (
        wp_X11_tells_b170 a0 Q K111 M138 x6 x2 x3 x4 (x5 + 1) x7)) ∧
      (¬ (¬ w32 x6 = w32 (-1)) → (
        wp_X11_tells_b170 a0 Q K111 M138 x7 x2 x3 x4 (x5 + 1) x7))))))))))))
def wp_X11_tells_L111 (a0 : Nat) (Q : Int → Mem → Prop) (M : Mem) (x2 : Int) (x3 : Int) (x4 : Nat) (x5 : Int) (x6 : Int) (x7 : Int) : Prop :=
  ∃ (I : Mem → Int → Int → Int → Prop) (μ : Mem → Int → Int → Int → Nat), I M x5 x6 x7 ∧ ∀ (M : Mem) (x5 : Int) (x6 : Int) (x7 : Int), I M x5 x6 x7 →
    wp_X11_tells_B111 a0 Q (fun M' x5' x6' x7' => I M' x5' x6' x7' ∧ μ M' x5' x6' x7' < μ M x5 x6 x7) M x2 x3 x4 x5 x6 x7
def wp_X11_tells_b34 (a0 : Nat) (Q : Int → Mem → Prop) (M : Mem) (x1 : Int) (x2 : Int) (x3 : Int) : Prop :=
  inb (rt a0 17) x1 ∧ (
  wp_X9_isMissing (rt (rt a0 17) (ix x1)) M (fun r44 =>
  ((r44 = false → (
    (((w32 (M (rt (rt a0 17) (ix x1)) 2) ≤ w32 5) → (
      wp_X11_look a0 M (fun M66 =>
      wp_X11_readHeld a0 M66 (fun M70 =>
      (((¬ w32 x2 = 0) → (
        wp_X11_tells_L111 a0 Q M70 x2 x3 (rt (rt a0 17) (ix x1)) 0 (-1) 0)) ∧
      (¬ (¬ w32 x2 = 0) → (
        wp_X6_play (rt a0 16) (rt a0 3) (rt a0 8) M70 (fun M89 =>
        wp_X6_firstOtherwise (rt a0 16) (rt (rt a0 17) (ix x1)) M89 (fun r98 =>
        Q r98 M89))))))))) ∧
    (¬ (w32 (M (rt (rt a0 17) (ix x1)) 2) ≤ w32 5) → (
      Q (-2) M))))) ∧
  (r44 = true → (
    Q (-11) M)))))
def wp_X11_tells (a0 : Nat) (a1 : Int) (a2 : Int) (a3 : Int) (M : Mem) (Q : Int → Mem → Prop) : Prop :=
  wp_X11_isSheet a1 M (fun r1 =>
  ((r1 = false → (
    Q (-2) M)) ∧
  (r1 = true → (
    wp_X11_within a2 0 2 M (fun r10 =>
    ((r10 = false → (
      Q (-2) M)) ∧
    (r10 = true → (
      (((w32 a2 = 0) → (
        wp_X11_tells_b34 a0 Q M a1 a2 a3)) ∧
      (¬ (w32 a2 = 0) → (
        wp_X1_hasBond (rt a0 0) a3 M (fun r25 =>
        ((r25 = true → (
          wp_X11_tells_b34 a0 Q M a1 a2 a3)) ∧
        (r25 = false → (
          Q (-2) M)))))))))))))))
set_option maxRecDepth 100000 in
set_option maxHeartbeats 4000000 in
theorem bk_X11_tells_172 {g : En} {p : Program} {l : Launch} {e : Env} {s : State} {m : MethodId} {args : Array Value} {below : List Frame} {meth : Method} {c : Code} {M : Mem} {a0 : Nat} {Q : Int → Mem → Prop} {K111 : Mem → Int → Int → Int → Prop} {x2 : Int} {x3 : Int} {x4 : Nat} {x5 : Int} {x6 : Int} {x7 : Int} (F : Fx g p s m args meth c cX11_tells 8 RX11) (hr : meth.sig.returnType = (some .int)) (k0 : kd a0 = 11) (kx4 : kd x4 = 9)
    (hK111 : ∀ (M' : Mem) (x5' : Int) (x6' : Int) (x7' : Int), K111 M' x5' x6' x7' → Z g p l e rm_X11_tells s m args below meth c 8 (MQ below (va_Qi (S := Int × Mem) (fun r u => r = i3 u.1 ∧ Q u.1 u.2) (fun u => Rp g u.2) (aR g)) args s 0 0 (aR g)) M' 111 [(0, .ref (g.2.2.1 + a0)), (2, .int (i3 x2)), (3, .int (i3 x3)), (4, .ref (g.2.2.1 + x4)), (5, .int (i3 x5')), (6, .int (i3 x6')), (7, .int (i3 x7'))] [])
    (hw : wp_X11_tells_b172 a0 Q K111 M x2 x3 x4 x5 x6 x7) : Z g p l e rm_X11_tells s m args below meth c 8 (MQ below (va_Qi (S := Int × Mem) (fun r u => r = i3 u.1 ∧ Q u.1 u.2) (fun u => Rp g u.2) (aR g)) args s 0 0 (aR g)) M 172 [(0, .ref (g.2.2.1 + a0)), (2, .int (i3 x2)), (3, .int (i3 x3)), (4, .ref (g.2.2.1 + x4)), (5, .int (i3 x5)), (6, .int (i3 x6)), (7, .int (i3 x7))] [] := by
  refine z_iinc F dX11_tells_172 rfl 6 rfl (by decide) rfl ?_
  refine z_goto F dX11_tells_175 rfl ?_
  refine z_sub [1, 2, 3, 4, 5, 6, 0] rfl ?_
  exact hK111 M x5 x6 (x7 + 1) hw
set_option maxRecDepth 100000 in
set_option maxHeartbeats 4000000 in
theorem bk_X11_tells_170 {g : En} {p : Program} {l : Launch} {e : Env} {s : State} {m : MethodId} {args : Array Value} {below : List Frame} {meth : Method} {c : Code} {M : Mem} {a0 : Nat} {Q : Int → Mem → Prop} {K111 : Mem → Int → Int → Int → Prop} {s0 : Int} {x2 : Int} {x3 : Int} {x4 : Nat} {x5 : Int} {x7 : Int} (F : Fx g p s m args meth c cX11_tells 8 RX11) (hr : meth.sig.returnType = (some .int)) (k0 : kd a0 = 11) (kx4 : kd x4 = 9)
    (hK111 : ∀ (M' : Mem) (x5' : Int) (x6' : Int) (x7' : Int), K111 M' x5' x6' x7' → Z g p l e rm_X11_tells s m args below meth c 8 (MQ below (va_Qi (S := Int × Mem) (fun r u => r = i3 u.1 ∧ Q u.1 u.2) (fun u => Rp g u.2) (aR g)) args s 0 0 (aR g)) M' 111 [(0, .ref (g.2.2.1 + a0)), (2, .int (i3 x2)), (3, .int (i3 x3)), (4, .ref (g.2.2.1 + x4)), (5, .int (i3 x5')), (6, .int (i3 x6')), (7, .int (i3 x7'))] [])
    (hw : wp_X11_tells_b170 a0 Q K111 M s0 x2 x3 x4 x5 x7) : Z g p l e rm_X11_tells s m args below meth c 8 (MQ below (va_Qi (S := Int × Mem) (fun r u => r = i3 u.1 ∧ Q u.1 u.2) (fun u => Rp g u.2) (aR g)) args s 0 0 (aR g)) M 170 [(0, .ref (g.2.2.1 + a0)), (2, .int (i3 x2)), (3, .int (i3 x3)), (4, .ref (g.2.2.1 + x4)), (5, .int (i3 x5)), (7, .int (i3 x7))] [.int (i3 s0)] := by
  refine z_istore F dX11_tells_170 rfl (by decide) rfl ?_
  refine z_sub [1, 2, 3, 4, 5, 0, 6] rfl ?_
  exact bk_X11_tells_172 F hr k0 kx4 hK111 hw
set_option maxRecDepth 100000 in
set_option maxHeartbeats 4000000 in
theorem bk_X11_tells_B111 {g : En} {p : Program} {l : Launch} {e : Env} {s : State} {m : MethodId} {args : Array Value} {below : List Frame} {meth : Method} {c : Code} {M : Mem} {a0 : Nat} {Q : Int → Mem → Prop} {K111 : Mem → Int → Int → Int → Prop} {x2 : Int} {x3 : Int} {x4 : Nat} {x5 : Int} {x6 : Int} {x7 : Int} (F : Fx g p s m args meth c cX11_tells 8 RX11) (hr : meth.sig.returnType = (some .int)) (k0 : kd a0 = 11) (kx4 : kd x4 = 9)
    (hK111 : ∀ (M' : Mem) (x5' : Int) (x6' : Int) (x7' : Int), K111 M' x5' x6' x7' → Z g p l e rm_X11_tells s m args below meth c 8 (MQ below (va_Qi (S := Int × Mem) (fun r u => r = i3 u.1 ∧ Q u.1 u.2) (fun u => Rp g u.2) (aR g)) args s 0 0 (aR g)) M' 111 [(0, .ref (g.2.2.1 + a0)), (2, .int (i3 x2)), (3, .int (i3 x3)), (4, .ref (g.2.2.1 + x4)), (5, .int (i3 x5')), (6, .int (i3 x6')), (7, .int (i3 x7'))] [])
    (hw : wp_X11_tells_B111 a0 Q K111 M x2 x3 x4 x5 x6 x7) : Z g p l e rm_X11_tells s m args below meth c 8 (MQ below (va_Qi (S := Int × Mem) (fun r u => r = i3 u.1 ∧ Q u.1 u.2) (fun u => Rp g u.2) (aR g)) args s 0 0 (aR g)) M 111 [(0, .ref (g.2.2.1 + a0)), (2, .int (i3 x2)), (3, .int (i3 x3)), (4, .ref (g.2.2.1 + x4)), (5, .int (i3 x5)), (6, .int (i3 x6)), (7, .int (i3 x7))] [] := by
  refine z_iload F dX11_tells_111 rfl 6 rfl ?_
  refine z_bipush F dX11_tells_113 (by decide) rfl ?_
  refine z_icmp_gt F dX11_tells_115 rfl rfl hw (fun hw => ?_) (fun hw => ?_)
  · refine z_iload_n F dX11_tells_178 rfl rfl 1 rfl ?_
    refine z_iconst F dX11_tells_179 rfl ?_
    refine z_icmp_ne F dX11_tells_180 rfl rfl hw (fun hw => ?_) (fun hw => ?_)
    · refine z_iload F dX11_tells_188 rfl 5 rfl ?_
      exact z_iret (x := x6) F hr dX11_tells_190 hw
    · refine z_iload F dX11_tells_183 rfl 4 rfl ?_
      refine z_goto F dX11_tells_185 rfl ?_
      exact z_iret (x := x5) F hr dX11_tells_190 hw
  · refine z_aload_n F dX11_tells_118 rfl rfl 0 rfl ?_
    refine z_getR F fl_453 k0 dX11_tells_119 rfl ?_
    refine z_iload_n F dX11_tells_122 rfl rfl 2 rfl ?_
    refine z_iload F dX11_tells_123 rfl 6 rfl ?_
    refine z_iast F (tk_11_8 k0) dX11_tells_125 rfl hw (fun hw => ?_)
    refine z_nmM (fun M125 eM125 => ?_)
    have hw := hw M125 eM125
    refine z_aload_n F dX11_tells_126 rfl rfl 0 rfl ?_
    refine z_getR F fl_461 k0 dX11_tells_127 rfl ?_
    refine z_aload_n F dX11_tells_130 rfl rfl 0 rfl ?_
    refine z_getR F fl_448 k0 dX11_tells_131 rfl ?_
    refine z_aload_n F dX11_tells_134 rfl rfl 0 rfl ?_
    refine z_getR F fl_453 k0 dX11_tells_135 rfl ?_
    refine z_cVv (As := [.ref (g.2.2.1 + (rt a0 3)), .ref (g.2.2.1 + (rt a0 8))]) (st := []) F (c_X6_play l g (tk_11_16 k0) (tk_11_3 k0) (tk_11_8 k0) hw) cv_X6_play w_874 ⟨rfl, rfl, Nat.le_of_ble_eq_true rfl, Nat.le_of_ble_eq_true rfl⟩ (tk_11_16 k0) rfl rfl (Nat.le_of_ble_eq_true rfl) dX11_tells_138 rfl (fun M138 hw => ?_)
    refine z_aload_n F dX11_tells_141 rfl rfl 0 rfl ?_
    refine z_getR F fl_461 k0 dX11_tells_142 rfl ?_
    refine z_aload F dX11_tells_145 rfl 3 rfl ?_
    refine z_cVip (As := [.ref (g.2.2.1 + x4)]) (st := []) F (c_X6_firstOtherwise l g (tk_11_16 k0) kx4 hw) cv_X6_firstOtherwise w_907 ⟨rfl, rfl, Nat.le_of_ble_eq_true rfl, Nat.le_of_ble_eq_true rfl⟩ (tk_11_16 k0) rfl rfl (Nat.le_of_ble_eq_true rfl) dX11_tells_147 rfl (fun r147 hw => ?_)
    refine z_iconst F dX11_tells_150 rfl ?_
    refine z_icmp_ne F dX11_tells_151 rfl rfl hw (fun hw => ?_) (fun hw => ?_)
    · refine z_sub [0, 1, 2, 3, 4, 5, 6] rfl ?_
      exact bk_X11_tells_172 F hr k0 kx4 hK111 hw
    · refine z_iinc F dX11_tells_154 rfl 4 rfl (by decide) rfl ?_
      refine z_iload F dX11_tells_157 rfl 5 rfl ?_
      refine z_iconst F dX11_tells_159 rfl ?_
      refine z_icmp_ne F dX11_tells_160 rfl rfl hw (fun hw => ?_) (fun hw => ?_)
      · refine z_iload F dX11_tells_168 rfl 5 rfl ?_
        refine z_sub [1, 2, 3, 4, 0, 6] rfl ?_
        exact bk_X11_tells_170 F hr k0 kx4 hK111 hw
      · refine z_iload F dX11_tells_163 rfl 6 rfl ?_
        refine z_goto F dX11_tells_165 rfl ?_
        refine z_sub [1, 2, 3, 4, 0, 6] rfl ?_
        exact bk_X11_tells_170 F hr k0 kx4 hK111 hw
set_option maxRecDepth 100000 in
set_option maxHeartbeats 4000000 in
theorem lp_X11_tells_111 {g : En} {p : Program} {l : Launch} {e : Env} {s : State} {m : MethodId} {args : Array Value} {below : List Frame} {meth : Method} {c : Code} {M : Mem} {a0 : Nat} {Q : Int → Mem → Prop} {x2 : Int} {x3 : Int} {x4 : Nat} {x5 : Int} {x6 : Int} {x7 : Int} (F : Fx g p s m args meth c cX11_tells 8 RX11) (hr : meth.sig.returnType = (some .int)) (k0 : kd a0 = 11) (kx4 : kd x4 = 9)
    (hw : wp_X11_tells_L111 a0 Q M x2 x3 x4 x5 x6 x7) : Z g p l e rm_X11_tells s m args below meth c 8 (MQ below (va_Qi (S := Int × Mem) (fun r u => r = i3 u.1 ∧ Q u.1 u.2) (fun u => Rp g u.2) (aR g)) args s 0 0 (aR g)) M 111 [(0, .ref (g.2.2.1 + a0)), (2, .int (i3 x2)), (3, .int (i3 x3)), (4, .ref (g.2.2.1 + x4)), (5, .int (i3 x5)), (6, .int (i3 x6)), (7, .int (i3 x7))] [] := by
  obtain ⟨I, μ, h0, hb⟩ := hw
  have key : ∀ (n : Nat) (M : Mem) (x5 : Int) (x6 : Int) (x7 : Int), I M x5 x6 x7 → μ M x5 x6 x7 < n → Z g p l e rm_X11_tells s m args below meth c 8 (MQ below (va_Qi (S := Int × Mem) (fun r u => r = i3 u.1 ∧ Q u.1 u.2) (fun u => Rp g u.2) (aR g)) args s 0 0 (aR g)) M 111 [(0, .ref (g.2.2.1 + a0)), (2, .int (i3 x2)), (3, .int (i3 x3)), (4, .ref (g.2.2.1 + x4)), (5, .int (i3 x5)), (6, .int (i3 x6)), (7, .int (i3 x7))] [] := by
    intro n
    induction n with
    | zero => exact fun _ _ _ _ _ h => absurd h (Nat.not_lt_zero _)
    | succ n ih =>
      intro M x5 x6 x7 hI hn
      exact bk_X11_tells_B111 F hr k0 kx4 (fun M' x5' x6' x7' hk => ih M' x5' x6' x7' hk.1 (Nat.lt_of_lt_of_le hk.2 (Nat.le_of_lt_succ hn))) (hb M x5 x6 x7 hI)
  exact key _ M x5 x6 x7 h0 (Nat.lt_succ_self _)
set_option maxRecDepth 100000 in
set_option maxHeartbeats 4000000 in
theorem bk_X11_tells_34 {g : En} {p : Program} {l : Launch} {e : Env} {s : State} {m : MethodId} {args : Array Value} {below : List Frame} {meth : Method} {c : Code} {M : Mem} {a0 : Nat} {Q : Int → Mem → Prop} {x1 : Int} {x2 : Int} {x3 : Int} (F : Fx g p s m args meth c cX11_tells 8 RX11) (hr : meth.sig.returnType = (some .int)) (k0 : kd a0 = 11)
    (hw : wp_X11_tells_b34 a0 Q M x1 x2 x3) : Z g p l e rm_X11_tells s m args below meth c 8 (MQ below (va_Qi (S := Int × Mem) (fun r u => r = i3 u.1 ∧ Q u.1 u.2) (fun u => Rp g u.2) (aR g)) args s 0 0 (aR g)) M 34 [(0, .ref (g.2.2.1 + a0)), (1, .int (i3 x1)), (2, .int (i3 x2)), (3, .int (i3 x3))] [] := by
  refine z_aload_n F dX11_tells_34 rfl rfl 0 rfl ?_
  refine z_getR F fl_462 k0 dX11_tells_35 rfl ?_
  refine z_iload_n F dX11_tells_38 rfl rfl 1 rfl ?_
  have n39 := hw.1
  refine z_aald F 3 (tk_11_17 k0) rfl rfl dX11_tells_39 rfl hw (fun hw => ?_)
  refine z_astore F dX11_tells_40 rfl (by decide) rfl ?_
  refine z_aload F dX11_tells_42 rfl 0 rfl ?_
  refine z_cVbp (As := []) (st := []) F (c_X9_isMissing l g (tka_18 (tk_11_17 k0) n39) hw) cv_X9_isMissing w_862 ⟨rfl, rfl, Nat.le_of_ble_eq_true rfl, Nat.le_of_ble_eq_true rfl⟩ (tka_18 (tk_11_17 k0) n39) rfl rfl (Nat.le_of_ble_eq_true rfl) dX11_tells_44 rfl (fun r44 hw => ?_)
  refine z_ifb_eq F dX11_tells_47 rfl rfl hw (fun hw => ?_) (fun hw => ?_)
  · refine z_aload F dX11_tells_53 rfl 0 rfl ?_
    refine z_getI F fl_437 (tka_18 (tk_11_17 k0) n39) dX11_tells_55 rfl ?_
    refine z_iconst F dX11_tells_58 rfl ?_
    refine z_icmp_le F dX11_tells_59 rfl rfl hw (fun hw => ?_) (fun hw => ?_)
    · refine z_aload_n F dX11_tells_65 rfl rfl 1 rfl ?_
      refine z_cVv (As := []) (st := []) F (c_X11_look l g k0 hw) cv_X11_look w_530 ⟨rfl, rfl, Nat.le_of_ble_eq_true rfl, Nat.le_of_ble_eq_true rfl⟩ k0 rfl rfl (Nat.le_of_ble_eq_true rfl) dX11_tells_66 rfl (fun M66 hw => ?_)
      refine z_aload_n F dX11_tells_69 rfl rfl 1 rfl ?_
      refine z_cVv (As := []) (st := []) F (c_X11_readHeld l g k0 hw) cv_X11_readHeld w_653 ⟨rfl, rfl, Nat.le_of_ble_eq_true rfl, Nat.le_of_ble_eq_true rfl⟩ k0 rfl rfl (Nat.le_of_ble_eq_true rfl) dX11_tells_70 rfl (fun M70 hw => ?_)
      refine z_iload_n F dX11_tells_73 rfl rfl 3 rfl ?_
      refine z_if_ne F dX11_tells_74 rfl rfl hw (fun hw => ?_) (fun hw => ?_)
      · refine z_iconst F dX11_tells_102 rfl ?_
        refine z_istore F dX11_tells_103 rfl (by decide) rfl ?_
        refine z_iconst F dX11_tells_105 rfl ?_
        refine z_istore F dX11_tells_106 rfl (by decide) rfl ?_
        refine z_iconst F dX11_tells_108 rfl ?_
        refine z_istore F dX11_tells_109 rfl (by decide) rfl ?_
        refine z_sub [4, 6, 7, 3, 2, 1, 0] rfl ?_
        exact lp_X11_tells_111 F hr k0 (tka_18 (tk_11_17 k0) n39) hw
      · refine z_aload_n F dX11_tells_77 rfl rfl 1 rfl ?_
        refine z_getR F fl_461 k0 dX11_tells_78 rfl ?_
        refine z_aload_n F dX11_tells_81 rfl rfl 1 rfl ?_
        refine z_getR F fl_448 k0 dX11_tells_82 rfl ?_
        refine z_aload_n F dX11_tells_85 rfl rfl 1 rfl ?_
        refine z_getR F fl_453 k0 dX11_tells_86 rfl ?_
        refine z_cVv (As := [.ref (g.2.2.1 + (rt a0 3)), .ref (g.2.2.1 + (rt a0 8))]) (st := []) F (c_X6_play l g (tk_11_16 k0) (tk_11_3 k0) (tk_11_8 k0) hw) cv_X6_play w_874 ⟨rfl, rfl, Nat.le_of_ble_eq_true rfl, Nat.le_of_ble_eq_true rfl⟩ (tk_11_16 k0) rfl rfl (Nat.le_of_ble_eq_true rfl) dX11_tells_89 rfl (fun M89 hw => ?_)
        refine z_aload_n F dX11_tells_92 rfl rfl 1 rfl ?_
        refine z_getR F fl_461 k0 dX11_tells_93 rfl ?_
        refine z_aload F dX11_tells_96 rfl 0 rfl ?_
        refine z_cVip (As := [.ref (g.2.2.1 + (rt (rt a0 17) (ix x1)))]) (st := []) F (c_X6_firstOtherwise l g (tk_11_16 k0) (tka_18 (tk_11_17 k0) n39) hw) cv_X6_firstOtherwise w_907 ⟨rfl, rfl, Nat.le_of_ble_eq_true rfl, Nat.le_of_ble_eq_true rfl⟩ (tk_11_16 k0) rfl rfl (Nat.le_of_ble_eq_true rfl) dX11_tells_98 rfl (fun r98 hw => ?_)
        exact z_iret (x := r98) F hr dX11_tells_101 hw
    · refine z_bipush F dX11_tells_62 (by decide) rfl ?_
      exact z_iret (x := (-2)) F hr dX11_tells_64 hw
  · refine z_bipush F dX11_tells_50 (by decide) rfl ?_
    exact z_iret (x := (-11)) F hr dX11_tells_52 hw
set_option maxRecDepth 100000 in
set_option maxHeartbeats 4000000 in
theorem c_X11_tells (l : Launch) (g : En) {a0 : Nat} {a1 : Int} {a2 : Int} {a3 : Int} {M : Mem} {Q : Int → Mem → Prop} (k0 : kd a0 = 11) (hw : wp_X11_tells a0 a1 a2 a3 M Q) :
    Met l yX11_tells (WS yX11_tells cX11_tells 8 (some .int)) rm_X11_tells (va_Pc [.ref (g.2.2.1 + a0), .int (i3 a1), .int (i3 a2), .int (i3 a3)] (Rp g M)) (va_Qi (S := Int × Mem) (fun r u => r = i3 u.1 ∧ Q u.1 u.2) (fun u => Rp g u.2) (aR g)) 0 0 (aR g) := by
  refine met_Z (plainFor_of_name rfl) (Nat.le_of_ble_eq_true rfl) ?_
  intro p e s m args below meth c F hr _
  show Z g p l e rm_X11_tells s m args below meth c 8 (MQ below (va_Qi (S := Int × Mem) (fun r u => r = i3 u.1 ∧ Q u.1 u.2) (fun u => Rp g u.2) (aR g)) args s 0 0 (aR g)) M 0 [(0, .ref (g.2.2.1 + a0)), (1, .int (i3 a1)), (2, .int (i3 a2)), (3, .int (i3 a3))] []
  refine z_iload_n F dX11_tells_0 rfl rfl 1 rfl ?_
  refine z_cSbp (As := [.int (i3 a1)]) (st := []) F (c_X11_isSheet l g hw) cs_X11_isSheet w_856 ⟨rfl, rfl, Nat.le_of_ble_eq_true rfl, Nat.le_of_ble_eq_true rfl⟩ rfl (Nat.le_of_ble_eq_true rfl) dX11_tells_1 rfl (fun r1 hw => ?_)
  refine z_ifb_eq F dX11_tells_4 rfl rfl hw (fun hw => ?_) (fun hw => ?_)
  · refine z_bipush F dX11_tells_31 (by decide) rfl ?_
    exact z_iret (x := (-2)) F hr dX11_tells_33 hw
  · refine z_iload_n F dX11_tells_7 rfl rfl 2 rfl ?_
    refine z_iconst F dX11_tells_8 rfl ?_
    refine z_iconst F dX11_tells_9 rfl ?_
    refine z_cSbp (As := [.int (i3 a2), .int (i3 0), .int (i3 2)]) (st := []) F (c_X11_within l g hw) cs_X11_within w_507 ⟨rfl, rfl, Nat.le_of_ble_eq_true rfl, Nat.le_of_ble_eq_true rfl⟩ rfl (Nat.le_of_ble_eq_true rfl) dX11_tells_10 rfl (fun r10 hw => ?_)
    refine z_ifb_eq F dX11_tells_13 rfl rfl hw (fun hw => ?_) (fun hw => ?_)
    · refine z_bipush F dX11_tells_31 (by decide) rfl ?_
      exact z_iret (x := (-2)) F hr dX11_tells_33 hw
    · refine z_iload_n F dX11_tells_16 rfl rfl 2 rfl ?_
      refine z_if_eq F dX11_tells_17 rfl rfl hw (fun hw => ?_) (fun hw => ?_)
      · refine z_sub [0, 1, 2, 3] rfl ?_
        exact bk_X11_tells_34 F hr k0 hw
      · refine z_aload_n F dX11_tells_20 rfl rfl 0 rfl ?_
        refine z_getR F fl_445 k0 dX11_tells_21 rfl ?_
        refine z_iload_n F dX11_tells_24 rfl rfl 3 rfl ?_
        refine z_cVbp (As := [.int (i3 a3)]) (st := []) F (c_X1_hasBond l g (tk_11_0 k0) hw) cv_X1_hasBond w_587 ⟨rfl, rfl, Nat.le_of_ble_eq_true rfl, Nat.le_of_ble_eq_true rfl⟩ (tk_11_0 k0) rfl rfl (Nat.le_of_ble_eq_true rfl) dX11_tells_25 rfl (fun r25 hw => ?_)
        refine z_ifb_ne F dX11_tells_28 rfl rfl hw (fun hw => ?_) (fun hw => ?_)
        · refine z_sub [0, 1, 2, 3] rfl ?_
          exact bk_X11_tells_34 F hr k0 hw
        · refine z_bipush F dX11_tells_31 (by decide) rfl ?_
          exact z_iret (x := (-2)) F hr dX11_tells_33 hw
theorem cv_X11_tells : CV yX11_tells RX11 cX11_tells 8 (some .int) 3 := ⟨w_904, w_905, w_67, w_906, rfl, by decide +kernel, by decide +kernel, by decide +kernel⟩
abbrev rm_X11_film : Room := { frames := 4, cells := 0, slots := 0, locals := 92 }
def wp_X11_film_B52 (a0 : Nat) (Q : Int → Mem → Prop) (K52 : Mem → Int → Prop) (M : Mem) (x1 : Int) (x2 : Int) : Prop :=
  (((w32 (M (rt a0 3) 0) ≤ w32 x2) → (
    Q (M (rt a0 3) 0) M)) ∧
  (¬ (w32 (M (rt a0 3) 0) ≤ w32 x2) → (
    inb (rt a0 17) x1 ∧ (
    inb (rt (rt a0 16) 0) x2 ∧ (
    inb (rt (rt (rt a0 17) (ix x1)) 0) x2 ∧ (
    ∀ M83 : Mem, M83 = st2 M (rt (rt (rt a0 17) (ix x1)) 0) (ix x2) (M (rt (rt a0 16) 0) (ix x2)) →
    K52 M83 (x2 + 1)))))))
def wp_X11_film_L52 (a0 : Nat) (Q : Int → Mem → Prop) (M : Mem) (x1 : Int) (x2 : Int) : Prop :=
  ∃ (I : Mem → Int → Prop) (μ : Mem → Int → Nat), I M x2 ∧ ∀ (M : Mem) (x2 : Int), I M x2 →
    wp_X11_film_B52 a0 Q (fun M' x2' => I M' x2' ∧ μ M' x2' < μ M x2) M x1 x2
def wp_X11_film (a0 : Nat) (a1 : Int) (M : Mem) (Q : Int → Mem → Prop) : Prop :=
  wp_X11_isSheet a1 M (fun r1 =>
  ((r1 = true → (
    wp_X11_look a0 M (fun M11 =>
    wp_X11_readHeld a0 M11 (fun M15 =>
    wp_X6_play (rt a0 16) (rt a0 3) (rt a0 8) M15 (fun M30 =>
    inb (rt a0 17) a1 ∧ (
    wp_X9_begin (rt (rt a0 17) (ix a1)) 1 (M30 (rt a0 3) 0) M30 (fun M47 =>
    wp_X11_film_L52 a0 Q M47 a1 0))))))) ∧
  (r1 = false → (
    Q (-2) M))))
set_option maxRecDepth 100000 in
set_option maxHeartbeats 4000000 in
theorem bk_X11_film_B52 {g : En} {p : Program} {l : Launch} {e : Env} {s : State} {m : MethodId} {args : Array Value} {below : List Frame} {meth : Method} {c : Code} {M : Mem} {a0 : Nat} {Q : Int → Mem → Prop} {K52 : Mem → Int → Prop} {x1 : Int} {x2 : Int} (F : Fx g p s m args meth c cX11_film 3 RX11) (hr : meth.sig.returnType = (some .int)) (k0 : kd a0 = 11)
    (hK52 : ∀ (M' : Mem) (x2' : Int), K52 M' x2' → Z g p l e rm_X11_film s m args below meth c 3 (MQ below (va_Qi (S := Int × Mem) (fun r u => r = i3 u.1 ∧ Q u.1 u.2) (fun u => Rp g u.2) (aR g)) args s 0 0 (aR g)) M' 52 [(0, .ref (g.2.2.1 + a0)), (1, .int (i3 x1)), (2, .int (i3 x2'))] [])
    (hw : wp_X11_film_B52 a0 Q K52 M x1 x2) : Z g p l e rm_X11_film s m args below meth c 3 (MQ below (va_Qi (S := Int × Mem) (fun r u => r = i3 u.1 ∧ Q u.1 u.2) (fun u => Rp g u.2) (aR g)) args s 0 0 (aR g)) M 52 [(0, .ref (g.2.2.1 + a0)), (1, .int (i3 x1)), (2, .int (i3 x2))] [] := by
  refine z_iload_n F dX11_film_52 rfl rfl 2 rfl ?_
  refine z_aload_n F dX11_film_53 rfl rfl 0 rfl ?_
  refine z_getR F fl_448 k0 dX11_film_54 rfl ?_
  refine z_getI F fl_198 (tk_11_3 k0) dX11_film_57 rfl ?_
  refine z_icmp_ge F dX11_film_60 rfl rfl hw (fun hw => ?_) (fun hw => ?_)
  · refine z_aload_n F dX11_film_90 rfl rfl 0 rfl ?_
    refine z_getR F fl_448 k0 dX11_film_91 rfl ?_
    refine z_getI F fl_198 (tk_11_3 k0) dX11_film_94 rfl ?_
    exact z_iret (x := (M (rt a0 3) 0)) F hr dX11_film_97 hw
  · refine z_aload_n F dX11_film_63 rfl rfl 0 rfl ?_
    refine z_getR F fl_462 k0 dX11_film_64 rfl ?_
    refine z_iload_n F dX11_film_67 rfl rfl 1 rfl ?_
    have n68 := hw.1
    refine z_aald F 3 (tk_11_17 k0) rfl rfl dX11_film_68 rfl hw (fun hw => ?_)
    refine z_getR F fl_432 (tka_18 (tk_11_17 k0) n68) dX11_film_69 rfl ?_
    refine z_iload_n F dX11_film_72 rfl rfl 2 rfl ?_
    refine z_aload_n F dX11_film_73 rfl rfl 0 rfl ?_
    refine z_getR F fl_461 k0 dX11_film_74 rfl ?_
    refine z_getR F fl_398 (tk_11_16 k0) dX11_film_77 rfl ?_
    refine z_iload_n F dX11_film_80 rfl rfl 2 rfl ?_
    refine z_lald F (tk_6_0 (tk_11_16 k0)) dX11_film_81 rfl hw (fun hw => ?_)
    refine z_l2i F dX11_film_82 rfl ?_
    refine z_iast F (tk_9_0 (tka_18 (tk_11_17 k0) n68)) dX11_film_83 rfl hw (fun hw => ?_)
    refine z_nmM (fun M83 eM83 => ?_)
    have hw := hw M83 eM83
    refine z_iinc F dX11_film_84 rfl 2 rfl (by decide) rfl ?_
    refine z_goto F dX11_film_87 rfl ?_
    refine z_sub [1, 2, 0] rfl ?_
    exact hK52 M83 (x2 + 1) hw
set_option maxRecDepth 100000 in
set_option maxHeartbeats 4000000 in
theorem lp_X11_film_52 {g : En} {p : Program} {l : Launch} {e : Env} {s : State} {m : MethodId} {args : Array Value} {below : List Frame} {meth : Method} {c : Code} {M : Mem} {a0 : Nat} {Q : Int → Mem → Prop} {x1 : Int} {x2 : Int} (F : Fx g p s m args meth c cX11_film 3 RX11) (hr : meth.sig.returnType = (some .int)) (k0 : kd a0 = 11)
    (hw : wp_X11_film_L52 a0 Q M x1 x2) : Z g p l e rm_X11_film s m args below meth c 3 (MQ below (va_Qi (S := Int × Mem) (fun r u => r = i3 u.1 ∧ Q u.1 u.2) (fun u => Rp g u.2) (aR g)) args s 0 0 (aR g)) M 52 [(0, .ref (g.2.2.1 + a0)), (1, .int (i3 x1)), (2, .int (i3 x2))] [] := by
  obtain ⟨I, μ, h0, hb⟩ := hw
  have key : ∀ (n : Nat) (M : Mem) (x2 : Int), I M x2 → μ M x2 < n → Z g p l e rm_X11_film s m args below meth c 3 (MQ below (va_Qi (S := Int × Mem) (fun r u => r = i3 u.1 ∧ Q u.1 u.2) (fun u => Rp g u.2) (aR g)) args s 0 0 (aR g)) M 52 [(0, .ref (g.2.2.1 + a0)), (1, .int (i3 x1)), (2, .int (i3 x2))] [] := by
    intro n
    induction n with
    | zero => exact fun _ _ _ h => absurd h (Nat.not_lt_zero _)
    | succ n ih =>
      intro M x2 hI hn
      exact bk_X11_film_B52 F hr k0 (fun M' x2' hk => ih M' x2' hk.1 (Nat.lt_of_lt_of_le hk.2 (Nat.le_of_lt_succ hn))) (hb M x2 hI)
  exact key _ M x2 h0 (Nat.lt_succ_self _)
set_option maxRecDepth 100000 in
set_option maxHeartbeats 4000000 in
theorem c_X11_film (l : Launch) (g : En) {a0 : Nat} {a1 : Int} {M : Mem} {Q : Int → Mem → Prop} (k0 : kd a0 = 11) (hw : wp_X11_film a0 a1 M Q) :
    Met l yX11_film (WS yX11_film cX11_film 3 (some .int)) rm_X11_film (va_Pc [.ref (g.2.2.1 + a0), .int (i3 a1)] (Rp g M)) (va_Qi (S := Int × Mem) (fun r u => r = i3 u.1 ∧ Q u.1 u.2) (fun u => Rp g u.2) (aR g)) 0 0 (aR g) := by
  refine met_Z (plainFor_of_name rfl) (Nat.le_of_ble_eq_true rfl) ?_
  intro p e s m args below meth c F hr _
  show Z g p l e rm_X11_film s m args below meth c 3 (MQ below (va_Qi (S := Int × Mem) (fun r u => r = i3 u.1 ∧ Q u.1 u.2) (fun u => Rp g u.2) (aR g)) args s 0 0 (aR g)) M 0 [(0, .ref (g.2.2.1 + a0)), (1, .int (i3 a1))] []
  refine z_iload_n F dX11_film_0 rfl rfl 1 rfl ?_
  refine z_cSbp (As := [.int (i3 a1)]) (st := []) F (c_X11_isSheet l g hw) cs_X11_isSheet w_856 ⟨rfl, rfl, Nat.le_of_ble_eq_true rfl, Nat.le_of_ble_eq_true rfl⟩ rfl (Nat.le_of_ble_eq_true rfl) dX11_film_1 rfl (fun r1 hw => ?_)
  refine z_ifb_ne F dX11_film_4 rfl rfl hw (fun hw => ?_) (fun hw => ?_)
  · refine z_aload_n F dX11_film_10 rfl rfl 0 rfl ?_
    refine z_cVv (As := []) (st := []) F (c_X11_look l g k0 hw) cv_X11_look w_530 ⟨rfl, rfl, Nat.le_of_ble_eq_true rfl, Nat.le_of_ble_eq_true rfl⟩ k0 rfl rfl (Nat.le_of_ble_eq_true rfl) dX11_film_11 rfl (fun M11 hw => ?_)
    refine z_aload_n F dX11_film_14 rfl rfl 0 rfl ?_
    refine z_cVv (As := []) (st := []) F (c_X11_readHeld l g k0 hw) cv_X11_readHeld w_653 ⟨rfl, rfl, Nat.le_of_ble_eq_true rfl, Nat.le_of_ble_eq_true rfl⟩ k0 rfl rfl (Nat.le_of_ble_eq_true rfl) dX11_film_15 rfl (fun M15 hw => ?_)
    refine z_aload_n F dX11_film_18 rfl rfl 0 rfl ?_
    refine z_getR F fl_461 k0 dX11_film_19 rfl ?_
    refine z_aload_n F dX11_film_22 rfl rfl 0 rfl ?_
    refine z_getR F fl_448 k0 dX11_film_23 rfl ?_
    refine z_aload_n F dX11_film_26 rfl rfl 0 rfl ?_
    refine z_getR F fl_453 k0 dX11_film_27 rfl ?_
    refine z_cVv (As := [.ref (g.2.2.1 + (rt a0 3)), .ref (g.2.2.1 + (rt a0 8))]) (st := []) F (c_X6_play l g (tk_11_16 k0) (tk_11_3 k0) (tk_11_8 k0) hw) cv_X6_play w_874 ⟨rfl, rfl, Nat.le_of_ble_eq_true rfl, Nat.le_of_ble_eq_true rfl⟩ (tk_11_16 k0) rfl rfl (Nat.le_of_ble_eq_true rfl) dX11_film_30 rfl (fun M30 hw => ?_)
    refine z_aload_n F dX11_film_33 rfl rfl 0 rfl ?_
    refine z_getR F fl_462 k0 dX11_film_34 rfl ?_
    refine z_iload_n F dX11_film_37 rfl rfl 1 rfl ?_
    have n38 := hw.1
    refine z_aald F 3 (tk_11_17 k0) rfl rfl dX11_film_38 rfl hw (fun hw => ?_)
    refine z_iconst F dX11_film_39 rfl ?_
    refine z_aload_n F dX11_film_40 rfl rfl 0 rfl ?_
    refine z_getR F fl_448 k0 dX11_film_41 rfl ?_
    refine z_getI F fl_198 (tk_11_3 k0) dX11_film_44 rfl ?_
    refine z_cVv (As := [.int (i3 1), .int (i3 (M30 (rt a0 3) 0))]) (st := []) F (c_X9_begin l g (tka_18 (tk_11_17 k0) n38) hw) cv_X9_begin w_915 ⟨rfl, rfl, Nat.le_of_ble_eq_true rfl, Nat.le_of_ble_eq_true rfl⟩ (tka_18 (tk_11_17 k0) n38) rfl rfl (Nat.le_of_ble_eq_true rfl) dX11_film_47 rfl (fun M47 hw => ?_)
    refine z_iconst F dX11_film_50 rfl ?_
    refine z_istore_n F dX11_film_51 rfl rfl (by decide) rfl ?_
    refine z_sub [1, 2, 0] rfl ?_
    exact lp_X11_film_52 F hr k0 hw
  · refine z_bipush F dX11_film_7 (by decide) rfl ?_
    exact z_iret (x := (-2)) F hr dX11_film_9 hw
theorem cv_X11_film : CV yX11_film RX11 cX11_film 3 (some .int) 1 := ⟨w_912, w_913, w_67, w_914, rfl, by decide +kernel, by decide +kernel, by decide +kernel⟩
abbrev rm_X11_image : Room := { frames := 3, cells := 0, slots := 0, locals := 83 }
def wp_X11_image (a0 : Nat) (M : Mem) (Q : Int → Mem → Prop) : Prop :=
  wp_X1_become (rt a0 1) (rt a0 0) M (fun M8 =>
  ∀ M13 : Mem, M13 = st2 M8 a0 2 (bz true) →
  Q (M13 (rt a0 0) 4) M13)
set_option maxRecDepth 100000 in
set_option maxHeartbeats 4000000 in
theorem c_X11_image (l : Launch) (g : En) {a0 : Nat} {M : Mem} {Q : Int → Mem → Prop} (k0 : kd a0 = 11) (hw : wp_X11_image a0 M Q) :
    Met l yX11_image (WS yX11_image cX11_image 1 (some .int)) rm_X11_image (va_Pc [.ref (g.2.2.1 + a0)] (Rp g M)) (va_Qi (S := Int × Mem) (fun r u => r = i3 u.1 ∧ Q u.1 u.2) (fun u => Rp g u.2) (aR g)) 0 0 (aR g) := by
  refine met_Z (plainFor_of_name rfl) (Nat.le_of_ble_eq_true rfl) ?_
  intro p e s m args below meth c F hr _
  show Z g p l e rm_X11_image s m args below meth c 1 (MQ below (va_Qi (S := Int × Mem) (fun r u => r = i3 u.1 ∧ Q u.1 u.2) (fun u => Rp g u.2) (aR g)) args s 0 0 (aR g)) M 0 [(0, .ref (g.2.2.1 + a0))] []
  refine z_aload_n F dX11_image_0 rfl rfl 0 rfl ?_
  refine z_getR F fl_446 k0 dX11_image_1 rfl ?_
  refine z_aload_n F dX11_image_4 rfl rfl 0 rfl ?_
  refine z_getR F fl_445 k0 dX11_image_5 rfl ?_
  refine z_cVv (As := [.ref (g.2.2.1 + (rt a0 0))]) (st := []) F (c_X1_become l g (tk_11_1 k0) (tk_11_0 k0) hw) cv_X1_become w_924 ⟨rfl, rfl, Nat.le_of_ble_eq_true rfl, Nat.le_of_ble_eq_true rfl⟩ (tk_11_1 k0) rfl rfl (Nat.le_of_ble_eq_true rfl) dX11_image_8 rfl (fun M8 hw => ?_)
  refine z_aload_n F dX11_image_11 rfl rfl 0 rfl ?_
  refine z_iconst F dX11_image_12 rfl ?_
  refine z_putB (r := true) F fp_447 k0 dX11_image_13 rfl ?_
  refine z_nmM (fun M13 eM13 => ?_)
  have hw := hw M13 eM13
  refine z_aload_n F dX11_image_16 rfl rfl 0 rfl ?_
  refine z_getR F fl_445 k0 dX11_image_17 rfl ?_
  refine z_getI F fl_173 (tk_11_0 k0) dX11_image_20 rfl ?_
  exact z_iret (x := (M13 (rt a0 0) 4)) F hr dX11_image_23 hw
theorem cv_X11_image : CV yX11_image RX11 cX11_image 1 (some .int) 0 := ⟨w_921, w_922, w_67, w_923, rfl, by decide +kernel, by decide +kernel, by decide +kernel⟩
abbrev rm_X11_back : Room := { frames := 3, cells := 0, slots := 0, locals := 83 }
def wp_X11_back (a0 : Nat) (M : Mem) (Q : Int → Mem → Prop) : Prop :=
  (((fb M a0 2) = true → (
    ∀ M12 : Mem, M12 = st2 M a0 5 (bz true) →
    wp_X1_become (rt a0 0) (rt a0 1) M12 (fun M23 =>
    Q (M23 (rt a0 0) 4) M23))) ∧
  ((fb M a0 2) = false → (
    Q (-3) M)))
set_option maxRecDepth 100000 in
set_option maxHeartbeats 4000000 in
theorem c_X11_back (l : Launch) (g : En) {a0 : Nat} {M : Mem} {Q : Int → Mem → Prop} (k0 : kd a0 = 11) (hw : wp_X11_back a0 M Q) :
    Met l yX11_back (WS yX11_back cX11_back 1 (some .int)) rm_X11_back (va_Pc [.ref (g.2.2.1 + a0)] (Rp g M)) (va_Qi (S := Int × Mem) (fun r u => r = i3 u.1 ∧ Q u.1 u.2) (fun u => Rp g u.2) (aR g)) 0 0 (aR g) := by
  refine met_Z (plainFor_of_name rfl) (Nat.le_of_ble_eq_true rfl) ?_
  intro p e s m args below meth c F hr _
  show Z g p l e rm_X11_back s m args below meth c 1 (MQ below (va_Qi (S := Int × Mem) (fun r u => r = i3 u.1 ∧ Q u.1 u.2) (fun u => Rp g u.2) (aR g)) args s 0 0 (aR g)) M 0 [(0, .ref (g.2.2.1 + a0))] []
  refine z_aload_n F dX11_back_0 rfl rfl 0 rfl ?_
  refine z_getB F fl_447 k0 dX11_back_1 rfl ?_
  refine z_ifb_ne F dX11_back_4 rfl rfl hw (fun hw => ?_) (fun hw => ?_)
  · refine z_aload_n F dX11_back_10 rfl rfl 0 rfl ?_
    refine z_iconst F dX11_back_11 rfl ?_
    refine z_putB (r := true) F fp_450 k0 dX11_back_12 rfl ?_
    refine z_nmM (fun M12 eM12 => ?_)
    have hw := hw M12 eM12
    refine z_aload_n F dX11_back_15 rfl rfl 0 rfl ?_
    refine z_getR F fl_445 k0 dX11_back_16 rfl ?_
    refine z_aload_n F dX11_back_19 rfl rfl 0 rfl ?_
    refine z_getR F fl_446 k0 dX11_back_20 rfl ?_
    refine z_cVv (As := [.ref (g.2.2.1 + (rt a0 1))]) (st := []) F (c_X1_become l g (tk_11_0 k0) (tk_11_1 k0) hw) cv_X1_become w_924 ⟨rfl, rfl, Nat.le_of_ble_eq_true rfl, Nat.le_of_ble_eq_true rfl⟩ (tk_11_0 k0) rfl rfl (Nat.le_of_ble_eq_true rfl) dX11_back_23 rfl (fun M23 hw => ?_)
    refine z_aload_n F dX11_back_26 rfl rfl 0 rfl ?_
    refine z_getR F fl_445 k0 dX11_back_27 rfl ?_
    refine z_getI F fl_173 (tk_11_0 k0) dX11_back_30 rfl ?_
    exact z_iret (x := (M23 (rt a0 0) 4)) F hr dX11_back_33 hw
  · refine z_bipush F dX11_back_7 (by decide) rfl ?_
    exact z_iret (x := (-3)) F hr dX11_back_9 hw
theorem cv_X11_back : CV yX11_back RX11 cX11_back 1 (some .int) 0 := ⟨w_941, w_942, w_67, w_943, rfl, by decide +kernel, by decide +kernel, by decide +kernel⟩
abbrev rm_X11_count : Room := { frames := 1, cells := 0, slots := 0, locals := 22 }
def wp_X11_count (a0 : Nat) (a1 : Int) (M : Mem) (Q : Int → Prop) : Prop :=
  ((w32 a1 = 0 → (
    wp_X2_countTold (rt (rt a0 0) 0) M (fun r43 =>
    Q r43))) ∧
  (w32 a1 = 1 → (
    wp_X2_countTold (rt (rt a0 0) 1) M (fun r54 =>
    Q r54))) ∧
  (w32 a1 = 2 → (
    wp_X2_countTold (rt (rt a0 0) 2) M (fun r65 =>
    Q r65))) ∧
  (w32 a1 = 3 → (
    Q (M (rt a0 0) 4))) ∧
  (w32 a1 = 4 → (
    wp_X1_countHeld (rt a0 0) M (fun r81 =>
    Q r81))) ∧
  ((w32 a1 < 0 ∨ 4 < w32 a1) → (
    Q (-2))))
set_option maxRecDepth 100000 in
set_option maxHeartbeats 4000000 in
theorem c_X11_count (l : Launch) (g : En) {a0 : Nat} {a1 : Int} {M : Mem} {Q : Int → Prop} (k0 : kd a0 = 11) (hw : wp_X11_count a0 a1 M Q) :
    Met l yX11_count (WS yX11_count cX11_count 2 (some .int)) rm_X11_count (va_Pc [.ref (g.2.2.1 + a0), .int (i3 a1)] (Rp g M)) (va_Qi (S := Int × Mem) (fun r u => r = i3 u.1 ∧ (u.2 = M ∧ Q u.1)) (fun u => Rp g u.2) (aR g)) 0 0 (aR g) := by
  refine met_Z (plainFor_of_name rfl) (Nat.le_of_ble_eq_true rfl) ?_
  intro p e s m args below meth c F hr _
  show Z g p l e rm_X11_count s m args below meth c 2 (MQ below (va_Qi (S := Int × Mem) (fun r u => r = i3 u.1 ∧ (u.2 = M ∧ Q u.1)) (fun u => Rp g u.2) (aR g)) args s 0 0 (aR g)) M 0 [(0, .ref (g.2.2.1 + a0)), (1, .int (i3 a1))] []
  refine z_iload_n F dX11_count_0 rfl rfl 1 rfl ?_
  by_cases e1_0 : w32 a1 = 0
  · refine z_swcase F 0 dX11_count_1 e1_0 (by decide) (by decide) rfl rfl ?_
    have hw := hw.1 e1_0
    refine z_aload_n F dX11_count_36 rfl rfl 0 rfl ?_
    refine z_getR F fl_445 k0 dX11_count_37 rfl ?_
    refine z_getR F fl_156 (tk_11_0 k0) dX11_count_40 rfl ?_
    refine z_cVip (As := []) (st := []) F (c_X2_countTold l g (tk_1_0 (tk_11_0 k0)) hw) cv_X2_countTold w_948 ⟨rfl, rfl, Nat.le_of_ble_eq_true rfl, Nat.le_of_ble_eq_true rfl⟩ (tk_1_0 (tk_11_0 k0)) rfl rfl (Nat.le_of_ble_eq_true rfl) dX11_count_43 rfl (fun r43 hw => ?_)
    exact z_iretp (x := r43) F hr dX11_count_46 hw
  · skip
    by_cases e1_1 : w32 a1 = 1
    · refine z_swcase F 1 dX11_count_1 e1_1 (by decide) (by decide) rfl rfl ?_
      have hw := hw.2.1 e1_1
      refine z_aload_n F dX11_count_47 rfl rfl 0 rfl ?_
      refine z_getR F fl_445 k0 dX11_count_48 rfl ?_
      refine z_getR F fl_160 (tk_11_0 k0) dX11_count_51 rfl ?_
      refine z_cVip (As := []) (st := []) F (c_X2_countTold l g (tk_1_1 (tk_11_0 k0)) hw) cv_X2_countTold w_948 ⟨rfl, rfl, Nat.le_of_ble_eq_true rfl, Nat.le_of_ble_eq_true rfl⟩ (tk_1_1 (tk_11_0 k0)) rfl rfl (Nat.le_of_ble_eq_true rfl) dX11_count_54 rfl (fun r54 hw => ?_)
      exact z_iretp (x := r54) F hr dX11_count_57 hw
    · skip
      by_cases e1_2 : w32 a1 = 2
      · refine z_swcase F 2 dX11_count_1 e1_2 (by decide) (by decide) rfl rfl ?_
        have hw := hw.2.2.1 e1_2
        refine z_aload_n F dX11_count_58 rfl rfl 0 rfl ?_
        refine z_getR F fl_445 k0 dX11_count_59 rfl ?_
        refine z_getR F fl_162 (tk_11_0 k0) dX11_count_62 rfl ?_
        refine z_cVip (As := []) (st := []) F (c_X2_countTold l g (tk_1_2 (tk_11_0 k0)) hw) cv_X2_countTold w_948 ⟨rfl, rfl, Nat.le_of_ble_eq_true rfl, Nat.le_of_ble_eq_true rfl⟩ (tk_1_2 (tk_11_0 k0)) rfl rfl (Nat.le_of_ble_eq_true rfl) dX11_count_65 rfl (fun r65 hw => ?_)
        exact z_iretp (x := r65) F hr dX11_count_68 hw
      · skip
        by_cases e1_3 : w32 a1 = 3
        · refine z_swcase F 3 dX11_count_1 e1_3 (by decide) (by decide) rfl rfl ?_
          have hw := hw.2.2.2.1 e1_3
          refine z_aload_n F dX11_count_69 rfl rfl 0 rfl ?_
          refine z_getR F fl_445 k0 dX11_count_70 rfl ?_
          refine z_getI F fl_173 (tk_11_0 k0) dX11_count_73 rfl ?_
          exact z_iretp (x := (M (rt a0 0) 4)) F hr dX11_count_76 hw
        · skip
          by_cases e1_4 : w32 a1 = 4
          · refine z_swcase F 4 dX11_count_1 e1_4 (by decide) (by decide) rfl rfl ?_
            have hw := hw.2.2.2.2.1 e1_4
            refine z_aload_n F dX11_count_77 rfl rfl 0 rfl ?_
            refine z_getR F fl_445 k0 dX11_count_78 rfl ?_
            refine z_cVip (As := []) (st := []) F (c_X1_countHeld l g (tk_11_0 k0) hw) cv_X1_countHeld w_949 ⟨rfl, rfl, Nat.le_of_ble_eq_true rfl, Nat.le_of_ble_eq_true rfl⟩ (tk_11_0 k0) rfl rfl (Nat.le_of_ble_eq_true rfl) dX11_count_81 rfl (fun r81 hw => ?_)
            exact z_iretp (x := r81) F hr dX11_count_84 hw
          · skip
            have h9 : w32 a1 < 0 ∨ 4 < w32 a1 := by omega
            refine z_swout F dX11_count_1 h9 rfl ?_
            have hw := hw.2.2.2.2.2 h9
            refine z_bipush F dX11_count_85 (by decide) rfl ?_
            exact z_iretp (x := (-2)) F hr dX11_count_87 hw
theorem cv_X11_count : CV yX11_count RX11 cX11_count 2 (some .int) 1 := ⟨w_945, w_946, w_67, w_947, rfl, by decide +kernel, by decide +kernel, by decide +kernel⟩
abbrev rm_X11_isSort : Room := { frames := 0, cells := 0, slots := 0, locals := 0 }
def wp_X11_isSort (a0 : Int) (M : Mem) (Q : Bool → Prop) : Prop :=
  (((w32 a0 = 0) → (
    Q true)) ∧
  (¬ (w32 a0 = 0) → (
    (((¬ w32 a0 = w32 1) → (
      Q false)) ∧
    (¬ (¬ w32 a0 = w32 1) → (
      Q true))))))
set_option maxRecDepth 100000 in
set_option maxHeartbeats 4000000 in
theorem c_X11_isSort (l : Launch) (g : En) {a0 : Int} {M : Mem} {Q : Bool → Prop} (hw : wp_X11_isSort a0 M Q) :
    Met l yX11_isSort (WS yX11_isSort cX11_isSort 1 (some .boolean)) rm_X11_isSort (va_Pc [.int (i3 a0)] (Rp g M)) (va_Qi (S := Bool × Mem) (fun r u => r = i3 (bz u.1) ∧ (u.2 = M ∧ Q u.1)) (fun u => Rp g u.2) (aR g)) 0 0 (aR g) := by
  refine met_Z (plainFor_of_name rfl) (Nat.le_of_ble_eq_true rfl) ?_
  intro p e s m args below meth c F hr _
  show Z g p l e rm_X11_isSort s m args below meth c 1 (MQ below (va_Qi (S := Bool × Mem) (fun r u => r = i3 (bz u.1) ∧ (u.2 = M ∧ Q u.1)) (fun u => Rp g u.2) (aR g)) args s 0 0 (aR g)) M 0 [(0, .int (i3 a0))] []
  refine z_iload_n F dX11_isSort_0 rfl rfl 0 rfl ?_
  refine z_if_eq F dX11_isSort_1 rfl rfl hw (fun hw => ?_) (fun hw => ?_)
  · refine z_iconst F dX11_isSort_9 rfl ?_
    refine z_goto F dX11_isSort_10 rfl ?_
    exact z_zretp (x := true) F hr dX11_isSort_14 hw
  · refine z_iload_n F dX11_isSort_4 rfl rfl 0 rfl ?_
    refine z_iconst F dX11_isSort_5 rfl ?_
    refine z_icmp_ne F dX11_isSort_6 rfl rfl hw (fun hw => ?_) (fun hw => ?_)
    · refine z_iconst F dX11_isSort_13 rfl ?_
      exact z_zretp (x := false) F hr dX11_isSort_14 hw
    · refine z_iconst F dX11_isSort_9 rfl ?_
      refine z_goto F dX11_isSort_10 rfl ?_
      exact z_zretp (x := true) F hr dX11_isSort_14 hw
theorem cs_X11_isSort : CS yX11_isSort cX11_isSort 1 (some .boolean) 1 := ⟨w_958, w_67, w_959, by decide +kernel, by decide +kernel, by decide +kernel⟩
abbrev rm_X11_sheet : Room := { frames := 2, cells := 0, slots := 0, locals := 45 }
def wp_X11_sheet_b22 (a0 : Nat) (Q : Int → Mem → Prop) (M : Mem) (x1 : Int) (x2 : Int) (x3 : Int) : Prop :=
  (((¬ w32 x2 = w32 (-1)) → (
    (((w32 x3 ≤ w32 40) → (
      (((0 ≤ w32 x3) → (
        inb (rt a0 17) x1 ∧ (
        wp_X9_begin (rt (rt a0 17) (ix x1)) x2 x3 M (fun M64 =>
        Q 1 M64)))) ∧
      (¬ (0 ≤ w32 x3) → (
        Q (-14) M))))) ∧
    (¬ (w32 x3 ≤ w32 40) → (
      Q (-2) M))))) ∧
  (¬ (¬ w32 x2 = w32 (-1)) → (
    inb (rt a0 17) x1 ∧ (
    wp_X9_begin (rt (rt a0 17) (ix x1)) (-1) 0 M (fun M35 =>
    Q 1 M35)))))
def wp_X11_sheet (a0 : Nat) (a1 : Int) (a2 : Int) (a3 : Int) (M : Mem) (Q : Int → Mem → Prop) : Prop :=
  wp_X11_isSheet a1 M (fun r1 =>
  ((r1 = false → (
    Q (-2) M)) ∧
  (r1 = true → (
    (((w32 a2 = w32 (-1)) → (
      wp_X11_sheet_b22 a0 Q M a1 a2 a3)) ∧
    (¬ (w32 a2 = w32 (-1)) → (
      wp_X11_isSort a2 M (fun r13 =>
      ((r13 = true → (
        wp_X11_sheet_b22 a0 Q M a1 a2 a3)) ∧
      (r13 = false → (
        Q (-2) M)))))))))))
set_option maxRecDepth 100000 in
set_option maxHeartbeats 4000000 in
theorem bk_X11_sheet_22 {g : En} {p : Program} {l : Launch} {e : Env} {s : State} {m : MethodId} {args : Array Value} {below : List Frame} {meth : Method} {c : Code} {M : Mem} {a0 : Nat} {Q : Int → Mem → Prop} {x1 : Int} {x2 : Int} {x3 : Int} (F : Fx g p s m args meth c cX11_sheet 4 RX11) (hr : meth.sig.returnType = (some .int)) (k0 : kd a0 = 11)
    (hw : wp_X11_sheet_b22 a0 Q M x1 x2 x3) : Z g p l e rm_X11_sheet s m args below meth c 4 (MQ below (va_Qi (S := Int × Mem) (fun r u => r = i3 u.1 ∧ Q u.1 u.2) (fun u => Rp g u.2) (aR g)) args s 0 0 (aR g)) M 22 [(0, .ref (g.2.2.1 + a0)), (1, .int (i3 x1)), (2, .int (i3 x2)), (3, .int (i3 x3))] [] := by
  refine z_iload_n F dX11_sheet_22 rfl rfl 2 rfl ?_
  refine z_iconst F dX11_sheet_23 rfl ?_
  refine z_icmp_ne F dX11_sheet_24 rfl rfl hw (fun hw => ?_) (fun hw => ?_)
  · refine z_iload_n F dX11_sheet_40 rfl rfl 3 rfl ?_
    refine z_bipush F dX11_sheet_41 (by decide) rfl ?_
    refine z_icmp_le F dX11_sheet_43 rfl rfl hw (fun hw => ?_) (fun hw => ?_)
    · refine z_iload_n F dX11_sheet_49 rfl rfl 3 rfl ?_
      refine z_if_ge F dX11_sheet_50 rfl rfl hw (fun hw => ?_) (fun hw => ?_)
      · refine z_aload_n F dX11_sheet_56 rfl rfl 0 rfl ?_
        refine z_getR F fl_462 k0 dX11_sheet_57 rfl ?_
        refine z_iload_n F dX11_sheet_60 rfl rfl 1 rfl ?_
        have n61 := hw.1
        refine z_aald F 3 (tk_11_17 k0) rfl rfl dX11_sheet_61 rfl hw (fun hw => ?_)
        refine z_iload_n F dX11_sheet_62 rfl rfl 2 rfl ?_
        refine z_iload_n F dX11_sheet_63 rfl rfl 3 rfl ?_
        refine z_cVv (As := [.int (i3 x2), .int (i3 x3)]) (st := []) F (c_X9_begin l g (tka_18 (tk_11_17 k0) n61) hw) cv_X9_begin w_915 ⟨rfl, rfl, Nat.le_of_ble_eq_true rfl, Nat.le_of_ble_eq_true rfl⟩ (tka_18 (tk_11_17 k0) n61) rfl rfl (Nat.le_of_ble_eq_true rfl) dX11_sheet_64 rfl (fun M64 hw => ?_)
        refine z_iconst F dX11_sheet_67 rfl ?_
        exact z_iret (x := 1) F hr dX11_sheet_68 hw
      · refine z_bipush F dX11_sheet_53 (by decide) rfl ?_
        exact z_iret (x := (-14)) F hr dX11_sheet_55 hw
    · refine z_bipush F dX11_sheet_46 (by decide) rfl ?_
      exact z_iret (x := (-2)) F hr dX11_sheet_48 hw
  · refine z_aload_n F dX11_sheet_27 rfl rfl 0 rfl ?_
    refine z_getR F fl_462 k0 dX11_sheet_28 rfl ?_
    refine z_iload_n F dX11_sheet_31 rfl rfl 1 rfl ?_
    have n32 := hw.1
    refine z_aald F 3 (tk_11_17 k0) rfl rfl dX11_sheet_32 rfl hw (fun hw => ?_)
    refine z_iconst F dX11_sheet_33 rfl ?_
    refine z_iconst F dX11_sheet_34 rfl ?_
    refine z_cVv (As := [.int (i3 (-1)), .int (i3 0)]) (st := []) F (c_X9_begin l g (tka_18 (tk_11_17 k0) n32) hw) cv_X9_begin w_915 ⟨rfl, rfl, Nat.le_of_ble_eq_true rfl, Nat.le_of_ble_eq_true rfl⟩ (tka_18 (tk_11_17 k0) n32) rfl rfl (Nat.le_of_ble_eq_true rfl) dX11_sheet_35 rfl (fun M35 hw => ?_)
    refine z_iconst F dX11_sheet_38 rfl ?_
    exact z_iret (x := 1) F hr dX11_sheet_39 hw
set_option maxRecDepth 100000 in
set_option maxHeartbeats 4000000 in
theorem c_X11_sheet (l : Launch) (g : En) {a0 : Nat} {a1 : Int} {a2 : Int} {a3 : Int} {M : Mem} {Q : Int → Mem → Prop} (k0 : kd a0 = 11) (hw : wp_X11_sheet a0 a1 a2 a3 M Q) :
    Met l yX11_sheet (WS yX11_sheet cX11_sheet 4 (some .int)) rm_X11_sheet (va_Pc [.ref (g.2.2.1 + a0), .int (i3 a1), .int (i3 a2), .int (i3 a3)] (Rp g M)) (va_Qi (S := Int × Mem) (fun r u => r = i3 u.1 ∧ Q u.1 u.2) (fun u => Rp g u.2) (aR g)) 0 0 (aR g) := by
  refine met_Z (plainFor_of_name rfl) (Nat.le_of_ble_eq_true rfl) ?_
  intro p e s m args below meth c F hr _
  show Z g p l e rm_X11_sheet s m args below meth c 4 (MQ below (va_Qi (S := Int × Mem) (fun r u => r = i3 u.1 ∧ Q u.1 u.2) (fun u => Rp g u.2) (aR g)) args s 0 0 (aR g)) M 0 [(0, .ref (g.2.2.1 + a0)), (1, .int (i3 a1)), (2, .int (i3 a2)), (3, .int (i3 a3))] []
  refine z_iload_n F dX11_sheet_0 rfl rfl 1 rfl ?_
  refine z_cSbp (As := [.int (i3 a1)]) (st := []) F (c_X11_isSheet l g hw) cs_X11_isSheet w_856 ⟨rfl, rfl, Nat.le_of_ble_eq_true rfl, Nat.le_of_ble_eq_true rfl⟩ rfl (Nat.le_of_ble_eq_true rfl) dX11_sheet_1 rfl (fun r1 hw => ?_)
  refine z_ifb_eq F dX11_sheet_4 rfl rfl hw (fun hw => ?_) (fun hw => ?_)
  · refine z_bipush F dX11_sheet_19 (by decide) rfl ?_
    exact z_iret (x := (-2)) F hr dX11_sheet_21 hw
  · refine z_iload_n F dX11_sheet_7 rfl rfl 2 rfl ?_
    refine z_iconst F dX11_sheet_8 rfl ?_
    refine z_icmp_eq F dX11_sheet_9 rfl rfl hw (fun hw => ?_) (fun hw => ?_)
    · refine z_sub [0, 1, 2, 3] rfl ?_
      exact bk_X11_sheet_22 F hr k0 hw
    · refine z_iload_n F dX11_sheet_12 rfl rfl 2 rfl ?_
      refine z_cSbp (As := [.int (i3 a2)]) (st := []) F (c_X11_isSort l g hw) cs_X11_isSort w_957 ⟨rfl, rfl, Nat.le_of_ble_eq_true rfl, Nat.le_of_ble_eq_true rfl⟩ rfl (Nat.le_of_ble_eq_true rfl) dX11_sheet_13 rfl (fun r13 hw => ?_)
      refine z_ifb_ne F dX11_sheet_16 rfl rfl hw (fun hw => ?_) (fun hw => ?_)
      · refine z_sub [0, 1, 2, 3] rfl ?_
        exact bk_X11_sheet_22 F hr k0 hw
      · refine z_bipush F dX11_sheet_19 (by decide) rfl ?_
        exact z_iret (x := (-2)) F hr dX11_sheet_21 hw
theorem cv_X11_sheet : CV yX11_sheet RX11 cX11_sheet 4 (some .int) 3 := ⟨w_954, w_955, w_67, w_956, rfl, by decide +kernel, by decide +kernel, by decide +kernel⟩
abbrev rm_X11_put : Room := { frames := 2, cells := 0, slots := 0, locals := 42 }
def wp_X11_put (a0 : Nat) (a1 : Int) (a2 : Int) (a3 : Int) (M : Mem) (Q : Int → Mem → Prop) : Prop :=
  wp_X11_isSheet a1 M (fun r1 =>
  ((r1 = true → (
    inb (rt a0 17) a1 ∧ (
    wp_X9_isMissing (rt (rt a0 17) (ix a1)) M (fun r16 =>
    ((r16 = false → (
      inb (rt a0 17) a1 ∧ (
      wp_X9_hasItem (rt (rt a0 17) (ix a1)) a2 M (fun r32 =>
      ((r32 = true → (
        inb (rt a0 17) a1 ∧ (
        wp_X9_write (rt (rt a0 17) (ix a1)) a2 a3 M (fun M49 =>
        Q 1 M49)))) ∧
      (r32 = false → (
        Q (-12) M))))))) ∧
    (r16 = true → (
      Q (-11) M))))))) ∧
  (r1 = false → (
    Q (-2) M))))
set_option maxRecDepth 100000 in
set_option maxHeartbeats 4000000 in
theorem c_X11_put (l : Launch) (g : En) {a0 : Nat} {a1 : Int} {a2 : Int} {a3 : Int} {M : Mem} {Q : Int → Mem → Prop} (k0 : kd a0 = 11) (hw : wp_X11_put a0 a1 a2 a3 M Q) :
    Met l yX11_put (WS yX11_put cX11_put 4 (some .int)) rm_X11_put (va_Pc [.ref (g.2.2.1 + a0), .int (i3 a1), .int (i3 a2), .int (i3 a3)] (Rp g M)) (va_Qi (S := Int × Mem) (fun r u => r = i3 u.1 ∧ Q u.1 u.2) (fun u => Rp g u.2) (aR g)) 0 0 (aR g) := by
  refine met_Z (plainFor_of_name rfl) (Nat.le_of_ble_eq_true rfl) ?_
  intro p e s m args below meth c F hr _
  show Z g p l e rm_X11_put s m args below meth c 4 (MQ below (va_Qi (S := Int × Mem) (fun r u => r = i3 u.1 ∧ Q u.1 u.2) (fun u => Rp g u.2) (aR g)) args s 0 0 (aR g)) M 0 [(0, .ref (g.2.2.1 + a0)), (1, .int (i3 a1)), (2, .int (i3 a2)), (3, .int (i3 a3))] []
  refine z_iload_n F dX11_put_0 rfl rfl 1 rfl ?_
  refine z_cSbp (As := [.int (i3 a1)]) (st := []) F (c_X11_isSheet l g hw) cs_X11_isSheet w_856 ⟨rfl, rfl, Nat.le_of_ble_eq_true rfl, Nat.le_of_ble_eq_true rfl⟩ rfl (Nat.le_of_ble_eq_true rfl) dX11_put_1 rfl (fun r1 hw => ?_)
  refine z_ifb_ne F dX11_put_4 rfl rfl hw (fun hw => ?_) (fun hw => ?_)
  · refine z_aload_n F dX11_put_10 rfl rfl 0 rfl ?_
    refine z_getR F fl_462 k0 dX11_put_11 rfl ?_
    refine z_iload_n F dX11_put_14 rfl rfl 1 rfl ?_
    have n15 := hw.1
    refine z_aald F 3 (tk_11_17 k0) rfl rfl dX11_put_15 rfl hw (fun hw => ?_)
    refine z_cVbp (As := []) (st := []) F (c_X9_isMissing l g (tka_18 (tk_11_17 k0) n15) hw) cv_X9_isMissing w_862 ⟨rfl, rfl, Nat.le_of_ble_eq_true rfl, Nat.le_of_ble_eq_true rfl⟩ (tka_18 (tk_11_17 k0) n15) rfl rfl (Nat.le_of_ble_eq_true rfl) dX11_put_16 rfl (fun r16 hw => ?_)
    refine z_ifb_eq F dX11_put_19 rfl rfl hw (fun hw => ?_) (fun hw => ?_)
    · refine z_aload_n F dX11_put_25 rfl rfl 0 rfl ?_
      refine z_getR F fl_462 k0 dX11_put_26 rfl ?_
      refine z_iload_n F dX11_put_29 rfl rfl 1 rfl ?_
      have n30 := hw.1
      refine z_aald F 3 (tk_11_17 k0) rfl rfl dX11_put_30 rfl hw (fun hw => ?_)
      refine z_iload_n F dX11_put_31 rfl rfl 2 rfl ?_
      refine z_cVbp (As := [.int (i3 a2)]) (st := []) F (c_X9_hasItem l g (tka_18 (tk_11_17 k0) n30) hw) cv_X9_hasItem w_964 ⟨rfl, rfl, Nat.le_of_ble_eq_true rfl, Nat.le_of_ble_eq_true rfl⟩ (tka_18 (tk_11_17 k0) n30) rfl rfl (Nat.le_of_ble_eq_true rfl) dX11_put_32 rfl (fun r32 hw => ?_)
      refine z_ifb_ne F dX11_put_35 rfl rfl hw (fun hw => ?_) (fun hw => ?_)
      · refine z_aload_n F dX11_put_41 rfl rfl 0 rfl ?_
        refine z_getR F fl_462 k0 dX11_put_42 rfl ?_
        refine z_iload_n F dX11_put_45 rfl rfl 1 rfl ?_
        have n46 := hw.1
        refine z_aald F 3 (tk_11_17 k0) rfl rfl dX11_put_46 rfl hw (fun hw => ?_)
        refine z_iload_n F dX11_put_47 rfl rfl 2 rfl ?_
        refine z_iload_n F dX11_put_48 rfl rfl 3 rfl ?_
        refine z_cVv (As := [.int (i3 a2), .int (i3 a3)]) (st := []) F (c_X9_write l g (tka_18 (tk_11_17 k0) n46) hw) cv_X9_write w_968 ⟨rfl, rfl, Nat.le_of_ble_eq_true rfl, Nat.le_of_ble_eq_true rfl⟩ (tka_18 (tk_11_17 k0) n46) rfl rfl (Nat.le_of_ble_eq_true rfl) dX11_put_49 rfl (fun M49 hw => ?_)
        refine z_iconst F dX11_put_52 rfl ?_
        exact z_iret (x := 1) F hr dX11_put_53 hw
      · refine z_bipush F dX11_put_38 (by decide) rfl ?_
        exact z_iret (x := (-12)) F hr dX11_put_40 hw
    · refine z_bipush F dX11_put_22 (by decide) rfl ?_
      exact z_iret (x := (-11)) F hr dX11_put_24 hw
  · refine z_bipush F dX11_put_7 (by decide) rfl ?_
    exact z_iret (x := (-2)) F hr dX11_put_9 hw
theorem cv_X11_put : CV yX11_put RX11 cX11_put 4 (some .int) 3 := ⟨w_961, w_962, w_67, w_963, rfl, by decide +kernel, by decide +kernel, by decide +kernel⟩
abbrev rm_X11_copy : Room := { frames := 2, cells := 0, slots := 0, locals := 42 }
def wp_X11_copy (a0 : Nat) (a1 : Int) (a2 : Int) (a3 : Int) (a4 : Int) (a5 : Int) (M : Mem) (Q : Int → Mem → Prop) : Prop :=
  wp_X11_isSheet a1 M (fun r1 =>
  ((r1 = false → (
    Q (-2) M)) ∧
  (r1 = true → (
    wp_X11_isSheet a3 M (fun r8 =>
    ((r8 = true → (
      inb (rt a0 17) a1 ∧ (
      inb (rt a0 17) a3 ∧ (
      wp_X9_isMissing (rt (rt a0 17) (ix a1)) M (fun r35 =>
      ((r35 = true → (
        Q (-11) M)) ∧
      (r35 = false → (
        wp_X9_isMissing (rt (rt a0 17) (ix a3)) M (fun r43 =>
        ((r43 = false → (
          (((w32 (M (rt (rt a0 17) (ix a1)) 1) = w32 (M (rt (rt a0 17) (ix a3)) 1)) → (
            wp_X9_hasItems (rt (rt a0 17) (ix a1)) a2 a5 M (fun r73 =>
            ((r73 = false → (
              Q (-12) M)) ∧
            (r73 = true → (
              wp_X9_hasItems (rt (rt a0 17) (ix a3)) a4 a5 M (fun r85 =>
              ((r85 = true → (
                (0 ≤ w32 a2 ∧ 0 ≤ w32 a4 ∧ 0 ≤ w32 a5 ∧ w32 a2 + w32 a5 ≤ ln (rt (rt (rt a0 17) (ix a1)) 0) ∧ w32 a4 + w32 a5 ≤ ln (rt (rt (rt a0 17) (ix a3)) 0)) ∧ (
                ∀ M109 : Mem, M109 = cpy M (rt (rt (rt a0 17) (ix a1)) 0) (ix a2) (rt (rt (rt a0 17) (ix a3)) 0) (ix a4) (ix a5) →
                Q a5 M109))) ∧
              (r85 = false → (
                Q (-12) M)))))))))) ∧
          (¬ (w32 (M (rt (rt a0 17) (ix a1)) 1) = w32 (M (rt (rt a0 17) (ix a3)) 1)) → (
            Q (-13) M))))) ∧
        (r43 = true → (
          Q (-11) M)))))))))))) ∧
    (r8 = false → (
      Q (-2) M))))))))
set_option maxRecDepth 100000 in
set_option maxHeartbeats 4000000 in
theorem c_X11_copy (l : Launch) (g : En) {a0 : Nat} {a1 : Int} {a2 : Int} {a3 : Int} {a4 : Int} {a5 : Int} {M : Mem} {Q : Int → Mem → Prop} (k0 : kd a0 = 11) (hw : wp_X11_copy a0 a1 a2 a3 a4 a5 M Q) :
    Met l yX11_copy (WS yX11_copy cX11_copy 8 (some .int)) rm_X11_copy (va_Pc [.ref (g.2.2.1 + a0), .int (i3 a1), .int (i3 a2), .int (i3 a3), .int (i3 a4), .int (i3 a5)] (Rp g M)) (va_Qi (S := Int × Mem) (fun r u => r = i3 u.1 ∧ Q u.1 u.2) (fun u => Rp g u.2) (aR g)) 0 0 (aR g) := by
  refine met_Z (plainFor_of_name rfl) (Nat.le_of_ble_eq_true rfl) ?_
  intro p e s m args below meth c F hr _
  show Z g p l e rm_X11_copy s m args below meth c 8 (MQ below (va_Qi (S := Int × Mem) (fun r u => r = i3 u.1 ∧ Q u.1 u.2) (fun u => Rp g u.2) (aR g)) args s 0 0 (aR g)) M 0 [(0, .ref (g.2.2.1 + a0)), (1, .int (i3 a1)), (2, .int (i3 a2)), (3, .int (i3 a3)), (4, .int (i3 a4)), (5, .int (i3 a5))] []
  refine z_iload_n F dX11_copy_0 rfl rfl 1 rfl ?_
  refine z_cSbp (As := [.int (i3 a1)]) (st := []) F (c_X11_isSheet l g hw) cs_X11_isSheet w_856 ⟨rfl, rfl, Nat.le_of_ble_eq_true rfl, Nat.le_of_ble_eq_true rfl⟩ rfl (Nat.le_of_ble_eq_true rfl) dX11_copy_1 rfl (fun r1 hw => ?_)
  refine z_ifb_eq F dX11_copy_4 rfl rfl hw (fun hw => ?_) (fun hw => ?_)
  · refine z_bipush F dX11_copy_14 (by decide) rfl ?_
    exact z_iret (x := (-2)) F hr dX11_copy_16 hw
  · refine z_iload_n F dX11_copy_7 rfl rfl 3 rfl ?_
    refine z_cSbp (As := [.int (i3 a3)]) (st := []) F (c_X11_isSheet l g hw) cs_X11_isSheet w_856 ⟨rfl, rfl, Nat.le_of_ble_eq_true rfl, Nat.le_of_ble_eq_true rfl⟩ rfl (Nat.le_of_ble_eq_true rfl) dX11_copy_8 rfl (fun r8 hw => ?_)
    refine z_ifb_ne F dX11_copy_11 rfl rfl hw (fun hw => ?_) (fun hw => ?_)
    · refine z_aload_n F dX11_copy_17 rfl rfl 0 rfl ?_
      refine z_getR F fl_462 k0 dX11_copy_18 rfl ?_
      refine z_iload_n F dX11_copy_21 rfl rfl 1 rfl ?_
      have n22 := hw.1
      refine z_aald F 3 (tk_11_17 k0) rfl rfl dX11_copy_22 rfl hw (fun hw => ?_)
      refine z_astore F dX11_copy_23 rfl (by decide) rfl ?_
      refine z_aload_n F dX11_copy_25 rfl rfl 1 rfl ?_
      refine z_getR F fl_462 k0 dX11_copy_26 rfl ?_
      refine z_iload_n F dX11_copy_29 rfl rfl 4 rfl ?_
      have n30 := hw.1
      refine z_aald F 3 (tk_11_17 k0) rfl rfl dX11_copy_30 rfl hw (fun hw => ?_)
      refine z_astore F dX11_copy_31 rfl (by decide) rfl ?_
      refine z_aload F dX11_copy_33 rfl 1 rfl ?_
      refine z_cVbp (As := []) (st := []) F (c_X9_isMissing l g (tka_18 (tk_11_17 k0) n22) hw) cv_X9_isMissing w_862 ⟨rfl, rfl, Nat.le_of_ble_eq_true rfl, Nat.le_of_ble_eq_true rfl⟩ (tka_18 (tk_11_17 k0) n22) rfl rfl (Nat.le_of_ble_eq_true rfl) dX11_copy_35 rfl (fun r35 hw => ?_)
      refine z_ifb_ne F dX11_copy_38 rfl rfl hw (fun hw => ?_) (fun hw => ?_)
      · refine z_bipush F dX11_copy_49 (by decide) rfl ?_
        exact z_iret (x := (-11)) F hr dX11_copy_51 hw
      · refine z_aload F dX11_copy_41 rfl 0 rfl ?_
        refine z_cVbp (As := []) (st := []) F (c_X9_isMissing l g (tka_18 (tk_11_17 k0) n30) hw) cv_X9_isMissing w_862 ⟨rfl, rfl, Nat.le_of_ble_eq_true rfl, Nat.le_of_ble_eq_true rfl⟩ (tka_18 (tk_11_17 k0) n30) rfl rfl (Nat.le_of_ble_eq_true rfl) dX11_copy_43 rfl (fun r43 hw => ?_)
        refine z_ifb_eq F dX11_copy_46 rfl rfl hw (fun hw => ?_) (fun hw => ?_)
        · refine z_aload F dX11_copy_52 rfl 1 rfl ?_
          refine z_getI F fl_434 (tka_18 (tk_11_17 k0) n22) dX11_copy_54 rfl ?_
          refine z_aload F dX11_copy_57 rfl 0 rfl ?_
          refine z_getI F fl_434 (tka_18 (tk_11_17 k0) n30) dX11_copy_59 rfl ?_
          refine z_icmp_eq F dX11_copy_62 rfl rfl hw (fun hw => ?_) (fun hw => ?_)
          · refine z_aload F dX11_copy_68 rfl 1 rfl ?_
            refine z_iload_n F dX11_copy_70 rfl rfl 4 rfl ?_
            refine z_iload F dX11_copy_71 rfl 7 rfl ?_
            refine z_cVbp (As := [.int (i3 a2), .int (i3 a5)]) (st := []) F (c_X9_hasItems l g (tka_18 (tk_11_17 k0) n22) hw) cv_X9_hasItems w_976 ⟨rfl, rfl, Nat.le_of_ble_eq_true rfl, Nat.le_of_ble_eq_true rfl⟩ (tka_18 (tk_11_17 k0) n22) rfl rfl (Nat.le_of_ble_eq_true rfl) dX11_copy_73 rfl (fun r73 hw => ?_)
            refine z_ifb_eq F dX11_copy_76 rfl rfl hw (fun hw => ?_) (fun hw => ?_)
            · refine z_bipush F dX11_copy_91 (by decide) rfl ?_
              exact z_iret (x := (-12)) F hr dX11_copy_93 hw
            · refine z_aload F dX11_copy_79 rfl 0 rfl ?_
              refine z_iload F dX11_copy_81 rfl 6 rfl ?_
              refine z_iload F dX11_copy_83 rfl 7 rfl ?_
              refine z_cVbp (As := [.int (i3 a4), .int (i3 a5)]) (st := []) F (c_X9_hasItems l g (tka_18 (tk_11_17 k0) n30) hw) cv_X9_hasItems w_976 ⟨rfl, rfl, Nat.le_of_ble_eq_true rfl, Nat.le_of_ble_eq_true rfl⟩ (tka_18 (tk_11_17 k0) n30) rfl rfl (Nat.le_of_ble_eq_true rfl) dX11_copy_85 rfl (fun r85 hw => ?_)
              refine z_ifb_ne F dX11_copy_88 rfl rfl hw (fun hw => ?_) (fun hw => ?_)
              · refine z_aload F dX11_copy_94 rfl 1 rfl ?_
                refine z_getR F fl_432 (tka_18 (tk_11_17 k0) n22) dX11_copy_96 rfl ?_
                refine z_iload_n F dX11_copy_99 rfl rfl 4 rfl ?_
                refine z_aload F dX11_copy_100 rfl 0 rfl ?_
                refine z_getR F fl_432 (tka_18 (tk_11_17 k0) n30) dX11_copy_102 rfl ?_
                refine z_iload F dX11_copy_105 rfl 6 rfl ?_
                refine z_iload F dX11_copy_107 rfl 7 rfl ?_
                refine z_copy F (tk_9_0 (tka_18 (tk_11_17 k0) n22)) (tk_9_0 (tka_18 (tk_11_17 k0) n30)) w_980 w_934 w_933 w_83 (by decide) (by decide) dX11_copy_109 rfl hw (fun hw => ?_)
                refine z_nmM (fun M109 eM109 => ?_)
                have hw := hw M109 eM109
                refine z_iload F dX11_copy_112 rfl 7 rfl ?_
                exact z_iret (x := a5) F hr dX11_copy_114 hw
              · refine z_bipush F dX11_copy_91 (by decide) rfl ?_
                exact z_iret (x := (-12)) F hr dX11_copy_93 hw
          · refine z_bipush F dX11_copy_65 (by decide) rfl ?_
            exact z_iret (x := (-13)) F hr dX11_copy_67 hw
        · refine z_bipush F dX11_copy_49 (by decide) rfl ?_
          exact z_iret (x := (-11)) F hr dX11_copy_51 hw
    · refine z_bipush F dX11_copy_14 (by decide) rfl ?_
      exact z_iret (x := (-2)) F hr dX11_copy_16 hw
theorem cv_X11_copy : CV yX11_copy RX11 cX11_copy 8 (some .int) 5 := ⟨w_973, w_974, w_67, w_975, rfl, by decide +kernel, by decide +kernel, by decide +kernel⟩
abbrev rm_X11_load : Room := { frames := 3, cells := 0, slots := 0, locals := 67 }
def wp_X11_load_b142 (a0 : Nat) (Q : Int → Mem → Prop) (K72 : Mem → Int → Int → Prop) (M : Mem) (x3 : Int) (x4 : Int) (x5 : Nat) (x6 : Int) (x7 : Int) : Prop :=
  K72 M x6 (x7 + 1)
def wp_X11_load_B72 (a0 : Nat) (Q : Int → Mem → Prop) (K72 : Mem → Int → Int → Prop) (M : Mem) (x3 : Int) (x4 : Int) (x5 : Nat) (x6 : Int) (x7 : Int) : Prop :=
  (((w32 x4 ≤ w32 x7) → (
    Q x6 M)) ∧
  (¬ (w32 x4 ≤ w32 x7) → (
    wp_X9_hasItem x5 x3 M (fun r82 =>
    ((r82 = false → (
      Q (-12) M)) ∧
    (r82 = true → (
      wp_X9_hasItems x5 (x3 + (2 * x7)) 2 M (fun r97 =>
      ((r97 = true → (
        inb (rt x5 0) (x3 + (2 * x7)) ∧ (
        inb (rt x5 0) ((x3 + (2 * x7)) + 1) ∧ (
        wp_X11_due a0 (M (rt x5 0) (ix (x3 + (2 * x7)))) (M (rt x5 0) (ix ((x3 + (2 * x7)) + 1))) M (fun r133 M133 =>
        (((w32 r133 < 0) → (
          wp_X11_load_b142 a0 Q K72 M133 x3 x4 x5 x6 x7)) ∧
        (¬ (w32 r133 < 0) → (
          wp_X11_load_b142 a0 Q K72 M133 x3 x4 x5 (x6 + 1) x7)))))))) ∧
      (r97 = false → (
        Q (-12) M)))))))))))
def wp_X11_load_L72 (a0 : Nat) (Q : Int → Mem → Prop) (M : Mem) (x3 : Int) (x4 : Int) (x5 : Nat) (x6 : Int) (x7 : Int) : Prop :=
  ∃ (I : Mem → Int → Int → Prop) (μ : Mem → Int → Int → Nat), I M x6 x7 ∧ ∀ (M : Mem) (x6 : Int) (x7 : Int), I M x6 x7 →
    wp_X11_load_B72 a0 Q (fun M' x6' x7' => I M' x6' x7' ∧ μ M' x6' x7' < μ M x6 x7) M x3 x4 x5 x6 x7
def wp_X11_load_b55 (a0 : Nat) (Q : Int → Mem → Prop) (M : Mem) (x3 : Int) (x4 : Int) (x5 : Nat) : Prop :=
  wp_X9_isMissing x5 M (fun r57 =>
  ((r57 = false → (
    wp_X11_load_L72 a0 Q M x3 x4 x5 0 0)) ∧
  (r57 = true → (
    Q (-11) M))))
def wp_X11_load (a0 : Nat) (a1 : Int) (a2 : Int) (a3 : Int) (a4 : Int) (M : Mem) (Q : Int → Mem → Prop) : Prop :=
  wp_X11_isSheet a1 M (fun r1 =>
  ((r1 = false → (
    Q (-2) M)) ∧
  (r1 = true → (
    wp_X11_isSort a2 M (fun r8 =>
    ((r8 = false → (
      Q (-2) M)) ∧
    (r8 = true → (
      wp_X11_within a4 0 5 M (fun r18 =>
      ((r18 = true → (
        inb (rt a0 17) a1 ∧ (
        wp_X9_isMissing (rt (rt a0 17) (ix a1)) M (fun r37 =>
        ((r37 = true → (
          wp_X11_load_b55 a0 Q M a3 a4 (rt (rt a0 17) (ix a1)))) ∧
        (r37 = false → (
          (((w32 (M (rt (rt a0 17) (ix a1)) 1) = w32 a2) → (
            wp_X11_load_b55 a0 Q M a3 a4 (rt (rt a0 17) (ix a1)))) ∧
          (¬ (w32 (M (rt (rt a0 17) (ix a1)) 1) = w32 a2) → (
            Q (-13) M)))))))))) ∧
      (r18 = false → (
        Q (-2) M))))))))))))
set_option maxRecDepth 100000 in
set_option maxHeartbeats 4000000 in
theorem bk_X11_load_142 {g : En} {p : Program} {l : Launch} {e : Env} {s : State} {m : MethodId} {args : Array Value} {below : List Frame} {meth : Method} {c : Code} {M : Mem} {a0 : Nat} {Q : Int → Mem → Prop} {K72 : Mem → Int → Int → Prop} {x3 : Int} {x4 : Int} {x5 : Nat} {x6 : Int} {x7 : Int} (F : Fx g p s m args meth c cX11_load 8 RX11) (hr : meth.sig.returnType = (some .int)) (k0 : kd a0 = 11) (kx5 : kd x5 = 9)
    (hK72 : ∀ (M' : Mem) (x6' : Int) (x7' : Int), K72 M' x6' x7' → Z g p l e rm_X11_load s m args below meth c 8 (MQ below (va_Qi (S := Int × Mem) (fun r u => r = i3 u.1 ∧ Q u.1 u.2) (fun u => Rp g u.2) (aR g)) args s 0 0 (aR g)) M' 72 [(0, .ref (g.2.2.1 + a0)), (3, .int (i3 x3)), (4, .int (i3 x4)), (5, .ref (g.2.2.1 + x5)), (6, .int (i3 x6')), (7, .int (i3 x7'))] [])
    (hw : wp_X11_load_b142 a0 Q K72 M x3 x4 x5 x6 x7) : Z g p l e rm_X11_load s m args below meth c 8 (MQ below (va_Qi (S := Int × Mem) (fun r u => r = i3 u.1 ∧ Q u.1 u.2) (fun u => Rp g u.2) (aR g)) args s 0 0 (aR g)) M 142 [(0, .ref (g.2.2.1 + a0)), (3, .int (i3 x3)), (4, .int (i3 x4)), (5, .ref (g.2.2.1 + x5)), (6, .int (i3 x6)), (7, .int (i3 x7))] [] := by
  refine z_iinc F dX11_load_142 rfl 5 rfl (by decide) rfl ?_
  refine z_goto F dX11_load_145 rfl ?_
  refine z_sub [1, 2, 3, 4, 5, 0] rfl ?_
  exact hK72 M x6 (x7 + 1) hw
set_option maxRecDepth 100000 in
set_option maxHeartbeats 4000000 in
theorem bk_X11_load_B72 {g : En} {p : Program} {l : Launch} {e : Env} {s : State} {m : MethodId} {args : Array Value} {below : List Frame} {meth : Method} {c : Code} {M : Mem} {a0 : Nat} {Q : Int → Mem → Prop} {K72 : Mem → Int → Int → Prop} {x3 : Int} {x4 : Int} {x5 : Nat} {x6 : Int} {x7 : Int} (F : Fx g p s m args meth c cX11_load 8 RX11) (hr : meth.sig.returnType = (some .int)) (k0 : kd a0 = 11) (kx5 : kd x5 = 9)
    (hK72 : ∀ (M' : Mem) (x6' : Int) (x7' : Int), K72 M' x6' x7' → Z g p l e rm_X11_load s m args below meth c 8 (MQ below (va_Qi (S := Int × Mem) (fun r u => r = i3 u.1 ∧ Q u.1 u.2) (fun u => Rp g u.2) (aR g)) args s 0 0 (aR g)) M' 72 [(0, .ref (g.2.2.1 + a0)), (3, .int (i3 x3)), (4, .int (i3 x4)), (5, .ref (g.2.2.1 + x5)), (6, .int (i3 x6')), (7, .int (i3 x7'))] [])
    (hw : wp_X11_load_B72 a0 Q K72 M x3 x4 x5 x6 x7) : Z g p l e rm_X11_load s m args below meth c 8 (MQ below (va_Qi (S := Int × Mem) (fun r u => r = i3 u.1 ∧ Q u.1 u.2) (fun u => Rp g u.2) (aR g)) args s 0 0 (aR g)) M 72 [(0, .ref (g.2.2.1 + a0)), (3, .int (i3 x3)), (4, .int (i3 x4)), (5, .ref (g.2.2.1 + x5)), (6, .int (i3 x6)), (7, .int (i3 x7))] [] := by
  refine z_iload F dX11_load_72 rfl 5 rfl ?_
  refine z_iload F dX11_load_74 rfl 2 rfl ?_
  refine z_icmp_ge F dX11_load_76 rfl rfl hw (fun hw => ?_) (fun hw => ?_)
  · refine z_iload F dX11_load_148 rfl 4 rfl ?_
    exact z_iret (x := x6) F hr dX11_load_150 hw
  · refine z_aload F dX11_load_79 rfl 3 rfl ?_
    refine z_iload_n F dX11_load_81 rfl rfl 1 rfl ?_
    refine z_cVbp (As := [.int (i3 x3)]) (st := []) F (c_X9_hasItem l g kx5 hw) cv_X9_hasItem w_964 ⟨rfl, rfl, Nat.le_of_ble_eq_true rfl, Nat.le_of_ble_eq_true rfl⟩ kx5 rfl rfl (Nat.le_of_ble_eq_true rfl) dX11_load_82 rfl (fun r82 hw => ?_)
    refine z_ifb_eq F dX11_load_85 rfl rfl hw (fun hw => ?_) (fun hw => ?_)
    · refine z_bipush F dX11_load_103 (by decide) rfl ?_
      exact z_iret (x := (-12)) F hr dX11_load_105 hw
    · refine z_aload F dX11_load_88 rfl 3 rfl ?_
      refine z_iload_n F dX11_load_90 rfl rfl 1 rfl ?_
      refine z_iconst F dX11_load_91 rfl ?_
      refine z_iload F dX11_load_92 rfl 5 rfl ?_
      refine z_imul F dX11_load_94 rfl ?_
      refine z_iadd F dX11_load_95 rfl ?_
      refine z_iconst F dX11_load_96 rfl ?_
      refine z_cVbp (As := [.int (i3 (x3 + (2 * x7))), .int (i3 2)]) (st := []) F (c_X9_hasItems l g kx5 hw) cv_X9_hasItems w_976 ⟨rfl, rfl, Nat.le_of_ble_eq_true rfl, Nat.le_of_ble_eq_true rfl⟩ kx5 rfl rfl (Nat.le_of_ble_eq_true rfl) dX11_load_97 rfl (fun r97 hw => ?_)
      refine z_ifb_ne F dX11_load_100 rfl rfl hw (fun hw => ?_) (fun hw => ?_)
      · refine z_aload_n F dX11_load_106 rfl rfl 0 rfl ?_
        refine z_aload F dX11_load_107 rfl 3 rfl ?_
        refine z_getR F fl_432 kx5 dX11_load_109 rfl ?_
        refine z_iload_n F dX11_load_112 rfl rfl 1 rfl ?_
        refine z_iconst F dX11_load_113 rfl ?_
        refine z_iload F dX11_load_114 rfl 5 rfl ?_
        refine z_imul F dX11_load_116 rfl ?_
        refine z_iadd F dX11_load_117 rfl ?_
        refine z_iald F (tk_9_0 kx5) dX11_load_118 rfl hw (fun hw => ?_)
        refine z_aload F dX11_load_119 rfl 3 rfl ?_
        refine z_getR F fl_432 kx5 dX11_load_121 rfl ?_
        refine z_iload_n F dX11_load_124 rfl rfl 1 rfl ?_
        refine z_iconst F dX11_load_125 rfl ?_
        refine z_iload F dX11_load_126 rfl 5 rfl ?_
        refine z_imul F dX11_load_128 rfl ?_
        refine z_iadd F dX11_load_129 rfl ?_
        refine z_iconst F dX11_load_130 rfl ?_
        refine z_iadd F dX11_load_131 rfl ?_
        refine z_iald F (tk_9_0 kx5) dX11_load_132 rfl hw (fun hw => ?_)
        refine z_cVi (As := [.int (i3 (M (rt x5 0) (ix (x3 + (2 * x7))))), .int (i3 (M (rt x5 0) (ix ((x3 + (2 * x7)) + 1))))]) (st := []) F (c_X11_due l g k0 hw) cv_X11_due w_985 ⟨rfl, rfl, Nat.le_of_ble_eq_true rfl, Nat.le_of_ble_eq_true rfl⟩ k0 rfl rfl (Nat.le_of_ble_eq_true rfl) dX11_load_133 rfl (fun r133 M133 hw => ?_)
        refine z_if_lt F dX11_load_136 rfl rfl hw (fun hw => ?_) (fun hw => ?_)
        · refine z_sub [0, 1, 2, 3, 4, 5] rfl ?_
          exact bk_X11_load_142 F hr k0 kx5 hK72 hw
        · refine z_iinc F dX11_load_139 rfl 4 rfl (by decide) rfl ?_
          refine z_sub [1, 2, 3, 4, 0, 5] rfl ?_
          exact bk_X11_load_142 F hr k0 kx5 hK72 hw
      · refine z_bipush F dX11_load_103 (by decide) rfl ?_
        exact z_iret (x := (-12)) F hr dX11_load_105 hw
set_option maxRecDepth 100000 in
set_option maxHeartbeats 4000000 in
theorem lp_X11_load_72 {g : En} {p : Program} {l : Launch} {e : Env} {s : State} {m : MethodId} {args : Array Value} {below : List Frame} {meth : Method} {c : Code} {M : Mem} {a0 : Nat} {Q : Int → Mem → Prop} {x3 : Int} {x4 : Int} {x5 : Nat} {x6 : Int} {x7 : Int} (F : Fx g p s m args meth c cX11_load 8 RX11) (hr : meth.sig.returnType = (some .int)) (k0 : kd a0 = 11) (kx5 : kd x5 = 9)
    (hw : wp_X11_load_L72 a0 Q M x3 x4 x5 x6 x7) : Z g p l e rm_X11_load s m args below meth c 8 (MQ below (va_Qi (S := Int × Mem) (fun r u => r = i3 u.1 ∧ Q u.1 u.2) (fun u => Rp g u.2) (aR g)) args s 0 0 (aR g)) M 72 [(0, .ref (g.2.2.1 + a0)), (3, .int (i3 x3)), (4, .int (i3 x4)), (5, .ref (g.2.2.1 + x5)), (6, .int (i3 x6)), (7, .int (i3 x7))] [] := by
  obtain ⟨I, μ, h0, hb⟩ := hw
  have key : ∀ (n : Nat) (M : Mem) (x6 : Int) (x7 : Int), I M x6 x7 → μ M x6 x7 < n → Z g p l e rm_X11_load s m args below meth c 8 (MQ below (va_Qi (S := Int × Mem) (fun r u => r = i3 u.1 ∧ Q u.1 u.2) (fun u => Rp g u.2) (aR g)) args s 0 0 (aR g)) M 72 [(0, .ref (g.2.2.1 + a0)), (3, .int (i3 x3)), (4, .int (i3 x4)), (5, .ref (g.2.2.1 + x5)), (6, .int (i3 x6)), (7, .int (i3 x7))] [] := by
    intro n
    induction n with
    | zero => exact fun _ _ _ _ h => absurd h (Nat.not_lt_zero _)
    | succ n ih =>
      intro M x6 x7 hI hn
      exact bk_X11_load_B72 F hr k0 kx5 (fun M' x6' x7' hk => ih M' x6' x7' hk.1 (Nat.lt_of_lt_of_le hk.2 (Nat.le_of_lt_succ hn))) (hb M x6 x7 hI)
  exact key _ M x6 x7 h0 (Nat.lt_succ_self _)
set_option maxRecDepth 100000 in
set_option maxHeartbeats 4000000 in
theorem bk_X11_load_55 {g : En} {p : Program} {l : Launch} {e : Env} {s : State} {m : MethodId} {args : Array Value} {below : List Frame} {meth : Method} {c : Code} {M : Mem} {a0 : Nat} {Q : Int → Mem → Prop} {x3 : Int} {x4 : Int} {x5 : Nat} (F : Fx g p s m args meth c cX11_load 8 RX11) (hr : meth.sig.returnType = (some .int)) (k0 : kd a0 = 11) (kx5 : kd x5 = 9)
    (hw : wp_X11_load_b55 a0 Q M x3 x4 x5) : Z g p l e rm_X11_load s m args below meth c 8 (MQ below (va_Qi (S := Int × Mem) (fun r u => r = i3 u.1 ∧ Q u.1 u.2) (fun u => Rp g u.2) (aR g)) args s 0 0 (aR g)) M 55 [(0, .ref (g.2.2.1 + a0)), (3, .int (i3 x3)), (4, .int (i3 x4)), (5, .ref (g.2.2.1 + x5))] [] := by
  refine z_aload F dX11_load_55 rfl 3 rfl ?_
  refine z_cVbp (As := []) (st := []) F (c_X9_isMissing l g kx5 hw) cv_X9_isMissing w_862 ⟨rfl, rfl, Nat.le_of_ble_eq_true rfl, Nat.le_of_ble_eq_true rfl⟩ kx5 rfl rfl (Nat.le_of_ble_eq_true rfl) dX11_load_57 rfl (fun r57 hw => ?_)
  refine z_ifb_eq F dX11_load_60 rfl rfl hw (fun hw => ?_) (fun hw => ?_)
  · refine z_iconst F dX11_load_66 rfl ?_
    refine z_istore F dX11_load_67 rfl (by decide) rfl ?_
    refine z_iconst F dX11_load_69 rfl ?_
    refine z_istore F dX11_load_70 rfl (by decide) rfl ?_
    refine z_sub [2, 3, 4, 5, 1, 0] rfl ?_
    exact lp_X11_load_72 F hr k0 kx5 hw
  · refine z_bipush F dX11_load_63 (by decide) rfl ?_
    exact z_iret (x := (-11)) F hr dX11_load_65 hw
set_option maxRecDepth 100000 in
set_option maxHeartbeats 4000000 in
theorem c_X11_load (l : Launch) (g : En) {a0 : Nat} {a1 : Int} {a2 : Int} {a3 : Int} {a4 : Int} {M : Mem} {Q : Int → Mem → Prop} (k0 : kd a0 = 11) (hw : wp_X11_load a0 a1 a2 a3 a4 M Q) :
    Met l yX11_load (WS yX11_load cX11_load 8 (some .int)) rm_X11_load (va_Pc [.ref (g.2.2.1 + a0), .int (i3 a1), .int (i3 a2), .int (i3 a3), .int (i3 a4)] (Rp g M)) (va_Qi (S := Int × Mem) (fun r u => r = i3 u.1 ∧ Q u.1 u.2) (fun u => Rp g u.2) (aR g)) 0 0 (aR g) := by
  refine met_Z (plainFor_of_name rfl) (Nat.le_of_ble_eq_true rfl) ?_
  intro p e s m args below meth c F hr _
  show Z g p l e rm_X11_load s m args below meth c 8 (MQ below (va_Qi (S := Int × Mem) (fun r u => r = i3 u.1 ∧ Q u.1 u.2) (fun u => Rp g u.2) (aR g)) args s 0 0 (aR g)) M 0 [(0, .ref (g.2.2.1 + a0)), (1, .int (i3 a1)), (2, .int (i3 a2)), (3, .int (i3 a3)), (4, .int (i3 a4))] []
  refine z_iload_n F dX11_load_0 rfl rfl 1 rfl ?_
  refine z_cSbp (As := [.int (i3 a1)]) (st := []) F (c_X11_isSheet l g hw) cs_X11_isSheet w_856 ⟨rfl, rfl, Nat.le_of_ble_eq_true rfl, Nat.le_of_ble_eq_true rfl⟩ rfl (Nat.le_of_ble_eq_true rfl) dX11_load_1 rfl (fun r1 hw => ?_)
  refine z_ifb_eq F dX11_load_4 rfl rfl hw (fun hw => ?_) (fun hw => ?_)
  · refine z_bipush F dX11_load_24 (by decide) rfl ?_
    exact z_iret (x := (-2)) F hr dX11_load_26 hw
  · refine z_iload_n F dX11_load_7 rfl rfl 2 rfl ?_
    refine z_cSbp (As := [.int (i3 a2)]) (st := []) F (c_X11_isSort l g hw) cs_X11_isSort w_957 ⟨rfl, rfl, Nat.le_of_ble_eq_true rfl, Nat.le_of_ble_eq_true rfl⟩ rfl (Nat.le_of_ble_eq_true rfl) dX11_load_8 rfl (fun r8 hw => ?_)
    refine z_ifb_eq F dX11_load_11 rfl rfl hw (fun hw => ?_) (fun hw => ?_)
    · refine z_bipush F dX11_load_24 (by decide) rfl ?_
      exact z_iret (x := (-2)) F hr dX11_load_26 hw
    · refine z_iload F dX11_load_14 rfl 4 rfl ?_
      refine z_iconst F dX11_load_16 rfl ?_
      refine z_iconst F dX11_load_17 rfl ?_
      refine z_cSbp (As := [.int (i3 a4), .int (i3 0), .int (i3 5)]) (st := []) F (c_X11_within l g hw) cs_X11_within w_507 ⟨rfl, rfl, Nat.le_of_ble_eq_true rfl, Nat.le_of_ble_eq_true rfl⟩ rfl (Nat.le_of_ble_eq_true rfl) dX11_load_18 rfl (fun r18 hw => ?_)
      refine z_ifb_ne F dX11_load_21 rfl rfl hw (fun hw => ?_) (fun hw => ?_)
      · refine z_aload_n F dX11_load_27 rfl rfl 0 rfl ?_
        refine z_getR F fl_462 k0 dX11_load_28 rfl ?_
        refine z_iload_n F dX11_load_31 rfl rfl 1 rfl ?_
        have n32 := hw.1
        refine z_aald F 3 (tk_11_17 k0) rfl rfl dX11_load_32 rfl hw (fun hw => ?_)
        refine z_astore F dX11_load_33 rfl (by decide) rfl ?_
        refine z_aload F dX11_load_35 rfl 0 rfl ?_
        refine z_cVbp (As := []) (st := []) F (c_X9_isMissing l g (tka_18 (tk_11_17 k0) n32) hw) cv_X9_isMissing w_862 ⟨rfl, rfl, Nat.le_of_ble_eq_true rfl, Nat.le_of_ble_eq_true rfl⟩ (tka_18 (tk_11_17 k0) n32) rfl rfl (Nat.le_of_ble_eq_true rfl) dX11_load_37 rfl (fun r37 hw => ?_)
        refine z_ifb_ne F dX11_load_40 rfl rfl hw (fun hw => ?_) (fun hw => ?_)
        · refine z_sub [1, 4, 5, 0] rfl ?_
          exact bk_X11_load_55 F hr k0 (tka_18 (tk_11_17 k0) n32) hw
        · refine z_aload F dX11_load_43 rfl 0 rfl ?_
          refine z_getI F fl_434 (tka_18 (tk_11_17 k0) n32) dX11_load_45 rfl ?_
          refine z_iload_n F dX11_load_48 rfl rfl 3 rfl ?_
          refine z_icmp_eq F dX11_load_49 rfl rfl hw (fun hw => ?_) (fun hw => ?_)
          · refine z_sub [1, 4, 5, 0] rfl ?_
            exact bk_X11_load_55 F hr k0 (tka_18 (tk_11_17 k0) n32) hw
          · refine z_bipush F dX11_load_52 (by decide) rfl ?_
            exact z_iret (x := (-13)) F hr dX11_load_54 hw
      · refine z_bipush F dX11_load_24 (by decide) rfl ?_
        exact z_iret (x := (-2)) F hr dX11_load_26 hw
theorem cv_X11_load : CV yX11_load RX11 cX11_load 8 (some .int) 4 := ⟨w_982, w_983, w_67, w_984, rfl, by decide +kernel, by decide +kernel, by decide +kernel⟩
abbrev rm_X12_within : Room := { frames := 0, cells := 0, slots := 0, locals := 0 }
def wp_X12_within (a0 : Int) (a1 : Int) (a2 : Int) (M : Mem) (Q : Bool → Prop) : Prop :=
  (((w32 a0 < w32 a1) → (
    Q false)) ∧
  (¬ (w32 a0 < w32 a1) → (
    (((w32 a2 < w32 a0) → (
      Q false)) ∧
    (¬ (w32 a2 < w32 a0) → (
      Q true))))))
set_option maxRecDepth 100000 in
set_option maxHeartbeats 4000000 in
theorem c_X12_within (l : Launch) (g : En) {a0 : Int} {a1 : Int} {a2 : Int} {M : Mem} {Q : Bool → Prop} (hw : wp_X12_within a0 a1 a2 M Q) :
    Met l yX12_within (WS yX12_within cX12_within 3 (some .boolean)) rm_X12_within (va_Pc [.int (i3 a0), .int (i3 a1), .int (i3 a2)] (Rp g M)) (va_Qi (S := Bool × Mem) (fun r u => r = i3 (bz u.1) ∧ (u.2 = M ∧ Q u.1)) (fun u => Rp g u.2) (aR g)) 0 0 (aR g) := by
  refine met_Z (plainFor_of_name rfl) (Nat.le_of_ble_eq_true rfl) ?_
  intro p e s m args below meth c F hr _
  show Z g p l e rm_X12_within s m args below meth c 3 (MQ below (va_Qi (S := Bool × Mem) (fun r u => r = i3 (bz u.1) ∧ (u.2 = M ∧ Q u.1)) (fun u => Rp g u.2) (aR g)) args s 0 0 (aR g)) M 0 [(0, .int (i3 a0)), (1, .int (i3 a1)), (2, .int (i3 a2))] []
  refine z_iload_n F dX12_within_0 rfl rfl 0 rfl ?_
  refine z_iload_n F dX12_within_1 rfl rfl 1 rfl ?_
  refine z_icmp_lt F dX12_within_2 rfl rfl hw (fun hw => ?_) (fun hw => ?_)
  · refine z_iconst F dX12_within_14 rfl ?_
    exact z_zretp (x := false) F hr dX12_within_15 hw
  · refine z_iload_n F dX12_within_5 rfl rfl 0 rfl ?_
    refine z_iload_n F dX12_within_6 rfl rfl 2 rfl ?_
    refine z_icmp_gt F dX12_within_7 rfl rfl hw (fun hw => ?_) (fun hw => ?_)
    · refine z_iconst F dX12_within_14 rfl ?_
      exact z_zretp (x := false) F hr dX12_within_15 hw
    · refine z_iconst F dX12_within_10 rfl ?_
      refine z_goto F dX12_within_11 rfl ?_
      exact z_zretp (x := true) F hr dX12_within_15 hw
theorem cs_X12_within : CS yX12_within cX12_within 3 (some .boolean) 3 := ⟨w_1103, w_80, w_1104, by decide +kernel, by decide +kernel, by decide +kernel⟩
abbrev rm_X12_isDay : Room := { frames := 1, cells := 0, slots := 0, locals := 22 }
def wp_X12_isDay (a0 : Int) (M : Mem) (Q : Bool → Prop) : Prop :=
  wp_X12_within a0 1 60 M (fun r4 =>
  Q r4)
set_option maxRecDepth 100000 in
set_option maxHeartbeats 4000000 in
theorem c_X12_isDay (l : Launch) (g : En) {a0 : Int} {M : Mem} {Q : Bool → Prop} (hw : wp_X12_isDay a0 M Q) :
    Met l yX12_isDay (WS yX12_isDay cX12_isDay 1 (some .boolean)) rm_X12_isDay (va_Pc [.int (i3 a0)] (Rp g M)) (va_Qi (S := Bool × Mem) (fun r u => r = i3 (bz u.1) ∧ (u.2 = M ∧ Q u.1)) (fun u => Rp g u.2) (aR g)) 0 0 (aR g) := by
  refine met_Z (plainFor_of_name rfl) (Nat.le_of_ble_eq_true rfl) ?_
  intro p e s m args below meth c F hr _
  show Z g p l e rm_X12_isDay s m args below meth c 1 (MQ below (va_Qi (S := Bool × Mem) (fun r u => r = i3 (bz u.1) ∧ (u.2 = M ∧ Q u.1)) (fun u => Rp g u.2) (aR g)) args s 0 0 (aR g)) M 0 [(0, .int (i3 a0))] []
  refine z_iload_n F dX12_isDay_0 rfl rfl 0 rfl ?_
  refine z_iconst F dX12_isDay_1 rfl ?_
  refine z_bipush F dX12_isDay_2 (by decide) rfl ?_
  refine z_cSbp (As := [.int (i3 a0), .int (i3 1), .int (i3 60)]) (st := []) F (c_X12_within l g hw) cs_X12_within w_1102 ⟨rfl, rfl, Nat.le_of_ble_eq_true rfl, Nat.le_of_ble_eq_true rfl⟩ rfl (Nat.le_of_ble_eq_true rfl) dX12_isDay_4 rfl (fun r4 hw => ?_)
  exact z_zretp (x := r4) F hr dX12_isDay_7 hw
theorem cs_X12_isDay : CS yX12_isDay cX12_isDay 1 (some .boolean) 1 := ⟨w_1100, w_80, w_1101, by decide +kernel, by decide +kernel, by decide +kernel⟩
abbrev rm_X12_isRung : Room := { frames := 1, cells := 0, slots := 0, locals := 22 }
def wp_X12_isRung (a0 : Nat) (a1 : Int) (M : Mem) (Q : Bool → Prop) : Prop :=
  wp_X12_within a1 0 ((M a0 5) - 1) M (fun r8 =>
  Q r8)
set_option maxRecDepth 100000 in
set_option maxHeartbeats 4000000 in
theorem c_X12_isRung (l : Launch) (g : En) {a0 : Nat} {a1 : Int} {M : Mem} {Q : Bool → Prop} (k0 : kd a0 = 12) (hw : wp_X12_isRung a0 a1 M Q) :
    Met l yX12_isRung (WS yX12_isRung cX12_isRung 2 (some .boolean)) rm_X12_isRung (va_Pc [.ref (g.2.2.1 + a0), .int (i3 a1)] (Rp g M)) (va_Qi (S := Bool × Mem) (fun r u => r = i3 (bz u.1) ∧ (u.2 = M ∧ Q u.1)) (fun u => Rp g u.2) (aR g)) 0 0 (aR g) := by
  refine met_Z (plainFor_of_name rfl) (Nat.le_of_ble_eq_true rfl) ?_
  intro p e s m args below meth c F hr _
  show Z g p l e rm_X12_isRung s m args below meth c 2 (MQ below (va_Qi (S := Bool × Mem) (fun r u => r = i3 (bz u.1) ∧ (u.2 = M ∧ Q u.1)) (fun u => Rp g u.2) (aR g)) args s 0 0 (aR g)) M 0 [(0, .ref (g.2.2.1 + a0)), (1, .int (i3 a1))] []
  refine z_iload_n F dX12_isRung_0 rfl rfl 1 rfl ?_
  refine z_iconst F dX12_isRung_1 rfl ?_
  refine z_aload_n F dX12_isRung_2 rfl rfl 0 rfl ?_
  refine z_getI F fl_997 k0 dX12_isRung_3 rfl ?_
  refine z_iconst F dX12_isRung_6 rfl ?_
  refine z_isub F dX12_isRung_7 rfl ?_
  refine z_cSbp (As := [.int (i3 a1), .int (i3 0), .int (i3 ((M a0 5) - 1))]) (st := []) F (c_X12_within l g hw) cs_X12_within w_1102 ⟨rfl, rfl, Nat.le_of_ble_eq_true rfl, Nat.le_of_ble_eq_true rfl⟩ rfl (Nat.le_of_ble_eq_true rfl) dX12_isRung_8 rfl (fun r8 hw => ?_)
  exact z_zretp (x := r8) F hr dX12_isRung_11 hw
theorem cv_X12_isRung : CV yX12_isRung RX12 cX12_isRung 2 (some .boolean) 1 := ⟨w_1129, w_23, w_80, w_1130, rfl, by decide +kernel, by decide +kernel, by decide +kernel⟩
abbrev rm_X12_isBond : Room := { frames := 1, cells := 0, slots := 0, locals := 22 }
def wp_X12_isBond (a0 : Nat) (a1 : Int) (M : Mem) (Q : Bool → Prop) : Prop :=
  wp_X12_within a1 0 ((M a0 3) - 1) M (fun r8 =>
  Q r8)
set_option maxRecDepth 100000 in
set_option maxHeartbeats 4000000 in
theorem c_X12_isBond (l : Launch) (g : En) {a0 : Nat} {a1 : Int} {M : Mem} {Q : Bool → Prop} (k0 : kd a0 = 12) (hw : wp_X12_isBond a0 a1 M Q) :
    Met l yX12_isBond (WS yX12_isBond cX12_isBond 2 (some .boolean)) rm_X12_isBond (va_Pc [.ref (g.2.2.1 + a0), .int (i3 a1)] (Rp g M)) (va_Qi (S := Bool × Mem) (fun r u => r = i3 (bz u.1) ∧ (u.2 = M ∧ Q u.1)) (fun u => Rp g u.2) (aR g)) 0 0 (aR g) := by
  refine met_Z (plainFor_of_name rfl) (Nat.le_of_ble_eq_true rfl) ?_
  intro p e s m args below meth c F hr _
  show Z g p l e rm_X12_isBond s m args below meth c 2 (MQ below (va_Qi (S := Bool × Mem) (fun r u => r = i3 (bz u.1) ∧ (u.2 = M ∧ Q u.1)) (fun u => Rp g u.2) (aR g)) args s 0 0 (aR g)) M 0 [(0, .ref (g.2.2.1 + a0)), (1, .int (i3 a1))] []
  refine z_iload_n F dX12_isBond_0 rfl rfl 1 rfl ?_
  refine z_iconst F dX12_isBond_1 rfl ?_
  refine z_aload_n F dX12_isBond_2 rfl rfl 0 rfl ?_
  refine z_getI F fl_995 k0 dX12_isBond_3 rfl ?_
  refine z_iconst F dX12_isBond_6 rfl ?_
  refine z_isub F dX12_isBond_7 rfl ?_
  refine z_cSbp (As := [.int (i3 a1), .int (i3 0), .int (i3 ((M a0 3) - 1))]) (st := []) F (c_X12_within l g hw) cs_X12_within w_1102 ⟨rfl, rfl, Nat.le_of_ble_eq_true rfl, Nat.le_of_ble_eq_true rfl⟩ rfl (Nat.le_of_ble_eq_true rfl) dX12_isBond_8 rfl (fun r8 hw => ?_)
  exact z_zretp (x := r8) F hr dX12_isBond_11 hw
theorem cv_X12_isBond : CV yX12_isBond RX12 cX12_isBond 2 (some .boolean) 1 := ⟨w_1153, w_26, w_80, w_1154, rfl, by decide +kernel, by decide +kernel, by decide +kernel⟩
