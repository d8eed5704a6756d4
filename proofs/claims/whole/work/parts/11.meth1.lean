abbrev rm_X0_begin : Room := { frames := 0, cells := 0, slots := 0, locals := 0 }
def wp_X0_begin (a0 : Nat) (a1 : Int) (a2 : Int) (a3 : Int) (a4 : Int) (a5 : Int) (a6 : Int) (M : Mem) (Q : Mem → Prop) : Prop :=
  ∀ M2 : Mem, M2 = st2 M a0 0 a1 →
  ∀ M7 : Mem, M7 = st2 M2 a0 1 a2 →
  ∀ M12 : Mem, M12 = st2 M7 a0 2 a3 →
  ∀ M18 : Mem, M18 = st2 M12 a0 3 a4 →
  ∀ M24 : Mem, M24 = st2 M18 a0 4 a5 →
  ∀ M30 : Mem, M30 = st2 M24 a0 5 a6 →
  ∀ M35 : Mem, M35 = st2 M30 a0 6 0 →
  Q M35
set_option maxRecDepth 100000 in
set_option maxHeartbeats 4000000 in
theorem c_X0_begin (l : Launch) (g : En) {a0 : Nat} {a1 : Int} {a2 : Int} {a3 : Int} {a4 : Int} {a5 : Int} {a6 : Int} {M : Mem} {Q : Mem → Prop} (k0 : kd a0 = 0) (hw : wp_X0_begin a0 a1 a2 a3 a4 a5 a6 M Q) :
    Met l yX0_begin (WS yX0_begin cX0_begin 7 none) rm_X0_begin (va_Pc [.ref (g.2.2.1 + a0), .int (i3 a1), .int (i3 a2), .int (i3 a3), .int (i3 a4), .int (i3 a5), .int (i3 a6)] (Rp g M)) (va_Qv (S := Mem) Q (fun u => Rp g u) (aR g)) 0 0 (aR g) := by
  refine met_Z (plainFor_of_name rfl) (Nat.le_of_ble_eq_true rfl) ?_
  intro p e s m args below meth c F hr _
  show Z g p l e rm_X0_begin s m args below meth c 7 (MQ below (va_Qv (S := Mem) Q (fun u => Rp g u) (aR g)) args s 0 0 (aR g)) M 0 [(0, .ref (g.2.2.1 + a0)), (1, .int (i3 a1)), (2, .int (i3 a2)), (3, .int (i3 a3)), (4, .int (i3 a4)), (5, .int (i3 a5)), (6, .int (i3 a6))] []
  refine z_aload_n F dX0_begin_0 rfl rfl 0 rfl ?_
  refine z_iload_n F dX0_begin_1 rfl rfl 1 rfl ?_
  refine z_putI F fp_126 k0 dX0_begin_2 rfl ?_
  refine z_nmM (fun M2 eM2 => ?_)
  have hw := hw M2 eM2
  refine z_aload_n F dX0_begin_5 rfl rfl 0 rfl ?_
  refine z_iload_n F dX0_begin_6 rfl rfl 2 rfl ?_
  refine z_putI F fp_127 k0 dX0_begin_7 rfl ?_
  refine z_nmM (fun M7 eM7 => ?_)
  have hw := hw M7 eM7
  refine z_aload_n F dX0_begin_10 rfl rfl 0 rfl ?_
  refine z_iload_n F dX0_begin_11 rfl rfl 3 rfl ?_
  refine z_putI F fp_131 k0 dX0_begin_12 rfl ?_
  refine z_nmM (fun M12 eM12 => ?_)
  have hw := hw M12 eM12
  refine z_aload_n F dX0_begin_15 rfl rfl 0 rfl ?_
  refine z_iload F dX0_begin_16 rfl 4 rfl ?_
  refine z_putI F fp_133 k0 dX0_begin_18 rfl ?_
  refine z_nmM (fun M18 eM18 => ?_)
  have hw := hw M18 eM18
  refine z_aload_n F dX0_begin_21 rfl rfl 0 rfl ?_
  refine z_iload F dX0_begin_22 rfl 5 rfl ?_
  refine z_putI F fp_134 k0 dX0_begin_24 rfl ?_
  refine z_nmM (fun M24 eM24 => ?_)
  have hw := hw M24 eM24
  refine z_aload_n F dX0_begin_27 rfl rfl 0 rfl ?_
  refine z_iload F dX0_begin_28 rfl 6 rfl ?_
  refine z_putI F fp_136 k0 dX0_begin_30 rfl ?_
  refine z_nmM (fun M30 eM30 => ?_)
  have hw := hw M30 eM30
  refine z_aload_n F dX0_begin_33 rfl rfl 0 rfl ?_
  refine z_iconst F dX0_begin_34 rfl ?_
  refine z_putI F fp_137 k0 dX0_begin_35 rfl ?_
  refine z_nmM (fun M35 eM35 => ?_)
  have hw := hw M35 eM35
  exact z_vret F hr dX0_begin_38 hw
theorem cv_X0_begin : CV yX0_begin RX0 cX0_begin 7 none 6 := ⟨w_580, w_581, w_71, w_582, rfl, by decide +kernel, by decide +kernel, by decide +kernel⟩
abbrev rm_X0_become : Room := { frames := 1, cells := 0, slots := 0, locals := 26 }
def wp_X0_become (a0 : Nat) (a1 : Nat) (M : Mem) (Q : Mem → Prop) : Prop :=
  wp_X0_begin a0 (M a1 0) (M a1 1) (M a1 2) (M a1 3) (M a1 4) (M a1 5) M (fun M25 =>
  ∀ M33 : Mem, M33 = st2 M25 a0 6 (M25 a1 6) →
  Q M33)
set_option maxRecDepth 100000 in
set_option maxHeartbeats 4000000 in
theorem c_X0_become (l : Launch) (g : En) {a0 : Nat} {a1 : Nat} {M : Mem} {Q : Mem → Prop} (k0 : kd a0 = 0) (k1 : kd a1 = 0) (hw : wp_X0_become a0 a1 M Q) :
    Met l yX0_become (WS yX0_become cX0_become 2 none) rm_X0_become (va_Pc [.ref (g.2.2.1 + a0), .ref (g.2.2.1 + a1)] (Rp g M)) (va_Qv (S := Mem) Q (fun u => Rp g u) (aR g)) 0 0 (aR g) := by
  refine met_Z (plainFor_of_name rfl) (Nat.le_of_ble_eq_true rfl) ?_
  intro p e s m args below meth c F hr _
  show Z g p l e rm_X0_become s m args below meth c 2 (MQ below (va_Qv (S := Mem) Q (fun u => Rp g u) (aR g)) args s 0 0 (aR g)) M 0 [(0, .ref (g.2.2.1 + a0)), (1, .ref (g.2.2.1 + a1))] []
  refine z_aload_n F dX0_become_0 rfl rfl 0 rfl ?_
  refine z_aload_n F dX0_become_1 rfl rfl 1 rfl ?_
  refine z_getI F fl_126 k1 dX0_become_2 rfl ?_
  refine z_aload_n F dX0_become_5 rfl rfl 1 rfl ?_
  refine z_getI F fl_127 k1 dX0_become_6 rfl ?_
  refine z_aload_n F dX0_become_9 rfl rfl 1 rfl ?_
  refine z_getI F fl_131 k1 dX0_become_10 rfl ?_
  refine z_aload_n F dX0_become_13 rfl rfl 1 rfl ?_
  refine z_getI F fl_133 k1 dX0_become_14 rfl ?_
  refine z_aload_n F dX0_become_17 rfl rfl 1 rfl ?_
  refine z_getI F fl_134 k1 dX0_become_18 rfl ?_
  refine z_aload_n F dX0_become_21 rfl rfl 1 rfl ?_
  refine z_getI F fl_136 k1 dX0_become_22 rfl ?_
  refine z_cVv (As := [.int (i3 (M a1 0)), .int (i3 (M a1 1)), .int (i3 (M a1 2)), .int (i3 (M a1 3)), .int (i3 (M a1 4)), .int (i3 (M a1 5))]) (st := []) F (c_X0_begin l g k0 hw) cv_X0_begin w_939 ⟨rfl, rfl, Nat.le_of_ble_eq_true rfl, Nat.le_of_ble_eq_true rfl⟩ k0 rfl rfl (Nat.le_of_ble_eq_true rfl) dX0_become_25 rfl (fun M25 hw => ?_)
  refine z_aload_n F dX0_become_28 rfl rfl 0 rfl ?_
  refine z_aload_n F dX0_become_29 rfl rfl 1 rfl ?_
  refine z_getI F fl_137 k1 dX0_become_30 rfl ?_
  refine z_putI F fp_137 k0 dX0_become_33 rfl ?_
  refine z_nmM (fun M33 eM33 => ?_)
  have hw := hw M33 eM33
  exact z_vret F hr dX0_become_36 hw
theorem cv_X0_become : CV yX0_become RX0 cX0_become 2 none 1 := ⟨w_936, w_937, w_71, w_938, rfl, by decide +kernel, by decide +kernel, by decide +kernel⟩
abbrev rm_X0_term : Room := { frames := 0, cells := 0, slots := 0, locals := 0 }
def wp_X0_term (a0 : Nat) (a1 : Int) (M : Mem) (Q : Int → Prop) : Prop :=
  ((w32 a1 = 0 → (
    Q (M a0 0))) ∧
  (w32 a1 = 1 → (
    Q (M a0 1))) ∧
  (w32 a1 = 2 → (
    Q (M a0 2))) ∧
  (w32 a1 = 3 → (
    Q (M a0 3))) ∧
  (w32 a1 = 4 → (
    Q (M a0 4))) ∧
  (w32 a1 = 5 → (
    Q (M a0 5))) ∧
  ((w32 a1 < 0 ∨ 5 < w32 a1) → (
    Q (M a0 6))))
set_option maxRecDepth 100000 in
set_option maxHeartbeats 4000000 in
theorem c_X0_term (l : Launch) (g : En) {a0 : Nat} {a1 : Int} {M : Mem} {Q : Int → Prop} (k0 : kd a0 = 0) (hw : wp_X0_term a0 a1 M Q) :
    Met l yX0_term (WS yX0_term cX0_term 2 (some .int)) rm_X0_term (va_Pc [.ref (g.2.2.1 + a0), .int (i3 a1)] (Rp g M)) (va_Qi (S := Int × Mem) (fun r u => r = i3 u.1 ∧ (u.2 = M ∧ Q u.1)) (fun u => Rp g u.2) (aR g)) 0 0 (aR g) := by
  refine met_Z (plainFor_of_name rfl) (Nat.le_of_ble_eq_true rfl) ?_
  intro p e s m args below meth c F hr _
  show Z g p l e rm_X0_term s m args below meth c 2 (MQ below (va_Qi (S := Int × Mem) (fun r u => r = i3 u.1 ∧ (u.2 = M ∧ Q u.1)) (fun u => Rp g u.2) (aR g)) args s 0 0 (aR g)) M 0 [(0, .ref (g.2.2.1 + a0)), (1, .int (i3 a1))] []
  refine z_iload_n F dX0_term_0 rfl rfl 1 rfl ?_
  by_cases e1_0 : w32 a1 = 0
  · refine z_swcase F 0 dX0_term_1 e1_0 (by decide) (by decide) rfl rfl ?_
    have hw := hw.1 e1_0
    refine z_aload_n F dX0_term_40 rfl rfl 0 rfl ?_
    refine z_getI F fl_126 k0 dX0_term_41 rfl ?_
    exact z_iretp (x := (M a0 0)) F hr dX0_term_44 hw
  · skip
    by_cases e1_1 : w32 a1 = 1
    · refine z_swcase F 1 dX0_term_1 e1_1 (by decide) (by decide) rfl rfl ?_
      have hw := hw.2.1 e1_1
      refine z_aload_n F dX0_term_45 rfl rfl 0 rfl ?_
      refine z_getI F fl_127 k0 dX0_term_46 rfl ?_
      exact z_iretp (x := (M a0 1)) F hr dX0_term_49 hw
    · skip
      by_cases e1_2 : w32 a1 = 2
      · refine z_swcase F 2 dX0_term_1 e1_2 (by decide) (by decide) rfl rfl ?_
        have hw := hw.2.2.1 e1_2
        refine z_aload_n F dX0_term_50 rfl rfl 0 rfl ?_
        refine z_getI F fl_131 k0 dX0_term_51 rfl ?_
        exact z_iretp (x := (M a0 2)) F hr dX0_term_54 hw
      · skip
        by_cases e1_3 : w32 a1 = 3
        · refine z_swcase F 3 dX0_term_1 e1_3 (by decide) (by decide) rfl rfl ?_
          have hw := hw.2.2.2.1 e1_3
          refine z_aload_n F dX0_term_55 rfl rfl 0 rfl ?_
          refine z_getI F fl_133 k0 dX0_term_56 rfl ?_
          exact z_iretp (x := (M a0 3)) F hr dX0_term_59 hw
        · skip
          by_cases e1_4 : w32 a1 = 4
          · refine z_swcase F 4 dX0_term_1 e1_4 (by decide) (by decide) rfl rfl ?_
            have hw := hw.2.2.2.2.1 e1_4
            refine z_aload_n F dX0_term_60 rfl rfl 0 rfl ?_
            refine z_getI F fl_134 k0 dX0_term_61 rfl ?_
            exact z_iretp (x := (M a0 4)) F hr dX0_term_64 hw
          · skip
            by_cases e1_5 : w32 a1 = 5
            · refine z_swcase F 5 dX0_term_1 e1_5 (by decide) (by decide) rfl rfl ?_
              have hw := hw.2.2.2.2.2.1 e1_5
              refine z_aload_n F dX0_term_65 rfl rfl 0 rfl ?_
              refine z_getI F fl_136 k0 dX0_term_66 rfl ?_
              exact z_iretp (x := (M a0 5)) F hr dX0_term_69 hw
            · skip
              have h9 : w32 a1 < 0 ∨ 5 < w32 a1 := by omega
              refine z_swout F dX0_term_1 h9 rfl ?_
              have hw := hw.2.2.2.2.2.2 h9
              refine z_aload_n F dX0_term_70 rfl rfl 0 rfl ?_
              refine z_getI F fl_137 k0 dX0_term_71 rfl ?_
              exact z_iretp (x := (M a0 6)) F hr dX0_term_74 hw
theorem cv_X0_term : CV yX0_term RX0 cX0_term 2 (some .int) 1 := ⟨w_596, w_597, w_71, w_598, rfl, by decide +kernel, by decide +kernel, by decide +kernel⟩
abbrev rm_X0_isOfKind : Room := { frames := 0, cells := 0, slots := 0, locals := 0 }
def wp_X0_isOfKind_B7 (a0 : Nat) (Q : Bool → Prop) (K7 : Int → Int → Prop) (M : Mem) (x1 : Int) (x2 : Int) (x3 : Int) : Prop :=
  (((w32 6 ≤ w32 x3) → (
    Q false)) ∧
  (¬ (w32 6 ≤ w32 x3) → (
    (((w32 x2 = w32 (-1)) → (
      Q false)) ∧
    (¬ (w32 x2 = w32 (-1)) → (
      (((¬ w32 x2 = w32 x1) → (
        (0 ≤ w32 x2 ∧ w32 x2 < 6) ∧ (
        K7 (und (ix x2)) (x3 + 1)))) ∧
      (¬ (¬ w32 x2 = w32 x1) → (
        Q true)))))))))
def wp_X0_isOfKind_L7 (a0 : Nat) (Q : Bool → Prop) (M : Mem) (x1 : Int) (x2 : Int) (x3 : Int) : Prop :=
  ∃ (I : Int → Int → Prop) (μ : Int → Int → Nat), I x2 x3 ∧ ∀ (x2 : Int) (x3 : Int), I x2 x3 →
    wp_X0_isOfKind_B7 a0 Q (fun x2' x3' => I x2' x3' ∧ μ x2' x3' < μ x2 x3) M x1 x2 x3
def wp_X0_isOfKind (a0 : Nat) (a1 : Int) (M : Mem) (Q : Bool → Prop) : Prop :=
  wp_X0_isOfKind_L7 a0 Q M a1 (M a0 0) 0
set_option maxRecDepth 100000 in
set_option maxHeartbeats 4000000 in
theorem bk_X0_isOfKind_B7 {g : En} {p : Program} {l : Launch} {e : Env} {s : State} {m : MethodId} {args : Array Value} {below : List Frame} {meth : Method} {c : Code} {M : Mem} {a0 : Nat} {Q : Bool → Prop} {K7 : Int → Int → Prop} {x1 : Int} {x2 : Int} {x3 : Int} (F : Fx g p s m args meth c cX0_isOfKind 4 RX0) (hr : meth.sig.returnType = (some .boolean)) (k0 : kd a0 = 0)
    (hK7 : ∀ (x2' : Int) (x3' : Int), K7 x2' x3' → Z g p l e rm_X0_isOfKind s m args below meth c 4 (MQ below (va_Qi (S := Bool × Mem) (fun r u => r = i3 (bz u.1) ∧ (u.2 = M ∧ Q u.1)) (fun u => Rp g u.2) (aR g)) args s 0 0 (aR g)) M 7 [(1, .int (i3 x1)), (2, .int (i3 x2')), (3, .int (i3 x3'))] [])
    (hw : wp_X0_isOfKind_B7 a0 Q K7 M x1 x2 x3) : Z g p l e rm_X0_isOfKind s m args below meth c 4 (MQ below (va_Qi (S := Bool × Mem) (fun r u => r = i3 (bz u.1) ∧ (u.2 = M ∧ Q u.1)) (fun u => Rp g u.2) (aR g)) args s 0 0 (aR g)) M 7 [(1, .int (i3 x1)), (2, .int (i3 x2)), (3, .int (i3 x3))] [] := by
  refine z_iload_n F dX0_isOfKind_7 rfl rfl 2 rfl ?_
  refine z_under F dX0_isOfKind_8 rfl rfl ?_
  refine z_ulen F dX0_isOfKind_11 rfl ?_
  refine z_icmp_ge F dX0_isOfKind_12 rfl rfl hw (fun hw => ?_) (fun hw => ?_)
  · refine z_iconst F dX0_isOfKind_39 rfl ?_
    exact z_zretp (x := false) F hr dX0_isOfKind_40 hw
  · refine z_iload_n F dX0_isOfKind_15 rfl rfl 1 rfl ?_
    refine z_iconst F dX0_isOfKind_16 rfl ?_
    refine z_icmp_eq F dX0_isOfKind_17 rfl rfl hw (fun hw => ?_) (fun hw => ?_)
    · refine z_iconst F dX0_isOfKind_39 rfl ?_
      exact z_zretp (x := false) F hr dX0_isOfKind_40 hw
    · refine z_iload_n F dX0_isOfKind_20 rfl rfl 1 rfl ?_
      refine z_iload_n F dX0_isOfKind_21 rfl rfl 0 rfl ?_
      refine z_icmp_ne F dX0_isOfKind_22 rfl rfl hw (fun hw => ?_) (fun hw => ?_)
      · refine z_under F dX0_isOfKind_27 rfl rfl ?_
        refine z_iload_n F dX0_isOfKind_30 rfl rfl 1 rfl ?_
        refine z_uald F dX0_isOfKind_31 rfl hw (fun hw => ?_)
        refine z_istore_n F dX0_isOfKind_32 rfl rfl (by decide) rfl ?_
        refine z_iinc F dX0_isOfKind_33 rfl 2 rfl (by decide) rfl ?_
        refine z_goto F dX0_isOfKind_36 rfl ?_
        refine z_sub [2, 1, 0] rfl ?_
        exact hK7 (und (ix x2)) (x3 + 1) hw
      · refine z_iconst F dX0_isOfKind_25 rfl ?_
        exact z_zretp (x := true) F hr dX0_isOfKind_26 hw
set_option maxRecDepth 100000 in
set_option maxHeartbeats 4000000 in
theorem lp_X0_isOfKind_7 {g : En} {p : Program} {l : Launch} {e : Env} {s : State} {m : MethodId} {args : Array Value} {below : List Frame} {meth : Method} {c : Code} {M : Mem} {a0 : Nat} {Q : Bool → Prop} {x1 : Int} {x2 : Int} {x3 : Int} (F : Fx g p s m args meth c cX0_isOfKind 4 RX0) (hr : meth.sig.returnType = (some .boolean)) (k0 : kd a0 = 0)
    (hw : wp_X0_isOfKind_L7 a0 Q M x1 x2 x3) : Z g p l e rm_X0_isOfKind s m args below meth c 4 (MQ below (va_Qi (S := Bool × Mem) (fun r u => r = i3 (bz u.1) ∧ (u.2 = M ∧ Q u.1)) (fun u => Rp g u.2) (aR g)) args s 0 0 (aR g)) M 7 [(1, .int (i3 x1)), (2, .int (i3 x2)), (3, .int (i3 x3))] [] := by
  obtain ⟨I, μ, h0, hb⟩ := hw
  have key : ∀ (n : Nat) (x2 : Int) (x3 : Int), I x2 x3 → μ x2 x3 < n → Z g p l e rm_X0_isOfKind s m args below meth c 4 (MQ below (va_Qi (S := Bool × Mem) (fun r u => r = i3 (bz u.1) ∧ (u.2 = M ∧ Q u.1)) (fun u => Rp g u.2) (aR g)) args s 0 0 (aR g)) M 7 [(1, .int (i3 x1)), (2, .int (i3 x2)), (3, .int (i3 x3))] [] := by
    intro n
    induction n with
    | zero => exact fun _ _ _ h => absurd h (Nat.not_lt_zero _)
    | succ n ih =>
      intro x2 x3 hI hn
      exact bk_X0_isOfKind_B7 F hr k0 (fun x2' x3' hk => ih x2' x3' hk.1 (Nat.lt_of_lt_of_le hk.2 (Nat.le_of_lt_succ hn))) (hb x2 x3 hI)
  exact key _ x2 x3 h0 (Nat.lt_succ_self _)
set_option maxRecDepth 100000 in
set_option maxHeartbeats 4000000 in
theorem c_X0_isOfKind (l : Launch) (g : En) {a0 : Nat} {a1 : Int} {M : Mem} {Q : Bool → Prop} (k0 : kd a0 = 0) (hw : wp_X0_isOfKind a0 a1 M Q) :
    Met l yX0_isOfKind (WS yX0_isOfKind cX0_isOfKind 4 (some .boolean)) rm_X0_isOfKind (va_Pc [.ref (g.2.2.1 + a0), .int (i3 a1)] (Rp g M)) (va_Qi (S := Bool × Mem) (fun r u => r = i3 (bz u.1) ∧ (u.2 = M ∧ Q u.1)) (fun u => Rp g u.2) (aR g)) 0 0 (aR g) := by
  refine met_Z (plainFor_of_name rfl) (Nat.le_of_ble_eq_true rfl) ?_
  intro p e s m args below meth c F hr _
  show Z g p l e rm_X0_isOfKind s m args below meth c 4 (MQ below (va_Qi (S := Bool × Mem) (fun r u => r = i3 (bz u.1) ∧ (u.2 = M ∧ Q u.1)) (fun u => Rp g u.2) (aR g)) args s 0 0 (aR g)) M 0 [(0, .ref (g.2.2.1 + a0)), (1, .int (i3 a1))] []
  refine z_aload_n F dX0_isOfKind_0 rfl rfl 0 rfl ?_
  refine z_getI F fl_126 k0 dX0_isOfKind_1 rfl ?_
  refine z_istore_n F dX0_isOfKind_4 rfl rfl (by decide) rfl ?_
  refine z_iconst F dX0_isOfKind_5 rfl ?_
  refine z_istore_n F dX0_isOfKind_6 rfl rfl (by decide) rfl ?_
  refine z_sub [3, 1, 0] rfl ?_
  exact lp_X0_isOfKind_7 F hr k0 hw
theorem cv_X0_isOfKind : CV yX0_isOfKind RX0 cX0_isOfKind 4 (some .boolean) 1 := ⟨w_612, w_613, w_71, w_614, rfl, by decide +kernel, by decide +kernel, by decide +kernel⟩
abbrev rm_J7_fill_53178 : Room := { frames := 0, cells := 0, slots := 0, locals := 0 }
def wp_J7_fill_53178_B5 (a0 : Nat) (Q : Mem → Prop) (K5 : Mem → Int → Prop) (M : Mem) (x1 : Int) (x2 : Int) (x3 : Int) : Prop :=
  (((w32 x3 ≤ w32 x2) → (
    Q M)) ∧
  (¬ (w32 x3 ≤ w32 x2) → (
    inb a0 x2 ∧ (
    ∀ M13 : Mem, M13 = st2 M a0 (ix x2) x1 →
    K5 M13 (x2 + 1)))))
def wp_J7_fill_53178_L5 (a0 : Nat) (Q : Mem → Prop) (M : Mem) (x1 : Int) (x2 : Int) (x3 : Int) : Prop :=
  ∃ (I : Mem → Int → Prop) (μ : Mem → Int → Nat), I M x2 ∧ ∀ (M : Mem) (x2 : Int), I M x2 →
    wp_J7_fill_53178_B5 a0 Q (fun M' x2' => I M' x2' ∧ μ M' x2' < μ M x2) M x1 x2 x3
def wp_J7_fill_53178 (a0 : Nat) (a1 : Int) (M : Mem) (Q : Mem → Prop) : Prop :=
  wp_J7_fill_53178_L5 a0 Q M a1 0 (ln a0 : Int)
set_option maxRecDepth 100000 in
set_option maxHeartbeats 4000000 in
theorem bk_J7_fill_53178_B5 {g : En} {p : Program} {l : Launch} {e : Env} {s : State} {m : MethodId} {args : Array Value} {below : List Frame} {meth : Method} {c : Code} {M : Mem} {a0 : Nat} {Q : Mem → Prop} {K5 : Mem → Int → Prop} {x1 : Int} {x2 : Int} {x3 : Int} (F : Fx g p s m args meth c cJ7_fill_53178 4 RJ7) (hr : meth.sig.returnType = none) (k0 : kd a0 = 13)
    (hK5 : ∀ (M' : Mem) (x2' : Int), K5 M' x2' → Z g p l e rm_J7_fill_53178 s m args below meth c 4 (MQ below (va_Qv (S := Mem) Q (fun u => Rp g u) (aR g)) args s 0 0 (aR g)) M' 5 [(0, .ref (g.2.2.1 + a0)), (1, .int (i3 x1)), (2, .int (i3 x2')), (3, .int (i3 x3))] [])
    (hw : wp_J7_fill_53178_B5 a0 Q K5 M x1 x2 x3) : Z g p l e rm_J7_fill_53178 s m args below meth c 4 (MQ below (va_Qv (S := Mem) Q (fun u => Rp g u) (aR g)) args s 0 0 (aR g)) M 5 [(0, .ref (g.2.2.1 + a0)), (1, .int (i3 x1)), (2, .int (i3 x2)), (3, .int (i3 x3))] [] := by
  refine z_iload_n F dJ7_fill_53178_5 rfl rfl 2 rfl ?_
  refine z_iload_n F dJ7_fill_53178_6 rfl rfl 3 rfl ?_
  refine z_icmp_ge F dJ7_fill_53178_7 rfl rfl hw (fun hw => ?_) (fun hw => ?_)
  · exact z_vret F hr dJ7_fill_53178_20 hw
  · refine z_aload_n F dJ7_fill_53178_10 rfl rfl 0 rfl ?_
    refine z_iload_n F dJ7_fill_53178_11 rfl rfl 2 rfl ?_
    refine z_iload_n F dJ7_fill_53178_12 rfl rfl 1 rfl ?_
    refine z_iast F k0 dJ7_fill_53178_13 rfl hw (fun hw => ?_)
    refine z_nmM (fun M13 eM13 => ?_)
    have hw := hw M13 eM13
    refine z_iinc F dJ7_fill_53178_14 rfl 2 rfl (by decide) rfl ?_
    refine z_goto F dJ7_fill_53178_17 rfl ?_
    refine z_sub [1, 2, 0, 3] rfl ?_
    exact hK5 M13 (x2 + 1) hw
set_option maxRecDepth 100000 in
set_option maxHeartbeats 4000000 in
theorem lp_J7_fill_53178_5 {g : En} {p : Program} {l : Launch} {e : Env} {s : State} {m : MethodId} {args : Array Value} {below : List Frame} {meth : Method} {c : Code} {M : Mem} {a0 : Nat} {Q : Mem → Prop} {x1 : Int} {x2 : Int} {x3 : Int} (F : Fx g p s m args meth c cJ7_fill_53178 4 RJ7) (hr : meth.sig.returnType = none) (k0 : kd a0 = 13)
    (hw : wp_J7_fill_53178_L5 a0 Q M x1 x2 x3) : Z g p l e rm_J7_fill_53178 s m args below meth c 4 (MQ below (va_Qv (S := Mem) Q (fun u => Rp g u) (aR g)) args s 0 0 (aR g)) M 5 [(0, .ref (g.2.2.1 + a0)), (1, .int (i3 x1)), (2, .int (i3 x2)), (3, .int (i3 x3))] [] := by
  obtain ⟨I, μ, h0, hb⟩ := hw
  have key : ∀ (n : Nat) (M : Mem) (x2 : Int), I M x2 → μ M x2 < n → Z g p l e rm_J7_fill_53178 s m args below meth c 4 (MQ below (va_Qv (S := Mem) Q (fun u => Rp g u) (aR g)) args s 0 0 (aR g)) M 5 [(0, .ref (g.2.2.1 + a0)), (1, .int (i3 x1)), (2, .int (i3 x2)), (3, .int (i3 x3))] [] := by
    intro n
    induction n with
    | zero => exact fun _ _ _ h => absurd h (Nat.not_lt_zero _)
    | succ n ih =>
      intro M x2 hI hn
      exact bk_J7_fill_53178_B5 F hr k0 (fun M' x2' hk => ih M' x2' hk.1 (Nat.lt_of_lt_of_le hk.2 (Nat.le_of_lt_succ hn))) (hb M x2 hI)
  exact key _ M x2 h0 (Nat.lt_succ_self _)
set_option maxRecDepth 100000 in
set_option maxHeartbeats 4000000 in
theorem c_J7_fill_53178 (l : Launch) (g : En) {a0 : Nat} {a1 : Int} {M : Mem} {Q : Mem → Prop} (k0 : kd a0 = 13) (hw : wp_J7_fill_53178 a0 a1 M Q) :
    Met l yJ7_fill_53178 (WS yJ7_fill_53178 cJ7_fill_53178 4 none) rm_J7_fill_53178 (va_Pc [.ref (g.2.2.1 + a0), .int (i3 a1)] (Rp g M)) (va_Qv (S := Mem) Q (fun u => Rp g u) (aR g)) 0 0 (aR g) := by
  refine met_Z (plainFor_of_name rfl) (Nat.le_of_ble_eq_true rfl) ?_
  intro p e s m args below meth c F hr _
  show Z g p l e rm_J7_fill_53178 s m args below meth c 4 (MQ below (va_Qv (S := Mem) Q (fun u => Rp g u) (aR g)) args s 0 0 (aR g)) M 0 [(0, .ref (g.2.2.1 + a0)), (1, .int (i3 a1))] []
  refine z_iconst F dJ7_fill_53178_0 rfl ?_
  refine z_istore_n F dJ7_fill_53178_1 rfl rfl (by decide) rfl ?_
  refine z_aload_n F dJ7_fill_53178_2 rfl rfl 1 rfl ?_
  refine z_alen F k0 dJ7_fill_53178_3 rfl ?_
  refine z_istore_n F dJ7_fill_53178_4 rfl rfl (by decide) rfl ?_
  refine z_sub [2, 3, 1, 0] rfl ?_
  exact lp_J7_fill_53178_5 F hr k0 hw
theorem cs_J7_fill_53178 : CS yJ7_fill_53178 cJ7_fill_53178 4 none 2 := ⟨w_105, w_70, w_106, by decide +kernel, by decide +kernel, by decide +kernel⟩
abbrev rm_X0_payingOn : Room := { frames := 0, cells := 0, slots := 0, locals := 0 }
def wp_X0_payingOn_b83 (a0 : Nat) (Q : Int → Prop) (M : Mem) (s0 : Int) (x1 : Int) : Prop :=
  (((¬ w32 x1 = w32 (M a0 4)) → (
    Q (s0 + 0))) ∧
  (¬ (¬ w32 x1 = w32 (M a0 4)) → (
    w32 2 ≠ 0 ∧ (
    Q (s0 + ((M a0 5) - ((w32 (M a0 5)).tdiv (w32 2))))))))
def wp_X0_payingOn_b16 (a0 : Nat) (Q : Int → Prop) (M : Mem) (s0 : Int) (x1 : Int) (x2 : Int) (x3 : Int) : Prop :=
  ((w32 (M a0 0) = 1 → (
    Q s0)) ∧
  (w32 (M a0 0) = 2 → (
    Q (((M a0 2) + x2) + s0))) ∧
  (w32 (M a0 0) = 3 → (
    (((¬ w32 x2 = 0) → (
      wp_X0_payingOn_b83 a0 Q M 0 x1)) ∧
    (¬ (¬ w32 x2 = 0) → (
      w32 2 ≠ 0 ∧ (
      wp_X0_payingOn_b83 a0 Q M ((w32 (M a0 5)).tdiv (w32 2)) x1)))))) ∧
  (w32 (M a0 0) = 4 → (
    Q ((((M a0 2) + x2) + ((M a0 2) * x3)) + s0))) ∧
  (w32 (M a0 0) = 5 → (
    Q (((M a0 2) + x2) + s0))) ∧
  ((w32 (M a0 0) < 1 ∨ 5 < w32 (M a0 0)) → (
    Q ((M a0 2) + s0))))
def wp_X0_payingOn (a0 : Nat) (a1 : Int) (a2 : Int) (a3 : Int) (M : Mem) (Q : Int → Prop) : Prop :=
  (((¬ w32 a1 = w32 (M a0 4)) → (
    wp_X0_payingOn_b16 a0 Q M 0 a1 a2 a3)) ∧
  (¬ (¬ w32 a1 = w32 (M a0 4)) → (
    wp_X0_payingOn_b16 a0 Q M (M a0 5) a1 a2 a3)))
set_option maxRecDepth 100000 in
set_option maxHeartbeats 4000000 in
theorem bk_X0_payingOn_83 {g : En} {p : Program} {l : Launch} {e : Env} {s : State} {m : MethodId} {args : Array Value} {below : List Frame} {meth : Method} {c : Code} {M : Mem} {a0 : Nat} {Q : Int → Prop} {s0 : Int} {x1 : Int} (F : Fx g p s m args meth c cX0_payingOn 5 RX0) (hr : meth.sig.returnType = (some .int)) (k0 : kd a0 = 0)
    (hw : wp_X0_payingOn_b83 a0 Q M s0 x1) : Z g p l e rm_X0_payingOn s m args below meth c 5 (MQ below (va_Qi (S := Int × Mem) (fun r u => r = i3 u.1 ∧ (u.2 = M ∧ Q u.1)) (fun u => Rp g u.2) (aR g)) args s 0 0 (aR g)) M 83 [(0, .ref (g.2.2.1 + a0)), (1, .int (i3 x1))] [.int (i3 s0)] := by
  refine z_iload_n F dX0_payingOn_83 rfl rfl 1 rfl ?_
  refine z_aload_n F dX0_payingOn_84 rfl rfl 0 rfl ?_
  refine z_getI F fl_134 k0 dX0_payingOn_85 rfl ?_
  refine z_icmp_ne F dX0_payingOn_88 rfl rfl hw (fun hw => ?_) (fun hw => ?_)
  · refine z_iconst F dX0_payingOn_105 rfl ?_
    refine z_iadd F dX0_payingOn_106 rfl ?_
    exact z_iretp (x := (s0 + 0)) F hr dX0_payingOn_107 hw
  · refine z_aload_n F dX0_payingOn_91 rfl rfl 0 rfl ?_
    refine z_getI F fl_136 k0 dX0_payingOn_92 rfl ?_
    refine z_aload_n F dX0_payingOn_95 rfl rfl 0 rfl ?_
    refine z_getI F fl_136 k0 dX0_payingOn_96 rfl ?_
    refine z_iconst F dX0_payingOn_99 rfl ?_
    refine z_idiv F dX0_payingOn_100 rfl hw (fun hw => ?_)
    refine z_isub F dX0_payingOn_101 rfl ?_
    refine z_goto F dX0_payingOn_102 rfl ?_
    refine z_iadd F dX0_payingOn_106 rfl ?_
    exact z_iretp (x := (s0 + ((M a0 5) - ((w32 (M a0 5)).tdiv (w32 2))))) F hr dX0_payingOn_107 hw
set_option maxRecDepth 100000 in
set_option maxHeartbeats 4000000 in
theorem bk_X0_payingOn_16 {g : En} {p : Program} {l : Launch} {e : Env} {s : State} {m : MethodId} {args : Array Value} {below : List Frame} {meth : Method} {c : Code} {M : Mem} {a0 : Nat} {Q : Int → Prop} {s0 : Int} {x1 : Int} {x2 : Int} {x3 : Int} (F : Fx g p s m args meth c cX0_payingOn 5 RX0) (hr : meth.sig.returnType = (some .int)) (k0 : kd a0 = 0)
    (hw : wp_X0_payingOn_b16 a0 Q M s0 x1 x2 x3) : Z g p l e rm_X0_payingOn s m args below meth c 5 (MQ below (va_Qi (S := Int × Mem) (fun r u => r = i3 u.1 ∧ (u.2 = M ∧ Q u.1)) (fun u => Rp g u.2) (aR g)) args s 0 0 (aR g)) M 16 [(0, .ref (g.2.2.1 + a0)), (1, .int (i3 x1)), (2, .int (i3 x2)), (3, .int (i3 x3))] [.int (i3 s0)] := by
  refine z_istore F dX0_payingOn_16 rfl (by decide) rfl ?_
  refine z_aload_n F dX0_payingOn_18 rfl rfl 1 rfl ?_
  refine z_getI F fl_126 k0 dX0_payingOn_19 rfl ?_
  by_cases e22_0 : w32 (M a0 0) = 1
  · refine z_swcase F 1 dX0_payingOn_22 e22_0 (by decide) (by decide) rfl rfl ?_
    have hw := hw.1 e22_0
    refine z_iload F dX0_payingOn_56 rfl 0 rfl ?_
    exact z_iretp (x := s0) F hr dX0_payingOn_58 hw
  · skip
    by_cases e22_1 : w32 (M a0 0) = 2
    · refine z_swcase F 2 dX0_payingOn_22 e22_1 (by decide) (by decide) rfl rfl ?_
      have hw := hw.2.1 e22_1
      refine z_aload_n F dX0_payingOn_59 rfl rfl 1 rfl ?_
      refine z_getI F fl_131 k0 dX0_payingOn_60 rfl ?_
      refine z_iload_n F dX0_payingOn_63 rfl rfl 3 rfl ?_
      refine z_iadd F dX0_payingOn_64 rfl ?_
      refine z_iload F dX0_payingOn_65 rfl 0 rfl ?_
      refine z_iadd F dX0_payingOn_67 rfl ?_
      exact z_iretp (x := (((M a0 2) + x2) + s0)) F hr dX0_payingOn_68 hw
    · skip
      by_cases e22_2 : w32 (M a0 0) = 3
      · refine z_swcase F 3 dX0_payingOn_22 e22_2 (by decide) (by decide) rfl rfl ?_
        have hw := hw.2.2.1 e22_2
        refine z_iload_n F dX0_payingOn_69 rfl rfl 3 rfl ?_
        refine z_if_ne F dX0_payingOn_70 rfl rfl hw (fun hw => ?_) (fun hw => ?_)
        · refine z_iconst F dX0_payingOn_82 rfl ?_
          refine z_sub [1, 2] rfl ?_
          exact bk_X0_payingOn_83 F hr k0 hw
        · refine z_aload_n F dX0_payingOn_73 rfl rfl 1 rfl ?_
          refine z_getI F fl_136 k0 dX0_payingOn_74 rfl ?_
          refine z_iconst F dX0_payingOn_77 rfl ?_
          refine z_idiv F dX0_payingOn_78 rfl hw (fun hw => ?_)
          refine z_goto F dX0_payingOn_79 rfl ?_
          refine z_sub [1, 2] rfl ?_
          exact bk_X0_payingOn_83 F hr k0 hw
      · skip
        by_cases e22_3 : w32 (M a0 0) = 4
        · refine z_swcase F 4 dX0_payingOn_22 e22_3 (by decide) (by decide) rfl rfl ?_
          have hw := hw.2.2.2.1 e22_3
          refine z_aload_n F dX0_payingOn_108 rfl rfl 1 rfl ?_
          refine z_getI F fl_131 k0 dX0_payingOn_109 rfl ?_
          refine z_iload_n F dX0_payingOn_112 rfl rfl 3 rfl ?_
          refine z_iadd F dX0_payingOn_113 rfl ?_
          refine z_aload_n F dX0_payingOn_114 rfl rfl 1 rfl ?_
          refine z_getI F fl_131 k0 dX0_payingOn_115 rfl ?_
          refine z_iload_n F dX0_payingOn_118 rfl rfl 4 rfl ?_
          refine z_imul F dX0_payingOn_119 rfl ?_
          refine z_iadd F dX0_payingOn_120 rfl ?_
          refine z_iload F dX0_payingOn_121 rfl 0 rfl ?_
          refine z_iadd F dX0_payingOn_123 rfl ?_
          exact z_iretp (x := ((((M a0 2) + x2) + ((M a0 2) * x3)) + s0)) F hr dX0_payingOn_124 hw
        · skip
          by_cases e22_4 : w32 (M a0 0) = 5
          · refine z_swcase F 5 dX0_payingOn_22 e22_4 (by decide) (by decide) rfl rfl ?_
            have hw := hw.2.2.2.2.1 e22_4
            refine z_aload_n F dX0_payingOn_59 rfl rfl 1 rfl ?_
            refine z_getI F fl_131 k0 dX0_payingOn_60 rfl ?_
            refine z_iload_n F dX0_payingOn_63 rfl rfl 3 rfl ?_
            refine z_iadd F dX0_payingOn_64 rfl ?_
            refine z_iload F dX0_payingOn_65 rfl 0 rfl ?_
            refine z_iadd F dX0_payingOn_67 rfl ?_
            exact z_iretp (x := (((M a0 2) + x2) + s0)) F hr dX0_payingOn_68 hw
          · skip
            have h9 : w32 (M a0 0) < 1 ∨ 5 < w32 (M a0 0) := by omega
            refine z_swout F dX0_payingOn_22 h9 rfl ?_
            have hw := hw.2.2.2.2.2 h9
            refine z_aload_n F dX0_payingOn_125 rfl rfl 1 rfl ?_
            refine z_getI F fl_131 k0 dX0_payingOn_126 rfl ?_
            refine z_iload F dX0_payingOn_129 rfl 0 rfl ?_
            refine z_iadd F dX0_payingOn_131 rfl ?_
            exact z_iretp (x := ((M a0 2) + s0)) F hr dX0_payingOn_132 hw
set_option maxRecDepth 100000 in
set_option maxHeartbeats 4000000 in
theorem c_X0_payingOn (l : Launch) (g : En) {a0 : Nat} {a1 : Int} {a2 : Int} {a3 : Int} {M : Mem} {Q : Int → Prop} (k0 : kd a0 = 0) (hw : wp_X0_payingOn a0 a1 a2 a3 M Q) :
    Met l yX0_payingOn (WS yX0_payingOn cX0_payingOn 5 (some .int)) rm_X0_payingOn (va_Pc [.ref (g.2.2.1 + a0), .int (i3 a1), .int (i3 a2), .int (i3 a3)] (Rp g M)) (va_Qi (S := Int × Mem) (fun r u => r = i3 u.1 ∧ (u.2 = M ∧ Q u.1)) (fun u => Rp g u.2) (aR g)) 0 0 (aR g) := by
  refine met_Z (plainFor_of_name rfl) (Nat.le_of_ble_eq_true rfl) ?_
  intro p e s m args below meth c F hr _
  show Z g p l e rm_X0_payingOn s m args below meth c 5 (MQ below (va_Qi (S := Int × Mem) (fun r u => r = i3 u.1 ∧ (u.2 = M ∧ Q u.1)) (fun u => Rp g u.2) (aR g)) args s 0 0 (aR g)) M 0 [(0, .ref (g.2.2.1 + a0)), (1, .int (i3 a1)), (2, .int (i3 a2)), (3, .int (i3 a3))] []
  refine z_iload_n F dX0_payingOn_0 rfl rfl 1 rfl ?_
  refine z_aload_n F dX0_payingOn_1 rfl rfl 0 rfl ?_
  refine z_getI F fl_134 k0 dX0_payingOn_2 rfl ?_
  refine z_icmp_ne F dX0_payingOn_5 rfl rfl hw (fun hw => ?_) (fun hw => ?_)
  · refine z_iconst F dX0_payingOn_15 rfl ?_
    refine z_sub [0, 1, 2, 3] rfl ?_
    exact bk_X0_payingOn_16 F hr k0 hw
  · refine z_aload_n F dX0_payingOn_8 rfl rfl 0 rfl ?_
    refine z_getI F fl_136 k0 dX0_payingOn_9 rfl ?_
    refine z_goto F dX0_payingOn_12 rfl ?_
    refine z_sub [0, 1, 2, 3] rfl ?_
    exact bk_X0_payingOn_16 F hr k0 hw
theorem cv_X0_payingOn : CV yX0_payingOn RX0 cX0_payingOn 5 (some .int) 3 := ⟨w_553, w_3, w_71, w_554, rfl, by decide +kernel, by decide +kernel, by decide +kernel⟩
abbrev rm_X0_isCalledOn : Room := { frames := 0, cells := 0, slots := 0, locals := 0 }
def wp_X0_isCalledOn (a0 : Nat) (a1 : Int) (a2 : Int) (M : Mem) (Q : Bool → Prop) : Prop :=
  (((¬ w32 (M a0 0) = w32 5) → (
    Q false)) ∧
  (¬ (¬ w32 (M a0 0) = w32 5) → (
    (((¬ w32 a2 = 0) → (
      Q false)) ∧
    (¬ (¬ w32 a2 = 0) → (
      (((w32 (M a0 4) ≤ w32 a1) → (
        Q false)) ∧
      (¬ (w32 (M a0 4) ≤ w32 a1) → (
        Q true)))))))))
set_option maxRecDepth 100000 in
set_option maxHeartbeats 4000000 in
theorem c_X0_isCalledOn (l : Launch) (g : En) {a0 : Nat} {a1 : Int} {a2 : Int} {M : Mem} {Q : Bool → Prop} (k0 : kd a0 = 0) (hw : wp_X0_isCalledOn a0 a1 a2 M Q) :
    Met l yX0_isCalledOn (WS yX0_isCalledOn cX0_isCalledOn 3 (some .boolean)) rm_X0_isCalledOn (va_Pc [.ref (g.2.2.1 + a0), .int (i3 a1), .int (i3 a2)] (Rp g M)) (va_Qi (S := Bool × Mem) (fun r u => r = i3 (bz u.1) ∧ (u.2 = M ∧ Q u.1)) (fun u => Rp g u.2) (aR g)) 0 0 (aR g) := by
  refine met_Z (plainFor_of_name rfl) (Nat.le_of_ble_eq_true rfl) ?_
  intro p e s m args below meth c F hr _
  show Z g p l e rm_X0_isCalledOn s m args below meth c 3 (MQ below (va_Qi (S := Bool × Mem) (fun r u => r = i3 (bz u.1) ∧ (u.2 = M ∧ Q u.1)) (fun u => Rp g u.2) (aR g)) args s 0 0 (aR g)) M 0 [(0, .ref (g.2.2.1 + a0)), (1, .int (i3 a1)), (2, .int (i3 a2))] []
  refine z_aload_n F dX0_isCalledOn_0 rfl rfl 0 rfl ?_
  refine z_getI F fl_126 k0 dX0_isCalledOn_1 rfl ?_
  refine z_iconst F dX0_isCalledOn_4 rfl ?_
  refine z_icmp_ne F dX0_isCalledOn_5 rfl rfl hw (fun hw => ?_) (fun hw => ?_)
  · refine z_iconst F dX0_isCalledOn_24 rfl ?_
    exact z_zretp (x := false) F hr dX0_isCalledOn_25 hw
  · refine z_iload_n F dX0_isCalledOn_8 rfl rfl 2 rfl ?_
    refine z_if_ne F dX0_isCalledOn_9 rfl rfl hw (fun hw => ?_) (fun hw => ?_)
    · refine z_iconst F dX0_isCalledOn_24 rfl ?_
      exact z_zretp (x := false) F hr dX0_isCalledOn_25 hw
    · refine z_iload_n F dX0_isCalledOn_12 rfl rfl 1 rfl ?_
      refine z_aload_n F dX0_isCalledOn_13 rfl rfl 0 rfl ?_
      refine z_getI F fl_134 k0 dX0_isCalledOn_14 rfl ?_
      refine z_icmp_ge F dX0_isCalledOn_17 rfl rfl hw (fun hw => ?_) (fun hw => ?_)
      · refine z_iconst F dX0_isCalledOn_24 rfl ?_
        exact z_zretp (x := false) F hr dX0_isCalledOn_25 hw
      · refine z_iconst F dX0_isCalledOn_20 rfl ?_
        refine z_goto F dX0_isCalledOn_21 rfl ?_
        exact z_zretp (x := true) F hr dX0_isCalledOn_25 hw
theorem cv_X0_isCalledOn : CV yX0_isCalledOn RX0 cX0_isCalledOn 3 (some .boolean) 2 := ⟨w_557, w_4, w_71, w_558, rfl, by decide +kernel, by decide +kernel, by decide +kernel⟩
abbrev rm_X0_layPayings : Room := { frames := 1, cells := 0, slots := 0, locals := 24 }
def wp_X0_layPayings_b95 (a0 : Nat) (a1 : Nat) (a2 : Nat) (Q : Mem → Prop) (K16 : Mem → Int → Int → Int → Prop) (M : Mem) (x3 : Int) (x4 : Int) (x5 : Int) : Prop :=
  K16 M x3 x4 (x5 + 1)
def wp_X0_layPayings_b41 (a0 : Nat) (a1 : Nat) (a2 : Nat) (Q : Mem → Prop) (K16 : Mem → Int → Int → Int → Prop) (M : Mem) (x3 : Int) (x4 : Int) (x5 : Int) : Prop :=
  inb a2 x5 ∧ (
  wp_X0_payingOn a0 x5 x3 (M a2 (ix x5)) M (fun r52 =>
  inb a1 x5 ∧ (
  ∀ M55 : Mem, M55 = st2 M a1 (ix x5) r52 →
  inb a2 x5 ∧ (
  wp_X0_isCalledOn a0 x5 (M55 a2 (ix x5)) M55 (fun r63 =>
  ((r63 = false → (
    wp_X0_layPayings_b95 a0 a1 a2 Q K16 M55 (x3 + 1) (x4 + (M55 a0 3)) x5)) ∧
  (r63 = true → (
    inb a1 x5 ∧ (
    inb a1 x5 ∧ (
    ∀ M79 : Mem, M79 = st2 M55 a1 (ix x5) ((M55 a1 (ix x5)) + (M55 a0 5)) →
    Q M79))))))))))
def wp_X0_layPayings_B16 (a0 : Nat) (a1 : Nat) (a2 : Nat) (Q : Mem → Prop) (K16 : Mem → Int → Int → Int → Prop) (M : Mem) (x3 : Int) (x4 : Int) (x5 : Int) : Prop :=
  (((w32 (M a0 4) < w32 x5) → (
    Q M)) ∧
  (¬ (w32 (M a0 4) < w32 x5) → (
    (((w32 x5 = w32 x4) → (
      wp_X0_layPayings_b41 a0 a1 a2 Q K16 M x3 x4 x5)) ∧
    (¬ (w32 x5 = w32 x4) → (
      (((¬ w32 x5 = w32 (M a0 4)) → (
        wp_X0_layPayings_b95 a0 a1 a2 Q K16 M x3 x4 x5)) ∧
      (¬ (¬ w32 x5 = w32 (M a0 4)) → (
        wp_X0_layPayings_b41 a0 a1 a2 Q K16 M x3 x4 x5)))))))))
def wp_X0_layPayings_L16 (a0 : Nat) (a1 : Nat) (a2 : Nat) (Q : Mem → Prop) (M : Mem) (x3 : Int) (x4 : Int) (x5 : Int) : Prop :=
  ∃ (I : Mem → Int → Int → Int → Prop) (μ : Mem → Int → Int → Int → Nat), I M x3 x4 x5 ∧ ∀ (M : Mem) (x3 : Int) (x4 : Int) (x5 : Int), I M x3 x4 x5 →
    wp_X0_layPayings_B16 a0 a1 a2 Q (fun M' x3' x4' x5' => I M' x3' x4' x5' ∧ μ M' x3' x4' x5' < μ M x3 x4 x5) M x3 x4 x5
def wp_X0_layPayings (a0 : Nat) (a1 : Nat) (a2 : Nat) (M : Mem) (Q : Mem → Prop) : Prop :=
  wp_J7_fill_53178 a1 0 M (fun M2 =>
  wp_X0_layPayings_L16 a0 a1 a2 Q M2 0 (M2 a0 3) 1)
set_option maxRecDepth 100000 in
set_option maxHeartbeats 4000000 in
theorem bk_X0_layPayings_95 {g : En} {p : Program} {l : Launch} {e : Env} {s : State} {m : MethodId} {args : Array Value} {below : List Frame} {meth : Method} {c : Code} {M : Mem} {a0 : Nat} {a1 : Nat} {a2 : Nat} {Q : Mem → Prop} {K16 : Mem → Int → Int → Int → Prop} {x3 : Int} {x4 : Int} {x5 : Int} (F : Fx g p s m args meth c cX0_layPayings 6 RX0) (hr : meth.sig.returnType = none) (k0 : kd a0 = 0) (k1 : kd a1 = 13) (k2 : kd a2 = 13)
    (hK16 : ∀ (M' : Mem) (x3' : Int) (x4' : Int) (x5' : Int), K16 M' x3' x4' x5' → Z g p l e rm_X0_layPayings s m args below meth c 6 (MQ below (va_Qv (S := Mem) Q (fun u => Rp g u) (aR g)) args s 0 0 (aR g)) M' 16 [(0, .ref (g.2.2.1 + a0)), (1, .ref (g.2.2.1 + a1)), (2, .ref (g.2.2.1 + a2)), (3, .int (i3 x3')), (4, .int (i3 x4')), (5, .int (i3 x5'))] [])
    (hw : wp_X0_layPayings_b95 a0 a1 a2 Q K16 M x3 x4 x5) : Z g p l e rm_X0_layPayings s m args below meth c 6 (MQ below (va_Qv (S := Mem) Q (fun u => Rp g u) (aR g)) args s 0 0 (aR g)) M 95 [(0, .ref (g.2.2.1 + a0)), (1, .ref (g.2.2.1 + a1)), (2, .ref (g.2.2.1 + a2)), (3, .int (i3 x3)), (4, .int (i3 x4)), (5, .int (i3 x5))] [] := by
  refine z_iinc F dX0_layPayings_95 rfl 5 rfl (by decide) rfl ?_
  refine z_goto F dX0_layPayings_98 rfl ?_
  refine z_sub [1, 2, 3, 4, 5, 0] rfl ?_
  exact hK16 M x3 x4 (x5 + 1) hw
set_option maxRecDepth 100000 in
set_option maxHeartbeats 4000000 in
theorem bk_X0_layPayings_41 {g : En} {p : Program} {l : Launch} {e : Env} {s : State} {m : MethodId} {args : Array Value} {below : List Frame} {meth : Method} {c : Code} {M : Mem} {a0 : Nat} {a1 : Nat} {a2 : Nat} {Q : Mem → Prop} {K16 : Mem → Int → Int → Int → Prop} {x3 : Int} {x4 : Int} {x5 : Int} (F : Fx g p s m args meth c cX0_layPayings 6 RX0) (hr : meth.sig.returnType = none) (k0 : kd a0 = 0) (k1 : kd a1 = 13) (k2 : kd a2 = 13)
    (hK16 : ∀ (M' : Mem) (x3' : Int) (x4' : Int) (x5' : Int), K16 M' x3' x4' x5' → Z g p l e rm_X0_layPayings s m args below meth c 6 (MQ below (va_Qv (S := Mem) Q (fun u => Rp g u) (aR g)) args s 0 0 (aR g)) M' 16 [(0, .ref (g.2.2.1 + a0)), (1, .ref (g.2.2.1 + a1)), (2, .ref (g.2.2.1 + a2)), (3, .int (i3 x3')), (4, .int (i3 x4')), (5, .int (i3 x5'))] [])
    (hw : wp_X0_layPayings_b41 a0 a1 a2 Q K16 M x3 x4 x5) : Z g p l e rm_X0_layPayings s m args below meth c 6 (MQ below (va_Qv (S := Mem) Q (fun u => Rp g u) (aR g)) args s 0 0 (aR g)) M 41 [(0, .ref (g.2.2.1 + a0)), (1, .ref (g.2.2.1 + a1)), (2, .ref (g.2.2.1 + a2)), (3, .int (i3 x3)), (4, .int (i3 x4)), (5, .int (i3 x5))] [] := by
  refine z_aload_n F dX0_layPayings_41 rfl rfl 1 rfl ?_
  refine z_iload F dX0_layPayings_42 rfl 5 rfl ?_
  refine z_aload_n F dX0_layPayings_44 rfl rfl 0 rfl ?_
  refine z_iload F dX0_layPayings_45 rfl 5 rfl ?_
  refine z_iload_n F dX0_layPayings_47 rfl rfl 3 rfl ?_
  refine z_aload_n F dX0_layPayings_48 rfl rfl 2 rfl ?_
  refine z_iload F dX0_layPayings_49 rfl 5 rfl ?_
  refine z_iald F k2 dX0_layPayings_51 rfl hw (fun hw => ?_)
  refine z_cVip (As := [.int (i3 x5), .int (i3 x3), .int (i3 (M a2 (ix x5)))]) (st := [.int (i3 x5), .ref (g.2.2.1 + a1)]) F (c_X0_payingOn l g k0 hw) cv_X0_payingOn w_551 ⟨rfl, rfl, Nat.le_of_ble_eq_true rfl, Nat.le_of_ble_eq_true rfl⟩ k0 rfl rfl (Nat.le_of_ble_eq_true rfl) dX0_layPayings_52 rfl (fun r52 hw => ?_)
  refine z_iast F k1 dX0_layPayings_55 rfl hw (fun hw => ?_)
  refine z_nmM (fun M55 eM55 => ?_)
  have hw := hw M55 eM55
  refine z_aload_n F dX0_layPayings_56 rfl rfl 0 rfl ?_
  refine z_iload F dX0_layPayings_57 rfl 5 rfl ?_
  refine z_aload_n F dX0_layPayings_59 rfl rfl 2 rfl ?_
  refine z_iload F dX0_layPayings_60 rfl 5 rfl ?_
  refine z_iald F k2 dX0_layPayings_62 rfl hw (fun hw => ?_)
  refine z_cVbp (As := [.int (i3 x5), .int (i3 (M55 a2 (ix x5)))]) (st := []) F (c_X0_isCalledOn l g k0 hw) cv_X0_isCalledOn w_555 ⟨rfl, rfl, Nat.le_of_ble_eq_true rfl, Nat.le_of_ble_eq_true rfl⟩ k0 rfl rfl (Nat.le_of_ble_eq_true rfl) dX0_layPayings_63 rfl (fun r63 hw => ?_)
  refine z_ifb_eq F dX0_layPayings_66 rfl rfl hw (fun hw => ?_) (fun hw => ?_)
  · refine z_iinc F dX0_layPayings_83 rfl 3 rfl (by decide) rfl ?_
    refine z_iload F dX0_layPayings_86 rfl 4 rfl ?_
    refine z_aload_n F dX0_layPayings_88 rfl rfl 1 rfl ?_
    refine z_getI F fl_133 k0 dX0_layPayings_89 rfl ?_
    refine z_iadd F dX0_layPayings_92 rfl ?_
    refine z_istore F dX0_layPayings_93 rfl (by decide) rfl ?_
    refine z_sub [2, 3, 4, 1, 0, 5] rfl ?_
    exact bk_X0_layPayings_95 F hr k0 k1 k2 hK16 hw
  · refine z_aload_n F dX0_layPayings_69 rfl rfl 1 rfl ?_
    refine z_iload F dX0_layPayings_70 rfl 5 rfl ?_
    refine z_dup2 F rfl rfl dX0_layPayings_72 rfl ?_
    refine z_iald F k1 dX0_layPayings_73 rfl hw (fun hw => ?_)
    refine z_aload_n F dX0_layPayings_74 rfl rfl 0 rfl ?_
    refine z_getI F fl_136 k0 dX0_layPayings_75 rfl ?_
    refine z_iadd F dX0_layPayings_78 rfl ?_
    refine z_iast F k1 dX0_layPayings_79 rfl hw (fun hw => ?_)
    refine z_nmM (fun M79 eM79 => ?_)
    have hw := hw M79 eM79
    refine z_goto F dX0_layPayings_80 rfl ?_
    exact z_vret F hr dX0_layPayings_101 hw
set_option maxRecDepth 100000 in
set_option maxHeartbeats 4000000 in
theorem bk_X0_layPayings_B16 {g : En} {p : Program} {l : Launch} {e : Env} {s : State} {m : MethodId} {args : Array Value} {below : List Frame} {meth : Method} {c : Code} {M : Mem} {a0 : Nat} {a1 : Nat} {a2 : Nat} {Q : Mem → Prop} {K16 : Mem → Int → Int → Int → Prop} {x3 : Int} {x4 : Int} {x5 : Int} (F : Fx g p s m args meth c cX0_layPayings 6 RX0) (hr : meth.sig.returnType = none) (k0 : kd a0 = 0) (k1 : kd a1 = 13) (k2 : kd a2 = 13)
    (hK16 : ∀ (M' : Mem) (x3' : Int) (x4' : Int) (x5' : Int), K16 M' x3' x4' x5' → Z g p l e rm_X0_layPayings s m args below meth c 6 (MQ below (va_Qv (S := Mem) Q (fun u => Rp g u) (aR g)) args s 0 0 (aR g)) M' 16 [(0, .ref (g.2.2.1 + a0)), (1, .ref (g.2.2.1 + a1)), (2, .ref (g.2.2.1 + a2)), (3, .int (i3 x3')), (4, .int (i3 x4')), (5, .int (i3 x5'))] [])
    (hw : wp_X0_layPayings_B16 a0 a1 a2 Q K16 M x3 x4 x5) : Z g p l e rm_X0_layPayings s m args below meth c 6 (MQ below (va_Qv (S := Mem) Q (fun u => Rp g u) (aR g)) args s 0 0 (aR g)) M 16 [(0, .ref (g.2.2.1 + a0)), (1, .ref (g.2.2.1 + a1)), (2, .ref (g.2.2.1 + a2)), (3, .int (i3 x3)), (4, .int (i3 x4)), (5, .int (i3 x5))] [] := by
  refine z_iload F dX0_layPayings_16 rfl 5 rfl ?_
  refine z_aload_n F dX0_layPayings_18 rfl rfl 0 rfl ?_
  refine z_getI F fl_134 k0 dX0_layPayings_19 rfl ?_
  refine z_icmp_gt F dX0_layPayings_22 rfl rfl hw (fun hw => ?_) (fun hw => ?_)
  · exact z_vret F hr dX0_layPayings_101 hw
  · refine z_iload F dX0_layPayings_25 rfl 5 rfl ?_
    refine z_iload F dX0_layPayings_27 rfl 4 rfl ?_
    refine z_icmp_eq F dX0_layPayings_29 rfl rfl hw (fun hw => ?_) (fun hw => ?_)
    · refine z_sub [0, 1, 2, 3, 4, 5] rfl ?_
      exact bk_X0_layPayings_41 F hr k0 k1 k2 hK16 hw
    · refine z_iload F dX0_layPayings_32 rfl 5 rfl ?_
      refine z_aload_n F dX0_layPayings_34 rfl rfl 0 rfl ?_
      refine z_getI F fl_134 k0 dX0_layPayings_35 rfl ?_
      refine z_icmp_ne F dX0_layPayings_38 rfl rfl hw (fun hw => ?_) (fun hw => ?_)
      · refine z_sub [0, 1, 2, 3, 4, 5] rfl ?_
        exact bk_X0_layPayings_95 F hr k0 k1 k2 hK16 hw
      · refine z_sub [0, 1, 2, 3, 4, 5] rfl ?_
        exact bk_X0_layPayings_41 F hr k0 k1 k2 hK16 hw
set_option maxRecDepth 100000 in
set_option maxHeartbeats 4000000 in
theorem lp_X0_layPayings_16 {g : En} {p : Program} {l : Launch} {e : Env} {s : State} {m : MethodId} {args : Array Value} {below : List Frame} {meth : Method} {c : Code} {M : Mem} {a0 : Nat} {a1 : Nat} {a2 : Nat} {Q : Mem → Prop} {x3 : Int} {x4 : Int} {x5 : Int} (F : Fx g p s m args meth c cX0_layPayings 6 RX0) (hr : meth.sig.returnType = none) (k0 : kd a0 = 0) (k1 : kd a1 = 13) (k2 : kd a2 = 13)
    (hw : wp_X0_layPayings_L16 a0 a1 a2 Q M x3 x4 x5) : Z g p l e rm_X0_layPayings s m args below meth c 6 (MQ below (va_Qv (S := Mem) Q (fun u => Rp g u) (aR g)) args s 0 0 (aR g)) M 16 [(0, .ref (g.2.2.1 + a0)), (1, .ref (g.2.2.1 + a1)), (2, .ref (g.2.2.1 + a2)), (3, .int (i3 x3)), (4, .int (i3 x4)), (5, .int (i3 x5))] [] := by
  obtain ⟨I, μ, h0, hb⟩ := hw
  have key : ∀ (n : Nat) (M : Mem) (x3 : Int) (x4 : Int) (x5 : Int), I M x3 x4 x5 → μ M x3 x4 x5 < n → Z g p l e rm_X0_layPayings s m args below meth c 6 (MQ below (va_Qv (S := Mem) Q (fun u => Rp g u) (aR g)) args s 0 0 (aR g)) M 16 [(0, .ref (g.2.2.1 + a0)), (1, .ref (g.2.2.1 + a1)), (2, .ref (g.2.2.1 + a2)), (3, .int (i3 x3)), (4, .int (i3 x4)), (5, .int (i3 x5))] [] := by
    intro n
    induction n with
    | zero => exact fun _ _ _ _ _ h => absurd h (Nat.not_lt_zero _)
    | succ n ih =>
      intro M x3 x4 x5 hI hn
      exact bk_X0_layPayings_B16 F hr k0 k1 k2 (fun M' x3' x4' x5' hk => ih M' x3' x4' x5' hk.1 (Nat.lt_of_lt_of_le hk.2 (Nat.le_of_lt_succ hn))) (hb M x3 x4 x5 hI)
  exact key _ M x3 x4 x5 h0 (Nat.lt_succ_self _)
set_option maxRecDepth 100000 in
set_option maxHeartbeats 4000000 in
theorem c_X0_layPayings (l : Launch) (g : En) {a0 : Nat} {a1 : Nat} {a2 : Nat} {M : Mem} {Q : Mem → Prop} (k0 : kd a0 = 0) (k1 : kd a1 = 13) (k2 : kd a2 = 13) (hw : wp_X0_layPayings a0 a1 a2 M Q) :
    Met l yX0_layPayings (WS yX0_layPayings cX0_layPayings 6 none) rm_X0_layPayings (va_Pc [.ref (g.2.2.1 + a0), .ref (g.2.2.1 + a1), .ref (g.2.2.1 + a2)] (Rp g M)) (va_Qv (S := Mem) Q (fun u => Rp g u) (aR g)) 0 0 (aR g) := by
  refine met_Z (plainFor_of_name rfl) (Nat.le_of_ble_eq_true rfl) ?_
  intro p e s m args below meth c F hr _
  show Z g p l e rm_X0_layPayings s m args below meth c 6 (MQ below (va_Qv (S := Mem) Q (fun u => Rp g u) (aR g)) args s 0 0 (aR g)) M 0 [(0, .ref (g.2.2.1 + a0)), (1, .ref (g.2.2.1 + a1)), (2, .ref (g.2.2.1 + a2))] []
  refine z_aload_n F dX0_layPayings_0 rfl rfl 1 rfl ?_
  refine z_iconst F dX0_layPayings_1 rfl ?_
  refine z_cSv (As := [.ref (g.2.2.1 + a1), .int (i3 0)]) (st := []) F (c_J7_fill_53178 l g k1 hw) cs_J7_fill_53178 w_550 ⟨rfl, rfl, Nat.le_of_ble_eq_true rfl, Nat.le_of_ble_eq_true rfl⟩ rfl (Nat.le_of_ble_eq_true rfl) dX0_layPayings_2 rfl (fun M2 hw => ?_)
  refine z_iconst F dX0_layPayings_5 rfl ?_
  refine z_istore_n F dX0_layPayings_6 rfl rfl (by decide) rfl ?_
  refine z_aload_n F dX0_layPayings_7 rfl rfl 1 rfl ?_
  refine z_getI F fl_133 k0 dX0_layPayings_8 rfl ?_
  refine z_istore F dX0_layPayings_11 rfl (by decide) rfl ?_
  refine z_iconst F dX0_layPayings_13 rfl ?_
  refine z_istore F dX0_layPayings_14 rfl (by decide) rfl ?_
  refine z_sub [3, 4, 5, 2, 1, 0] rfl ?_
  exact lp_X0_layPayings_16 F hr k0 k1 k2 hw
theorem cv_X0_layPayings : CV yX0_layPayings RX0 cX0_layPayings 6 none 2 := ⟨w_547, w_548, w_71, w_549, rfl, by decide +kernel, by decide +kernel, by decide +kernel⟩
abbrev rm_X1_hasBond : Room := { frames := 0, cells := 0, slots := 0, locals := 0 }
def wp_X1_hasBond (a0 : Nat) (a1 : Int) (M : Mem) (Q : Bool → Prop) : Prop :=
  (((w32 a1 < 0) → (
    Q false)) ∧
  (¬ (w32 a1 < 0) → (
    (((w32 (M a0 4) ≤ w32 a1) → (
      Q false)) ∧
    (¬ (w32 (M a0 4) ≤ w32 a1) → (
      Q true))))))
set_option maxRecDepth 100000 in
set_option maxHeartbeats 4000000 in
theorem c_X1_hasBond (l : Launch) (g : En) {a0 : Nat} {a1 : Int} {M : Mem} {Q : Bool → Prop} (k0 : kd a0 = 1) (hw : wp_X1_hasBond a0 a1 M Q) :
    Met l yX1_hasBond (WS yX1_hasBond cX1_hasBond 2 (some .boolean)) rm_X1_hasBond (va_Pc [.ref (g.2.2.1 + a0), .int (i3 a1)] (Rp g M)) (va_Qi (S := Bool × Mem) (fun r u => r = i3 (bz u.1) ∧ (u.2 = M ∧ Q u.1)) (fun u => Rp g u.2) (aR g)) 0 0 (aR g) := by
  refine met_Z (plainFor_of_name rfl) (Nat.le_of_ble_eq_true rfl) ?_
  intro p e s m args below meth c F hr _
  show Z g p l e rm_X1_hasBond s m args below meth c 2 (MQ below (va_Qi (S := Bool × Mem) (fun r u => r = i3 (bz u.1) ∧ (u.2 = M ∧ Q u.1)) (fun u => Rp g u.2) (aR g)) args s 0 0 (aR g)) M 0 [(0, .ref (g.2.2.1 + a0)), (1, .int (i3 a1))] []
  refine z_iload_n F dX1_hasBond_0 rfl rfl 1 rfl ?_
  refine z_if_lt F dX1_hasBond_1 rfl rfl hw (fun hw => ?_) (fun hw => ?_)
  · refine z_iconst F dX1_hasBond_16 rfl ?_
    exact z_zretp (x := false) F hr dX1_hasBond_17 hw
  · refine z_iload_n F dX1_hasBond_4 rfl rfl 1 rfl ?_
    refine z_aload_n F dX1_hasBond_5 rfl rfl 0 rfl ?_
    refine z_getI F fl_170 k0 dX1_hasBond_6 rfl ?_
    refine z_icmp_ge F dX1_hasBond_9 rfl rfl hw (fun hw => ?_) (fun hw => ?_)
    · refine z_iconst F dX1_hasBond_16 rfl ?_
      exact z_zretp (x := false) F hr dX1_hasBond_17 hw
    · refine z_iconst F dX1_hasBond_12 rfl ?_
      refine z_goto F dX1_hasBond_13 rfl ?_
      exact z_zretp (x := true) F hr dX1_hasBond_17 hw
theorem cv_X1_hasBond : CV yX1_hasBond RX1 cX1_hasBond 2 (some .boolean) 1 := ⟨w_588, w_589, w_68, w_590, rfl, by decide +kernel, by decide +kernel, by decide +kernel⟩
abbrev rm_X1_countHeld : Room := { frames := 0, cells := 0, slots := 0, locals := 0 }
def wp_X1_countHeld_B4 (a0 : Nat) (Q : Int → Prop) (K4 : Int → Int → Prop) (M : Mem) (x1 : Int) (x2 : Int) : Prop :=
  (((w32 (M a0 4) ≤ w32 x2) → (
    Q x1)) ∧
  (¬ (w32 (M a0 4) ≤ w32 x2) → (
    inb (rt a0 3) x2 ∧ (
    ∀ v23 : Int, v23 = (x1 + (M (rt (rt a0 3) (ix x2)) 6)) →
    K4 v23 (x2 + 1)))))
def wp_X1_countHeld_L4 (a0 : Nat) (Q : Int → Prop) (M : Mem) (x1 : Int) (x2 : Int) : Prop :=
  ∃ (I : Int → Int → Prop) (μ : Int → Int → Nat), I x1 x2 ∧ ∀ (x1 : Int) (x2 : Int), I x1 x2 →
    wp_X1_countHeld_B4 a0 Q (fun x1' x2' => I x1' x2' ∧ μ x1' x2' < μ x1 x2) M x1 x2
def wp_X1_countHeld (a0 : Nat) (M : Mem) (Q : Int → Prop) : Prop :=
  wp_X1_countHeld_L4 a0 Q M 0 0
set_option maxRecDepth 100000 in
set_option maxHeartbeats 4000000 in
theorem bk_X1_countHeld_B4 {g : En} {p : Program} {l : Launch} {e : Env} {s : State} {m : MethodId} {args : Array Value} {below : List Frame} {meth : Method} {c : Code} {M : Mem} {a0 : Nat} {Q : Int → Prop} {K4 : Int → Int → Prop} {x1 : Int} {x2 : Int} (F : Fx g p s m args meth c cX1_countHeld 3 RX1) (hr : meth.sig.returnType = (some .int)) (k0 : kd a0 = 1)
    (hK4 : ∀ (x1' : Int) (x2' : Int), K4 x1' x2' → Z g p l e rm_X1_countHeld s m args below meth c 3 (MQ below (va_Qi (S := Int × Mem) (fun r u => r = i3 u.1 ∧ (u.2 = M ∧ Q u.1)) (fun u => Rp g u.2) (aR g)) args s 0 0 (aR g)) M 4 [(0, .ref (g.2.2.1 + a0)), (1, .int (i3 x1')), (2, .int (i3 x2'))] [])
    (hw : wp_X1_countHeld_B4 a0 Q K4 M x1 x2) : Z g p l e rm_X1_countHeld s m args below meth c 3 (MQ below (va_Qi (S := Int × Mem) (fun r u => r = i3 u.1 ∧ (u.2 = M ∧ Q u.1)) (fun u => Rp g u.2) (aR g)) args s 0 0 (aR g)) M 4 [(0, .ref (g.2.2.1 + a0)), (1, .int (i3 x1)), (2, .int (i3 x2))] [] := by
  refine z_iload_n F dX1_countHeld_4 rfl rfl 2 rfl ?_
  refine z_aload_n F dX1_countHeld_5 rfl rfl 0 rfl ?_
  refine z_getI F fl_170 k0 dX1_countHeld_6 rfl ?_
  refine z_icmp_ge F dX1_countHeld_9 rfl rfl hw (fun hw => ?_) (fun hw => ?_)
  · refine z_iload_n F dX1_countHeld_30 rfl rfl 1 rfl ?_
    exact z_iretp (x := x1) F hr dX1_countHeld_31 hw
  · refine z_iload_n F dX1_countHeld_12 rfl rfl 1 rfl ?_
    refine z_aload_n F dX1_countHeld_13 rfl rfl 0 rfl ?_
    refine z_getR F fl_164 k0 dX1_countHeld_14 rfl ?_
    refine z_iload_n F dX1_countHeld_17 rfl rfl 2 rfl ?_
    have n18 := hw.1
    refine z_aald F 0 (tk_1_3 k0) rfl rfl dX1_countHeld_18 rfl hw (fun hw => ?_)
    refine z_getI F fl_138 (tka_15 (tk_1_3 k0) n18) dX1_countHeld_19 rfl ?_
    refine z_iadd F dX1_countHeld_22 rfl ?_
    refine z_nmI (fun v23 ev23 => ?_)
    have hw := hw v23 ev23
    refine z_istore_n F dX1_countHeld_23 rfl rfl (by decide) rfl ?_
    refine z_iinc F dX1_countHeld_24 rfl 2 rfl (by decide) rfl ?_
    refine z_goto F dX1_countHeld_27 rfl ?_
    refine z_sub [2, 1, 0] rfl ?_
    exact hK4 v23 (x2 + 1) hw
set_option maxRecDepth 100000 in
set_option maxHeartbeats 4000000 in
theorem lp_X1_countHeld_4 {g : En} {p : Program} {l : Launch} {e : Env} {s : State} {m : MethodId} {args : Array Value} {below : List Frame} {meth : Method} {c : Code} {M : Mem} {a0 : Nat} {Q : Int → Prop} {x1 : Int} {x2 : Int} (F : Fx g p s m args meth c cX1_countHeld 3 RX1) (hr : meth.sig.returnType = (some .int)) (k0 : kd a0 = 1)
    (hw : wp_X1_countHeld_L4 a0 Q M x1 x2) : Z g p l e rm_X1_countHeld s m args below meth c 3 (MQ below (va_Qi (S := Int × Mem) (fun r u => r = i3 u.1 ∧ (u.2 = M ∧ Q u.1)) (fun u => Rp g u.2) (aR g)) args s 0 0 (aR g)) M 4 [(0, .ref (g.2.2.1 + a0)), (1, .int (i3 x1)), (2, .int (i3 x2))] [] := by
  obtain ⟨I, μ, h0, hb⟩ := hw
  have key : ∀ (n : Nat) (x1 : Int) (x2 : Int), I x1 x2 → μ x1 x2 < n → Z g p l e rm_X1_countHeld s m args below meth c 3 (MQ below (va_Qi (S := Int × Mem) (fun r u => r = i3 u.1 ∧ (u.2 = M ∧ Q u.1)) (fun u => Rp g u.2) (aR g)) args s 0 0 (aR g)) M 4 [(0, .ref (g.2.2.1 + a0)), (1, .int (i3 x1)), (2, .int (i3 x2))] [] := by
    intro n
    induction n with
    | zero => exact fun _ _ _ h => absurd h (Nat.not_lt_zero _)
    | succ n ih =>
      intro x1 x2 hI hn
      exact bk_X1_countHeld_B4 F hr k0 (fun x1' x2' hk => ih x1' x2' hk.1 (Nat.lt_of_lt_of_le hk.2 (Nat.le_of_lt_succ hn))) (hb x1 x2 hI)
  exact key _ x1 x2 h0 (Nat.lt_succ_self _)
set_option maxRecDepth 100000 in
set_option maxHeartbeats 4000000 in
theorem c_X1_countHeld (l : Launch) (g : En) {a0 : Nat} {M : Mem} {Q : Int → Prop} (k0 : kd a0 = 1) (hw : wp_X1_countHeld a0 M Q) :
    Met l yX1_countHeld (WS yX1_countHeld cX1_countHeld 3 (some .int)) rm_X1_countHeld (va_Pc [.ref (g.2.2.1 + a0)] (Rp g M)) (va_Qi (S := Int × Mem) (fun r u => r = i3 u.1 ∧ (u.2 = M ∧ Q u.1)) (fun u => Rp g u.2) (aR g)) 0 0 (aR g) := by
  refine met_Z (plainFor_of_name rfl) (Nat.le_of_ble_eq_true rfl) ?_
  intro p e s m args below meth c F hr _
  show Z g p l e rm_X1_countHeld s m args below meth c 3 (MQ below (va_Qi (S := Int × Mem) (fun r u => r = i3 u.1 ∧ (u.2 = M ∧ Q u.1)) (fun u => Rp g u.2) (aR g)) args s 0 0 (aR g)) M 0 [(0, .ref (g.2.2.1 + a0))] []
  refine z_iconst F dX1_countHeld_0 rfl ?_
  refine z_istore_n F dX1_countHeld_1 rfl rfl (by decide) rfl ?_
  refine z_iconst F dX1_countHeld_2 rfl ?_
  refine z_istore_n F dX1_countHeld_3 rfl rfl (by decide) rfl ?_
  refine z_sub [2, 1, 0] rfl ?_
  exact lp_X1_countHeld_4 F hr k0 hw
theorem cv_X1_countHeld : CV yX1_countHeld RX1 cX1_countHeld 3 (some .int) 0 := ⟨w_950, w_951, w_68, w_952, rfl, by decide +kernel, by decide +kernel, by decide +kernel⟩
abbrev rm_X2_become : Room := { frames := 1, cells := 0, slots := 0, locals := 40 }
def wp_X2_become (a0 : Nat) (a1 : Nat) (M : Mem) (Q : Mem → Prop) : Prop :=
  (0 ≤ w32 0 ∧ 0 ≤ w32 0 ∧ 0 ≤ w32 (ln (rt a0 0) : Int) ∧ w32 0 + w32 (ln (rt a0 0) : Int) ≤ ln (rt a1 0) ∧ w32 0 + w32 (ln (rt a0 0) : Int) ≤ ln (rt a0 0)) ∧ (
  ∀ M15 : Mem, M15 = cpy M (rt a1 0) (ix 0) (rt a0 0) (ix 0) (ix (ln (rt a0 0) : Int)) →
  Q M15)
set_option maxRecDepth 100000 in
set_option maxHeartbeats 4000000 in
theorem c_X2_become (l : Launch) (g : En) {a0 : Nat} {a1 : Nat} {M : Mem} {Q : Mem → Prop} (k0 : kd a0 = 2) (k1 : kd a1 = 2) (hw : wp_X2_become a0 a1 M Q) :
    Met l yX2_become (WS yX2_become cX2_become 2 none) rm_X2_become (va_Pc [.ref (g.2.2.1 + a0), .ref (g.2.2.1 + a1)] (Rp g M)) (va_Qv (S := Mem) Q (fun u => Rp g u) (aR g)) 0 0 (aR g) := by
  refine met_Z (plainFor_of_name rfl) (Nat.le_of_ble_eq_true rfl) ?_
  intro p e s m args below meth c F hr _
  show Z g p l e rm_X2_become s m args below meth c 2 (MQ below (va_Qv (S := Mem) Q (fun u => Rp g u) (aR g)) args s 0 0 (aR g)) M 0 [(0, .ref (g.2.2.1 + a0)), (1, .ref (g.2.2.1 + a1))] []
  refine z_aload_n F dX2_become_0 rfl rfl 1 rfl ?_
  refine z_getR F fl_107 k1 dX2_become_1 rfl ?_
  refine z_iconst F dX2_become_4 rfl ?_
  refine z_aload_n F dX2_become_5 rfl rfl 0 rfl ?_
  refine z_getR F fl_107 k0 dX2_become_6 rfl ?_
  refine z_iconst F dX2_become_9 rfl ?_
  refine z_aload_n F dX2_become_10 rfl rfl 0 rfl ?_
  refine z_getR F fl_107 k0 dX2_become_11 rfl ?_
  refine z_alen F (tk_2_0 k0) dX2_become_14 rfl ?_
  refine z_copy F (tk_2_0 k1) (tk_2_0 k0) w_932 w_934 w_933 w_83 (by decide) (by decide) dX2_become_15 rfl hw (fun hw => ?_)
  refine z_nmM (fun M15 eM15 => ?_)
  have hw := hw M15 eM15
  exact z_vret F hr dX2_become_18 hw
theorem cv_X2_become : CV yX2_become RX2 cX2_become 2 none 1 := ⟨w_929, w_930, w_69, w_931, rfl, by decide +kernel, by decide +kernel, by decide +kernel⟩
abbrev rm_X1_become : Room := { frames := 2, cells := 0, slots := 0, locals := 61 }
def wp_X1_become_B43 (a0 : Nat) (a1 : Nat) (Q : Mem → Prop) (K43 : Mem → Int → Prop) (M : Mem) (x2 : Int) : Prop :=
  (((w32 5 ≤ w32 x2) → (
    Q M)) ∧
  (¬ (w32 5 ≤ w32 x2) → (
    inb (rt a0 3) x2 ∧ (
    inb (rt a1 3) x2 ∧ (
    wp_X0_become (rt (rt a0 3) (ix x2)) (rt (rt a1 3) (ix x2)) M (fun M60 =>
    K43 M60 (x2 + 1)))))))
def wp_X1_become_L43 (a0 : Nat) (a1 : Nat) (Q : Mem → Prop) (M : Mem) (x2 : Int) : Prop :=
  ∃ (I : Mem → Int → Prop) (μ : Mem → Int → Nat), I M x2 ∧ ∀ (M : Mem) (x2 : Int), I M x2 →
    wp_X1_become_B43 a0 a1 Q (fun M' x2' => I M' x2' ∧ μ M' x2' < μ M x2) M x2
def wp_X1_become (a0 : Nat) (a1 : Nat) (M : Mem) (Q : Mem → Prop) : Prop :=
  wp_X2_become (rt a0 0) (rt a1 0) M (fun M8 =>
  wp_X2_become (rt a0 1) (rt a1 1) M8 (fun M19 =>
  wp_X2_become (rt a0 2) (rt a1 2) M19 (fun M30 =>
  ∀ M38 : Mem, M38 = st2 M30 a0 4 (M30 a1 4) →
  wp_X1_become_L43 a0 a1 Q M38 0)))
set_option maxRecDepth 100000 in
set_option maxHeartbeats 4000000 in
theorem bk_X1_become_B43 {g : En} {p : Program} {l : Launch} {e : Env} {s : State} {m : MethodId} {args : Array Value} {below : List Frame} {meth : Method} {c : Code} {M : Mem} {a0 : Nat} {a1 : Nat} {Q : Mem → Prop} {K43 : Mem → Int → Prop} {x2 : Int} (F : Fx g p s m args meth c cX1_become 3 RX1) (hr : meth.sig.returnType = none) (k0 : kd a0 = 1) (k1 : kd a1 = 1)
    (hK43 : ∀ (M' : Mem) (x2' : Int), K43 M' x2' → Z g p l e rm_X1_become s m args below meth c 3 (MQ below (va_Qv (S := Mem) Q (fun u => Rp g u) (aR g)) args s 0 0 (aR g)) M' 43 [(0, .ref (g.2.2.1 + a0)), (1, .ref (g.2.2.1 + a1)), (2, .int (i3 x2'))] [])
    (hw : wp_X1_become_B43 a0 a1 Q K43 M x2) : Z g p l e rm_X1_become s m args below meth c 3 (MQ below (va_Qv (S := Mem) Q (fun u => Rp g u) (aR g)) args s 0 0 (aR g)) M 43 [(0, .ref (g.2.2.1 + a0)), (1, .ref (g.2.2.1 + a1)), (2, .int (i3 x2))] [] := by
  refine z_iload_n F dX1_become_43 rfl rfl 2 rfl ?_
  refine z_iconst F dX1_become_44 rfl ?_
  refine z_icmp_ge F dX1_become_45 rfl rfl hw (fun hw => ?_) (fun hw => ?_)
  · exact z_vret F hr dX1_become_69 hw
  · refine z_aload_n F dX1_become_48 rfl rfl 0 rfl ?_
    refine z_getR F fl_164 k0 dX1_become_49 rfl ?_
    refine z_iload_n F dX1_become_52 rfl rfl 2 rfl ?_
    have n53 := hw.1
    refine z_aald F 0 (tk_1_3 k0) rfl rfl dX1_become_53 rfl hw (fun hw => ?_)
    refine z_aload_n F dX1_become_54 rfl rfl 1 rfl ?_
    refine z_getR F fl_164 k1 dX1_become_55 rfl ?_
    refine z_iload_n F dX1_become_58 rfl rfl 2 rfl ?_
    have n59 := hw.1
    refine z_aald F 0 (tk_1_3 k1) rfl rfl dX1_become_59 rfl hw (fun hw => ?_)
    refine z_cVv (As := [.ref (g.2.2.1 + (rt (rt a1 3) (ix x2)))]) (st := []) F (c_X0_become l g (tka_15 (tk_1_3 k0) n53) (tka_15 (tk_1_3 k1) n59) hw) cv_X0_become w_935 ⟨rfl, rfl, Nat.le_of_ble_eq_true rfl, Nat.le_of_ble_eq_true rfl⟩ (tka_15 (tk_1_3 k0) n53) rfl rfl (Nat.le_of_ble_eq_true rfl) dX1_become_60 rfl (fun M60 hw => ?_)
    refine z_iinc F dX1_become_63 rfl 2 rfl (by decide) rfl ?_
    refine z_goto F dX1_become_66 rfl ?_
    refine z_sub [1, 2, 0] rfl ?_
    exact hK43 M60 (x2 + 1) hw
set_option maxRecDepth 100000 in
set_option maxHeartbeats 4000000 in
theorem lp_X1_become_43 {g : En} {p : Program} {l : Launch} {e : Env} {s : State} {m : MethodId} {args : Array Value} {below : List Frame} {meth : Method} {c : Code} {M : Mem} {a0 : Nat} {a1 : Nat} {Q : Mem → Prop} {x2 : Int} (F : Fx g p s m args meth c cX1_become 3 RX1) (hr : meth.sig.returnType = none) (k0 : kd a0 = 1) (k1 : kd a1 = 1)
    (hw : wp_X1_become_L43 a0 a1 Q M x2) : Z g p l e rm_X1_become s m args below meth c 3 (MQ below (va_Qv (S := Mem) Q (fun u => Rp g u) (aR g)) args s 0 0 (aR g)) M 43 [(0, .ref (g.2.2.1 + a0)), (1, .ref (g.2.2.1 + a1)), (2, .int (i3 x2))] [] := by
  obtain ⟨I, μ, h0, hb⟩ := hw
  have key : ∀ (n : Nat) (M : Mem) (x2 : Int), I M x2 → μ M x2 < n → Z g p l e rm_X1_become s m args below meth c 3 (MQ below (va_Qv (S := Mem) Q (fun u => Rp g u) (aR g)) args s 0 0 (aR g)) M 43 [(0, .ref (g.2.2.1 + a0)), (1, .ref (g.2.2.1 + a1)), (2, .int (i3 x2))] [] := by
    intro n
    induction n with
    | zero => exact fun _ _ _ h => absurd h (Nat.not_lt_zero _)
    | succ n ih =>
      intro M x2 hI hn
      exact bk_X1_become_B43 F hr k0 k1 (fun M' x2' hk => ih M' x2' hk.1 (Nat.lt_of_lt_of_le hk.2 (Nat.le_of_lt_succ hn))) (hb M x2 hI)
  exact key _ M x2 h0 (Nat.lt_succ_self _)
set_option maxRecDepth 100000 in
set_option maxHeartbeats 4000000 in
theorem c_X1_become (l : Launch) (g : En) {a0 : Nat} {a1 : Nat} {M : Mem} {Q : Mem → Prop} (k0 : kd a0 = 1) (k1 : kd a1 = 1) (hw : wp_X1_become a0 a1 M Q) :
    Met l yX1_become (WS yX1_become cX1_become 3 none) rm_X1_become (va_Pc [.ref (g.2.2.1 + a0), .ref (g.2.2.1 + a1)] (Rp g M)) (va_Qv (S := Mem) Q (fun u => Rp g u) (aR g)) 0 0 (aR g) := by
  refine met_Z (plainFor_of_name rfl) (Nat.le_of_ble_eq_true rfl) ?_
  intro p e s m args below meth c F hr _
  show Z g p l e rm_X1_become s m args below meth c 3 (MQ below (va_Qv (S := Mem) Q (fun u => Rp g u) (aR g)) args s 0 0 (aR g)) M 0 [(0, .ref (g.2.2.1 + a0)), (1, .ref (g.2.2.1 + a1))] []
  refine z_aload_n F dX1_become_0 rfl rfl 0 rfl ?_
  refine z_getR F fl_155 k0 dX1_become_1 rfl ?_
  refine z_aload_n F dX1_become_4 rfl rfl 1 rfl ?_
  refine z_getR F fl_155 k1 dX1_become_5 rfl ?_
  refine z_cVv (As := [.ref (g.2.2.1 + (rt a1 0))]) (st := []) F (c_X2_become l g (tk_1_0 k0) (tk_1_0 k1) hw) cv_X2_become w_928 ⟨rfl, rfl, Nat.le_of_ble_eq_true rfl, Nat.le_of_ble_eq_true rfl⟩ (tk_1_0 k0) rfl rfl (Nat.le_of_ble_eq_true rfl) dX1_become_8 rfl (fun M8 hw => ?_)
  refine z_aload_n F dX1_become_11 rfl rfl 0 rfl ?_
  refine z_getR F fl_158 k0 dX1_become_12 rfl ?_
  refine z_aload_n F dX1_become_15 rfl rfl 1 rfl ?_
  refine z_getR F fl_158 k1 dX1_become_16 rfl ?_
  refine z_cVv (As := [.ref (g.2.2.1 + (rt a1 1))]) (st := []) F (c_X2_become l g (tk_1_1 k0) (tk_1_1 k1) hw) cv_X2_become w_928 ⟨rfl, rfl, Nat.le_of_ble_eq_true rfl, Nat.le_of_ble_eq_true rfl⟩ (tk_1_1 k0) rfl rfl (Nat.le_of_ble_eq_true rfl) dX1_become_19 rfl (fun M19 hw => ?_)
  refine z_aload_n F dX1_become_22 rfl rfl 0 rfl ?_
  refine z_getR F fl_161 k0 dX1_become_23 rfl ?_
  refine z_aload_n F dX1_become_26 rfl rfl 1 rfl ?_
  refine z_getR F fl_161 k1 dX1_become_27 rfl ?_
  refine z_cVv (As := [.ref (g.2.2.1 + (rt a1 2))]) (st := []) F (c_X2_become l g (tk_1_2 k0) (tk_1_2 k1) hw) cv_X2_become w_928 ⟨rfl, rfl, Nat.le_of_ble_eq_true rfl, Nat.le_of_ble_eq_true rfl⟩ (tk_1_2 k0) rfl rfl (Nat.le_of_ble_eq_true rfl) dX1_become_30 rfl (fun M30 hw => ?_)
  refine z_aload_n F dX1_become_33 rfl rfl 0 rfl ?_
  refine z_aload_n F dX1_become_34 rfl rfl 1 rfl ?_
  refine z_getI F fl_170 k1 dX1_become_35 rfl ?_
  refine z_putI F fp_170 k0 dX1_become_38 rfl ?_
  refine z_nmM (fun M38 eM38 => ?_)
  have hw := hw M38 eM38
  refine z_iconst F dX1_become_41 rfl ?_
  refine z_istore_n F dX1_become_42 rfl rfl (by decide) rfl ?_
  refine z_sub [1, 2, 0] rfl ?_
  exact lp_X1_become_43 F hr k0 k1 hw
theorem cv_X1_become : CV yX1_become RX1 cX1_become 3 none 1 := ⟨w_925, w_926, w_68, w_927, rfl, by decide +kernel, by decide +kernel, by decide +kernel⟩
abbrev rm_X2_countTold : Room := { frames := 0, cells := 0, slots := 0, locals := 0 }
def wp_X2_countTold_b26 (a0 : Nat) (Q : Int → Prop) (K4 : Int → Int → Prop) (M : Mem) (x1 : Int) (x2 : Int) : Prop :=
  K4 x1 (x2 + 1)
def wp_X2_countTold_B4 (a0 : Nat) (Q : Int → Prop) (K4 : Int → Int → Prop) (M : Mem) (x1 : Int) (x2 : Int) : Prop :=
  (((w32 60 < w32 x2) → (
    Q x1)) ∧
  (¬ (w32 60 < w32 x2) → (
    inb (rt a0 0) x2 ∧ (
    (((w32 (M (rt a0 0) (ix x2)) = w32 (M a0 1)) → (
      wp_X2_countTold_b26 a0 Q K4 M x1 x2)) ∧
    (¬ (w32 (M (rt a0 0) (ix x2)) = w32 (M a0 1)) → (
      wp_X2_countTold_b26 a0 Q K4 M (x1 + 1) x2)))))))
def wp_X2_countTold_L4 (a0 : Nat) (Q : Int → Prop) (M : Mem) (x1 : Int) (x2 : Int) : Prop :=
  ∃ (I : Int → Int → Prop) (μ : Int → Int → Nat), I x1 x2 ∧ ∀ (x1 : Int) (x2 : Int), I x1 x2 →
    wp_X2_countTold_B4 a0 Q (fun x1' x2' => I x1' x2' ∧ μ x1' x2' < μ x1 x2) M x1 x2
def wp_X2_countTold (a0 : Nat) (M : Mem) (Q : Int → Prop) : Prop :=
  wp_X2_countTold_L4 a0 Q M 0 1
set_option maxRecDepth 100000 in
set_option maxHeartbeats 4000000 in
theorem bk_X2_countTold_26 {g : En} {p : Program} {l : Launch} {e : Env} {s : State} {m : MethodId} {args : Array Value} {below : List Frame} {meth : Method} {c : Code} {M : Mem} {a0 : Nat} {Q : Int → Prop} {K4 : Int → Int → Prop} {x1 : Int} {x2 : Int} (F : Fx g p s m args meth c cX2_countTold 3 RX2) (hr : meth.sig.returnType = (some .int)) (k0 : kd a0 = 2)
    (hK4 : ∀ (x1' : Int) (x2' : Int), K4 x1' x2' → Z g p l e rm_X2_countTold s m args below meth c 3 (MQ below (va_Qi (S := Int × Mem) (fun r u => r = i3 u.1 ∧ (u.2 = M ∧ Q u.1)) (fun u => Rp g u.2) (aR g)) args s 0 0 (aR g)) M 4 [(0, .ref (g.2.2.1 + a0)), (1, .int (i3 x1')), (2, .int (i3 x2'))] [])
    (hw : wp_X2_countTold_b26 a0 Q K4 M x1 x2) : Z g p l e rm_X2_countTold s m args below meth c 3 (MQ below (va_Qi (S := Int × Mem) (fun r u => r = i3 u.1 ∧ (u.2 = M ∧ Q u.1)) (fun u => Rp g u.2) (aR g)) args s 0 0 (aR g)) M 26 [(0, .ref (g.2.2.1 + a0)), (1, .int (i3 x1)), (2, .int (i3 x2))] [] := by
  refine z_iinc F dX2_countTold_26 rfl 2 rfl (by decide) rfl ?_
  refine z_goto F dX2_countTold_29 rfl ?_
  refine z_sub [1, 2, 0] rfl ?_
  exact hK4 x1 (x2 + 1) hw
set_option maxRecDepth 100000 in
set_option maxHeartbeats 4000000 in
theorem bk_X2_countTold_B4 {g : En} {p : Program} {l : Launch} {e : Env} {s : State} {m : MethodId} {args : Array Value} {below : List Frame} {meth : Method} {c : Code} {M : Mem} {a0 : Nat} {Q : Int → Prop} {K4 : Int → Int → Prop} {x1 : Int} {x2 : Int} (F : Fx g p s m args meth c cX2_countTold 3 RX2) (hr : meth.sig.returnType = (some .int)) (k0 : kd a0 = 2)
    (hK4 : ∀ (x1' : Int) (x2' : Int), K4 x1' x2' → Z g p l e rm_X2_countTold s m args below meth c 3 (MQ below (va_Qi (S := Int × Mem) (fun r u => r = i3 u.1 ∧ (u.2 = M ∧ Q u.1)) (fun u => Rp g u.2) (aR g)) args s 0 0 (aR g)) M 4 [(0, .ref (g.2.2.1 + a0)), (1, .int (i3 x1')), (2, .int (i3 x2'))] [])
    (hw : wp_X2_countTold_B4 a0 Q K4 M x1 x2) : Z g p l e rm_X2_countTold s m args below meth c 3 (MQ below (va_Qi (S := Int × Mem) (fun r u => r = i3 u.1 ∧ (u.2 = M ∧ Q u.1)) (fun u => Rp g u.2) (aR g)) args s 0 0 (aR g)) M 4 [(0, .ref (g.2.2.1 + a0)), (1, .int (i3 x1)), (2, .int (i3 x2))] [] := by
  refine z_iload_n F dX2_countTold_4 rfl rfl 2 rfl ?_
  refine z_bipush F dX2_countTold_5 (by decide) rfl ?_
  refine z_icmp_gt F dX2_countTold_7 rfl rfl hw (fun hw => ?_) (fun hw => ?_)
  · refine z_iload_n F dX2_countTold_32 rfl rfl 1 rfl ?_
    exact z_iretp (x := x1) F hr dX2_countTold_33 hw
  · refine z_aload_n F dX2_countTold_10 rfl rfl 0 rfl ?_
    refine z_getR F fl_107 k0 dX2_countTold_11 rfl ?_
    refine z_iload_n F dX2_countTold_14 rfl rfl 2 rfl ?_
    refine z_iald F (tk_2_0 k0) dX2_countTold_15 rfl hw (fun hw => ?_)
    refine z_aload_n F dX2_countTold_16 rfl rfl 0 rfl ?_
    refine z_getI F fl_109 k0 dX2_countTold_17 rfl ?_
    refine z_icmp_eq F dX2_countTold_20 rfl rfl hw (fun hw => ?_) (fun hw => ?_)
    · refine z_sub [0, 1, 2] rfl ?_
      exact bk_X2_countTold_26 F hr k0 hK4 hw
    · refine z_iinc F dX2_countTold_23 rfl 1 rfl (by decide) rfl ?_
      refine z_sub [1, 0, 2] rfl ?_
      exact bk_X2_countTold_26 F hr k0 hK4 hw
set_option maxRecDepth 100000 in
set_option maxHeartbeats 4000000 in
theorem lp_X2_countTold_4 {g : En} {p : Program} {l : Launch} {e : Env} {s : State} {m : MethodId} {args : Array Value} {below : List Frame} {meth : Method} {c : Code} {M : Mem} {a0 : Nat} {Q : Int → Prop} {x1 : Int} {x2 : Int} (F : Fx g p s m args meth c cX2_countTold 3 RX2) (hr : meth.sig.returnType = (some .int)) (k0 : kd a0 = 2)
    (hw : wp_X2_countTold_L4 a0 Q M x1 x2) : Z g p l e rm_X2_countTold s m args below meth c 3 (MQ below (va_Qi (S := Int × Mem) (fun r u => r = i3 u.1 ∧ (u.2 = M ∧ Q u.1)) (fun u => Rp g u.2) (aR g)) args s 0 0 (aR g)) M 4 [(0, .ref (g.2.2.1 + a0)), (1, .int (i3 x1)), (2, .int (i3 x2))] [] := by
  obtain ⟨I, μ, h0, hb⟩ := hw
  have key : ∀ (n : Nat) (x1 : Int) (x2 : Int), I x1 x2 → μ x1 x2 < n → Z g p l e rm_X2_countTold s m args below meth c 3 (MQ below (va_Qi (S := Int × Mem) (fun r u => r = i3 u.1 ∧ (u.2 = M ∧ Q u.1)) (fun u => Rp g u.2) (aR g)) args s 0 0 (aR g)) M 4 [(0, .ref (g.2.2.1 + a0)), (1, .int (i3 x1)), (2, .int (i3 x2))] [] := by
    intro n
    induction n with
    | zero => exact fun _ _ _ h => absurd h (Nat.not_lt_zero _)
    | succ n ih =>
      intro x1 x2 hI hn
      exact bk_X2_countTold_B4 F hr k0 (fun x1' x2' hk => ih x1' x2' hk.1 (Nat.lt_of_lt_of_le hk.2 (Nat.le_of_lt_succ hn))) (hb x1 x2 hI)
  exact key _ x1 x2 h0 (Nat.lt_succ_self _)
set_option maxRecDepth 100000 in
set_option maxHeartbeats 4000000 in
theorem c_X2_countTold (l : Launch) (g : En) {a0 : Nat} {M : Mem} {Q : Int → Prop} (k0 : kd a0 = 2) (hw : wp_X2_countTold a0 M Q) :
    Met l yX2_countTold (WS yX2_countTold cX2_countTold 3 (some .int)) rm_X2_countTold (va_Pc [.ref (g.2.2.1 + a0)] (Rp g M)) (va_Qi (S := Int × Mem) (fun r u => r = i3 u.1 ∧ (u.2 = M ∧ Q u.1)) (fun u => Rp g u.2) (aR g)) 0 0 (aR g) := by
  refine met_Z (plainFor_of_name rfl) (Nat.le_of_ble_eq_true rfl) ?_
  intro p e s m args below meth c F hr _
  show Z g p l e rm_X2_countTold s m args below meth c 3 (MQ below (va_Qi (S := Int × Mem) (fun r u => r = i3 u.1 ∧ (u.2 = M ∧ Q u.1)) (fun u => Rp g u.2) (aR g)) args s 0 0 (aR g)) M 0 [(0, .ref (g.2.2.1 + a0))] []
  refine z_iconst F dX2_countTold_0 rfl ?_
  refine z_istore_n F dX2_countTold_1 rfl rfl (by decide) rfl ?_
  refine z_iconst F dX2_countTold_2 rfl ?_
  refine z_istore_n F dX2_countTold_3 rfl rfl (by decide) rfl ?_
  refine z_sub [2, 1, 0] rfl ?_
  exact lp_X2_countTold_4 F hr k0 hw
theorem cv_X2_countTold : CV yX2_countTold RX2 cX2_countTold 3 (some .int) 0 := ⟨w_515, w_516, w_69, w_517, rfl, by decide +kernel, by decide +kernel, by decide +kernel⟩
abbrev rm_X2_tell : Room := { frames := 1, cells := 0, slots := 0, locals := 22 }
def wp_X2_tell_b37 (a0 : Nat) (Q : Int → Mem → Prop) (M : Mem) (x1 : Int) (x2 : Int) (x3 : Int) : Prop :=
  inb (rt a0 0) x1 ∧ (
  ∀ M43 : Mem, M43 = st2 M (rt a0 0) (ix x1) x2 →
  Q x3 M43)
def wp_X2_tell (a0 : Nat) (a1 : Int) (a2 : Int) (M : Mem) (Q : Int → Mem → Prop) : Prop :=
  inb (rt a0 0) a1 ∧ (
  (((w32 a2 = w32 (M a0 1)) → (
    wp_X2_tell_b37 a0 Q M a1 a2 (M (rt a0 0) (ix a1)))) ∧
  (¬ (w32 a2 = w32 (M a0 1)) → (
    (((¬ w32 (M (rt a0 0) (ix a1)) = w32 (M a0 1)) → (
      wp_X2_tell_b37 a0 Q M a1 a2 (M (rt a0 0) (ix a1)))) ∧
    (¬ (¬ w32 (M (rt a0 0) (ix a1)) = w32 (M a0 1)) → (
      wp_X2_countTold a0 M (fun r24 =>
      (((w32 r24 < w32 (M a0 2)) → (
        wp_X2_tell_b37 a0 Q M a1 a2 (M (rt a0 0) (ix a1)))) ∧
      (¬ (w32 r24 < w32 (M a0 2)) → (
        Q (-4) M)))))))))))
set_option maxRecDepth 100000 in
set_option maxHeartbeats 4000000 in
theorem bk_X2_tell_37 {g : En} {p : Program} {l : Launch} {e : Env} {s : State} {m : MethodId} {args : Array Value} {below : List Frame} {meth : Method} {c : Code} {M : Mem} {a0 : Nat} {Q : Int → Mem → Prop} {x1 : Int} {x2 : Int} {x3 : Int} (F : Fx g p s m args meth c cX2_tell 4 RX2) (hr : meth.sig.returnType = (some .int)) (k0 : kd a0 = 2)
    (hw : wp_X2_tell_b37 a0 Q M x1 x2 x3) : Z g p l e rm_X2_tell s m args below meth c 4 (MQ below (va_Qi (S := Int × Mem) (fun r u => r = i3 u.1 ∧ Q u.1 u.2) (fun u => Rp g u.2) (aR g)) args s 0 0 (aR g)) M 37 [(0, .ref (g.2.2.1 + a0)), (1, .int (i3 x1)), (2, .int (i3 x2)), (3, .int (i3 x3))] [] := by
  refine z_aload_n F dX2_tell_37 rfl rfl 0 rfl ?_
  refine z_getR F fl_107 k0 dX2_tell_38 rfl ?_
  refine z_iload_n F dX2_tell_41 rfl rfl 1 rfl ?_
  refine z_iload_n F dX2_tell_42 rfl rfl 2 rfl ?_
  refine z_iast F (tk_2_0 k0) dX2_tell_43 rfl hw (fun hw => ?_)
  refine z_nmM (fun M43 eM43 => ?_)
  have hw := hw M43 eM43
  refine z_iload_n F dX2_tell_44 rfl rfl 3 rfl ?_
  exact z_iret (x := x3) F hr dX2_tell_45 hw
set_option maxRecDepth 100000 in
set_option maxHeartbeats 4000000 in
theorem c_X2_tell (l : Launch) (g : En) {a0 : Nat} {a1 : Int} {a2 : Int} {M : Mem} {Q : Int → Mem → Prop} (k0 : kd a0 = 2) (hw : wp_X2_tell a0 a1 a2 M Q) :
    Met l yX2_tell (WS yX2_tell cX2_tell 4 (some .int)) rm_X2_tell (va_Pc [.ref (g.2.2.1 + a0), .int (i3 a1), .int (i3 a2)] (Rp g M)) (va_Qi (S := Int × Mem) (fun r u => r = i3 u.1 ∧ Q u.1 u.2) (fun u => Rp g u.2) (aR g)) 0 0 (aR g) := by
  refine met_Z (plainFor_of_name rfl) (Nat.le_of_ble_eq_true rfl) ?_
  intro p e s m args below meth c F hr _
  show Z g p l e rm_X2_tell s m args below meth c 4 (MQ below (va_Qi (S := Int × Mem) (fun r u => r = i3 u.1 ∧ Q u.1 u.2) (fun u => Rp g u.2) (aR g)) args s 0 0 (aR g)) M 0 [(0, .ref (g.2.2.1 + a0)), (1, .int (i3 a1)), (2, .int (i3 a2))] []
  refine z_aload_n F dX2_tell_0 rfl rfl 0 rfl ?_
  refine z_getR F fl_107 k0 dX2_tell_1 rfl ?_
  refine z_iload_n F dX2_tell_4 rfl rfl 1 rfl ?_
  refine z_iald F (tk_2_0 k0) dX2_tell_5 rfl hw (fun hw => ?_)
  refine z_istore_n F dX2_tell_6 rfl rfl (by decide) rfl ?_
  refine z_iload_n F dX2_tell_7 rfl rfl 3 rfl ?_
  refine z_aload_n F dX2_tell_8 rfl rfl 1 rfl ?_
  refine z_getI F fl_109 k0 dX2_tell_9 rfl ?_
  refine z_icmp_eq F dX2_tell_12 rfl rfl hw (fun hw => ?_) (fun hw => ?_)
  · refine z_sub [1, 2, 3, 0] rfl ?_
    exact bk_X2_tell_37 F hr k0 hw
  · refine z_iload_n F dX2_tell_15 rfl rfl 0 rfl ?_
    refine z_aload_n F dX2_tell_16 rfl rfl 1 rfl ?_
    refine z_getI F fl_109 k0 dX2_tell_17 rfl ?_
    refine z_icmp_ne F dX2_tell_20 rfl rfl hw (fun hw => ?_) (fun hw => ?_)
    · refine z_sub [1, 2, 3, 0] rfl ?_
      exact bk_X2_tell_37 F hr k0 hw
    · refine z_aload_n F dX2_tell_23 rfl rfl 1 rfl ?_
      refine z_cVip (As := []) (st := []) F (c_X2_countTold l g k0 hw) cv_X2_countTold w_514 ⟨rfl, rfl, Nat.le_of_ble_eq_true rfl, Nat.le_of_ble_eq_true rfl⟩ k0 rfl rfl (Nat.le_of_ble_eq_true rfl) dX2_tell_24 rfl (fun r24 hw => ?_)
      refine z_aload_n F dX2_tell_27 rfl rfl 1 rfl ?_
      refine z_getI F fl_110 k0 dX2_tell_28 rfl ?_
      refine z_icmp_lt F dX2_tell_31 rfl rfl hw (fun hw => ?_) (fun hw => ?_)
      · refine z_sub [1, 2, 3, 0] rfl ?_
        exact bk_X2_tell_37 F hr k0 hw
      · refine z_bipush F dX2_tell_34 (by decide) rfl ?_
        exact z_iret (x := (-4)) F hr dX2_tell_36 hw
theorem cv_X2_tell : CV yX2_tell RX2 cX2_tell 4 (some .int) 2 := ⟨w_511, w_512, w_69, w_513, rfl, by decide +kernel, by decide +kernel, by decide +kernel⟩
abbrev rm_X4_reduce : Room := { frames := 0, cells := 0, slots := 0, locals := 0 }
def wp_X4_reduce_b29 (a0 : Nat) (Q : Mem → Prop) (M : Mem) : Prop :=
  ∀ M31 : Mem, M31 = st2 M a0 2 (bz true) →
  Q M31
def wp_X4_reduce_b91 (a0 : Nat) (Q : Mem → Prop) (M : Mem) (x1 : Int) (x3 : Int) (x7 : Int) : Prop :=
  (((w64 x7 ≤ w64 0) → (
    Q M)) ∧
  (¬ (w64 x7 ≤ w64 0) → (
    w64 x7 ≠ 0 ∧ (
    ∀ M103 : Mem, M103 = st2 M a0 0 ((w64 x1).tdiv (w64 x7)) →
    w64 x7 ≠ 0 ∧ (
    ∀ M111 : Mem, M111 = st2 M103 a0 1 ((w64 x3).tdiv (w64 x7)) →
    Q M111)))))
def wp_X4_reduce_B55 (a0 : Nat) (Q : Mem → Prop) (K55 : Int → Int → Int → Prop) (M : Mem) (x1 : Int) (x3 : Int) (x5 : Int) (x7 : Int) (x9 : Int) : Prop :=
  (((w32 200 ≤ w32 x9) → (
    wp_X4_reduce_b91 a0 Q M x1 x3 x7)) ∧
  (¬ (w32 200 ≤ w32 x9) → (
    (((w64 x5 ≤ w64 0) → (
      wp_X4_reduce_b91 a0 Q M x1 x3 x7)) ∧
    (¬ (w64 x5 ≤ w64 0) → (
      w64 x5 ≠ 0 ∧ (
      K55 ((w64 x7).tmod (w64 x5)) x5 (x9 + 1))))))))
def wp_X4_reduce_L55 (a0 : Nat) (Q : Mem → Prop) (M : Mem) (x1 : Int) (x3 : Int) (x5 : Int) (x7 : Int) (x9 : Int) : Prop :=
  ∃ (I : Int → Int → Int → Prop) (μ : Int → Int → Int → Nat), I x5 x7 x9 ∧ ∀ (x5 : Int) (x7 : Int) (x9 : Int), I x5 x7 x9 →
    wp_X4_reduce_B55 a0 Q (fun x5' x7' x9' => I x5' x7' x9' ∧ μ x5' x7' x9' < μ x5 x7 x9) M x1 x3 x5 x7 x9
def wp_X4_reduce_b47 (a0 : Nat) (Q : Mem → Prop) (M : Mem) (s0 : Int) (x1 : Int) (x3 : Int) : Prop :=
  wp_X4_reduce_L55 a0 Q M x1 x3 s0 x3 0
def wp_X4_reduce (a0 : Nat) (a1 : Int) (a2 : Int) (M : Mem) (Q : Mem → Prop) : Prop :=
  (((fb M a0 2) = true → (
    wp_X4_reduce_b29 a0 Q M)) ∧
  ((fb M a0 2) = false → (
    (((w64 a1 = w64 (-9223372036854775808)) → (
      wp_X4_reduce_b29 a0 Q M)) ∧
    (¬ (w64 a1 = w64 (-9223372036854775808)) → (
      (((w64 a2 = w64 (-9223372036854775808)) → (
        wp_X4_reduce_b29 a0 Q M)) ∧
      (¬ (w64 a2 = w64 (-9223372036854775808)) → (
        (((w64 0 < w64 a2) → (
          (((w64 0 ≤ w64 a1) → (
            wp_X4_reduce_b47 a0 Q M a1 a1 a2)) ∧
          (¬ (w64 0 ≤ w64 a1) → (
            wp_X4_reduce_b47 a0 Q M (-a1) a1 a2))))) ∧
        (¬ (w64 0 < w64 a2) → (
          wp_X4_reduce_b29 a0 Q M))))))))))))
set_option maxRecDepth 100000 in
set_option maxHeartbeats 4000000 in
theorem bk_X4_reduce_29 {g : En} {p : Program} {l : Launch} {e : Env} {s : State} {m : MethodId} {args : Array Value} {below : List Frame} {meth : Method} {c : Code} {M : Mem} {a0 : Nat} {Q : Mem → Prop} (F : Fx g p s m args meth c cX4_reduce 12 RX4) (hr : meth.sig.returnType = none) (k0 : kd a0 = 4)
    (hw : wp_X4_reduce_b29 a0 Q M) : Z g p l e rm_X4_reduce s m args below meth c 12 (MQ below (va_Qv (S := Mem) Q (fun u => Rp g u) (aR g)) args s 0 0 (aR g)) M 29 [(0, .ref (g.2.2.1 + a0))] [] := by
  refine z_aload_n F dX4_reduce_29 rfl rfl 0 rfl ?_
  refine z_iconst F dX4_reduce_30 rfl ?_
  refine z_putB (r := true) F fp_270 k0 dX4_reduce_31 rfl ?_
  refine z_nmM (fun M31 eM31 => ?_)
  have hw := hw M31 eM31
  exact z_vret F hr dX4_reduce_34 hw
set_option maxRecDepth 100000 in
set_option maxHeartbeats 4000000 in
theorem bk_X4_reduce_91 {g : En} {p : Program} {l : Launch} {e : Env} {s : State} {m : MethodId} {args : Array Value} {below : List Frame} {meth : Method} {c : Code} {M : Mem} {a0 : Nat} {Q : Mem → Prop} {x1 : Int} {x3 : Int} {x7 : Int} (F : Fx g p s m args meth c cX4_reduce 12 RX4) (hr : meth.sig.returnType = none) (k0 : kd a0 = 4)
    (hw : wp_X4_reduce_b91 a0 Q M x1 x3 x7) : Z g p l e rm_X4_reduce s m args below meth c 12 (MQ below (va_Qv (S := Mem) Q (fun u => Rp g u) (aR g)) args s 0 0 (aR g)) M 91 [(0, .ref (g.2.2.1 + a0)), (1, .long (i6 x1)), (3, .long (i6 x3)), (7, .long (i6 x7))] [] := by
  refine z_lload F dX4_reduce_91 rfl 3 rfl ?_
  refine z_lconst (v := 0) F dX4_reduce_93 rfl rfl ?_
  refine z_lcmp_le F dX4_reduce_94 rfl dX4_reduce_95 rfl rfl hw (fun hw => ?_) (fun hw => ?_)
  · exact z_vret F hr dX4_reduce_114 hw
  · refine z_aload_n F dX4_reduce_98 rfl rfl 0 rfl ?_
    refine z_lload_n F dX4_reduce_99 rfl rfl 1 rfl ?_
    refine z_lload F dX4_reduce_100 rfl 3 rfl ?_
    refine z_ldiv F dX4_reduce_102 rfl hw (fun hw => ?_)
    refine z_putL F fp_266 k0 dX4_reduce_103 rfl ?_
    refine z_nmM (fun M103 eM103 => ?_)
    have hw := hw M103 eM103
    refine z_aload_n F dX4_reduce_106 rfl rfl 0 rfl ?_
    refine z_lload_n F dX4_reduce_107 rfl rfl 2 rfl ?_
    refine z_lload F dX4_reduce_108 rfl 3 rfl ?_
    refine z_ldiv F dX4_reduce_110 rfl hw (fun hw => ?_)
    refine z_putL F fp_269 k0 dX4_reduce_111 rfl ?_
    refine z_nmM (fun M111 eM111 => ?_)
    have hw := hw M111 eM111
    exact z_vret F hr dX4_reduce_114 hw
set_option maxRecDepth 100000 in
set_option maxHeartbeats 4000000 in
theorem bk_X4_reduce_B55 {g : En} {p : Program} {l : Launch} {e : Env} {s : State} {m : MethodId} {args : Array Value} {below : List Frame} {meth : Method} {c : Code} {M : Mem} {a0 : Nat} {Q : Mem → Prop} {K55 : Int → Int → Int → Prop} {x1 : Int} {x3 : Int} {x5 : Int} {x7 : Int} {x9 : Int} (F : Fx g p s m args meth c cX4_reduce 12 RX4) (hr : meth.sig.returnType = none) (k0 : kd a0 = 4)
    (hK55 : ∀ (x5' : Int) (x7' : Int) (x9' : Int), K55 x5' x7' x9' → Z g p l e rm_X4_reduce s m args below meth c 12 (MQ below (va_Qv (S := Mem) Q (fun u => Rp g u) (aR g)) args s 0 0 (aR g)) M 55 [(0, .ref (g.2.2.1 + a0)), (1, .long (i6 x1)), (3, .long (i6 x3)), (5, .long (i6 x5')), (7, .long (i6 x7')), (9, .int (i3 x9'))] [])
    (hw : wp_X4_reduce_B55 a0 Q K55 M x1 x3 x5 x7 x9) : Z g p l e rm_X4_reduce s m args below meth c 12 (MQ below (va_Qv (S := Mem) Q (fun u => Rp g u) (aR g)) args s 0 0 (aR g)) M 55 [(0, .ref (g.2.2.1 + a0)), (1, .long (i6 x1)), (3, .long (i6 x3)), (5, .long (i6 x5)), (7, .long (i6 x7)), (9, .int (i3 x9))] [] := by
  refine z_iload F dX4_reduce_55 rfl 5 rfl ?_
  refine z_sipush F dX4_reduce_57 (by decide) rfl ?_
  refine z_icmp_ge F dX4_reduce_60 rfl rfl hw (fun hw => ?_) (fun hw => ?_)
  · refine z_sub [0, 1, 2, 4] rfl ?_
    exact bk_X4_reduce_91 F hr k0 hw
  · refine z_lload F dX4_reduce_63 rfl 3 rfl ?_
    refine z_lconst (v := 0) F dX4_reduce_65 rfl rfl ?_
    refine z_lcmp_le F dX4_reduce_66 rfl dX4_reduce_67 rfl rfl hw (fun hw => ?_) (fun hw => ?_)
    · refine z_sub [0, 1, 2, 4] rfl ?_
      exact bk_X4_reduce_91 F hr k0 hw
    · refine z_lload F dX4_reduce_70 rfl 4 rfl ?_
      refine z_lload F dX4_reduce_72 rfl 3 rfl ?_
      refine z_lrem F dX4_reduce_74 rfl hw (fun hw => ?_)
      refine z_lstore F dX4_reduce_75 rfl (by decide) rfl ?_
      refine z_lload F dX4_reduce_77 rfl 4 rfl ?_
      refine z_lstore F dX4_reduce_79 rfl (by decide) rfl ?_
      refine z_lload F dX4_reduce_81 rfl 1 rfl ?_
      refine z_lstore F dX4_reduce_83 rfl (by decide) rfl ?_
      refine z_iinc F dX4_reduce_85 rfl 6 rfl (by decide) rfl ?_
      refine z_goto F dX4_reduce_88 rfl ?_
      refine z_sub [4, 5, 6, 1, 2, 0] rfl ?_
      exact hK55 ((w64 x7).tmod (w64 x5)) x5 (x9 + 1) hw
set_option maxRecDepth 100000 in
set_option maxHeartbeats 4000000 in
theorem lp_X4_reduce_55 {g : En} {p : Program} {l : Launch} {e : Env} {s : State} {m : MethodId} {args : Array Value} {below : List Frame} {meth : Method} {c : Code} {M : Mem} {a0 : Nat} {Q : Mem → Prop} {x1 : Int} {x3 : Int} {x5 : Int} {x7 : Int} {x9 : Int} (F : Fx g p s m args meth c cX4_reduce 12 RX4) (hr : meth.sig.returnType = none) (k0 : kd a0 = 4)
    (hw : wp_X4_reduce_L55 a0 Q M x1 x3 x5 x7 x9) : Z g p l e rm_X4_reduce s m args below meth c 12 (MQ below (va_Qv (S := Mem) Q (fun u => Rp g u) (aR g)) args s 0 0 (aR g)) M 55 [(0, .ref (g.2.2.1 + a0)), (1, .long (i6 x1)), (3, .long (i6 x3)), (5, .long (i6 x5)), (7, .long (i6 x7)), (9, .int (i3 x9))] [] := by
  obtain ⟨I, μ, h0, hb⟩ := hw
  have key : ∀ (n : Nat) (x5 : Int) (x7 : Int) (x9 : Int), I x5 x7 x9 → μ x5 x7 x9 < n → Z g p l e rm_X4_reduce s m args below meth c 12 (MQ below (va_Qv (S := Mem) Q (fun u => Rp g u) (aR g)) args s 0 0 (aR g)) M 55 [(0, .ref (g.2.2.1 + a0)), (1, .long (i6 x1)), (3, .long (i6 x3)), (5, .long (i6 x5)), (7, .long (i6 x7)), (9, .int (i3 x9))] [] := by
    intro n
    induction n with
    | zero => exact fun _ _ _ _ h => absurd h (Nat.not_lt_zero _)
    | succ n ih =>
      intro x5 x7 x9 hI hn
      exact bk_X4_reduce_B55 F hr k0 (fun x5' x7' x9' hk => ih x5' x7' x9' hk.1 (Nat.lt_of_lt_of_le hk.2 (Nat.le_of_lt_succ hn))) (hb x5 x7 x9 hI)
  exact key _ x5 x7 x9 h0 (Nat.lt_succ_self _)
set_option maxRecDepth 100000 in
set_option maxHeartbeats 4000000 in
theorem bk_X4_reduce_47 {g : En} {p : Program} {l : Launch} {e : Env} {s : State} {m : MethodId} {args : Array Value} {below : List Frame} {meth : Method} {c : Code} {M : Mem} {a0 : Nat} {Q : Mem → Prop} {s0 : Int} {x1 : Int} {x3 : Int} (F : Fx g p s m args meth c cX4_reduce 12 RX4) (hr : meth.sig.returnType = none) (k0 : kd a0 = 4)
    (hw : wp_X4_reduce_b47 a0 Q M s0 x1 x3) : Z g p l e rm_X4_reduce s m args below meth c 12 (MQ below (va_Qv (S := Mem) Q (fun u => Rp g u) (aR g)) args s 0 0 (aR g)) M 47 [(0, .ref (g.2.2.1 + a0)), (1, .long (i6 x1)), (3, .long (i6 x3))] [.long (i6 s0)] := by
  refine z_lstore F dX4_reduce_47 rfl (by decide) rfl ?_
  refine z_lload_n F dX4_reduce_49 rfl rfl 3 rfl ?_
  refine z_lstore F dX4_reduce_50 rfl (by decide) rfl ?_
  refine z_iconst F dX4_reduce_52 rfl ?_
  refine z_istore F dX4_reduce_53 rfl (by decide) rfl ?_
  refine z_sub [3, 4, 5, 2, 1, 0] rfl ?_
  exact lp_X4_reduce_55 F hr k0 hw
set_option maxRecDepth 100000 in
set_option maxHeartbeats 4000000 in
theorem c_X4_reduce (l : Launch) (g : En) {a0 : Nat} {a1 : Int} {a2 : Int} {M : Mem} {Q : Mem → Prop} (k0 : kd a0 = 4) (hw : wp_X4_reduce a0 a1 a2 M Q) :
    Met l yX4_reduce (WS yX4_reduce cX4_reduce 12 none) rm_X4_reduce (va_Pc [.ref (g.2.2.1 + a0), .long (i6 a1), .long (i6 a2)] (Rp g M)) (va_Qv (S := Mem) Q (fun u => Rp g u) (aR g)) 0 0 (aR g) := by
  refine met_Z (plainFor_of_name rfl) (Nat.le_of_ble_eq_true rfl) ?_
  intro p e s m args below meth c F hr _
  show Z g p l e rm_X4_reduce s m args below meth c 12 (MQ below (va_Qv (S := Mem) Q (fun u => Rp g u) (aR g)) args s 0 0 (aR g)) M 0 [(0, .ref (g.2.2.1 + a0)), (1, .long (i6 a1)), (3, .long (i6 a2))] []
  refine z_aload_n F dX4_reduce_0 rfl rfl 0 rfl ?_
  refine z_getB F fl_270 k0 dX4_reduce_1 rfl ?_
  refine z_ifb_ne F dX4_reduce_4 rfl rfl hw (fun hw => ?_) (fun hw => ?_)
  · refine z_sub [0] rfl ?_
    exact bk_X4_reduce_29 F hr k0 hw
  · refine z_lload_n F dX4_reduce_7 rfl rfl 1 rfl ?_
    refine z_ldc2 (n := (-9223372036854775808)) F w_673 (by decide) dX4_reduce_8 rfl ?_
    refine z_lcmp_eq F dX4_reduce_11 rfl dX4_reduce_12 rfl rfl hw (fun hw => ?_) (fun hw => ?_)
    · refine z_sub [0] rfl ?_
      exact bk_X4_reduce_29 F hr k0 hw
    · refine z_lload_n F dX4_reduce_15 rfl rfl 2 rfl ?_
      refine z_ldc2 (n := (-9223372036854775808)) F w_673 (by decide) dX4_reduce_16 rfl ?_
      refine z_lcmp_eq F dX4_reduce_19 rfl dX4_reduce_20 rfl rfl hw (fun hw => ?_) (fun hw => ?_)
      · refine z_sub [0] rfl ?_
        exact bk_X4_reduce_29 F hr k0 hw
      · refine z_lload_n F dX4_reduce_23 rfl rfl 2 rfl ?_
        refine z_lconst (v := 0) F dX4_reduce_24 rfl rfl ?_
        refine z_lcmp_gt F dX4_reduce_25 rfl dX4_reduce_26 rfl rfl hw (fun hw => ?_) (fun hw => ?_)
        · refine z_lload_n F dX4_reduce_35 rfl rfl 1 rfl ?_
          refine z_lconst (v := 0) F dX4_reduce_36 rfl rfl ?_
          refine z_lcmp_ge F dX4_reduce_37 rfl dX4_reduce_38 rfl rfl hw (fun hw => ?_) (fun hw => ?_)
          · refine z_lload_n F dX4_reduce_46 rfl rfl 1 rfl ?_
            refine z_sub [0, 1, 2] rfl ?_
            exact bk_X4_reduce_47 F hr k0 hw
          · refine z_lload_n F dX4_reduce_41 rfl rfl 1 rfl ?_
            refine z_lneg F dX4_reduce_42 rfl ?_
            refine z_goto F dX4_reduce_43 rfl ?_
            refine z_sub [0, 1, 2] rfl ?_
            exact bk_X4_reduce_47 F hr k0 hw
        · refine z_sub [0] rfl ?_
          exact bk_X4_reduce_29 F hr k0 hw
theorem cv_X4_reduce : CV yX4_reduce RX4 cX4_reduce 12 none 2 := ⟨w_671, w_9, w_74, w_672, rfl, by decide +kernel, by decide +kernel, by decide +kernel⟩
abbrev rm_X4_become : Room := { frames := 1, cells := 0, slots := 0, locals := 31 }
def wp_X4_become (a0 : Nat) (a1 : Int) (a2 : Int) (M : Mem) (Q : Mem → Prop) : Prop :=
  ∀ M2 : Mem, M2 = st2 M a0 2 (bz false) →
  wp_X4_reduce a0 a1 a2 M2 (fun M8 =>
  Q M8)
set_option maxRecDepth 100000 in
set_option maxHeartbeats 4000000 in
theorem c_X4_become (l : Launch) (g : En) {a0 : Nat} {a1 : Int} {a2 : Int} {M : Mem} {Q : Mem → Prop} (k0 : kd a0 = 4) (hw : wp_X4_become a0 a1 a2 M Q) :
    Met l yX4_become (WS yX4_become cX4_become 5 none) rm_X4_become (va_Pc [.ref (g.2.2.1 + a0), .long (i6 a1), .long (i6 a2)] (Rp g M)) (va_Qv (S := Mem) Q (fun u => Rp g u) (aR g)) 0 0 (aR g) := by
  refine met_Z (plainFor_of_name rfl) (Nat.le_of_ble_eq_true rfl) ?_
  intro p e s m args below meth c F hr _
  show Z g p l e rm_X4_become s m args below meth c 5 (MQ below (va_Qv (S := Mem) Q (fun u => Rp g u) (aR g)) args s 0 0 (aR g)) M 0 [(0, .ref (g.2.2.1 + a0)), (1, .long (i6 a1)), (3, .long (i6 a2))] []
  refine z_aload_n F dX4_become_0 rfl rfl 0 rfl ?_
  refine z_iconst F dX4_become_1 rfl ?_
  refine z_putB (r := false) F fp_270 k0 dX4_become_2 rfl ?_
  refine z_nmM (fun M2 eM2 => ?_)
  have hw := hw M2 eM2
  refine z_aload_n F dX4_become_5 rfl rfl 0 rfl ?_
  refine z_lload_n F dX4_become_6 rfl rfl 1 rfl ?_
  refine z_lload_n F dX4_become_7 rfl rfl 2 rfl ?_
  refine z_cVv (As := [.long (i6 a1), .long (i6 a2)]) (st := []) F (c_X4_reduce l g k0 hw) cv_X4_reduce w_669 ⟨rfl, rfl, Nat.le_of_ble_eq_true rfl, Nat.le_of_ble_eq_true rfl⟩ k0 rfl rfl (Nat.le_of_ble_eq_true rfl) dX4_become_8 rfl (fun M8 hw => ?_)
  exact z_vret F hr dX4_become_11 hw
theorem cv_X4_become : CV yX4_become RX4 cX4_become 5 none 2 := ⟨w_666, w_667, w_74, w_668, rfl, by decide +kernel, by decide +kernel, by decide +kernel⟩
abbrev rm_X7_begin : Room := { frames := 2, cells := 0, slots := 0, locals := 55 }
def wp_X7_begin_B16 (a0 : Nat) (Q : Mem → Prop) (K16 : Mem → Int → Prop) (M : Mem) (x2 : Int) : Prop :=
  (((w32 5 ≤ w32 x2) → (
    Q M)) ∧
  (¬ (w32 5 ≤ w32 x2) → (
    inb (rt a0 2) x2 ∧ (
    wp_X4_become (rt (rt a0 2) (ix x2)) 0 1 M (fun M29 =>
    K16 M29 (x2 + 1))))))
def wp_X7_begin_L16 (a0 : Nat) (Q : Mem → Prop) (M : Mem) (x2 : Int) : Prop :=
  ∃ (I : Mem → Int → Prop) (μ : Mem → Int → Nat), I M x2 ∧ ∀ (M : Mem) (x2 : Int), I M x2 →
    wp_X7_begin_B16 a0 Q (fun M' x2' => I M' x2' ∧ μ M' x2' < μ M x2) M x2
def wp_X7_begin (a0 : Nat) (a1 : Int) (M : Mem) (Q : Mem → Prop) : Prop :=
  ∀ M2 : Mem, M2 = st2 M a0 0 a1 →
  wp_X4_become (rt a0 1) 0 1 M2 (fun M11 =>
  wp_X7_begin_L16 a0 Q M11 0)
set_option maxRecDepth 100000 in
set_option maxHeartbeats 4000000 in
theorem bk_X7_begin_B16 {g : En} {p : Program} {l : Launch} {e : Env} {s : State} {m : MethodId} {args : Array Value} {below : List Frame} {meth : Method} {c : Code} {M : Mem} {a0 : Nat} {Q : Mem → Prop} {K16 : Mem → Int → Prop} {x2 : Int} (F : Fx g p s m args meth c cX7_begin 3 RX7) (hr : meth.sig.returnType = none) (k0 : kd a0 = 7)
    (hK16 : ∀ (M' : Mem) (x2' : Int), K16 M' x2' → Z g p l e rm_X7_begin s m args below meth c 3 (MQ below (va_Qv (S := Mem) Q (fun u => Rp g u) (aR g)) args s 0 0 (aR g)) M' 16 [(0, .ref (g.2.2.1 + a0)), (2, .int (i3 x2'))] [])
    (hw : wp_X7_begin_B16 a0 Q K16 M x2) : Z g p l e rm_X7_begin s m args below meth c 3 (MQ below (va_Qv (S := Mem) Q (fun u => Rp g u) (aR g)) args s 0 0 (aR g)) M 16 [(0, .ref (g.2.2.1 + a0)), (2, .int (i3 x2))] [] := by
  refine z_iload_n F dX7_begin_16 rfl rfl 1 rfl ?_
  refine z_iconst F dX7_begin_17 rfl ?_
  refine z_icmp_ge F dX7_begin_18 rfl rfl hw (fun hw => ?_) (fun hw => ?_)
  · exact z_vret F hr dX7_begin_38 hw
  · refine z_aload_n F dX7_begin_21 rfl rfl 0 rfl ?_
    refine z_getR F fl_327 k0 dX7_begin_22 rfl ?_
    refine z_iload_n F dX7_begin_25 rfl rfl 1 rfl ?_
    have n26 := hw.1
    refine z_aald F 1 (tk_7_2 k0) rfl rfl dX7_begin_26 rfl hw (fun hw => ?_)
    refine z_lconst (v := 0) F dX7_begin_27 rfl rfl ?_
    refine z_lconst (v := 1) F dX7_begin_28 rfl rfl ?_
    refine z_cVv (As := [.long (i6 0), .long (i6 1)]) (st := []) F (c_X4_become l g (tka_16 (tk_7_2 k0) n26) hw) cv_X4_become w_746 ⟨rfl, rfl, Nat.le_of_ble_eq_true rfl, Nat.le_of_ble_eq_true rfl⟩ (tka_16 (tk_7_2 k0) n26) rfl rfl (Nat.le_of_ble_eq_true rfl) dX7_begin_29 rfl (fun M29 hw => ?_)
    refine z_iinc F dX7_begin_32 rfl 1 rfl (by decide) rfl ?_
    refine z_goto F dX7_begin_35 rfl ?_
    refine z_sub [1, 0] rfl ?_
    exact hK16 M29 (x2 + 1) hw
set_option maxRecDepth 100000 in
set_option maxHeartbeats 4000000 in
theorem lp_X7_begin_16 {g : En} {p : Program} {l : Launch} {e : Env} {s : State} {m : MethodId} {args : Array Value} {below : List Frame} {meth : Method} {c : Code} {M : Mem} {a0 : Nat} {Q : Mem → Prop} {x2 : Int} (F : Fx g p s m args meth c cX7_begin 3 RX7) (hr : meth.sig.returnType = none) (k0 : kd a0 = 7)
    (hw : wp_X7_begin_L16 a0 Q M x2) : Z g p l e rm_X7_begin s m args below meth c 3 (MQ below (va_Qv (S := Mem) Q (fun u => Rp g u) (aR g)) args s 0 0 (aR g)) M 16 [(0, .ref (g.2.2.1 + a0)), (2, .int (i3 x2))] [] := by
  obtain ⟨I, μ, h0, hb⟩ := hw
  have key : ∀ (n : Nat) (M : Mem) (x2 : Int), I M x2 → μ M x2 < n → Z g p l e rm_X7_begin s m args below meth c 3 (MQ below (va_Qv (S := Mem) Q (fun u => Rp g u) (aR g)) args s 0 0 (aR g)) M 16 [(0, .ref (g.2.2.1 + a0)), (2, .int (i3 x2))] [] := by
    intro n
    induction n with
    | zero => exact fun _ _ _ h => absurd h (Nat.not_lt_zero _)
    | succ n ih =>
      intro M x2 hI hn
      exact bk_X7_begin_B16 F hr k0 (fun M' x2' hk => ih M' x2' hk.1 (Nat.lt_of_lt_of_le hk.2 (Nat.le_of_lt_succ hn))) (hb M x2 hI)
  exact key _ M x2 h0 (Nat.lt_succ_self _)
set_option maxRecDepth 100000 in
set_option maxHeartbeats 4000000 in
theorem c_X7_begin (l : Launch) (g : En) {a0 : Nat} {a1 : Int} {M : Mem} {Q : Mem → Prop} (k0 : kd a0 = 7) (hw : wp_X7_begin a0 a1 M Q) :
    Met l yX7_begin (WS yX7_begin cX7_begin 3 none) rm_X7_begin (va_Pc [.ref (g.2.2.1 + a0), .int (i3 a1)] (Rp g M)) (va_Qv (S := Mem) Q (fun u => Rp g u) (aR g)) 0 0 (aR g) := by
  refine met_Z (plainFor_of_name rfl) (Nat.le_of_ble_eq_true rfl) ?_
  intro p e s m args below meth c F hr _
  show Z g p l e rm_X7_begin s m args below meth c 3 (MQ below (va_Qv (S := Mem) Q (fun u => Rp g u) (aR g)) args s 0 0 (aR g)) M 0 [(0, .ref (g.2.2.1 + a0)), (1, .int (i3 a1))] []
  refine z_aload_n F dX7_begin_0 rfl rfl 0 rfl ?_
  refine z_iload_n F dX7_begin_1 rfl rfl 1 rfl ?_
  refine z_putI F fp_322 k0 dX7_begin_2 rfl ?_
  refine z_nmM (fun M2 eM2 => ?_)
  have hw := hw M2 eM2
  refine z_aload_n F dX7_begin_5 rfl rfl 0 rfl ?_
  refine z_getR F fl_324 k0 dX7_begin_6 rfl ?_
  refine z_lconst (v := 0) F dX7_begin_9 rfl rfl ?_
  refine z_lconst (v := 1) F dX7_begin_10 rfl rfl ?_
  refine z_cVv (As := [.long (i6 0), .long (i6 1)]) (st := []) F (c_X4_become l g (tk_7_1 k0) hw) cv_X4_become w_746 ⟨rfl, rfl, Nat.le_of_ble_eq_true rfl, Nat.le_of_ble_eq_true rfl⟩ (tk_7_1 k0) rfl rfl (Nat.le_of_ble_eq_true rfl) dX7_begin_11 rfl (fun M11 hw => ?_)
  refine z_iconst F dX7_begin_14 rfl ?_
  refine z_istore_n F dX7_begin_15 rfl rfl (by decide) rfl ?_
  refine z_sub [1, 0] rfl ?_
  exact lp_X7_begin_16 F hr k0 hw
theorem cv_X7_begin : CV yX7_begin RX7 cX7_begin 3 none 1 := ⟨w_743, w_744, w_76, w_745, rfl, by decide +kernel, by decide +kernel, by decide +kernel⟩
abbrev rm_X4_become_ : Room := { frames := 0, cells := 0, slots := 0, locals := 0 }
def wp_X4_become_ (a0 : Nat) (a1 : Nat) (M : Mem) (Q : Mem → Prop) : Prop :=
  ∀ M5 : Mem, M5 = st2 M a0 0 (M a1 0) →
  ∀ M13 : Mem, M13 = st2 M5 a0 1 (M5 a1 1) →
  ∀ M21 : Mem, M21 = st2 M13 a0 2 (bz (fb M13 a1 2)) →
  Q M21
set_option maxRecDepth 100000 in
set_option maxHeartbeats 4000000 in
theorem c_X4_become_ (l : Launch) (g : En) {a0 : Nat} {a1 : Nat} {M : Mem} {Q : Mem → Prop} (k0 : kd a0 = 4) (k1 : kd a1 = 4) (hw : wp_X4_become_ a0 a1 M Q) :
    Met l yX4_become_ (WS yX4_become_ cX4_become_ 2 none) rm_X4_become_ (va_Pc [.ref (g.2.2.1 + a0), .ref (g.2.2.1 + a1)] (Rp g M)) (va_Qv (S := Mem) Q (fun u => Rp g u) (aR g)) 0 0 (aR g) := by
  refine met_Z (plainFor_of_name rfl) (Nat.le_of_ble_eq_true rfl) ?_
  intro p e s m args below meth c F hr _
  show Z g p l e rm_X4_become_ s m args below meth c 2 (MQ below (va_Qv (S := Mem) Q (fun u => Rp g u) (aR g)) args s 0 0 (aR g)) M 0 [(0, .ref (g.2.2.1 + a0)), (1, .ref (g.2.2.1 + a1))] []
  refine z_aload_n F dX4_become__0 rfl rfl 0 rfl ?_
  refine z_aload_n F dX4_become__1 rfl rfl 1 rfl ?_
  refine z_getL F fl_266 k1 dX4_become__2 rfl ?_
  refine z_putL F fp_266 k0 dX4_become__5 rfl ?_
  refine z_nmM (fun M5 eM5 => ?_)
  have hw := hw M5 eM5
  refine z_aload_n F dX4_become__8 rfl rfl 0 rfl ?_
  refine z_aload_n F dX4_become__9 rfl rfl 1 rfl ?_
  refine z_getL F fl_269 k1 dX4_become__10 rfl ?_
  refine z_putL F fp_269 k0 dX4_become__13 rfl ?_
  refine z_nmM (fun M13 eM13 => ?_)
  have hw := hw M13 eM13
  refine z_aload_n F dX4_become__16 rfl rfl 0 rfl ?_
  refine z_aload_n F dX4_become__17 rfl rfl 1 rfl ?_
  refine z_getB F fl_270 k1 dX4_become__18 rfl ?_
  refine z_putB (r := (fb M13 a1 2)) F fp_270 k0 dX4_become__21 rfl ?_
  refine z_nmM (fun M21 eM21 => ?_)
  have hw := hw M21 eM21
  exact z_vret F hr dX4_become__24 hw
theorem cv_X4_become_ : CV yX4_become_ RX4 cX4_become_ 2 none 1 := ⟨w_716, w_717, w_74, w_718, rfl, by decide +kernel, by decide +kernel, by decide +kernel⟩
abbrev rm_X7_become : Room := { frames := 1, cells := 0, slots := 0, locals := 21 }
def wp_X7_become_B13 (a0 : Nat) (a1 : Nat) (Q : Mem → Prop) (K13 : Mem → Int → Prop) (M : Mem) (x2 : Int) : Prop :=
  (((w32 5 ≤ w32 x2) → (
    Q M)) ∧
  (¬ (w32 5 ≤ w32 x2) → (
    inb (rt a0 2) x2 ∧ (
    inb (rt a1 2) x2 ∧ (
    wp_X4_become_ (rt (rt a0 2) (ix x2)) (rt (rt a1 2) (ix x2)) M (fun M30 =>
    K13 M30 (x2 + 1)))))))
def wp_X7_become_L13 (a0 : Nat) (a1 : Nat) (Q : Mem → Prop) (M : Mem) (x2 : Int) : Prop :=
  ∃ (I : Mem → Int → Prop) (μ : Mem → Int → Nat), I M x2 ∧ ∀ (M : Mem) (x2 : Int), I M x2 →
    wp_X7_become_B13 a0 a1 Q (fun M' x2' => I M' x2' ∧ μ M' x2' < μ M x2) M x2
def wp_X7_become (a0 : Nat) (a1 : Nat) (M : Mem) (Q : Mem → Prop) : Prop :=
  wp_X4_become_ (rt a0 1) (rt a1 1) M (fun M8 =>
  wp_X7_become_L13 a0 a1 Q M8 0)
set_option maxRecDepth 100000 in
set_option maxHeartbeats 4000000 in
theorem bk_X7_become_B13 {g : En} {p : Program} {l : Launch} {e : Env} {s : State} {m : MethodId} {args : Array Value} {below : List Frame} {meth : Method} {c : Code} {M : Mem} {a0 : Nat} {a1 : Nat} {Q : Mem → Prop} {K13 : Mem → Int → Prop} {x2 : Int} (F : Fx g p s m args meth c cX7_become 3 RX7) (hr : meth.sig.returnType = none) (k0 : kd a0 = 7) (k1 : kd a1 = 7)
    (hK13 : ∀ (M' : Mem) (x2' : Int), K13 M' x2' → Z g p l e rm_X7_become s m args below meth c 3 (MQ below (va_Qv (S := Mem) Q (fun u => Rp g u) (aR g)) args s 0 0 (aR g)) M' 13 [(0, .ref (g.2.2.1 + a0)), (1, .ref (g.2.2.1 + a1)), (2, .int (i3 x2'))] [])
    (hw : wp_X7_become_B13 a0 a1 Q K13 M x2) : Z g p l e rm_X7_become s m args below meth c 3 (MQ below (va_Qv (S := Mem) Q (fun u => Rp g u) (aR g)) args s 0 0 (aR g)) M 13 [(0, .ref (g.2.2.1 + a0)), (1, .ref (g.2.2.1 + a1)), (2, .int (i3 x2))] [] := by
  refine z_iload_n F dX7_become_13 rfl rfl 2 rfl ?_
  refine z_iconst F dX7_become_14 rfl ?_
  refine z_icmp_ge F dX7_become_15 rfl rfl hw (fun hw => ?_) (fun hw => ?_)
  · exact z_vret F hr dX7_become_39 hw
  · refine z_aload_n F dX7_become_18 rfl rfl 0 rfl ?_
    refine z_getR F fl_327 k0 dX7_become_19 rfl ?_
    refine z_iload_n F dX7_become_22 rfl rfl 2 rfl ?_
    have n23 := hw.1
    refine z_aald F 1 (tk_7_2 k0) rfl rfl dX7_become_23 rfl hw (fun hw => ?_)
    refine z_aload_n F dX7_become_24 rfl rfl 1 rfl ?_
    refine z_getR F fl_327 k1 dX7_become_25 rfl ?_
    refine z_iload_n F dX7_become_28 rfl rfl 2 rfl ?_
    have n29 := hw.1
    refine z_aald F 1 (tk_7_2 k1) rfl rfl dX7_become_29 rfl hw (fun hw => ?_)
    refine z_cVv (As := [.ref (g.2.2.1 + (rt (rt a1 2) (ix x2)))]) (st := []) F (c_X4_become_ l g (tka_16 (tk_7_2 k0) n23) (tka_16 (tk_7_2 k1) n29) hw) cv_X4_become_ w_756 ⟨rfl, rfl, Nat.le_of_ble_eq_true rfl, Nat.le_of_ble_eq_true rfl⟩ (tka_16 (tk_7_2 k0) n23) rfl rfl (Nat.le_of_ble_eq_true rfl) dX7_become_30 rfl (fun M30 hw => ?_)
    refine z_iinc F dX7_become_33 rfl 2 rfl (by decide) rfl ?_
    refine z_goto F dX7_become_36 rfl ?_
    refine z_sub [1, 2, 0] rfl ?_
    exact hK13 M30 (x2 + 1) hw
set_option maxRecDepth 100000 in
set_option maxHeartbeats 4000000 in
theorem lp_X7_become_13 {g : En} {p : Program} {l : Launch} {e : Env} {s : State} {m : MethodId} {args : Array Value} {below : List Frame} {meth : Method} {c : Code} {M : Mem} {a0 : Nat} {a1 : Nat} {Q : Mem → Prop} {x2 : Int} (F : Fx g p s m args meth c cX7_become 3 RX7) (hr : meth.sig.returnType = none) (k0 : kd a0 = 7) (k1 : kd a1 = 7)
    (hw : wp_X7_become_L13 a0 a1 Q M x2) : Z g p l e rm_X7_become s m args below meth c 3 (MQ below (va_Qv (S := Mem) Q (fun u => Rp g u) (aR g)) args s 0 0 (aR g)) M 13 [(0, .ref (g.2.2.1 + a0)), (1, .ref (g.2.2.1 + a1)), (2, .int (i3 x2))] [] := by
  obtain ⟨I, μ, h0, hb⟩ := hw
  have key : ∀ (n : Nat) (M : Mem) (x2 : Int), I M x2 → μ M x2 < n → Z g p l e rm_X7_become s m args below meth c 3 (MQ below (va_Qv (S := Mem) Q (fun u => Rp g u) (aR g)) args s 0 0 (aR g)) M 13 [(0, .ref (g.2.2.1 + a0)), (1, .ref (g.2.2.1 + a1)), (2, .int (i3 x2))] [] := by
    intro n
    induction n with
    | zero => exact fun _ _ _ h => absurd h (Nat.not_lt_zero _)
    | succ n ih =>
      intro M x2 hI hn
      exact bk_X7_become_B13 F hr k0 k1 (fun M' x2' hk => ih M' x2' hk.1 (Nat.lt_of_lt_of_le hk.2 (Nat.le_of_lt_succ hn))) (hb M x2 hI)
  exact key _ M x2 h0 (Nat.lt_succ_self _)
set_option maxRecDepth 100000 in
set_option maxHeartbeats 4000000 in
theorem c_X7_become (l : Launch) (g : En) {a0 : Nat} {a1 : Nat} {M : Mem} {Q : Mem → Prop} (k0 : kd a0 = 7) (k1 : kd a1 = 7) (hw : wp_X7_become a0 a1 M Q) :
    Met l yX7_become (WS yX7_become cX7_become 3 none) rm_X7_become (va_Pc [.ref (g.2.2.1 + a0), .ref (g.2.2.1 + a1)] (Rp g M)) (va_Qv (S := Mem) Q (fun u => Rp g u) (aR g)) 0 0 (aR g) := by
  refine met_Z (plainFor_of_name rfl) (Nat.le_of_ble_eq_true rfl) ?_
  intro p e s m args below meth c F hr _
  show Z g p l e rm_X7_become s m args below meth c 3 (MQ below (va_Qv (S := Mem) Q (fun u => Rp g u) (aR g)) args s 0 0 (aR g)) M 0 [(0, .ref (g.2.2.1 + a0)), (1, .ref (g.2.2.1 + a1))] []
  refine z_aload_n F dX7_become_0 rfl rfl 0 rfl ?_
  refine z_getR F fl_324 k0 dX7_become_1 rfl ?_
  refine z_aload_n F dX7_become_4 rfl rfl 1 rfl ?_
  refine z_getR F fl_324 k1 dX7_become_5 rfl ?_
  refine z_cVv (As := [.ref (g.2.2.1 + (rt a1 1))]) (st := []) F (c_X4_become_ l g (tk_7_1 k0) (tk_7_1 k1) hw) cv_X4_become_ w_756 ⟨rfl, rfl, Nat.le_of_ble_eq_true rfl, Nat.le_of_ble_eq_true rfl⟩ (tk_7_1 k0) rfl rfl (Nat.le_of_ble_eq_true rfl) dX7_become_8 rfl (fun M8 hw => ?_)
  refine z_iconst F dX7_become_11 rfl ?_
  refine z_istore_n F dX7_become_12 rfl rfl (by decide) rfl ?_
  refine z_sub [1, 2, 0] rfl ?_
  exact lp_X7_become_13 F hr k0 k1 hw
theorem cv_X7_become : CV yX7_become RX7 cX7_become 3 none 1 := ⟨w_753, w_754, w_76, w_755, rfl, by decide +kernel, by decide +kernel, by decide +kernel⟩
abbrev rm_X4_becomeFactor : Room := { frames := 2, cells := 0, slots := 0, locals := 55 }
def wp_X4_becomeFactor (a0 : Nat) (a1 : Int) (M : Mem) (Q : Mem → Prop) : Prop :=
  wp_X4_become a0 (w32 (4 + a1)) 4 M (fun M8 =>
  Q M8)
set_option maxRecDepth 100000 in
set_option maxHeartbeats 4000000 in
theorem c_X4_becomeFactor (l : Launch) (g : En) {a0 : Nat} {a1 : Int} {M : Mem} {Q : Mem → Prop} (k0 : kd a0 = 4) (hw : wp_X4_becomeFactor a0 a1 M Q) :
    Met l yX4_becomeFactor (WS yX4_becomeFactor cX4_becomeFactor 2 none) rm_X4_becomeFactor (va_Pc [.ref (g.2.2.1 + a0), .int (i3 a1)] (Rp g M)) (va_Qv (S := Mem) Q (fun u => Rp g u) (aR g)) 0 0 (aR g) := by
  refine met_Z (plainFor_of_name rfl) (Nat.le_of_ble_eq_true rfl) ?_
  intro p e s m args below meth c F hr _
  show Z g p l e rm_X4_becomeFactor s m args below meth c 2 (MQ below (va_Qv (S := Mem) Q (fun u => Rp g u) (aR g)) args s 0 0 (aR g)) M 0 [(0, .ref (g.2.2.1 + a0)), (1, .int (i3 a1))] []
  refine z_aload_n F dX4_becomeFactor_0 rfl rfl 0 rfl ?_
  refine z_iconst F dX4_becomeFactor_1 rfl ?_
  refine z_iload_n F dX4_becomeFactor_2 rfl rfl 1 rfl ?_
  refine z_iadd F dX4_becomeFactor_3 rfl ?_
  refine z_i2l F dX4_becomeFactor_4 rfl ?_
  refine z_ldc2 (n := 4) F w_678 (by decide) dX4_becomeFactor_5 rfl ?_
  refine z_cVv (As := [.long (i6 (w32 (4 + a1))), .long (i6 4)]) (st := []) F (c_X4_become l g k0 hw) cv_X4_become w_679 ⟨rfl, rfl, Nat.le_of_ble_eq_true rfl, Nat.le_of_ble_eq_true rfl⟩ k0 rfl rfl (Nat.le_of_ble_eq_true rfl) dX4_becomeFactor_8 rfl (fun M8 hw => ?_)
  exact z_vret F hr dX4_becomeFactor_11 hw
theorem cv_X4_becomeFactor : CV yX4_becomeFactor RX4 cX4_becomeFactor 2 none 1 := ⟨w_675, w_676, w_74, w_677, rfl, by decide +kernel, by decide +kernel, by decide +kernel⟩
abbrev rm_X4_product : Room := { frames := 0, cells := 0, slots := 0, locals := 0 }
def wp_X4_product_b40  (Q : Int → Prop) (M : Mem) (s0 : Int) (x0 : Int) (x2 : Int) (x4 : Int) : Prop :=
  w64 s0 ≠ 0 ∧ (
  (((w64 x4 ≤ w64 ((w64 9223372036854775807).tdiv (w64 s0))) → (
    Q (x0 * x2))) ∧
  (¬ (w64 x4 ≤ w64 ((w64 9223372036854775807).tdiv (w64 s0))) → (
    Q (-9223372036854775808)))))
def wp_X4_product_b26  (Q : Int → Prop) (M : Mem) (s0 : Int) (x0 : Int) (x2 : Int) : Prop :=
  (((w64 0 ≤ w64 x2) → (
    wp_X4_product_b40 Q M x2 x0 x2 s0)) ∧
  (¬ (w64 0 ≤ w64 x2) → (
    wp_X4_product_b40 Q M (-x2) x0 x2 s0)))
def wp_X4_product (a0 : Int) (a1 : Int) (M : Mem) (Q : Int → Prop) : Prop :=
  (((w64 a0 = w64 0) → (
    Q 0)) ∧
  (¬ (w64 a0 = w64 0) → (
    (((¬ w64 a1 = w64 0) → (
      (((w64 0 ≤ w64 a0) → (
        wp_X4_product_b26 Q M a0 a0 a1)) ∧
      (¬ (w64 0 ≤ w64 a0) → (
        wp_X4_product_b26 Q M (-a0) a0 a1))))) ∧
    (¬ (¬ w64 a1 = w64 0) → (
      Q 0))))))
set_option maxRecDepth 100000 in
set_option maxHeartbeats 4000000 in
theorem bk_X4_product_40 {g : En} {p : Program} {l : Launch} {e : Env} {s : State} {m : MethodId} {args : Array Value} {below : List Frame} {meth : Method} {c : Code} {M : Mem} {Q : Int → Prop} {s0 : Int} {x0 : Int} {x2 : Int} {x4 : Int} (F : Fx g p s m args meth c cX4_product 8 RX4) (hr : meth.sig.returnType = (some .long))
    (hw : wp_X4_product_b40 Q M s0 x0 x2 x4) : Z g p l e rm_X4_product s m args below meth c 8 (MQ below (va_Ql (S := Int × Mem) (fun r u => r = i6 u.1 ∧ (u.2 = M ∧ Q u.1)) (fun u => Rp g u.2) (aR g)) args s 0 0 (aR g)) M 40 [(0, .long (i6 x0)), (2, .long (i6 x2)), (4, .long (i6 x4))] [.long (i6 s0)] := by
  refine z_lstore F dX4_product_40 rfl (by decide) rfl ?_
  refine z_lload F dX4_product_42 rfl 3 rfl ?_
  refine z_ldc2 (n := 9223372036854775807) F w_687 (by decide) dX4_product_44 rfl ?_
  refine z_lload F dX4_product_47 rfl 0 rfl ?_
  refine z_ldiv F dX4_product_49 rfl hw (fun hw => ?_)
  refine z_lcmp_le F dX4_product_50 rfl dX4_product_51 rfl rfl hw (fun hw => ?_) (fun hw => ?_)
  · refine z_lload_n F dX4_product_60 rfl rfl 1 rfl ?_
    refine z_lload_n F dX4_product_61 rfl rfl 2 rfl ?_
    refine z_lmul F dX4_product_62 rfl ?_
    exact z_lretp (x := (x0 * x2)) F hr dX4_product_63 hw
  · refine z_ldc2 (n := (-9223372036854775808)) F w_673 (by decide) dX4_product_54 rfl ?_
    refine z_goto F dX4_product_57 rfl ?_
    exact z_lretp (x := (-9223372036854775808)) F hr dX4_product_63 hw
set_option maxRecDepth 100000 in
set_option maxHeartbeats 4000000 in
theorem bk_X4_product_26 {g : En} {p : Program} {l : Launch} {e : Env} {s : State} {m : MethodId} {args : Array Value} {below : List Frame} {meth : Method} {c : Code} {M : Mem} {Q : Int → Prop} {s0 : Int} {x0 : Int} {x2 : Int} (F : Fx g p s m args meth c cX4_product 8 RX4) (hr : meth.sig.returnType = (some .long))
    (hw : wp_X4_product_b26 Q M s0 x0 x2) : Z g p l e rm_X4_product s m args below meth c 8 (MQ below (va_Ql (S := Int × Mem) (fun r u => r = i6 u.1 ∧ (u.2 = M ∧ Q u.1)) (fun u => Rp g u.2) (aR g)) args s 0 0 (aR g)) M 26 [(0, .long (i6 x0)), (2, .long (i6 x2))] [.long (i6 s0)] := by
  refine z_lstore F dX4_product_26 rfl (by decide) rfl ?_
  refine z_lload_n F dX4_product_28 rfl rfl 2 rfl ?_
  refine z_lconst (v := 0) F dX4_product_29 rfl rfl ?_
  refine z_lcmp_ge F dX4_product_30 rfl dX4_product_31 rfl rfl hw (fun hw => ?_) (fun hw => ?_)
  · refine z_lload_n F dX4_product_39 rfl rfl 2 rfl ?_
    refine z_sub [1, 2, 0] rfl ?_
    exact bk_X4_product_40 F hr  hw
  · refine z_lload_n F dX4_product_34 rfl rfl 2 rfl ?_
    refine z_lneg F dX4_product_35 rfl ?_
    refine z_goto F dX4_product_36 rfl ?_
    refine z_sub [1, 2, 0] rfl ?_
    exact bk_X4_product_40 F hr  hw
set_option maxRecDepth 100000 in
set_option maxHeartbeats 4000000 in
theorem c_X4_product (l : Launch) (g : En) {a0 : Int} {a1 : Int} {M : Mem} {Q : Int → Prop} (hw : wp_X4_product a0 a1 M Q) :
    Met l yX4_product (WS yX4_product cX4_product 8 (some .long)) rm_X4_product (va_Pc [.long (i6 a0), .long (i6 a1)] (Rp g M)) (va_Ql (S := Int × Mem) (fun r u => r = i6 u.1 ∧ (u.2 = M ∧ Q u.1)) (fun u => Rp g u.2) (aR g)) 0 0 (aR g) := by
  refine met_Z (plainFor_of_name rfl) (Nat.le_of_ble_eq_true rfl) ?_
  intro p e s m args below meth c F hr _
  show Z g p l e rm_X4_product s m args below meth c 8 (MQ below (va_Ql (S := Int × Mem) (fun r u => r = i6 u.1 ∧ (u.2 = M ∧ Q u.1)) (fun u => Rp g u.2) (aR g)) args s 0 0 (aR g)) M 0 [(0, .long (i6 a0)), (2, .long (i6 a1))] []
  refine z_lload_n F dX4_product_0 rfl rfl 0 rfl ?_
  refine z_lconst (v := 0) F dX4_product_1 rfl rfl ?_
  refine z_lcmp_eq F dX4_product_2 rfl dX4_product_3 rfl rfl hw (fun hw => ?_) (fun hw => ?_)
  · refine z_lconst (v := 0) F dX4_product_12 rfl rfl ?_
    exact z_lretp (x := 0) F hr dX4_product_13 hw
  · refine z_lload_n F dX4_product_6 rfl rfl 1 rfl ?_
    refine z_lconst (v := 0) F dX4_product_7 rfl rfl ?_
    refine z_lcmp_ne F dX4_product_8 rfl dX4_product_9 rfl rfl hw (fun hw => ?_) (fun hw => ?_)
    · refine z_lload_n F dX4_product_14 rfl rfl 0 rfl ?_
      refine z_lconst (v := 0) F dX4_product_15 rfl rfl ?_
      refine z_lcmp_ge F dX4_product_16 rfl dX4_product_17 rfl rfl hw (fun hw => ?_) (fun hw => ?_)
      · refine z_lload_n F dX4_product_25 rfl rfl 0 rfl ?_
        refine z_sub [0, 1] rfl ?_
        exact bk_X4_product_26 F hr  hw
      · refine z_lload_n F dX4_product_20 rfl rfl 0 rfl ?_
        refine z_lneg F dX4_product_21 rfl ?_
        refine z_goto F dX4_product_22 rfl ?_
        refine z_sub [0, 1] rfl ?_
        exact bk_X4_product_26 F hr  hw
    · refine z_lconst (v := 0) F dX4_product_12 rfl rfl ?_
      exact z_lretp (x := 0) F hr dX4_product_13 hw
theorem cs_X4_product : CS yX4_product cX4_product 8 (some .long) 2 := ⟨w_685, w_74, w_686, by decide +kernel, by decide +kernel, by decide +kernel⟩
abbrev rm_X4_multiply : Room := { frames := 1, cells := 0, slots := 0, locals := 31 }
def wp_X4_multiply_b20 (a0 : Nat) (a1 : Nat) (Q : Mem → Prop) (M : Mem) (s1 : Bool) : Prop :=
  ∀ M20 : Mem, M20 = st2 M a0 2 (bz s1) →
  wp_X4_product (M20 a0 0) (M20 a1 0) M20 (fun r32 =>
  wp_X4_product (M20 a0 1) (M20 a1 1) M20 (fun r43 =>
  wp_X4_reduce a0 r32 r43 M20 (fun M46 =>
  Q M46)))
def wp_X4_multiply_b15 (a0 : Nat) (a1 : Nat) (Q : Mem → Prop) (M : Mem) : Prop :=
  wp_X4_multiply_b20 a0 a1 Q M true
def wp_X4_multiply (a0 : Nat) (a1 : Nat) (M : Mem) (Q : Mem → Prop) : Prop :=
  (((fb M a0 2) = true → (
    wp_X4_multiply_b15 a0 a1 Q M)) ∧
  ((fb M a0 2) = false → (
    (((fb M a1 2) = false → (
      wp_X4_multiply_b20 a0 a1 Q M false)) ∧
    ((fb M a1 2) = true → (
      wp_X4_multiply_b15 a0 a1 Q M))))))
set_option maxRecDepth 100000 in
set_option maxHeartbeats 4000000 in
theorem bk_X4_multiply_20 {g : En} {p : Program} {l : Launch} {e : Env} {s : State} {m : MethodId} {args : Array Value} {below : List Frame} {meth : Method} {c : Code} {M : Mem} {a0 : Nat} {a1 : Nat} {Q : Mem → Prop} {s1 : Bool} (F : Fx g p s m args meth c cX4_multiply 2 RX4) (hr : meth.sig.returnType = none) (k0 : kd a0 = 4) (k1 : kd a1 = 4)
    (hw : wp_X4_multiply_b20 a0 a1 Q M s1) : Z g p l e rm_X4_multiply s m args below meth c 2 (MQ below (va_Qv (S := Mem) Q (fun u => Rp g u) (aR g)) args s 0 0 (aR g)) M 20 [(0, .ref (g.2.2.1 + a0)), (1, .ref (g.2.2.1 + a1))] [.int (i3 (bz s1)), .ref (g.2.2.1 + a0)] := by
  refine z_putB (r := s1) F fp_270 k0 dX4_multiply_20 rfl ?_
  refine z_nmM (fun M20 eM20 => ?_)
  have hw := hw M20 eM20
  refine z_aload_n F dX4_multiply_23 rfl rfl 0 rfl ?_
  refine z_aload_n F dX4_multiply_24 rfl rfl 0 rfl ?_
  refine z_getL F fl_266 k0 dX4_multiply_25 rfl ?_
  refine z_aload_n F dX4_multiply_28 rfl rfl 1 rfl ?_
  refine z_getL F fl_266 k1 dX4_multiply_29 rfl ?_
  refine z_cSlp (As := [.long (i6 (M20 a0 0)), .long (i6 (M20 a1 0))]) (st := [.ref (g.2.2.1 + a0)]) F (c_X4_product l g hw) cs_X4_product w_684 ⟨rfl, rfl, Nat.le_of_ble_eq_true rfl, Nat.le_of_ble_eq_true rfl⟩ rfl (Nat.le_of_ble_eq_true rfl) dX4_multiply_32 rfl (fun r32 hw => ?_)
  refine z_aload_n F dX4_multiply_35 rfl rfl 0 rfl ?_
  refine z_getL F fl_269 k0 dX4_multiply_36 rfl ?_
  refine z_aload_n F dX4_multiply_39 rfl rfl 1 rfl ?_
  refine z_getL F fl_269 k1 dX4_multiply_40 rfl ?_
  refine z_cSlp (As := [.long (i6 (M20 a0 1)), .long (i6 (M20 a1 1))]) (st := [.long (i6 r32), .ref (g.2.2.1 + a0)]) F (c_X4_product l g hw) cs_X4_product w_684 ⟨rfl, rfl, Nat.le_of_ble_eq_true rfl, Nat.le_of_ble_eq_true rfl⟩ rfl (Nat.le_of_ble_eq_true rfl) dX4_multiply_43 rfl (fun r43 hw => ?_)
  refine z_cVv (As := [.long (i6 r32), .long (i6 r43)]) (st := []) F (c_X4_reduce l g k0 hw) cv_X4_reduce w_669 ⟨rfl, rfl, Nat.le_of_ble_eq_true rfl, Nat.le_of_ble_eq_true rfl⟩ k0 rfl rfl (Nat.le_of_ble_eq_true rfl) dX4_multiply_46 rfl (fun M46 hw => ?_)
  exact z_vret F hr dX4_multiply_49 hw
set_option maxRecDepth 100000 in
set_option maxHeartbeats 4000000 in
theorem bk_X4_multiply_15 {g : En} {p : Program} {l : Launch} {e : Env} {s : State} {m : MethodId} {args : Array Value} {below : List Frame} {meth : Method} {c : Code} {M : Mem} {a0 : Nat} {a1 : Nat} {Q : Mem → Prop} (F : Fx g p s m args meth c cX4_multiply 2 RX4) (hr : meth.sig.returnType = none) (k0 : kd a0 = 4) (k1 : kd a1 = 4)
    (hw : wp_X4_multiply_b15 a0 a1 Q M) : Z g p l e rm_X4_multiply s m args below meth c 2 (MQ below (va_Qv (S := Mem) Q (fun u => Rp g u) (aR g)) args s 0 0 (aR g)) M 15 [(0, .ref (g.2.2.1 + a0)), (1, .ref (g.2.2.1 + a1))] [.ref (g.2.2.1 + a0)] := by
  refine z_iconst F dX4_multiply_15 rfl ?_
  refine z_goto F dX4_multiply_16 rfl ?_
  refine z_sub [0, 1] rfl ?_
  exact bk_X4_multiply_20 F hr k0 k1 hw
set_option maxRecDepth 100000 in
set_option maxHeartbeats 4000000 in
theorem c_X4_multiply (l : Launch) (g : En) {a0 : Nat} {a1 : Nat} {M : Mem} {Q : Mem → Prop} (k0 : kd a0 = 4) (k1 : kd a1 = 4) (hw : wp_X4_multiply a0 a1 M Q) :
    Met l yX4_multiply (WS yX4_multiply cX4_multiply 2 none) rm_X4_multiply (va_Pc [.ref (g.2.2.1 + a0), .ref (g.2.2.1 + a1)] (Rp g M)) (va_Qv (S := Mem) Q (fun u => Rp g u) (aR g)) 0 0 (aR g) := by
  refine met_Z (plainFor_of_name rfl) (Nat.le_of_ble_eq_true rfl) ?_
  intro p e s m args below meth c F hr _
  show Z g p l e rm_X4_multiply s m args below meth c 2 (MQ below (va_Qv (S := Mem) Q (fun u => Rp g u) (aR g)) args s 0 0 (aR g)) M 0 [(0, .ref (g.2.2.1 + a0)), (1, .ref (g.2.2.1 + a1))] []
  refine z_aload_n F dX4_multiply_0 rfl rfl 0 rfl ?_
  refine z_aload_n F dX4_multiply_1 rfl rfl 0 rfl ?_
  refine z_getB F fl_270 k0 dX4_multiply_2 rfl ?_
  refine z_ifb_ne F dX4_multiply_5 rfl rfl hw (fun hw => ?_) (fun hw => ?_)
  · refine z_sub [0, 1] rfl ?_
    exact bk_X4_multiply_15 F hr k0 k1 hw
  · refine z_aload_n F dX4_multiply_8 rfl rfl 1 rfl ?_
    refine z_getB F fl_270 k1 dX4_multiply_9 rfl ?_
    refine z_ifb_eq F dX4_multiply_12 rfl rfl hw (fun hw => ?_) (fun hw => ?_)
    · refine z_iconst F dX4_multiply_19 rfl ?_
      refine z_sub [0, 1] rfl ?_
      exact bk_X4_multiply_20 F hr k0 k1 hw
    · refine z_sub [0, 1] rfl ?_
      exact bk_X4_multiply_15 F hr k0 k1 hw
theorem cv_X4_multiply : CV yX4_multiply RX4 cX4_multiply 2 none 1 := ⟨w_708, w_709, w_74, w_710, rfl, by decide +kernel, by decide +kernel, by decide +kernel⟩
abbrev rm_X7_multiply : Room := { frames := 2, cells := 0, slots := 0, locals := 52 }
def wp_X7_multiply_B10 (a0 : Nat) (a1 : Nat) (Q : Mem → Prop) (K10 : Mem → Int → Prop) (M : Mem) (x2 : Int) : Prop :=
  (((w32 5 ≤ w32 x2) → (
    Q M)) ∧
  (¬ (w32 5 ≤ w32 x2) → (
    inb (rt a0 2) x2 ∧ (
    wp_X4_multiply (rt (rt a0 2) (ix x2)) a1 M (fun M22 =>
    K10 M22 (x2 + 1))))))
def wp_X7_multiply_L10 (a0 : Nat) (a1 : Nat) (Q : Mem → Prop) (M : Mem) (x2 : Int) : Prop :=
  ∃ (I : Mem → Int → Prop) (μ : Mem → Int → Nat), I M x2 ∧ ∀ (M : Mem) (x2 : Int), I M x2 →
    wp_X7_multiply_B10 a0 a1 Q (fun M' x2' => I M' x2' ∧ μ M' x2' < μ M x2) M x2
def wp_X7_multiply (a0 : Nat) (a1 : Nat) (M : Mem) (Q : Mem → Prop) : Prop :=
  wp_X4_multiply (rt a0 1) a1 M (fun M5 =>
  wp_X7_multiply_L10 a0 a1 Q M5 0)
set_option maxRecDepth 100000 in
set_option maxHeartbeats 4000000 in
theorem bk_X7_multiply_B10 {g : En} {p : Program} {l : Launch} {e : Env} {s : State} {m : MethodId} {args : Array Value} {below : List Frame} {meth : Method} {c : Code} {M : Mem} {a0 : Nat} {a1 : Nat} {Q : Mem → Prop} {K10 : Mem → Int → Prop} {x2 : Int} (F : Fx g p s m args meth c cX7_multiply 3 RX7) (hr : meth.sig.returnType = none) (k0 : kd a0 = 7) (k1 : kd a1 = 4)
    (hK10 : ∀ (M' : Mem) (x2' : Int), K10 M' x2' → Z g p l e rm_X7_multiply s m args below meth c 3 (MQ below (va_Qv (S := Mem) Q (fun u => Rp g u) (aR g)) args s 0 0 (aR g)) M' 10 [(0, .ref (g.2.2.1 + a0)), (1, .ref (g.2.2.1 + a1)), (2, .int (i3 x2'))] [])
    (hw : wp_X7_multiply_B10 a0 a1 Q K10 M x2) : Z g p l e rm_X7_multiply s m args below meth c 3 (MQ below (va_Qv (S := Mem) Q (fun u => Rp g u) (aR g)) args s 0 0 (aR g)) M 10 [(0, .ref (g.2.2.1 + a0)), (1, .ref (g.2.2.1 + a1)), (2, .int (i3 x2))] [] := by
  refine z_iload_n F dX7_multiply_10 rfl rfl 2 rfl ?_
  refine z_iconst F dX7_multiply_11 rfl ?_
  refine z_icmp_ge F dX7_multiply_12 rfl rfl hw (fun hw => ?_) (fun hw => ?_)
  · exact z_vret F hr dX7_multiply_31 hw
  · refine z_aload_n F dX7_multiply_15 rfl rfl 0 rfl ?_
    refine z_getR F fl_327 k0 dX7_multiply_16 rfl ?_
    refine z_iload_n F dX7_multiply_19 rfl rfl 2 rfl ?_
    have n20 := hw.1
    refine z_aald F 1 (tk_7_2 k0) rfl rfl dX7_multiply_20 rfl hw (fun hw => ?_)
    refine z_aload_n F dX7_multiply_21 rfl rfl 1 rfl ?_
    refine z_cVv (As := [.ref (g.2.2.1 + a1)]) (st := []) F (c_X4_multiply l g (tka_16 (tk_7_2 k0) n20) k1 hw) cv_X4_multiply w_762 ⟨rfl, rfl, Nat.le_of_ble_eq_true rfl, Nat.le_of_ble_eq_true rfl⟩ (tka_16 (tk_7_2 k0) n20) rfl rfl (Nat.le_of_ble_eq_true rfl) dX7_multiply_22 rfl (fun M22 hw => ?_)
    refine z_iinc F dX7_multiply_25 rfl 2 rfl (by decide) rfl ?_
    refine z_goto F dX7_multiply_28 rfl ?_
    refine z_sub [1, 2, 0] rfl ?_
    exact hK10 M22 (x2 + 1) hw
set_option maxRecDepth 100000 in
set_option maxHeartbeats 4000000 in
theorem lp_X7_multiply_10 {g : En} {p : Program} {l : Launch} {e : Env} {s : State} {m : MethodId} {args : Array Value} {below : List Frame} {meth : Method} {c : Code} {M : Mem} {a0 : Nat} {a1 : Nat} {Q : Mem → Prop} {x2 : Int} (F : Fx g p s m args meth c cX7_multiply 3 RX7) (hr : meth.sig.returnType = none) (k0 : kd a0 = 7) (k1 : kd a1 = 4)
    (hw : wp_X7_multiply_L10 a0 a1 Q M x2) : Z g p l e rm_X7_multiply s m args below meth c 3 (MQ below (va_Qv (S := Mem) Q (fun u => Rp g u) (aR g)) args s 0 0 (aR g)) M 10 [(0, .ref (g.2.2.1 + a0)), (1, .ref (g.2.2.1 + a1)), (2, .int (i3 x2))] [] := by
  obtain ⟨I, μ, h0, hb⟩ := hw
  have key : ∀ (n : Nat) (M : Mem) (x2 : Int), I M x2 → μ M x2 < n → Z g p l e rm_X7_multiply s m args below meth c 3 (MQ below (va_Qv (S := Mem) Q (fun u => Rp g u) (aR g)) args s 0 0 (aR g)) M 10 [(0, .ref (g.2.2.1 + a0)), (1, .ref (g.2.2.1 + a1)), (2, .int (i3 x2))] [] := by
    intro n
    induction n with
    | zero => exact fun _ _ _ h => absurd h (Nat.not_lt_zero _)
    | succ n ih =>
      intro M x2 hI hn
      exact bk_X7_multiply_B10 F hr k0 k1 (fun M' x2' hk => ih M' x2' hk.1 (Nat.lt_of_lt_of_le hk.2 (Nat.le_of_lt_succ hn))) (hb M x2 hI)
  exact key _ M x2 h0 (Nat.lt_succ_self _)
set_option maxRecDepth 100000 in
set_option maxHeartbeats 4000000 in
theorem c_X7_multiply (l : Launch) (g : En) {a0 : Nat} {a1 : Nat} {M : Mem} {Q : Mem → Prop} (k0 : kd a0 = 7) (k1 : kd a1 = 4) (hw : wp_X7_multiply a0 a1 M Q) :
    Met l yX7_multiply (WS yX7_multiply cX7_multiply 3 none) rm_X7_multiply (va_Pc [.ref (g.2.2.1 + a0), .ref (g.2.2.1 + a1)] (Rp g M)) (va_Qv (S := Mem) Q (fun u => Rp g u) (aR g)) 0 0 (aR g) := by
  refine met_Z (plainFor_of_name rfl) (Nat.le_of_ble_eq_true rfl) ?_
  intro p e s m args below meth c F hr _
  show Z g p l e rm_X7_multiply s m args below meth c 3 (MQ below (va_Qv (S := Mem) Q (fun u => Rp g u) (aR g)) args s 0 0 (aR g)) M 0 [(0, .ref (g.2.2.1 + a0)), (1, .ref (g.2.2.1 + a1))] []
  refine z_aload_n F dX7_multiply_0 rfl rfl 0 rfl ?_
  refine z_getR F fl_324 k0 dX7_multiply_1 rfl ?_
  refine z_aload_n F dX7_multiply_4 rfl rfl 1 rfl ?_
  refine z_cVv (As := [.ref (g.2.2.1 + a1)]) (st := []) F (c_X4_multiply l g (tk_7_1 k0) k1 hw) cv_X4_multiply w_762 ⟨rfl, rfl, Nat.le_of_ble_eq_true rfl, Nat.le_of_ble_eq_true rfl⟩ (tk_7_1 k0) rfl rfl (Nat.le_of_ble_eq_true rfl) dX7_multiply_5 rfl (fun M5 hw => ?_)
  refine z_iconst F dX7_multiply_8 rfl ?_
  refine z_istore_n F dX7_multiply_9 rfl rfl (by decide) rfl ?_
  refine z_sub [1, 2, 0] rfl ?_
  exact lp_X7_multiply_10 F hr k0 k1 hw
theorem cv_X7_multiply : CV yX7_multiply RX7 cX7_multiply 3 none 1 := ⟨w_759, w_760, w_76, w_761, rfl, by decide +kernel, by decide +kernel, by decide +kernel⟩
abbrev rm_X4_sum : Room := { frames := 0, cells := 0, slots := 0, locals := 0 }
def wp_X4_sum_b48  (Q : Int → Prop) (M : Mem) (s0 : Bool) (x4 : Int) : Prop :=
  ((s0 = false → (
    Q x4)) ∧
  (s0 = true → (
    Q (-9223372036854775808))))
def wp_X4_sum_b47  (Q : Int → Prop) (M : Mem) (x4 : Int) : Prop :=
  wp_X4_sum_b48 Q M false x4
def wp_X4_sum_b43  (Q : Int → Prop) (M : Mem) (x4 : Int) : Prop :=
  wp_X4_sum_b48 Q M true x4
def wp_X4_sum_b24  (Q : Int → Prop) (M : Mem) (x0 : Int) (x2 : Int) (x4 : Int) : Prop :=
  (((w64 0 ≤ w64 x0) → (
    wp_X4_sum_b47 Q M x4)) ∧
  (¬ (w64 0 ≤ w64 x0) → (
    (((w64 0 ≤ w64 x2) → (
      wp_X4_sum_b47 Q M x4)) ∧
    (¬ (w64 0 ≤ w64 x2) → (
      (((w64 x4 < w64 0) → (
        wp_X4_sum_b47 Q M x4)) ∧
      (¬ (w64 x4 < w64 0) → (
        wp_X4_sum_b43 Q M x4)))))))))
def wp_X4_sum (a0 : Int) (a1 : Int) (M : Mem) (Q : Int → Prop) : Prop :=
  (((w64 a0 ≤ w64 0) → (
    wp_X4_sum_b24 Q M a0 a1 (a0 + a1))) ∧
  (¬ (w64 a0 ≤ w64 0) → (
    (((w64 a1 ≤ w64 0) → (
      wp_X4_sum_b24 Q M a0 a1 (a0 + a1))) ∧
    (¬ (w64 a1 ≤ w64 0) → (
      (((w64 (a0 + a1) < w64 0) → (
        wp_X4_sum_b43 Q M (a0 + a1))) ∧
      (¬ (w64 (a0 + a1) < w64 0) → (
        wp_X4_sum_b24 Q M a0 a1 (a0 + a1))))))))))
set_option maxRecDepth 100000 in
set_option maxHeartbeats 4000000 in
theorem bk_X4_sum_48 {g : En} {p : Program} {l : Launch} {e : Env} {s : State} {m : MethodId} {args : Array Value} {below : List Frame} {meth : Method} {c : Code} {M : Mem} {Q : Int → Prop} {s0 : Bool} {x4 : Int} (F : Fx g p s m args meth c cX4_sum 7 RX4) (hr : meth.sig.returnType = (some .long))
    (hw : wp_X4_sum_b48 Q M s0 x4) : Z g p l e rm_X4_sum s m args below meth c 7 (MQ below (va_Ql (S := Int × Mem) (fun r u => r = i6 u.1 ∧ (u.2 = M ∧ Q u.1)) (fun u => Rp g u.2) (aR g)) args s 0 0 (aR g)) M 48 [(4, .long (i6 x4))] [.int (i3 (bz s0))] := by
  refine z_istore F dX4_sum_48 rfl (by decide) rfl ?_
  refine z_iload F dX4_sum_50 rfl 0 rfl ?_
  refine z_ifb_eq F dX4_sum_52 rfl rfl hw (fun hw => ?_) (fun hw => ?_)
  · refine z_lload F dX4_sum_61 rfl 1 rfl ?_
    exact z_lretp (x := x4) F hr dX4_sum_63 hw
  · refine z_ldc2 (n := (-9223372036854775808)) F w_673 (by decide) dX4_sum_55 rfl ?_
    refine z_goto F dX4_sum_58 rfl ?_
    exact z_lretp (x := (-9223372036854775808)) F hr dX4_sum_63 hw
set_option maxRecDepth 100000 in
set_option maxHeartbeats 4000000 in
theorem bk_X4_sum_47 {g : En} {p : Program} {l : Launch} {e : Env} {s : State} {m : MethodId} {args : Array Value} {below : List Frame} {meth : Method} {c : Code} {M : Mem} {Q : Int → Prop} {x4 : Int} (F : Fx g p s m args meth c cX4_sum 7 RX4) (hr : meth.sig.returnType = (some .long))
    (hw : wp_X4_sum_b47 Q M x4) : Z g p l e rm_X4_sum s m args below meth c 7 (MQ below (va_Ql (S := Int × Mem) (fun r u => r = i6 u.1 ∧ (u.2 = M ∧ Q u.1)) (fun u => Rp g u.2) (aR g)) args s 0 0 (aR g)) M 47 [(4, .long (i6 x4))] [] := by
  refine z_iconst F dX4_sum_47 rfl ?_
  refine z_sub [0] rfl ?_
  exact bk_X4_sum_48 F hr  hw
set_option maxRecDepth 100000 in
set_option maxHeartbeats 4000000 in
theorem bk_X4_sum_43 {g : En} {p : Program} {l : Launch} {e : Env} {s : State} {m : MethodId} {args : Array Value} {below : List Frame} {meth : Method} {c : Code} {M : Mem} {Q : Int → Prop} {x4 : Int} (F : Fx g p s m args meth c cX4_sum 7 RX4) (hr : meth.sig.returnType = (some .long))
    (hw : wp_X4_sum_b43 Q M x4) : Z g p l e rm_X4_sum s m args below meth c 7 (MQ below (va_Ql (S := Int × Mem) (fun r u => r = i6 u.1 ∧ (u.2 = M ∧ Q u.1)) (fun u => Rp g u.2) (aR g)) args s 0 0 (aR g)) M 43 [(4, .long (i6 x4))] [] := by
  refine z_iconst F dX4_sum_43 rfl ?_
  refine z_goto F dX4_sum_44 rfl ?_
  refine z_sub [0] rfl ?_
  exact bk_X4_sum_48 F hr  hw
set_option maxRecDepth 100000 in
set_option maxHeartbeats 4000000 in
theorem bk_X4_sum_24 {g : En} {p : Program} {l : Launch} {e : Env} {s : State} {m : MethodId} {args : Array Value} {below : List Frame} {meth : Method} {c : Code} {M : Mem} {Q : Int → Prop} {x0 : Int} {x2 : Int} {x4 : Int} (F : Fx g p s m args meth c cX4_sum 7 RX4) (hr : meth.sig.returnType = (some .long))
    (hw : wp_X4_sum_b24 Q M x0 x2 x4) : Z g p l e rm_X4_sum s m args below meth c 7 (MQ below (va_Ql (S := Int × Mem) (fun r u => r = i6 u.1 ∧ (u.2 = M ∧ Q u.1)) (fun u => Rp g u.2) (aR g)) args s 0 0 (aR g)) M 24 [(0, .long (i6 x0)), (2, .long (i6 x2)), (4, .long (i6 x4))] [] := by
  refine z_lload_n F dX4_sum_24 rfl rfl 0 rfl ?_
  refine z_lconst (v := 0) F dX4_sum_25 rfl rfl ?_
  refine z_lcmp_ge F dX4_sum_26 rfl dX4_sum_27 rfl rfl hw (fun hw => ?_) (fun hw => ?_)
  · refine z_sub [2] rfl ?_
    exact bk_X4_sum_47 F hr  hw
  · refine z_lload_n F dX4_sum_30 rfl rfl 1 rfl ?_
    refine z_lconst (v := 0) F dX4_sum_31 rfl rfl ?_
    refine z_lcmp_ge F dX4_sum_32 rfl dX4_sum_33 rfl rfl hw (fun hw => ?_) (fun hw => ?_)
    · refine z_sub [2] rfl ?_
      exact bk_X4_sum_47 F hr  hw
    · refine z_lload F dX4_sum_36 rfl 2 rfl ?_
      refine z_lconst (v := 0) F dX4_sum_38 rfl rfl ?_
      refine z_lcmp_lt F dX4_sum_39 rfl dX4_sum_40 rfl rfl hw (fun hw => ?_) (fun hw => ?_)
      · refine z_sub [2] rfl ?_
        exact bk_X4_sum_47 F hr  hw
      · refine z_sub [2] rfl ?_
        exact bk_X4_sum_43 F hr  hw
set_option maxRecDepth 100000 in
set_option maxHeartbeats 4000000 in
theorem c_X4_sum (l : Launch) (g : En) {a0 : Int} {a1 : Int} {M : Mem} {Q : Int → Prop} (hw : wp_X4_sum a0 a1 M Q) :
    Met l yX4_sum (WS yX4_sum cX4_sum 7 (some .long)) rm_X4_sum (va_Pc [.long (i6 a0), .long (i6 a1)] (Rp g M)) (va_Ql (S := Int × Mem) (fun r u => r = i6 u.1 ∧ (u.2 = M ∧ Q u.1)) (fun u => Rp g u.2) (aR g)) 0 0 (aR g) := by
  refine met_Z (plainFor_of_name rfl) (Nat.le_of_ble_eq_true rfl) ?_
  intro p e s m args below meth c F hr _
  show Z g p l e rm_X4_sum s m args below meth c 7 (MQ below (va_Ql (S := Int × Mem) (fun r u => r = i6 u.1 ∧ (u.2 = M ∧ Q u.1)) (fun u => Rp g u.2) (aR g)) args s 0 0 (aR g)) M 0 [(0, .long (i6 a0)), (2, .long (i6 a1))] []
  refine z_lload_n F dX4_sum_0 rfl rfl 0 rfl ?_
  refine z_lload_n F dX4_sum_1 rfl rfl 1 rfl ?_
  refine z_ladd F dX4_sum_2 rfl ?_
  refine z_lstore F dX4_sum_3 rfl (by decide) rfl ?_
  refine z_lload_n F dX4_sum_5 rfl rfl 1 rfl ?_
  refine z_lconst (v := 0) F dX4_sum_6 rfl rfl ?_
  refine z_lcmp_le F dX4_sum_7 rfl dX4_sum_8 rfl rfl hw (fun hw => ?_) (fun hw => ?_)
  · refine z_sub [1, 2, 0] rfl ?_
    exact bk_X4_sum_24 F hr  hw
  · refine z_lload_n F dX4_sum_11 rfl rfl 2 rfl ?_
    refine z_lconst (v := 0) F dX4_sum_12 rfl rfl ?_
    refine z_lcmp_le F dX4_sum_13 rfl dX4_sum_14 rfl rfl hw (fun hw => ?_) (fun hw => ?_)
    · refine z_sub [1, 2, 0] rfl ?_
      exact bk_X4_sum_24 F hr  hw
    · refine z_lload F dX4_sum_17 rfl 0 rfl ?_
      refine z_lconst (v := 0) F dX4_sum_19 rfl rfl ?_
      refine z_lcmp_lt F dX4_sum_20 rfl dX4_sum_21 rfl rfl hw (fun hw => ?_) (fun hw => ?_)
      · refine z_sub [0] rfl ?_
        exact bk_X4_sum_43 F hr  hw
      · refine z_sub [1, 2, 0] rfl ?_
        exact bk_X4_sum_24 F hr  hw
theorem cs_X4_sum : CS yX4_sum cX4_sum 7 (some .long) 2 := ⟨w_693, w_74, w_694, by decide +kernel, by decide +kernel, by decide +kernel⟩
abbrev rm_X4_add : Room := { frames := 1, cells := 0, slots := 0, locals := 31 }
def wp_X4_add_b87 (a0 : Nat) (a1 : Nat) (Q : Mem → Prop) (M : Mem) : Prop :=
  ∀ M89 : Mem, M89 = st2 M a0 2 (bz true) →
  Q M89
def wp_X4_add_b20 (a0 : Nat) (a1 : Nat) (Q : Mem → Prop) (M : Mem) (s1 : Bool) : Prop :=
  ∀ M20 : Mem, M20 = st2 M a0 2 (bz s1) →
  wp_X4_product (M20 a0 0) (M20 a1 1) M20 (fun r31 =>
  wp_X4_product (M20 a1 0) (M20 a0 1) M20 (fun r43 =>
  wp_X4_product (M20 a0 1) (M20 a1 1) M20 (fun r56 =>
  (((w64 r31 = w64 (-9223372036854775808)) → (
    wp_X4_add_b87 a0 a1 Q M20)) ∧
  (¬ (w64 r31 = w64 (-9223372036854775808)) → (
    (((w64 r43 = w64 (-9223372036854775808)) → (
      wp_X4_add_b87 a0 a1 Q M20)) ∧
    (¬ (w64 r43 = w64 (-9223372036854775808)) → (
      (((¬ w64 r56 = w64 (-9223372036854775808)) → (
        wp_X4_sum r31 r43 M20 (fun r99 =>
        wp_X4_reduce a0 r99 r56 M20 (fun M104 =>
        Q M104)))) ∧
      (¬ (¬ w64 r56 = w64 (-9223372036854775808)) → (
        wp_X4_add_b87 a0 a1 Q M20))))))))))))
def wp_X4_add_b15 (a0 : Nat) (a1 : Nat) (Q : Mem → Prop) (M : Mem) : Prop :=
  wp_X4_add_b20 a0 a1 Q M true
def wp_X4_add (a0 : Nat) (a1 : Nat) (M : Mem) (Q : Mem → Prop) : Prop :=
  (((fb M a0 2) = true → (
    wp_X4_add_b15 a0 a1 Q M)) ∧
  ((fb M a0 2) = false → (
    (((fb M a1 2) = false → (
      wp_X4_add_b20 a0 a1 Q M false)) ∧
    ((fb M a1 2) = true → (
      wp_X4_add_b15 a0 a1 Q M))))))
set_option maxRecDepth 100000 in
set_option maxHeartbeats 4000000 in
theorem bk_X4_add_87 {g : En} {p : Program} {l : Launch} {e : Env} {s : State} {m : MethodId} {args : Array Value} {below : List Frame} {meth : Method} {c : Code} {M : Mem} {a0 : Nat} {a1 : Nat} {Q : Mem → Prop} (F : Fx g p s m args meth c cX4_add 8 RX4) (hr : meth.sig.returnType = none) (k0 : kd a0 = 4) (k1 : kd a1 = 4)
    (hw : wp_X4_add_b87 a0 a1 Q M) : Z g p l e rm_X4_add s m args below meth c 8 (MQ below (va_Qv (S := Mem) Q (fun u => Rp g u) (aR g)) args s 0 0 (aR g)) M 87 [(0, .ref (g.2.2.1 + a0))] [] := by
  refine z_aload_n F dX4_add_87 rfl rfl 0 rfl ?_
  refine z_iconst F dX4_add_88 rfl ?_
  refine z_putB (r := true) F fp_270 k0 dX4_add_89 rfl ?_
  refine z_nmM (fun M89 eM89 => ?_)
  have hw := hw M89 eM89
  refine z_goto F dX4_add_92 rfl ?_
  exact z_vret F hr dX4_add_107 hw
set_option maxRecDepth 100000 in
set_option maxHeartbeats 4000000 in
theorem bk_X4_add_20 {g : En} {p : Program} {l : Launch} {e : Env} {s : State} {m : MethodId} {args : Array Value} {below : List Frame} {meth : Method} {c : Code} {M : Mem} {a0 : Nat} {a1 : Nat} {Q : Mem → Prop} {s1 : Bool} (F : Fx g p s m args meth c cX4_add 8 RX4) (hr : meth.sig.returnType = none) (k0 : kd a0 = 4) (k1 : kd a1 = 4)
    (hw : wp_X4_add_b20 a0 a1 Q M s1) : Z g p l e rm_X4_add s m args below meth c 8 (MQ below (va_Qv (S := Mem) Q (fun u => Rp g u) (aR g)) args s 0 0 (aR g)) M 20 [(0, .ref (g.2.2.1 + a0)), (1, .ref (g.2.2.1 + a1))] [.int (i3 (bz s1)), .ref (g.2.2.1 + a0)] := by
  refine z_putB (r := s1) F fp_270 k0 dX4_add_20 rfl ?_
  refine z_nmM (fun M20 eM20 => ?_)
  have hw := hw M20 eM20
  refine z_aload_n F dX4_add_23 rfl rfl 0 rfl ?_
  refine z_getL F fl_266 k0 dX4_add_24 rfl ?_
  refine z_aload_n F dX4_add_27 rfl rfl 1 rfl ?_
  refine z_getL F fl_269 k1 dX4_add_28 rfl ?_
  refine z_cSlp (As := [.long (i6 (M20 a0 0)), .long (i6 (M20 a1 1))]) (st := []) F (c_X4_product l g hw) cs_X4_product w_684 ⟨rfl, rfl, Nat.le_of_ble_eq_true rfl, Nat.le_of_ble_eq_true rfl⟩ rfl (Nat.le_of_ble_eq_true rfl) dX4_add_31 rfl (fun r31 hw => ?_)
  refine z_lstore_n F dX4_add_34 rfl rfl (by decide) rfl ?_
  refine z_aload_n F dX4_add_35 rfl rfl 2 rfl ?_
  refine z_getL F fl_266 k1 dX4_add_36 rfl ?_
  refine z_aload_n F dX4_add_39 rfl rfl 1 rfl ?_
  refine z_getL F fl_269 k0 dX4_add_40 rfl ?_
  refine z_cSlp (As := [.long (i6 (M20 a1 0)), .long (i6 (M20 a0 1))]) (st := []) F (c_X4_product l g hw) cs_X4_product w_684 ⟨rfl, rfl, Nat.le_of_ble_eq_true rfl, Nat.le_of_ble_eq_true rfl⟩ rfl (Nat.le_of_ble_eq_true rfl) dX4_add_43 rfl (fun r43 hw => ?_)
  refine z_lstore F dX4_add_46 rfl (by decide) rfl ?_
  refine z_aload_n F dX4_add_48 rfl rfl 2 rfl ?_
  refine z_getL F fl_269 k0 dX4_add_49 rfl ?_
  refine z_aload_n F dX4_add_52 rfl rfl 3 rfl ?_
  refine z_getL F fl_269 k1 dX4_add_53 rfl ?_
  refine z_cSlp (As := [.long (i6 (M20 a0 1)), .long (i6 (M20 a1 1))]) (st := []) F (c_X4_product l g hw) cs_X4_product w_684 ⟨rfl, rfl, Nat.le_of_ble_eq_true rfl, Nat.le_of_ble_eq_true rfl⟩ rfl (Nat.le_of_ble_eq_true rfl) dX4_add_56 rfl (fun r56 hw => ?_)
  refine z_lstore F dX4_add_59 rfl (by decide) rfl ?_
  refine z_lload_n F dX4_add_61 rfl rfl 2 rfl ?_
  refine z_ldc2 (n := (-9223372036854775808)) F w_673 (by decide) dX4_add_62 rfl ?_
  refine z_lcmp_eq F dX4_add_65 rfl dX4_add_66 rfl rfl hw (fun hw => ?_) (fun hw => ?_)
  · refine z_sub [3] rfl ?_
    exact bk_X4_add_87 F hr k0 k1 hw
  · refine z_lload F dX4_add_69 rfl 1 rfl ?_
    refine z_ldc2 (n := (-9223372036854775808)) F w_673 (by decide) dX4_add_71 rfl ?_
    refine z_lcmp_eq F dX4_add_74 rfl dX4_add_75 rfl rfl hw (fun hw => ?_) (fun hw => ?_)
    · refine z_sub [3] rfl ?_
      exact bk_X4_add_87 F hr k0 k1 hw
    · refine z_lload F dX4_add_78 rfl 0 rfl ?_
      refine z_ldc2 (n := (-9223372036854775808)) F w_673 (by decide) dX4_add_80 rfl ?_
      refine z_lcmp_ne F dX4_add_83 rfl dX4_add_84 rfl rfl hw (fun hw => ?_) (fun hw => ?_)
      · refine z_aload_n F dX4_add_95 rfl rfl 3 rfl ?_
        refine z_lload_n F dX4_add_96 rfl rfl 2 rfl ?_
        refine z_lload F dX4_add_97 rfl 1 rfl ?_
        refine z_cSlp (As := [.long (i6 r31), .long (i6 r43)]) (st := [.ref (g.2.2.1 + a0)]) F (c_X4_sum l g hw) cs_X4_sum w_692 ⟨rfl, rfl, Nat.le_of_ble_eq_true rfl, Nat.le_of_ble_eq_true rfl⟩ rfl (Nat.le_of_ble_eq_true rfl) dX4_add_99 rfl (fun r99 hw => ?_)
        refine z_lload F dX4_add_102 rfl 0 rfl ?_
        refine z_cVv (As := [.long (i6 r99), .long (i6 r56)]) (st := []) F (c_X4_reduce l g k0 hw) cv_X4_reduce w_669 ⟨rfl, rfl, Nat.le_of_ble_eq_true rfl, Nat.le_of_ble_eq_true rfl⟩ k0 rfl rfl (Nat.le_of_ble_eq_true rfl) dX4_add_104 rfl (fun M104 hw => ?_)
        exact z_vret F hr dX4_add_107 hw
      · refine z_sub [3] rfl ?_
        exact bk_X4_add_87 F hr k0 k1 hw
set_option maxRecDepth 100000 in
set_option maxHeartbeats 4000000 in
theorem bk_X4_add_15 {g : En} {p : Program} {l : Launch} {e : Env} {s : State} {m : MethodId} {args : Array Value} {below : List Frame} {meth : Method} {c : Code} {M : Mem} {a0 : Nat} {a1 : Nat} {Q : Mem → Prop} (F : Fx g p s m args meth c cX4_add 8 RX4) (hr : meth.sig.returnType = none) (k0 : kd a0 = 4) (k1 : kd a1 = 4)
    (hw : wp_X4_add_b15 a0 a1 Q M) : Z g p l e rm_X4_add s m args below meth c 8 (MQ below (va_Qv (S := Mem) Q (fun u => Rp g u) (aR g)) args s 0 0 (aR g)) M 15 [(0, .ref (g.2.2.1 + a0)), (1, .ref (g.2.2.1 + a1))] [.ref (g.2.2.1 + a0)] := by
  refine z_iconst F dX4_add_15 rfl ?_
  refine z_goto F dX4_add_16 rfl ?_
  refine z_sub [0, 1] rfl ?_
  exact bk_X4_add_20 F hr k0 k1 hw
set_option maxRecDepth 100000 in
set_option maxHeartbeats 4000000 in
theorem c_X4_add (l : Launch) (g : En) {a0 : Nat} {a1 : Nat} {M : Mem} {Q : Mem → Prop} (k0 : kd a0 = 4) (k1 : kd a1 = 4) (hw : wp_X4_add a0 a1 M Q) :
    Met l yX4_add (WS yX4_add cX4_add 8 none) rm_X4_add (va_Pc [.ref (g.2.2.1 + a0), .ref (g.2.2.1 + a1)] (Rp g M)) (va_Qv (S := Mem) Q (fun u => Rp g u) (aR g)) 0 0 (aR g) := by
  refine met_Z (plainFor_of_name rfl) (Nat.le_of_ble_eq_true rfl) ?_
  intro p e s m args below meth c F hr _
  show Z g p l e rm_X4_add s m args below meth c 8 (MQ below (va_Qv (S := Mem) Q (fun u => Rp g u) (aR g)) args s 0 0 (aR g)) M 0 [(0, .ref (g.2.2.1 + a0)), (1, .ref (g.2.2.1 + a1))] []
  refine z_aload_n F dX4_add_0 rfl rfl 0 rfl ?_
  refine z_aload_n F dX4_add_1 rfl rfl 0 rfl ?_
  refine z_getB F fl_270 k0 dX4_add_2 rfl ?_
  refine z_ifb_ne F dX4_add_5 rfl rfl hw (fun hw => ?_) (fun hw => ?_)
  · refine z_sub [0, 1] rfl ?_
    exact bk_X4_add_15 F hr k0 k1 hw
  · refine z_aload_n F dX4_add_8 rfl rfl 1 rfl ?_
    refine z_getB F fl_270 k1 dX4_add_9 rfl ?_
    refine z_ifb_eq F dX4_add_12 rfl rfl hw (fun hw => ?_) (fun hw => ?_)
    · refine z_iconst F dX4_add_19 rfl ?_
      refine z_sub [0, 1] rfl ?_
      exact bk_X4_add_20 F hr k0 k1 hw
    · refine z_sub [0, 1] rfl ?_
      exact bk_X4_add_15 F hr k0 k1 hw
theorem cv_X4_add : CV yX4_add RX4 cX4_add 8 none 1 := ⟨w_689, w_690, w_74, w_691, rfl, by decide +kernel, by decide +kernel, by decide +kernel⟩
abbrev rm_X3_beginCarry : Room := { frames := 3, cells := 0, slots := 0, locals := 77 }
def wp_X3_beginCarry_B55 (a0 : Nat) (a2 : Nat) (Q : Mem → Prop) (K55 : Mem → Int → Prop) (M : Mem) (x1 : Int) (x3 : Nat) (x4 : Int) : Prop :=
  (((w32 (M a0 4) ≤ w32 x4) → (
    inb (rt a2 2) x1 ∧ (
    wp_X4_become (rt a0 6) (w32 (-(M (rt a2 2) (ix x1)))) 1 M (fun M115 =>
    wp_X4_add (rt x3 1) (rt a0 6) M115 (fun M126 =>
    Q M126))))) ∧
  (¬ (w32 (M a0 4) ≤ w32 x4) → (
    inb (rt a2 8) x4 ∧ (
    inb (rt (rt a2 8) (ix x4)) x1 ∧ (
    wp_X4_become (rt a0 6) (w32 (M (rt (rt a2 8) (ix x4)) (ix x1))) 1 M (fun M79 =>
    inb (rt x3 2) x4 ∧ (
    wp_X4_add (rt (rt x3 2) (ix x4)) (rt a0 6) M79 (fun M93 =>
    K55 M93 (x4 + 1)))))))))
def wp_X3_beginCarry_L55 (a0 : Nat) (a2 : Nat) (Q : Mem → Prop) (M : Mem) (x1 : Int) (x3 : Nat) (x4 : Int) : Prop :=
  ∃ (I : Mem → Int → Prop) (μ : Mem → Int → Nat), I M x4 ∧ ∀ (M : Mem) (x4 : Int), I M x4 →
    wp_X3_beginCarry_B55 a0 a2 Q (fun M' x4' => I M' x4' ∧ μ M' x4' < μ M x4) M x1 x3 x4
def wp_X3_beginCarry_b52 (a0 : Nat) (a2 : Nat) (Q : Mem → Prop) (M : Mem) (x1 : Int) (x3 : Nat) : Prop :=
  wp_X3_beginCarry_L55 a0 a2 Q M x1 x3 0
def wp_X3_beginCarry (a0 : Nat) (a1 : Int) (a2 : Nat) (M : Mem) (Q : Mem → Prop) : Prop :=
  inb (rt a0 1) a1 ∧ (
  wp_X7_begin (rt (rt a0 1) (ix a1)) (10 + a1) M (fun M12 =>
  (((w32 a1 ≤ 0) → (
    wp_X3_beginCarry_b52 a0 a2 Q M12 a1 (rt (rt a0 1) (ix a1)))) ∧
  (¬ (w32 a1 ≤ 0) → (
    inb (rt a0 1) (a1 - 1) ∧ (
    wp_X7_become (rt (rt a0 1) (ix a1)) (rt (rt a0 1) (ix (a1 - 1))) M12 (fun M28 =>
    inb (rt a2 3) a1 ∧ (
    wp_X4_becomeFactor (rt a0 5) (M28 (rt a2 3) (ix a1)) M28 (fun M41 =>
    wp_X7_multiply (rt (rt a0 1) (ix a1)) (rt a0 5) M41 (fun M49 =>
    wp_X3_beginCarry_b52 a0 a2 Q M49 a1 (rt (rt a0 1) (ix a1))))))))))))
set_option maxRecDepth 100000 in
set_option maxHeartbeats 4000000 in
theorem bk_X3_beginCarry_B55 {g : En} {p : Program} {l : Launch} {e : Env} {s : State} {m : MethodId} {args : Array Value} {below : List Frame} {meth : Method} {c : Code} {M : Mem} {a0 : Nat} {a2 : Nat} {Q : Mem → Prop} {K55 : Mem → Int → Prop} {x1 : Int} {x3 : Nat} {x4 : Int} (F : Fx g p s m args meth c cX3_beginCarry 5 RX3) (hr : meth.sig.returnType = none) (k0 : kd a0 = 3) (k2 : kd a2 = 8) (kx3 : kd x3 = 7)
    (hK55 : ∀ (M' : Mem) (x4' : Int), K55 M' x4' → Z g p l e rm_X3_beginCarry s m args below meth c 5 (MQ below (va_Qv (S := Mem) Q (fun u => Rp g u) (aR g)) args s 0 0 (aR g)) M' 55 [(0, .ref (g.2.2.1 + a0)), (1, .int (i3 x1)), (2, .ref (g.2.2.1 + a2)), (3, .ref (g.2.2.1 + x3)), (4, .int (i3 x4'))] [])
    (hw : wp_X3_beginCarry_B55 a0 a2 Q K55 M x1 x3 x4) : Z g p l e rm_X3_beginCarry s m args below meth c 5 (MQ below (va_Qv (S := Mem) Q (fun u => Rp g u) (aR g)) args s 0 0 (aR g)) M 55 [(0, .ref (g.2.2.1 + a0)), (1, .int (i3 x1)), (2, .ref (g.2.2.1 + a2)), (3, .ref (g.2.2.1 + x3)), (4, .int (i3 x4))] [] := by
  refine z_iload F dX3_beginCarry_55 rfl 4 rfl ?_
  refine z_aload_n F dX3_beginCarry_57 rfl rfl 0 rfl ?_
  refine z_getI F fl_344 k0 dX3_beginCarry_58 rfl ?_
  refine z_icmp_ge F dX3_beginCarry_61 rfl rfl hw (fun hw => ?_) (fun hw => ?_)
  · refine z_aload_n F dX3_beginCarry_102 rfl rfl 0 rfl ?_
    refine z_getR F fl_346 k0 dX3_beginCarry_103 rfl ?_
    refine z_aload_n F dX3_beginCarry_106 rfl rfl 2 rfl ?_
    refine z_getR F fl_205 k2 dX3_beginCarry_107 rfl ?_
    refine z_iload_n F dX3_beginCarry_110 rfl rfl 1 rfl ?_
    refine z_iald F (tk_8_2 k2) dX3_beginCarry_111 rfl hw (fun hw => ?_)
    refine z_ineg F dX3_beginCarry_112 rfl ?_
    refine z_i2l F dX3_beginCarry_113 rfl ?_
    refine z_lconst (v := 1) F dX3_beginCarry_114 rfl rfl ?_
    refine z_cVv (As := [.long (i6 (w32 (-(M (rt a2 2) (ix x1))))), .long (i6 1)]) (st := []) F (c_X4_become l g (tk_3_6 k0) hw) cv_X4_become w_747 ⟨rfl, rfl, Nat.le_of_ble_eq_true rfl, Nat.le_of_ble_eq_true rfl⟩ (tk_3_6 k0) rfl rfl (Nat.le_of_ble_eq_true rfl) dX3_beginCarry_115 rfl (fun M115 hw => ?_)
    refine z_aload_n F dX3_beginCarry_118 rfl rfl 3 rfl ?_
    refine z_getR F fl_325 kx3 dX3_beginCarry_119 rfl ?_
    refine z_aload_n F dX3_beginCarry_122 rfl rfl 0 rfl ?_
    refine z_getR F fl_346 k0 dX3_beginCarry_123 rfl ?_
    refine z_cVv (As := [.ref (g.2.2.1 + (rt a0 6))]) (st := []) F (c_X4_add l g (tk_7_1 kx3) (tk_3_6 k0) hw) cv_X4_add w_763 ⟨rfl, rfl, Nat.le_of_ble_eq_true rfl, Nat.le_of_ble_eq_true rfl⟩ (tk_7_1 kx3) rfl rfl (Nat.le_of_ble_eq_true rfl) dX3_beginCarry_126 rfl (fun M126 hw => ?_)
    exact z_vret F hr dX3_beginCarry_129 hw
  · refine z_aload_n F dX3_beginCarry_64 rfl rfl 0 rfl ?_
    refine z_getR F fl_346 k0 dX3_beginCarry_65 rfl ?_
    refine z_aload_n F dX3_beginCarry_68 rfl rfl 2 rfl ?_
    refine z_getR F fl_223 k2 dX3_beginCarry_69 rfl ?_
    refine z_iload F dX3_beginCarry_72 rfl 4 rfl ?_
    have n74 := hw.1
    refine z_aald F 4 (tk_8_8 k2) rfl rfl dX3_beginCarry_74 rfl hw (fun hw => ?_)
    refine z_iload_n F dX3_beginCarry_75 rfl rfl 1 rfl ?_
    refine z_iald F (tka_19 (tk_8_8 k2) n74) dX3_beginCarry_76 rfl hw (fun hw => ?_)
    refine z_i2l F dX3_beginCarry_77 rfl ?_
    refine z_lconst (v := 1) F dX3_beginCarry_78 rfl rfl ?_
    refine z_cVv (As := [.long (i6 (w32 (M (rt (rt a2 8) (ix x4)) (ix x1)))), .long (i6 1)]) (st := []) F (c_X4_become l g (tk_3_6 k0) hw) cv_X4_become w_747 ⟨rfl, rfl, Nat.le_of_ble_eq_true rfl, Nat.le_of_ble_eq_true rfl⟩ (tk_3_6 k0) rfl rfl (Nat.le_of_ble_eq_true rfl) dX3_beginCarry_79 rfl (fun M79 hw => ?_)
    refine z_aload_n F dX3_beginCarry_82 rfl rfl 3 rfl ?_
    refine z_getR F fl_328 kx3 dX3_beginCarry_83 rfl ?_
    refine z_iload F dX3_beginCarry_86 rfl 4 rfl ?_
    have n88 := hw.1
    refine z_aald F 1 (tk_7_2 kx3) rfl rfl dX3_beginCarry_88 rfl hw (fun hw => ?_)
    refine z_aload_n F dX3_beginCarry_89 rfl rfl 0 rfl ?_
    refine z_getR F fl_346 k0 dX3_beginCarry_90 rfl ?_
    refine z_cVv (As := [.ref (g.2.2.1 + (rt a0 6))]) (st := []) F (c_X4_add l g (tka_16 (tk_7_2 kx3) n88) (tk_3_6 k0) hw) cv_X4_add w_763 ⟨rfl, rfl, Nat.le_of_ble_eq_true rfl, Nat.le_of_ble_eq_true rfl⟩ (tka_16 (tk_7_2 kx3) n88) rfl rfl (Nat.le_of_ble_eq_true rfl) dX3_beginCarry_93 rfl (fun M93 hw => ?_)
    refine z_iinc F dX3_beginCarry_96 rfl 4 rfl (by decide) rfl ?_
    refine z_goto F dX3_beginCarry_99 rfl ?_
    refine z_sub [1, 2, 3, 4, 0] rfl ?_
    exact hK55 M93 (x4 + 1) hw
set_option maxRecDepth 100000 in
set_option maxHeartbeats 4000000 in
theorem lp_X3_beginCarry_55 {g : En} {p : Program} {l : Launch} {e : Env} {s : State} {m : MethodId} {args : Array Value} {below : List Frame} {meth : Method} {c : Code} {M : Mem} {a0 : Nat} {a2 : Nat} {Q : Mem → Prop} {x1 : Int} {x3 : Nat} {x4 : Int} (F : Fx g p s m args meth c cX3_beginCarry 5 RX3) (hr : meth.sig.returnType = none) (k0 : kd a0 = 3) (k2 : kd a2 = 8) (kx3 : kd x3 = 7)
    (hw : wp_X3_beginCarry_L55 a0 a2 Q M x1 x3 x4) : Z g p l e rm_X3_beginCarry s m args below meth c 5 (MQ below (va_Qv (S := Mem) Q (fun u => Rp g u) (aR g)) args s 0 0 (aR g)) M 55 [(0, .ref (g.2.2.1 + a0)), (1, .int (i3 x1)), (2, .ref (g.2.2.1 + a2)), (3, .ref (g.2.2.1 + x3)), (4, .int (i3 x4))] [] := by
  obtain ⟨I, μ, h0, hb⟩ := hw
  have key : ∀ (n : Nat) (M : Mem) (x4 : Int), I M x4 → μ M x4 < n → Z g p l e rm_X3_beginCarry s m args below meth c 5 (MQ below (va_Qv (S := Mem) Q (fun u => Rp g u) (aR g)) args s 0 0 (aR g)) M 55 [(0, .ref (g.2.2.1 + a0)), (1, .int (i3 x1)), (2, .ref (g.2.2.1 + a2)), (3, .ref (g.2.2.1 + x3)), (4, .int (i3 x4))] [] := by
    intro n
    induction n with
    | zero => exact fun _ _ _ h => absurd h (Nat.not_lt_zero _)
    | succ n ih =>
      intro M x4 hI hn
      exact bk_X3_beginCarry_B55 F hr k0 k2 kx3 (fun M' x4' hk => ih M' x4' hk.1 (Nat.lt_of_lt_of_le hk.2 (Nat.le_of_lt_succ hn))) (hb M x4 hI)
  exact key _ M x4 h0 (Nat.lt_succ_self _)
set_option maxRecDepth 100000 in
set_option maxHeartbeats 4000000 in
theorem bk_X3_beginCarry_52 {g : En} {p : Program} {l : Launch} {e : Env} {s : State} {m : MethodId} {args : Array Value} {below : List Frame} {meth : Method} {c : Code} {M : Mem} {a0 : Nat} {a2 : Nat} {Q : Mem → Prop} {x1 : Int} {x3 : Nat} (F : Fx g p s m args meth c cX3_beginCarry 5 RX3) (hr : meth.sig.returnType = none) (k0 : kd a0 = 3) (k2 : kd a2 = 8) (kx3 : kd x3 = 7)
    (hw : wp_X3_beginCarry_b52 a0 a2 Q M x1 x3) : Z g p l e rm_X3_beginCarry s m args below meth c 5 (MQ below (va_Qv (S := Mem) Q (fun u => Rp g u) (aR g)) args s 0 0 (aR g)) M 52 [(0, .ref (g.2.2.1 + a0)), (1, .int (i3 x1)), (2, .ref (g.2.2.1 + a2)), (3, .ref (g.2.2.1 + x3))] [] := by
  refine z_iconst F dX3_beginCarry_52 rfl ?_
  refine z_istore F dX3_beginCarry_53 rfl (by decide) rfl ?_
  refine z_sub [1, 2, 3, 4, 0] rfl ?_
  exact lp_X3_beginCarry_55 F hr k0 k2 kx3 hw
set_option maxRecDepth 100000 in
set_option maxHeartbeats 4000000 in
theorem c_X3_beginCarry (l : Launch) (g : En) {a0 : Nat} {a1 : Int} {a2 : Nat} {M : Mem} {Q : Mem → Prop} (k0 : kd a0 = 3) (k2 : kd a2 = 8) (hw : wp_X3_beginCarry a0 a1 a2 M Q) :
    Met l yX3_beginCarry (WS yX3_beginCarry cX3_beginCarry 5 none) rm_X3_beginCarry (va_Pc [.ref (g.2.2.1 + a0), .int (i3 a1), .ref (g.2.2.1 + a2)] (Rp g M)) (va_Qv (S := Mem) Q (fun u => Rp g u) (aR g)) 0 0 (aR g) := by
  refine met_Z (plainFor_of_name rfl) (Nat.le_of_ble_eq_true rfl) ?_
  intro p e s m args below meth c F hr _
  show Z g p l e rm_X3_beginCarry s m args below meth c 5 (MQ below (va_Qv (S := Mem) Q (fun u => Rp g u) (aR g)) args s 0 0 (aR g)) M 0 [(0, .ref (g.2.2.1 + a0)), (1, .int (i3 a1)), (2, .ref (g.2.2.1 + a2))] []
  refine z_aload_n F dX3_beginCarry_0 rfl rfl 0 rfl ?_
  refine z_getR F fl_341 k0 dX3_beginCarry_1 rfl ?_
  refine z_iload_n F dX3_beginCarry_4 rfl rfl 1 rfl ?_
  have n5 := hw.1
  refine z_aald F 2 (tk_3_1 k0) rfl rfl dX3_beginCarry_5 rfl hw (fun hw => ?_)
  refine z_astore_n F dX3_beginCarry_6 rfl rfl (by decide) rfl ?_
  refine z_aload_n F dX3_beginCarry_7 rfl rfl 0 rfl ?_
  refine z_bipush F dX3_beginCarry_8 (by decide) rfl ?_
  refine z_iload_n F dX3_beginCarry_10 rfl rfl 2 rfl ?_
  refine z_iadd F dX3_beginCarry_11 rfl ?_
  refine z_cVv (As := [.int (i3 (10 + a1))]) (st := []) F (c_X7_begin l g (tka_17 (tk_3_1 k0) n5) hw) cv_X7_begin w_742 ⟨rfl, rfl, Nat.le_of_ble_eq_true rfl, Nat.le_of_ble_eq_true rfl⟩ (tka_17 (tk_3_1 k0) n5) rfl rfl (Nat.le_of_ble_eq_true rfl) dX3_beginCarry_12 rfl (fun M12 hw => ?_)
  refine z_iload_n F dX3_beginCarry_15 rfl rfl 2 rfl ?_
  refine z_if_le F dX3_beginCarry_16 rfl rfl hw (fun hw => ?_) (fun hw => ?_)
  · refine z_sub [1, 2, 3, 0] rfl ?_
    exact bk_X3_beginCarry_52 F hr k0 k2 (tka_17 (tk_3_1 k0) n5) hw
  · refine z_aload_n F dX3_beginCarry_19 rfl rfl 0 rfl ?_
    refine z_aload_n F dX3_beginCarry_20 rfl rfl 1 rfl ?_
    refine z_getR F fl_341 k0 dX3_beginCarry_21 rfl ?_
    refine z_iload_n F dX3_beginCarry_24 rfl rfl 2 rfl ?_
    refine z_iconst F dX3_beginCarry_25 rfl ?_
    refine z_isub F dX3_beginCarry_26 rfl ?_
    have n27 := hw.1
    refine z_aald F 2 (tk_3_1 k0) rfl rfl dX3_beginCarry_27 rfl hw (fun hw => ?_)
    refine z_cVv (As := [.ref (g.2.2.1 + (rt (rt a0 1) (ix (a1 - 1))))]) (st := []) F (c_X7_become l g (tka_17 (tk_3_1 k0) n5) (tka_17 (tk_3_1 k0) n27) hw) cv_X7_become w_752 ⟨rfl, rfl, Nat.le_of_ble_eq_true rfl, Nat.le_of_ble_eq_true rfl⟩ (tka_17 (tk_3_1 k0) n5) rfl rfl (Nat.le_of_ble_eq_true rfl) dX3_beginCarry_28 rfl (fun M28 hw => ?_)
    refine z_aload_n F dX3_beginCarry_31 rfl rfl 1 rfl ?_
    refine z_getR F fl_345 k0 dX3_beginCarry_32 rfl ?_
    refine z_aload_n F dX3_beginCarry_35 rfl rfl 3 rfl ?_
    refine z_getR F fl_210 k2 dX3_beginCarry_36 rfl ?_
    refine z_iload_n F dX3_beginCarry_39 rfl rfl 2 rfl ?_
    refine z_iald F (tk_8_3 k2) dX3_beginCarry_40 rfl hw (fun hw => ?_)
    refine z_cVv (As := [.int (i3 (M28 (rt a2 3) (ix a1)))]) (st := []) F (c_X4_becomeFactor l g (tk_3_5 k0) hw) cv_X4_becomeFactor w_757 ⟨rfl, rfl, Nat.le_of_ble_eq_true rfl, Nat.le_of_ble_eq_true rfl⟩ (tk_3_5 k0) rfl rfl (Nat.le_of_ble_eq_true rfl) dX3_beginCarry_41 rfl (fun M41 hw => ?_)
    refine z_aload_n F dX3_beginCarry_44 rfl rfl 0 rfl ?_
    refine z_aload_n F dX3_beginCarry_45 rfl rfl 1 rfl ?_
    refine z_getR F fl_345 k0 dX3_beginCarry_46 rfl ?_
    refine z_cVv (As := [.ref (g.2.2.1 + (rt a0 5))]) (st := []) F (c_X7_multiply l g (tka_17 (tk_3_1 k0) n5) (tk_3_5 k0) hw) cv_X7_multiply w_758 ⟨rfl, rfl, Nat.le_of_ble_eq_true rfl, Nat.le_of_ble_eq_true rfl⟩ (tka_17 (tk_3_1 k0) n5) rfl rfl (Nat.le_of_ble_eq_true rfl) dX3_beginCarry_49 rfl (fun M49 hw => ?_)
    refine z_sub [1, 2, 3, 0] rfl ?_
    exact bk_X3_beginCarry_52 F hr k0 k2 (tka_17 (tk_3_1 k0) n5) hw
theorem cv_X3_beginCarry : CV yX3_beginCarry RX3 cX3_beginCarry 5 none 2 := ⟨w_750, w_11, w_75, w_751, rfl, by decide +kernel, by decide +kernel, by decide +kernel⟩
abbrev rm_X8_isLimited : Room := { frames := 0, cells := 0, slots := 0, locals := 0 }
def wp_X8_isLimited (a0 : Nat) (a1 : Int) (M : Mem) (Q : Bool → Prop) : Prop :=
  (((w32 ((M a0 0) - 1) ≤ w32 a1) → (
    Q false)) ∧
  (¬ (w32 ((M a0 0) - 1) ≤ w32 a1) → (
    inb (rt a0 4) a1 ∧ (
    (((w32 (M (rt a0 4) (ix a1)) = w32 (-1)) → (
      Q false)) ∧
    (¬ (w32 (M (rt a0 4) (ix a1)) = w32 (-1)) → (
      Q true)))))))
set_option maxRecDepth 100000 in
set_option maxHeartbeats 4000000 in
theorem c_X8_isLimited (l : Launch) (g : En) {a0 : Nat} {a1 : Int} {M : Mem} {Q : Bool → Prop} (k0 : kd a0 = 8) (hw : wp_X8_isLimited a0 a1 M Q) :
    Met l yX8_isLimited (WS yX8_isLimited cX8_isLimited 2 (some .boolean)) rm_X8_isLimited (va_Pc [.ref (g.2.2.1 + a0), .int (i3 a1)] (Rp g M)) (va_Qi (S := Bool × Mem) (fun r u => r = i3 (bz u.1) ∧ (u.2 = M ∧ Q u.1)) (fun u => Rp g u.2) (aR g)) 0 0 (aR g) := by
  refine met_Z (plainFor_of_name rfl) (Nat.le_of_ble_eq_true rfl) ?_
  intro p e s m args below meth c F hr _
  show Z g p l e rm_X8_isLimited s m args below meth c 2 (MQ below (va_Qi (S := Bool × Mem) (fun r u => r = i3 (bz u.1) ∧ (u.2 = M ∧ Q u.1)) (fun u => Rp g u.2) (aR g)) args s 0 0 (aR g)) M 0 [(0, .ref (g.2.2.1 + a0)), (1, .int (i3 a1))] []
  refine z_iload_n F dX8_isLimited_0 rfl rfl 1 rfl ?_
  refine z_aload_n F dX8_isLimited_1 rfl rfl 0 rfl ?_
  refine z_getI F fl_196 k0 dX8_isLimited_2 rfl ?_
  refine z_iconst F dX8_isLimited_5 rfl ?_
  refine z_isub F dX8_isLimited_6 rfl ?_
  refine z_icmp_ge F dX8_isLimited_7 rfl rfl hw (fun hw => ?_) (fun hw => ?_)
  · refine z_iconst F dX8_isLimited_24 rfl ?_
    exact z_zretp (x := false) F hr dX8_isLimited_25 hw
  · refine z_aload_n F dX8_isLimited_10 rfl rfl 0 rfl ?_
    refine z_getR F fl_211 k0 dX8_isLimited_11 rfl ?_
    refine z_iload_n F dX8_isLimited_14 rfl rfl 1 rfl ?_
    refine z_iald F (tk_8_4 k0) dX8_isLimited_15 rfl hw (fun hw => ?_)
    refine z_iconst F dX8_isLimited_16 rfl ?_
    refine z_icmp_eq F dX8_isLimited_17 rfl rfl hw (fun hw => ?_) (fun hw => ?_)
    · refine z_iconst F dX8_isLimited_24 rfl ?_
      exact z_zretp (x := false) F hr dX8_isLimited_25 hw
    · refine z_iconst F dX8_isLimited_20 rfl ?_
      refine z_goto F dX8_isLimited_21 rfl ?_
      exact z_zretp (x := true) F hr dX8_isLimited_25 hw
theorem cv_X8_isLimited : CV yX8_isLimited RX8 cX8_isLimited 2 (some .boolean) 1 := ⟨w_765, w_766, w_72, w_767, rfl, by decide +kernel, by decide +kernel, by decide +kernel⟩
abbrev rm_X4_negate : Room := { frames := 0, cells := 0, slots := 0, locals := 0 }
def wp_X4_negate (a0 : Nat) (M : Mem) (Q : Mem → Prop) : Prop :=
  ∀ M6 : Mem, M6 = st2 M a0 0 (-(M a0 0)) →
  Q M6
set_option maxRecDepth 100000 in
set_option maxHeartbeats 4000000 in
theorem c_X4_negate (l : Launch) (g : En) {a0 : Nat} {M : Mem} {Q : Mem → Prop} (k0 : kd a0 = 4) (hw : wp_X4_negate a0 M Q) :
    Met l yX4_negate (WS yX4_negate cX4_negate 1 none) rm_X4_negate (va_Pc [.ref (g.2.2.1 + a0)] (Rp g M)) (va_Qv (S := Mem) Q (fun u => Rp g u) (aR g)) 0 0 (aR g) := by
  refine met_Z (plainFor_of_name rfl) (Nat.le_of_ble_eq_true rfl) ?_
  intro p e s m args below meth c F hr _
  show Z g p l e rm_X4_negate s m args below meth c 1 (MQ below (va_Qv (S := Mem) Q (fun u => Rp g u) (aR g)) args s 0 0 (aR g)) M 0 [(0, .ref (g.2.2.1 + a0))] []
  refine z_aload_n F dX4_negate_0 rfl rfl 0 rfl ?_
  refine z_aload_n F dX4_negate_1 rfl rfl 0 rfl ?_
  refine z_getL F fl_266 k0 dX4_negate_2 rfl ?_
  refine z_lneg F dX4_negate_5 rfl ?_
  refine z_putL F fp_266 k0 dX4_negate_6 rfl ?_
  refine z_nmM (fun M6 eM6 => ?_)
  have hw := hw M6 eM6
  exact z_vret F hr dX4_negate_9 hw
theorem cv_X4_negate : CV yX4_negate RX4 cX4_negate 1 none 0 := ⟨w_720, w_721, w_74, w_722, rfl, by decide +kernel, by decide +kernel, by decide +kernel⟩
abbrev rm_X7_negate : Room := { frames := 1, cells := 0, slots := 0, locals := 20 }
def wp_X7_negate_B9 (a0 : Nat) (Q : Mem → Prop) (K9 : Mem → Int → Prop) (M : Mem) (x1 : Int) : Prop :=
  (((w32 5 ≤ w32 x1) → (
    Q M)) ∧
  (¬ (w32 5 ≤ w32 x1) → (
    inb (rt a0 2) x1 ∧ (
    wp_X4_negate (rt (rt a0 2) (ix x1)) M (fun M20 =>
    K9 M20 (x1 + 1))))))
def wp_X7_negate_L9 (a0 : Nat) (Q : Mem → Prop) (M : Mem) (x1 : Int) : Prop :=
  ∃ (I : Mem → Int → Prop) (μ : Mem → Int → Nat), I M x1 ∧ ∀ (M : Mem) (x1 : Int), I M x1 →
    wp_X7_negate_B9 a0 Q (fun M' x1' => I M' x1' ∧ μ M' x1' < μ M x1) M x1
def wp_X7_negate (a0 : Nat) (M : Mem) (Q : Mem → Prop) : Prop :=
  wp_X4_negate (rt a0 1) M (fun M4 =>
  wp_X7_negate_L9 a0 Q M4 0)
set_option maxRecDepth 100000 in
set_option maxHeartbeats 4000000 in
theorem bk_X7_negate_B9 {g : En} {p : Program} {l : Launch} {e : Env} {s : State} {m : MethodId} {args : Array Value} {below : List Frame} {meth : Method} {c : Code} {M : Mem} {a0 : Nat} {Q : Mem → Prop} {K9 : Mem → Int → Prop} {x1 : Int} (F : Fx g p s m args meth c cX7_negate 2 RX7) (hr : meth.sig.returnType = none) (k0 : kd a0 = 7)
    (hK9 : ∀ (M' : Mem) (x1' : Int), K9 M' x1' → Z g p l e rm_X7_negate s m args below meth c 2 (MQ below (va_Qv (S := Mem) Q (fun u => Rp g u) (aR g)) args s 0 0 (aR g)) M' 9 [(0, .ref (g.2.2.1 + a0)), (1, .int (i3 x1'))] [])
    (hw : wp_X7_negate_B9 a0 Q K9 M x1) : Z g p l e rm_X7_negate s m args below meth c 2 (MQ below (va_Qv (S := Mem) Q (fun u => Rp g u) (aR g)) args s 0 0 (aR g)) M 9 [(0, .ref (g.2.2.1 + a0)), (1, .int (i3 x1))] [] := by
  refine z_iload_n F dX7_negate_9 rfl rfl 1 rfl ?_
  refine z_iconst F dX7_negate_10 rfl ?_
  refine z_icmp_ge F dX7_negate_11 rfl rfl hw (fun hw => ?_) (fun hw => ?_)
  · exact z_vret F hr dX7_negate_29 hw
  · refine z_aload_n F dX7_negate_14 rfl rfl 0 rfl ?_
    refine z_getR F fl_327 k0 dX7_negate_15 rfl ?_
    refine z_iload_n F dX7_negate_18 rfl rfl 1 rfl ?_
    have n19 := hw.1
    refine z_aald F 1 (tk_7_2 k0) rfl rfl dX7_negate_19 rfl hw (fun hw => ?_)
    refine z_cVv (As := []) (st := []) F (c_X4_negate l g (tka_16 (tk_7_2 k0) n19) hw) cv_X4_negate w_772 ⟨rfl, rfl, Nat.le_of_ble_eq_true rfl, Nat.le_of_ble_eq_true rfl⟩ (tka_16 (tk_7_2 k0) n19) rfl rfl (Nat.le_of_ble_eq_true rfl) dX7_negate_20 rfl (fun M20 hw => ?_)
    refine z_iinc F dX7_negate_23 rfl 1 rfl (by decide) rfl ?_
    refine z_goto F dX7_negate_26 rfl ?_
    refine z_sub [1, 0] rfl ?_
    exact hK9 M20 (x1 + 1) hw
set_option maxRecDepth 100000 in
set_option maxHeartbeats 4000000 in
theorem lp_X7_negate_9 {g : En} {p : Program} {l : Launch} {e : Env} {s : State} {m : MethodId} {args : Array Value} {below : List Frame} {meth : Method} {c : Code} {M : Mem} {a0 : Nat} {Q : Mem → Prop} {x1 : Int} (F : Fx g p s m args meth c cX7_negate 2 RX7) (hr : meth.sig.returnType = none) (k0 : kd a0 = 7)
    (hw : wp_X7_negate_L9 a0 Q M x1) : Z g p l e rm_X7_negate s m args below meth c 2 (MQ below (va_Qv (S := Mem) Q (fun u => Rp g u) (aR g)) args s 0 0 (aR g)) M 9 [(0, .ref (g.2.2.1 + a0)), (1, .int (i3 x1))] [] := by
  obtain ⟨I, μ, h0, hb⟩ := hw
  have key : ∀ (n : Nat) (M : Mem) (x1 : Int), I M x1 → μ M x1 < n → Z g p l e rm_X7_negate s m args below meth c 2 (MQ below (va_Qv (S := Mem) Q (fun u => Rp g u) (aR g)) args s 0 0 (aR g)) M 9 [(0, .ref (g.2.2.1 + a0)), (1, .int (i3 x1))] [] := by
    intro n
    induction n with
    | zero => exact fun _ _ _ h => absurd h (Nat.not_lt_zero _)
    | succ n ih =>
      intro M x1 hI hn
      exact bk_X7_negate_B9 F hr k0 (fun M' x1' hk => ih M' x1' hk.1 (Nat.lt_of_lt_of_le hk.2 (Nat.le_of_lt_succ hn))) (hb M x1 hI)
  exact key _ M x1 h0 (Nat.lt_succ_self _)
set_option maxRecDepth 100000 in
set_option maxHeartbeats 4000000 in
theorem c_X7_negate (l : Launch) (g : En) {a0 : Nat} {M : Mem} {Q : Mem → Prop} (k0 : kd a0 = 7) (hw : wp_X7_negate a0 M Q) :
    Met l yX7_negate (WS yX7_negate cX7_negate 2 none) rm_X7_negate (va_Pc [.ref (g.2.2.1 + a0)] (Rp g M)) (va_Qv (S := Mem) Q (fun u => Rp g u) (aR g)) 0 0 (aR g) := by
  refine met_Z (plainFor_of_name rfl) (Nat.le_of_ble_eq_true rfl) ?_
  intro p e s m args below meth c F hr _
  show Z g p l e rm_X7_negate s m args below meth c 2 (MQ below (va_Qv (S := Mem) Q (fun u => Rp g u) (aR g)) args s 0 0 (aR g)) M 0 [(0, .ref (g.2.2.1 + a0))] []
  refine z_aload_n F dX7_negate_0 rfl rfl 0 rfl ?_
  refine z_getR F fl_324 k0 dX7_negate_1 rfl ?_
  refine z_cVv (As := []) (st := []) F (c_X4_negate l g (tk_7_1 k0) hw) cv_X4_negate w_772 ⟨rfl, rfl, Nat.le_of_ble_eq_true rfl, Nat.le_of_ble_eq_true rfl⟩ (tk_7_1 k0) rfl rfl (Nat.le_of_ble_eq_true rfl) dX7_negate_4 rfl (fun M4 hw => ?_)
  refine z_iconst F dX7_negate_7 rfl ?_
  refine z_istore_n F dX7_negate_8 rfl rfl (by decide) rfl ?_
  refine z_sub [1, 0] rfl ?_
  exact lp_X7_negate_9 F hr k0 hw
theorem cv_X7_negate : CV yX7_negate RX7 cX7_negate 2 none 0 := ⟨w_769, w_770, w_76, w_771, rfl, by decide +kernel, by decide +kernel, by decide +kernel⟩
abbrev rm_X3_begin : Room := { frames := 4, cells := 0, slots := 0, locals := 101 }
def wp_X3_begin_b192 (a0 : Nat) (a1 : Nat) (a2 : Nat) (Q : Mem → Prop) (K94 : Mem → Int → Prop) (M : Mem) (x3 : Int) : Prop :=
  K94 M (x3 + 1)
def wp_X3_begin_B94 (a0 : Nat) (a1 : Nat) (a2 : Nat) (Q : Mem → Prop) (K94 : Mem → Int → Prop) (M : Mem) (x3 : Int) : Prop :=
  (((w32 (M a2 0) ≤ w32 x3) → (
    Q M)) ∧
  (¬ (w32 (M a2 0) ≤ w32 x3) → (
    wp_X8_isLimited a2 x3 M (fun r104 =>
    ((r104 = false → (
      wp_X3_begin_b192 a0 a1 a2 Q K94 M x3)) ∧
    (r104 = true → (
      (((w32 9 ≤ w32 (M a0 2)) → (
        wp_X3_begin_b192 a0 a1 a2 Q K94 M x3)) ∧
      (¬ (w32 9 ≤ w32 (M a0 2)) → (
        inb (rt a0 1) (M a0 2) ∧ (
        ∀ M137 : Mem, M137 = st2 M a0 2 ((M a0 2) + 1) →
        wp_X7_begin (rt (rt a0 1) (ix (M a0 2))) (20 + x3) M137 (fun M146 =>
        inb (rt a0 1) x3 ∧ (
        wp_X7_become (rt (rt a0 1) (ix (M a0 2))) (rt (rt a0 1) (ix x3)) M146 (fun M157 =>
        wp_X7_negate (rt (rt a0 1) (ix (M a0 2))) M157 (fun M162 =>
        inb (rt a2 4) x3 ∧ (
        wp_X4_become (rt a0 6) (w32 (M162 (rt a2 4) (ix x3))) 1 M162 (fun M177 =>
        wp_X4_add (rt (rt (rt a0 1) (ix (M a0 2))) 1) (rt a0 6) M177 (fun M189 =>
        wp_X3_begin_b192 a0 a1 a2 Q K94 M189 x3))))))))))))))))))
def wp_X3_begin_L94 (a0 : Nat) (a1 : Nat) (a2 : Nat) (Q : Mem → Prop) (M : Mem) (x3 : Int) : Prop :=
  ∃ (I : Mem → Int → Prop) (μ : Mem → Int → Nat), I M x3 ∧ ∀ (M : Mem) (x3 : Int), I M x3 →
    wp_X3_begin_B94 a0 a1 a2 Q (fun M' x3' => I M' x3' ∧ μ M' x3' < μ M x3) M x3
def wp_X3_begin_B72 (a0 : Nat) (a1 : Nat) (a2 : Nat) (Q : Mem → Prop) (K72 : Mem → Int → Prop) (M : Mem) (x3 : Int) : Prop :=
  (((w32 (M a2 0) ≤ w32 x3) → (
    wp_X3_begin_L94 a0 a1 a2 Q M 0)) ∧
  (¬ (w32 (M a2 0) ≤ w32 x3) → (
    wp_X3_beginCarry a0 x3 a2 M (fun M83 =>
    K72 M83 (x3 + 1)))))
def wp_X3_begin_L72 (a0 : Nat) (a1 : Nat) (a2 : Nat) (Q : Mem → Prop) (M : Mem) (x3 : Int) : Prop :=
  ∃ (I : Mem → Int → Prop) (μ : Mem → Int → Nat), I M x3 ∧ ∀ (M : Mem) (x3 : Int), I M x3 →
    wp_X3_begin_B72 a0 a1 a2 Q (fun M' x3' => I M' x3' ∧ μ M' x3' < μ M x3) M x3
def wp_X3_begin_B18 (a0 : Nat) (a1 : Nat) (a2 : Nat) (Q : Mem → Prop) (K18 : Mem → Int → Prop) (M : Mem) (x3 : Int) : Prop :=
  (((w32 (M a0 4) ≤ w32 x3) → (
    ∀ M67 : Mem, M67 = st2 M a0 2 (M a2 0) →
    wp_X3_begin_L72 a0 a1 a2 Q M67 0)) ∧
  (¬ (w32 (M a0 4) ≤ w32 x3) → (
    inb (rt a0 3) x3 ∧ (
    ∀ M32 : Mem, M32 = st2 M (rt a0 3) (ix x3) x3 →
    inb (rt (rt a0 0) 2) x3 ∧ (
    inb (rt a1 3) x3 ∧ (
    wp_X4_become (rt (rt (rt a0 0) 2) (ix x3)) (w32 (M32 (rt (rt a1 3) (ix x3)) 1)) 1 M32 (fun M53 =>
    K18 M53 (x3 + 1))))))))
def wp_X3_begin_L18 (a0 : Nat) (a1 : Nat) (a2 : Nat) (Q : Mem → Prop) (M : Mem) (x3 : Int) : Prop :=
  ∃ (I : Mem → Int → Prop) (μ : Mem → Int → Nat), I M x3 ∧ ∀ (M : Mem) (x3 : Int), I M x3 →
    wp_X3_begin_B18 a0 a1 a2 Q (fun M' x3' => I M' x3' ∧ μ M' x3' < μ M x3) M x3
def wp_X3_begin (a0 : Nat) (a1 : Nat) (a2 : Nat) (M : Mem) (Q : Mem → Prop) : Prop :=
  ∀ M5 : Mem, M5 = st2 M a0 4 (M a1 4) →
  wp_X7_begin (rt a0 0) (-1) M5 (fun M13 =>
  wp_X3_begin_L18 a0 a1 a2 Q M13 0)
set_option maxRecDepth 100000 in
set_option maxHeartbeats 4000000 in
theorem bk_X3_begin_192 {g : En} {p : Program} {l : Launch} {e : Env} {s : State} {m : MethodId} {args : Array Value} {below : List Frame} {meth : Method} {c : Code} {M : Mem} {a0 : Nat} {a1 : Nat} {a2 : Nat} {Q : Mem → Prop} {K94 : Mem → Int → Prop} {x3 : Int} (F : Fx g p s m args meth c cX3_begin 5 RX3) (hr : meth.sig.returnType = none) (k0 : kd a0 = 3) (k1 : kd a1 = 1) (k2 : kd a2 = 8)
    (hK94 : ∀ (M' : Mem) (x3' : Int), K94 M' x3' → Z g p l e rm_X3_begin s m args below meth c 5 (MQ below (va_Qv (S := Mem) Q (fun u => Rp g u) (aR g)) args s 0 0 (aR g)) M' 94 [(0, .ref (g.2.2.1 + a0)), (2, .ref (g.2.2.1 + a2)), (3, .int (i3 x3'))] [])
    (hw : wp_X3_begin_b192 a0 a1 a2 Q K94 M x3) : Z g p l e rm_X3_begin s m args below meth c 5 (MQ below (va_Qv (S := Mem) Q (fun u => Rp g u) (aR g)) args s 0 0 (aR g)) M 192 [(0, .ref (g.2.2.1 + a0)), (2, .ref (g.2.2.1 + a2)), (3, .int (i3 x3))] [] := by
  refine z_iinc F dX3_begin_192 rfl 2 rfl (by decide) rfl ?_
  refine z_goto F dX3_begin_195 rfl ?_
  refine z_sub [1, 2, 0] rfl ?_
  exact hK94 M (x3 + 1) hw
set_option maxRecDepth 100000 in
set_option maxHeartbeats 4000000 in
theorem bk_X3_begin_B94 {g : En} {p : Program} {l : Launch} {e : Env} {s : State} {m : MethodId} {args : Array Value} {below : List Frame} {meth : Method} {c : Code} {M : Mem} {a0 : Nat} {a1 : Nat} {a2 : Nat} {Q : Mem → Prop} {K94 : Mem → Int → Prop} {x3 : Int} (F : Fx g p s m args meth c cX3_begin 5 RX3) (hr : meth.sig.returnType = none) (k0 : kd a0 = 3) (k1 : kd a1 = 1) (k2 : kd a2 = 8)
    (hK94 : ∀ (M' : Mem) (x3' : Int), K94 M' x3' → Z g p l e rm_X3_begin s m args below meth c 5 (MQ below (va_Qv (S := Mem) Q (fun u => Rp g u) (aR g)) args s 0 0 (aR g)) M' 94 [(0, .ref (g.2.2.1 + a0)), (2, .ref (g.2.2.1 + a2)), (3, .int (i3 x3'))] [])
    (hw : wp_X3_begin_B94 a0 a1 a2 Q K94 M x3) : Z g p l e rm_X3_begin s m args below meth c 5 (MQ below (va_Qv (S := Mem) Q (fun u => Rp g u) (aR g)) args s 0 0 (aR g)) M 94 [(0, .ref (g.2.2.1 + a0)), (2, .ref (g.2.2.1 + a2)), (3, .int (i3 x3))] [] := by
  refine z_iload_n F dX3_begin_94 rfl rfl 2 rfl ?_
  refine z_aload_n F dX3_begin_95 rfl rfl 1 rfl ?_
  refine z_getI F fl_195 k2 dX3_begin_96 rfl ?_
  refine z_icmp_ge F dX3_begin_99 rfl rfl hw (fun hw => ?_) (fun hw => ?_)
  · exact z_vret F hr dX3_begin_198 hw
  · refine z_aload_n F dX3_begin_102 rfl rfl 1 rfl ?_
    refine z_iload_n F dX3_begin_103 rfl rfl 2 rfl ?_
    refine z_cVbp (As := [.int (i3 x3)]) (st := []) F (c_X8_isLimited l g k2 hw) cv_X8_isLimited w_764 ⟨rfl, rfl, Nat.le_of_ble_eq_true rfl, Nat.le_of_ble_eq_true rfl⟩ k2 rfl rfl (Nat.le_of_ble_eq_true rfl) dX3_begin_104 rfl (fun r104 hw => ?_)
    refine z_ifb_eq F dX3_begin_107 rfl rfl hw (fun hw => ?_) (fun hw => ?_)
    · refine z_sub [0, 1, 2] rfl ?_
      exact bk_X3_begin_192 F hr k0 k1 k2 hK94 hw
    · refine z_aload_n F dX3_begin_110 rfl rfl 0 rfl ?_
      refine z_getI F fl_342 k0 dX3_begin_111 rfl ?_
      refine z_bipush F dX3_begin_114 (by decide) rfl ?_
      refine z_icmp_ge F dX3_begin_116 rfl rfl hw (fun hw => ?_) (fun hw => ?_)
      · refine z_sub [0, 1, 2] rfl ?_
        exact bk_X3_begin_192 F hr k0 k1 k2 hK94 hw
      · refine z_aload_n F dX3_begin_119 rfl rfl 0 rfl ?_
        refine z_getR F fl_341 k0 dX3_begin_120 rfl ?_
        refine z_aload_n F dX3_begin_123 rfl rfl 0 rfl ?_
        refine z_getI F fl_342 k0 dX3_begin_124 rfl ?_
        have n127 := hw.1
        refine z_aald F 2 (tk_3_1 k0) rfl rfl dX3_begin_127 rfl hw (fun hw => ?_)
        refine z_astore F dX3_begin_128 rfl (by decide) rfl ?_
        refine z_aload_n F dX3_begin_130 rfl rfl 1 rfl ?_
        refine z_dup F rfl dX3_begin_131 rfl ?_
        refine z_getI F fl_342 k0 dX3_begin_132 rfl ?_
        refine z_iconst F dX3_begin_135 rfl ?_
        refine z_iadd F dX3_begin_136 rfl ?_
        refine z_putI F fp_342 k0 dX3_begin_137 rfl ?_
        refine z_nmM (fun M137 eM137 => ?_)
        have hw := hw M137 eM137
        refine z_aload F dX3_begin_140 rfl 0 rfl ?_
        refine z_bipush F dX3_begin_142 (by decide) rfl ?_
        refine z_iload_n F dX3_begin_144 rfl rfl 3 rfl ?_
        refine z_iadd F dX3_begin_145 rfl ?_
        refine z_cVv (As := [.int (i3 (20 + x3))]) (st := []) F (c_X7_begin l g (tka_17 (tk_3_1 k0) n127) hw) cv_X7_begin w_742 ⟨rfl, rfl, Nat.le_of_ble_eq_true rfl, Nat.le_of_ble_eq_true rfl⟩ (tka_17 (tk_3_1 k0) n127) rfl rfl (Nat.le_of_ble_eq_true rfl) dX3_begin_146 rfl (fun M146 hw => ?_)
        refine z_aload F dX3_begin_149 rfl 0 rfl ?_
        refine z_aload_n F dX3_begin_151 rfl rfl 1 rfl ?_
        refine z_getR F fl_341 k0 dX3_begin_152 rfl ?_
        refine z_iload_n F dX3_begin_155 rfl rfl 3 rfl ?_
        have n156 := hw.1
        refine z_aald F 2 (tk_3_1 k0) rfl rfl dX3_begin_156 rfl hw (fun hw => ?_)
        refine z_cVv (As := [.ref (g.2.2.1 + (rt (rt a0 1) (ix x3)))]) (st := []) F (c_X7_become l g (tka_17 (tk_3_1 k0) n127) (tka_17 (tk_3_1 k0) n156) hw) cv_X7_become w_752 ⟨rfl, rfl, Nat.le_of_ble_eq_true rfl, Nat.le_of_ble_eq_true rfl⟩ (tka_17 (tk_3_1 k0) n127) rfl rfl (Nat.le_of_ble_eq_true rfl) dX3_begin_157 rfl (fun M157 hw => ?_)
        refine z_aload F dX3_begin_160 rfl 0 rfl ?_
        refine z_cVv (As := []) (st := []) F (c_X7_negate l g (tka_17 (tk_3_1 k0) n127) hw) cv_X7_negate w_768 ⟨rfl, rfl, Nat.le_of_ble_eq_true rfl, Nat.le_of_ble_eq_true rfl⟩ (tka_17 (tk_3_1 k0) n127) rfl rfl (Nat.le_of_ble_eq_true rfl) dX3_begin_162 rfl (fun M162 hw => ?_)
        refine z_aload_n F dX3_begin_165 rfl rfl 1 rfl ?_
        refine z_getR F fl_346 k0 dX3_begin_166 rfl ?_
        refine z_aload_n F dX3_begin_169 rfl rfl 2 rfl ?_
        refine z_getR F fl_212 k2 dX3_begin_170 rfl ?_
        refine z_iload_n F dX3_begin_173 rfl rfl 3 rfl ?_
        refine z_iald F (tk_8_4 k2) dX3_begin_174 rfl hw (fun hw => ?_)
        refine z_i2l F dX3_begin_175 rfl ?_
        refine z_lconst (v := 1) F dX3_begin_176 rfl rfl ?_
        refine z_cVv (As := [.long (i6 (w32 (M162 (rt a2 4) (ix x3)))), .long (i6 1)]) (st := []) F (c_X4_become l g (tk_3_6 k0) hw) cv_X4_become w_747 ⟨rfl, rfl, Nat.le_of_ble_eq_true rfl, Nat.le_of_ble_eq_true rfl⟩ (tk_3_6 k0) rfl rfl (Nat.le_of_ble_eq_true rfl) dX3_begin_177 rfl (fun M177 hw => ?_)
        refine z_aload F dX3_begin_180 rfl 0 rfl ?_
        refine z_getR F fl_325 (tka_17 (tk_3_1 k0) n127) dX3_begin_182 rfl ?_
        refine z_aload_n F dX3_begin_185 rfl rfl 1 rfl ?_
        refine z_getR F fl_346 k0 dX3_begin_186 rfl ?_
        refine z_cVv (As := [.ref (g.2.2.1 + (rt a0 6))]) (st := []) F (c_X4_add l g (tk_7_1 (tka_17 (tk_3_1 k0) n127)) (tk_3_6 k0) hw) cv_X4_add w_763 ⟨rfl, rfl, Nat.le_of_ble_eq_true rfl, Nat.le_of_ble_eq_true rfl⟩ (tk_7_1 (tka_17 (tk_3_1 k0) n127)) rfl rfl (Nat.le_of_ble_eq_true rfl) dX3_begin_189 rfl (fun M189 hw => ?_)
        refine z_sub [1, 2, 3] rfl ?_
        exact bk_X3_begin_192 F hr k0 k1 k2 hK94 hw
set_option maxRecDepth 100000 in
set_option maxHeartbeats 4000000 in
theorem lp_X3_begin_94 {g : En} {p : Program} {l : Launch} {e : Env} {s : State} {m : MethodId} {args : Array Value} {below : List Frame} {meth : Method} {c : Code} {M : Mem} {a0 : Nat} {a1 : Nat} {a2 : Nat} {Q : Mem → Prop} {x3 : Int} (F : Fx g p s m args meth c cX3_begin 5 RX3) (hr : meth.sig.returnType = none) (k0 : kd a0 = 3) (k1 : kd a1 = 1) (k2 : kd a2 = 8)
    (hw : wp_X3_begin_L94 a0 a1 a2 Q M x3) : Z g p l e rm_X3_begin s m args below meth c 5 (MQ below (va_Qv (S := Mem) Q (fun u => Rp g u) (aR g)) args s 0 0 (aR g)) M 94 [(0, .ref (g.2.2.1 + a0)), (2, .ref (g.2.2.1 + a2)), (3, .int (i3 x3))] [] := by
  obtain ⟨I, μ, h0, hb⟩ := hw
  have key : ∀ (n : Nat) (M : Mem) (x3 : Int), I M x3 → μ M x3 < n → Z g p l e rm_X3_begin s m args below meth c 5 (MQ below (va_Qv (S := Mem) Q (fun u => Rp g u) (aR g)) args s 0 0 (aR g)) M 94 [(0, .ref (g.2.2.1 + a0)), (2, .ref (g.2.2.1 + a2)), (3, .int (i3 x3))] [] := by
    intro n
    induction n with
    | zero => exact fun _ _ _ h => absurd h (Nat.not_lt_zero _)
    | succ n ih =>
      intro M x3 hI hn
      exact bk_X3_begin_B94 F hr k0 k1 k2 (fun M' x3' hk => ih M' x3' hk.1 (Nat.lt_of_lt_of_le hk.2 (Nat.le_of_lt_succ hn))) (hb M x3 hI)
  exact key _ M x3 h0 (Nat.lt_succ_self _)
set_option maxRecDepth 100000 in
set_option maxHeartbeats 4000000 in
theorem bk_X3_begin_B72 {g : En} {p : Program} {l : Launch} {e : Env} {s : State} {m : MethodId} {args : Array Value} {below : List Frame} {meth : Method} {c : Code} {M : Mem} {a0 : Nat} {a1 : Nat} {a2 : Nat} {Q : Mem → Prop} {K72 : Mem → Int → Prop} {x3 : Int} (F : Fx g p s m args meth c cX3_begin 5 RX3) (hr : meth.sig.returnType = none) (k0 : kd a0 = 3) (k1 : kd a1 = 1) (k2 : kd a2 = 8)
    (hK72 : ∀ (M' : Mem) (x3' : Int), K72 M' x3' → Z g p l e rm_X3_begin s m args below meth c 5 (MQ below (va_Qv (S := Mem) Q (fun u => Rp g u) (aR g)) args s 0 0 (aR g)) M' 72 [(0, .ref (g.2.2.1 + a0)), (2, .ref (g.2.2.1 + a2)), (3, .int (i3 x3'))] [])
    (hw : wp_X3_begin_B72 a0 a1 a2 Q K72 M x3) : Z g p l e rm_X3_begin s m args below meth c 5 (MQ below (va_Qv (S := Mem) Q (fun u => Rp g u) (aR g)) args s 0 0 (aR g)) M 72 [(0, .ref (g.2.2.1 + a0)), (2, .ref (g.2.2.1 + a2)), (3, .int (i3 x3))] [] := by
  refine z_iload_n F dX3_begin_72 rfl rfl 2 rfl ?_
  refine z_aload_n F dX3_begin_73 rfl rfl 1 rfl ?_
  refine z_getI F fl_195 k2 dX3_begin_74 rfl ?_
  refine z_icmp_ge F dX3_begin_77 rfl rfl hw (fun hw => ?_) (fun hw => ?_)
  · refine z_iconst F dX3_begin_92 rfl ?_
    refine z_istore_n F dX3_begin_93 rfl rfl (by decide) rfl ?_
    refine z_sub [1, 2, 0] rfl ?_
    exact lp_X3_begin_94 F hr k0 k1 k2 hw
  · refine z_aload_n F dX3_begin_80 rfl rfl 0 rfl ?_
    refine z_iload_n F dX3_begin_81 rfl rfl 2 rfl ?_
    refine z_aload_n F dX3_begin_82 rfl rfl 1 rfl ?_
    refine z_cVv (As := [.int (i3 x3), .ref (g.2.2.1 + a2)]) (st := []) F (c_X3_beginCarry l g k0 k2 hw) cv_X3_beginCarry w_748 ⟨rfl, rfl, Nat.le_of_ble_eq_true rfl, Nat.le_of_ble_eq_true rfl⟩ k0 rfl rfl (Nat.le_of_ble_eq_true rfl) dX3_begin_83 rfl (fun M83 hw => ?_)
    refine z_iinc F dX3_begin_86 rfl 2 rfl (by decide) rfl ?_
    refine z_goto F dX3_begin_89 rfl ?_
    refine z_sub [1, 2, 0] rfl ?_
    exact hK72 M83 (x3 + 1) hw
set_option maxRecDepth 100000 in
set_option maxHeartbeats 4000000 in
theorem lp_X3_begin_72 {g : En} {p : Program} {l : Launch} {e : Env} {s : State} {m : MethodId} {args : Array Value} {below : List Frame} {meth : Method} {c : Code} {M : Mem} {a0 : Nat} {a1 : Nat} {a2 : Nat} {Q : Mem → Prop} {x3 : Int} (F : Fx g p s m args meth c cX3_begin 5 RX3) (hr : meth.sig.returnType = none) (k0 : kd a0 = 3) (k1 : kd a1 = 1) (k2 : kd a2 = 8)
    (hw : wp_X3_begin_L72 a0 a1 a2 Q M x3) : Z g p l e rm_X3_begin s m args below meth c 5 (MQ below (va_Qv (S := Mem) Q (fun u => Rp g u) (aR g)) args s 0 0 (aR g)) M 72 [(0, .ref (g.2.2.1 + a0)), (2, .ref (g.2.2.1 + a2)), (3, .int (i3 x3))] [] := by
  obtain ⟨I, μ, h0, hb⟩ := hw
  have key : ∀ (n : Nat) (M : Mem) (x3 : Int), I M x3 → μ M x3 < n → Z g p l e rm_X3_begin s m args below meth c 5 (MQ below (va_Qv (S := Mem) Q (fun u => Rp g u) (aR g)) args s 0 0 (aR g)) M 72 [(0, .ref (g.2.2.1 + a0)), (2, .ref (g.2.2.1 + a2)), (3, .int (i3 x3))] [] := by
    intro n
    induction n with
    | zero => exact fun _ _ _ h => absurd h (Nat.not_lt_zero _)
    | succ n ih =>
      intro M x3 hI hn
      exact bk_X3_begin_B72 F hr k0 k1 k2 (fun M' x3' hk => ih M' x3' hk.1 (Nat.lt_of_lt_of_le hk.2 (Nat.le_of_lt_succ hn))) (hb M x3 hI)
  exact key _ M x3 h0 (Nat.lt_succ_self _)
set_option maxRecDepth 100000 in
set_option maxHeartbeats 4000000 in
theorem bk_X3_begin_B18 {g : En} {p : Program} {l : Launch} {e : Env} {s : State} {m : MethodId} {args : Array Value} {below : List Frame} {meth : Method} {c : Code} {M : Mem} {a0 : Nat} {a1 : Nat} {a2 : Nat} {Q : Mem → Prop} {K18 : Mem → Int → Prop} {x3 : Int} (F : Fx g p s m args meth c cX3_begin 5 RX3) (hr : meth.sig.returnType = none) (k0 : kd a0 = 3) (k1 : kd a1 = 1) (k2 : kd a2 = 8)
    (hK18 : ∀ (M' : Mem) (x3' : Int), K18 M' x3' → Z g p l e rm_X3_begin s m args below meth c 5 (MQ below (va_Qv (S := Mem) Q (fun u => Rp g u) (aR g)) args s 0 0 (aR g)) M' 18 [(0, .ref (g.2.2.1 + a0)), (1, .ref (g.2.2.1 + a1)), (2, .ref (g.2.2.1 + a2)), (3, .int (i3 x3'))] [])
    (hw : wp_X3_begin_B18 a0 a1 a2 Q K18 M x3) : Z g p l e rm_X3_begin s m args below meth c 5 (MQ below (va_Qv (S := Mem) Q (fun u => Rp g u) (aR g)) args s 0 0 (aR g)) M 18 [(0, .ref (g.2.2.1 + a0)), (1, .ref (g.2.2.1 + a1)), (2, .ref (g.2.2.1 + a2)), (3, .int (i3 x3))] [] := by
  refine z_iload_n F dX3_begin_18 rfl rfl 3 rfl ?_
  refine z_aload_n F dX3_begin_19 rfl rfl 0 rfl ?_
  refine z_getI F fl_344 k0 dX3_begin_20 rfl ?_
  refine z_icmp_ge F dX3_begin_23 rfl rfl hw (fun hw => ?_) (fun hw => ?_)
  · refine z_aload_n F dX3_begin_62 rfl rfl 0 rfl ?_
    refine z_aload_n F dX3_begin_63 rfl rfl 2 rfl ?_
    refine z_getI F fl_195 k2 dX3_begin_64 rfl ?_
    refine z_putI F fp_342 k0 dX3_begin_67 rfl ?_
    refine z_nmM (fun M67 eM67 => ?_)
    have hw := hw M67 eM67
    refine z_iconst F dX3_begin_70 rfl ?_
    refine z_istore_n F dX3_begin_71 rfl rfl (by decide) rfl ?_
    refine z_sub [1, 3, 0] rfl ?_
    exact lp_X3_begin_72 F hr k0 k1 k2 hw
  · refine z_aload_n F dX3_begin_26 rfl rfl 0 rfl ?_
    refine z_getR F fl_343 k0 dX3_begin_27 rfl ?_
    refine z_iload_n F dX3_begin_30 rfl rfl 3 rfl ?_
    refine z_iload_n F dX3_begin_31 rfl rfl 3 rfl ?_
    refine z_iast F (tk_3_3 k0) dX3_begin_32 rfl hw (fun hw => ?_)
    refine z_nmM (fun M32 eM32 => ?_)
    have hw := hw M32 eM32
    refine z_aload_n F dX3_begin_33 rfl rfl 0 rfl ?_
    refine z_getR F fl_339 k0 dX3_begin_34 rfl ?_
    refine z_getR F fl_328 (tk_3_0 k0) dX3_begin_37 rfl ?_
    refine z_iload_n F dX3_begin_40 rfl rfl 3 rfl ?_
    have n41 := hw.1
    refine z_aald F 1 (tk_7_2 (tk_3_0 k0)) rfl rfl dX3_begin_41 rfl hw (fun hw => ?_)
    refine z_aload_n F dX3_begin_42 rfl rfl 1 rfl ?_
    refine z_getR F fl_166 k1 dX3_begin_43 rfl ?_
    refine z_iload_n F dX3_begin_46 rfl rfl 3 rfl ?_
    have n47 := hw.1
    refine z_aald F 0 (tk_1_3 k1) rfl rfl dX3_begin_47 rfl hw (fun hw => ?_)
    refine z_getI F fl_128 (tka_15 (tk_1_3 k1) n47) dX3_begin_48 rfl ?_
    refine z_i2l F dX3_begin_51 rfl ?_
    refine z_lconst (v := 1) F dX3_begin_52 rfl rfl ?_
    refine z_cVv (As := [.long (i6 (w32 (M32 (rt (rt a1 3) (ix x3)) 1))), .long (i6 1)]) (st := []) F (c_X4_become l g (tka_16 (tk_7_2 (tk_3_0 k0)) n41) hw) cv_X4_become w_747 ⟨rfl, rfl, Nat.le_of_ble_eq_true rfl, Nat.le_of_ble_eq_true rfl⟩ (tka_16 (tk_7_2 (tk_3_0 k0)) n41) rfl rfl (Nat.le_of_ble_eq_true rfl) dX3_begin_53 rfl (fun M53 hw => ?_)
    refine z_iinc F dX3_begin_56 rfl 3 rfl (by decide) rfl ?_
    refine z_goto F dX3_begin_59 rfl ?_
    refine z_sub [1, 2, 3, 0] rfl ?_
    exact hK18 M53 (x3 + 1) hw
set_option maxRecDepth 100000 in
set_option maxHeartbeats 4000000 in
theorem lp_X3_begin_18 {g : En} {p : Program} {l : Launch} {e : Env} {s : State} {m : MethodId} {args : Array Value} {below : List Frame} {meth : Method} {c : Code} {M : Mem} {a0 : Nat} {a1 : Nat} {a2 : Nat} {Q : Mem → Prop} {x3 : Int} (F : Fx g p s m args meth c cX3_begin 5 RX3) (hr : meth.sig.returnType = none) (k0 : kd a0 = 3) (k1 : kd a1 = 1) (k2 : kd a2 = 8)
    (hw : wp_X3_begin_L18 a0 a1 a2 Q M x3) : Z g p l e rm_X3_begin s m args below meth c 5 (MQ below (va_Qv (S := Mem) Q (fun u => Rp g u) (aR g)) args s 0 0 (aR g)) M 18 [(0, .ref (g.2.2.1 + a0)), (1, .ref (g.2.2.1 + a1)), (2, .ref (g.2.2.1 + a2)), (3, .int (i3 x3))] [] := by
  obtain ⟨I, μ, h0, hb⟩ := hw
  have key : ∀ (n : Nat) (M : Mem) (x3 : Int), I M x3 → μ M x3 < n → Z g p l e rm_X3_begin s m args below meth c 5 (MQ below (va_Qv (S := Mem) Q (fun u => Rp g u) (aR g)) args s 0 0 (aR g)) M 18 [(0, .ref (g.2.2.1 + a0)), (1, .ref (g.2.2.1 + a1)), (2, .ref (g.2.2.1 + a2)), (3, .int (i3 x3))] [] := by
    intro n
    induction n with
    | zero => exact fun _ _ _ h => absurd h (Nat.not_lt_zero _)
    | succ n ih =>
      intro M x3 hI hn
      exact bk_X3_begin_B18 F hr k0 k1 k2 (fun M' x3' hk => ih M' x3' hk.1 (Nat.lt_of_lt_of_le hk.2 (Nat.le_of_lt_succ hn))) (hb M x3 hI)
  exact key _ M x3 h0 (Nat.lt_succ_self _)
set_option maxRecDepth 100000 in
set_option maxHeartbeats 4000000 in
theorem c_X3_begin (l : Launch) (g : En) {a0 : Nat} {a1 : Nat} {a2 : Nat} {M : Mem} {Q : Mem → Prop} (k0 : kd a0 = 3) (k1 : kd a1 = 1) (k2 : kd a2 = 8) (hw : wp_X3_begin a0 a1 a2 M Q) :
    Met l yX3_begin (WS yX3_begin cX3_begin 5 none) rm_X3_begin (va_Pc [.ref (g.2.2.1 + a0), .ref (g.2.2.1 + a1), .ref (g.2.2.1 + a2)] (Rp g M)) (va_Qv (S := Mem) Q (fun u => Rp g u) (aR g)) 0 0 (aR g) := by
  refine met_Z (plainFor_of_name rfl) (Nat.le_of_ble_eq_true rfl) ?_
  intro p e s m args below meth c F hr _
  show Z g p l e rm_X3_begin s m args below meth c 5 (MQ below (va_Qv (S := Mem) Q (fun u => Rp g u) (aR g)) args s 0 0 (aR g)) M 0 [(0, .ref (g.2.2.1 + a0)), (1, .ref (g.2.2.1 + a1)), (2, .ref (g.2.2.1 + a2))] []
  refine z_aload_n F dX3_begin_0 rfl rfl 0 rfl ?_
  refine z_aload_n F dX3_begin_1 rfl rfl 1 rfl ?_
  refine z_getI F fl_169 k1 dX3_begin_2 rfl ?_
  refine z_putI F fp_344 k0 dX3_begin_5 rfl ?_
  refine z_nmM (fun M5 eM5 => ?_)
  have hw := hw M5 eM5
  refine z_aload_n F dX3_begin_8 rfl rfl 0 rfl ?_
  refine z_getR F fl_339 k0 dX3_begin_9 rfl ?_
  refine z_iconst F dX3_begin_12 rfl ?_
  refine z_cVv (As := [.int (i3 (-1))]) (st := []) F (c_X7_begin l g (tk_3_0 k0) hw) cv_X7_begin w_742 ⟨rfl, rfl, Nat.le_of_ble_eq_true rfl, Nat.le_of_ble_eq_true rfl⟩ (tk_3_0 k0) rfl rfl (Nat.le_of_ble_eq_true rfl) dX3_begin_13 rfl (fun M13 hw => ?_)
  refine z_iconst F dX3_begin_16 rfl ?_
  refine z_istore_n F dX3_begin_17 rfl rfl (by decide) rfl ?_
  refine z_sub [1, 2, 3, 0] rfl ?_
  exact lp_X3_begin_18 F hr k0 k1 k2 hw
theorem cv_X3_begin : CV yX3_begin RX3 cX3_begin 5 none 2 := ⟨w_739, w_740, w_75, w_741, rfl, by decide +kernel, by decide +kernel, by decide +kernel⟩
abbrev rm_X3_findLeaving : Room := { frames := 0, cells := 0, slots := 0, locals := 0 }
def wp_X3_findLeaving_b57 (a0 : Nat) (Q : Int → Prop) (K4 : Int → Int → Prop) (M : Mem) (x1 : Int) (x2 : Int) : Prop :=
  K4 x1 (x2 + 1)
def wp_X3_findLeaving_b55 (a0 : Nat) (Q : Int → Prop) (K4 : Int → Int → Prop) (M : Mem) (x2 : Int) : Prop :=
  wp_X3_findLeaving_b57 a0 Q K4 M x2 x2
def wp_X3_findLeaving_B4 (a0 : Nat) (Q : Int → Prop) (K4 : Int → Int → Prop) (M : Mem) (x1 : Int) (x2 : Int) : Prop :=
  (((w32 (M a0 2) ≤ w32 x2) → (
    Q x1)) ∧
  (¬ (w32 (M a0 2) ≤ w32 x2) → (
    inb (rt a0 1) x2 ∧ (
    (((w64 0 ≤ w64 (M (rt (rt (rt a0 1) (ix x2)) 1) 0)) → (
      wp_X3_findLeaving_b57 a0 Q K4 M x1 x2)) ∧
    (¬ (w64 0 ≤ w64 (M (rt (rt (rt a0 1) (ix x2)) 1) 0)) → (
      (((w32 x1 = w32 (-1)) → (
        wp_X3_findLeaving_b55 a0 Q K4 M x2)) ∧
      (¬ (w32 x1 = w32 (-1)) → (
        inb (rt a0 1) x2 ∧ (
        inb (rt a0 1) x1 ∧ (
        (((w32 (M (rt (rt a0 1) (ix x1)) 0) ≤ w32 (M (rt (rt a0 1) (ix x2)) 0)) → (
          wp_X3_findLeaving_b57 a0 Q K4 M x1 x2)) ∧
        (¬ (w32 (M (rt (rt a0 1) (ix x1)) 0) ≤ w32 (M (rt (rt a0 1) (ix x2)) 0)) → (
          wp_X3_findLeaving_b55 a0 Q K4 M x2)))))))))))))))
def wp_X3_findLeaving_L4 (a0 : Nat) (Q : Int → Prop) (M : Mem) (x1 : Int) (x2 : Int) : Prop :=
  ∃ (I : Int → Int → Prop) (μ : Int → Int → Nat), I x1 x2 ∧ ∀ (x1 : Int) (x2 : Int), I x1 x2 →
    wp_X3_findLeaving_B4 a0 Q (fun x1' x2' => I x1' x2' ∧ μ x1' x2' < μ x1 x2) M x1 x2
def wp_X3_findLeaving (a0 : Nat) (M : Mem) (Q : Int → Prop) : Prop :=
  wp_X3_findLeaving_L4 a0 Q M (-1) 0
set_option maxRecDepth 100000 in
set_option maxHeartbeats 4000000 in
theorem bk_X3_findLeaving_57 {g : En} {p : Program} {l : Launch} {e : Env} {s : State} {m : MethodId} {args : Array Value} {below : List Frame} {meth : Method} {c : Code} {M : Mem} {a0 : Nat} {Q : Int → Prop} {K4 : Int → Int → Prop} {x1 : Int} {x2 : Int} (F : Fx g p s m args meth c cX3_findLeaving 3 RX3) (hr : meth.sig.returnType = (some .int)) (k0 : kd a0 = 3)
    (hK4 : ∀ (x1' : Int) (x2' : Int), K4 x1' x2' → Z g p l e rm_X3_findLeaving s m args below meth c 3 (MQ below (va_Qi (S := Int × Mem) (fun r u => r = i3 u.1 ∧ (u.2 = M ∧ Q u.1)) (fun u => Rp g u.2) (aR g)) args s 0 0 (aR g)) M 4 [(0, .ref (g.2.2.1 + a0)), (1, .int (i3 x1')), (2, .int (i3 x2'))] [])
    (hw : wp_X3_findLeaving_b57 a0 Q K4 M x1 x2) : Z g p l e rm_X3_findLeaving s m args below meth c 3 (MQ below (va_Qi (S := Int × Mem) (fun r u => r = i3 u.1 ∧ (u.2 = M ∧ Q u.1)) (fun u => Rp g u.2) (aR g)) args s 0 0 (aR g)) M 57 [(0, .ref (g.2.2.1 + a0)), (1, .int (i3 x1)), (2, .int (i3 x2))] [] := by
  refine z_iinc F dX3_findLeaving_57 rfl 2 rfl (by decide) rfl ?_
  refine z_goto F dX3_findLeaving_60 rfl ?_
  refine z_sub [1, 2, 0] rfl ?_
  exact hK4 x1 (x2 + 1) hw
set_option maxRecDepth 100000 in
set_option maxHeartbeats 4000000 in
theorem bk_X3_findLeaving_55 {g : En} {p : Program} {l : Launch} {e : Env} {s : State} {m : MethodId} {args : Array Value} {below : List Frame} {meth : Method} {c : Code} {M : Mem} {a0 : Nat} {Q : Int → Prop} {K4 : Int → Int → Prop} {x2 : Int} (F : Fx g p s m args meth c cX3_findLeaving 3 RX3) (hr : meth.sig.returnType = (some .int)) (k0 : kd a0 = 3)
    (hK4 : ∀ (x1' : Int) (x2' : Int), K4 x1' x2' → Z g p l e rm_X3_findLeaving s m args below meth c 3 (MQ below (va_Qi (S := Int × Mem) (fun r u => r = i3 u.1 ∧ (u.2 = M ∧ Q u.1)) (fun u => Rp g u.2) (aR g)) args s 0 0 (aR g)) M 4 [(0, .ref (g.2.2.1 + a0)), (1, .int (i3 x1')), (2, .int (i3 x2'))] [])
    (hw : wp_X3_findLeaving_b55 a0 Q K4 M x2) : Z g p l e rm_X3_findLeaving s m args below meth c 3 (MQ below (va_Qi (S := Int × Mem) (fun r u => r = i3 u.1 ∧ (u.2 = M ∧ Q u.1)) (fun u => Rp g u.2) (aR g)) args s 0 0 (aR g)) M 55 [(0, .ref (g.2.2.1 + a0)), (2, .int (i3 x2))] [] := by
  refine z_iload_n F dX3_findLeaving_55 rfl rfl 1 rfl ?_
  refine z_istore_n F dX3_findLeaving_56 rfl rfl (by decide) rfl ?_
  refine z_sub [1, 0, 2] rfl ?_
  exact bk_X3_findLeaving_57 F hr k0 hK4 hw
set_option maxRecDepth 100000 in
set_option maxHeartbeats 4000000 in
theorem bk_X3_findLeaving_B4 {g : En} {p : Program} {l : Launch} {e : Env} {s : State} {m : MethodId} {args : Array Value} {below : List Frame} {meth : Method} {c : Code} {M : Mem} {a0 : Nat} {Q : Int → Prop} {K4 : Int → Int → Prop} {x1 : Int} {x2 : Int} (F : Fx g p s m args meth c cX3_findLeaving 3 RX3) (hr : meth.sig.returnType = (some .int)) (k0 : kd a0 = 3)
    (hK4 : ∀ (x1' : Int) (x2' : Int), K4 x1' x2' → Z g p l e rm_X3_findLeaving s m args below meth c 3 (MQ below (va_Qi (S := Int × Mem) (fun r u => r = i3 u.1 ∧ (u.2 = M ∧ Q u.1)) (fun u => Rp g u.2) (aR g)) args s 0 0 (aR g)) M 4 [(0, .ref (g.2.2.1 + a0)), (1, .int (i3 x1')), (2, .int (i3 x2'))] [])
    (hw : wp_X3_findLeaving_B4 a0 Q K4 M x1 x2) : Z g p l e rm_X3_findLeaving s m args below meth c 3 (MQ below (va_Qi (S := Int × Mem) (fun r u => r = i3 u.1 ∧ (u.2 = M ∧ Q u.1)) (fun u => Rp g u.2) (aR g)) args s 0 0 (aR g)) M 4 [(0, .ref (g.2.2.1 + a0)), (1, .int (i3 x1)), (2, .int (i3 x2))] [] := by
  refine z_iload_n F dX3_findLeaving_4 rfl rfl 2 rfl ?_
  refine z_aload_n F dX3_findLeaving_5 rfl rfl 0 rfl ?_
  refine z_getI F fl_342 k0 dX3_findLeaving_6 rfl ?_
  refine z_icmp_ge F dX3_findLeaving_9 rfl rfl hw (fun hw => ?_) (fun hw => ?_)
  · refine z_iload_n F dX3_findLeaving_63 rfl rfl 1 rfl ?_
    exact z_iretp (x := x1) F hr dX3_findLeaving_64 hw
  · refine z_aload_n F dX3_findLeaving_12 rfl rfl 0 rfl ?_
    refine z_getR F fl_341 k0 dX3_findLeaving_13 rfl ?_
    refine z_iload_n F dX3_findLeaving_16 rfl rfl 2 rfl ?_
    have n17 := hw.1
    refine z_aald F 2 (tk_3_1 k0) rfl rfl dX3_findLeaving_17 rfl hw (fun hw => ?_)
    refine z_getR F fl_325 (tka_17 (tk_3_1 k0) n17) dX3_findLeaving_18 rfl ?_
    refine z_getL F fl_267 (tk_7_1 (tka_17 (tk_3_1 k0) n17)) dX3_findLeaving_21 rfl ?_
    refine z_lconst (v := 0) F dX3_findLeaving_24 rfl rfl ?_
    refine z_lcmp_ge F dX3_findLeaving_25 rfl dX3_findLeaving_26 rfl rfl hw (fun hw => ?_) (fun hw => ?_)
    · refine z_sub [0, 1, 2] rfl ?_
      exact bk_X3_findLeaving_57 F hr k0 hK4 hw
    · refine z_iload_n F dX3_findLeaving_29 rfl rfl 1 rfl ?_
      refine z_iconst F dX3_findLeaving_30 rfl ?_
      refine z_icmp_eq F dX3_findLeaving_31 rfl rfl hw (fun hw => ?_) (fun hw => ?_)
      · refine z_sub [0, 2] rfl ?_
        exact bk_X3_findLeaving_55 F hr k0 hK4 hw
      · refine z_aload_n F dX3_findLeaving_34 rfl rfl 0 rfl ?_
        refine z_getR F fl_341 k0 dX3_findLeaving_35 rfl ?_
        refine z_iload_n F dX3_findLeaving_38 rfl rfl 2 rfl ?_
        have n39 := hw.1
        refine z_aald F 2 (tk_3_1 k0) rfl rfl dX3_findLeaving_39 rfl hw (fun hw => ?_)
        refine z_getI F fl_323 (tka_17 (tk_3_1 k0) n39) dX3_findLeaving_40 rfl ?_
        refine z_aload_n F dX3_findLeaving_43 rfl rfl 0 rfl ?_
        refine z_getR F fl_341 k0 dX3_findLeaving_44 rfl ?_
        refine z_iload_n F dX3_findLeaving_47 rfl rfl 1 rfl ?_
        have n48 := hw.1
        refine z_aald F 2 (tk_3_1 k0) rfl rfl dX3_findLeaving_48 rfl hw (fun hw => ?_)
        refine z_getI F fl_323 (tka_17 (tk_3_1 k0) n48) dX3_findLeaving_49 rfl ?_
        refine z_icmp_ge F dX3_findLeaving_52 rfl rfl hw (fun hw => ?_) (fun hw => ?_)
        · refine z_sub [0, 1, 2] rfl ?_
          exact bk_X3_findLeaving_57 F hr k0 hK4 hw
        · refine z_sub [0, 2] rfl ?_
          exact bk_X3_findLeaving_55 F hr k0 hK4 hw
set_option maxRecDepth 100000 in
set_option maxHeartbeats 4000000 in
theorem lp_X3_findLeaving_4 {g : En} {p : Program} {l : Launch} {e : Env} {s : State} {m : MethodId} {args : Array Value} {below : List Frame} {meth : Method} {c : Code} {M : Mem} {a0 : Nat} {Q : Int → Prop} {x1 : Int} {x2 : Int} (F : Fx g p s m args meth c cX3_findLeaving 3 RX3) (hr : meth.sig.returnType = (some .int)) (k0 : kd a0 = 3)
    (hw : wp_X3_findLeaving_L4 a0 Q M x1 x2) : Z g p l e rm_X3_findLeaving s m args below meth c 3 (MQ below (va_Qi (S := Int × Mem) (fun r u => r = i3 u.1 ∧ (u.2 = M ∧ Q u.1)) (fun u => Rp g u.2) (aR g)) args s 0 0 (aR g)) M 4 [(0, .ref (g.2.2.1 + a0)), (1, .int (i3 x1)), (2, .int (i3 x2))] [] := by
  obtain ⟨I, μ, h0, hb⟩ := hw
  have key : ∀ (n : Nat) (x1 : Int) (x2 : Int), I x1 x2 → μ x1 x2 < n → Z g p l e rm_X3_findLeaving s m args below meth c 3 (MQ below (va_Qi (S := Int × Mem) (fun r u => r = i3 u.1 ∧ (u.2 = M ∧ Q u.1)) (fun u => Rp g u.2) (aR g)) args s 0 0 (aR g)) M 4 [(0, .ref (g.2.2.1 + a0)), (1, .int (i3 x1)), (2, .int (i3 x2))] [] := by
    intro n
    induction n with
    | zero => exact fun _ _ _ h => absurd h (Nat.not_lt_zero _)
    | succ n ih =>
      intro x1 x2 hI hn
      exact bk_X3_findLeaving_B4 F hr k0 (fun x1' x2' hk => ih x1' x2' hk.1 (Nat.lt_of_lt_of_le hk.2 (Nat.le_of_lt_succ hn))) (hb x1 x2 hI)
  exact key _ x1 x2 h0 (Nat.lt_succ_self _)
set_option maxRecDepth 100000 in
set_option maxHeartbeats 4000000 in
theorem c_X3_findLeaving (l : Launch) (g : En) {a0 : Nat} {M : Mem} {Q : Int → Prop} (k0 : kd a0 = 3) (hw : wp_X3_findLeaving a0 M Q) :
    Met l yX3_findLeaving (WS yX3_findLeaving cX3_findLeaving 3 (some .int)) rm_X3_findLeaving (va_Pc [.ref (g.2.2.1 + a0)] (Rp g M)) (va_Qi (S := Int × Mem) (fun r u => r = i3 u.1 ∧ (u.2 = M ∧ Q u.1)) (fun u => Rp g u.2) (aR g)) 0 0 (aR g) := by
  refine met_Z (plainFor_of_name rfl) (Nat.le_of_ble_eq_true rfl) ?_
  intro p e s m args below meth c F hr _
  show Z g p l e rm_X3_findLeaving s m args below meth c 3 (MQ below (va_Qi (S := Int × Mem) (fun r u => r = i3 u.1 ∧ (u.2 = M ∧ Q u.1)) (fun u => Rp g u.2) (aR g)) args s 0 0 (aR g)) M 0 [(0, .ref (g.2.2.1 + a0))] []
  refine z_iconst F dX3_findLeaving_0 rfl ?_
  refine z_istore_n F dX3_findLeaving_1 rfl rfl (by decide) rfl ?_
  refine z_iconst F dX3_findLeaving_2 rfl ?_
  refine z_istore_n F dX3_findLeaving_3 rfl rfl (by decide) rfl ?_
  refine z_sub [2, 1, 0] rfl ?_
  exact lp_X3_findLeaving_4 F hr k0 hw
theorem cv_X3_findLeaving : CV yX3_findLeaving RX3 cX3_findLeaving 3 (some .int) 0 := ⟨w_780, w_12, w_75, w_781, rfl, by decide +kernel, by decide +kernel, by decide +kernel⟩
abbrev rm_X4_divide : Room := { frames := 1, cells := 0, slots := 0, locals := 31 }
def wp_X4_divide_b46 (a0 : Nat) (a1 : Nat) (Q : Mem → Prop) (M : Mem) (s0 : Int) : Prop :=
  wp_X4_product (M a0 0) ((w32 s0) * (M a1 1)) M (fun r59 =>
  wp_X4_product (M a0 1) ((w32 s0) * (M a1 0)) M (fun r73 =>
  wp_X4_reduce a0 r59 r73 M (fun M76 =>
  Q M76)))
def wp_X4_divide_b29 (a0 : Nat) (a1 : Nat) (Q : Mem → Prop) (M : Mem) (s1 : Bool) : Prop :=
  ∀ M29 : Mem, M29 = st2 M a0 2 (bz s1) →
  (((w64 0 ≤ w64 (M29 a1 0)) → (
    wp_X4_divide_b46 a0 a1 Q M29 1)) ∧
  (¬ (w64 0 ≤ w64 (M29 a1 0)) → (
    wp_X4_divide_b46 a0 a1 Q M29 (-1))))
def wp_X4_divide_b24 (a0 : Nat) (a1 : Nat) (Q : Mem → Prop) (M : Mem) : Prop :=
  wp_X4_divide_b29 a0 a1 Q M true
def wp_X4_divide (a0 : Nat) (a1 : Nat) (M : Mem) (Q : Mem → Prop) : Prop :=
  (((fb M a0 2) = true → (
    wp_X4_divide_b24 a0 a1 Q M)) ∧
  ((fb M a0 2) = false → (
    (((fb M a1 2) = true → (
      wp_X4_divide_b24 a0 a1 Q M)) ∧
    ((fb M a1 2) = false → (
      (((¬ w64 (M a1 0) = w64 0) → (
        wp_X4_divide_b29 a0 a1 Q M false)) ∧
      (¬ (¬ w64 (M a1 0) = w64 0) → (
        wp_X4_divide_b24 a0 a1 Q M)))))))))
set_option maxRecDepth 100000 in
set_option maxHeartbeats 4000000 in
theorem bk_X4_divide_46 {g : En} {p : Program} {l : Launch} {e : Env} {s : State} {m : MethodId} {args : Array Value} {below : List Frame} {meth : Method} {c : Code} {M : Mem} {a0 : Nat} {a1 : Nat} {Q : Mem → Prop} {s0 : Int} (F : Fx g p s m args meth c cX4_divide 3 RX4) (hr : meth.sig.returnType = none) (k0 : kd a0 = 4) (k1 : kd a1 = 4)
    (hw : wp_X4_divide_b46 a0 a1 Q M s0) : Z g p l e rm_X4_divide s m args below meth c 3 (MQ below (va_Qv (S := Mem) Q (fun u => Rp g u) (aR g)) args s 0 0 (aR g)) M 46 [(0, .ref (g.2.2.1 + a0)), (1, .ref (g.2.2.1 + a1))] [.int (i3 s0)] := by
  refine z_istore_n F dX4_divide_46 rfl rfl (by decide) rfl ?_
  refine z_aload_n F dX4_divide_47 rfl rfl 1 rfl ?_
  refine z_aload_n F dX4_divide_48 rfl rfl 1 rfl ?_
  refine z_getL F fl_266 k0 dX4_divide_49 rfl ?_
  refine z_iload_n F dX4_divide_52 rfl rfl 0 rfl ?_
  refine z_i2l F dX4_divide_53 rfl ?_
  refine z_aload_n F dX4_divide_54 rfl rfl 2 rfl ?_
  refine z_getL F fl_269 k1 dX4_divide_55 rfl ?_
  refine z_lmul F dX4_divide_58 rfl ?_
  refine z_cSlp (As := [.long (i6 (M a0 0)), .long (i6 ((w32 s0) * (M a1 1)))]) (st := [.ref (g.2.2.1 + a0)]) F (c_X4_product l g hw) cs_X4_product w_684 ⟨rfl, rfl, Nat.le_of_ble_eq_true rfl, Nat.le_of_ble_eq_true rfl⟩ rfl (Nat.le_of_ble_eq_true rfl) dX4_divide_59 rfl (fun r59 hw => ?_)
  refine z_aload_n F dX4_divide_62 rfl rfl 1 rfl ?_
  refine z_getL F fl_269 k0 dX4_divide_63 rfl ?_
  refine z_iload_n F dX4_divide_66 rfl rfl 0 rfl ?_
  refine z_i2l F dX4_divide_67 rfl ?_
  refine z_aload_n F dX4_divide_68 rfl rfl 2 rfl ?_
  refine z_getL F fl_266 k1 dX4_divide_69 rfl ?_
  refine z_lmul F dX4_divide_72 rfl ?_
  refine z_cSlp (As := [.long (i6 (M a0 1)), .long (i6 ((w32 s0) * (M a1 0)))]) (st := [.long (i6 r59), .ref (g.2.2.1 + a0)]) F (c_X4_product l g hw) cs_X4_product w_684 ⟨rfl, rfl, Nat.le_of_ble_eq_true rfl, Nat.le_of_ble_eq_true rfl⟩ rfl (Nat.le_of_ble_eq_true rfl) dX4_divide_73 rfl (fun r73 hw => ?_)
  refine z_cVv (As := [.long (i6 r59), .long (i6 r73)]) (st := []) F (c_X4_reduce l g k0 hw) cv_X4_reduce w_669 ⟨rfl, rfl, Nat.le_of_ble_eq_true rfl, Nat.le_of_ble_eq_true rfl⟩ k0 rfl rfl (Nat.le_of_ble_eq_true rfl) dX4_divide_76 rfl (fun M76 hw => ?_)
  exact z_vret F hr dX4_divide_79 hw
set_option maxRecDepth 100000 in
set_option maxHeartbeats 4000000 in
theorem bk_X4_divide_29 {g : En} {p : Program} {l : Launch} {e : Env} {s : State} {m : MethodId} {args : Array Value} {below : List Frame} {meth : Method} {c : Code} {M : Mem} {a0 : Nat} {a1 : Nat} {Q : Mem → Prop} {s1 : Bool} (F : Fx g p s m args meth c cX4_divide 3 RX4) (hr : meth.sig.returnType = none) (k0 : kd a0 = 4) (k1 : kd a1 = 4)
    (hw : wp_X4_divide_b29 a0 a1 Q M s1) : Z g p l e rm_X4_divide s m args below meth c 3 (MQ below (va_Qv (S := Mem) Q (fun u => Rp g u) (aR g)) args s 0 0 (aR g)) M 29 [(0, .ref (g.2.2.1 + a0)), (1, .ref (g.2.2.1 + a1))] [.int (i3 (bz s1)), .ref (g.2.2.1 + a0)] := by
  refine z_putB (r := s1) F fp_270 k0 dX4_divide_29 rfl ?_
  refine z_nmM (fun M29 eM29 => ?_)
  have hw := hw M29 eM29
  refine z_aload_n F dX4_divide_32 rfl rfl 1 rfl ?_
  refine z_getL F fl_266 k1 dX4_divide_33 rfl ?_
  refine z_lconst (v := 0) F dX4_divide_36 rfl rfl ?_
  refine z_lcmp_ge F dX4_divide_37 rfl dX4_divide_38 rfl rfl hw (fun hw => ?_) (fun hw => ?_)
  · refine z_iconst F dX4_divide_45 rfl ?_
    refine z_sub [0, 1] rfl ?_
    exact bk_X4_divide_46 F hr k0 k1 hw
  · refine z_iconst F dX4_divide_41 rfl ?_
    refine z_goto F dX4_divide_42 rfl ?_
    refine z_sub [0, 1] rfl ?_
    exact bk_X4_divide_46 F hr k0 k1 hw
set_option maxRecDepth 100000 in
set_option maxHeartbeats 4000000 in
theorem bk_X4_divide_24 {g : En} {p : Program} {l : Launch} {e : Env} {s : State} {m : MethodId} {args : Array Value} {below : List Frame} {meth : Method} {c : Code} {M : Mem} {a0 : Nat} {a1 : Nat} {Q : Mem → Prop} (F : Fx g p s m args meth c cX4_divide 3 RX4) (hr : meth.sig.returnType = none) (k0 : kd a0 = 4) (k1 : kd a1 = 4)
    (hw : wp_X4_divide_b24 a0 a1 Q M) : Z g p l e rm_X4_divide s m args below meth c 3 (MQ below (va_Qv (S := Mem) Q (fun u => Rp g u) (aR g)) args s 0 0 (aR g)) M 24 [(0, .ref (g.2.2.1 + a0)), (1, .ref (g.2.2.1 + a1))] [.ref (g.2.2.1 + a0)] := by
  refine z_iconst F dX4_divide_24 rfl ?_
  refine z_goto F dX4_divide_25 rfl ?_
  refine z_sub [0, 1] rfl ?_
  exact bk_X4_divide_29 F hr k0 k1 hw
set_option maxRecDepth 100000 in
set_option maxHeartbeats 4000000 in
theorem c_X4_divide (l : Launch) (g : En) {a0 : Nat} {a1 : Nat} {M : Mem} {Q : Mem → Prop} (k0 : kd a0 = 4) (k1 : kd a1 = 4) (hw : wp_X4_divide a0 a1 M Q) :
    Met l yX4_divide (WS yX4_divide cX4_divide 3 none) rm_X4_divide (va_Pc [.ref (g.2.2.1 + a0), .ref (g.2.2.1 + a1)] (Rp g M)) (va_Qv (S := Mem) Q (fun u => Rp g u) (aR g)) 0 0 (aR g) := by
  refine met_Z (plainFor_of_name rfl) (Nat.le_of_ble_eq_true rfl) ?_
  intro p e s m args below meth c F hr _
  show Z g p l e rm_X4_divide s m args below meth c 3 (MQ below (va_Qv (S := Mem) Q (fun u => Rp g u) (aR g)) args s 0 0 (aR g)) M 0 [(0, .ref (g.2.2.1 + a0)), (1, .ref (g.2.2.1 + a1))] []
  refine z_aload_n F dX4_divide_0 rfl rfl 0 rfl ?_
  refine z_aload_n F dX4_divide_1 rfl rfl 0 rfl ?_
  refine z_getB F fl_270 k0 dX4_divide_2 rfl ?_
  refine z_ifb_ne F dX4_divide_5 rfl rfl hw (fun hw => ?_) (fun hw => ?_)
  · refine z_sub [0, 1] rfl ?_
    exact bk_X4_divide_24 F hr k0 k1 hw
  · refine z_aload_n F dX4_divide_8 rfl rfl 1 rfl ?_
    refine z_getB F fl_270 k1 dX4_divide_9 rfl ?_
    refine z_ifb_ne F dX4_divide_12 rfl rfl hw (fun hw => ?_) (fun hw => ?_)
    · refine z_sub [0, 1] rfl ?_
      exact bk_X4_divide_24 F hr k0 k1 hw
    · refine z_aload_n F dX4_divide_15 rfl rfl 1 rfl ?_
      refine z_getL F fl_266 k1 dX4_divide_16 rfl ?_
      refine z_lconst (v := 0) F dX4_divide_19 rfl rfl ?_
      refine z_lcmp_ne F dX4_divide_20 rfl dX4_divide_21 rfl rfl hw (fun hw => ?_) (fun hw => ?_)
      · refine z_iconst F dX4_divide_28 rfl ?_
        refine z_sub [0, 1] rfl ?_
        exact bk_X4_divide_29 F hr k0 k1 hw
      · refine z_sub [0, 1] rfl ?_
        exact bk_X4_divide_24 F hr k0 k1 hw
theorem cv_X4_divide : CV yX4_divide RX4 cX4_divide 3 none 1 := ⟨w_681, w_682, w_74, w_683, rfl, by decide +kernel, by decide +kernel, by decide +kernel⟩
abbrev rm_J9_floorDiv_f86c9 : Room := { frames := 0, cells := 0, slots := 0, locals := 0 }
def wp_J9_floorDiv_f86c9 (a0 : Int) (a1 : Int) (M : Mem) (Q : Int → Prop) : Prop :=
  w64 a1 ≠ 0 ∧ (
  (((w64 0 ≤ w64 (lx a0 a1)) → (
    Q ((w64 a0).tdiv (w64 a1)))) ∧
  (¬ (w64 0 ≤ w64 (lx a0 a1)) → (
    (((w64 (((w64 a0).tdiv (w64 a1)) * a1) = w64 a0) → (
      Q ((w64 a0).tdiv (w64 a1)))) ∧
    (¬ (w64 (((w64 a0).tdiv (w64 a1)) * a1) = w64 a0) → (
      Q (((w64 a0).tdiv (w64 a1)) - 1))))))))
set_option maxRecDepth 100000 in
set_option maxHeartbeats 4000000 in
theorem c_J9_floorDiv_f86c9 (l : Launch) (g : En) {a0 : Int} {a1 : Int} {M : Mem} {Q : Int → Prop} (hw : wp_J9_floorDiv_f86c9 a0 a1 M Q) :
    Met l yJ9_floorDiv_f86c9 (WS yJ9_floorDiv_f86c9 cJ9_floorDiv_f86c9 6 (some .long)) rm_J9_floorDiv_f86c9 (va_Pc [.long (i6 a0), .long (i6 a1)] (Rp g M)) (va_Ql (S := Int × Mem) (fun r u => r = i6 u.1 ∧ (u.2 = M ∧ Q u.1)) (fun u => Rp g u.2) (aR g)) 0 0 (aR g) := by
  refine met_Z (by decide +kernel) (Nat.le_of_ble_eq_true rfl) ?_
  intro p e s m args below meth c F hr _
  show Z g p l e rm_J9_floorDiv_f86c9 s m args below meth c 6 (MQ below (va_Ql (S := Int × Mem) (fun r u => r = i6 u.1 ∧ (u.2 = M ∧ Q u.1)) (fun u => Rp g u.2) (aR g)) args s 0 0 (aR g)) M 0 [(0, .long (i6 a0)), (2, .long (i6 a1))] []
  refine z_lload_n F dJ9_floorDiv_f86c9_0 rfl rfl 0 rfl ?_
  refine z_lload_n F dJ9_floorDiv_f86c9_1 rfl rfl 1 rfl ?_
  refine z_ldiv F dJ9_floorDiv_f86c9_2 rfl hw (fun hw => ?_)
  refine z_lstore F dJ9_floorDiv_f86c9_3 rfl (by decide) rfl ?_
  refine z_lload_n F dJ9_floorDiv_f86c9_5 rfl rfl 1 rfl ?_
  refine z_lload_n F dJ9_floorDiv_f86c9_6 rfl rfl 2 rfl ?_
  refine z_lxor F dJ9_floorDiv_f86c9_7 rfl ?_
  refine z_lconst (v := 0) F dJ9_floorDiv_f86c9_8 rfl rfl ?_
  refine z_lcmp_ge F dJ9_floorDiv_f86c9_9 rfl dJ9_floorDiv_f86c9_10 rfl rfl hw (fun hw => ?_) (fun hw => ?_)
  · refine z_lload F dJ9_floorDiv_f86c9_27 rfl 0 rfl ?_
    exact z_lretp (x := ((w64 a0).tdiv (w64 a1))) F hr dJ9_floorDiv_f86c9_29 hw
  · refine z_lload F dJ9_floorDiv_f86c9_13 rfl 0 rfl ?_
    refine z_lload_n F dJ9_floorDiv_f86c9_15 rfl rfl 2 rfl ?_
    refine z_lmul F dJ9_floorDiv_f86c9_16 rfl ?_
    refine z_lload_n F dJ9_floorDiv_f86c9_17 rfl rfl 1 rfl ?_
    refine z_lcmp_eq F dJ9_floorDiv_f86c9_18 rfl dJ9_floorDiv_f86c9_19 rfl rfl hw (fun hw => ?_) (fun hw => ?_)
    · refine z_lload F dJ9_floorDiv_f86c9_27 rfl 0 rfl ?_
      exact z_lretp (x := ((w64 a0).tdiv (w64 a1))) F hr dJ9_floorDiv_f86c9_29 hw
    · refine z_lload F dJ9_floorDiv_f86c9_22 rfl 0 rfl ?_
      refine z_lconst (v := 1) F dJ9_floorDiv_f86c9_24 rfl rfl ?_
      refine z_lsub F dJ9_floorDiv_f86c9_25 rfl ?_
      exact z_lretp (x := (((w64 a0).tdiv (w64 a1)) - 1)) F hr dJ9_floorDiv_f86c9_26 hw
theorem cs_J9_floorDiv_f86c9 : CS yJ9_floorDiv_f86c9 cJ9_floorDiv_f86c9 6 (some .long) 2 := ⟨w_793, w_82, w_794, by decide +kernel, by decide +kernel, by decide +kernel⟩
abbrev rm_X4_compare : Room := { frames := 1, cells := 0, slots := 0, locals := 25 }
def wp_X4_compare_b138 (a0 : Nat) (a1 : Nat) (Q : Int → Prop) (M : Mem) (x4 : Int) (x8 : Int) (x10 : Int) : Prop :=
  (((¬ w64 x4 = w64 x8) → (
    (((¬ w64 x4 = w64 0) → (
      Q (-x10))) ∧
    (¬ (¬ w64 x4 = w64 0) → (
      Q x10))))) ∧
  (¬ (¬ w64 x4 = w64 x8) → (
    Q 0)))
def wp_X4_compare_B29 (a0 : Nat) (a1 : Nat) (Q : Int → Prop) (K29 : Int → Int → Int → Int → Int → Int → Prop) (M : Mem) (x2 : Int) (x4 : Int) (x6 : Int) (x8 : Int) (x10 : Int) (x11 : Int) : Prop :=
  (((w32 200 ≤ w32 x11) → (
    wp_X4_compare_b138 a0 a1 Q M x4 x8 x10)) ∧
  (¬ (w32 200 ≤ w32 x11) → (
    (((w64 x4 ≤ w64 0) → (
      wp_X4_compare_b138 a0 a1 Q M x4 x8 x10)) ∧
    (¬ (w64 x4 ≤ w64 0) → (
      (((w64 x8 ≤ w64 0) → (
        wp_X4_compare_b138 a0 a1 Q M x4 x8 x10)) ∧
      (¬ (w64 x8 ≤ w64 0) → (
        wp_J9_floorDiv_f86c9 x2 x4 M (fun r54 =>
        wp_J9_floorDiv_f86c9 x6 x8 M (fun r63 =>
        (((w64 r54 = w64 r63) → (
          K29 x4 (x2 - (r54 * x4)) x8 (x6 - (r63 * x8)) (-x10) (x11 + 1))) ∧
        (¬ (w64 r54 = w64 r63) → (
          (((w64 r63 ≤ w64 r54) → (
            Q x10)) ∧
          (¬ (w64 r63 ≤ w64 r54) → (
            Q (-x10))))))))))))))))))
def wp_X4_compare_L29 (a0 : Nat) (a1 : Nat) (Q : Int → Prop) (M : Mem) (x2 : Int) (x4 : Int) (x6 : Int) (x8 : Int) (x10 : Int) (x11 : Int) : Prop :=
  ∃ (I : Int → Int → Int → Int → Int → Int → Prop) (μ : Int → Int → Int → Int → Int → Int → Nat), I x2 x4 x6 x8 x10 x11 ∧ ∀ (x2 : Int) (x4 : Int) (x6 : Int) (x8 : Int) (x10 : Int) (x11 : Int), I x2 x4 x6 x8 x10 x11 →
    wp_X4_compare_B29 a0 a1 Q (fun x2' x4' x6' x8' x10' x11' => I x2' x4' x6' x8' x10' x11' ∧ μ x2' x4' x6' x8' x10' x11' < μ x2 x4 x6 x8 x10 x11) M x2 x4 x6 x8 x10 x11
def wp_X4_compare (a0 : Nat) (a1 : Nat) (M : Mem) (Q : Int → Prop) : Prop :=
  wp_X4_compare_L29 a0 a1 Q M (M a0 0) (M a0 1) (M a1 0) (M a1 1) 1 0
set_option maxRecDepth 100000 in
set_option maxHeartbeats 4000000 in
theorem bk_X4_compare_138 {g : En} {p : Program} {l : Launch} {e : Env} {s : State} {m : MethodId} {args : Array Value} {below : List Frame} {meth : Method} {c : Code} {M : Mem} {a0 : Nat} {a1 : Nat} {Q : Int → Prop} {x4 : Int} {x8 : Int} {x10 : Int} (F : Fx g p s m args meth c cX4_compare 20 RX4) (hr : meth.sig.returnType = (some .int)) (k0 : kd a0 = 4) (k1 : kd a1 = 4)
    (hw : wp_X4_compare_b138 a0 a1 Q M x4 x8 x10) : Z g p l e rm_X4_compare s m args below meth c 20 (MQ below (va_Qi (S := Int × Mem) (fun r u => r = i3 u.1 ∧ (u.2 = M ∧ Q u.1)) (fun u => Rp g u.2) (aR g)) args s 0 0 (aR g)) M 138 [(4, .long (i6 x4)), (8, .long (i6 x8)), (10, .int (i3 x10))] [] := by
  refine z_lload F dX4_compare_138 rfl 0 rfl ?_
  refine z_lload F dX4_compare_140 rfl 1 rfl ?_
  refine z_lcmp_ne F dX4_compare_142 rfl dX4_compare_143 rfl rfl hw (fun hw => ?_) (fun hw => ?_)
  · refine z_lload F dX4_compare_150 rfl 0 rfl ?_
    refine z_lconst (v := 0) F dX4_compare_152 rfl rfl ?_
    refine z_lcmp_ne F dX4_compare_153 rfl dX4_compare_154 rfl rfl hw (fun hw => ?_) (fun hw => ?_)
    · refine z_iload F dX4_compare_162 rfl 2 rfl ?_
      refine z_ineg F dX4_compare_164 rfl ?_
      exact z_iretp (x := (-x10)) F hr dX4_compare_165 hw
    · refine z_iload F dX4_compare_157 rfl 2 rfl ?_
      refine z_goto F dX4_compare_159 rfl ?_
      exact z_iretp (x := x10) F hr dX4_compare_165 hw
  · refine z_iconst F dX4_compare_146 rfl ?_
    refine z_goto F dX4_compare_147 rfl ?_
    exact z_iretp (x := 0) F hr dX4_compare_165 hw
set_option maxRecDepth 100000 in
set_option maxHeartbeats 4000000 in
theorem bk_X4_compare_B29 {g : En} {p : Program} {l : Launch} {e : Env} {s : State} {m : MethodId} {args : Array Value} {below : List Frame} {meth : Method} {c : Code} {M : Mem} {a0 : Nat} {a1 : Nat} {Q : Int → Prop} {K29 : Int → Int → Int → Int → Int → Int → Prop} {x2 : Int} {x4 : Int} {x6 : Int} {x8 : Int} {x10 : Int} {x11 : Int} (F : Fx g p s m args meth c cX4_compare 20 RX4) (hr : meth.sig.returnType = (some .int)) (k0 : kd a0 = 4) (k1 : kd a1 = 4)
    (hK29 : ∀ (x2' : Int) (x4' : Int) (x6' : Int) (x8' : Int) (x10' : Int) (x11' : Int), K29 x2' x4' x6' x8' x10' x11' → Z g p l e rm_X4_compare s m args below meth c 20 (MQ below (va_Qi (S := Int × Mem) (fun r u => r = i3 u.1 ∧ (u.2 = M ∧ Q u.1)) (fun u => Rp g u.2) (aR g)) args s 0 0 (aR g)) M 29 [(2, .long (i6 x2')), (4, .long (i6 x4')), (6, .long (i6 x6')), (8, .long (i6 x8')), (10, .int (i3 x10')), (11, .int (i3 x11'))] [])
    (hw : wp_X4_compare_B29 a0 a1 Q K29 M x2 x4 x6 x8 x10 x11) : Z g p l e rm_X4_compare s m args below meth c 20 (MQ below (va_Qi (S := Int × Mem) (fun r u => r = i3 u.1 ∧ (u.2 = M ∧ Q u.1)) (fun u => Rp g u.2) (aR g)) args s 0 0 (aR g)) M 29 [(2, .long (i6 x2)), (4, .long (i6 x4)), (6, .long (i6 x6)), (8, .long (i6 x8)), (10, .int (i3 x10)), (11, .int (i3 x11))] [] := by
  refine z_iload F dX4_compare_29 rfl 5 rfl ?_
  refine z_sipush F dX4_compare_31 (by decide) rfl ?_
  refine z_icmp_ge F dX4_compare_34 rfl rfl hw (fun hw => ?_) (fun hw => ?_)
  · refine z_sub [1, 3, 4] rfl ?_
    exact bk_X4_compare_138 F hr k0 k1 hw
  · refine z_lload F dX4_compare_37 rfl 1 rfl ?_
    refine z_lconst (v := 0) F dX4_compare_39 rfl rfl ?_
    refine z_lcmp_le F dX4_compare_40 rfl dX4_compare_41 rfl rfl hw (fun hw => ?_) (fun hw => ?_)
    · refine z_sub [1, 3, 4] rfl ?_
      exact bk_X4_compare_138 F hr k0 k1 hw
    · refine z_lload F dX4_compare_44 rfl 3 rfl ?_
      refine z_lconst (v := 0) F dX4_compare_46 rfl rfl ?_
      refine z_lcmp_le F dX4_compare_47 rfl dX4_compare_48 rfl rfl hw (fun hw => ?_) (fun hw => ?_)
      · refine z_sub [1, 3, 4] rfl ?_
        exact bk_X4_compare_138 F hr k0 k1 hw
      · refine z_lload_n F dX4_compare_51 rfl rfl 0 rfl ?_
        refine z_lload F dX4_compare_52 rfl 1 rfl ?_
        refine z_cSlp (As := [.long (i6 x2), .long (i6 x4)]) (st := []) F (c_J9_floorDiv_f86c9 l g hw) cs_J9_floorDiv_f86c9 w_792 ⟨rfl, rfl, Nat.le_of_ble_eq_true rfl, Nat.le_of_ble_eq_true rfl⟩ rfl (Nat.le_of_ble_eq_true rfl) dX4_compare_54 rfl (fun r54 hw => ?_)
        refine z_lstore F dX4_compare_57 rfl (by decide) rfl ?_
        refine z_lload F dX4_compare_59 rfl 3 rfl ?_
        refine z_lload F dX4_compare_61 rfl 4 rfl ?_
        refine z_cSlp (As := [.long (i6 x6), .long (i6 x8)]) (st := []) F (c_J9_floorDiv_f86c9 l g hw) cs_J9_floorDiv_f86c9 w_792 ⟨rfl, rfl, Nat.le_of_ble_eq_true rfl, Nat.le_of_ble_eq_true rfl⟩ rfl (Nat.le_of_ble_eq_true rfl) dX4_compare_63 rfl (fun r63 hw => ?_)
        refine z_lstore F dX4_compare_66 rfl (by decide) rfl ?_
        refine z_lload F dX4_compare_68 rfl 1 rfl ?_
        refine z_lload F dX4_compare_70 rfl 0 rfl ?_
        refine z_lcmp_eq F dX4_compare_72 rfl dX4_compare_73 rfl rfl hw (fun hw => ?_) (fun hw => ?_)
        · refine z_lload_n F dX4_compare_93 rfl rfl 2 rfl ?_
          refine z_lload F dX4_compare_94 rfl 1 rfl ?_
          refine z_lload F dX4_compare_96 rfl 3 rfl ?_
          refine z_lmul F dX4_compare_98 rfl ?_
          refine z_lsub F dX4_compare_99 rfl ?_
          refine z_lstore F dX4_compare_100 rfl (by decide) rfl ?_
          refine z_lload F dX4_compare_102 rfl 5 rfl ?_
          refine z_lload F dX4_compare_104 rfl 1 rfl ?_
          refine z_lload F dX4_compare_106 rfl 6 rfl ?_
          refine z_lmul F dX4_compare_108 rfl ?_
          refine z_lsub F dX4_compare_109 rfl ?_
          refine z_lstore F dX4_compare_110 rfl (by decide) rfl ?_
          refine z_lload F dX4_compare_112 rfl 5 rfl ?_
          refine z_lstore_n F dX4_compare_114 rfl rfl (by decide) rfl ?_
          refine z_lload F dX4_compare_115 rfl 2 rfl ?_
          refine z_lstore F dX4_compare_117 rfl (by decide) rfl ?_
          refine z_lload F dX4_compare_119 rfl 7 rfl ?_
          refine z_lstore F dX4_compare_121 rfl (by decide) rfl ?_
          refine z_lload F dX4_compare_123 rfl 3 rfl ?_
          refine z_lstore F dX4_compare_125 rfl (by decide) rfl ?_
          refine z_iload F dX4_compare_127 rfl 8 rfl ?_
          refine z_ineg F dX4_compare_129 rfl ?_
          refine z_istore F dX4_compare_130 rfl (by decide) rfl ?_
          refine z_iinc F dX4_compare_132 rfl 9 rfl (by decide) rfl ?_
          refine z_goto F dX4_compare_135 rfl ?_
          refine z_sub [5, 4, 3, 2, 1, 0] rfl ?_
          exact hK29 x4 (x2 - (r54 * x4)) x8 (x6 - (r63 * x8)) (-x10) (x11 + 1) hw
        · refine z_lload F dX4_compare_76 rfl 1 rfl ?_
          refine z_lload F dX4_compare_78 rfl 0 rfl ?_
          refine z_lcmp_ge F dX4_compare_80 rfl dX4_compare_81 rfl rfl hw (fun hw => ?_) (fun hw => ?_)
          · refine z_iload F dX4_compare_90 rfl 6 rfl ?_
            exact z_iretp (x := x10) F hr dX4_compare_92 hw
          · refine z_iload F dX4_compare_84 rfl 6 rfl ?_
            refine z_ineg F dX4_compare_86 rfl ?_
            refine z_goto F dX4_compare_87 rfl ?_
            exact z_iretp (x := (-x10)) F hr dX4_compare_92 hw
set_option maxRecDepth 100000 in
set_option maxHeartbeats 4000000 in
theorem lp_X4_compare_29 {g : En} {p : Program} {l : Launch} {e : Env} {s : State} {m : MethodId} {args : Array Value} {below : List Frame} {meth : Method} {c : Code} {M : Mem} {a0 : Nat} {a1 : Nat} {Q : Int → Prop} {x2 : Int} {x4 : Int} {x6 : Int} {x8 : Int} {x10 : Int} {x11 : Int} (F : Fx g p s m args meth c cX4_compare 20 RX4) (hr : meth.sig.returnType = (some .int)) (k0 : kd a0 = 4) (k1 : kd a1 = 4)
    (hw : wp_X4_compare_L29 a0 a1 Q M x2 x4 x6 x8 x10 x11) : Z g p l e rm_X4_compare s m args below meth c 20 (MQ below (va_Qi (S := Int × Mem) (fun r u => r = i3 u.1 ∧ (u.2 = M ∧ Q u.1)) (fun u => Rp g u.2) (aR g)) args s 0 0 (aR g)) M 29 [(2, .long (i6 x2)), (4, .long (i6 x4)), (6, .long (i6 x6)), (8, .long (i6 x8)), (10, .int (i3 x10)), (11, .int (i3 x11))] [] := by
  obtain ⟨I, μ, h0, hb⟩ := hw
  have key : ∀ (n : Nat) (x2 : Int) (x4 : Int) (x6 : Int) (x8 : Int) (x10 : Int) (x11 : Int), I x2 x4 x6 x8 x10 x11 → μ x2 x4 x6 x8 x10 x11 < n → Z g p l e rm_X4_compare s m args below meth c 20 (MQ below (va_Qi (S := Int × Mem) (fun r u => r = i3 u.1 ∧ (u.2 = M ∧ Q u.1)) (fun u => Rp g u.2) (aR g)) args s 0 0 (aR g)) M 29 [(2, .long (i6 x2)), (4, .long (i6 x4)), (6, .long (i6 x6)), (8, .long (i6 x8)), (10, .int (i3 x10)), (11, .int (i3 x11))] [] := by
    intro n
    induction n with
    | zero => exact fun _ _ _ _ _ _ _ h => absurd h (Nat.not_lt_zero _)
    | succ n ih =>
      intro x2 x4 x6 x8 x10 x11 hI hn
      exact bk_X4_compare_B29 F hr k0 k1 (fun x2' x4' x6' x8' x10' x11' hk => ih x2' x4' x6' x8' x10' x11' hk.1 (Nat.lt_of_lt_of_le hk.2 (Nat.le_of_lt_succ hn))) (hb x2 x4 x6 x8 x10 x11 hI)
  exact key _ x2 x4 x6 x8 x10 x11 h0 (Nat.lt_succ_self _)
set_option maxRecDepth 100000 in
set_option maxHeartbeats 4000000 in
theorem c_X4_compare (l : Launch) (g : En) {a0 : Nat} {a1 : Nat} {M : Mem} {Q : Int → Prop} (k0 : kd a0 = 4) (k1 : kd a1 = 4) (hw : wp_X4_compare a0 a1 M Q) :
    Met l yX4_compare (WS yX4_compare cX4_compare 20 (some .int)) rm_X4_compare (va_Pc [.ref (g.2.2.1 + a0), .ref (g.2.2.1 + a1)] (Rp g M)) (va_Qi (S := Int × Mem) (fun r u => r = i3 u.1 ∧ (u.2 = M ∧ Q u.1)) (fun u => Rp g u.2) (aR g)) 0 0 (aR g) := by
  refine met_Z (plainFor_of_name rfl) (Nat.le_of_ble_eq_true rfl) ?_
  intro p e s m args below meth c F hr _
  show Z g p l e rm_X4_compare s m args below meth c 20 (MQ below (va_Qi (S := Int × Mem) (fun r u => r = i3 u.1 ∧ (u.2 = M ∧ Q u.1)) (fun u => Rp g u.2) (aR g)) args s 0 0 (aR g)) M 0 [(0, .ref (g.2.2.1 + a0)), (1, .ref (g.2.2.1 + a1))] []
  refine z_aload_n F dX4_compare_0 rfl rfl 0 rfl ?_
  refine z_getL F fl_266 k0 dX4_compare_1 rfl ?_
  refine z_lstore_n F dX4_compare_4 rfl rfl (by decide) rfl ?_
  refine z_aload_n F dX4_compare_5 rfl rfl 1 rfl ?_
  refine z_getL F fl_269 k0 dX4_compare_6 rfl ?_
  refine z_lstore F dX4_compare_9 rfl (by decide) rfl ?_
  refine z_aload_n F dX4_compare_11 rfl rfl 3 rfl ?_
  refine z_getL F fl_266 k1 dX4_compare_12 rfl ?_
  refine z_lstore F dX4_compare_15 rfl (by decide) rfl ?_
  refine z_aload_n F dX4_compare_17 rfl rfl 4 rfl ?_
  refine z_getL F fl_269 k1 dX4_compare_18 rfl ?_
  refine z_lstore F dX4_compare_21 rfl (by decide) rfl ?_
  refine z_iconst F dX4_compare_23 rfl ?_
  refine z_istore F dX4_compare_24 rfl (by decide) rfl ?_
  refine z_iconst F dX4_compare_26 rfl ?_
  refine z_istore F dX4_compare_27 rfl (by decide) rfl ?_
  refine z_sub [5, 4, 3, 2, 1, 0] rfl ?_
  exact lp_X4_compare_29 F hr k0 k1 hw
theorem cv_X4_compare : CV yX4_compare RX4 cX4_compare 20 (some .int) 1 := ⟨w_789, w_790, w_74, w_791, rfl, by decide +kernel, by decide +kernel, by decide +kernel⟩
abbrev rm_X3_findEntering : Room := { frames := 2, cells := 0, slots := 0, locals := 64 }
def wp_X3_findEntering_b128 (a0 : Nat) (a1 : Nat) (Q : Int → Mem → Prop) (K5 : Mem → Int → Int → Prop) (M : Mem) (x2 : Int) (x3 : Int) : Prop :=
  K5 M x2 (x3 + 1)
def wp_X3_findEntering_b115 (a0 : Nat) (a1 : Nat) (Q : Int → Mem → Prop) (K5 : Mem → Int → Int → Prop) (M : Mem) (x3 : Int) : Prop :=
  wp_X4_become_ (rt a0 8) (rt a0 7) M (fun M125 =>
  wp_X3_findEntering_b128 a0 a1 Q K5 M125 x3 x3)
def wp_X3_findEntering_b88 (a0 : Nat) (a1 : Nat) (Q : Int → Mem → Prop) (K5 : Mem → Int → Int → Prop) (M : Mem) (s0 : Int) (x2 : Int) (x3 : Int) : Prop :=
  (((w32 s0 < 0) → (
    wp_X3_findEntering_b115 a0 a1 Q K5 M x3)) ∧
  (¬ (w32 s0 < 0) → (
    (((¬ w32 s0 = 0) → (
      wp_X3_findEntering_b128 a0 a1 Q K5 M x2 x3)) ∧
    (¬ (¬ w32 s0 = 0) → (
      inb (rt a0 3) x3 ∧ (
      inb (rt a0 3) x2 ∧ (
      (((w32 (M (rt a0 3) (ix x2)) ≤ w32 (M (rt a0 3) (ix x3))) → (
        wp_X3_findEntering_b128 a0 a1 Q K5 M x2 x3)) ∧
      (¬ (w32 (M (rt a0 3) (ix x2)) ≤ w32 (M (rt a0 3) (ix x3))) → (
        wp_X3_findEntering_b115 a0 a1 Q K5 M x3)))))))))))
def wp_X3_findEntering_B5 (a0 : Nat) (a1 : Nat) (Q : Int → Mem → Prop) (K5 : Mem → Int → Int → Prop) (M : Mem) (x2 : Int) (x3 : Int) : Prop :=
  (((w32 (M a0 4) ≤ w32 x3) → (
    Q x2 M)) ∧
  (¬ (w32 (M a0 4) ≤ w32 x3) → (
    inb (rt a1 2) x3 ∧ (
    (((w64 (M (rt (rt a1 2) (ix x3)) 0) ≤ w64 0) → (
      wp_X3_findEntering_b128 a0 a1 Q K5 M x2 x3)) ∧
    (¬ (w64 (M (rt (rt a1 2) (ix x3)) 0) ≤ w64 0) → (
      inb (rt (rt a0 0) 2) x3 ∧ (
      wp_X4_become_ (rt a0 7) (rt (rt (rt a0 0) 2) (ix x3)) M (fun M40 =>
      inb (rt a1 2) x3 ∧ (
      wp_X4_divide (rt a0 7) (rt (rt a1 2) (ix x3)) M40 (fun M53 =>
      (((fb M53 (rt a0 7) 2) = false → (
        (((0 ≤ w32 x2) → (
          wp_X4_compare (rt a0 7) (rt a0 8) M53 (fun r85 =>
          wp_X3_findEntering_b88 a0 a1 Q K5 M53 r85 x2 x3))) ∧
        (¬ (0 ≤ w32 x2) → (
          wp_X3_findEntering_b88 a0 a1 Q K5 M53 (-1) x2 x3))))) ∧
      ((fb M53 (rt a0 7) 2) = true → (
        Q (-7) M53))))))))))))))
def wp_X3_findEntering_L5 (a0 : Nat) (a1 : Nat) (Q : Int → Mem → Prop) (M : Mem) (x2 : Int) (x3 : Int) : Prop :=
  ∃ (I : Mem → Int → Int → Prop) (μ : Mem → Int → Int → Nat), I M x2 x3 ∧ ∀ (M : Mem) (x2 : Int) (x3 : Int), I M x2 x3 →
    wp_X3_findEntering_B5 a0 a1 Q (fun M' x2' x3' => I M' x2' x3' ∧ μ M' x2' x3' < μ M x2 x3) M x2 x3
def wp_X3_findEntering (a0 : Nat) (a1 : Nat) (M : Mem) (Q : Int → Mem → Prop) : Prop :=
  wp_X3_findEntering_L5 a0 a1 Q M (-8) 0
set_option maxRecDepth 100000 in
set_option maxHeartbeats 4000000 in
theorem bk_X3_findEntering_128 {g : En} {p : Program} {l : Launch} {e : Env} {s : State} {m : MethodId} {args : Array Value} {below : List Frame} {meth : Method} {c : Code} {M : Mem} {a0 : Nat} {a1 : Nat} {Q : Int → Mem → Prop} {K5 : Mem → Int → Int → Prop} {x2 : Int} {x3 : Int} (F : Fx g p s m args meth c cX3_findEntering 5 RX3) (hr : meth.sig.returnType = (some .int)) (k0 : kd a0 = 3) (k1 : kd a1 = 7)
    (hK5 : ∀ (M' : Mem) (x2' : Int) (x3' : Int), K5 M' x2' x3' → Z g p l e rm_X3_findEntering s m args below meth c 5 (MQ below (va_Qi (S := Int × Mem) (fun r u => r = i3 u.1 ∧ Q u.1 u.2) (fun u => Rp g u.2) (aR g)) args s 0 0 (aR g)) M' 5 [(0, .ref (g.2.2.1 + a0)), (1, .ref (g.2.2.1 + a1)), (2, .int (i3 x2')), (3, .int (i3 x3'))] [])
    (hw : wp_X3_findEntering_b128 a0 a1 Q K5 M x2 x3) : Z g p l e rm_X3_findEntering s m args below meth c 5 (MQ below (va_Qi (S := Int × Mem) (fun r u => r = i3 u.1 ∧ Q u.1 u.2) (fun u => Rp g u.2) (aR g)) args s 0 0 (aR g)) M 128 [(0, .ref (g.2.2.1 + a0)), (1, .ref (g.2.2.1 + a1)), (2, .int (i3 x2)), (3, .int (i3 x3))] [] := by
  refine z_iinc F dX3_findEntering_128 rfl 3 rfl (by decide) rfl ?_
  refine z_goto F dX3_findEntering_131 rfl ?_
  refine z_sub [1, 2, 3, 0] rfl ?_
  exact hK5 M x2 (x3 + 1) hw
set_option maxRecDepth 100000 in
set_option maxHeartbeats 4000000 in
theorem bk_X3_findEntering_115 {g : En} {p : Program} {l : Launch} {e : Env} {s : State} {m : MethodId} {args : Array Value} {below : List Frame} {meth : Method} {c : Code} {M : Mem} {a0 : Nat} {a1 : Nat} {Q : Int → Mem → Prop} {K5 : Mem → Int → Int → Prop} {x3 : Int} (F : Fx g p s m args meth c cX3_findEntering 5 RX3) (hr : meth.sig.returnType = (some .int)) (k0 : kd a0 = 3) (k1 : kd a1 = 7)
    (hK5 : ∀ (M' : Mem) (x2' : Int) (x3' : Int), K5 M' x2' x3' → Z g p l e rm_X3_findEntering s m args below meth c 5 (MQ below (va_Qi (S := Int × Mem) (fun r u => r = i3 u.1 ∧ Q u.1 u.2) (fun u => Rp g u.2) (aR g)) args s 0 0 (aR g)) M' 5 [(0, .ref (g.2.2.1 + a0)), (1, .ref (g.2.2.1 + a1)), (2, .int (i3 x2')), (3, .int (i3 x3'))] [])
    (hw : wp_X3_findEntering_b115 a0 a1 Q K5 M x3) : Z g p l e rm_X3_findEntering s m args below meth c 5 (MQ below (va_Qi (S := Int × Mem) (fun r u => r = i3 u.1 ∧ Q u.1 u.2) (fun u => Rp g u.2) (aR g)) args s 0 0 (aR g)) M 115 [(0, .ref (g.2.2.1 + a0)), (1, .ref (g.2.2.1 + a1)), (3, .int (i3 x3))] [] := by
  refine z_iload_n F dX3_findEntering_115 rfl rfl 2 rfl ?_
  refine z_istore_n F dX3_findEntering_116 rfl rfl (by decide) rfl ?_
  refine z_aload_n F dX3_findEntering_117 rfl rfl 1 rfl ?_
  refine z_getR F fl_348 k0 dX3_findEntering_118 rfl ?_
  refine z_aload_n F dX3_findEntering_121 rfl rfl 1 rfl ?_
  refine z_getR F fl_347 k0 dX3_findEntering_122 rfl ?_
  refine z_cVv (As := [.ref (g.2.2.1 + (rt a0 7))]) (st := []) F (c_X4_become_ l g (tk_3_8 k0) (tk_3_7 k0) hw) cv_X4_become_ w_786 ⟨rfl, rfl, Nat.le_of_ble_eq_true rfl, Nat.le_of_ble_eq_true rfl⟩ (tk_3_8 k0) rfl rfl (Nat.le_of_ble_eq_true rfl) dX3_findEntering_125 rfl (fun M125 hw => ?_)
  refine z_sub [1, 2, 0, 3] rfl ?_
  exact bk_X3_findEntering_128 F hr k0 k1 hK5 hw
set_option maxRecDepth 100000 in
set_option maxHeartbeats 4000000 in
theorem bk_X3_findEntering_88 {g : En} {p : Program} {l : Launch} {e : Env} {s : State} {m : MethodId} {args : Array Value} {below : List Frame} {meth : Method} {c : Code} {M : Mem} {a0 : Nat} {a1 : Nat} {Q : Int → Mem → Prop} {K5 : Mem → Int → Int → Prop} {s0 : Int} {x2 : Int} {x3 : Int} (F : Fx g p s m args meth c cX3_findEntering 5 RX3) (hr : meth.sig.returnType = (some .int)) (k0 : kd a0 = 3) (k1 : kd a1 = 7)
    (hK5 : ∀ (M' : Mem) (x2' : Int) (x3' : Int), K5 M' x2' x3' → Z g p l e rm_X3_findEntering s m args below meth c 5 (MQ below (va_Qi (S := Int × Mem) (fun r u => r = i3 u.1 ∧ Q u.1 u.2) (fun u => Rp g u.2) (aR g)) args s 0 0 (aR g)) M' 5 [(0, .ref (g.2.2.1 + a0)), (1, .ref (g.2.2.1 + a1)), (2, .int (i3 x2')), (3, .int (i3 x3'))] [])
    (hw : wp_X3_findEntering_b88 a0 a1 Q K5 M s0 x2 x3) : Z g p l e rm_X3_findEntering s m args below meth c 5 (MQ below (va_Qi (S := Int × Mem) (fun r u => r = i3 u.1 ∧ Q u.1 u.2) (fun u => Rp g u.2) (aR g)) args s 0 0 (aR g)) M 88 [(0, .ref (g.2.2.1 + a0)), (1, .ref (g.2.2.1 + a1)), (2, .int (i3 x2)), (3, .int (i3 x3))] [.int (i3 s0)] := by
  refine z_istore F dX3_findEntering_88 rfl (by decide) rfl ?_
  refine z_iload F dX3_findEntering_90 rfl 0 rfl ?_
  refine z_if_lt F dX3_findEntering_92 rfl rfl hw (fun hw => ?_) (fun hw => ?_)
  · refine z_sub [1, 2, 4] rfl ?_
    exact bk_X3_findEntering_115 F hr k0 k1 hK5 hw
  · refine z_iload F dX3_findEntering_95 rfl 0 rfl ?_
    refine z_if_ne F dX3_findEntering_97 rfl rfl hw (fun hw => ?_) (fun hw => ?_)
    · refine z_sub [1, 2, 3, 4] rfl ?_
      exact bk_X3_findEntering_128 F hr k0 k1 hK5 hw
    · refine z_aload_n F dX3_findEntering_100 rfl rfl 1 rfl ?_
      refine z_getR F fl_343 k0 dX3_findEntering_101 rfl ?_
      refine z_iload_n F dX3_findEntering_104 rfl rfl 4 rfl ?_
      refine z_iald F (tk_3_3 k0) dX3_findEntering_105 rfl hw (fun hw => ?_)
      refine z_aload_n F dX3_findEntering_106 rfl rfl 1 rfl ?_
      refine z_getR F fl_343 k0 dX3_findEntering_107 rfl ?_
      refine z_iload_n F dX3_findEntering_110 rfl rfl 3 rfl ?_
      refine z_iald F (tk_3_3 k0) dX3_findEntering_111 rfl hw (fun hw => ?_)
      refine z_icmp_ge F dX3_findEntering_112 rfl rfl hw (fun hw => ?_) (fun hw => ?_)
      · refine z_sub [1, 2, 3, 4] rfl ?_
        exact bk_X3_findEntering_128 F hr k0 k1 hK5 hw
      · refine z_sub [1, 2, 4] rfl ?_
        exact bk_X3_findEntering_115 F hr k0 k1 hK5 hw
set_option maxRecDepth 100000 in
set_option maxHeartbeats 4000000 in
theorem bk_X3_findEntering_B5 {g : En} {p : Program} {l : Launch} {e : Env} {s : State} {m : MethodId} {args : Array Value} {below : List Frame} {meth : Method} {c : Code} {M : Mem} {a0 : Nat} {a1 : Nat} {Q : Int → Mem → Prop} {K5 : Mem → Int → Int → Prop} {x2 : Int} {x3 : Int} (F : Fx g p s m args meth c cX3_findEntering 5 RX3) (hr : meth.sig.returnType = (some .int)) (k0 : kd a0 = 3) (k1 : kd a1 = 7)
    (hK5 : ∀ (M' : Mem) (x2' : Int) (x3' : Int), K5 M' x2' x3' → Z g p l e rm_X3_findEntering s m args below meth c 5 (MQ below (va_Qi (S := Int × Mem) (fun r u => r = i3 u.1 ∧ Q u.1 u.2) (fun u => Rp g u.2) (aR g)) args s 0 0 (aR g)) M' 5 [(0, .ref (g.2.2.1 + a0)), (1, .ref (g.2.2.1 + a1)), (2, .int (i3 x2')), (3, .int (i3 x3'))] [])
    (hw : wp_X3_findEntering_B5 a0 a1 Q K5 M x2 x3) : Z g p l e rm_X3_findEntering s m args below meth c 5 (MQ below (va_Qi (S := Int × Mem) (fun r u => r = i3 u.1 ∧ Q u.1 u.2) (fun u => Rp g u.2) (aR g)) args s 0 0 (aR g)) M 5 [(0, .ref (g.2.2.1 + a0)), (1, .ref (g.2.2.1 + a1)), (2, .int (i3 x2)), (3, .int (i3 x3))] [] := by
  refine z_iload_n F dX3_findEntering_5 rfl rfl 3 rfl ?_
  refine z_aload_n F dX3_findEntering_6 rfl rfl 0 rfl ?_
  refine z_getI F fl_344 k0 dX3_findEntering_7 rfl ?_
  refine z_icmp_ge F dX3_findEntering_10 rfl rfl hw (fun hw => ?_) (fun hw => ?_)
  · refine z_iload_n F dX3_findEntering_134 rfl rfl 2 rfl ?_
    exact z_iret (x := x2) F hr dX3_findEntering_135 hw
  · refine z_aload_n F dX3_findEntering_13 rfl rfl 1 rfl ?_
    refine z_getR F fl_328 k1 dX3_findEntering_14 rfl ?_
    refine z_iload_n F dX3_findEntering_17 rfl rfl 3 rfl ?_
    have n18 := hw.1
    refine z_aald F 1 (tk_7_2 k1) rfl rfl dX3_findEntering_18 rfl hw (fun hw => ?_)
    refine z_getL F fl_267 (tka_16 (tk_7_2 k1) n18) dX3_findEntering_19 rfl ?_
    refine z_lconst (v := 0) F dX3_findEntering_22 rfl rfl ?_
    refine z_lcmp_le F dX3_findEntering_23 rfl dX3_findEntering_24 rfl rfl hw (fun hw => ?_) (fun hw => ?_)
    · refine z_sub [0, 1, 2, 3] rfl ?_
      exact bk_X3_findEntering_128 F hr k0 k1 hK5 hw
    · refine z_aload_n F dX3_findEntering_27 rfl rfl 0 rfl ?_
      refine z_getR F fl_347 k0 dX3_findEntering_28 rfl ?_
      refine z_aload_n F dX3_findEntering_31 rfl rfl 0 rfl ?_
      refine z_getR F fl_339 k0 dX3_findEntering_32 rfl ?_
      refine z_getR F fl_328 (tk_3_0 k0) dX3_findEntering_35 rfl ?_
      refine z_iload_n F dX3_findEntering_38 rfl rfl 3 rfl ?_
      have n39 := hw.1
      refine z_aald F 1 (tk_7_2 (tk_3_0 k0)) rfl rfl dX3_findEntering_39 rfl hw (fun hw => ?_)
      refine z_cVv (As := [.ref (g.2.2.1 + (rt (rt (rt a0 0) 2) (ix x3)))]) (st := []) F (c_X4_become_ l g (tk_3_7 k0) (tka_16 (tk_7_2 (tk_3_0 k0)) n39) hw) cv_X4_become_ w_786 ⟨rfl, rfl, Nat.le_of_ble_eq_true rfl, Nat.le_of_ble_eq_true rfl⟩ (tk_3_7 k0) rfl rfl (Nat.le_of_ble_eq_true rfl) dX3_findEntering_40 rfl (fun M40 hw => ?_)
      refine z_aload_n F dX3_findEntering_43 rfl rfl 0 rfl ?_
      refine z_getR F fl_347 k0 dX3_findEntering_44 rfl ?_
      refine z_aload_n F dX3_findEntering_47 rfl rfl 1 rfl ?_
      refine z_getR F fl_328 k1 dX3_findEntering_48 rfl ?_
      refine z_iload_n F dX3_findEntering_51 rfl rfl 3 rfl ?_
      have n52 := hw.1
      refine z_aald F 1 (tk_7_2 k1) rfl rfl dX3_findEntering_52 rfl hw (fun hw => ?_)
      refine z_cVv (As := [.ref (g.2.2.1 + (rt (rt a1 2) (ix x3)))]) (st := []) F (c_X4_divide l g (tk_3_7 k0) (tka_16 (tk_7_2 k1) n52) hw) cv_X4_divide w_787 ⟨rfl, rfl, Nat.le_of_ble_eq_true rfl, Nat.le_of_ble_eq_true rfl⟩ (tk_3_7 k0) rfl rfl (Nat.le_of_ble_eq_true rfl) dX3_findEntering_53 rfl (fun M53 hw => ?_)
      refine z_aload_n F dX3_findEntering_56 rfl rfl 0 rfl ?_
      refine z_getR F fl_347 k0 dX3_findEntering_57 rfl ?_
      refine z_getB F fl_272 (tk_3_7 k0) dX3_findEntering_60 rfl ?_
      refine z_ifb_eq F dX3_findEntering_63 rfl rfl hw (fun hw => ?_) (fun hw => ?_)
      · refine z_iload_n F dX3_findEntering_69 rfl rfl 2 rfl ?_
        refine z_if_ge F dX3_findEntering_70 rfl rfl hw (fun hw => ?_) (fun hw => ?_)
        · refine z_aload_n F dX3_findEntering_77 rfl rfl 0 rfl ?_
          refine z_getR F fl_347 k0 dX3_findEntering_78 rfl ?_
          refine z_aload_n F dX3_findEntering_81 rfl rfl 0 rfl ?_
          refine z_getR F fl_348 k0 dX3_findEntering_82 rfl ?_
          refine z_cVip (As := [.ref (g.2.2.1 + (rt a0 8))]) (st := []) F (c_X4_compare l g (tk_3_7 k0) (tk_3_8 k0) hw) cv_X4_compare w_788 ⟨rfl, rfl, Nat.le_of_ble_eq_true rfl, Nat.le_of_ble_eq_true rfl⟩ (tk_3_7 k0) rfl rfl (Nat.le_of_ble_eq_true rfl) dX3_findEntering_85 rfl (fun r85 hw => ?_)
          refine z_sub [0, 1, 2, 3] rfl ?_
          exact bk_X3_findEntering_88 F hr k0 k1 hK5 hw
        · refine z_iconst F dX3_findEntering_73 rfl ?_
          refine z_goto F dX3_findEntering_74 rfl ?_
          refine z_sub [0, 1, 2, 3] rfl ?_
          exact bk_X3_findEntering_88 F hr k0 k1 hK5 hw
      · refine z_bipush F dX3_findEntering_66 (by decide) rfl ?_
        exact z_iret (x := (-7)) F hr dX3_findEntering_68 hw
set_option maxRecDepth 100000 in
set_option maxHeartbeats 4000000 in
theorem lp_X3_findEntering_5 {g : En} {p : Program} {l : Launch} {e : Env} {s : State} {m : MethodId} {args : Array Value} {below : List Frame} {meth : Method} {c : Code} {M : Mem} {a0 : Nat} {a1 : Nat} {Q : Int → Mem → Prop} {x2 : Int} {x3 : Int} (F : Fx g p s m args meth c cX3_findEntering 5 RX3) (hr : meth.sig.returnType = (some .int)) (k0 : kd a0 = 3) (k1 : kd a1 = 7)
    (hw : wp_X3_findEntering_L5 a0 a1 Q M x2 x3) : Z g p l e rm_X3_findEntering s m args below meth c 5 (MQ below (va_Qi (S := Int × Mem) (fun r u => r = i3 u.1 ∧ Q u.1 u.2) (fun u => Rp g u.2) (aR g)) args s 0 0 (aR g)) M 5 [(0, .ref (g.2.2.1 + a0)), (1, .ref (g.2.2.1 + a1)), (2, .int (i3 x2)), (3, .int (i3 x3))] [] := by
  obtain ⟨I, μ, h0, hb⟩ := hw
  have key : ∀ (n : Nat) (M : Mem) (x2 : Int) (x3 : Int), I M x2 x3 → μ M x2 x3 < n → Z g p l e rm_X3_findEntering s m args below meth c 5 (MQ below (va_Qi (S := Int × Mem) (fun r u => r = i3 u.1 ∧ Q u.1 u.2) (fun u => Rp g u.2) (aR g)) args s 0 0 (aR g)) M 5 [(0, .ref (g.2.2.1 + a0)), (1, .ref (g.2.2.1 + a1)), (2, .int (i3 x2)), (3, .int (i3 x3))] [] := by
    intro n
    induction n with
    | zero => exact fun _ _ _ _ h => absurd h (Nat.not_lt_zero _)
    | succ n ih =>
      intro M x2 x3 hI hn
      exact bk_X3_findEntering_B5 F hr k0 k1 (fun M' x2' x3' hk => ih M' x2' x3' hk.1 (Nat.lt_of_lt_of_le hk.2 (Nat.le_of_lt_succ hn))) (hb M x2 x3 hI)
  exact key _ M x2 x3 h0 (Nat.lt_succ_self _)
set_option maxRecDepth 100000 in
set_option maxHeartbeats 4000000 in
theorem c_X3_findEntering (l : Launch) (g : En) {a0 : Nat} {a1 : Nat} {M : Mem} {Q : Int → Mem → Prop} (k0 : kd a0 = 3) (k1 : kd a1 = 7) (hw : wp_X3_findEntering a0 a1 M Q) :
    Met l yX3_findEntering (WS yX3_findEntering cX3_findEntering 5 (some .int)) rm_X3_findEntering (va_Pc [.ref (g.2.2.1 + a0), .ref (g.2.2.1 + a1)] (Rp g M)) (va_Qi (S := Int × Mem) (fun r u => r = i3 u.1 ∧ Q u.1 u.2) (fun u => Rp g u.2) (aR g)) 0 0 (aR g) := by
  refine met_Z (plainFor_of_name rfl) (Nat.le_of_ble_eq_true rfl) ?_
  intro p e s m args below meth c F hr _
  show Z g p l e rm_X3_findEntering s m args below meth c 5 (MQ below (va_Qi (S := Int × Mem) (fun r u => r = i3 u.1 ∧ Q u.1 u.2) (fun u => Rp g u.2) (aR g)) args s 0 0 (aR g)) M 0 [(0, .ref (g.2.2.1 + a0)), (1, .ref (g.2.2.1 + a1))] []
  refine z_bipush F dX3_findEntering_0 (by decide) rfl ?_
  refine z_istore_n F dX3_findEntering_2 rfl rfl (by decide) rfl ?_
  refine z_iconst F dX3_findEntering_3 rfl ?_
  refine z_istore_n F dX3_findEntering_4 rfl rfl (by decide) rfl ?_
  refine z_sub [2, 3, 1, 0] rfl ?_
  exact lp_X3_findEntering_5 F hr k0 k1 hw
theorem cv_X3_findEntering : CV yX3_findEntering RX3 cX3_findEntering 5 (some .int) 1 := ⟨w_784, w_13, w_75, w_785, rfl, by decide +kernel, by decide +kernel, by decide +kernel⟩
abbrev rm_X3_solveFor : Room := { frames := 2, cells := 0, slots := 0, locals := 55 }
def wp_X3_solveFor_b95 (a0 : Nat) (a1 : Nat) (Q : Mem → Prop) (K33 : Mem → Int → Prop) (M : Mem) (x2 : Int) (x3 : Int) : Prop :=
  K33 M (x3 + 1)
def wp_X3_solveFor_B33 (a0 : Nat) (a1 : Nat) (Q : Mem → Prop) (K33 : Mem → Int → Prop) (M : Mem) (x2 : Int) (x3 : Int) : Prop :=
  (((w32 (M a0 4) ≤ w32 x3) → (
    Q M)) ∧
  (¬ (w32 (M a0 4) ≤ w32 x3) → (
    (((¬ w32 x3 = w32 x2) → (
      inb (rt a1 2) x3 ∧ (
      wp_X4_divide (rt (rt a1 2) (ix x3)) (rt a0 5) M (fun M83 =>
      inb (rt a1 2) x3 ∧ (
      wp_X4_negate (rt (rt a1 2) (ix x3)) M83 (fun M92 =>
      wp_X3_solveFor_b95 a0 a1 Q K33 M92 x2 x3)))))) ∧
    (¬ (¬ w32 x3 = w32 x2) → (
      inb (rt a1 2) x3 ∧ (
      wp_X4_become (rt (rt a1 2) (ix x3)) 1 1 M (fun M54 =>
      inb (rt a1 2) x3 ∧ (
      wp_X4_divide (rt (rt a1 2) (ix x3)) (rt a0 5) M54 (fun M67 =>
      wp_X3_solveFor_b95 a0 a1 Q K33 M67 x2 x3))))))))))
def wp_X3_solveFor_L33 (a0 : Nat) (a1 : Nat) (Q : Mem → Prop) (M : Mem) (x2 : Int) (x3 : Int) : Prop :=
  ∃ (I : Mem → Int → Prop) (μ : Mem → Int → Nat), I M x3 ∧ ∀ (M : Mem) (x3 : Int), I M x3 →
    wp_X3_solveFor_B33 a0 a1 Q (fun M' x3' => I M' x3' ∧ μ M' x3' < μ M x3) M x2 x3
def wp_X3_solveFor (a0 : Nat) (a1 : Nat) (a2 : Int) (M : Mem) (Q : Mem → Prop) : Prop :=
  inb (rt a1 2) a2 ∧ (
  wp_X4_become_ (rt a0 5) (rt (rt a1 2) (ix a2)) M (fun M10 =>
  wp_X4_divide (rt a1 1) (rt a0 5) M10 (fun M21 =>
  wp_X4_negate (rt a1 1) M21 (fun M28 =>
  wp_X3_solveFor_L33 a0 a1 Q M28 a2 0))))
set_option maxRecDepth 100000 in
set_option maxHeartbeats 4000000 in
theorem bk_X3_solveFor_95 {g : En} {p : Program} {l : Launch} {e : Env} {s : State} {m : MethodId} {args : Array Value} {below : List Frame} {meth : Method} {c : Code} {M : Mem} {a0 : Nat} {a1 : Nat} {Q : Mem → Prop} {K33 : Mem → Int → Prop} {x2 : Int} {x3 : Int} (F : Fx g p s m args meth c cX3_solveFor 4 RX3) (hr : meth.sig.returnType = none) (k0 : kd a0 = 3) (k1 : kd a1 = 7)
    (hK33 : ∀ (M' : Mem) (x3' : Int), K33 M' x3' → Z g p l e rm_X3_solveFor s m args below meth c 4 (MQ below (va_Qv (S := Mem) Q (fun u => Rp g u) (aR g)) args s 0 0 (aR g)) M' 33 [(0, .ref (g.2.2.1 + a0)), (1, .ref (g.2.2.1 + a1)), (2, .int (i3 x2)), (3, .int (i3 x3'))] [])
    (hw : wp_X3_solveFor_b95 a0 a1 Q K33 M x2 x3) : Z g p l e rm_X3_solveFor s m args below meth c 4 (MQ below (va_Qv (S := Mem) Q (fun u => Rp g u) (aR g)) args s 0 0 (aR g)) M 95 [(0, .ref (g.2.2.1 + a0)), (1, .ref (g.2.2.1 + a1)), (2, .int (i3 x2)), (3, .int (i3 x3))] [] := by
  refine z_iinc F dX3_solveFor_95 rfl 3 rfl (by decide) rfl ?_
  refine z_goto F dX3_solveFor_98 rfl ?_
  refine z_sub [1, 2, 3, 0] rfl ?_
  exact hK33 M (x3 + 1) hw
set_option maxRecDepth 100000 in
set_option maxHeartbeats 4000000 in
theorem bk_X3_solveFor_B33 {g : En} {p : Program} {l : Launch} {e : Env} {s : State} {m : MethodId} {args : Array Value} {below : List Frame} {meth : Method} {c : Code} {M : Mem} {a0 : Nat} {a1 : Nat} {Q : Mem → Prop} {K33 : Mem → Int → Prop} {x2 : Int} {x3 : Int} (F : Fx g p s m args meth c cX3_solveFor 4 RX3) (hr : meth.sig.returnType = none) (k0 : kd a0 = 3) (k1 : kd a1 = 7)
    (hK33 : ∀ (M' : Mem) (x3' : Int), K33 M' x3' → Z g p l e rm_X3_solveFor s m args below meth c 4 (MQ below (va_Qv (S := Mem) Q (fun u => Rp g u) (aR g)) args s 0 0 (aR g)) M' 33 [(0, .ref (g.2.2.1 + a0)), (1, .ref (g.2.2.1 + a1)), (2, .int (i3 x2)), (3, .int (i3 x3'))] [])
    (hw : wp_X3_solveFor_B33 a0 a1 Q K33 M x2 x3) : Z g p l e rm_X3_solveFor s m args below meth c 4 (MQ below (va_Qv (S := Mem) Q (fun u => Rp g u) (aR g)) args s 0 0 (aR g)) M 33 [(0, .ref (g.2.2.1 + a0)), (1, .ref (g.2.2.1 + a1)), (2, .int (i3 x2)), (3, .int (i3 x3))] [] := by
  refine z_iload_n F dX3_solveFor_33 rfl rfl 3 rfl ?_
  refine z_aload_n F dX3_solveFor_34 rfl rfl 0 rfl ?_
  refine z_getI F fl_344 k0 dX3_solveFor_35 rfl ?_
  refine z_icmp_ge F dX3_solveFor_38 rfl rfl hw (fun hw => ?_) (fun hw => ?_)
  · exact z_vret F hr dX3_solveFor_101 hw
  · refine z_iload_n F dX3_solveFor_41 rfl rfl 3 rfl ?_
    refine z_iload_n F dX3_solveFor_42 rfl rfl 2 rfl ?_
    refine z_icmp_ne F dX3_solveFor_43 rfl rfl hw (fun hw => ?_) (fun hw => ?_)
    · refine z_aload_n F dX3_solveFor_73 rfl rfl 1 rfl ?_
      refine z_getR F fl_328 k1 dX3_solveFor_74 rfl ?_
      refine z_iload_n F dX3_solveFor_77 rfl rfl 3 rfl ?_
      have n78 := hw.1
      refine z_aald F 1 (tk_7_2 k1) rfl rfl dX3_solveFor_78 rfl hw (fun hw => ?_)
      refine z_aload_n F dX3_solveFor_79 rfl rfl 0 rfl ?_
      refine z_getR F fl_345 k0 dX3_solveFor_80 rfl ?_
      refine z_cVv (As := [.ref (g.2.2.1 + (rt a0 5))]) (st := []) F (c_X4_divide l g (tka_16 (tk_7_2 k1) n78) (tk_3_5 k0) hw) cv_X4_divide w_787 ⟨rfl, rfl, Nat.le_of_ble_eq_true rfl, Nat.le_of_ble_eq_true rfl⟩ (tka_16 (tk_7_2 k1) n78) rfl rfl (Nat.le_of_ble_eq_true rfl) dX3_solveFor_83 rfl (fun M83 hw => ?_)
      refine z_aload_n F dX3_solveFor_86 rfl rfl 1 rfl ?_
      refine z_getR F fl_328 k1 dX3_solveFor_87 rfl ?_
      refine z_iload_n F dX3_solveFor_90 rfl rfl 3 rfl ?_
      have n91 := hw.1
      refine z_aald F 1 (tk_7_2 k1) rfl rfl dX3_solveFor_91 rfl hw (fun hw => ?_)
      refine z_cVv (As := []) (st := []) F (c_X4_negate l g (tka_16 (tk_7_2 k1) n91) hw) cv_X4_negate w_803 ⟨rfl, rfl, Nat.le_of_ble_eq_true rfl, Nat.le_of_ble_eq_true rfl⟩ (tka_16 (tk_7_2 k1) n91) rfl rfl (Nat.le_of_ble_eq_true rfl) dX3_solveFor_92 rfl (fun M92 hw => ?_)
      refine z_sub [0, 1, 2, 3] rfl ?_
      exact bk_X3_solveFor_95 F hr k0 k1 hK33 hw
    · refine z_aload_n F dX3_solveFor_46 rfl rfl 1 rfl ?_
      refine z_getR F fl_328 k1 dX3_solveFor_47 rfl ?_
      refine z_iload_n F dX3_solveFor_50 rfl rfl 3 rfl ?_
      have n51 := hw.1
      refine z_aald F 1 (tk_7_2 k1) rfl rfl dX3_solveFor_51 rfl hw (fun hw => ?_)
      refine z_lconst (v := 1) F dX3_solveFor_52 rfl rfl ?_
      refine z_lconst (v := 1) F dX3_solveFor_53 rfl rfl ?_
      refine z_cVv (As := [.long (i6 1), .long (i6 1)]) (st := []) F (c_X4_become l g (tka_16 (tk_7_2 k1) n51) hw) cv_X4_become w_747 ⟨rfl, rfl, Nat.le_of_ble_eq_true rfl, Nat.le_of_ble_eq_true rfl⟩ (tka_16 (tk_7_2 k1) n51) rfl rfl (Nat.le_of_ble_eq_true rfl) dX3_solveFor_54 rfl (fun M54 hw => ?_)
      refine z_aload_n F dX3_solveFor_57 rfl rfl 1 rfl ?_
      refine z_getR F fl_328 k1 dX3_solveFor_58 rfl ?_
      refine z_iload_n F dX3_solveFor_61 rfl rfl 3 rfl ?_
      have n62 := hw.1
      refine z_aald F 1 (tk_7_2 k1) rfl rfl dX3_solveFor_62 rfl hw (fun hw => ?_)
      refine z_aload_n F dX3_solveFor_63 rfl rfl 0 rfl ?_
      refine z_getR F fl_345 k0 dX3_solveFor_64 rfl ?_
      refine z_cVv (As := [.ref (g.2.2.1 + (rt a0 5))]) (st := []) F (c_X4_divide l g (tka_16 (tk_7_2 k1) n62) (tk_3_5 k0) hw) cv_X4_divide w_787 ⟨rfl, rfl, Nat.le_of_ble_eq_true rfl, Nat.le_of_ble_eq_true rfl⟩ (tka_16 (tk_7_2 k1) n62) rfl rfl (Nat.le_of_ble_eq_true rfl) dX3_solveFor_67 rfl (fun M67 hw => ?_)
      refine z_goto F dX3_solveFor_70 rfl ?_
      refine z_sub [0, 1, 2, 3] rfl ?_
      exact bk_X3_solveFor_95 F hr k0 k1 hK33 hw
set_option maxRecDepth 100000 in
set_option maxHeartbeats 4000000 in
theorem lp_X3_solveFor_33 {g : En} {p : Program} {l : Launch} {e : Env} {s : State} {m : MethodId} {args : Array Value} {below : List Frame} {meth : Method} {c : Code} {M : Mem} {a0 : Nat} {a1 : Nat} {Q : Mem → Prop} {x2 : Int} {x3 : Int} (F : Fx g p s m args meth c cX3_solveFor 4 RX3) (hr : meth.sig.returnType = none) (k0 : kd a0 = 3) (k1 : kd a1 = 7)
    (hw : wp_X3_solveFor_L33 a0 a1 Q M x2 x3) : Z g p l e rm_X3_solveFor s m args below meth c 4 (MQ below (va_Qv (S := Mem) Q (fun u => Rp g u) (aR g)) args s 0 0 (aR g)) M 33 [(0, .ref (g.2.2.1 + a0)), (1, .ref (g.2.2.1 + a1)), (2, .int (i3 x2)), (3, .int (i3 x3))] [] := by
  obtain ⟨I, μ, h0, hb⟩ := hw
  have key : ∀ (n : Nat) (M : Mem) (x3 : Int), I M x3 → μ M x3 < n → Z g p l e rm_X3_solveFor s m args below meth c 4 (MQ below (va_Qv (S := Mem) Q (fun u => Rp g u) (aR g)) args s 0 0 (aR g)) M 33 [(0, .ref (g.2.2.1 + a0)), (1, .ref (g.2.2.1 + a1)), (2, .int (i3 x2)), (3, .int (i3 x3))] [] := by
    intro n
    induction n with
    | zero => exact fun _ _ _ h => absurd h (Nat.not_lt_zero _)
    | succ n ih =>
      intro M x3 hI hn
      exact bk_X3_solveFor_B33 F hr k0 k1 (fun M' x3' hk => ih M' x3' hk.1 (Nat.lt_of_lt_of_le hk.2 (Nat.le_of_lt_succ hn))) (hb M x3 hI)
  exact key _ M x3 h0 (Nat.lt_succ_self _)
set_option maxRecDepth 100000 in
set_option maxHeartbeats 4000000 in
theorem c_X3_solveFor (l : Launch) (g : En) {a0 : Nat} {a1 : Nat} {a2 : Int} {M : Mem} {Q : Mem → Prop} (k0 : kd a0 = 3) (k1 : kd a1 = 7) (hw : wp_X3_solveFor a0 a1 a2 M Q) :
    Met l yX3_solveFor (WS yX3_solveFor cX3_solveFor 4 none) rm_X3_solveFor (va_Pc [.ref (g.2.2.1 + a0), .ref (g.2.2.1 + a1), .int (i3 a2)] (Rp g M)) (va_Qv (S := Mem) Q (fun u => Rp g u) (aR g)) 0 0 (aR g) := by
  refine met_Z (plainFor_of_name rfl) (Nat.le_of_ble_eq_true rfl) ?_
  intro p e s m args below meth c F hr _
  show Z g p l e rm_X3_solveFor s m args below meth c 4 (MQ below (va_Qv (S := Mem) Q (fun u => Rp g u) (aR g)) args s 0 0 (aR g)) M 0 [(0, .ref (g.2.2.1 + a0)), (1, .ref (g.2.2.1 + a1)), (2, .int (i3 a2))] []
  refine z_aload_n F dX3_solveFor_0 rfl rfl 0 rfl ?_
  refine z_getR F fl_345 k0 dX3_solveFor_1 rfl ?_
  refine z_aload_n F dX3_solveFor_4 rfl rfl 1 rfl ?_
  refine z_getR F fl_328 k1 dX3_solveFor_5 rfl ?_
  refine z_iload_n F dX3_solveFor_8 rfl rfl 2 rfl ?_
  have n9 := hw.1
  refine z_aald F 1 (tk_7_2 k1) rfl rfl dX3_solveFor_9 rfl hw (fun hw => ?_)
  refine z_cVv (As := [.ref (g.2.2.1 + (rt (rt a1 2) (ix a2)))]) (st := []) F (c_X4_become_ l g (tk_3_5 k0) (tka_16 (tk_7_2 k1) n9) hw) cv_X4_become_ w_786 ⟨rfl, rfl, Nat.le_of_ble_eq_true rfl, Nat.le_of_ble_eq_true rfl⟩ (tk_3_5 k0) rfl rfl (Nat.le_of_ble_eq_true rfl) dX3_solveFor_10 rfl (fun M10 hw => ?_)
  refine z_aload_n F dX3_solveFor_13 rfl rfl 1 rfl ?_
  refine z_getR F fl_325 k1 dX3_solveFor_14 rfl ?_
  refine z_aload_n F dX3_solveFor_17 rfl rfl 0 rfl ?_
  refine z_getR F fl_345 k0 dX3_solveFor_18 rfl ?_
  refine z_cVv (As := [.ref (g.2.2.1 + (rt a0 5))]) (st := []) F (c_X4_divide l g (tk_7_1 k1) (tk_3_5 k0) hw) cv_X4_divide w_787 ⟨rfl, rfl, Nat.le_of_ble_eq_true rfl, Nat.le_of_ble_eq_true rfl⟩ (tk_7_1 k1) rfl rfl (Nat.le_of_ble_eq_true rfl) dX3_solveFor_21 rfl (fun M21 hw => ?_)
  refine z_aload_n F dX3_solveFor_24 rfl rfl 1 rfl ?_
  refine z_getR F fl_325 k1 dX3_solveFor_25 rfl ?_
  refine z_cVv (As := []) (st := []) F (c_X4_negate l g (tk_7_1 k1) hw) cv_X4_negate w_803 ⟨rfl, rfl, Nat.le_of_ble_eq_true rfl, Nat.le_of_ble_eq_true rfl⟩ (tk_7_1 k1) rfl rfl (Nat.le_of_ble_eq_true rfl) dX3_solveFor_28 rfl (fun M28 hw => ?_)
  refine z_iconst F dX3_solveFor_31 rfl ?_
  refine z_istore_n F dX3_solveFor_32 rfl rfl (by decide) rfl ?_
  refine z_sub [1, 2, 3, 0] rfl ?_
  exact lp_X3_solveFor_33 F hr k0 k1 hw
theorem cv_X3_solveFor : CV yX3_solveFor RX3 cX3_solveFor 4 none 2 := ⟨w_801, w_15, w_75, w_802, rfl, by decide +kernel, by decide +kernel, by decide +kernel⟩
abbrev rm_X3_replaceIn : Room := { frames := 2, cells := 0, slots := 0, locals := 58 }
def wp_X3_replaceIn_b123 (a0 : Nat) (a1 : Nat) (a2 : Nat) (Q : Mem → Prop) (K49 : Mem → Int → Prop) (M : Mem) (x3 : Int) (x4 : Int) : Prop :=
  K49 M (x4 + 1)
def wp_X3_replaceIn_B49 (a0 : Nat) (a1 : Nat) (a2 : Nat) (Q : Mem → Prop) (K49 : Mem → Int → Prop) (M : Mem) (x3 : Int) (x4 : Int) : Prop :=
  (((w32 (M a0 4) ≤ w32 x4) → (
    Q M)) ∧
  (¬ (w32 (M a0 4) ≤ w32 x4) → (
    (((¬ w32 x4 = w32 x3) → (
      inb (rt a2 2) x4 ∧ (
      wp_X4_become_ (rt a0 6) (rt (rt a2 2) (ix x4)) M (fun M95 =>
      wp_X4_multiply (rt a0 6) (rt a0 5) M95 (fun M106 =>
      inb (rt a1 2) x4 ∧ (
      wp_X4_add (rt (rt a1 2) (ix x4)) (rt a0 6) M106 (fun M120 =>
      wp_X3_replaceIn_b123 a0 a1 a2 Q K49 M120 x3 x4))))))) ∧
    (¬ (¬ w32 x4 = w32 x3) → (
      inb (rt a1 2) x4 ∧ (
      inb (rt a2 2) x4 ∧ (
      wp_X4_multiply (rt (rt a1 2) (ix x4)) (rt (rt a2 2) (ix x4)) M (fun M78 =>
      wp_X3_replaceIn_b123 a0 a1 a2 Q K49 M78 x3 x4)))))))))
def wp_X3_replaceIn_L49 (a0 : Nat) (a1 : Nat) (a2 : Nat) (Q : Mem → Prop) (M : Mem) (x3 : Int) (x4 : Int) : Prop :=
  ∃ (I : Mem → Int → Prop) (μ : Mem → Int → Nat), I M x4 ∧ ∀ (M : Mem) (x4 : Int), I M x4 →
    wp_X3_replaceIn_B49 a0 a1 a2 Q (fun M' x4' => I M' x4' ∧ μ M' x4' < μ M x4) M x3 x4
def wp_X3_replaceIn (a0 : Nat) (a1 : Nat) (a2 : Nat) (a3 : Int) (M : Mem) (Q : Mem → Prop) : Prop :=
  inb (rt a1 2) a3 ∧ (
  wp_X4_become_ (rt a0 5) (rt (rt a1 2) (ix a3)) M (fun M10 =>
  wp_X4_become_ (rt a0 6) (rt a2 1) M10 (fun M21 =>
  wp_X4_multiply (rt a0 6) (rt a0 5) M21 (fun M32 =>
  wp_X4_add (rt a1 1) (rt a0 6) M32 (fun M43 =>
  wp_X3_replaceIn_L49 a0 a1 a2 Q M43 a3 0)))))
set_option maxRecDepth 100000 in
set_option maxHeartbeats 4000000 in
theorem bk_X3_replaceIn_123 {g : En} {p : Program} {l : Launch} {e : Env} {s : State} {m : MethodId} {args : Array Value} {below : List Frame} {meth : Method} {c : Code} {M : Mem} {a0 : Nat} {a1 : Nat} {a2 : Nat} {Q : Mem → Prop} {K49 : Mem → Int → Prop} {x3 : Int} {x4 : Int} (F : Fx g p s m args meth c cX3_replaceIn 5 RX3) (hr : meth.sig.returnType = none) (k0 : kd a0 = 3) (k1 : kd a1 = 7) (k2 : kd a2 = 7)
    (hK49 : ∀ (M' : Mem) (x4' : Int), K49 M' x4' → Z g p l e rm_X3_replaceIn s m args below meth c 5 (MQ below (va_Qv (S := Mem) Q (fun u => Rp g u) (aR g)) args s 0 0 (aR g)) M' 49 [(0, .ref (g.2.2.1 + a0)), (1, .ref (g.2.2.1 + a1)), (2, .ref (g.2.2.1 + a2)), (3, .int (i3 x3)), (4, .int (i3 x4'))] [])
    (hw : wp_X3_replaceIn_b123 a0 a1 a2 Q K49 M x3 x4) : Z g p l e rm_X3_replaceIn s m args below meth c 5 (MQ below (va_Qv (S := Mem) Q (fun u => Rp g u) (aR g)) args s 0 0 (aR g)) M 123 [(0, .ref (g.2.2.1 + a0)), (1, .ref (g.2.2.1 + a1)), (2, .ref (g.2.2.1 + a2)), (3, .int (i3 x3)), (4, .int (i3 x4))] [] := by
  refine z_iinc F dX3_replaceIn_123 rfl 4 rfl (by decide) rfl ?_
  refine z_goto F dX3_replaceIn_126 rfl ?_
  refine z_sub [1, 2, 3, 4, 0] rfl ?_
  exact hK49 M (x4 + 1) hw
set_option maxRecDepth 100000 in
set_option maxHeartbeats 4000000 in
theorem bk_X3_replaceIn_B49 {g : En} {p : Program} {l : Launch} {e : Env} {s : State} {m : MethodId} {args : Array Value} {below : List Frame} {meth : Method} {c : Code} {M : Mem} {a0 : Nat} {a1 : Nat} {a2 : Nat} {Q : Mem → Prop} {K49 : Mem → Int → Prop} {x3 : Int} {x4 : Int} (F : Fx g p s m args meth c cX3_replaceIn 5 RX3) (hr : meth.sig.returnType = none) (k0 : kd a0 = 3) (k1 : kd a1 = 7) (k2 : kd a2 = 7)
    (hK49 : ∀ (M' : Mem) (x4' : Int), K49 M' x4' → Z g p l e rm_X3_replaceIn s m args below meth c 5 (MQ below (va_Qv (S := Mem) Q (fun u => Rp g u) (aR g)) args s 0 0 (aR g)) M' 49 [(0, .ref (g.2.2.1 + a0)), (1, .ref (g.2.2.1 + a1)), (2, .ref (g.2.2.1 + a2)), (3, .int (i3 x3)), (4, .int (i3 x4'))] [])
    (hw : wp_X3_replaceIn_B49 a0 a1 a2 Q K49 M x3 x4) : Z g p l e rm_X3_replaceIn s m args below meth c 5 (MQ below (va_Qv (S := Mem) Q (fun u => Rp g u) (aR g)) args s 0 0 (aR g)) M 49 [(0, .ref (g.2.2.1 + a0)), (1, .ref (g.2.2.1 + a1)), (2, .ref (g.2.2.1 + a2)), (3, .int (i3 x3)), (4, .int (i3 x4))] [] := by
  refine z_iload F dX3_replaceIn_49 rfl 4 rfl ?_
  refine z_aload_n F dX3_replaceIn_51 rfl rfl 0 rfl ?_
  refine z_getI F fl_344 k0 dX3_replaceIn_52 rfl ?_
  refine z_icmp_ge F dX3_replaceIn_55 rfl rfl hw (fun hw => ?_) (fun hw => ?_)
  · exact z_vret F hr dX3_replaceIn_129 hw
  · refine z_iload F dX3_replaceIn_58 rfl 4 rfl ?_
    refine z_iload_n F dX3_replaceIn_60 rfl rfl 3 rfl ?_
    refine z_icmp_ne F dX3_replaceIn_61 rfl rfl hw (fun hw => ?_) (fun hw => ?_)
    · refine z_aload_n F dX3_replaceIn_84 rfl rfl 0 rfl ?_
      refine z_getR F fl_346 k0 dX3_replaceIn_85 rfl ?_
      refine z_aload_n F dX3_replaceIn_88 rfl rfl 2 rfl ?_
      refine z_getR F fl_328 k2 dX3_replaceIn_89 rfl ?_
      refine z_iload F dX3_replaceIn_92 rfl 4 rfl ?_
      have n94 := hw.1
      refine z_aald F 1 (tk_7_2 k2) rfl rfl dX3_replaceIn_94 rfl hw (fun hw => ?_)
      refine z_cVv (As := [.ref (g.2.2.1 + (rt (rt a2 2) (ix x4)))]) (st := []) F (c_X4_become_ l g (tk_3_6 k0) (tka_16 (tk_7_2 k2) n94) hw) cv_X4_become_ w_786 ⟨rfl, rfl, Nat.le_of_ble_eq_true rfl, Nat.le_of_ble_eq_true rfl⟩ (tk_3_6 k0) rfl rfl (Nat.le_of_ble_eq_true rfl) dX3_replaceIn_95 rfl (fun M95 hw => ?_)
      refine z_aload_n F dX3_replaceIn_98 rfl rfl 0 rfl ?_
      refine z_getR F fl_346 k0 dX3_replaceIn_99 rfl ?_
      refine z_aload_n F dX3_replaceIn_102 rfl rfl 0 rfl ?_
      refine z_getR F fl_345 k0 dX3_replaceIn_103 rfl ?_
      refine z_cVv (As := [.ref (g.2.2.1 + (rt a0 5))]) (st := []) F (c_X4_multiply l g (tk_3_6 k0) (tk_3_5 k0) hw) cv_X4_multiply w_808 ⟨rfl, rfl, Nat.le_of_ble_eq_true rfl, Nat.le_of_ble_eq_true rfl⟩ (tk_3_6 k0) rfl rfl (Nat.le_of_ble_eq_true rfl) dX3_replaceIn_106 rfl (fun M106 hw => ?_)
      refine z_aload_n F dX3_replaceIn_109 rfl rfl 1 rfl ?_
      refine z_getR F fl_328 k1 dX3_replaceIn_110 rfl ?_
      refine z_iload F dX3_replaceIn_113 rfl 4 rfl ?_
      have n115 := hw.1
      refine z_aald F 1 (tk_7_2 k1) rfl rfl dX3_replaceIn_115 rfl hw (fun hw => ?_)
      refine z_aload_n F dX3_replaceIn_116 rfl rfl 0 rfl ?_
      refine z_getR F fl_346 k0 dX3_replaceIn_117 rfl ?_
      refine z_cVv (As := [.ref (g.2.2.1 + (rt a0 6))]) (st := []) F (c_X4_add l g (tka_16 (tk_7_2 k1) n115) (tk_3_6 k0) hw) cv_X4_add w_763 ⟨rfl, rfl, Nat.le_of_ble_eq_true rfl, Nat.le_of_ble_eq_true rfl⟩ (tka_16 (tk_7_2 k1) n115) rfl rfl (Nat.le_of_ble_eq_true rfl) dX3_replaceIn_120 rfl (fun M120 hw => ?_)
      refine z_sub [0, 1, 2, 3, 4] rfl ?_
      exact bk_X3_replaceIn_123 F hr k0 k1 k2 hK49 hw
    · refine z_aload_n F dX3_replaceIn_64 rfl rfl 1 rfl ?_
      refine z_getR F fl_328 k1 dX3_replaceIn_65 rfl ?_
      refine z_iload F dX3_replaceIn_68 rfl 4 rfl ?_
      have n70 := hw.1
      refine z_aald F 1 (tk_7_2 k1) rfl rfl dX3_replaceIn_70 rfl hw (fun hw => ?_)
      refine z_aload_n F dX3_replaceIn_71 rfl rfl 2 rfl ?_
      refine z_getR F fl_328 k2 dX3_replaceIn_72 rfl ?_
      refine z_iload F dX3_replaceIn_75 rfl 4 rfl ?_
      have n77 := hw.1
      refine z_aald F 1 (tk_7_2 k2) rfl rfl dX3_replaceIn_77 rfl hw (fun hw => ?_)
      refine z_cVv (As := [.ref (g.2.2.1 + (rt (rt a2 2) (ix x4)))]) (st := []) F (c_X4_multiply l g (tka_16 (tk_7_2 k1) n70) (tka_16 (tk_7_2 k2) n77) hw) cv_X4_multiply w_808 ⟨rfl, rfl, Nat.le_of_ble_eq_true rfl, Nat.le_of_ble_eq_true rfl⟩ (tka_16 (tk_7_2 k1) n70) rfl rfl (Nat.le_of_ble_eq_true rfl) dX3_replaceIn_78 rfl (fun M78 hw => ?_)
      refine z_goto F dX3_replaceIn_81 rfl ?_
      refine z_sub [0, 1, 2, 3, 4] rfl ?_
      exact bk_X3_replaceIn_123 F hr k0 k1 k2 hK49 hw
set_option maxRecDepth 100000 in
set_option maxHeartbeats 4000000 in
theorem lp_X3_replaceIn_49 {g : En} {p : Program} {l : Launch} {e : Env} {s : State} {m : MethodId} {args : Array Value} {below : List Frame} {meth : Method} {c : Code} {M : Mem} {a0 : Nat} {a1 : Nat} {a2 : Nat} {Q : Mem → Prop} {x3 : Int} {x4 : Int} (F : Fx g p s m args meth c cX3_replaceIn 5 RX3) (hr : meth.sig.returnType = none) (k0 : kd a0 = 3) (k1 : kd a1 = 7) (k2 : kd a2 = 7)
    (hw : wp_X3_replaceIn_L49 a0 a1 a2 Q M x3 x4) : Z g p l e rm_X3_replaceIn s m args below meth c 5 (MQ below (va_Qv (S := Mem) Q (fun u => Rp g u) (aR g)) args s 0 0 (aR g)) M 49 [(0, .ref (g.2.2.1 + a0)), (1, .ref (g.2.2.1 + a1)), (2, .ref (g.2.2.1 + a2)), (3, .int (i3 x3)), (4, .int (i3 x4))] [] := by
  obtain ⟨I, μ, h0, hb⟩ := hw
  have key : ∀ (n : Nat) (M : Mem) (x4 : Int), I M x4 → μ M x4 < n → Z g p l e rm_X3_replaceIn s m args below meth c 5 (MQ below (va_Qv (S := Mem) Q (fun u => Rp g u) (aR g)) args s 0 0 (aR g)) M 49 [(0, .ref (g.2.2.1 + a0)), (1, .ref (g.2.2.1 + a1)), (2, .ref (g.2.2.1 + a2)), (3, .int (i3 x3)), (4, .int (i3 x4))] [] := by
    intro n
    induction n with
    | zero => exact fun _ _ _ h => absurd h (Nat.not_lt_zero _)
    | succ n ih =>
      intro M x4 hI hn
      exact bk_X3_replaceIn_B49 F hr k0 k1 k2 (fun M' x4' hk => ih M' x4' hk.1 (Nat.lt_of_lt_of_le hk.2 (Nat.le_of_lt_succ hn))) (hb M x4 hI)
  exact key _ M x4 h0 (Nat.lt_succ_self _)
set_option maxRecDepth 100000 in
set_option maxHeartbeats 4000000 in
theorem c_X3_replaceIn (l : Launch) (g : En) {a0 : Nat} {a1 : Nat} {a2 : Nat} {a3 : Int} {M : Mem} {Q : Mem → Prop} (k0 : kd a0 = 3) (k1 : kd a1 = 7) (k2 : kd a2 = 7) (hw : wp_X3_replaceIn a0 a1 a2 a3 M Q) :
    Met l yX3_replaceIn (WS yX3_replaceIn cX3_replaceIn 5 none) rm_X3_replaceIn (va_Pc [.ref (g.2.2.1 + a0), .ref (g.2.2.1 + a1), .ref (g.2.2.1 + a2), .int (i3 a3)] (Rp g M)) (va_Qv (S := Mem) Q (fun u => Rp g u) (aR g)) 0 0 (aR g) := by
  refine met_Z (plainFor_of_name rfl) (Nat.le_of_ble_eq_true rfl) ?_
  intro p e s m args below meth c F hr _
  show Z g p l e rm_X3_replaceIn s m args below meth c 5 (MQ below (va_Qv (S := Mem) Q (fun u => Rp g u) (aR g)) args s 0 0 (aR g)) M 0 [(0, .ref (g.2.2.1 + a0)), (1, .ref (g.2.2.1 + a1)), (2, .ref (g.2.2.1 + a2)), (3, .int (i3 a3))] []
  refine z_aload_n F dX3_replaceIn_0 rfl rfl 0 rfl ?_
  refine z_getR F fl_345 k0 dX3_replaceIn_1 rfl ?_
  refine z_aload_n F dX3_replaceIn_4 rfl rfl 1 rfl ?_
  refine z_getR F fl_328 k1 dX3_replaceIn_5 rfl ?_
  refine z_iload_n F dX3_replaceIn_8 rfl rfl 3 rfl ?_
  have n9 := hw.1
  refine z_aald F 1 (tk_7_2 k1) rfl rfl dX3_replaceIn_9 rfl hw (fun hw => ?_)
  refine z_cVv (As := [.ref (g.2.2.1 + (rt (rt a1 2) (ix a3)))]) (st := []) F (c_X4_become_ l g (tk_3_5 k0) (tka_16 (tk_7_2 k1) n9) hw) cv_X4_become_ w_786 ⟨rfl, rfl, Nat.le_of_ble_eq_true rfl, Nat.le_of_ble_eq_true rfl⟩ (tk_3_5 k0) rfl rfl (Nat.le_of_ble_eq_true rfl) dX3_replaceIn_10 rfl (fun M10 hw => ?_)
  refine z_aload_n F dX3_replaceIn_13 rfl rfl 0 rfl ?_
  refine z_getR F fl_346 k0 dX3_replaceIn_14 rfl ?_
  refine z_aload_n F dX3_replaceIn_17 rfl rfl 2 rfl ?_
  refine z_getR F fl_325 k2 dX3_replaceIn_18 rfl ?_
  refine z_cVv (As := [.ref (g.2.2.1 + (rt a2 1))]) (st := []) F (c_X4_become_ l g (tk_3_6 k0) (tk_7_1 k2) hw) cv_X4_become_ w_786 ⟨rfl, rfl, Nat.le_of_ble_eq_true rfl, Nat.le_of_ble_eq_true rfl⟩ (tk_3_6 k0) rfl rfl (Nat.le_of_ble_eq_true rfl) dX3_replaceIn_21 rfl (fun M21 hw => ?_)
  refine z_aload_n F dX3_replaceIn_24 rfl rfl 0 rfl ?_
  refine z_getR F fl_346 k0 dX3_replaceIn_25 rfl ?_
  refine z_aload_n F dX3_replaceIn_28 rfl rfl 0 rfl ?_
  refine z_getR F fl_345 k0 dX3_replaceIn_29 rfl ?_
  refine z_cVv (As := [.ref (g.2.2.1 + (rt a0 5))]) (st := []) F (c_X4_multiply l g (tk_3_6 k0) (tk_3_5 k0) hw) cv_X4_multiply w_808 ⟨rfl, rfl, Nat.le_of_ble_eq_true rfl, Nat.le_of_ble_eq_true rfl⟩ (tk_3_6 k0) rfl rfl (Nat.le_of_ble_eq_true rfl) dX3_replaceIn_32 rfl (fun M32 hw => ?_)
  refine z_aload_n F dX3_replaceIn_35 rfl rfl 1 rfl ?_
  refine z_getR F fl_325 k1 dX3_replaceIn_36 rfl ?_
  refine z_aload_n F dX3_replaceIn_39 rfl rfl 0 rfl ?_
  refine z_getR F fl_346 k0 dX3_replaceIn_40 rfl ?_
  refine z_cVv (As := [.ref (g.2.2.1 + (rt a0 6))]) (st := []) F (c_X4_add l g (tk_7_1 k1) (tk_3_6 k0) hw) cv_X4_add w_763 ⟨rfl, rfl, Nat.le_of_ble_eq_true rfl, Nat.le_of_ble_eq_true rfl⟩ (tk_7_1 k1) rfl rfl (Nat.le_of_ble_eq_true rfl) dX3_replaceIn_43 rfl (fun M43 hw => ?_)
  refine z_iconst F dX3_replaceIn_46 rfl ?_
  refine z_istore F dX3_replaceIn_47 rfl (by decide) rfl ?_
  refine z_sub [1, 2, 3, 4, 0] rfl ?_
  exact lp_X3_replaceIn_49 F hr k0 k1 k2 hw
theorem cv_X3_replaceIn : CV yX3_replaceIn RX3 cX3_replaceIn 5 none 3 := ⟨w_806, w_16, w_75, w_807, rfl, by decide +kernel, by decide +kernel, by decide +kernel⟩
abbrev rm_X3_exchange : Room := { frames := 3, cells := 0, slots := 0, locals := 82 }
def wp_X3_exchange_b68 (a0 : Nat) (Q : Mem → Prop) (K40 : Mem → Int → Prop) (M : Mem) (x1 : Int) (x2 : Int) (x3 : Nat) (x5 : Int) : Prop :=
  K40 M (x5 + 1)
def wp_X3_exchange_B40 (a0 : Nat) (Q : Mem → Prop) (K40 : Mem → Int → Prop) (M : Mem) (x1 : Int) (x2 : Int) (x3 : Nat) (x5 : Int) : Prop :=
  (((w32 (M a0 2) ≤ w32 x5) → (
    wp_X3_replaceIn a0 (rt a0 0) x3 x2 M (fun M81 =>
    Q M81))) ∧
  (¬ (w32 (M a0 2) ≤ w32 x5) → (
    (((w32 x5 = w32 x1) → (
      wp_X3_exchange_b68 a0 Q K40 M x1 x2 x3 x5)) ∧
    (¬ (w32 x5 = w32 x1) → (
      inb (rt a0 1) x5 ∧ (
      wp_X3_replaceIn a0 (rt (rt a0 1) (ix x5)) x3 x2 M (fun M65 =>
      wp_X3_exchange_b68 a0 Q K40 M65 x1 x2 x3 x5))))))))
def wp_X3_exchange_L40 (a0 : Nat) (Q : Mem → Prop) (M : Mem) (x1 : Int) (x2 : Int) (x3 : Nat) (x5 : Int) : Prop :=
  ∃ (I : Mem → Int → Prop) (μ : Mem → Int → Nat), I M x5 ∧ ∀ (M : Mem) (x5 : Int), I M x5 →
    wp_X3_exchange_B40 a0 Q (fun M' x5' => I M' x5' ∧ μ M' x5' < μ M x5) M x1 x2 x3 x5
def wp_X3_exchange (a0 : Nat) (a1 : Int) (a2 : Int) (M : Mem) (Q : Mem → Prop) : Prop :=
  inb (rt a0 1) a1 ∧ (
  wp_X3_solveFor a0 (rt (rt a0 1) (ix a1)) a2 M (fun M10 =>
  ∀ v17 : Int, v17 = (M10 (rt (rt a0 1) (ix a1)) 0) →
  inb (rt a0 3) a2 ∧ (
  ∀ M26 : Mem, M26 = st2 M10 (rt (rt a0 1) (ix a1)) 0 (M10 (rt a0 3) (ix a2)) →
  inb (rt a0 3) a2 ∧ (
  ∀ M36 : Mem, M36 = st2 M26 (rt a0 3) (ix a2) v17 →
  wp_X3_exchange_L40 a0 Q M36 a1 a2 (rt (rt a0 1) (ix a1)) 0))))
set_option maxRecDepth 100000 in
set_option maxHeartbeats 4000000 in
theorem bk_X3_exchange_68 {g : En} {p : Program} {l : Launch} {e : Env} {s : State} {m : MethodId} {args : Array Value} {below : List Frame} {meth : Method} {c : Code} {M : Mem} {a0 : Nat} {Q : Mem → Prop} {K40 : Mem → Int → Prop} {x1 : Int} {x2 : Int} {x3 : Nat} {x5 : Int} (F : Fx g p s m args meth c cX3_exchange 6 RX3) (hr : meth.sig.returnType = none) (k0 : kd a0 = 3) (kx3 : kd x3 = 7)
    (hK40 : ∀ (M' : Mem) (x5' : Int), K40 M' x5' → Z g p l e rm_X3_exchange s m args below meth c 6 (MQ below (va_Qv (S := Mem) Q (fun u => Rp g u) (aR g)) args s 0 0 (aR g)) M' 40 [(0, .ref (g.2.2.1 + a0)), (1, .int (i3 x1)), (2, .int (i3 x2)), (3, .ref (g.2.2.1 + x3)), (5, .int (i3 x5'))] [])
    (hw : wp_X3_exchange_b68 a0 Q K40 M x1 x2 x3 x5) : Z g p l e rm_X3_exchange s m args below meth c 6 (MQ below (va_Qv (S := Mem) Q (fun u => Rp g u) (aR g)) args s 0 0 (aR g)) M 68 [(0, .ref (g.2.2.1 + a0)), (1, .int (i3 x1)), (2, .int (i3 x2)), (3, .ref (g.2.2.1 + x3)), (5, .int (i3 x5))] [] := by
  refine z_iinc F dX3_exchange_68 rfl 4 rfl (by decide) rfl ?_
  refine z_goto F dX3_exchange_71 rfl ?_
  refine z_sub [1, 2, 3, 4, 0] rfl ?_
  exact hK40 M (x5 + 1) hw
set_option maxRecDepth 100000 in
set_option maxHeartbeats 4000000 in
theorem bk_X3_exchange_B40 {g : En} {p : Program} {l : Launch} {e : Env} {s : State} {m : MethodId} {args : Array Value} {below : List Frame} {meth : Method} {c : Code} {M : Mem} {a0 : Nat} {Q : Mem → Prop} {K40 : Mem → Int → Prop} {x1 : Int} {x2 : Int} {x3 : Nat} {x5 : Int} (F : Fx g p s m args meth c cX3_exchange 6 RX3) (hr : meth.sig.returnType = none) (k0 : kd a0 = 3) (kx3 : kd x3 = 7)
    (hK40 : ∀ (M' : Mem) (x5' : Int), K40 M' x5' → Z g p l e rm_X3_exchange s m args below meth c 6 (MQ below (va_Qv (S := Mem) Q (fun u => Rp g u) (aR g)) args s 0 0 (aR g)) M' 40 [(0, .ref (g.2.2.1 + a0)), (1, .int (i3 x1)), (2, .int (i3 x2)), (3, .ref (g.2.2.1 + x3)), (5, .int (i3 x5'))] [])
    (hw : wp_X3_exchange_B40 a0 Q K40 M x1 x2 x3 x5) : Z g p l e rm_X3_exchange s m args below meth c 6 (MQ below (va_Qv (S := Mem) Q (fun u => Rp g u) (aR g)) args s 0 0 (aR g)) M 40 [(0, .ref (g.2.2.1 + a0)), (1, .int (i3 x1)), (2, .int (i3 x2)), (3, .ref (g.2.2.1 + x3)), (5, .int (i3 x5))] [] := by
  refine z_iload F dX3_exchange_40 rfl 4 rfl ?_
  refine z_aload_n F dX3_exchange_42 rfl rfl 0 rfl ?_
  refine z_getI F fl_342 k0 dX3_exchange_43 rfl ?_
  refine z_icmp_ge F dX3_exchange_46 rfl rfl hw (fun hw => ?_) (fun hw => ?_)
  · refine z_aload_n F dX3_exchange_74 rfl rfl 0 rfl ?_
    refine z_aload_n F dX3_exchange_75 rfl rfl 0 rfl ?_
    refine z_getR F fl_339 k0 dX3_exchange_76 rfl ?_
    refine z_aload_n F dX3_exchange_79 rfl rfl 3 rfl ?_
    refine z_iload_n F dX3_exchange_80 rfl rfl 2 rfl ?_
    refine z_cVv (As := [.ref (g.2.2.1 + (rt a0 0)), .ref (g.2.2.1 + x3), .int (i3 x2)]) (st := []) F (c_X3_replaceIn l g k0 (tk_3_0 k0) kx3 hw) cv_X3_replaceIn w_804 ⟨rfl, rfl, Nat.le_of_ble_eq_true rfl, Nat.le_of_ble_eq_true rfl⟩ k0 rfl rfl (Nat.le_of_ble_eq_true rfl) dX3_exchange_81 rfl (fun M81 hw => ?_)
    exact z_vret F hr dX3_exchange_84 hw
  · refine z_iload F dX3_exchange_49 rfl 4 rfl ?_
    refine z_iload_n F dX3_exchange_51 rfl rfl 1 rfl ?_
    refine z_icmp_eq F dX3_exchange_52 rfl rfl hw (fun hw => ?_) (fun hw => ?_)
    · refine z_sub [0, 1, 2, 3, 4] rfl ?_
      exact bk_X3_exchange_68 F hr k0 kx3 hK40 hw
    · refine z_aload_n F dX3_exchange_55 rfl rfl 0 rfl ?_
      refine z_aload_n F dX3_exchange_56 rfl rfl 0 rfl ?_
      refine z_getR F fl_341 k0 dX3_exchange_57 rfl ?_
      refine z_iload F dX3_exchange_60 rfl 4 rfl ?_
      have n62 := hw.1
      refine z_aald F 2 (tk_3_1 k0) rfl rfl dX3_exchange_62 rfl hw (fun hw => ?_)
      refine z_aload_n F dX3_exchange_63 rfl rfl 3 rfl ?_
      refine z_iload_n F dX3_exchange_64 rfl rfl 2 rfl ?_
      refine z_cVv (As := [.ref (g.2.2.1 + (rt (rt a0 1) (ix x5))), .ref (g.2.2.1 + x3), .int (i3 x2)]) (st := []) F (c_X3_replaceIn l g k0 (tka_17 (tk_3_1 k0) n62) kx3 hw) cv_X3_replaceIn w_804 ⟨rfl, rfl, Nat.le_of_ble_eq_true rfl, Nat.le_of_ble_eq_true rfl⟩ k0 rfl rfl (Nat.le_of_ble_eq_true rfl) dX3_exchange_65 rfl (fun M65 hw => ?_)
      refine z_sub [0, 1, 2, 3, 4] rfl ?_
      exact bk_X3_exchange_68 F hr k0 kx3 hK40 hw
set_option maxRecDepth 100000 in
set_option maxHeartbeats 4000000 in
theorem lp_X3_exchange_40 {g : En} {p : Program} {l : Launch} {e : Env} {s : State} {m : MethodId} {args : Array Value} {below : List Frame} {meth : Method} {c : Code} {M : Mem} {a0 : Nat} {Q : Mem → Prop} {x1 : Int} {x2 : Int} {x3 : Nat} {x5 : Int} (F : Fx g p s m args meth c cX3_exchange 6 RX3) (hr : meth.sig.returnType = none) (k0 : kd a0 = 3) (kx3 : kd x3 = 7)
    (hw : wp_X3_exchange_L40 a0 Q M x1 x2 x3 x5) : Z g p l e rm_X3_exchange s m args below meth c 6 (MQ below (va_Qv (S := Mem) Q (fun u => Rp g u) (aR g)) args s 0 0 (aR g)) M 40 [(0, .ref (g.2.2.1 + a0)), (1, .int (i3 x1)), (2, .int (i3 x2)), (3, .ref (g.2.2.1 + x3)), (5, .int (i3 x5))] [] := by
  obtain ⟨I, μ, h0, hb⟩ := hw
  have key : ∀ (n : Nat) (M : Mem) (x5 : Int), I M x5 → μ M x5 < n → Z g p l e rm_X3_exchange s m args below meth c 6 (MQ below (va_Qv (S := Mem) Q (fun u => Rp g u) (aR g)) args s 0 0 (aR g)) M 40 [(0, .ref (g.2.2.1 + a0)), (1, .int (i3 x1)), (2, .int (i3 x2)), (3, .ref (g.2.2.1 + x3)), (5, .int (i3 x5))] [] := by
    intro n
    induction n with
    | zero => exact fun _ _ _ h => absurd h (Nat.not_lt_zero _)
    | succ n ih =>
      intro M x5 hI hn
      exact bk_X3_exchange_B40 F hr k0 kx3 (fun M' x5' hk => ih M' x5' hk.1 (Nat.lt_of_lt_of_le hk.2 (Nat.le_of_lt_succ hn))) (hb M x5 hI)
  exact key _ M x5 h0 (Nat.lt_succ_self _)
set_option maxRecDepth 100000 in
set_option maxHeartbeats 4000000 in
theorem c_X3_exchange (l : Launch) (g : En) {a0 : Nat} {a1 : Int} {a2 : Int} {M : Mem} {Q : Mem → Prop} (k0 : kd a0 = 3) (hw : wp_X3_exchange a0 a1 a2 M Q) :
    Met l yX3_exchange (WS yX3_exchange cX3_exchange 6 none) rm_X3_exchange (va_Pc [.ref (g.2.2.1 + a0), .int (i3 a1), .int (i3 a2)] (Rp g M)) (va_Qv (S := Mem) Q (fun u => Rp g u) (aR g)) 0 0 (aR g) := by
  refine met_Z (plainFor_of_name rfl) (Nat.le_of_ble_eq_true rfl) ?_
  intro p e s m args below meth c F hr _
  show Z g p l e rm_X3_exchange s m args below meth c 6 (MQ below (va_Qv (S := Mem) Q (fun u => Rp g u) (aR g)) args s 0 0 (aR g)) M 0 [(0, .ref (g.2.2.1 + a0)), (1, .int (i3 a1)), (2, .int (i3 a2))] []
  refine z_aload_n F dX3_exchange_0 rfl rfl 0 rfl ?_
  refine z_getR F fl_341 k0 dX3_exchange_1 rfl ?_
  refine z_iload_n F dX3_exchange_4 rfl rfl 1 rfl ?_
  have n5 := hw.1
  refine z_aald F 2 (tk_3_1 k0) rfl rfl dX3_exchange_5 rfl hw (fun hw => ?_)
  refine z_astore_n F dX3_exchange_6 rfl rfl (by decide) rfl ?_
  refine z_aload_n F dX3_exchange_7 rfl rfl 1 rfl ?_
  refine z_aload_n F dX3_exchange_8 rfl rfl 0 rfl ?_
  refine z_iload_n F dX3_exchange_9 rfl rfl 3 rfl ?_
  refine z_cVv (As := [.ref (g.2.2.1 + (rt (rt a0 1) (ix a1))), .int (i3 a2)]) (st := []) F (c_X3_solveFor l g k0 (tka_17 (tk_3_1 k0) n5) hw) cv_X3_solveFor w_799 ⟨rfl, rfl, Nat.le_of_ble_eq_true rfl, Nat.le_of_ble_eq_true rfl⟩ k0 rfl rfl (Nat.le_of_ble_eq_true rfl) dX3_exchange_10 rfl (fun M10 hw => ?_)
  refine z_aload_n F dX3_exchange_13 rfl rfl 0 rfl ?_
  refine z_getI F fl_323 (tka_17 (tk_3_1 k0) n5) dX3_exchange_14 rfl ?_
  refine z_nmI (fun v17 ev17 => ?_)
  have hw := hw v17 ev17
  refine z_istore F dX3_exchange_17 rfl (by decide) rfl ?_
  refine z_aload_n F dX3_exchange_19 rfl rfl 1 rfl ?_
  refine z_aload_n F dX3_exchange_20 rfl rfl 2 rfl ?_
  refine z_getR F fl_343 k0 dX3_exchange_21 rfl ?_
  refine z_iload_n F dX3_exchange_24 rfl rfl 4 rfl ?_
  refine z_iald F (tk_3_3 k0) dX3_exchange_25 rfl hw (fun hw => ?_)
  refine z_putI F fp_323 (tka_17 (tk_3_1 k0) n5) dX3_exchange_26 rfl ?_
  refine z_nmM (fun M26 eM26 => ?_)
  have hw := hw M26 eM26
  refine z_aload_n F dX3_exchange_29 rfl rfl 2 rfl ?_
  refine z_getR F fl_343 k0 dX3_exchange_30 rfl ?_
  refine z_iload_n F dX3_exchange_33 rfl rfl 4 rfl ?_
  refine z_iload F dX3_exchange_34 rfl 0 rfl ?_
  refine z_iast F (tk_3_3 k0) dX3_exchange_36 rfl hw (fun hw => ?_)
  refine z_nmM (fun M36 eM36 => ?_)
  have hw := hw M36 eM36
  refine z_iconst F dX3_exchange_37 rfl ?_
  refine z_istore F dX3_exchange_38 rfl (by decide) rfl ?_
  refine z_sub [3, 4, 5, 2, 0] rfl ?_
  exact lp_X3_exchange_40 F hr k0 (tka_17 (tk_3_1 k0) n5) hw
theorem cv_X3_exchange : CV yX3_exchange RX3 cX3_exchange 6 none 2 := ⟨w_797, w_14, w_75, w_798, rfl, by decide +kernel, by decide +kernel, by decide +kernel⟩
abbrev rm_X7_isGreat : Room := { frames := 0, cells := 0, slots := 0, locals := 0 }
def wp_X7_isGreat_b36 (a0 : Nat) (Q : Bool → Prop) (K10 : Bool → Int → Prop) (M : Mem) (s0 : Bool) (x2 : Int) : Prop :=
  K10 s0 (x2 + 1)
def wp_X7_isGreat_b31 (a0 : Nat) (Q : Bool → Prop) (K10 : Bool → Int → Prop) (M : Mem) (x2 : Int) : Prop :=
  wp_X7_isGreat_b36 a0 Q K10 M true x2
def wp_X7_isGreat_B10 (a0 : Nat) (Q : Bool → Prop) (K10 : Bool → Int → Prop) (M : Mem) (x1 : Bool) (x2 : Int) : Prop :=
  (((w32 5 ≤ w32 x2) → (
    Q x1)) ∧
  (¬ (w32 5 ≤ w32 x2) → (
    ((x1 = true → (
      wp_X7_isGreat_b31 a0 Q K10 M x2)) ∧
    (x1 = false → (
      inb (rt a0 2) x2 ∧ (
      (((fb M (rt (rt a0 2) (ix x2)) 2) = false → (
        wp_X7_isGreat_b36 a0 Q K10 M false x2)) ∧
      ((fb M (rt (rt a0 2) (ix x2)) 2) = true → (
        wp_X7_isGreat_b31 a0 Q K10 M x2))))))))))
def wp_X7_isGreat_L10 (a0 : Nat) (Q : Bool → Prop) (M : Mem) (x1 : Bool) (x2 : Int) : Prop :=
  ∃ (I : Bool → Int → Prop) (μ : Bool → Int → Nat), I x1 x2 ∧ ∀ (x1 : Bool) (x2 : Int), I x1 x2 →
    wp_X7_isGreat_B10 a0 Q (fun x1' x2' => I x1' x2' ∧ μ x1' x2' < μ x1 x2) M x1 x2
def wp_X7_isGreat (a0 : Nat) (M : Mem) (Q : Bool → Prop) : Prop :=
  wp_X7_isGreat_L10 a0 Q M (fb M (rt a0 1) 2) 0
set_option maxRecDepth 100000 in
set_option maxHeartbeats 4000000 in
theorem bk_X7_isGreat_36 {g : En} {p : Program} {l : Launch} {e : Env} {s : State} {m : MethodId} {args : Array Value} {below : List Frame} {meth : Method} {c : Code} {M : Mem} {a0 : Nat} {Q : Bool → Prop} {K10 : Bool → Int → Prop} {s0 : Bool} {x2 : Int} (F : Fx g p s m args meth c cX7_isGreat 3 RX7) (hr : meth.sig.returnType = (some .boolean)) (k0 : kd a0 = 7)
    (hK10 : ∀ (x1' : Bool) (x2' : Int), K10 x1' x2' → Z g p l e rm_X7_isGreat s m args below meth c 3 (MQ below (va_Qi (S := Bool × Mem) (fun r u => r = i3 (bz u.1) ∧ (u.2 = M ∧ Q u.1)) (fun u => Rp g u.2) (aR g)) args s 0 0 (aR g)) M 10 [(0, .ref (g.2.2.1 + a0)), (1, .int (i3 (bz x1'))), (2, .int (i3 x2'))] [])
    (hw : wp_X7_isGreat_b36 a0 Q K10 M s0 x2) : Z g p l e rm_X7_isGreat s m args below meth c 3 (MQ below (va_Qi (S := Bool × Mem) (fun r u => r = i3 (bz u.1) ∧ (u.2 = M ∧ Q u.1)) (fun u => Rp g u.2) (aR g)) args s 0 0 (aR g)) M 36 [(0, .ref (g.2.2.1 + a0)), (2, .int (i3 x2))] [.int (i3 (bz s0))] := by
  refine z_istore_n F dX7_isGreat_36 rfl rfl (by decide) rfl ?_
  refine z_iinc F dX7_isGreat_37 rfl 2 rfl (by decide) rfl ?_
  refine z_goto F dX7_isGreat_40 rfl ?_
  refine z_sub [2, 1, 0] rfl ?_
  exact hK10 s0 (x2 + 1) hw
set_option maxRecDepth 100000 in
set_option maxHeartbeats 4000000 in
theorem bk_X7_isGreat_31 {g : En} {p : Program} {l : Launch} {e : Env} {s : State} {m : MethodId} {args : Array Value} {below : List Frame} {meth : Method} {c : Code} {M : Mem} {a0 : Nat} {Q : Bool → Prop} {K10 : Bool → Int → Prop} {x2 : Int} (F : Fx g p s m args meth c cX7_isGreat 3 RX7) (hr : meth.sig.returnType = (some .boolean)) (k0 : kd a0 = 7)
    (hK10 : ∀ (x1' : Bool) (x2' : Int), K10 x1' x2' → Z g p l e rm_X7_isGreat s m args below meth c 3 (MQ below (va_Qi (S := Bool × Mem) (fun r u => r = i3 (bz u.1) ∧ (u.2 = M ∧ Q u.1)) (fun u => Rp g u.2) (aR g)) args s 0 0 (aR g)) M 10 [(0, .ref (g.2.2.1 + a0)), (1, .int (i3 (bz x1'))), (2, .int (i3 x2'))] [])
    (hw : wp_X7_isGreat_b31 a0 Q K10 M x2) : Z g p l e rm_X7_isGreat s m args below meth c 3 (MQ below (va_Qi (S := Bool × Mem) (fun r u => r = i3 (bz u.1) ∧ (u.2 = M ∧ Q u.1)) (fun u => Rp g u.2) (aR g)) args s 0 0 (aR g)) M 31 [(0, .ref (g.2.2.1 + a0)), (2, .int (i3 x2))] [] := by
  refine z_iconst F dX7_isGreat_31 rfl ?_
  refine z_goto F dX7_isGreat_32 rfl ?_
  refine z_sub [0, 1] rfl ?_
  exact bk_X7_isGreat_36 F hr k0 hK10 hw
set_option maxRecDepth 100000 in
set_option maxHeartbeats 4000000 in
theorem bk_X7_isGreat_B10 {g : En} {p : Program} {l : Launch} {e : Env} {s : State} {m : MethodId} {args : Array Value} {below : List Frame} {meth : Method} {c : Code} {M : Mem} {a0 : Nat} {Q : Bool → Prop} {K10 : Bool → Int → Prop} {x1 : Bool} {x2 : Int} (F : Fx g p s m args meth c cX7_isGreat 3 RX7) (hr : meth.sig.returnType = (some .boolean)) (k0 : kd a0 = 7)
    (hK10 : ∀ (x1' : Bool) (x2' : Int), K10 x1' x2' → Z g p l e rm_X7_isGreat s m args below meth c 3 (MQ below (va_Qi (S := Bool × Mem) (fun r u => r = i3 (bz u.1) ∧ (u.2 = M ∧ Q u.1)) (fun u => Rp g u.2) (aR g)) args s 0 0 (aR g)) M 10 [(0, .ref (g.2.2.1 + a0)), (1, .int (i3 (bz x1'))), (2, .int (i3 x2'))] [])
    (hw : wp_X7_isGreat_B10 a0 Q K10 M x1 x2) : Z g p l e rm_X7_isGreat s m args below meth c 3 (MQ below (va_Qi (S := Bool × Mem) (fun r u => r = i3 (bz u.1) ∧ (u.2 = M ∧ Q u.1)) (fun u => Rp g u.2) (aR g)) args s 0 0 (aR g)) M 10 [(0, .ref (g.2.2.1 + a0)), (1, .int (i3 (bz x1))), (2, .int (i3 x2))] [] := by
  refine z_iload_n F dX7_isGreat_10 rfl rfl 2 rfl ?_
  refine z_iconst F dX7_isGreat_11 rfl ?_
  refine z_icmp_ge F dX7_isGreat_12 rfl rfl hw (fun hw => ?_) (fun hw => ?_)
  · refine z_iload_n F dX7_isGreat_43 rfl rfl 1 rfl ?_
    exact z_zretp (x := x1) F hr dX7_isGreat_44 hw
  · refine z_iload_n F dX7_isGreat_15 rfl rfl 1 rfl ?_
    refine z_ifb_ne F dX7_isGreat_16 rfl rfl hw (fun hw => ?_) (fun hw => ?_)
    · refine z_sub [0, 2] rfl ?_
      exact bk_X7_isGreat_31 F hr k0 hK10 hw
    · refine z_aload_n F dX7_isGreat_19 rfl rfl 0 rfl ?_
      refine z_getR F fl_327 k0 dX7_isGreat_20 rfl ?_
      refine z_iload_n F dX7_isGreat_23 rfl rfl 2 rfl ?_
      have n24 := hw.1
      refine z_aald F 1 (tk_7_2 k0) rfl rfl dX7_isGreat_24 rfl hw (fun hw => ?_)
      refine z_getB F fl_271 (tka_16 (tk_7_2 k0) n24) dX7_isGreat_25 rfl ?_
      refine z_ifb_eq F dX7_isGreat_28 rfl rfl hw (fun hw => ?_) (fun hw => ?_)
      · refine z_iconst F dX7_isGreat_35 rfl ?_
        refine z_sub [0, 2] rfl ?_
        exact bk_X7_isGreat_36 F hr k0 hK10 hw
      · refine z_sub [0, 2] rfl ?_
        exact bk_X7_isGreat_31 F hr k0 hK10 hw
set_option maxRecDepth 100000 in
set_option maxHeartbeats 4000000 in
theorem lp_X7_isGreat_10 {g : En} {p : Program} {l : Launch} {e : Env} {s : State} {m : MethodId} {args : Array Value} {below : List Frame} {meth : Method} {c : Code} {M : Mem} {a0 : Nat} {Q : Bool → Prop} {x1 : Bool} {x2 : Int} (F : Fx g p s m args meth c cX7_isGreat 3 RX7) (hr : meth.sig.returnType = (some .boolean)) (k0 : kd a0 = 7)
    (hw : wp_X7_isGreat_L10 a0 Q M x1 x2) : Z g p l e rm_X7_isGreat s m args below meth c 3 (MQ below (va_Qi (S := Bool × Mem) (fun r u => r = i3 (bz u.1) ∧ (u.2 = M ∧ Q u.1)) (fun u => Rp g u.2) (aR g)) args s 0 0 (aR g)) M 10 [(0, .ref (g.2.2.1 + a0)), (1, .int (i3 (bz x1))), (2, .int (i3 x2))] [] := by
  obtain ⟨I, μ, h0, hb⟩ := hw
  have key : ∀ (n : Nat) (x1 : Bool) (x2 : Int), I x1 x2 → μ x1 x2 < n → Z g p l e rm_X7_isGreat s m args below meth c 3 (MQ below (va_Qi (S := Bool × Mem) (fun r u => r = i3 (bz u.1) ∧ (u.2 = M ∧ Q u.1)) (fun u => Rp g u.2) (aR g)) args s 0 0 (aR g)) M 10 [(0, .ref (g.2.2.1 + a0)), (1, .int (i3 (bz x1))), (2, .int (i3 x2))] [] := by
    intro n
    induction n with
    | zero => exact fun _ _ _ h => absurd h (Nat.not_lt_zero _)
    | succ n ih =>
      intro x1 x2 hI hn
      exact bk_X7_isGreat_B10 F hr k0 (fun x1' x2' hk => ih x1' x2' hk.1 (Nat.lt_of_lt_of_le hk.2 (Nat.le_of_lt_succ hn))) (hb x1 x2 hI)
  exact key _ x1 x2 h0 (Nat.lt_succ_self _)
set_option maxRecDepth 100000 in
set_option maxHeartbeats 4000000 in
theorem c_X7_isGreat (l : Launch) (g : En) {a0 : Nat} {M : Mem} {Q : Bool → Prop} (k0 : kd a0 = 7) (hw : wp_X7_isGreat a0 M Q) :
    Met l yX7_isGreat (WS yX7_isGreat cX7_isGreat 3 (some .boolean)) rm_X7_isGreat (va_Pc [.ref (g.2.2.1 + a0)] (Rp g M)) (va_Qi (S := Bool × Mem) (fun r u => r = i3 (bz u.1) ∧ (u.2 = M ∧ Q u.1)) (fun u => Rp g u.2) (aR g)) 0 0 (aR g) := by
  refine met_Z (plainFor_of_name rfl) (Nat.le_of_ble_eq_true rfl) ?_
  intro p e s m args below meth c F hr _
  show Z g p l e rm_X7_isGreat s m args below meth c 3 (MQ below (va_Qi (S := Bool × Mem) (fun r u => r = i3 (bz u.1) ∧ (u.2 = M ∧ Q u.1)) (fun u => Rp g u.2) (aR g)) args s 0 0 (aR g)) M 0 [(0, .ref (g.2.2.1 + a0))] []
  refine z_aload_n F dX7_isGreat_0 rfl rfl 0 rfl ?_
  refine z_getR F fl_324 k0 dX7_isGreat_1 rfl ?_
  refine z_getB F fl_271 (tk_7_1 k0) dX7_isGreat_4 rfl ?_
  refine z_istore_n F dX7_isGreat_7 rfl rfl (by decide) rfl ?_
  refine z_iconst F dX7_isGreat_8 rfl ?_
  refine z_istore_n F dX7_isGreat_9 rfl rfl (by decide) rfl ?_
  refine z_sub [2, 1, 0] rfl ?_
  exact lp_X7_isGreat_10 F hr k0 hw
theorem cv_X7_isGreat : CV yX7_isGreat RX7 cX7_isGreat 3 (some .boolean) 0 := ⟨w_814, w_815, w_76, w_816, rfl, by decide +kernel, by decide +kernel, by decide +kernel⟩
abbrev rm_X3_isGreat : Room := { frames := 1, cells := 0, slots := 0, locals := 22 }
def wp_X3_isGreat_b39 (a0 : Nat) (Q : Bool → Prop) (K10 : Bool → Int → Prop) (M : Mem) (s0 : Bool) (x2 : Int) : Prop :=
  K10 s0 (x2 + 1)
def wp_X3_isGreat_b34 (a0 : Nat) (Q : Bool → Prop) (K10 : Bool → Int → Prop) (M : Mem) (x2 : Int) : Prop :=
  wp_X3_isGreat_b39 a0 Q K10 M true x2
def wp_X3_isGreat_B10 (a0 : Nat) (Q : Bool → Prop) (K10 : Bool → Int → Prop) (M : Mem) (x1 : Bool) (x2 : Int) : Prop :=
  (((w32 (M a0 2) ≤ w32 x2) → (
    Q x1)) ∧
  (¬ (w32 (M a0 2) ≤ w32 x2) → (
    ((x1 = true → (
      wp_X3_isGreat_b34 a0 Q K10 M x2)) ∧
    (x1 = false → (
      inb (rt a0 1) x2 ∧ (
      wp_X7_isGreat (rt (rt a0 1) (ix x2)) M (fun r28 =>
      ((r28 = false → (
        wp_X3_isGreat_b39 a0 Q K10 M false x2)) ∧
      (r28 = true → (
        wp_X3_isGreat_b34 a0 Q K10 M x2)))))))))))
def wp_X3_isGreat_L10 (a0 : Nat) (Q : Bool → Prop) (M : Mem) (x1 : Bool) (x2 : Int) : Prop :=
  ∃ (I : Bool → Int → Prop) (μ : Bool → Int → Nat), I x1 x2 ∧ ∀ (x1 : Bool) (x2 : Int), I x1 x2 →
    wp_X3_isGreat_B10 a0 Q (fun x1' x2' => I x1' x2' ∧ μ x1' x2' < μ x1 x2) M x1 x2
def wp_X3_isGreat (a0 : Nat) (M : Mem) (Q : Bool → Prop) : Prop :=
  wp_X7_isGreat (rt a0 0) M (fun r4 =>
  wp_X3_isGreat_L10 a0 Q M r4 0)
set_option maxRecDepth 100000 in
set_option maxHeartbeats 4000000 in
theorem bk_X3_isGreat_39 {g : En} {p : Program} {l : Launch} {e : Env} {s : State} {m : MethodId} {args : Array Value} {below : List Frame} {meth : Method} {c : Code} {M : Mem} {a0 : Nat} {Q : Bool → Prop} {K10 : Bool → Int → Prop} {s0 : Bool} {x2 : Int} (F : Fx g p s m args meth c cX3_isGreat 3 RX3) (hr : meth.sig.returnType = (some .boolean)) (k0 : kd a0 = 3)
    (hK10 : ∀ (x1' : Bool) (x2' : Int), K10 x1' x2' → Z g p l e rm_X3_isGreat s m args below meth c 3 (MQ below (va_Qi (S := Bool × Mem) (fun r u => r = i3 (bz u.1) ∧ (u.2 = M ∧ Q u.1)) (fun u => Rp g u.2) (aR g)) args s 0 0 (aR g)) M 10 [(0, .ref (g.2.2.1 + a0)), (1, .int (i3 (bz x1'))), (2, .int (i3 x2'))] [])
    (hw : wp_X3_isGreat_b39 a0 Q K10 M s0 x2) : Z g p l e rm_X3_isGreat s m args below meth c 3 (MQ below (va_Qi (S := Bool × Mem) (fun r u => r = i3 (bz u.1) ∧ (u.2 = M ∧ Q u.1)) (fun u => Rp g u.2) (aR g)) args s 0 0 (aR g)) M 39 [(0, .ref (g.2.2.1 + a0)), (2, .int (i3 x2))] [.int (i3 (bz s0))] := by
  refine z_istore_n F dX3_isGreat_39 rfl rfl (by decide) rfl ?_
  refine z_iinc F dX3_isGreat_40 rfl 2 rfl (by decide) rfl ?_
  refine z_goto F dX3_isGreat_43 rfl ?_
  refine z_sub [2, 1, 0] rfl ?_
  exact hK10 s0 (x2 + 1) hw
set_option maxRecDepth 100000 in
set_option maxHeartbeats 4000000 in
theorem bk_X3_isGreat_34 {g : En} {p : Program} {l : Launch} {e : Env} {s : State} {m : MethodId} {args : Array Value} {below : List Frame} {meth : Method} {c : Code} {M : Mem} {a0 : Nat} {Q : Bool → Prop} {K10 : Bool → Int → Prop} {x2 : Int} (F : Fx g p s m args meth c cX3_isGreat 3 RX3) (hr : meth.sig.returnType = (some .boolean)) (k0 : kd a0 = 3)
    (hK10 : ∀ (x1' : Bool) (x2' : Int), K10 x1' x2' → Z g p l e rm_X3_isGreat s m args below meth c 3 (MQ below (va_Qi (S := Bool × Mem) (fun r u => r = i3 (bz u.1) ∧ (u.2 = M ∧ Q u.1)) (fun u => Rp g u.2) (aR g)) args s 0 0 (aR g)) M 10 [(0, .ref (g.2.2.1 + a0)), (1, .int (i3 (bz x1'))), (2, .int (i3 x2'))] [])
    (hw : wp_X3_isGreat_b34 a0 Q K10 M x2) : Z g p l e rm_X3_isGreat s m args below meth c 3 (MQ below (va_Qi (S := Bool × Mem) (fun r u => r = i3 (bz u.1) ∧ (u.2 = M ∧ Q u.1)) (fun u => Rp g u.2) (aR g)) args s 0 0 (aR g)) M 34 [(0, .ref (g.2.2.1 + a0)), (2, .int (i3 x2))] [] := by
  refine z_iconst F dX3_isGreat_34 rfl ?_
  refine z_goto F dX3_isGreat_35 rfl ?_
  refine z_sub [0, 1] rfl ?_
  exact bk_X3_isGreat_39 F hr k0 hK10 hw
set_option maxRecDepth 100000 in
set_option maxHeartbeats 4000000 in
theorem bk_X3_isGreat_B10 {g : En} {p : Program} {l : Launch} {e : Env} {s : State} {m : MethodId} {args : Array Value} {below : List Frame} {meth : Method} {c : Code} {M : Mem} {a0 : Nat} {Q : Bool → Prop} {K10 : Bool → Int → Prop} {x1 : Bool} {x2 : Int} (F : Fx g p s m args meth c cX3_isGreat 3 RX3) (hr : meth.sig.returnType = (some .boolean)) (k0 : kd a0 = 3)
    (hK10 : ∀ (x1' : Bool) (x2' : Int), K10 x1' x2' → Z g p l e rm_X3_isGreat s m args below meth c 3 (MQ below (va_Qi (S := Bool × Mem) (fun r u => r = i3 (bz u.1) ∧ (u.2 = M ∧ Q u.1)) (fun u => Rp g u.2) (aR g)) args s 0 0 (aR g)) M 10 [(0, .ref (g.2.2.1 + a0)), (1, .int (i3 (bz x1'))), (2, .int (i3 x2'))] [])
    (hw : wp_X3_isGreat_B10 a0 Q K10 M x1 x2) : Z g p l e rm_X3_isGreat s m args below meth c 3 (MQ below (va_Qi (S := Bool × Mem) (fun r u => r = i3 (bz u.1) ∧ (u.2 = M ∧ Q u.1)) (fun u => Rp g u.2) (aR g)) args s 0 0 (aR g)) M 10 [(0, .ref (g.2.2.1 + a0)), (1, .int (i3 (bz x1))), (2, .int (i3 x2))] [] := by
  refine z_iload_n F dX3_isGreat_10 rfl rfl 2 rfl ?_
  refine z_aload_n F dX3_isGreat_11 rfl rfl 0 rfl ?_
  refine z_getI F fl_342 k0 dX3_isGreat_12 rfl ?_
  refine z_icmp_ge F dX3_isGreat_15 rfl rfl hw (fun hw => ?_) (fun hw => ?_)
  · refine z_iload_n F dX3_isGreat_46 rfl rfl 1 rfl ?_
    exact z_zretp (x := x1) F hr dX3_isGreat_47 hw
  · refine z_iload_n F dX3_isGreat_18 rfl rfl 1 rfl ?_
    refine z_ifb_ne F dX3_isGreat_19 rfl rfl hw (fun hw => ?_) (fun hw => ?_)
    · refine z_sub [0, 2] rfl ?_
      exact bk_X3_isGreat_34 F hr k0 hK10 hw
    · refine z_aload_n F dX3_isGreat_22 rfl rfl 0 rfl ?_
      refine z_getR F fl_341 k0 dX3_isGreat_23 rfl ?_
      refine z_iload_n F dX3_isGreat_26 rfl rfl 2 rfl ?_
      have n27 := hw.1
      refine z_aald F 2 (tk_3_1 k0) rfl rfl dX3_isGreat_27 rfl hw (fun hw => ?_)
      refine z_cVbp (As := []) (st := []) F (c_X7_isGreat l g (tka_17 (tk_3_1 k0) n27) hw) cv_X7_isGreat w_813 ⟨rfl, rfl, Nat.le_of_ble_eq_true rfl, Nat.le_of_ble_eq_true rfl⟩ (tka_17 (tk_3_1 k0) n27) rfl rfl (Nat.le_of_ble_eq_true rfl) dX3_isGreat_28 rfl (fun r28 hw => ?_)
      refine z_ifb_eq F dX3_isGreat_31 rfl rfl hw (fun hw => ?_) (fun hw => ?_)
      · refine z_iconst F dX3_isGreat_38 rfl ?_
        refine z_sub [0, 2] rfl ?_
        exact bk_X3_isGreat_39 F hr k0 hK10 hw
      · refine z_sub [0, 2] rfl ?_
        exact bk_X3_isGreat_34 F hr k0 hK10 hw
set_option maxRecDepth 100000 in
set_option maxHeartbeats 4000000 in
theorem lp_X3_isGreat_10 {g : En} {p : Program} {l : Launch} {e : Env} {s : State} {m : MethodId} {args : Array Value} {below : List Frame} {meth : Method} {c : Code} {M : Mem} {a0 : Nat} {Q : Bool → Prop} {x1 : Bool} {x2 : Int} (F : Fx g p s m args meth c cX3_isGreat 3 RX3) (hr : meth.sig.returnType = (some .boolean)) (k0 : kd a0 = 3)
    (hw : wp_X3_isGreat_L10 a0 Q M x1 x2) : Z g p l e rm_X3_isGreat s m args below meth c 3 (MQ below (va_Qi (S := Bool × Mem) (fun r u => r = i3 (bz u.1) ∧ (u.2 = M ∧ Q u.1)) (fun u => Rp g u.2) (aR g)) args s 0 0 (aR g)) M 10 [(0, .ref (g.2.2.1 + a0)), (1, .int (i3 (bz x1))), (2, .int (i3 x2))] [] := by
  obtain ⟨I, μ, h0, hb⟩ := hw
  have key : ∀ (n : Nat) (x1 : Bool) (x2 : Int), I x1 x2 → μ x1 x2 < n → Z g p l e rm_X3_isGreat s m args below meth c 3 (MQ below (va_Qi (S := Bool × Mem) (fun r u => r = i3 (bz u.1) ∧ (u.2 = M ∧ Q u.1)) (fun u => Rp g u.2) (aR g)) args s 0 0 (aR g)) M 10 [(0, .ref (g.2.2.1 + a0)), (1, .int (i3 (bz x1))), (2, .int (i3 x2))] [] := by
    intro n
    induction n with
    | zero => exact fun _ _ _ h => absurd h (Nat.not_lt_zero _)
    | succ n ih =>
      intro x1 x2 hI hn
      exact bk_X3_isGreat_B10 F hr k0 (fun x1' x2' hk => ih x1' x2' hk.1 (Nat.lt_of_lt_of_le hk.2 (Nat.le_of_lt_succ hn))) (hb x1 x2 hI)
  exact key _ x1 x2 h0 (Nat.lt_succ_self _)
set_option maxRecDepth 100000 in
set_option maxHeartbeats 4000000 in
theorem c_X3_isGreat (l : Launch) (g : En) {a0 : Nat} {M : Mem} {Q : Bool → Prop} (k0 : kd a0 = 3) (hw : wp_X3_isGreat a0 M Q) :
    Met l yX3_isGreat (WS yX3_isGreat cX3_isGreat 3 (some .boolean)) rm_X3_isGreat (va_Pc [.ref (g.2.2.1 + a0)] (Rp g M)) (va_Qi (S := Bool × Mem) (fun r u => r = i3 (bz u.1) ∧ (u.2 = M ∧ Q u.1)) (fun u => Rp g u.2) (aR g)) 0 0 (aR g) := by
  refine met_Z (plainFor_of_name rfl) (Nat.le_of_ble_eq_true rfl) ?_
  intro p e s m args below meth c F hr _
  show Z g p l e rm_X3_isGreat s m args below meth c 3 (MQ below (va_Qi (S := Bool × Mem) (fun r u => r = i3 (bz u.1) ∧ (u.2 = M ∧ Q u.1)) (fun u => Rp g u.2) (aR g)) args s 0 0 (aR g)) M 0 [(0, .ref (g.2.2.1 + a0))] []
  refine z_aload_n F dX3_isGreat_0 rfl rfl 0 rfl ?_
  refine z_getR F fl_339 k0 dX3_isGreat_1 rfl ?_
  refine z_cVbp (As := []) (st := []) F (c_X7_isGreat l g (tk_3_0 k0) hw) cv_X7_isGreat w_813 ⟨rfl, rfl, Nat.le_of_ble_eq_true rfl, Nat.le_of_ble_eq_true rfl⟩ (tk_3_0 k0) rfl rfl (Nat.le_of_ble_eq_true rfl) dX3_isGreat_4 rfl (fun r4 hw => ?_)
  refine z_istore_n F dX3_isGreat_7 rfl rfl (by decide) rfl ?_
  refine z_iconst F dX3_isGreat_8 rfl ?_
  refine z_istore_n F dX3_isGreat_9 rfl rfl (by decide) rfl ?_
  refine z_sub [2, 1, 0] rfl ?_
  exact lp_X3_isGreat_10 F hr k0 hw
theorem cv_X3_isGreat : CV yX3_isGreat RX3 cX3_isGreat 3 (some .boolean) 0 := ⟨w_811, w_17, w_75, w_812, rfl, by decide +kernel, by decide +kernel, by decide +kernel⟩
abbrev rm_X3_solve : Room := { frames := 4, cells := 0, slots := 0, locals := 107 }
def wp_X3_solve_B2 (a0 : Nat) (Q : Int → Mem → Prop) (K2 : Mem → Int → Prop) (M : Mem) (x1 : Int) : Prop :=
  (((w32 1000000 ≤ w32 x1) → (
    Q (-7) M)) ∧
  (¬ (w32 1000000 ≤ w32 x1) → (
    wp_X3_findLeaving a0 M (fun r9 =>
    (((¬ w32 r9 = w32 (-1)) → (
      inb (rt a0 1) r9 ∧ (
      wp_X3_findEntering a0 (rt (rt a0 1) (ix r9)) M (fun r27 M27 =>
      (((0 ≤ w32 r27) → (
        wp_X3_exchange a0 r9 r27 M27 (fun M40 =>
        wp_X3_isGreat a0 M40 (fun r44 =>
        ((r44 = false → (
          K2 M40 (x1 + 1))) ∧
        (r44 = true → (
          Q (-7) M40))))))) ∧
      (¬ (0 ≤ w32 r27) → (
        Q r27 M27))))))) ∧
    (¬ (¬ w32 r9 = w32 (-1)) → (
      Q x1 M)))))))
def wp_X3_solve_L2 (a0 : Nat) (Q : Int → Mem → Prop) (M : Mem) (x1 : Int) : Prop :=
  ∃ (I : Mem → Int → Prop) (μ : Mem → Int → Nat), I M x1 ∧ ∀ (M : Mem) (x1 : Int), I M x1 →
    wp_X3_solve_B2 a0 Q (fun M' x1' => I M' x1' ∧ μ M' x1' < μ M x1) M x1
def wp_X3_solve (a0 : Nat) (M : Mem) (Q : Int → Mem → Prop) : Prop :=
  wp_X3_solve_L2 a0 Q M 0
set_option maxRecDepth 100000 in
set_option maxHeartbeats 4000000 in
theorem bk_X3_solve_B2 {g : En} {p : Program} {l : Launch} {e : Env} {s : State} {m : MethodId} {args : Array Value} {below : List Frame} {meth : Method} {c : Code} {M : Mem} {a0 : Nat} {Q : Int → Mem → Prop} {K2 : Mem → Int → Prop} {x1 : Int} (F : Fx g p s m args meth c cX3_solve 4 RX3) (hr : meth.sig.returnType = (some .int)) (k0 : kd a0 = 3)
    (hK2 : ∀ (M' : Mem) (x1' : Int), K2 M' x1' → Z g p l e rm_X3_solve s m args below meth c 4 (MQ below (va_Qi (S := Int × Mem) (fun r u => r = i3 u.1 ∧ Q u.1 u.2) (fun u => Rp g u.2) (aR g)) args s 0 0 (aR g)) M' 2 [(0, .ref (g.2.2.1 + a0)), (1, .int (i3 x1'))] [])
    (hw : wp_X3_solve_B2 a0 Q K2 M x1) : Z g p l e rm_X3_solve s m args below meth c 4 (MQ below (va_Qi (S := Int × Mem) (fun r u => r = i3 u.1 ∧ Q u.1 u.2) (fun u => Rp g u.2) (aR g)) args s 0 0 (aR g)) M 2 [(0, .ref (g.2.2.1 + a0)), (1, .int (i3 x1))] [] := by
  refine z_iload_n F dX3_solve_2 rfl rfl 1 rfl ?_
  refine z_ldc (n := 1000000) F w_777 (by decide) dX3_solve_3 rfl ?_
  refine z_icmp_ge F dX3_solve_5 rfl rfl hw (fun hw => ?_) (fun hw => ?_)
  · refine z_bipush F dX3_solve_59 (by decide) rfl ?_
    exact z_iret (x := (-7)) F hr dX3_solve_61 hw
  · refine z_aload_n F dX3_solve_8 rfl rfl 0 rfl ?_
    refine z_cVip (As := []) (st := []) F (c_X3_findLeaving l g k0 hw) cv_X3_findLeaving w_778 ⟨rfl, rfl, Nat.le_of_ble_eq_true rfl, Nat.le_of_ble_eq_true rfl⟩ k0 rfl rfl (Nat.le_of_ble_eq_true rfl) dX3_solve_9 rfl (fun r9 hw => ?_)
    refine z_istore_n F dX3_solve_12 rfl rfl (by decide) rfl ?_
    refine z_iload_n F dX3_solve_13 rfl rfl 0 rfl ?_
    refine z_iconst F dX3_solve_14 rfl ?_
    refine z_icmp_ne F dX3_solve_15 rfl rfl hw (fun hw => ?_) (fun hw => ?_)
    · refine z_aload_n F dX3_solve_20 rfl rfl 1 rfl ?_
      refine z_aload_n F dX3_solve_21 rfl rfl 1 rfl ?_
      refine z_getR F fl_341 k0 dX3_solve_22 rfl ?_
      refine z_iload_n F dX3_solve_25 rfl rfl 0 rfl ?_
      have n26 := hw.1
      refine z_aald F 2 (tk_3_1 k0) rfl rfl dX3_solve_26 rfl hw (fun hw => ?_)
      refine z_cVi (As := [.ref (g.2.2.1 + (rt (rt a0 1) (ix r9)))]) (st := []) F (c_X3_findEntering l g k0 (tka_17 (tk_3_1 k0) n26) hw) cv_X3_findEntering w_782 ⟨rfl, rfl, Nat.le_of_ble_eq_true rfl, Nat.le_of_ble_eq_true rfl⟩ k0 rfl rfl (Nat.le_of_ble_eq_true rfl) dX3_solve_27 rfl (fun r27 M27 hw => ?_)
      refine z_istore_n F dX3_solve_30 rfl rfl (by decide) rfl ?_
      refine z_iload_n F dX3_solve_31 rfl rfl 0 rfl ?_
      refine z_if_ge F dX3_solve_32 rfl rfl hw (fun hw => ?_) (fun hw => ?_)
      · refine z_aload_n F dX3_solve_37 rfl rfl 2 rfl ?_
        refine z_iload_n F dX3_solve_38 rfl rfl 1 rfl ?_
        refine z_iload_n F dX3_solve_39 rfl rfl 0 rfl ?_
        refine z_cVv (As := [.int (i3 r9), .int (i3 r27)]) (st := []) F (c_X3_exchange l g k0 hw) cv_X3_exchange w_795 ⟨rfl, rfl, Nat.le_of_ble_eq_true rfl, Nat.le_of_ble_eq_true rfl⟩ k0 rfl rfl (Nat.le_of_ble_eq_true rfl) dX3_solve_40 rfl (fun M40 hw => ?_)
        refine z_aload_n F dX3_solve_43 rfl rfl 2 rfl ?_
        refine z_cVbp (As := []) (st := []) F (c_X3_isGreat l g k0 hw) cv_X3_isGreat w_809 ⟨rfl, rfl, Nat.le_of_ble_eq_true rfl, Nat.le_of_ble_eq_true rfl⟩ k0 rfl rfl (Nat.le_of_ble_eq_true rfl) dX3_solve_44 rfl (fun r44 hw => ?_)
        refine z_ifb_eq F dX3_solve_47 rfl rfl hw (fun hw => ?_) (fun hw => ?_)
        · refine z_iinc F dX3_solve_53 rfl 3 rfl (by decide) rfl ?_
          refine z_goto F dX3_solve_56 rfl ?_
          refine z_sub [3, 0] rfl ?_
          exact hK2 M40 (x1 + 1) hw
        · refine z_bipush F dX3_solve_50 (by decide) rfl ?_
          exact z_iret (x := (-7)) F hr dX3_solve_52 hw
      · refine z_iload_n F dX3_solve_35 rfl rfl 0 rfl ?_
        exact z_iret (x := r27) F hr dX3_solve_36 hw
    · refine z_iload_n F dX3_solve_18 rfl rfl 2 rfl ?_
      exact z_iret (x := x1) F hr dX3_solve_19 hw
set_option maxRecDepth 100000 in
set_option maxHeartbeats 4000000 in
theorem lp_X3_solve_2 {g : En} {p : Program} {l : Launch} {e : Env} {s : State} {m : MethodId} {args : Array Value} {below : List Frame} {meth : Method} {c : Code} {M : Mem} {a0 : Nat} {Q : Int → Mem → Prop} {x1 : Int} (F : Fx g p s m args meth c cX3_solve 4 RX3) (hr : meth.sig.returnType = (some .int)) (k0 : kd a0 = 3)
    (hw : wp_X3_solve_L2 a0 Q M x1) : Z g p l e rm_X3_solve s m args below meth c 4 (MQ below (va_Qi (S := Int × Mem) (fun r u => r = i3 u.1 ∧ Q u.1 u.2) (fun u => Rp g u.2) (aR g)) args s 0 0 (aR g)) M 2 [(0, .ref (g.2.2.1 + a0)), (1, .int (i3 x1))] [] := by
  obtain ⟨I, μ, h0, hb⟩ := hw
  have key : ∀ (n : Nat) (M : Mem) (x1 : Int), I M x1 → μ M x1 < n → Z g p l e rm_X3_solve s m args below meth c 4 (MQ below (va_Qi (S := Int × Mem) (fun r u => r = i3 u.1 ∧ Q u.1 u.2) (fun u => Rp g u.2) (aR g)) args s 0 0 (aR g)) M 2 [(0, .ref (g.2.2.1 + a0)), (1, .int (i3 x1))] [] := by
    intro n
    induction n with
    | zero => exact fun _ _ _ h => absurd h (Nat.not_lt_zero _)
    | succ n ih =>
      intro M x1 hI hn
      exact bk_X3_solve_B2 F hr k0 (fun M' x1' hk => ih M' x1' hk.1 (Nat.lt_of_lt_of_le hk.2 (Nat.le_of_lt_succ hn))) (hb M x1 hI)
  exact key _ M x1 h0 (Nat.lt_succ_self _)
set_option maxRecDepth 100000 in
set_option maxHeartbeats 4000000 in
theorem c_X3_solve (l : Launch) (g : En) {a0 : Nat} {M : Mem} {Q : Int → Mem → Prop} (k0 : kd a0 = 3) (hw : wp_X3_solve a0 M Q) :
    Met l yX3_solve (WS yX3_solve cX3_solve 4 (some .int)) rm_X3_solve (va_Pc [.ref (g.2.2.1 + a0)] (Rp g M)) (va_Qi (S := Int × Mem) (fun r u => r = i3 u.1 ∧ Q u.1 u.2) (fun u => Rp g u.2) (aR g)) 0 0 (aR g) := by
  refine met_Z (plainFor_of_name rfl) (Nat.le_of_ble_eq_true rfl) ?_
  intro p e s m args below meth c F hr _
  show Z g p l e rm_X3_solve s m args below meth c 4 (MQ below (va_Qi (S := Int × Mem) (fun r u => r = i3 u.1 ∧ Q u.1 u.2) (fun u => Rp g u.2) (aR g)) args s 0 0 (aR g)) M 0 [(0, .ref (g.2.2.1 + a0))] []
  refine z_iconst F dX3_solve_0 rfl ?_
  refine z_istore_n F dX3_solve_1 rfl rfl (by decide) rfl ?_
  refine z_sub [1, 0] rfl ?_
  exact lp_X3_solve_2 F hr k0 hw
theorem cv_X3_solve : CV yX3_solve RX3 cX3_solve 4 (some .int) 0 := ⟨w_774, w_775, w_75, w_776, rfl, by decide +kernel, by decide +kernel, by decide +kernel⟩
abbrev rm_X3_amountOf : Room := { frames := 2, cells := 0, slots := 0, locals := 55 }
def wp_X3_amountOf_b42 (a0 : Nat) (a2 : Nat) (Q : Mem → Prop) (K8 : Mem → Int → Prop) (M : Mem) (x1 : Int) (x3 : Int) : Prop :=
  K8 M (x3 + 1)
def wp_X3_amountOf_B8 (a0 : Nat) (a2 : Nat) (Q : Mem → Prop) (K8 : Mem → Int → Prop) (M : Mem) (x1 : Int) (x3 : Int) : Prop :=
  (((w32 (M a0 2) ≤ w32 x3) → (
    Q M)) ∧
  (¬ (w32 (M a0 2) ≤ w32 x3) → (
    inb (rt a0 1) x3 ∧ (
    (((¬ w32 (M (rt (rt a0 1) (ix x3)) 0) = w32 x1) → (
      wp_X3_amountOf_b42 a0 a2 Q K8 M x1 x3)) ∧
    (¬ (¬ w32 (M (rt (rt a0 1) (ix x3)) 0) = w32 x1) → (
      inb (rt a0 1) x3 ∧ (
      wp_X4_become_ a2 (rt (rt (rt a0 1) (ix x3)) 1) M (fun M39 =>
      wp_X3_amountOf_b42 a0 a2 Q K8 M39 x1 x3)))))))))
def wp_X3_amountOf_L8 (a0 : Nat) (a2 : Nat) (Q : Mem → Prop) (M : Mem) (x1 : Int) (x3 : Int) : Prop :=
  ∃ (I : Mem → Int → Prop) (μ : Mem → Int → Nat), I M x3 ∧ ∀ (M : Mem) (x3 : Int), I M x3 →
    wp_X3_amountOf_B8 a0 a2 Q (fun M' x3' => I M' x3' ∧ μ M' x3' < μ M x3) M x1 x3
def wp_X3_amountOf (a0 : Nat) (a1 : Int) (a2 : Nat) (M : Mem) (Q : Mem → Prop) : Prop :=
  wp_X4_become a2 0 1 M (fun M3 =>
  wp_X3_amountOf_L8 a0 a2 Q M3 a1 0)
set_option maxRecDepth 100000 in
set_option maxHeartbeats 4000000 in
theorem bk_X3_amountOf_42 {g : En} {p : Program} {l : Launch} {e : Env} {s : State} {m : MethodId} {args : Array Value} {below : List Frame} {meth : Method} {c : Code} {M : Mem} {a0 : Nat} {a2 : Nat} {Q : Mem → Prop} {K8 : Mem → Int → Prop} {x1 : Int} {x3 : Int} (F : Fx g p s m args meth c cX3_amountOf 4 RX3) (hr : meth.sig.returnType = none) (k0 : kd a0 = 3) (k2 : kd a2 = 4)
    (hK8 : ∀ (M' : Mem) (x3' : Int), K8 M' x3' → Z g p l e rm_X3_amountOf s m args below meth c 4 (MQ below (va_Qv (S := Mem) Q (fun u => Rp g u) (aR g)) args s 0 0 (aR g)) M' 8 [(0, .ref (g.2.2.1 + a0)), (1, .int (i3 x1)), (2, .ref (g.2.2.1 + a2)), (3, .int (i3 x3'))] [])
    (hw : wp_X3_amountOf_b42 a0 a2 Q K8 M x1 x3) : Z g p l e rm_X3_amountOf s m args below meth c 4 (MQ below (va_Qv (S := Mem) Q (fun u => Rp g u) (aR g)) args s 0 0 (aR g)) M 42 [(0, .ref (g.2.2.1 + a0)), (1, .int (i3 x1)), (2, .ref (g.2.2.1 + a2)), (3, .int (i3 x3))] [] := by
  refine z_iinc F dX3_amountOf_42 rfl 3 rfl (by decide) rfl ?_
  refine z_goto F dX3_amountOf_45 rfl ?_
  refine z_sub [1, 2, 3, 0] rfl ?_
  exact hK8 M (x3 + 1) hw
set_option maxRecDepth 100000 in
set_option maxHeartbeats 4000000 in
theorem bk_X3_amountOf_B8 {g : En} {p : Program} {l : Launch} {e : Env} {s : State} {m : MethodId} {args : Array Value} {below : List Frame} {meth : Method} {c : Code} {M : Mem} {a0 : Nat} {a2 : Nat} {Q : Mem → Prop} {K8 : Mem → Int → Prop} {x1 : Int} {x3 : Int} (F : Fx g p s m args meth c cX3_amountOf 4 RX3) (hr : meth.sig.returnType = none) (k0 : kd a0 = 3) (k2 : kd a2 = 4)
    (hK8 : ∀ (M' : Mem) (x3' : Int), K8 M' x3' → Z g p l e rm_X3_amountOf s m args below meth c 4 (MQ below (va_Qv (S := Mem) Q (fun u => Rp g u) (aR g)) args s 0 0 (aR g)) M' 8 [(0, .ref (g.2.2.1 + a0)), (1, .int (i3 x1)), (2, .ref (g.2.2.1 + a2)), (3, .int (i3 x3'))] [])
    (hw : wp_X3_amountOf_B8 a0 a2 Q K8 M x1 x3) : Z g p l e rm_X3_amountOf s m args below meth c 4 (MQ below (va_Qv (S := Mem) Q (fun u => Rp g u) (aR g)) args s 0 0 (aR g)) M 8 [(0, .ref (g.2.2.1 + a0)), (1, .int (i3 x1)), (2, .ref (g.2.2.1 + a2)), (3, .int (i3 x3))] [] := by
  refine z_iload_n F dX3_amountOf_8 rfl rfl 3 rfl ?_
  refine z_aload_n F dX3_amountOf_9 rfl rfl 0 rfl ?_
  refine z_getI F fl_342 k0 dX3_amountOf_10 rfl ?_
  refine z_icmp_ge F dX3_amountOf_13 rfl rfl hw (fun hw => ?_) (fun hw => ?_)
  · exact z_vret F hr dX3_amountOf_48 hw
  · refine z_aload_n F dX3_amountOf_16 rfl rfl 0 rfl ?_
    refine z_getR F fl_341 k0 dX3_amountOf_17 rfl ?_
    refine z_iload_n F dX3_amountOf_20 rfl rfl 3 rfl ?_
    have n21 := hw.1
    refine z_aald F 2 (tk_3_1 k0) rfl rfl dX3_amountOf_21 rfl hw (fun hw => ?_)
    refine z_getI F fl_323 (tka_17 (tk_3_1 k0) n21) dX3_amountOf_22 rfl ?_
    refine z_iload_n F dX3_amountOf_25 rfl rfl 1 rfl ?_
    refine z_icmp_ne F dX3_amountOf_26 rfl rfl hw (fun hw => ?_) (fun hw => ?_)
    · refine z_sub [0, 1, 2, 3] rfl ?_
      exact bk_X3_amountOf_42 F hr k0 k2 hK8 hw
    · refine z_aload_n F dX3_amountOf_29 rfl rfl 2 rfl ?_
      refine z_aload_n F dX3_amountOf_30 rfl rfl 0 rfl ?_
      refine z_getR F fl_341 k0 dX3_amountOf_31 rfl ?_
      refine z_iload_n F dX3_amountOf_34 rfl rfl 3 rfl ?_
      have n35 := hw.1
      refine z_aald F 2 (tk_3_1 k0) rfl rfl dX3_amountOf_35 rfl hw (fun hw => ?_)
      refine z_getR F fl_325 (tka_17 (tk_3_1 k0) n35) dX3_amountOf_36 rfl ?_
      refine z_cVv (As := [.ref (g.2.2.1 + (rt (rt (rt a0 1) (ix x3)) 1))]) (st := []) F (c_X4_become_ l g k2 (tk_7_1 (tka_17 (tk_3_1 k0) n35)) hw) cv_X4_become_ w_786 ⟨rfl, rfl, Nat.le_of_ble_eq_true rfl, Nat.le_of_ble_eq_true rfl⟩ k2 rfl rfl (Nat.le_of_ble_eq_true rfl) dX3_amountOf_39 rfl (fun M39 hw => ?_)
      refine z_sub [0, 1, 2, 3] rfl ?_
      exact bk_X3_amountOf_42 F hr k0 k2 hK8 hw
set_option maxRecDepth 100000 in
set_option maxHeartbeats 4000000 in
theorem lp_X3_amountOf_8 {g : En} {p : Program} {l : Launch} {e : Env} {s : State} {m : MethodId} {args : Array Value} {below : List Frame} {meth : Method} {c : Code} {M : Mem} {a0 : Nat} {a2 : Nat} {Q : Mem → Prop} {x1 : Int} {x3 : Int} (F : Fx g p s m args meth c cX3_amountOf 4 RX3) (hr : meth.sig.returnType = none) (k0 : kd a0 = 3) (k2 : kd a2 = 4)
    (hw : wp_X3_amountOf_L8 a0 a2 Q M x1 x3) : Z g p l e rm_X3_amountOf s m args below meth c 4 (MQ below (va_Qv (S := Mem) Q (fun u => Rp g u) (aR g)) args s 0 0 (aR g)) M 8 [(0, .ref (g.2.2.1 + a0)), (1, .int (i3 x1)), (2, .ref (g.2.2.1 + a2)), (3, .int (i3 x3))] [] := by
  obtain ⟨I, μ, h0, hb⟩ := hw
  have key : ∀ (n : Nat) (M : Mem) (x3 : Int), I M x3 → μ M x3 < n → Z g p l e rm_X3_amountOf s m args below meth c 4 (MQ below (va_Qv (S := Mem) Q (fun u => Rp g u) (aR g)) args s 0 0 (aR g)) M 8 [(0, .ref (g.2.2.1 + a0)), (1, .int (i3 x1)), (2, .ref (g.2.2.1 + a2)), (3, .int (i3 x3))] [] := by
    intro n
    induction n with
    | zero => exact fun _ _ _ h => absurd h (Nat.not_lt_zero _)
    | succ n ih =>
      intro M x3 hI hn
      exact bk_X3_amountOf_B8 F hr k0 k2 (fun M' x3' hk => ih M' x3' hk.1 (Nat.lt_of_lt_of_le hk.2 (Nat.le_of_lt_succ hn))) (hb M x3 hI)
  exact key _ M x3 h0 (Nat.lt_succ_self _)
set_option maxRecDepth 100000 in
set_option maxHeartbeats 4000000 in
theorem c_X3_amountOf (l : Launch) (g : En) {a0 : Nat} {a1 : Int} {a2 : Nat} {M : Mem} {Q : Mem → Prop} (k0 : kd a0 = 3) (k2 : kd a2 = 4) (hw : wp_X3_amountOf a0 a1 a2 M Q) :
    Met l yX3_amountOf (WS yX3_amountOf cX3_amountOf 4 none) rm_X3_amountOf (va_Pc [.ref (g.2.2.1 + a0), .int (i3 a1), .ref (g.2.2.1 + a2)] (Rp g M)) (va_Qv (S := Mem) Q (fun u => Rp g u) (aR g)) 0 0 (aR g) := by
  refine met_Z (plainFor_of_name rfl) (Nat.le_of_ble_eq_true rfl) ?_
  intro p e s m args below meth c F hr _
  show Z g p l e rm_X3_amountOf s m args below meth c 4 (MQ below (va_Qv (S := Mem) Q (fun u => Rp g u) (aR g)) args s 0 0 (aR g)) M 0 [(0, .ref (g.2.2.1 + a0)), (1, .int (i3 a1)), (2, .ref (g.2.2.1 + a2))] []
  refine z_aload_n F dX3_amountOf_0 rfl rfl 2 rfl ?_
  refine z_lconst (v := 0) F dX3_amountOf_1 rfl rfl ?_
  refine z_lconst (v := 1) F dX3_amountOf_2 rfl rfl ?_
  refine z_cVv (As := [.long (i6 0), .long (i6 1)]) (st := []) F (c_X4_become l g k2 hw) cv_X4_become w_747 ⟨rfl, rfl, Nat.le_of_ble_eq_true rfl, Nat.le_of_ble_eq_true rfl⟩ k2 rfl rfl (Nat.le_of_ble_eq_true rfl) dX3_amountOf_3 rfl (fun M3 hw => ?_)
  refine z_iconst F dX3_amountOf_6 rfl ?_
  refine z_istore_n F dX3_amountOf_7 rfl rfl (by decide) rfl ?_
  refine z_sub [1, 2, 3, 0] rfl ?_
  exact lp_X3_amountOf_8 F hr k0 k2 hw
theorem cv_X3_amountOf : CV yX3_amountOf RX3 cX3_amountOf 4 none 2 := ⟨w_822, w_823, w_75, w_824, rfl, by decide +kernel, by decide +kernel, by decide +kernel⟩
abbrev rm_X3_priceOf : Room := { frames := 2, cells := 0, slots := 0, locals := 55 }
def wp_X3_priceOf_b39 (a0 : Nat) (a2 : Nat) (Q : Mem → Prop) (K8 : Mem → Int → Prop) (M : Mem) (x1 : Int) (x3 : Int) : Prop :=
  K8 M (x3 + 1)
def wp_X3_priceOf_B8 (a0 : Nat) (a2 : Nat) (Q : Mem → Prop) (K8 : Mem → Int → Prop) (M : Mem) (x1 : Int) (x3 : Int) : Prop :=
  (((w32 (M a0 4) ≤ w32 x3) → (
    Q M)) ∧
  (¬ (w32 (M a0 4) ≤ w32 x3) → (
    inb (rt a0 3) x3 ∧ (
    (((¬ w32 (M (rt a0 3) (ix x3)) = w32 x1) → (
      wp_X3_priceOf_b39 a0 a2 Q K8 M x1 x3)) ∧
    (¬ (¬ w32 (M (rt a0 3) (ix x3)) = w32 x1) → (
      inb (rt (rt a0 0) 2) x3 ∧ (
      wp_X4_become_ a2 (rt (rt (rt a0 0) 2) (ix x3)) M (fun M36 =>
      wp_X3_priceOf_b39 a0 a2 Q K8 M36 x1 x3)))))))))
def wp_X3_priceOf_L8 (a0 : Nat) (a2 : Nat) (Q : Mem → Prop) (M : Mem) (x1 : Int) (x3 : Int) : Prop :=
  ∃ (I : Mem → Int → Prop) (μ : Mem → Int → Nat), I M x3 ∧ ∀ (M : Mem) (x3 : Int), I M x3 →
    wp_X3_priceOf_B8 a0 a2 Q (fun M' x3' => I M' x3' ∧ μ M' x3' < μ M x3) M x1 x3
def wp_X3_priceOf (a0 : Nat) (a1 : Int) (a2 : Nat) (M : Mem) (Q : Mem → Prop) : Prop :=
  wp_X4_become a2 0 1 M (fun M3 =>
  wp_X3_priceOf_L8 a0 a2 Q M3 a1 0)
set_option maxRecDepth 100000 in
set_option maxHeartbeats 4000000 in
theorem bk_X3_priceOf_39 {g : En} {p : Program} {l : Launch} {e : Env} {s : State} {m : MethodId} {args : Array Value} {below : List Frame} {meth : Method} {c : Code} {M : Mem} {a0 : Nat} {a2 : Nat} {Q : Mem → Prop} {K8 : Mem → Int → Prop} {x1 : Int} {x3 : Int} (F : Fx g p s m args meth c cX3_priceOf 4 RX3) (hr : meth.sig.returnType = none) (k0 : kd a0 = 3) (k2 : kd a2 = 4)
    (hK8 : ∀ (M' : Mem) (x3' : Int), K8 M' x3' → Z g p l e rm_X3_priceOf s m args below meth c 4 (MQ below (va_Qv (S := Mem) Q (fun u => Rp g u) (aR g)) args s 0 0 (aR g)) M' 8 [(0, .ref (g.2.2.1 + a0)), (1, .int (i3 x1)), (2, .ref (g.2.2.1 + a2)), (3, .int (i3 x3'))] [])
    (hw : wp_X3_priceOf_b39 a0 a2 Q K8 M x1 x3) : Z g p l e rm_X3_priceOf s m args below meth c 4 (MQ below (va_Qv (S := Mem) Q (fun u => Rp g u) (aR g)) args s 0 0 (aR g)) M 39 [(0, .ref (g.2.2.1 + a0)), (1, .int (i3 x1)), (2, .ref (g.2.2.1 + a2)), (3, .int (i3 x3))] [] := by
  refine z_iinc F dX3_priceOf_39 rfl 3 rfl (by decide) rfl ?_
  refine z_goto F dX3_priceOf_42 rfl ?_
  refine z_sub [1, 2, 3, 0] rfl ?_
  exact hK8 M (x3 + 1) hw
set_option maxRecDepth 100000 in
set_option maxHeartbeats 4000000 in
theorem bk_X3_priceOf_B8 {g : En} {p : Program} {l : Launch} {e : Env} {s : State} {m : MethodId} {args : Array Value} {below : List Frame} {meth : Method} {c : Code} {M : Mem} {a0 : Nat} {a2 : Nat} {Q : Mem → Prop} {K8 : Mem → Int → Prop} {x1 : Int} {x3 : Int} (F : Fx g p s m args meth c cX3_priceOf 4 RX3) (hr : meth.sig.returnType = none) (k0 : kd a0 = 3) (k2 : kd a2 = 4)
    (hK8 : ∀ (M' : Mem) (x3' : Int), K8 M' x3' → Z g p l e rm_X3_priceOf s m args below meth c 4 (MQ below (va_Qv (S := Mem) Q (fun u => Rp g u) (aR g)) args s 0 0 (aR g)) M' 8 [(0, .ref (g.2.2.1 + a0)), (1, .int (i3 x1)), (2, .ref (g.2.2.1 + a2)), (3, .int (i3 x3'))] [])
    (hw : wp_X3_priceOf_B8 a0 a2 Q K8 M x1 x3) : Z g p l e rm_X3_priceOf s m args below meth c 4 (MQ below (va_Qv (S := Mem) Q (fun u => Rp g u) (aR g)) args s 0 0 (aR g)) M 8 [(0, .ref (g.2.2.1 + a0)), (1, .int (i3 x1)), (2, .ref (g.2.2.1 + a2)), (3, .int (i3 x3))] [] := by
  refine z_iload_n F dX3_priceOf_8 rfl rfl 3 rfl ?_
  refine z_aload_n F dX3_priceOf_9 rfl rfl 0 rfl ?_
  refine z_getI F fl_344 k0 dX3_priceOf_10 rfl ?_
  refine z_icmp_ge F dX3_priceOf_13 rfl rfl hw (fun hw => ?_) (fun hw => ?_)
  · exact z_vret F hr dX3_priceOf_45 hw
  · refine z_aload_n F dX3_priceOf_16 rfl rfl 0 rfl ?_
    refine z_getR F fl_343 k0 dX3_priceOf_17 rfl ?_
    refine z_iload_n F dX3_priceOf_20 rfl rfl 3 rfl ?_
    refine z_iald F (tk_3_3 k0) dX3_priceOf_21 rfl hw (fun hw => ?_)
    refine z_iload_n F dX3_priceOf_22 rfl rfl 1 rfl ?_
    refine z_icmp_ne F dX3_priceOf_23 rfl rfl hw (fun hw => ?_) (fun hw => ?_)
    · refine z_sub [0, 1, 2, 3] rfl ?_
      exact bk_X3_priceOf_39 F hr k0 k2 hK8 hw
    · refine z_aload_n F dX3_priceOf_26 rfl rfl 2 rfl ?_
      refine z_aload_n F dX3_priceOf_27 rfl rfl 0 rfl ?_
      refine z_getR F fl_339 k0 dX3_priceOf_28 rfl ?_
      refine z_getR F fl_328 (tk_3_0 k0) dX3_priceOf_31 rfl ?_
      refine z_iload_n F dX3_priceOf_34 rfl rfl 3 rfl ?_
      have n35 := hw.1
      refine z_aald F 1 (tk_7_2 (tk_3_0 k0)) rfl rfl dX3_priceOf_35 rfl hw (fun hw => ?_)
      refine z_cVv (As := [.ref (g.2.2.1 + (rt (rt (rt a0 0) 2) (ix x3)))]) (st := []) F (c_X4_become_ l g k2 (tka_16 (tk_7_2 (tk_3_0 k0)) n35) hw) cv_X4_become_ w_786 ⟨rfl, rfl, Nat.le_of_ble_eq_true rfl, Nat.le_of_ble_eq_true rfl⟩ k2 rfl rfl (Nat.le_of_ble_eq_true rfl) dX3_priceOf_36 rfl (fun M36 hw => ?_)
      refine z_sub [0, 1, 2, 3] rfl ?_
      exact bk_X3_priceOf_39 F hr k0 k2 hK8 hw
set_option maxRecDepth 100000 in
set_option maxHeartbeats 4000000 in
theorem lp_X3_priceOf_8 {g : En} {p : Program} {l : Launch} {e : Env} {s : State} {m : MethodId} {args : Array Value} {below : List Frame} {meth : Method} {c : Code} {M : Mem} {a0 : Nat} {a2 : Nat} {Q : Mem → Prop} {x1 : Int} {x3 : Int} (F : Fx g p s m args meth c cX3_priceOf 4 RX3) (hr : meth.sig.returnType = none) (k0 : kd a0 = 3) (k2 : kd a2 = 4)
    (hw : wp_X3_priceOf_L8 a0 a2 Q M x1 x3) : Z g p l e rm_X3_priceOf s m args below meth c 4 (MQ below (va_Qv (S := Mem) Q (fun u => Rp g u) (aR g)) args s 0 0 (aR g)) M 8 [(0, .ref (g.2.2.1 + a0)), (1, .int (i3 x1)), (2, .ref (g.2.2.1 + a2)), (3, .int (i3 x3))] [] := by
  obtain ⟨I, μ, h0, hb⟩ := hw
  have key : ∀ (n : Nat) (M : Mem) (x3 : Int), I M x3 → μ M x3 < n → Z g p l e rm_X3_priceOf s m args below meth c 4 (MQ below (va_Qv (S := Mem) Q (fun u => Rp g u) (aR g)) args s 0 0 (aR g)) M 8 [(0, .ref (g.2.2.1 + a0)), (1, .int (i3 x1)), (2, .ref (g.2.2.1 + a2)), (3, .int (i3 x3))] [] := by
    intro n
    induction n with
    | zero => exact fun _ _ _ h => absurd h (Nat.not_lt_zero _)
    | succ n ih =>
      intro M x3 hI hn
      exact bk_X3_priceOf_B8 F hr k0 k2 (fun M' x3' hk => ih M' x3' hk.1 (Nat.lt_of_lt_of_le hk.2 (Nat.le_of_lt_succ hn))) (hb M x3 hI)
  exact key _ M x3 h0 (Nat.lt_succ_self _)
set_option maxRecDepth 100000 in
set_option maxHeartbeats 4000000 in
theorem c_X3_priceOf (l : Launch) (g : En) {a0 : Nat} {a1 : Int} {a2 : Nat} {M : Mem} {Q : Mem → Prop} (k0 : kd a0 = 3) (k2 : kd a2 = 4) (hw : wp_X3_priceOf a0 a1 a2 M Q) :
    Met l yX3_priceOf (WS yX3_priceOf cX3_priceOf 4 none) rm_X3_priceOf (va_Pc [.ref (g.2.2.1 + a0), .int (i3 a1), .ref (g.2.2.1 + a2)] (Rp g M)) (va_Qv (S := Mem) Q (fun u => Rp g u) (aR g)) 0 0 (aR g) := by
  refine met_Z (plainFor_of_name rfl) (Nat.le_of_ble_eq_true rfl) ?_
  intro p e s m args below meth c F hr _
  show Z g p l e rm_X3_priceOf s m args below meth c 4 (MQ below (va_Qv (S := Mem) Q (fun u => Rp g u) (aR g)) args s 0 0 (aR g)) M 0 [(0, .ref (g.2.2.1 + a0)), (1, .int (i3 a1)), (2, .ref (g.2.2.1 + a2))] []
  refine z_aload_n F dX3_priceOf_0 rfl rfl 2 rfl ?_
  refine z_lconst (v := 0) F dX3_priceOf_1 rfl rfl ?_
  refine z_lconst (v := 1) F dX3_priceOf_2 rfl rfl ?_
  refine z_cVv (As := [.long (i6 0), .long (i6 1)]) (st := []) F (c_X4_become l g k2 hw) cv_X4_become w_747 ⟨rfl, rfl, Nat.le_of_ble_eq_true rfl, Nat.le_of_ble_eq_true rfl⟩ k2 rfl rfl (Nat.le_of_ble_eq_true rfl) dX3_priceOf_3 rfl (fun M3 hw => ?_)
  refine z_iconst F dX3_priceOf_6 rfl ?_
  refine z_istore_n F dX3_priceOf_7 rfl rfl (by decide) rfl ?_
  refine z_sub [1, 2, 3, 0] rfl ?_
  exact lp_X3_priceOf_8 F hr k0 k2 hw
theorem cv_X3_priceOf : CV yX3_priceOf RX3 cX3_priceOf 4 none 2 := ⟨w_830, w_831, w_75, w_832, rfl, by decide +kernel, by decide +kernel, by decide +kernel⟩
abbrev rm_X3_prove : Room := { frames := 3, cells := 0, slots := 0, locals := 78 }
def wp_X3_prove_b55 (a0 : Nat) (a2 : Nat) (a3 : Nat) (Q : Mem → Prop) (K14 : Mem → Int → Prop) (M : Mem) (x1 : Int) (x4 : Int) : Prop :=
  wp_X3_priceOf a0 (20 + x4) (rt a0 6) M (fun M65 =>
  wp_X4_negate (rt a0 6) M65 (fun M72 =>
  wp_X3_priceOf a0 (10 + x4) (rt a0 7) M72 (fun M85 =>
  wp_X4_add (rt a0 7) (rt a0 6) M85 (fun M96 =>
  wp_X4_add a3 (rt a0 7) M96 (fun M104 =>
  K14 M104 (x4 + (-1)))))))
def wp_X3_prove_B14 (a0 : Nat) (a2 : Nat) (a3 : Nat) (Q : Mem → Prop) (K14 : Mem → Int → Prop) (M : Mem) (x1 : Int) (x4 : Int) : Prop :=
  (((w32 x4 < w32 x1) → (
    Q M)) ∧
  (¬ (w32 x4 < w32 x1) → (
    (((w32 ((M a2 0) - 1) ≤ w32 x4) → (
      wp_X3_prove_b55 a0 a2 a3 Q K14 M x1 x4)) ∧
    (¬ (w32 ((M a2 0) - 1) ≤ w32 x4) → (
      inb (rt a2 3) (x4 + 1) ∧ (
      wp_X4_becomeFactor (rt a0 5) (M (rt a2 3) (ix (x4 + 1))) M (fun M44 =>
      wp_X4_multiply a3 (rt a0 5) M44 (fun M52 =>
      wp_X3_prove_b55 a0 a2 a3 Q K14 M52 x1 x4)))))))))
def wp_X3_prove_L14 (a0 : Nat) (a2 : Nat) (a3 : Nat) (Q : Mem → Prop) (M : Mem) (x1 : Int) (x4 : Int) : Prop :=
  ∃ (I : Mem → Int → Prop) (μ : Mem → Int → Nat), I M x4 ∧ ∀ (M : Mem) (x4 : Int), I M x4 →
    wp_X3_prove_B14 a0 a2 a3 Q (fun M' x4' => I M' x4' ∧ μ M' x4' < μ M x4) M x1 x4
def wp_X3_prove (a0 : Nat) (a1 : Int) (a2 : Nat) (a3 : Nat) (M : Mem) (Q : Mem → Prop) : Prop :=
  wp_X4_become a3 0 1 M (fun M3 =>
  wp_X3_prove_L14 a0 a2 a3 Q M3 a1 ((M3 a2 0) - 1))
set_option maxRecDepth 100000 in
set_option maxHeartbeats 4000000 in
theorem bk_X3_prove_55 {g : En} {p : Program} {l : Launch} {e : Env} {s : State} {m : MethodId} {args : Array Value} {below : List Frame} {meth : Method} {c : Code} {M : Mem} {a0 : Nat} {a2 : Nat} {a3 : Nat} {Q : Mem → Prop} {K14 : Mem → Int → Prop} {x1 : Int} {x4 : Int} (F : Fx g p s m args meth c cX3_prove 5 RX3) (hr : meth.sig.returnType = none) (k0 : kd a0 = 3) (k2 : kd a2 = 8) (k3 : kd a3 = 4)
    (hK14 : ∀ (M' : Mem) (x4' : Int), K14 M' x4' → Z g p l e rm_X3_prove s m args below meth c 5 (MQ below (va_Qv (S := Mem) Q (fun u => Rp g u) (aR g)) args s 0 0 (aR g)) M' 14 [(0, .ref (g.2.2.1 + a0)), (1, .int (i3 x1)), (2, .ref (g.2.2.1 + a2)), (3, .ref (g.2.2.1 + a3)), (4, .int (i3 x4'))] [])
    (hw : wp_X3_prove_b55 a0 a2 a3 Q K14 M x1 x4) : Z g p l e rm_X3_prove s m args below meth c 5 (MQ below (va_Qv (S := Mem) Q (fun u => Rp g u) (aR g)) args s 0 0 (aR g)) M 55 [(0, .ref (g.2.2.1 + a0)), (1, .int (i3 x1)), (2, .ref (g.2.2.1 + a2)), (3, .ref (g.2.2.1 + a3)), (4, .int (i3 x4))] [] := by
  refine z_aload_n F dX3_prove_55 rfl rfl 0 rfl ?_
  refine z_bipush F dX3_prove_56 (by decide) rfl ?_
  refine z_iload F dX3_prove_58 rfl 4 rfl ?_
  refine z_iadd F dX3_prove_60 rfl ?_
  refine z_aload_n F dX3_prove_61 rfl rfl 0 rfl ?_
  refine z_getR F fl_346 k0 dX3_prove_62 rfl ?_
  refine z_cVv (As := [.int (i3 (20 + x4)), .ref (g.2.2.1 + (rt a0 6))]) (st := []) F (c_X3_priceOf l g k0 (tk_3_6 k0) hw) cv_X3_priceOf w_837 ⟨rfl, rfl, Nat.le_of_ble_eq_true rfl, Nat.le_of_ble_eq_true rfl⟩ k0 rfl rfl (Nat.le_of_ble_eq_true rfl) dX3_prove_65 rfl (fun M65 hw => ?_)
  refine z_aload_n F dX3_prove_68 rfl rfl 0 rfl ?_
  refine z_getR F fl_346 k0 dX3_prove_69 rfl ?_
  refine z_cVv (As := []) (st := []) F (c_X4_negate l g (tk_3_6 k0) hw) cv_X4_negate w_803 ⟨rfl, rfl, Nat.le_of_ble_eq_true rfl, Nat.le_of_ble_eq_true rfl⟩ (tk_3_6 k0) rfl rfl (Nat.le_of_ble_eq_true rfl) dX3_prove_72 rfl (fun M72 hw => ?_)
  refine z_aload_n F dX3_prove_75 rfl rfl 0 rfl ?_
  refine z_bipush F dX3_prove_76 (by decide) rfl ?_
  refine z_iload F dX3_prove_78 rfl 4 rfl ?_
  refine z_iadd F dX3_prove_80 rfl ?_
  refine z_aload_n F dX3_prove_81 rfl rfl 0 rfl ?_
  refine z_getR F fl_347 k0 dX3_prove_82 rfl ?_
  refine z_cVv (As := [.int (i3 (10 + x4)), .ref (g.2.2.1 + (rt a0 7))]) (st := []) F (c_X3_priceOf l g k0 (tk_3_7 k0) hw) cv_X3_priceOf w_837 ⟨rfl, rfl, Nat.le_of_ble_eq_true rfl, Nat.le_of_ble_eq_true rfl⟩ k0 rfl rfl (Nat.le_of_ble_eq_true rfl) dX3_prove_85 rfl (fun M85 hw => ?_)
  refine z_aload_n F dX3_prove_88 rfl rfl 0 rfl ?_
  refine z_getR F fl_347 k0 dX3_prove_89 rfl ?_
  refine z_aload_n F dX3_prove_92 rfl rfl 0 rfl ?_
  refine z_getR F fl_346 k0 dX3_prove_93 rfl ?_
  refine z_cVv (As := [.ref (g.2.2.1 + (rt a0 6))]) (st := []) F (c_X4_add l g (tk_3_7 k0) (tk_3_6 k0) hw) cv_X4_add w_763 ⟨rfl, rfl, Nat.le_of_ble_eq_true rfl, Nat.le_of_ble_eq_true rfl⟩ (tk_3_7 k0) rfl rfl (Nat.le_of_ble_eq_true rfl) dX3_prove_96 rfl (fun M96 hw => ?_)
  refine z_aload_n F dX3_prove_99 rfl rfl 3 rfl ?_
  refine z_aload_n F dX3_prove_100 rfl rfl 0 rfl ?_
  refine z_getR F fl_347 k0 dX3_prove_101 rfl ?_
  refine z_cVv (As := [.ref (g.2.2.1 + (rt a0 7))]) (st := []) F (c_X4_add l g k3 (tk_3_7 k0) hw) cv_X4_add w_763 ⟨rfl, rfl, Nat.le_of_ble_eq_true rfl, Nat.le_of_ble_eq_true rfl⟩ k3 rfl rfl (Nat.le_of_ble_eq_true rfl) dX3_prove_104 rfl (fun M104 hw => ?_)
  refine z_iinc F dX3_prove_107 rfl 4 rfl (by decide) rfl ?_
  refine z_goto F dX3_prove_110 rfl ?_
  refine z_sub [1, 2, 3, 4, 0] rfl ?_
  exact hK14 M104 (x4 + (-1)) hw
set_option maxRecDepth 100000 in
set_option maxHeartbeats 4000000 in
theorem bk_X3_prove_B14 {g : En} {p : Program} {l : Launch} {e : Env} {s : State} {m : MethodId} {args : Array Value} {below : List Frame} {meth : Method} {c : Code} {M : Mem} {a0 : Nat} {a2 : Nat} {a3 : Nat} {Q : Mem → Prop} {K14 : Mem → Int → Prop} {x1 : Int} {x4 : Int} (F : Fx g p s m args meth c cX3_prove 5 RX3) (hr : meth.sig.returnType = none) (k0 : kd a0 = 3) (k2 : kd a2 = 8) (k3 : kd a3 = 4)
    (hK14 : ∀ (M' : Mem) (x4' : Int), K14 M' x4' → Z g p l e rm_X3_prove s m args below meth c 5 (MQ below (va_Qv (S := Mem) Q (fun u => Rp g u) (aR g)) args s 0 0 (aR g)) M' 14 [(0, .ref (g.2.2.1 + a0)), (1, .int (i3 x1)), (2, .ref (g.2.2.1 + a2)), (3, .ref (g.2.2.1 + a3)), (4, .int (i3 x4'))] [])
    (hw : wp_X3_prove_B14 a0 a2 a3 Q K14 M x1 x4) : Z g p l e rm_X3_prove s m args below meth c 5 (MQ below (va_Qv (S := Mem) Q (fun u => Rp g u) (aR g)) args s 0 0 (aR g)) M 14 [(0, .ref (g.2.2.1 + a0)), (1, .int (i3 x1)), (2, .ref (g.2.2.1 + a2)), (3, .ref (g.2.2.1 + a3)), (4, .int (i3 x4))] [] := by
  refine z_iload F dX3_prove_14 rfl 4 rfl ?_
  refine z_iload_n F dX3_prove_16 rfl rfl 1 rfl ?_
  refine z_icmp_lt F dX3_prove_17 rfl rfl hw (fun hw => ?_) (fun hw => ?_)
  · exact z_vret F hr dX3_prove_113 hw
  · refine z_iload F dX3_prove_20 rfl 4 rfl ?_
    refine z_aload_n F dX3_prove_22 rfl rfl 2 rfl ?_
    refine z_getI F fl_195 k2 dX3_prove_23 rfl ?_
    refine z_iconst F dX3_prove_26 rfl ?_
    refine z_isub F dX3_prove_27 rfl ?_
    refine z_icmp_ge F dX3_prove_28 rfl rfl hw (fun hw => ?_) (fun hw => ?_)
    · refine z_sub [0, 1, 2, 3, 4] rfl ?_
      exact bk_X3_prove_55 F hr k0 k2 k3 hK14 hw
    · refine z_aload_n F dX3_prove_31 rfl rfl 0 rfl ?_
      refine z_getR F fl_345 k0 dX3_prove_32 rfl ?_
      refine z_aload_n F dX3_prove_35 rfl rfl 2 rfl ?_
      refine z_getR F fl_210 k2 dX3_prove_36 rfl ?_
      refine z_iload F dX3_prove_39 rfl 4 rfl ?_
      refine z_iconst F dX3_prove_41 rfl ?_
      refine z_iadd F dX3_prove_42 rfl ?_
      refine z_iald F (tk_8_3 k2) dX3_prove_43 rfl hw (fun hw => ?_)
      refine z_cVv (As := [.int (i3 (M (rt a2 3) (ix (x4 + 1))))]) (st := []) F (c_X4_becomeFactor l g (tk_3_5 k0) hw) cv_X4_becomeFactor w_757 ⟨rfl, rfl, Nat.le_of_ble_eq_true rfl, Nat.le_of_ble_eq_true rfl⟩ (tk_3_5 k0) rfl rfl (Nat.le_of_ble_eq_true rfl) dX3_prove_44 rfl (fun M44 hw => ?_)
      refine z_aload_n F dX3_prove_47 rfl rfl 3 rfl ?_
      refine z_aload_n F dX3_prove_48 rfl rfl 0 rfl ?_
      refine z_getR F fl_345 k0 dX3_prove_49 rfl ?_
      refine z_cVv (As := [.ref (g.2.2.1 + (rt a0 5))]) (st := []) F (c_X4_multiply l g k3 (tk_3_5 k0) hw) cv_X4_multiply w_808 ⟨rfl, rfl, Nat.le_of_ble_eq_true rfl, Nat.le_of_ble_eq_true rfl⟩ k3 rfl rfl (Nat.le_of_ble_eq_true rfl) dX3_prove_52 rfl (fun M52 hw => ?_)
      refine z_sub [0, 1, 2, 3, 4] rfl ?_
      exact bk_X3_prove_55 F hr k0 k2 k3 hK14 hw
set_option maxRecDepth 100000 in
set_option maxHeartbeats 4000000 in
theorem lp_X3_prove_14 {g : En} {p : Program} {l : Launch} {e : Env} {s : State} {m : MethodId} {args : Array Value} {below : List Frame} {meth : Method} {c : Code} {M : Mem} {a0 : Nat} {a2 : Nat} {a3 : Nat} {Q : Mem → Prop} {x1 : Int} {x4 : Int} (F : Fx g p s m args meth c cX3_prove 5 RX3) (hr : meth.sig.returnType = none) (k0 : kd a0 = 3) (k2 : kd a2 = 8) (k3 : kd a3 = 4)
    (hw : wp_X3_prove_L14 a0 a2 a3 Q M x1 x4) : Z g p l e rm_X3_prove s m args below meth c 5 (MQ below (va_Qv (S := Mem) Q (fun u => Rp g u) (aR g)) args s 0 0 (aR g)) M 14 [(0, .ref (g.2.2.1 + a0)), (1, .int (i3 x1)), (2, .ref (g.2.2.1 + a2)), (3, .ref (g.2.2.1 + a3)), (4, .int (i3 x4))] [] := by
  obtain ⟨I, μ, h0, hb⟩ := hw
  have key : ∀ (n : Nat) (M : Mem) (x4 : Int), I M x4 → μ M x4 < n → Z g p l e rm_X3_prove s m args below meth c 5 (MQ below (va_Qv (S := Mem) Q (fun u => Rp g u) (aR g)) args s 0 0 (aR g)) M 14 [(0, .ref (g.2.2.1 + a0)), (1, .int (i3 x1)), (2, .ref (g.2.2.1 + a2)), (3, .ref (g.2.2.1 + a3)), (4, .int (i3 x4))] [] := by
    intro n
    induction n with
    | zero => exact fun _ _ _ h => absurd h (Nat.not_lt_zero _)
    | succ n ih =>
      intro M x4 hI hn
      exact bk_X3_prove_B14 F hr k0 k2 k3 (fun M' x4' hk => ih M' x4' hk.1 (Nat.lt_of_lt_of_le hk.2 (Nat.le_of_lt_succ hn))) (hb M x4 hI)
  exact key _ M x4 h0 (Nat.lt_succ_self _)
set_option maxRecDepth 100000 in
set_option maxHeartbeats 4000000 in
theorem c_X3_prove (l : Launch) (g : En) {a0 : Nat} {a1 : Int} {a2 : Nat} {a3 : Nat} {M : Mem} {Q : Mem → Prop} (k0 : kd a0 = 3) (k2 : kd a2 = 8) (k3 : kd a3 = 4) (hw : wp_X3_prove a0 a1 a2 a3 M Q) :
    Met l yX3_prove (WS yX3_prove cX3_prove 5 none) rm_X3_prove (va_Pc [.ref (g.2.2.1 + a0), .int (i3 a1), .ref (g.2.2.1 + a2), .ref (g.2.2.1 + a3)] (Rp g M)) (va_Qv (S := Mem) Q (fun u => Rp g u) (aR g)) 0 0 (aR g) := by
  refine met_Z (plainFor_of_name rfl) (Nat.le_of_ble_eq_true rfl) ?_
  intro p e s m args below meth c F hr _
  show Z g p l e rm_X3_prove s m args below meth c 5 (MQ below (va_Qv (S := Mem) Q (fun u => Rp g u) (aR g)) args s 0 0 (aR g)) M 0 [(0, .ref (g.2.2.1 + a0)), (1, .int (i3 a1)), (2, .ref (g.2.2.1 + a2)), (3, .ref (g.2.2.1 + a3))] []
  refine z_aload_n F dX3_prove_0 rfl rfl 3 rfl ?_
  refine z_lconst (v := 0) F dX3_prove_1 rfl rfl ?_
  refine z_lconst (v := 1) F dX3_prove_2 rfl rfl ?_
  refine z_cVv (As := [.long (i6 0), .long (i6 1)]) (st := []) F (c_X4_become l g k3 hw) cv_X4_become w_747 ⟨rfl, rfl, Nat.le_of_ble_eq_true rfl, Nat.le_of_ble_eq_true rfl⟩ k3 rfl rfl (Nat.le_of_ble_eq_true rfl) dX3_prove_3 rfl (fun M3 hw => ?_)
  refine z_aload_n F dX3_prove_6 rfl rfl 2 rfl ?_
  refine z_getI F fl_195 k2 dX3_prove_7 rfl ?_
  refine z_iconst F dX3_prove_10 rfl ?_
  refine z_isub F dX3_prove_11 rfl ?_
  refine z_istore F dX3_prove_12 rfl (by decide) rfl ?_
  refine z_sub [1, 2, 3, 4, 0] rfl ?_
  exact lp_X3_prove_14 F hr k0 k2 k3 hw
theorem cv_X3_prove : CV yX3_prove RX3 cX3_prove 5 none 3 := ⟨w_834, w_835, w_75, w_836, rfl, by decide +kernel, by decide +kernel, by decide +kernel⟩
abbrev rm_X4_part : Room := { frames := 0, cells := 0, slots := 0, locals := 0 }
def wp_X4_part (a0 : Nat) (a1 : Int) (M : Mem) (Q : Int → Prop) : Prop :=
  (((fb M a0 2) = false → (
    (((¬ w32 a1 = 0) → (
      Q (M a0 1))) ∧
    (¬ (¬ w32 a1 = 0) → (
      Q (M a0 0)))))) ∧
  ((fb M a0 2) = true → (
    Q (-9223372036854775808))))
set_option maxRecDepth 100000 in
set_option maxHeartbeats 4000000 in
theorem c_X4_part (l : Launch) (g : En) {a0 : Nat} {a1 : Int} {M : Mem} {Q : Int → Prop} (k0 : kd a0 = 4) (hw : wp_X4_part a0 a1 M Q) :
    Met l yX4_part (WS yX4_part cX4_part 2 (some .long)) rm_X4_part (va_Pc [.ref (g.2.2.1 + a0), .int (i3 a1)] (Rp g M)) (va_Ql (S := Int × Mem) (fun r u => r = i6 u.1 ∧ (u.2 = M ∧ Q u.1)) (fun u => Rp g u.2) (aR g)) 0 0 (aR g) := by
  refine met_Z (plainFor_of_name rfl) (Nat.le_of_ble_eq_true rfl) ?_
  intro p e s m args below meth c F hr _
  show Z g p l e rm_X4_part s m args below meth c 2 (MQ below (va_Ql (S := Int × Mem) (fun r u => r = i6 u.1 ∧ (u.2 = M ∧ Q u.1)) (fun u => Rp g u.2) (aR g)) args s 0 0 (aR g)) M 0 [(0, .ref (g.2.2.1 + a0)), (1, .int (i3 a1))] []
  refine z_aload_n F dX4_part_0 rfl rfl 0 rfl ?_
  refine z_getB F fl_270 k0 dX4_part_1 rfl ?_
  refine z_ifb_eq F dX4_part_4 rfl rfl hw (fun hw => ?_) (fun hw => ?_)
  · refine z_iload_n F dX4_part_11 rfl rfl 1 rfl ?_
    refine z_if_ne F dX4_part_12 rfl rfl hw (fun hw => ?_) (fun hw => ?_)
    · refine z_aload_n F dX4_part_22 rfl rfl 0 rfl ?_
      refine z_getL F fl_269 k0 dX4_part_23 rfl ?_
      exact z_lretp (x := (M a0 1)) F hr dX4_part_26 hw
    · refine z_aload_n F dX4_part_15 rfl rfl 0 rfl ?_
      refine z_getL F fl_266 k0 dX4_part_16 rfl ?_
      refine z_goto F dX4_part_19 rfl ?_
      exact z_lretp (x := (M a0 0)) F hr dX4_part_26 hw
  · refine z_ldc2 (n := (-9223372036854775808)) F w_673 (by decide) dX4_part_7 rfl ?_
    exact z_lretp (x := (-9223372036854775808)) F hr dX4_part_10 hw
theorem cv_X4_part : CV yX4_part RX4 cX4_part 2 (some .long) 1 := ⟨w_696, w_697, w_74, w_698, rfl, by decide +kernel, by decide +kernel, by decide +kernel⟩
abbrev rm_J6_compare_7cf53 : Room := { frames := 0, cells := 0, slots := 0, locals := 0 }
def wp_J6_compare_7cf53 (a0 : Int) (a1 : Int) (M : Mem) (Q : Int → Prop) : Prop :=
  (((w32 a1 ≤ w32 a0) → (
    (((¬ w32 a0 = w32 a1) → (
      Q 1)) ∧
    (¬ (¬ w32 a0 = w32 a1) → (
      Q 0))))) ∧
  (¬ (w32 a1 ≤ w32 a0) → (
    Q (-1))))
set_option maxRecDepth 100000 in
set_option maxHeartbeats 4000000 in
theorem c_J6_compare_7cf53 (l : Launch) (g : En) {a0 : Int} {a1 : Int} {M : Mem} {Q : Int → Prop} (hw : wp_J6_compare_7cf53 a0 a1 M Q) :
    Met l yJ6_compare_7cf53 (WS yJ6_compare_7cf53 cJ6_compare_7cf53 2 (some .int)) rm_J6_compare_7cf53 (va_Pc [.int (i3 a0), .int (i3 a1)] (Rp g M)) (va_Qi (S := Int × Mem) (fun r u => r = i3 u.1 ∧ (u.2 = M ∧ Q u.1)) (fun u => Rp g u.2) (aR g)) 0 0 (aR g) := by
  refine met_Z (plainFor_of_name rfl) (Nat.le_of_ble_eq_true rfl) ?_
  intro p e s m args below meth c F hr _
  show Z g p l e rm_J6_compare_7cf53 s m args below meth c 2 (MQ below (va_Qi (S := Int × Mem) (fun r u => r = i3 u.1 ∧ (u.2 = M ∧ Q u.1)) (fun u => Rp g u.2) (aR g)) args s 0 0 (aR g)) M 0 [(0, .int (i3 a0)), (1, .int (i3 a1))] []
  refine z_iload_n F dJ6_compare_7cf53_0 rfl rfl 0 rfl ?_
  refine z_iload_n F dJ6_compare_7cf53_1 rfl rfl 1 rfl ?_
  refine z_icmp_ge F dJ6_compare_7cf53_2 rfl rfl hw (fun hw => ?_) (fun hw => ?_)
  · refine z_iload_n F dJ6_compare_7cf53_9 rfl rfl 0 rfl ?_
    refine z_iload_n F dJ6_compare_7cf53_10 rfl rfl 1 rfl ?_
    refine z_icmp_ne F dJ6_compare_7cf53_11 rfl rfl hw (fun hw => ?_) (fun hw => ?_)
    · refine z_iconst F dJ6_compare_7cf53_18 rfl ?_
      exact z_iretp (x := 1) F hr dJ6_compare_7cf53_19 hw
    · refine z_iconst F dJ6_compare_7cf53_14 rfl ?_
      refine z_goto F dJ6_compare_7cf53_15 rfl ?_
      exact z_iretp (x := 0) F hr dJ6_compare_7cf53_19 hw
  · refine z_iconst F dJ6_compare_7cf53_5 rfl ?_
    refine z_goto F dJ6_compare_7cf53_6 rfl ?_
    exact z_iretp (x := (-1)) F hr dJ6_compare_7cf53_19 hw
theorem cs_J6_compare_7cf53 : CS yJ6_compare_7cf53 cJ6_compare_7cf53 2 (some .int) 2 := ⟨w_632, w_81, w_633, by decide +kernel, by decide +kernel, by decide +kernel⟩
abbrev rm_X5_compareRich : Room := { frames := 1, cells := 0, slots := 0, locals := 21 }
def wp_X5_compareRich_b26  (Q : Int → Prop) (M : Mem) (s0 : Bool) (s1 : Bool) : Prop :=
  wp_J6_compare_7cf53 (bz s0) (bz s1) M (fun r26 =>
  Q r26)
def wp_X5_compareRich_b17  (Q : Int → Prop) (M : Mem) (s0 : Bool) (x3 : Int) : Prop :=
  (((¬ w32 x3 = 0) → (
    wp_X5_compareRich_b26 Q M s0 false)) ∧
  (¬ (¬ w32 x3 = 0) → (
    wp_X5_compareRich_b26 Q M s0 true)))
def wp_X5_compareRich_b8  (Q : Int → Prop) (M : Mem) (x1 : Int) (x3 : Int) : Prop :=
  (((¬ w32 x1 = 0) → (
    wp_X5_compareRich_b17 Q M false x3)) ∧
  (¬ (¬ w32 x1 = 0) → (
    wp_X5_compareRich_b17 Q M true x3)))
def wp_X5_compareRich (a0 : Int) (a1 : Int) (a2 : Int) (a3 : Int) (M : Mem) (Q : Int → Prop) : Prop :=
  (((w32 a1 = 0) → (
    wp_X5_compareRich_b8 Q M a1 a3)) ∧
  (¬ (w32 a1 = 0) → (
    (((¬ w32 a3 = 0) → (
      wp_J6_compare_7cf53 (a0 * a3) (a2 * a1) M (fun r36 =>
      Q r36))) ∧
    (¬ (¬ w32 a3 = 0) → (
      wp_X5_compareRich_b8 Q M a1 a3))))))
set_option maxRecDepth 100000 in
set_option maxHeartbeats 4000000 in
theorem bk_X5_compareRich_26 {g : En} {p : Program} {l : Launch} {e : Env} {s : State} {m : MethodId} {args : Array Value} {below : List Frame} {meth : Method} {c : Code} {M : Mem} {Q : Int → Prop} {s0 : Bool} {s1 : Bool} (F : Fx g p s m args meth c cX5_compareRich 4 RX5) (hr : meth.sig.returnType = (some .int))
    (hw : wp_X5_compareRich_b26 Q M s0 s1) : Z g p l e rm_X5_compareRich s m args below meth c 4 (MQ below (va_Qi (S := Int × Mem) (fun r u => r = i3 u.1 ∧ (u.2 = M ∧ Q u.1)) (fun u => Rp g u.2) (aR g)) args s 0 0 (aR g)) M 26 [] [.int (i3 (bz s1)), .int (i3 (bz s0))] := by
  refine z_cSip (As := [.int (i3 (bz s0)), .int (i3 (bz s1))]) (st := []) F (c_J6_compare_7cf53 l g hw) cs_J6_compare_7cf53 w_631 ⟨rfl, rfl, Nat.le_of_ble_eq_true rfl, Nat.le_of_ble_eq_true rfl⟩ rfl (Nat.le_of_ble_eq_true rfl) dX5_compareRich_26 rfl (fun r26 hw => ?_)
  exact z_iretp (x := r26) F hr dX5_compareRich_29 hw
set_option maxRecDepth 100000 in
set_option maxHeartbeats 4000000 in
theorem bk_X5_compareRich_17 {g : En} {p : Program} {l : Launch} {e : Env} {s : State} {m : MethodId} {args : Array Value} {below : List Frame} {meth : Method} {c : Code} {M : Mem} {Q : Int → Prop} {s0 : Bool} {x3 : Int} (F : Fx g p s m args meth c cX5_compareRich 4 RX5) (hr : meth.sig.returnType = (some .int))
    (hw : wp_X5_compareRich_b17 Q M s0 x3) : Z g p l e rm_X5_compareRich s m args below meth c 4 (MQ below (va_Qi (S := Int × Mem) (fun r u => r = i3 u.1 ∧ (u.2 = M ∧ Q u.1)) (fun u => Rp g u.2) (aR g)) args s 0 0 (aR g)) M 17 [(3, .int (i3 x3))] [.int (i3 (bz s0))] := by
  refine z_iload_n F dX5_compareRich_17 rfl rfl 0 rfl ?_
  refine z_if_ne F dX5_compareRich_18 rfl rfl hw (fun hw => ?_) (fun hw => ?_)
  · refine z_iconst F dX5_compareRich_25 rfl ?_
    refine z_sub [] rfl ?_
    exact bk_X5_compareRich_26 F hr  hw
  · refine z_iconst F dX5_compareRich_21 rfl ?_
    refine z_goto F dX5_compareRich_22 rfl ?_
    refine z_sub [] rfl ?_
    exact bk_X5_compareRich_26 F hr  hw
set_option maxRecDepth 100000 in
set_option maxHeartbeats 4000000 in
theorem bk_X5_compareRich_8 {g : En} {p : Program} {l : Launch} {e : Env} {s : State} {m : MethodId} {args : Array Value} {below : List Frame} {meth : Method} {c : Code} {M : Mem} {Q : Int → Prop} {x1 : Int} {x3 : Int} (F : Fx g p s m args meth c cX5_compareRich 4 RX5) (hr : meth.sig.returnType = (some .int))
    (hw : wp_X5_compareRich_b8 Q M x1 x3) : Z g p l e rm_X5_compareRich s m args below meth c 4 (MQ below (va_Qi (S := Int × Mem) (fun r u => r = i3 u.1 ∧ (u.2 = M ∧ Q u.1)) (fun u => Rp g u.2) (aR g)) args s 0 0 (aR g)) M 8 [(1, .int (i3 x1)), (3, .int (i3 x3))] [] := by
  refine z_iload_n F dX5_compareRich_8 rfl rfl 0 rfl ?_
  refine z_if_ne F dX5_compareRich_9 rfl rfl hw (fun hw => ?_) (fun hw => ?_)
  · refine z_iconst F dX5_compareRich_16 rfl ?_
    refine z_sub [1] rfl ?_
    exact bk_X5_compareRich_17 F hr  hw
  · refine z_iconst F dX5_compareRich_12 rfl ?_
    refine z_goto F dX5_compareRich_13 rfl ?_
    refine z_sub [1] rfl ?_
    exact bk_X5_compareRich_17 F hr  hw
set_option maxRecDepth 100000 in
set_option maxHeartbeats 4000000 in
theorem c_X5_compareRich (l : Launch) (g : En) {a0 : Int} {a1 : Int} {a2 : Int} {a3 : Int} {M : Mem} {Q : Int → Prop} (hw : wp_X5_compareRich a0 a1 a2 a3 M Q) :
    Met l yX5_compareRich (WS yX5_compareRich cX5_compareRich 4 (some .int)) rm_X5_compareRich (va_Pc [.int (i3 a0), .int (i3 a1), .int (i3 a2), .int (i3 a3)] (Rp g M)) (va_Qi (S := Int × Mem) (fun r u => r = i3 u.1 ∧ (u.2 = M ∧ Q u.1)) (fun u => Rp g u.2) (aR g)) 0 0 (aR g) := by
  refine met_Z (plainFor_of_name rfl) (Nat.le_of_ble_eq_true rfl) ?_
  intro p e s m args below meth c F hr _
  show Z g p l e rm_X5_compareRich s m args below meth c 4 (MQ below (va_Qi (S := Int × Mem) (fun r u => r = i3 u.1 ∧ (u.2 = M ∧ Q u.1)) (fun u => Rp g u.2) (aR g)) args s 0 0 (aR g)) M 0 [(0, .int (i3 a0)), (1, .int (i3 a1)), (2, .int (i3 a2)), (3, .int (i3 a3))] []
  refine z_iload_n F dX5_compareRich_0 rfl rfl 1 rfl ?_
  refine z_if_eq F dX5_compareRich_1 rfl rfl hw (fun hw => ?_) (fun hw => ?_)
  · refine z_sub [1, 3] rfl ?_
    exact bk_X5_compareRich_8 F hr  hw
  · refine z_iload_n F dX5_compareRich_4 rfl rfl 3 rfl ?_
    refine z_if_ne F dX5_compareRich_5 rfl rfl hw (fun hw => ?_) (fun hw => ?_)
    · refine z_iload_n F dX5_compareRich_30 rfl rfl 0 rfl ?_
      refine z_iload_n F dX5_compareRich_31 rfl rfl 3 rfl ?_
      refine z_imul F dX5_compareRich_32 rfl ?_
      refine z_iload_n F dX5_compareRich_33 rfl rfl 2 rfl ?_
      refine z_iload_n F dX5_compareRich_34 rfl rfl 1 rfl ?_
      refine z_imul F dX5_compareRich_35 rfl ?_
      refine z_cSip (As := [.int (i3 (a0 * a3)), .int (i3 (a2 * a1))]) (st := []) F (c_J6_compare_7cf53 l g hw) cs_J6_compare_7cf53 w_631 ⟨rfl, rfl, Nat.le_of_ble_eq_true rfl, Nat.le_of_ble_eq_true rfl⟩ rfl (Nat.le_of_ble_eq_true rfl) dX5_compareRich_36 rfl (fun r36 hw => ?_)
      exact z_iretp (x := r36) F hr dX5_compareRich_39 hw
    · refine z_sub [1, 3] rfl ?_
      exact bk_X5_compareRich_8 F hr  hw
theorem cs_X5_compareRich : CS yX5_compareRich cX5_compareRich 4 (some .int) 4 := ⟨w_635, w_77, w_636, by decide +kernel, by decide +kernel, by decide +kernel⟩
abbrev rm_X5_compare : Room := { frames := 2, cells := 0, slots := 0, locals := 44 }
def wp_X5_compare (a0 : Int) (a1 : Int) (a2 : Int) (a3 : Nat) (a4 : Nat) (M : Mem) (Q : Int → Prop) : Prop :=
  inb (rt a3 3) a1 ∧ (
  inb (rt a3 3) a2 ∧ (
  ((w32 a0 = 0 → (
    wp_J6_compare_7cf53 (M (rt (rt a3 3) (ix a1)) 1) (M (rt (rt a3 3) (ix a2)) 1) M (fun r54 =>
    Q r54))) ∧
  (w32 a0 = 1 → (
    inb (rt a4 9) a1 ∧ (
    inb (rt a4 9) a2 ∧ (
    wp_X5_compareRich (M (rt (rt a3 3) (ix a1)) 1) (M (rt a4 9) (ix a1)) (M (rt (rt a3 3) (ix a2)) 1) (M (rt a4 9) (ix a2)) M (fun r82 =>
    Q r82))))) ∧
  (w32 a0 = 2 → (
    wp_J6_compare_7cf53 (M (rt (rt a3 3) (ix a2)) 4) (M (rt (rt a3 3) (ix a1)) 4) M (fun r96 =>
    Q r96))) ∧
  ((w32 a0 < 0 ∨ 2 < w32 a0) → (
    wp_J6_compare_7cf53 (M (rt (rt a3 3) (ix a2)) 2) (M (rt (rt a3 3) (ix a1)) 2) M (fun r110 =>
    Q r110))))))
set_option maxRecDepth 100000 in
set_option maxHeartbeats 4000000 in
theorem c_X5_compare (l : Launch) (g : En) {a0 : Int} {a1 : Int} {a2 : Int} {a3 : Nat} {a4 : Nat} {M : Mem} {Q : Int → Prop} (k3 : kd a3 = 1) (k4 : kd a4 = 8) (hw : wp_X5_compare a0 a1 a2 a3 a4 M Q) :
    Met l yX5_compare (WS yX5_compare cX5_compare 7 (some .int)) rm_X5_compare (va_Pc [.int (i3 a0), .int (i3 a1), .int (i3 a2), .ref (g.2.2.1 + a3), .ref (g.2.2.1 + a4)] (Rp g M)) (va_Qi (S := Int × Mem) (fun r u => r = i3 u.1 ∧ (u.2 = M ∧ Q u.1)) (fun u => Rp g u.2) (aR g)) 0 0 (aR g) := by
  refine met_Z (plainFor_of_name rfl) (Nat.le_of_ble_eq_true rfl) ?_
  intro p e s m args below meth c F hr _
  show Z g p l e rm_X5_compare s m args below meth c 7 (MQ below (va_Qi (S := Int × Mem) (fun r u => r = i3 u.1 ∧ (u.2 = M ∧ Q u.1)) (fun u => Rp g u.2) (aR g)) args s 0 0 (aR g)) M 0 [(0, .int (i3 a0)), (1, .int (i3 a1)), (2, .int (i3 a2)), (3, .ref (g.2.2.1 + a3)), (4, .ref (g.2.2.1 + a4))] []
  refine z_aload_n F dX5_compare_0 rfl rfl 3 rfl ?_
  refine z_getR F fl_167 k3 dX5_compare_1 rfl ?_
  refine z_iload_n F dX5_compare_4 rfl rfl 1 rfl ?_
  have n5 := hw.1
  refine z_aald F 0 (tk_1_3 k3) rfl rfl dX5_compare_5 rfl hw (fun hw => ?_)
  refine z_astore F dX5_compare_6 rfl (by decide) rfl ?_
  refine z_aload_n F dX5_compare_8 rfl rfl 4 rfl ?_
  refine z_getR F fl_167 k3 dX5_compare_9 rfl ?_
  refine z_iload_n F dX5_compare_12 rfl rfl 3 rfl ?_
  have n13 := hw.1
  refine z_aald F 0 (tk_1_3 k3) rfl rfl dX5_compare_13 rfl hw (fun hw => ?_)
  refine z_astore F dX5_compare_14 rfl (by decide) rfl ?_
  refine z_iload_n F dX5_compare_16 rfl rfl 2 rfl ?_
  by_cases e17_0 : w32 a0 = 0
  · refine z_swcase F 0 dX5_compare_17 e17_0 (by decide) (by decide) rfl rfl ?_
    have hw := hw.1 e17_0
    refine z_aload F dX5_compare_44 rfl 1 rfl ?_
    refine z_getI F fl_129 (tka_15 (tk_1_3 k3) n5) dX5_compare_46 rfl ?_
    refine z_aload F dX5_compare_49 rfl 0 rfl ?_
    refine z_getI F fl_129 (tka_15 (tk_1_3 k3) n13) dX5_compare_51 rfl ?_
    refine z_cSip (As := [.int (i3 (M (rt (rt a3 3) (ix a1)) 1)), .int (i3 (M (rt (rt a3 3) (ix a2)) 1))]) (st := []) F (c_J6_compare_7cf53 l g hw) cs_J6_compare_7cf53 w_631 ⟨rfl, rfl, Nat.le_of_ble_eq_true rfl, Nat.le_of_ble_eq_true rfl⟩ rfl (Nat.le_of_ble_eq_true rfl) dX5_compare_54 rfl (fun r54 hw => ?_)
    exact z_iretp (x := r54) F hr dX5_compare_57 hw
  · skip
    by_cases e17_1 : w32 a0 = 1
    · refine z_swcase F 1 dX5_compare_17 e17_1 (by decide) (by decide) rfl rfl ?_
      have hw := hw.2.1 e17_1
      refine z_aload F dX5_compare_58 rfl 1 rfl ?_
      refine z_getI F fl_129 (tka_15 (tk_1_3 k3) n5) dX5_compare_60 rfl ?_
      refine z_aload F dX5_compare_63 rfl 6 rfl ?_
      refine z_getR F fl_226 k4 dX5_compare_65 rfl ?_
      refine z_iload_n F dX5_compare_68 rfl rfl 3 rfl ?_
      refine z_iald F (tk_8_9 k4) dX5_compare_69 rfl hw (fun hw => ?_)
      refine z_aload F dX5_compare_70 rfl 0 rfl ?_
      refine z_getI F fl_129 (tka_15 (tk_1_3 k3) n13) dX5_compare_72 rfl ?_
      refine z_aload F dX5_compare_75 rfl 6 rfl ?_
      refine z_getR F fl_226 k4 dX5_compare_77 rfl ?_
      refine z_iload_n F dX5_compare_80 rfl rfl 4 rfl ?_
      refine z_iald F (tk_8_9 k4) dX5_compare_81 rfl hw (fun hw => ?_)
      refine z_cSip (As := [.int (i3 (M (rt (rt a3 3) (ix a1)) 1)), .int (i3 (M (rt a4 9) (ix a1))), .int (i3 (M (rt (rt a3 3) (ix a2)) 1)), .int (i3 (M (rt a4 9) (ix a2)))]) (st := []) F (c_X5_compareRich l g hw) cs_X5_compareRich w_634 ⟨rfl, rfl, Nat.le_of_ble_eq_true rfl, Nat.le_of_ble_eq_true rfl⟩ rfl (Nat.le_of_ble_eq_true rfl) dX5_compare_82 rfl (fun r82 hw => ?_)
      exact z_iretp (x := r82) F hr dX5_compare_85 hw
    · skip
      by_cases e17_2 : w32 a0 = 2
      · refine z_swcase F 2 dX5_compare_17 e17_2 (by decide) (by decide) rfl rfl ?_
        have hw := hw.2.2.1 e17_2
        refine z_aload F dX5_compare_86 rfl 0 rfl ?_
        refine z_getI F fl_135 (tka_15 (tk_1_3 k3) n13) dX5_compare_88 rfl ?_
        refine z_aload F dX5_compare_91 rfl 1 rfl ?_
        refine z_getI F fl_135 (tka_15 (tk_1_3 k3) n5) dX5_compare_93 rfl ?_
        refine z_cSip (As := [.int (i3 (M (rt (rt a3 3) (ix a2)) 4)), .int (i3 (M (rt (rt a3 3) (ix a1)) 4))]) (st := []) F (c_J6_compare_7cf53 l g hw) cs_J6_compare_7cf53 w_631 ⟨rfl, rfl, Nat.le_of_ble_eq_true rfl, Nat.le_of_ble_eq_true rfl⟩ rfl (Nat.le_of_ble_eq_true rfl) dX5_compare_96 rfl (fun r96 hw => ?_)
        exact z_iretp (x := r96) F hr dX5_compare_99 hw
      · skip
        have h9 : w32 a0 < 0 ∨ 2 < w32 a0 := by omega
        refine z_swout F dX5_compare_17 h9 rfl ?_
        have hw := hw.2.2.2 h9
        refine z_aload F dX5_compare_100 rfl 0 rfl ?_
        refine z_getI F fl_132 (tka_15 (tk_1_3 k3) n13) dX5_compare_102 rfl ?_
        refine z_aload F dX5_compare_105 rfl 1 rfl ?_
        refine z_getI F fl_132 (tka_15 (tk_1_3 k3) n5) dX5_compare_107 rfl ?_
        refine z_cSip (As := [.int (i3 (M (rt (rt a3 3) (ix a2)) 2)), .int (i3 (M (rt (rt a3 3) (ix a1)) 2))]) (st := []) F (c_J6_compare_7cf53 l g hw) cs_J6_compare_7cf53 w_631 ⟨rfl, rfl, Nat.le_of_ble_eq_true rfl, Nat.le_of_ble_eq_true rfl⟩ rfl (Nat.le_of_ble_eq_true rfl) dX5_compare_110 rfl (fun r110 hw => ?_)
        exact z_iretp (x := r110) F hr dX5_compare_113 hw
theorem cs_X5_compare : CS yX5_compare cX5_compare 7 (some .int) 5 := ⟨w_629, w_77, w_630, by decide +kernel, by decide +kernel, by decide +kernel⟩
abbrev rm_X5_rank : Room := { frames := 3, cells := 0, slots := 0, locals := 70 }
def wp_X5_rank_b63 (a0 : Nat) (a2 : Nat) (a3 : Nat) (Q : Mem → Prop) (K3 : Mem → Int → Prop) (M : Mem) (x1 : Int) (x4 : Int) (x5 : Int) : Prop :=
  inb (rt a0 0) x5 ∧ (
  ∀ M71 : Mem, M71 = st2 M (rt a0 0) (ix x5) x4 →
  K3 M71 (x4 + 1))
def wp_X5_rank_B16 (a0 : Nat) (a2 : Nat) (a3 : Nat) (Q : Mem → Prop) (K16 : Mem → Int → Prop) (K3 : Mem → Int → Prop) (M : Mem) (x1 : Int) (x4 : Int) (x5 : Int) : Prop :=
  (((w32 x5 ≤ 0) → (
    wp_X5_rank_b63 a0 a2 a3 Q K3 M x1 x4 x5)) ∧
  (¬ (w32 x5 ≤ 0) → (
    inb (rt a0 0) (x5 - 1) ∧ (
    wp_X5_compare x1 x4 (M (rt a0 0) (ix (x5 - 1))) a2 a3 M (fun r35 =>
    (((0 ≤ w32 r35) → (
      wp_X5_rank_b63 a0 a2 a3 Q K3 M x1 x4 x5)) ∧
    (¬ (0 ≤ w32 r35) → (
      inb (rt a0 0) (x5 - 1) ∧ (
      inb (rt a0 0) x5 ∧ (
      ∀ M56 : Mem, M56 = st2 M (rt a0 0) (ix x5) (M (rt a0 0) (ix (x5 - 1))) →
      K16 M56 (x5 + (-1))))))))))))
def wp_X5_rank_L16 (a0 : Nat) (a2 : Nat) (a3 : Nat) (Q : Mem → Prop) (K3 : Mem → Int → Prop) (M : Mem) (x1 : Int) (x4 : Int) (x5 : Int) : Prop :=
  ∃ (I : Mem → Int → Prop) (μ : Mem → Int → Nat), I M x5 ∧ ∀ (M : Mem) (x5 : Int), I M x5 →
    wp_X5_rank_B16 a0 a2 a3 Q (fun M' x5' => I M' x5' ∧ μ M' x5' < μ M x5) K3 M x1 x4 x5
def wp_X5_rank_B3 (a0 : Nat) (a2 : Nat) (a3 : Nat) (Q : Mem → Prop) (K3 : Mem → Int → Prop) (M : Mem) (x1 : Int) (x4 : Int) : Prop :=
  (((w32 (M a2 4) ≤ w32 x4) → (
    Q M)) ∧
  (¬ (w32 (M a2 4) ≤ w32 x4) → (
    wp_X5_rank_L16 a0 a2 a3 Q K3 M x1 x4 x4)))
def wp_X5_rank_L3 (a0 : Nat) (a2 : Nat) (a3 : Nat) (Q : Mem → Prop) (M : Mem) (x1 : Int) (x4 : Int) : Prop :=
  ∃ (I : Mem → Int → Prop) (μ : Mem → Int → Nat), I M x4 ∧ ∀ (M : Mem) (x4 : Int), I M x4 →
    wp_X5_rank_B3 a0 a2 a3 Q (fun M' x4' => I M' x4' ∧ μ M' x4' < μ M x4) M x1 x4
def wp_X5_rank (a0 : Nat) (a1 : Int) (a2 : Nat) (a3 : Nat) (M : Mem) (Q : Mem → Prop) : Prop :=
  wp_X5_rank_L3 a0 a2 a3 Q M a1 0
set_option maxRecDepth 100000 in
set_option maxHeartbeats 4000000 in
theorem bk_X5_rank_63 {g : En} {p : Program} {l : Launch} {e : Env} {s : State} {m : MethodId} {args : Array Value} {below : List Frame} {meth : Method} {c : Code} {M : Mem} {a0 : Nat} {a2 : Nat} {a3 : Nat} {Q : Mem → Prop} {K3 : Mem → Int → Prop} {x1 : Int} {x4 : Int} {x5 : Int} (F : Fx g p s m args meth c cX5_rank 6 RX5) (hr : meth.sig.returnType = none) (k0 : kd a0 = 5) (k2 : kd a2 = 1) (k3 : kd a3 = 8)
    (hK3 : ∀ (M' : Mem) (x4' : Int), K3 M' x4' → Z g p l e rm_X5_rank s m args below meth c 6 (MQ below (va_Qv (S := Mem) Q (fun u => Rp g u) (aR g)) args s 0 0 (aR g)) M' 3 [(0, .ref (g.2.2.1 + a0)), (1, .int (i3 x1)), (2, .ref (g.2.2.1 + a2)), (3, .ref (g.2.2.1 + a3)), (4, .int (i3 x4'))] [])
    (hw : wp_X5_rank_b63 a0 a2 a3 Q K3 M x1 x4 x5) : Z g p l e rm_X5_rank s m args below meth c 6 (MQ below (va_Qv (S := Mem) Q (fun u => Rp g u) (aR g)) args s 0 0 (aR g)) M 63 [(0, .ref (g.2.2.1 + a0)), (1, .int (i3 x1)), (2, .ref (g.2.2.1 + a2)), (3, .ref (g.2.2.1 + a3)), (4, .int (i3 x4)), (5, .int (i3 x5))] [] := by
  refine z_aload_n F dX5_rank_63 rfl rfl 0 rfl ?_
  refine z_getR F fl_374 k0 dX5_rank_64 rfl ?_
  refine z_iload F dX5_rank_67 rfl 5 rfl ?_
  refine z_iload F dX5_rank_69 rfl 4 rfl ?_
  refine z_iast F (tk_5_0 k0) dX5_rank_71 rfl hw (fun hw => ?_)
  refine z_nmM (fun M71 eM71 => ?_)
  have hw := hw M71 eM71
  refine z_iinc F dX5_rank_72 rfl 4 rfl (by decide) rfl ?_
  refine z_goto F dX5_rank_75 rfl ?_
  refine z_sub [1, 2, 3, 4, 0] rfl ?_
  exact hK3 M71 (x4 + 1) hw
set_option maxRecDepth 100000 in
set_option maxHeartbeats 4000000 in
theorem bk_X5_rank_B16 {g : En} {p : Program} {l : Launch} {e : Env} {s : State} {m : MethodId} {args : Array Value} {below : List Frame} {meth : Method} {c : Code} {M : Mem} {a0 : Nat} {a2 : Nat} {a3 : Nat} {Q : Mem → Prop} {K16 : Mem → Int → Prop} {K3 : Mem → Int → Prop} {x1 : Int} {x4 : Int} {x5 : Int} (F : Fx g p s m args meth c cX5_rank 6 RX5) (hr : meth.sig.returnType = none) (k0 : kd a0 = 5) (k2 : kd a2 = 1) (k3 : kd a3 = 8)
    (hK16 : ∀ (M' : Mem) (x5' : Int), K16 M' x5' → Z g p l e rm_X5_rank s m args below meth c 6 (MQ below (va_Qv (S := Mem) Q (fun u => Rp g u) (aR g)) args s 0 0 (aR g)) M' 16 [(0, .ref (g.2.2.1 + a0)), (1, .int (i3 x1)), (2, .ref (g.2.2.1 + a2)), (3, .ref (g.2.2.1 + a3)), (4, .int (i3 x4)), (5, .int (i3 x5'))] [])
    (hK3 : ∀ (M' : Mem) (x4' : Int), K3 M' x4' → Z g p l e rm_X5_rank s m args below meth c 6 (MQ below (va_Qv (S := Mem) Q (fun u => Rp g u) (aR g)) args s 0 0 (aR g)) M' 3 [(0, .ref (g.2.2.1 + a0)), (1, .int (i3 x1)), (2, .ref (g.2.2.1 + a2)), (3, .ref (g.2.2.1 + a3)), (4, .int (i3 x4'))] [])
    (hw : wp_X5_rank_B16 a0 a2 a3 Q K16 K3 M x1 x4 x5) : Z g p l e rm_X5_rank s m args below meth c 6 (MQ below (va_Qv (S := Mem) Q (fun u => Rp g u) (aR g)) args s 0 0 (aR g)) M 16 [(0, .ref (g.2.2.1 + a0)), (1, .int (i3 x1)), (2, .ref (g.2.2.1 + a2)), (3, .ref (g.2.2.1 + a3)), (4, .int (i3 x4)), (5, .int (i3 x5))] [] := by
  refine z_iload F dX5_rank_16 rfl 5 rfl ?_
  refine z_if_le F dX5_rank_18 rfl rfl hw (fun hw => ?_) (fun hw => ?_)
  · refine z_sub [0, 1, 2, 3, 4, 5] rfl ?_
    exact bk_X5_rank_63 F hr k0 k2 k3 hK3 hw
  · refine z_iload_n F dX5_rank_21 rfl rfl 1 rfl ?_
    refine z_iload F dX5_rank_22 rfl 4 rfl ?_
    refine z_aload_n F dX5_rank_24 rfl rfl 0 rfl ?_
    refine z_getR F fl_374 k0 dX5_rank_25 rfl ?_
    refine z_iload F dX5_rank_28 rfl 5 rfl ?_
    refine z_iconst F dX5_rank_30 rfl ?_
    refine z_isub F dX5_rank_31 rfl ?_
    refine z_iald F (tk_5_0 k0) dX5_rank_32 rfl hw (fun hw => ?_)
    refine z_aload_n F dX5_rank_33 rfl rfl 2 rfl ?_
    refine z_aload_n F dX5_rank_34 rfl rfl 3 rfl ?_
    refine z_cSip (As := [.int (i3 x1), .int (i3 x4), .int (i3 (M (rt a0 0) (ix (x5 - 1)))), .ref (g.2.2.1 + a2), .ref (g.2.2.1 + a3)]) (st := []) F (c_X5_compare l g k2 k3 hw) cs_X5_compare w_628 ⟨rfl, rfl, Nat.le_of_ble_eq_true rfl, Nat.le_of_ble_eq_true rfl⟩ rfl (Nat.le_of_ble_eq_true rfl) dX5_rank_35 rfl (fun r35 hw => ?_)
    refine z_if_ge F dX5_rank_38 rfl rfl hw (fun hw => ?_) (fun hw => ?_)
    · refine z_sub [0, 1, 2, 3, 4, 5] rfl ?_
      exact bk_X5_rank_63 F hr k0 k2 k3 hK3 hw
    · refine z_aload_n F dX5_rank_41 rfl rfl 0 rfl ?_
      refine z_getR F fl_374 k0 dX5_rank_42 rfl ?_
      refine z_iload F dX5_rank_45 rfl 5 rfl ?_
      refine z_aload_n F dX5_rank_47 rfl rfl 0 rfl ?_
      refine z_getR F fl_374 k0 dX5_rank_48 rfl ?_
      refine z_iload F dX5_rank_51 rfl 5 rfl ?_
      refine z_iconst F dX5_rank_53 rfl ?_
      refine z_isub F dX5_rank_54 rfl ?_
      refine z_iald F (tk_5_0 k0) dX5_rank_55 rfl hw (fun hw => ?_)
      refine z_iast F (tk_5_0 k0) dX5_rank_56 rfl hw (fun hw => ?_)
      refine z_nmM (fun M56 eM56 => ?_)
      have hw := hw M56 eM56
      refine z_iinc F dX5_rank_57 rfl 5 rfl (by decide) rfl ?_
      refine z_goto F dX5_rank_60 rfl ?_
      refine z_sub [1, 2, 3, 4, 5, 0] rfl ?_
      exact hK16 M56 (x5 + (-1)) hw
set_option maxRecDepth 100000 in
set_option maxHeartbeats 4000000 in
theorem lp_X5_rank_16 {g : En} {p : Program} {l : Launch} {e : Env} {s : State} {m : MethodId} {args : Array Value} {below : List Frame} {meth : Method} {c : Code} {M : Mem} {a0 : Nat} {a2 : Nat} {a3 : Nat} {Q : Mem → Prop} {K3 : Mem → Int → Prop} {x1 : Int} {x4 : Int} {x5 : Int} (F : Fx g p s m args meth c cX5_rank 6 RX5) (hr : meth.sig.returnType = none) (k0 : kd a0 = 5) (k2 : kd a2 = 1) (k3 : kd a3 = 8)
    (hK3 : ∀ (M' : Mem) (x4' : Int), K3 M' x4' → Z g p l e rm_X5_rank s m args below meth c 6 (MQ below (va_Qv (S := Mem) Q (fun u => Rp g u) (aR g)) args s 0 0 (aR g)) M' 3 [(0, .ref (g.2.2.1 + a0)), (1, .int (i3 x1)), (2, .ref (g.2.2.1 + a2)), (3, .ref (g.2.2.1 + a3)), (4, .int (i3 x4'))] [])
    (hw : wp_X5_rank_L16 a0 a2 a3 Q K3 M x1 x4 x5) : Z g p l e rm_X5_rank s m args below meth c 6 (MQ below (va_Qv (S := Mem) Q (fun u => Rp g u) (aR g)) args s 0 0 (aR g)) M 16 [(0, .ref (g.2.2.1 + a0)), (1, .int (i3 x1)), (2, .ref (g.2.2.1 + a2)), (3, .ref (g.2.2.1 + a3)), (4, .int (i3 x4)), (5, .int (i3 x5))] [] := by
  obtain ⟨I, μ, h0, hb⟩ := hw
  have key : ∀ (n : Nat) (M : Mem) (x5 : Int), I M x5 → μ M x5 < n → Z g p l e rm_X5_rank s m args below meth c 6 (MQ below (va_Qv (S := Mem) Q (fun u => Rp g u) (aR g)) args s 0 0 (aR g)) M 16 [(0, .ref (g.2.2.1 + a0)), (1, .int (i3 x1)), (2, .ref (g.2.2.1 + a2)), (3, .ref (g.2.2.1 + a3)), (4, .int (i3 x4)), (5, .int (i3 x5))] [] := by
    intro n
    induction n with
    | zero => exact fun _ _ _ h => absurd h (Nat.not_lt_zero _)
    | succ n ih =>
      intro M x5 hI hn
      exact bk_X5_rank_B16 F hr k0 k2 k3 (fun M' x5' hk => ih M' x5' hk.1 (Nat.lt_of_lt_of_le hk.2 (Nat.le_of_lt_succ hn))) hK3 (hb M x5 hI)
  exact key _ M x5 h0 (Nat.lt_succ_self _)
set_option maxRecDepth 100000 in
set_option maxHeartbeats 4000000 in
theorem bk_X5_rank_B3 {g : En} {p : Program} {l : Launch} {e : Env} {s : State} {m : MethodId} {args : Array Value} {below : List Frame} {meth : Method} {c : Code} {M : Mem} {a0 : Nat} {a2 : Nat} {a3 : Nat} {Q : Mem → Prop} {K3 : Mem → Int → Prop} {x1 : Int} {x4 : Int} (F : Fx g p s m args meth c cX5_rank 6 RX5) (hr : meth.sig.returnType = none) (k0 : kd a0 = 5) (k2 : kd a2 = 1) (k3 : kd a3 = 8)
    (hK3 : ∀ (M' : Mem) (x4' : Int), K3 M' x4' → Z g p l e rm_X5_rank s m args below meth c 6 (MQ below (va_Qv (S := Mem) Q (fun u => Rp g u) (aR g)) args s 0 0 (aR g)) M' 3 [(0, .ref (g.2.2.1 + a0)), (1, .int (i3 x1)), (2, .ref (g.2.2.1 + a2)), (3, .ref (g.2.2.1 + a3)), (4, .int (i3 x4'))] [])
    (hw : wp_X5_rank_B3 a0 a2 a3 Q K3 M x1 x4) : Z g p l e rm_X5_rank s m args below meth c 6 (MQ below (va_Qv (S := Mem) Q (fun u => Rp g u) (aR g)) args s 0 0 (aR g)) M 3 [(0, .ref (g.2.2.1 + a0)), (1, .int (i3 x1)), (2, .ref (g.2.2.1 + a2)), (3, .ref (g.2.2.1 + a3)), (4, .int (i3 x4))] [] := by
  refine z_iload F dX5_rank_3 rfl 4 rfl ?_
  refine z_aload_n F dX5_rank_5 rfl rfl 2 rfl ?_
  refine z_getI F fl_171 k2 dX5_rank_6 rfl ?_
  refine z_icmp_ge F dX5_rank_9 rfl rfl hw (fun hw => ?_) (fun hw => ?_)
  · exact z_vret F hr dX5_rank_78 hw
  · refine z_iload F dX5_rank_12 rfl 4 rfl ?_
    refine z_istore F dX5_rank_14 rfl (by decide) rfl ?_
    refine z_sub [1, 2, 3, 4, 5, 0] rfl ?_
    exact lp_X5_rank_16 F hr k0 k2 k3 hK3 hw
set_option maxRecDepth 100000 in
set_option maxHeartbeats 4000000 in
theorem lp_X5_rank_3 {g : En} {p : Program} {l : Launch} {e : Env} {s : State} {m : MethodId} {args : Array Value} {below : List Frame} {meth : Method} {c : Code} {M : Mem} {a0 : Nat} {a2 : Nat} {a3 : Nat} {Q : Mem → Prop} {x1 : Int} {x4 : Int} (F : Fx g p s m args meth c cX5_rank 6 RX5) (hr : meth.sig.returnType = none) (k0 : kd a0 = 5) (k2 : kd a2 = 1) (k3 : kd a3 = 8)
    (hw : wp_X5_rank_L3 a0 a2 a3 Q M x1 x4) : Z g p l e rm_X5_rank s m args below meth c 6 (MQ below (va_Qv (S := Mem) Q (fun u => Rp g u) (aR g)) args s 0 0 (aR g)) M 3 [(0, .ref (g.2.2.1 + a0)), (1, .int (i3 x1)), (2, .ref (g.2.2.1 + a2)), (3, .ref (g.2.2.1 + a3)), (4, .int (i3 x4))] [] := by
  obtain ⟨I, μ, h0, hb⟩ := hw
  have key : ∀ (n : Nat) (M : Mem) (x4 : Int), I M x4 → μ M x4 < n → Z g p l e rm_X5_rank s m args below meth c 6 (MQ below (va_Qv (S := Mem) Q (fun u => Rp g u) (aR g)) args s 0 0 (aR g)) M 3 [(0, .ref (g.2.2.1 + a0)), (1, .int (i3 x1)), (2, .ref (g.2.2.1 + a2)), (3, .ref (g.2.2.1 + a3)), (4, .int (i3 x4))] [] := by
    intro n
    induction n with
    | zero => exact fun _ _ _ h => absurd h (Nat.not_lt_zero _)
    | succ n ih =>
      intro M x4 hI hn
      exact bk_X5_rank_B3 F hr k0 k2 k3 (fun M' x4' hk => ih M' x4' hk.1 (Nat.lt_of_lt_of_le hk.2 (Nat.le_of_lt_succ hn))) (hb M x4 hI)
  exact key _ M x4 h0 (Nat.lt_succ_self _)
set_option maxRecDepth 100000 in
set_option maxHeartbeats 4000000 in
theorem c_X5_rank (l : Launch) (g : En) {a0 : Nat} {a1 : Int} {a2 : Nat} {a3 : Nat} {M : Mem} {Q : Mem → Prop} (k0 : kd a0 = 5) (k2 : kd a2 = 1) (k3 : kd a3 = 8) (hw : wp_X5_rank a0 a1 a2 a3 M Q) :
    Met l yX5_rank (WS yX5_rank cX5_rank 6 none) rm_X5_rank (va_Pc [.ref (g.2.2.1 + a0), .int (i3 a1), .ref (g.2.2.1 + a2), .ref (g.2.2.1 + a3)] (Rp g M)) (va_Qv (S := Mem) Q (fun u => Rp g u) (aR g)) 0 0 (aR g) := by
  refine met_Z (plainFor_of_name rfl) (Nat.le_of_ble_eq_true rfl) ?_
  intro p e s m args below meth c F hr _
  show Z g p l e rm_X5_rank s m args below meth c 6 (MQ below (va_Qv (S := Mem) Q (fun u => Rp g u) (aR g)) args s 0 0 (aR g)) M 0 [(0, .ref (g.2.2.1 + a0)), (1, .int (i3 a1)), (2, .ref (g.2.2.1 + a2)), (3, .ref (g.2.2.1 + a3))] []
  refine z_iconst F dX5_rank_0 rfl ?_
  refine z_istore F dX5_rank_1 rfl (by decide) rfl ?_
  refine z_sub [1, 2, 3, 4, 0] rfl ?_
  exact lp_X5_rank_3 F hr k0 k2 k3 hw
theorem cv_X5_rank : CV yX5_rank RX5 cX5_rank 6 none 3 := ⟨w_625, w_626, w_77, w_627, rfl, by decide +kernel, by decide +kernel, by decide +kernel⟩
abbrev rm_X8_paidByAll : Room := { frames := 0, cells := 0, slots := 0, locals := 0 }
def wp_X8_paidByAll_B5 (a0 : Nat) (a1 : Nat) (Q : Int → Prop) (K5 : Int → Int → Prop) (M : Mem) (x2 : Int) (x3 : Int) (x4 : Int) : Prop :=
  (((w32 5 ≤ w32 x4) → (
    Q x3)) ∧
  (¬ (w32 5 ≤ w32 x4) → (
    inb a1 x4 ∧ (
    inb (rt a0 8) x4 ∧ (
    inb (rt (rt a0 8) (ix x4)) x2 ∧ (
    ∀ v27 : Int, v27 = (x3 + ((M a1 (ix x4)) * (M (rt (rt a0 8) (ix x4)) (ix x2)))) →
    K5 v27 (x4 + 1)))))))
def wp_X8_paidByAll_L5 (a0 : Nat) (a1 : Nat) (Q : Int → Prop) (M : Mem) (x2 : Int) (x3 : Int) (x4 : Int) : Prop :=
  ∃ (I : Int → Int → Prop) (μ : Int → Int → Nat), I x3 x4 ∧ ∀ (x3 : Int) (x4 : Int), I x3 x4 →
    wp_X8_paidByAll_B5 a0 a1 Q (fun x3' x4' => I x3' x4' ∧ μ x3' x4' < μ x3 x4) M x2 x3 x4
def wp_X8_paidByAll (a0 : Nat) (a1 : Nat) (a2 : Int) (M : Mem) (Q : Int → Prop) : Prop :=
  wp_X8_paidByAll_L5 a0 a1 Q M a2 0 0
set_option maxRecDepth 100000 in
set_option maxHeartbeats 4000000 in
theorem bk_X8_paidByAll_B5 {g : En} {p : Program} {l : Launch} {e : Env} {s : State} {m : MethodId} {args : Array Value} {below : List Frame} {meth : Method} {c : Code} {M : Mem} {a0 : Nat} {a1 : Nat} {Q : Int → Prop} {K5 : Int → Int → Prop} {x2 : Int} {x3 : Int} {x4 : Int} (F : Fx g p s m args meth c cX8_paidByAll 5 RX8) (hr : meth.sig.returnType = (some .int)) (k0 : kd a0 = 8) (k1 : kd a1 = 13)
    (hK5 : ∀ (x3' : Int) (x4' : Int), K5 x3' x4' → Z g p l e rm_X8_paidByAll s m args below meth c 5 (MQ below (va_Qi (S := Int × Mem) (fun r u => r = i3 u.1 ∧ (u.2 = M ∧ Q u.1)) (fun u => Rp g u.2) (aR g)) args s 0 0 (aR g)) M 5 [(0, .ref (g.2.2.1 + a0)), (1, .ref (g.2.2.1 + a1)), (2, .int (i3 x2)), (3, .int (i3 x3')), (4, .int (i3 x4'))] [])
    (hw : wp_X8_paidByAll_B5 a0 a1 Q K5 M x2 x3 x4) : Z g p l e rm_X8_paidByAll s m args below meth c 5 (MQ below (va_Qi (S := Int × Mem) (fun r u => r = i3 u.1 ∧ (u.2 = M ∧ Q u.1)) (fun u => Rp g u.2) (aR g)) args s 0 0 (aR g)) M 5 [(0, .ref (g.2.2.1 + a0)), (1, .ref (g.2.2.1 + a1)), (2, .int (i3 x2)), (3, .int (i3 x3)), (4, .int (i3 x4))] [] := by
  refine z_iload F dX8_paidByAll_5 rfl 4 rfl ?_
  refine z_iconst F dX8_paidByAll_7 rfl ?_
  refine z_icmp_ge F dX8_paidByAll_8 rfl rfl hw (fun hw => ?_) (fun hw => ?_)
  · refine z_iload_n F dX8_paidByAll_34 rfl rfl 3 rfl ?_
    exact z_iretp (x := x3) F hr dX8_paidByAll_35 hw
  · refine z_iload_n F dX8_paidByAll_11 rfl rfl 3 rfl ?_
    refine z_aload_n F dX8_paidByAll_12 rfl rfl 1 rfl ?_
    refine z_iload F dX8_paidByAll_13 rfl 4 rfl ?_
    refine z_iald F k1 dX8_paidByAll_15 rfl hw (fun hw => ?_)
    refine z_aload_n F dX8_paidByAll_16 rfl rfl 0 rfl ?_
    refine z_getR F fl_221 k0 dX8_paidByAll_17 rfl ?_
    refine z_iload F dX8_paidByAll_20 rfl 4 rfl ?_
    have n22 := hw.1
    refine z_aald F 4 (tk_8_8 k0) rfl rfl dX8_paidByAll_22 rfl hw (fun hw => ?_)
    refine z_iload_n F dX8_paidByAll_23 rfl rfl 2 rfl ?_
    refine z_iald F (tka_19 (tk_8_8 k0) n22) dX8_paidByAll_24 rfl hw (fun hw => ?_)
    refine z_imul F dX8_paidByAll_25 rfl ?_
    refine z_iadd F dX8_paidByAll_26 rfl ?_
    refine z_nmI (fun v27 ev27 => ?_)
    have hw := hw v27 ev27
    refine z_istore_n F dX8_paidByAll_27 rfl rfl (by decide) rfl ?_
    refine z_iinc F dX8_paidByAll_28 rfl 4 rfl (by decide) rfl ?_
    refine z_goto F dX8_paidByAll_31 rfl ?_
    refine z_sub [2, 3, 4, 1, 0] rfl ?_
    exact hK5 v27 (x4 + 1) hw
set_option maxRecDepth 100000 in
set_option maxHeartbeats 4000000 in
theorem lp_X8_paidByAll_5 {g : En} {p : Program} {l : Launch} {e : Env} {s : State} {m : MethodId} {args : Array Value} {below : List Frame} {meth : Method} {c : Code} {M : Mem} {a0 : Nat} {a1 : Nat} {Q : Int → Prop} {x2 : Int} {x3 : Int} {x4 : Int} (F : Fx g p s m args meth c cX8_paidByAll 5 RX8) (hr : meth.sig.returnType = (some .int)) (k0 : kd a0 = 8) (k1 : kd a1 = 13)
    (hw : wp_X8_paidByAll_L5 a0 a1 Q M x2 x3 x4) : Z g p l e rm_X8_paidByAll s m args below meth c 5 (MQ below (va_Qi (S := Int × Mem) (fun r u => r = i3 u.1 ∧ (u.2 = M ∧ Q u.1)) (fun u => Rp g u.2) (aR g)) args s 0 0 (aR g)) M 5 [(0, .ref (g.2.2.1 + a0)), (1, .ref (g.2.2.1 + a1)), (2, .int (i3 x2)), (3, .int (i3 x3)), (4, .int (i3 x4))] [] := by
  obtain ⟨I, μ, h0, hb⟩ := hw
  have key : ∀ (n : Nat) (x3 : Int) (x4 : Int), I x3 x4 → μ x3 x4 < n → Z g p l e rm_X8_paidByAll s m args below meth c 5 (MQ below (va_Qi (S := Int × Mem) (fun r u => r = i3 u.1 ∧ (u.2 = M ∧ Q u.1)) (fun u => Rp g u.2) (aR g)) args s 0 0 (aR g)) M 5 [(0, .ref (g.2.2.1 + a0)), (1, .ref (g.2.2.1 + a1)), (2, .int (i3 x2)), (3, .int (i3 x3)), (4, .int (i3 x4))] [] := by
    intro n
    induction n with
    | zero => exact fun _ _ _ h => absurd h (Nat.not_lt_zero _)
    | succ n ih =>
      intro x3 x4 hI hn
      exact bk_X8_paidByAll_B5 F hr k0 k1 (fun x3' x4' hk => ih x3' x4' hk.1 (Nat.lt_of_lt_of_le hk.2 (Nat.le_of_lt_succ hn))) (hb x3 x4 hI)
  exact key _ x3 x4 h0 (Nat.lt_succ_self _)
set_option maxRecDepth 100000 in
set_option maxHeartbeats 4000000 in
theorem c_X8_paidByAll (l : Launch) (g : En) {a0 : Nat} {a1 : Nat} {a2 : Int} {M : Mem} {Q : Int → Prop} (k0 : kd a0 = 8) (k1 : kd a1 = 13) (hw : wp_X8_paidByAll a0 a1 a2 M Q) :
    Met l yX8_paidByAll (WS yX8_paidByAll cX8_paidByAll 5 (some .int)) rm_X8_paidByAll (va_Pc [.ref (g.2.2.1 + a0), .ref (g.2.2.1 + a1), .int (i3 a2)] (Rp g M)) (va_Qi (S := Int × Mem) (fun r u => r = i3 u.1 ∧ (u.2 = M ∧ Q u.1)) (fun u => Rp g u.2) (aR g)) 0 0 (aR g) := by
  refine met_Z (plainFor_of_name rfl) (Nat.le_of_ble_eq_true rfl) ?_
  intro p e s m args below meth c F hr _
  show Z g p l e rm_X8_paidByAll s m args below meth c 5 (MQ below (va_Qi (S := Int × Mem) (fun r u => r = i3 u.1 ∧ (u.2 = M ∧ Q u.1)) (fun u => Rp g u.2) (aR g)) args s 0 0 (aR g)) M 0 [(0, .ref (g.2.2.1 + a0)), (1, .ref (g.2.2.1 + a1)), (2, .int (i3 a2))] []
  refine z_iconst F dX8_paidByAll_0 rfl ?_
  refine z_istore_n F dX8_paidByAll_1 rfl rfl (by decide) rfl ?_
  refine z_iconst F dX8_paidByAll_2 rfl ?_
  refine z_istore F dX8_paidByAll_3 rfl (by decide) rfl ?_
  refine z_sub [2, 3, 4, 1, 0] rfl ?_
  exact lp_X8_paidByAll_5 F hr k0 k1 hw
theorem cv_X8_paidByAll : CV yX8_paidByAll RX8 cX8_paidByAll 5 (some .int) 2 := ⟨w_658, w_659, w_72, w_660, rfl, by decide +kernel, by decide +kernel, by decide +kernel⟩
abbrev rm_X5_buyAt : Room := { frames := 0, cells := 0, slots := 0, locals := 0 }
def wp_X5_buyAt_b93 (a0 : Nat) (a3 : Nat) (a4 : Nat) (Q : Mem → Prop) (K3 : Int → Prop) (M : Mem) (x1 : Int) (x2 : Int) (x5 : Int) : Prop :=
  K3 (x5 + 1)
def wp_X5_buyAt_B3 (a0 : Nat) (a3 : Nat) (a4 : Nat) (Q : Mem → Prop) (K3 : Int → Prop) (M : Mem) (x1 : Int) (x2 : Int) (x5 : Int) : Prop :=
  (((w32 (M a3 4) ≤ w32 x5) → (
    ∀ M106 : Mem, M106 = st2 M a0 3 ((M a0 3) + x2) →
    Q M106)) ∧
  (¬ (w32 (M a3 4) ≤ w32 x5) → (
    inb (rt a0 0) x5 ∧ (
    inb (rt a4 8) (M (rt a0 0) (ix x5)) ∧ (
    inb (rt (rt a4 8) (ix (M (rt a0 0) (ix x5)))) x1 ∧ (
    ∀ v31 : Int, v31 = (M (rt (rt a4 8) (ix (M (rt a0 0) (ix x5)))) (ix x1)) →
    inb (rt a4 10) (M (rt a0 0) (ix x5)) ∧ (
    (((¬ w32 (M (rt a4 10) (ix (M (rt a0 0) (ix x5)))) = w32 x1) → (
      wp_X5_buyAt_b93 a0 a3 a4 Q K3 M x1 x2 x5)) ∧
    (¬ (¬ w32 (M (rt a4 10) (ix (M (rt a0 0) (ix x5)))) = w32 x1) → (
      (((w32 v31 ≤ 0) → (
        wp_X5_buyAt_b93 a0 a3 a4 Q K3 M x1 x2 x5)) ∧
      (¬ (w32 v31 ≤ 0) → (
        w32 v31 ≠ 0 ∧ (
        ∀ v59 : Int, v59 = ((w32 ((x2 + v31) - 1)).tdiv (w32 v31)) →
        inb (rt a0 1) (M (rt a0 0) (ix x5)) ∧ (
        ∀ M69 : Mem, M69 = st2 M (rt a0 1) (ix (M (rt a0 0) (ix x5))) v59 →
        inb (rt a3 3) (M (rt a0 0) (ix x5)) ∧ (
        ∀ M89 : Mem, M89 = st2 M69 a0 2 ((M69 a0 2) + (v59 * (M69 (rt (rt a3 3) (ix (M (rt a0 0) (ix x5)))) 1))) →
        Q M89))))))))))))))))
def wp_X5_buyAt_L3 (a0 : Nat) (a3 : Nat) (a4 : Nat) (Q : Mem → Prop) (M : Mem) (x1 : Int) (x2 : Int) (x5 : Int) : Prop :=
  ∃ (I : Int → Prop) (μ : Int → Nat), I x5 ∧ ∀ (x5 : Int), I x5 →
    wp_X5_buyAt_B3 a0 a3 a4 Q (fun x5' => I x5' ∧ μ x5' < μ x5) M x1 x2 x5
def wp_X5_buyAt (a0 : Nat) (a1 : Int) (a2 : Int) (a3 : Nat) (a4 : Nat) (M : Mem) (Q : Mem → Prop) : Prop :=
  wp_X5_buyAt_L3 a0 a3 a4 Q M a1 a2 0
set_option maxRecDepth 100000 in
set_option maxHeartbeats 4000000 in
theorem bk_X5_buyAt_93 {g : En} {p : Program} {l : Launch} {e : Env} {s : State} {m : MethodId} {args : Array Value} {below : List Frame} {meth : Method} {c : Code} {M : Mem} {a0 : Nat} {a3 : Nat} {a4 : Nat} {Q : Mem → Prop} {K3 : Int → Prop} {x1 : Int} {x2 : Int} {x5 : Int} (F : Fx g p s m args meth c cX5_buyAt 9 RX5) (hr : meth.sig.returnType = none) (k0 : kd a0 = 5) (k3 : kd a3 = 1) (k4 : kd a4 = 8)
    (hK3 : ∀ (x5' : Int), K3 x5' → Z g p l e rm_X5_buyAt s m args below meth c 9 (MQ below (va_Qv (S := Mem) Q (fun u => Rp g u) (aR g)) args s 0 0 (aR g)) M 3 [(0, .ref (g.2.2.1 + a0)), (1, .int (i3 x1)), (2, .int (i3 x2)), (3, .ref (g.2.2.1 + a3)), (4, .ref (g.2.2.1 + a4)), (5, .int (i3 x5'))] [])
    (hw : wp_X5_buyAt_b93 a0 a3 a4 Q K3 M x1 x2 x5) : Z g p l e rm_X5_buyAt s m args below meth c 9 (MQ below (va_Qv (S := Mem) Q (fun u => Rp g u) (aR g)) args s 0 0 (aR g)) M 93 [(0, .ref (g.2.2.1 + a0)), (1, .int (i3 x1)), (2, .int (i3 x2)), (3, .ref (g.2.2.1 + a3)), (4, .ref (g.2.2.1 + a4)), (5, .int (i3 x5))] [] := by
  refine z_iinc F dX5_buyAt_93 rfl 5 rfl (by decide) rfl ?_
  refine z_goto F dX5_buyAt_96 rfl ?_
  refine z_sub [1, 2, 3, 4, 5, 0] rfl ?_
  exact hK3 (x5 + 1) hw
set_option maxRecDepth 100000 in
set_option maxHeartbeats 4000000 in
theorem bk_X5_buyAt_B3 {g : En} {p : Program} {l : Launch} {e : Env} {s : State} {m : MethodId} {args : Array Value} {below : List Frame} {meth : Method} {c : Code} {M : Mem} {a0 : Nat} {a3 : Nat} {a4 : Nat} {Q : Mem → Prop} {K3 : Int → Prop} {x1 : Int} {x2 : Int} {x5 : Int} (F : Fx g p s m args meth c cX5_buyAt 9 RX5) (hr : meth.sig.returnType = none) (k0 : kd a0 = 5) (k3 : kd a3 = 1) (k4 : kd a4 = 8)
    (hK3 : ∀ (x5' : Int), K3 x5' → Z g p l e rm_X5_buyAt s m args below meth c 9 (MQ below (va_Qv (S := Mem) Q (fun u => Rp g u) (aR g)) args s 0 0 (aR g)) M 3 [(0, .ref (g.2.2.1 + a0)), (1, .int (i3 x1)), (2, .int (i3 x2)), (3, .ref (g.2.2.1 + a3)), (4, .ref (g.2.2.1 + a4)), (5, .int (i3 x5'))] [])
    (hw : wp_X5_buyAt_B3 a0 a3 a4 Q K3 M x1 x2 x5) : Z g p l e rm_X5_buyAt s m args below meth c 9 (MQ below (va_Qv (S := Mem) Q (fun u => Rp g u) (aR g)) args s 0 0 (aR g)) M 3 [(0, .ref (g.2.2.1 + a0)), (1, .int (i3 x1)), (2, .int (i3 x2)), (3, .ref (g.2.2.1 + a3)), (4, .ref (g.2.2.1 + a4)), (5, .int (i3 x5))] [] := by
  refine z_iload F dX5_buyAt_3 rfl 5 rfl ?_
  refine z_aload_n F dX5_buyAt_5 rfl rfl 3 rfl ?_
  refine z_getI F fl_171 k3 dX5_buyAt_6 rfl ?_
  refine z_icmp_ge F dX5_buyAt_9 rfl rfl hw (fun hw => ?_) (fun hw => ?_)
  · refine z_aload_n F dX5_buyAt_99 rfl rfl 0 rfl ?_
    refine z_dup F rfl dX5_buyAt_100 rfl ?_
    refine z_getI F fl_380 k0 dX5_buyAt_101 rfl ?_
    refine z_iload_n F dX5_buyAt_104 rfl rfl 2 rfl ?_
    refine z_iadd F dX5_buyAt_105 rfl ?_
    refine z_putI F fp_380 k0 dX5_buyAt_106 rfl ?_
    refine z_nmM (fun M106 eM106 => ?_)
    have hw := hw M106 eM106
    exact z_vret F hr dX5_buyAt_109 hw
  · refine z_aload_n F dX5_buyAt_12 rfl rfl 0 rfl ?_
    refine z_getR F fl_374 k0 dX5_buyAt_13 rfl ?_
    refine z_iload F dX5_buyAt_16 rfl 5 rfl ?_
    refine z_iald F (tk_5_0 k0) dX5_buyAt_18 rfl hw (fun hw => ?_)
    refine z_istore F dX5_buyAt_19 rfl (by decide) rfl ?_
    refine z_aload F dX5_buyAt_21 rfl 5 rfl ?_
    refine z_getR F fl_222 k4 dX5_buyAt_23 rfl ?_
    refine z_iload F dX5_buyAt_26 rfl 0 rfl ?_
    have n28 := hw.1
    refine z_aald F 4 (tk_8_8 k4) rfl rfl dX5_buyAt_28 rfl hw (fun hw => ?_)
    refine z_iload_n F dX5_buyAt_29 rfl rfl 2 rfl ?_
    refine z_iald F (tka_19 (tk_8_8 k4) n28) dX5_buyAt_30 rfl hw (fun hw => ?_)
    refine z_nmI (fun v31 ev31 => ?_)
    have hw := hw v31 ev31
    refine z_istore F dX5_buyAt_31 rfl (by decide) rfl ?_
    refine z_aload F dX5_buyAt_33 rfl 6 rfl ?_
    refine z_getR F fl_229 k4 dX5_buyAt_35 rfl ?_
    refine z_iload F dX5_buyAt_38 rfl 1 rfl ?_
    refine z_iald F (tk_8_10 k4) dX5_buyAt_40 rfl hw (fun hw => ?_)
    refine z_iload_n F dX5_buyAt_41 rfl rfl 3 rfl ?_
    refine z_icmp_ne F dX5_buyAt_42 rfl rfl hw (fun hw => ?_) (fun hw => ?_)
    · refine z_sub [2, 3, 4, 5, 6, 7] rfl ?_
      exact bk_X5_buyAt_93 F hr k0 k3 k4 hK3 hw
    · refine z_iload F dX5_buyAt_45 rfl 0 rfl ?_
      refine z_if_le F dX5_buyAt_47 rfl rfl hw (fun hw => ?_) (fun hw => ?_)
      · refine z_sub [2, 3, 4, 5, 6, 7] rfl ?_
        exact bk_X5_buyAt_93 F hr k0 k3 k4 hK3 hw
      · refine z_iload_n F dX5_buyAt_50 rfl rfl 4 rfl ?_
        refine z_iload F dX5_buyAt_51 rfl 0 rfl ?_
        refine z_iadd F dX5_buyAt_53 rfl ?_
        refine z_iconst F dX5_buyAt_54 rfl ?_
        refine z_isub F dX5_buyAt_55 rfl ?_
        refine z_iload F dX5_buyAt_56 rfl 0 rfl ?_
        refine z_idiv F dX5_buyAt_58 rfl hw (fun hw => ?_)
        refine z_nmI (fun v59 ev59 => ?_)
        have hw := hw v59 ev59
        refine z_istore F dX5_buyAt_59 rfl (by decide) rfl ?_
        refine z_aload_n F dX5_buyAt_61 rfl rfl 3 rfl ?_
        refine z_getR F fl_376 k0 dX5_buyAt_62 rfl ?_
        refine z_iload F dX5_buyAt_65 rfl 2 rfl ?_
        refine z_iload F dX5_buyAt_67 rfl 0 rfl ?_
        refine z_iast F (tk_5_1 k0) dX5_buyAt_69 rfl hw (fun hw => ?_)
        refine z_nmM (fun M69 eM69 => ?_)
        have hw := hw M69 eM69
        refine z_aload_n F dX5_buyAt_70 rfl rfl 3 rfl ?_
        refine z_dup F rfl dX5_buyAt_71 rfl ?_
        refine z_getI F fl_378 k0 dX5_buyAt_72 rfl ?_
        refine z_iload F dX5_buyAt_75 rfl 0 rfl ?_
        refine z_aload_n F dX5_buyAt_77 rfl rfl 6 rfl ?_
        refine z_getR F fl_167 k3 dX5_buyAt_78 rfl ?_
        refine z_iload F dX5_buyAt_81 rfl 2 rfl ?_
        have n83 := hw.1
        refine z_aald F 0 (tk_1_3 k3) rfl rfl dX5_buyAt_83 rfl hw (fun hw => ?_)
        refine z_getI F fl_129 (tka_15 (tk_1_3 k3) n83) dX5_buyAt_84 rfl ?_
        refine z_imul F dX5_buyAt_87 rfl ?_
        refine z_iadd F dX5_buyAt_88 rfl ?_
        refine z_putI F fp_378 k0 dX5_buyAt_89 rfl ?_
        refine z_nmM (fun M89 eM89 => ?_)
        have hw := hw M89 eM89
        exact z_vret F hr dX5_buyAt_92 hw
set_option maxRecDepth 100000 in
set_option maxHeartbeats 4000000 in
theorem lp_X5_buyAt_3 {g : En} {p : Program} {l : Launch} {e : Env} {s : State} {m : MethodId} {args : Array Value} {below : List Frame} {meth : Method} {c : Code} {M : Mem} {a0 : Nat} {a3 : Nat} {a4 : Nat} {Q : Mem → Prop} {x1 : Int} {x2 : Int} {x5 : Int} (F : Fx g p s m args meth c cX5_buyAt 9 RX5) (hr : meth.sig.returnType = none) (k0 : kd a0 = 5) (k3 : kd a3 = 1) (k4 : kd a4 = 8)
    (hw : wp_X5_buyAt_L3 a0 a3 a4 Q M x1 x2 x5) : Z g p l e rm_X5_buyAt s m args below meth c 9 (MQ below (va_Qv (S := Mem) Q (fun u => Rp g u) (aR g)) args s 0 0 (aR g)) M 3 [(0, .ref (g.2.2.1 + a0)), (1, .int (i3 x1)), (2, .int (i3 x2)), (3, .ref (g.2.2.1 + a3)), (4, .ref (g.2.2.1 + a4)), (5, .int (i3 x5))] [] := by
  obtain ⟨I, μ, h0, hb⟩ := hw
  have key : ∀ (n : Nat) (x5 : Int), I x5 → μ x5 < n → Z g p l e rm_X5_buyAt s m args below meth c 9 (MQ below (va_Qv (S := Mem) Q (fun u => Rp g u) (aR g)) args s 0 0 (aR g)) M 3 [(0, .ref (g.2.2.1 + a0)), (1, .int (i3 x1)), (2, .int (i3 x2)), (3, .ref (g.2.2.1 + a3)), (4, .ref (g.2.2.1 + a4)), (5, .int (i3 x5))] [] := by
    intro n
    induction n with
    | zero => exact fun _ _ h => absurd h (Nat.not_lt_zero _)
    | succ n ih =>
      intro x5 hI hn
      exact bk_X5_buyAt_B3 F hr k0 k3 k4 (fun x5' hk => ih x5' hk.1 (Nat.lt_of_lt_of_le hk.2 (Nat.le_of_lt_succ hn))) (hb x5 hI)
  exact key _ x5 h0 (Nat.lt_succ_self _)
set_option maxRecDepth 100000 in
set_option maxHeartbeats 4000000 in
theorem c_X5_buyAt (l : Launch) (g : En) {a0 : Nat} {a1 : Int} {a2 : Int} {a3 : Nat} {a4 : Nat} {M : Mem} {Q : Mem → Prop} (k0 : kd a0 = 5) (k3 : kd a3 = 1) (k4 : kd a4 = 8) (hw : wp_X5_buyAt a0 a1 a2 a3 a4 M Q) :
    Met l yX5_buyAt (WS yX5_buyAt cX5_buyAt 9 none) rm_X5_buyAt (va_Pc [.ref (g.2.2.1 + a0), .int (i3 a1), .int (i3 a2), .ref (g.2.2.1 + a3), .ref (g.2.2.1 + a4)] (Rp g M)) (va_Qv (S := Mem) Q (fun u => Rp g u) (aR g)) 0 0 (aR g) := by
  refine met_Z (plainFor_of_name rfl) (Nat.le_of_ble_eq_true rfl) ?_
  intro p e s m args below meth c F hr _
  show Z g p l e rm_X5_buyAt s m args below meth c 9 (MQ below (va_Qv (S := Mem) Q (fun u => Rp g u) (aR g)) args s 0 0 (aR g)) M 0 [(0, .ref (g.2.2.1 + a0)), (1, .int (i3 a1)), (2, .int (i3 a2)), (3, .ref (g.2.2.1 + a3)), (4, .ref (g.2.2.1 + a4))] []
  refine z_iconst F dX5_buyAt_0 rfl ?_
  refine z_istore F dX5_buyAt_1 rfl (by decide) rfl ?_
  refine z_sub [1, 2, 3, 4, 5, 0] rfl ?_
  exact lp_X5_buyAt_3 F hr k0 k3 k4 hw
theorem cv_X5_buyAt : CV yX5_buyAt RX5 cX5_buyAt 9 none 4 := ⟨w_850, w_18, w_77, w_851, rfl, by decide +kernel, by decide +kernel, by decide +kernel⟩
abbrev rm_X5_buy : Room := { frames := 1, cells := 0, slots := 0, locals := 28 }
def wp_X5_buy_b61 (a0 : Nat) (a1 : Nat) (a2 : Nat) (Q : Mem → Prop) (K25 : Mem → Int → Prop) (M : Mem) (x3 : Int) : Prop :=
  K25 M (x3 + (-1))
def wp_X5_buy_B25 (a0 : Nat) (a1 : Nat) (a2 : Nat) (Q : Mem → Prop) (K25 : Mem → Int → Prop) (M : Mem) (x3 : Int) : Prop :=
  (((w32 x3 < 0) → (
    Q M)) ∧
  (¬ (w32 x3 < 0) → (
    inb (rt a2 2) x3 ∧ (
    wp_X8_paidByAll a2 (rt a0 1) x3 M (fun r41 =>
    ∀ v45 : Int, v45 = ((M (rt a2 2) (ix x3)) - r41) →
    (((w32 v45 ≤ 0) → (
      wp_X5_buy_b61 a0 a1 a2 Q K25 M x3)) ∧
    (¬ (w32 v45 ≤ 0) → (
      wp_X5_buyAt a0 x3 v45 a1 a2 M (fun M58 =>
      wp_X5_buy_b61 a0 a1 a2 Q K25 M58 x3)))))))))
def wp_X5_buy_L25 (a0 : Nat) (a1 : Nat) (a2 : Nat) (Q : Mem → Prop) (M : Mem) (x3 : Int) : Prop :=
  ∃ (I : Mem → Int → Prop) (μ : Mem → Int → Nat), I M x3 ∧ ∀ (M : Mem) (x3 : Int), I M x3 →
    wp_X5_buy_B25 a0 a1 a2 Q (fun M' x3' => I M' x3' ∧ μ M' x3' < μ M x3) M x3
def wp_X5_buy (a0 : Nat) (a1 : Nat) (a2 : Nat) (M : Mem) (Q : Mem → Prop) : Prop :=
  wp_J7_fill_53178 (rt a0 1) 0 M (fun M5 =>
  ∀ M10 : Mem, M10 = st2 M5 a0 2 0 →
  ∀ M15 : Mem, M15 = st2 M10 a0 3 0 →
  wp_X5_buy_L25 a0 a1 a2 Q M15 ((M15 a2 0) - 1))
set_option maxRecDepth 100000 in
set_option maxHeartbeats 4000000 in
theorem bk_X5_buy_61 {g : En} {p : Program} {l : Launch} {e : Env} {s : State} {m : MethodId} {args : Array Value} {below : List Frame} {meth : Method} {c : Code} {M : Mem} {a0 : Nat} {a1 : Nat} {a2 : Nat} {Q : Mem → Prop} {K25 : Mem → Int → Prop} {x3 : Int} (F : Fx g p s m args meth c cX5_buy 5 RX5) (hr : meth.sig.returnType = none) (k0 : kd a0 = 5) (k1 : kd a1 = 1) (k2 : kd a2 = 8)
    (hK25 : ∀ (M' : Mem) (x3' : Int), K25 M' x3' → Z g p l e rm_X5_buy s m args below meth c 5 (MQ below (va_Qv (S := Mem) Q (fun u => Rp g u) (aR g)) args s 0 0 (aR g)) M' 25 [(0, .ref (g.2.2.1 + a0)), (1, .ref (g.2.2.1 + a1)), (2, .ref (g.2.2.1 + a2)), (3, .int (i3 x3'))] [])
    (hw : wp_X5_buy_b61 a0 a1 a2 Q K25 M x3) : Z g p l e rm_X5_buy s m args below meth c 5 (MQ below (va_Qv (S := Mem) Q (fun u => Rp g u) (aR g)) args s 0 0 (aR g)) M 61 [(0, .ref (g.2.2.1 + a0)), (1, .ref (g.2.2.1 + a1)), (2, .ref (g.2.2.1 + a2)), (3, .int (i3 x3))] [] := by
  refine z_iinc F dX5_buy_61 rfl 3 rfl (by decide) rfl ?_
  refine z_goto F dX5_buy_64 rfl ?_
  refine z_sub [1, 2, 3, 0] rfl ?_
  exact hK25 M (x3 + (-1)) hw
set_option maxRecDepth 100000 in
set_option maxHeartbeats 4000000 in
theorem bk_X5_buy_B25 {g : En} {p : Program} {l : Launch} {e : Env} {s : State} {m : MethodId} {args : Array Value} {below : List Frame} {meth : Method} {c : Code} {M : Mem} {a0 : Nat} {a1 : Nat} {a2 : Nat} {Q : Mem → Prop} {K25 : Mem → Int → Prop} {x3 : Int} (F : Fx g p s m args meth c cX5_buy 5 RX5) (hr : meth.sig.returnType = none) (k0 : kd a0 = 5) (k1 : kd a1 = 1) (k2 : kd a2 = 8)
    (hK25 : ∀ (M' : Mem) (x3' : Int), K25 M' x3' → Z g p l e rm_X5_buy s m args below meth c 5 (MQ below (va_Qv (S := Mem) Q (fun u => Rp g u) (aR g)) args s 0 0 (aR g)) M' 25 [(0, .ref (g.2.2.1 + a0)), (1, .ref (g.2.2.1 + a1)), (2, .ref (g.2.2.1 + a2)), (3, .int (i3 x3'))] [])
    (hw : wp_X5_buy_B25 a0 a1 a2 Q K25 M x3) : Z g p l e rm_X5_buy s m args below meth c 5 (MQ below (va_Qv (S := Mem) Q (fun u => Rp g u) (aR g)) args s 0 0 (aR g)) M 25 [(0, .ref (g.2.2.1 + a0)), (1, .ref (g.2.2.1 + a1)), (2, .ref (g.2.2.1 + a2)), (3, .int (i3 x3))] [] := by
  refine z_iload_n F dX5_buy_25 rfl rfl 3 rfl ?_
  refine z_if_lt F dX5_buy_26 rfl rfl hw (fun hw => ?_) (fun hw => ?_)
  · exact z_vret F hr dX5_buy_67 hw
  · refine z_aload_n F dX5_buy_29 rfl rfl 2 rfl ?_
    refine z_getR F fl_203 k2 dX5_buy_30 rfl ?_
    refine z_iload_n F dX5_buy_33 rfl rfl 3 rfl ?_
    refine z_iald F (tk_8_2 k2) dX5_buy_34 rfl hw (fun hw => ?_)
    refine z_aload_n F dX5_buy_35 rfl rfl 2 rfl ?_
    refine z_aload_n F dX5_buy_36 rfl rfl 0 rfl ?_
    refine z_getR F fl_376 k0 dX5_buy_37 rfl ?_
    refine z_iload_n F dX5_buy_40 rfl rfl 3 rfl ?_
    refine z_cVip (As := [.ref (g.2.2.1 + (rt a0 1)), .int (i3 x3)]) (st := [.int (i3 (M (rt a2 2) (ix x3)))]) F (c_X8_paidByAll l g k2 (tk_5_1 k0) hw) cv_X8_paidByAll w_847 ⟨rfl, rfl, Nat.le_of_ble_eq_true rfl, Nat.le_of_ble_eq_true rfl⟩ k2 rfl rfl (Nat.le_of_ble_eq_true rfl) dX5_buy_41 rfl (fun r41 hw => ?_)
    refine z_isub F dX5_buy_44 rfl ?_
    refine z_nmI (fun v45 ev45 => ?_)
    have hw := hw v45 ev45
    refine z_istore F dX5_buy_45 rfl (by decide) rfl ?_
    refine z_iload F dX5_buy_47 rfl 0 rfl ?_
    refine z_if_le F dX5_buy_49 rfl rfl hw (fun hw => ?_) (fun hw => ?_)
    · refine z_sub [1, 2, 3, 4] rfl ?_
      exact bk_X5_buy_61 F hr k0 k1 k2 hK25 hw
    · refine z_aload_n F dX5_buy_52 rfl rfl 1 rfl ?_
      refine z_iload_n F dX5_buy_53 rfl rfl 4 rfl ?_
      refine z_iload F dX5_buy_54 rfl 0 rfl ?_
      refine z_aload_n F dX5_buy_56 rfl rfl 2 rfl ?_
      refine z_aload_n F dX5_buy_57 rfl rfl 3 rfl ?_
      refine z_cVv (As := [.int (i3 x3), .int (i3 v45), .ref (g.2.2.1 + a1), .ref (g.2.2.1 + a2)]) (st := []) F (c_X5_buyAt l g k0 k1 k2 hw) cv_X5_buyAt w_848 ⟨rfl, rfl, Nat.le_of_ble_eq_true rfl, Nat.le_of_ble_eq_true rfl⟩ k0 rfl rfl (Nat.le_of_ble_eq_true rfl) dX5_buy_58 rfl (fun M58 hw => ?_)
      refine z_sub [1, 2, 3, 4] rfl ?_
      exact bk_X5_buy_61 F hr k0 k1 k2 hK25 hw
set_option maxRecDepth 100000 in
set_option maxHeartbeats 4000000 in
theorem lp_X5_buy_25 {g : En} {p : Program} {l : Launch} {e : Env} {s : State} {m : MethodId} {args : Array Value} {below : List Frame} {meth : Method} {c : Code} {M : Mem} {a0 : Nat} {a1 : Nat} {a2 : Nat} {Q : Mem → Prop} {x3 : Int} (F : Fx g p s m args meth c cX5_buy 5 RX5) (hr : meth.sig.returnType = none) (k0 : kd a0 = 5) (k1 : kd a1 = 1) (k2 : kd a2 = 8)
    (hw : wp_X5_buy_L25 a0 a1 a2 Q M x3) : Z g p l e rm_X5_buy s m args below meth c 5 (MQ below (va_Qv (S := Mem) Q (fun u => Rp g u) (aR g)) args s 0 0 (aR g)) M 25 [(0, .ref (g.2.2.1 + a0)), (1, .ref (g.2.2.1 + a1)), (2, .ref (g.2.2.1 + a2)), (3, .int (i3 x3))] [] := by
  obtain ⟨I, μ, h0, hb⟩ := hw
  have key : ∀ (n : Nat) (M : Mem) (x3 : Int), I M x3 → μ M x3 < n → Z g p l e rm_X5_buy s m args below meth c 5 (MQ below (va_Qv (S := Mem) Q (fun u => Rp g u) (aR g)) args s 0 0 (aR g)) M 25 [(0, .ref (g.2.2.1 + a0)), (1, .ref (g.2.2.1 + a1)), (2, .ref (g.2.2.1 + a2)), (3, .int (i3 x3))] [] := by
    intro n
    induction n with
    | zero => exact fun _ _ _ h => absurd h (Nat.not_lt_zero _)
    | succ n ih =>
      intro M x3 hI hn
      exact bk_X5_buy_B25 F hr k0 k1 k2 (fun M' x3' hk => ih M' x3' hk.1 (Nat.lt_of_lt_of_le hk.2 (Nat.le_of_lt_succ hn))) (hb M x3 hI)
  exact key _ M x3 h0 (Nat.lt_succ_self _)
set_option maxRecDepth 100000 in
set_option maxHeartbeats 4000000 in
theorem c_X5_buy (l : Launch) (g : En) {a0 : Nat} {a1 : Nat} {a2 : Nat} {M : Mem} {Q : Mem → Prop} (k0 : kd a0 = 5) (k1 : kd a1 = 1) (k2 : kd a2 = 8) (hw : wp_X5_buy a0 a1 a2 M Q) :
    Met l yX5_buy (WS yX5_buy cX5_buy 5 none) rm_X5_buy (va_Pc [.ref (g.2.2.1 + a0), .ref (g.2.2.1 + a1), .ref (g.2.2.1 + a2)] (Rp g M)) (va_Qv (S := Mem) Q (fun u => Rp g u) (aR g)) 0 0 (aR g) := by
  refine met_Z (plainFor_of_name rfl) (Nat.le_of_ble_eq_true rfl) ?_
  intro p e s m args below meth c F hr _
  show Z g p l e rm_X5_buy s m args below meth c 5 (MQ below (va_Qv (S := Mem) Q (fun u => Rp g u) (aR g)) args s 0 0 (aR g)) M 0 [(0, .ref (g.2.2.1 + a0)), (1, .ref (g.2.2.1 + a1)), (2, .ref (g.2.2.1 + a2))] []
  refine z_aload_n F dX5_buy_0 rfl rfl 0 rfl ?_
  refine z_getR F fl_376 k0 dX5_buy_1 rfl ?_
  refine z_iconst F dX5_buy_4 rfl ?_
  refine z_cSv (As := [.ref (g.2.2.1 + (rt a0 1)), .int (i3 0)]) (st := []) F (c_J7_fill_53178 l g (tk_5_1 k0) hw) cs_J7_fill_53178 w_846 ⟨rfl, rfl, Nat.le_of_ble_eq_true rfl, Nat.le_of_ble_eq_true rfl⟩ rfl (Nat.le_of_ble_eq_true rfl) dX5_buy_5 rfl (fun M5 hw => ?_)
  refine z_aload_n F dX5_buy_8 rfl rfl 0 rfl ?_
  refine z_iconst F dX5_buy_9 rfl ?_
  refine z_putI F fp_378 k0 dX5_buy_10 rfl ?_
  refine z_nmM (fun M10 eM10 => ?_)
  have hw := hw M10 eM10
  refine z_aload_n F dX5_buy_13 rfl rfl 0 rfl ?_
  refine z_iconst F dX5_buy_14 rfl ?_
  refine z_putI F fp_380 k0 dX5_buy_15 rfl ?_
  refine z_nmM (fun M15 eM15 => ?_)
  have hw := hw M15 eM15
  refine z_aload_n F dX5_buy_18 rfl rfl 2 rfl ?_
  refine z_getI F fl_197 k2 dX5_buy_19 rfl ?_
  refine z_iconst F dX5_buy_22 rfl ?_
  refine z_isub F dX5_buy_23 rfl ?_
  refine z_istore_n F dX5_buy_24 rfl rfl (by decide) rfl ?_
  refine z_sub [1, 2, 3, 0] rfl ?_
  exact lp_X5_buy_25 F hr k0 k1 k2 hw
theorem cv_X5_buy : CV yX5_buy RX5 cX5_buy 5 none 2 := ⟨w_843, w_844, w_77, w_845, rfl, by decide +kernel, by decide +kernel, by decide +kernel⟩
abbrev rm_X6_play : Room := { frames := 1, cells := 0, slots := 0, locals := 24 }
def wp_X6_play_b211 (a0 : Nat) (a1 : Nat) (a2 : Nat) (Q : Mem → Prop) (K33 : Mem → Int → Int → Prop) (M : Mem) (x3 : Int) (x5 : Int) : Prop :=
  inb (rt a0 0) x5 ∧ (
  ∀ M218 : Mem, M218 = st2 M (rt a0 0) (ix x5) x3 →
  K33 M218 x3 (x5 + 1))
def wp_X6_play_b160 (a0 : Nat) (a1 : Nat) (a2 : Nat) (Q : Mem → Prop) (K33 : Mem → Int → Int → Prop) (M : Mem) (s0 : Int) (x5 : Int) : Prop :=
  wp_X8_isLimited a1 x5 M (fun r164 =>
  ((r164 = false → (
    wp_X6_play_b211 a0 a1 a2 Q K33 M s0 x5)) ∧
  (r164 = true → (
    inb (rt a1 4) x5 ∧ (
    (((w64 s0 ≤ w64 (w32 (M (rt a1 4) (ix x5)))) → (
      wp_X6_play_b211 a0 a1 a2 Q K33 M s0 x5)) ∧
    (¬ (w64 s0 ≤ w64 (w32 (M (rt a1 4) (ix x5)))) → (
      inb (rt a1 4) x5 ∧ (
      ∀ M199 : Mem, M199 = st2 M a0 3 ((M a0 3) + (s0 - (w32 (M (rt a1 4) (ix x5))))) →
      inb (rt a1 4) x5 ∧ (
      ∀ v210 : Int, v210 = (w32 (M199 (rt a1 4) (ix x5))) →
      wp_X6_play_b211 a0 a1 a2 Q K33 M199 v210 x5))))))))))
def wp_X6_play_b130 (a0 : Nat) (a1 : Nat) (a2 : Nat) (Q : Mem → Prop) (K33 : Mem → Int → Int → Prop) (M : Mem) (s1 : Int) (s2 : Int) (x5 : Int) (x10 : Int) : Prop :=
  inb (rt a0 2) s1 ∧ (
  ∀ M130 : Mem, M130 = st2 M (rt a0 2) (ix s1) s2 →
  inb (rt a0 2) x5 ∧ (
  ∀ M144 : Mem, M144 = st2 M130 a0 1 ((M130 a0 1) + (M130 (rt a0 2) (ix x5))) →
  (((w64 0 ≤ w64 x10) → (
    wp_X6_play_b160 a0 a1 a2 Q K33 M144 x10 x5)) ∧
  (¬ (w64 0 ≤ w64 x10) → (
    wp_X6_play_b160 a0 a1 a2 Q K33 M144 0 x5)))))
def wp_X6_play_B33 (a0 : Nat) (a1 : Nat) (a2 : Nat) (Q : Mem → Prop) (K33 : Mem → Int → Int → Prop) (M : Mem) (x3 : Int) (x5 : Int) : Prop :=
  (((w32 (M a1 0) ≤ w32 x5) → (
    Q M)) ∧
  (¬ (w32 (M a1 0) ≤ w32 x5) → (
    inb (rt a1 3) x5 ∧ (
    w64 4 ≠ 0 ∧ (
    ∀ v58 : Int, v58 = ((w64 (x3 * (w32 (4 + (M (rt a1 3) (ix x5)))))).tdiv (w64 4)) →
    wp_X8_paidByAll a1 a2 x5 M (fun r64 =>
    ∀ M80 : Mem, M80 = st2 M a0 4 ((M a0 4) + (v58 - x3)) →
    ∀ M91 : Mem, M91 = st2 M80 a0 5 ((M80 a0 5) + (w32 r64)) →
    inb (rt a1 2) x5 ∧ (
    ∀ v108 : Int, v108 = ((v58 + (w32 r64)) - (w32 (M91 (rt a1 2) (ix x5)))) →
    (((w64 0 ≤ w64 v108) → (
      wp_X6_play_b130 a0 a1 a2 Q K33 M91 x5 0 x5 v108)) ∧
    (¬ (w64 0 ≤ w64 v108) → (
      wp_X6_play_b130 a0 a1 a2 Q K33 M91 x5 (-v108) x5 v108))))))))))
def wp_X6_play_L33 (a0 : Nat) (a1 : Nat) (a2 : Nat) (Q : Mem → Prop) (M : Mem) (x3 : Int) (x5 : Int) : Prop :=
  ∃ (I : Mem → Int → Int → Prop) (μ : Mem → Int → Int → Nat), I M x3 x5 ∧ ∀ (M : Mem) (x3 : Int) (x5 : Int), I M x3 x5 →
    wp_X6_play_B33 a0 a1 a2 Q (fun M' x3' x5' => I M' x3' x5' ∧ μ M' x3' x5' < μ M x3 x5) M x3 x5
def wp_X6_play (a0 : Nat) (a1 : Nat) (a2 : Nat) (M : Mem) (Q : Mem → Prop) : Prop :=
  ∀ M5 : Mem, M5 = st2 M a0 6 (M a1 0) →
  ∀ M10 : Mem, M10 = st2 M5 a0 1 0 →
  ∀ M15 : Mem, M15 = st2 M10 a0 3 0 →
  ∀ M20 : Mem, M20 = st2 M15 a0 4 0 →
  ∀ M25 : Mem, M25 = st2 M20 a0 5 0 →
  wp_X6_play_L33 a0 a1 a2 Q M25 0 0
set_option maxRecDepth 100000 in
set_option maxHeartbeats 4000000 in
theorem bk_X6_play_211 {g : En} {p : Program} {l : Launch} {e : Env} {s : State} {m : MethodId} {args : Array Value} {below : List Frame} {meth : Method} {c : Code} {M : Mem} {a0 : Nat} {a1 : Nat} {a2 : Nat} {Q : Mem → Prop} {K33 : Mem → Int → Int → Prop} {x3 : Int} {x5 : Int} (F : Fx g p s m args meth c cX6_play 12 RX6) (hr : meth.sig.returnType = none) (k0 : kd a0 = 6) (k1 : kd a1 = 8) (k2 : kd a2 = 13)
    (hK33 : ∀ (M' : Mem) (x3' : Int) (x5' : Int), K33 M' x3' x5' → Z g p l e rm_X6_play s m args below meth c 12 (MQ below (va_Qv (S := Mem) Q (fun u => Rp g u) (aR g)) args s 0 0 (aR g)) M' 33 [(0, .ref (g.2.2.1 + a0)), (1, .ref (g.2.2.1 + a1)), (2, .ref (g.2.2.1 + a2)), (3, .long (i6 x3')), (5, .int (i3 x5'))] [])
    (hw : wp_X6_play_b211 a0 a1 a2 Q K33 M x3 x5) : Z g p l e rm_X6_play s m args below meth c 12 (MQ below (va_Qv (S := Mem) Q (fun u => Rp g u) (aR g)) args s 0 0 (aR g)) M 211 [(0, .ref (g.2.2.1 + a0)), (1, .ref (g.2.2.1 + a1)), (2, .ref (g.2.2.1 + a2)), (3, .long (i6 x3)), (5, .int (i3 x5))] [] := by
  refine z_aload_n F dX6_play_211 rfl rfl 0 rfl ?_
  refine z_getR F fl_397 k0 dX6_play_212 rfl ?_
  refine z_iload F dX6_play_215 rfl 4 rfl ?_
  refine z_lload_n F dX6_play_217 rfl rfl 3 rfl ?_
  refine z_last F (tk_6_0 k0) dX6_play_218 rfl hw (fun hw => ?_)
  refine z_nmM (fun M218 eM218 => ?_)
  have hw := hw M218 eM218
  refine z_iinc F dX6_play_219 rfl 4 rfl (by decide) rfl ?_
  refine z_goto F dX6_play_222 rfl ?_
  refine z_sub [1, 2, 3, 4, 0] rfl ?_
  exact hK33 M218 x3 (x5 + 1) hw
set_option maxRecDepth 100000 in
set_option maxHeartbeats 4000000 in
theorem bk_X6_play_160 {g : En} {p : Program} {l : Launch} {e : Env} {s : State} {m : MethodId} {args : Array Value} {below : List Frame} {meth : Method} {c : Code} {M : Mem} {a0 : Nat} {a1 : Nat} {a2 : Nat} {Q : Mem → Prop} {K33 : Mem → Int → Int → Prop} {s0 : Int} {x5 : Int} (F : Fx g p s m args meth c cX6_play 12 RX6) (hr : meth.sig.returnType = none) (k0 : kd a0 = 6) (k1 : kd a1 = 8) (k2 : kd a2 = 13)
    (hK33 : ∀ (M' : Mem) (x3' : Int) (x5' : Int), K33 M' x3' x5' → Z g p l e rm_X6_play s m args below meth c 12 (MQ below (va_Qv (S := Mem) Q (fun u => Rp g u) (aR g)) args s 0 0 (aR g)) M' 33 [(0, .ref (g.2.2.1 + a0)), (1, .ref (g.2.2.1 + a1)), (2, .ref (g.2.2.1 + a2)), (3, .long (i6 x3')), (5, .int (i3 x5'))] [])
    (hw : wp_X6_play_b160 a0 a1 a2 Q K33 M s0 x5) : Z g p l e rm_X6_play s m args below meth c 12 (MQ below (va_Qv (S := Mem) Q (fun u => Rp g u) (aR g)) args s 0 0 (aR g)) M 160 [(0, .ref (g.2.2.1 + a0)), (1, .ref (g.2.2.1 + a1)), (2, .ref (g.2.2.1 + a2)), (5, .int (i3 x5))] [.long (i6 s0)] := by
  refine z_lstore_n F dX6_play_160 rfl rfl (by decide) rfl ?_
  refine z_aload_n F dX6_play_161 rfl rfl 2 rfl ?_
  refine z_iload F dX6_play_162 rfl 4 rfl ?_
  refine z_cVbp (As := [.int (i3 x5)]) (st := []) F (c_X8_isLimited l g k1 hw) cv_X8_isLimited w_880 ⟨rfl, rfl, Nat.le_of_ble_eq_true rfl, Nat.le_of_ble_eq_true rfl⟩ k1 rfl rfl (Nat.le_of_ble_eq_true rfl) dX6_play_164 rfl (fun r164 hw => ?_)
  refine z_ifb_eq F dX6_play_167 rfl rfl hw (fun hw => ?_) (fun hw => ?_)
  · refine z_sub [1, 2, 3, 0, 4] rfl ?_
    exact bk_X6_play_211 F hr k0 k1 k2 hK33 hw
  · refine z_lload_n F dX6_play_170 rfl rfl 0 rfl ?_
    refine z_aload_n F dX6_play_171 rfl rfl 2 rfl ?_
    refine z_getR F fl_213 k1 dX6_play_172 rfl ?_
    refine z_iload F dX6_play_175 rfl 4 rfl ?_
    refine z_iald F (tk_8_4 k1) dX6_play_177 rfl hw (fun hw => ?_)
    refine z_i2l F dX6_play_178 rfl ?_
    refine z_lcmp_le F dX6_play_179 rfl dX6_play_180 rfl rfl hw (fun hw => ?_) (fun hw => ?_)
    · refine z_sub [1, 2, 3, 0, 4] rfl ?_
      exact bk_X6_play_211 F hr k0 k1 k2 hK33 hw
    · refine z_aload_n F dX6_play_183 rfl rfl 1 rfl ?_
      refine z_dup F rfl dX6_play_184 rfl ?_
      refine z_getL F fl_402 k0 dX6_play_185 rfl ?_
      refine z_lload_n F dX6_play_188 rfl rfl 0 rfl ?_
      refine z_aload_n F dX6_play_189 rfl rfl 2 rfl ?_
      refine z_getR F fl_213 k1 dX6_play_190 rfl ?_
      refine z_iload F dX6_play_193 rfl 4 rfl ?_
      refine z_iald F (tk_8_4 k1) dX6_play_195 rfl hw (fun hw => ?_)
      refine z_i2l F dX6_play_196 rfl ?_
      refine z_lsub F dX6_play_197 rfl ?_
      refine z_ladd F dX6_play_198 rfl ?_
      refine z_putL F fp_402 k0 dX6_play_199 rfl ?_
      refine z_nmM (fun M199 eM199 => ?_)
      have hw := hw M199 eM199
      refine z_aload_n F dX6_play_202 rfl rfl 2 rfl ?_
      refine z_getR F fl_213 k1 dX6_play_203 rfl ?_
      refine z_iload F dX6_play_206 rfl 4 rfl ?_
      refine z_iald F (tk_8_4 k1) dX6_play_208 rfl hw (fun hw => ?_)
      refine z_i2l F dX6_play_209 rfl ?_
      refine z_nmL (fun v210 ev210 => ?_)
      have hw := hw v210 ev210
      refine z_lstore_n F dX6_play_210 rfl rfl (by decide) rfl ?_
      refine z_sub [1, 2, 3, 0, 4] rfl ?_
      exact bk_X6_play_211 F hr k0 k1 k2 hK33 hw
set_option maxRecDepth 100000 in
set_option maxHeartbeats 4000000 in
theorem bk_X6_play_130 {g : En} {p : Program} {l : Launch} {e : Env} {s : State} {m : MethodId} {args : Array Value} {below : List Frame} {meth : Method} {c : Code} {M : Mem} {a0 : Nat} {a1 : Nat} {a2 : Nat} {Q : Mem → Prop} {K33 : Mem → Int → Int → Prop} {s1 : Int} {s2 : Int} {x5 : Int} {x10 : Int} (F : Fx g p s m args meth c cX6_play 12 RX6) (hr : meth.sig.returnType = none) (k0 : kd a0 = 6) (k1 : kd a1 = 8) (k2 : kd a2 = 13)
    (hK33 : ∀ (M' : Mem) (x3' : Int) (x5' : Int), K33 M' x3' x5' → Z g p l e rm_X6_play s m args below meth c 12 (MQ below (va_Qv (S := Mem) Q (fun u => Rp g u) (aR g)) args s 0 0 (aR g)) M' 33 [(0, .ref (g.2.2.1 + a0)), (1, .ref (g.2.2.1 + a1)), (2, .ref (g.2.2.1 + a2)), (3, .long (i6 x3')), (5, .int (i3 x5'))] [])
    (hw : wp_X6_play_b130 a0 a1 a2 Q K33 M s1 s2 x5 x10) : Z g p l e rm_X6_play s m args below meth c 12 (MQ below (va_Qv (S := Mem) Q (fun u => Rp g u) (aR g)) args s 0 0 (aR g)) M 130 [(0, .ref (g.2.2.1 + a0)), (1, .ref (g.2.2.1 + a1)), (2, .ref (g.2.2.1 + a2)), (5, .int (i3 x5)), (10, .long (i6 x10))] [.long (i6 s2), .int (i3 s1), .ref (g.2.2.1 + (rt a0 2))] := by
  refine z_last F (tk_6_2 k0) dX6_play_130 rfl hw (fun hw => ?_)
  refine z_nmM (fun M130 eM130 => ?_)
  have hw := hw M130 eM130
  refine z_aload_n F dX6_play_131 rfl rfl 0 rfl ?_
  refine z_dup F rfl dX6_play_132 rfl ?_
  refine z_getL F fl_399 k0 dX6_play_133 rfl ?_
  refine z_aload_n F dX6_play_136 rfl rfl 0 rfl ?_
  refine z_getR F fl_401 k0 dX6_play_137 rfl ?_
  refine z_iload F dX6_play_140 rfl 3 rfl ?_
  refine z_lald F (tk_6_2 k0) dX6_play_142 rfl hw (fun hw => ?_)
  refine z_ladd F dX6_play_143 rfl ?_
  refine z_putL F fp_399 k0 dX6_play_144 rfl ?_
  refine z_nmM (fun M144 eM144 => ?_)
  have hw := hw M144 eM144
  refine z_lload F dX6_play_147 rfl 4 rfl ?_
  refine z_lconst (v := 0) F dX6_play_149 rfl rfl ?_
  refine z_lcmp_ge F dX6_play_150 rfl dX6_play_151 rfl rfl hw (fun hw => ?_) (fun hw => ?_)
  · refine z_lload F dX6_play_158 rfl 4 rfl ?_
    refine z_sub [0, 1, 2, 3] rfl ?_
    exact bk_X6_play_160 F hr k0 k1 k2 hK33 hw
  · refine z_lconst (v := 0) F dX6_play_154 rfl rfl ?_
    refine z_goto F dX6_play_155 rfl ?_
    refine z_sub [0, 1, 2, 3] rfl ?_
    exact bk_X6_play_160 F hr k0 k1 k2 hK33 hw
set_option maxRecDepth 100000 in
set_option maxHeartbeats 4000000 in
theorem bk_X6_play_B33 {g : En} {p : Program} {l : Launch} {e : Env} {s : State} {m : MethodId} {args : Array Value} {below : List Frame} {meth : Method} {c : Code} {M : Mem} {a0 : Nat} {a1 : Nat} {a2 : Nat} {Q : Mem → Prop} {K33 : Mem → Int → Int → Prop} {x3 : Int} {x5 : Int} (F : Fx g p s m args meth c cX6_play 12 RX6) (hr : meth.sig.returnType = none) (k0 : kd a0 = 6) (k1 : kd a1 = 8) (k2 : kd a2 = 13)
    (hK33 : ∀ (M' : Mem) (x3' : Int) (x5' : Int), K33 M' x3' x5' → Z g p l e rm_X6_play s m args below meth c 12 (MQ below (va_Qv (S := Mem) Q (fun u => Rp g u) (aR g)) args s 0 0 (aR g)) M' 33 [(0, .ref (g.2.2.1 + a0)), (1, .ref (g.2.2.1 + a1)), (2, .ref (g.2.2.1 + a2)), (3, .long (i6 x3')), (5, .int (i3 x5'))] [])
    (hw : wp_X6_play_B33 a0 a1 a2 Q K33 M x3 x5) : Z g p l e rm_X6_play s m args below meth c 12 (MQ below (va_Qv (S := Mem) Q (fun u => Rp g u) (aR g)) args s 0 0 (aR g)) M 33 [(0, .ref (g.2.2.1 + a0)), (1, .ref (g.2.2.1 + a1)), (2, .ref (g.2.2.1 + a2)), (3, .long (i6 x3)), (5, .int (i3 x5))] [] := by
  refine z_iload F dX6_play_33 rfl 4 rfl ?_
  refine z_aload_n F dX6_play_35 rfl rfl 1 rfl ?_
  refine z_getI F fl_193 k1 dX6_play_36 rfl ?_
  refine z_icmp_ge F dX6_play_39 rfl rfl hw (fun hw => ?_) (fun hw => ?_)
  · exact z_vret F hr dX6_play_225 hw
  · refine z_lload_n F dX6_play_42 rfl rfl 3 rfl ?_
    refine z_iconst F dX6_play_43 rfl ?_
    refine z_aload_n F dX6_play_44 rfl rfl 1 rfl ?_
    refine z_getR F fl_207 k1 dX6_play_45 rfl ?_
    refine z_iload F dX6_play_48 rfl 4 rfl ?_
    refine z_iald F (tk_8_3 k1) dX6_play_50 rfl hw (fun hw => ?_)
    refine z_iadd F dX6_play_51 rfl ?_
    refine z_i2l F dX6_play_52 rfl ?_
    refine z_lmul F dX6_play_53 rfl ?_
    refine z_ldc2 (n := 4) F w_878 (by decide) dX6_play_54 rfl ?_
    refine z_ldiv F dX6_play_57 rfl hw (fun hw => ?_)
    refine z_nmL (fun v58 ev58 => ?_)
    have hw := hw v58 ev58
    refine z_lstore F dX6_play_58 rfl (by decide) rfl ?_
    refine z_aload_n F dX6_play_60 rfl rfl 2 rfl ?_
    refine z_aload_n F dX6_play_61 rfl rfl 3 rfl ?_
    refine z_iload F dX6_play_62 rfl 5 rfl ?_
    refine z_cVip (As := [.ref (g.2.2.1 + a2), .int (i3 x5)]) (st := []) F (c_X8_paidByAll l g k1 k2 hw) cv_X8_paidByAll w_879 ⟨rfl, rfl, Nat.le_of_ble_eq_true rfl, Nat.le_of_ble_eq_true rfl⟩ k1 rfl rfl (Nat.le_of_ble_eq_true rfl) dX6_play_64 rfl (fun r64 hw => ?_)
    refine z_i2l F dX6_play_67 rfl ?_
    refine z_lstore F dX6_play_68 rfl (by decide) rfl ?_
    refine z_aload_n F dX6_play_70 rfl rfl 2 rfl ?_
    refine z_dup F rfl dX6_play_71 rfl ?_
    refine z_getL F fl_403 k0 dX6_play_72 rfl ?_
    refine z_lload F dX6_play_75 rfl 1 rfl ?_
    refine z_lload_n F dX6_play_77 rfl rfl 5 rfl ?_
    refine z_lsub F dX6_play_78 rfl ?_
    refine z_ladd F dX6_play_79 rfl ?_
    refine z_putL F fp_403 k0 dX6_play_80 rfl ?_
    refine z_nmM (fun M80 eM80 => ?_)
    have hw := hw M80 eM80
    refine z_aload_n F dX6_play_83 rfl rfl 2 rfl ?_
    refine z_dup F rfl dX6_play_84 rfl ?_
    refine z_getL F fl_404 k0 dX6_play_85 rfl ?_
    refine z_lload F dX6_play_88 rfl 0 rfl ?_
    refine z_ladd F dX6_play_90 rfl ?_
    refine z_putL F fp_404 k0 dX6_play_91 rfl ?_
    refine z_nmM (fun M91 eM91 => ?_)
    have hw := hw M91 eM91
    refine z_lload F dX6_play_94 rfl 1 rfl ?_
    refine z_lload F dX6_play_96 rfl 0 rfl ?_
    refine z_ladd F dX6_play_98 rfl ?_
    refine z_aload_n F dX6_play_99 rfl rfl 3 rfl ?_
    refine z_getR F fl_202 k1 dX6_play_100 rfl ?_
    refine z_iload F dX6_play_103 rfl 6 rfl ?_
    refine z_iald F (tk_8_2 k1) dX6_play_105 rfl hw (fun hw => ?_)
    refine z_i2l F dX6_play_106 rfl ?_
    refine z_lsub F dX6_play_107 rfl ?_
    refine z_nmL (fun v108 ev108 => ?_)
    have hw := hw v108 ev108
    refine z_lstore F dX6_play_108 rfl (by decide) rfl ?_
    refine z_aload_n F dX6_play_110 rfl rfl 3 rfl ?_
    refine z_getR F fl_401 k0 dX6_play_111 rfl ?_
    refine z_iload F dX6_play_114 rfl 7 rfl ?_
    refine z_lload F dX6_play_116 rfl 0 rfl ?_
    refine z_lconst (v := 0) F dX6_play_118 rfl rfl ?_
    refine z_lcmp_ge F dX6_play_119 rfl dX6_play_120 rfl rfl hw (fun hw => ?_) (fun hw => ?_)
    · refine z_lconst (v := 0) F dX6_play_129 rfl rfl ?_
      refine z_sub [3, 4, 5, 7, 0] rfl ?_
      exact bk_X6_play_130 F hr k0 k1 k2 hK33 hw
    · refine z_lload F dX6_play_123 rfl 0 rfl ?_
      refine z_lneg F dX6_play_125 rfl ?_
      refine z_goto F dX6_play_126 rfl ?_
      refine z_sub [3, 4, 5, 7, 0] rfl ?_
      exact bk_X6_play_130 F hr k0 k1 k2 hK33 hw
set_option maxRecDepth 100000 in
set_option maxHeartbeats 4000000 in
theorem lp_X6_play_33 {g : En} {p : Program} {l : Launch} {e : Env} {s : State} {m : MethodId} {args : Array Value} {below : List Frame} {meth : Method} {c : Code} {M : Mem} {a0 : Nat} {a1 : Nat} {a2 : Nat} {Q : Mem → Prop} {x3 : Int} {x5 : Int} (F : Fx g p s m args meth c cX6_play 12 RX6) (hr : meth.sig.returnType = none) (k0 : kd a0 = 6) (k1 : kd a1 = 8) (k2 : kd a2 = 13)
    (hw : wp_X6_play_L33 a0 a1 a2 Q M x3 x5) : Z g p l e rm_X6_play s m args below meth c 12 (MQ below (va_Qv (S := Mem) Q (fun u => Rp g u) (aR g)) args s 0 0 (aR g)) M 33 [(0, .ref (g.2.2.1 + a0)), (1, .ref (g.2.2.1 + a1)), (2, .ref (g.2.2.1 + a2)), (3, .long (i6 x3)), (5, .int (i3 x5))] [] := by
  obtain ⟨I, μ, h0, hb⟩ := hw
  have key : ∀ (n : Nat) (M : Mem) (x3 : Int) (x5 : Int), I M x3 x5 → μ M x3 x5 < n → Z g p l e rm_X6_play s m args below meth c 12 (MQ below (va_Qv (S := Mem) Q (fun u => Rp g u) (aR g)) args s 0 0 (aR g)) M 33 [(0, .ref (g.2.2.1 + a0)), (1, .ref (g.2.2.1 + a1)), (2, .ref (g.2.2.1 + a2)), (3, .long (i6 x3)), (5, .int (i3 x5))] [] := by
    intro n
    induction n with
    | zero => exact fun _ _ _ _ h => absurd h (Nat.not_lt_zero _)
    | succ n ih =>
      intro M x3 x5 hI hn
      exact bk_X6_play_B33 F hr k0 k1 k2 (fun M' x3' x5' hk => ih M' x3' x5' hk.1 (Nat.lt_of_lt_of_le hk.2 (Nat.le_of_lt_succ hn))) (hb M x3 x5 hI)
  exact key _ M x3 x5 h0 (Nat.lt_succ_self _)
set_option maxRecDepth 100000 in
set_option maxHeartbeats 4000000 in
theorem c_X6_play (l : Launch) (g : En) {a0 : Nat} {a1 : Nat} {a2 : Nat} {M : Mem} {Q : Mem → Prop} (k0 : kd a0 = 6) (k1 : kd a1 = 8) (k2 : kd a2 = 13) (hw : wp_X6_play a0 a1 a2 M Q) :
    Met l yX6_play (WS yX6_play cX6_play 12 none) rm_X6_play (va_Pc [.ref (g.2.2.1 + a0), .ref (g.2.2.1 + a1), .ref (g.2.2.1 + a2)] (Rp g M)) (va_Qv (S := Mem) Q (fun u => Rp g u) (aR g)) 0 0 (aR g) := by
  refine met_Z (plainFor_of_name rfl) (Nat.le_of_ble_eq_true rfl) ?_
  intro p e s m args below meth c F hr _
  show Z g p l e rm_X6_play s m args below meth c 12 (MQ below (va_Qv (S := Mem) Q (fun u => Rp g u) (aR g)) args s 0 0 (aR g)) M 0 [(0, .ref (g.2.2.1 + a0)), (1, .ref (g.2.2.1 + a1)), (2, .ref (g.2.2.1 + a2))] []
  refine z_aload_n F dX6_play_0 rfl rfl 0 rfl ?_
  refine z_aload_n F dX6_play_1 rfl rfl 1 rfl ?_
  refine z_getI F fl_193 k1 dX6_play_2 rfl ?_
  refine z_putI F fp_405 k0 dX6_play_5 rfl ?_
  refine z_nmM (fun M5 eM5 => ?_)
  have hw := hw M5 eM5
  refine z_aload_n F dX6_play_8 rfl rfl 0 rfl ?_
  refine z_lconst (v := 0) F dX6_play_9 rfl rfl ?_
  refine z_putL F fp_399 k0 dX6_play_10 rfl ?_
  refine z_nmM (fun M10 eM10 => ?_)
  have hw := hw M10 eM10
  refine z_aload_n F dX6_play_13 rfl rfl 0 rfl ?_
  refine z_lconst (v := 0) F dX6_play_14 rfl rfl ?_
  refine z_putL F fp_402 k0 dX6_play_15 rfl ?_
  refine z_nmM (fun M15 eM15 => ?_)
  have hw := hw M15 eM15
  refine z_aload_n F dX6_play_18 rfl rfl 0 rfl ?_
  refine z_lconst (v := 0) F dX6_play_19 rfl rfl ?_
  refine z_putL F fp_403 k0 dX6_play_20 rfl ?_
  refine z_nmM (fun M20 eM20 => ?_)
  have hw := hw M20 eM20
  refine z_aload_n F dX6_play_23 rfl rfl 0 rfl ?_
  refine z_lconst (v := 0) F dX6_play_24 rfl rfl ?_
  refine z_putL F fp_404 k0 dX6_play_25 rfl ?_
  refine z_nmM (fun M25 eM25 => ?_)
  have hw := hw M25 eM25
  refine z_lconst (v := 0) F dX6_play_28 rfl rfl ?_
  refine z_lstore_n F dX6_play_29 rfl rfl (by decide) rfl ?_
  refine z_iconst F dX6_play_30 rfl ?_
  refine z_istore F dX6_play_31 rfl (by decide) rfl ?_
  refine z_sub [2, 3, 4, 1, 0] rfl ?_
  exact lp_X6_play_33 F hr k0 k1 k2 hw
theorem cv_X6_play : CV yX6_play RX6 cX6_play 12 none 2 := ⟨w_875, w_876, w_78, w_877, rfl, by decide +kernel, by decide +kernel, by decide +kernel⟩
abbrev rm_X6_tell : Room := { frames := 0, cells := 0, slots := 0, locals := 0 }
def wp_X6_tell (a0 : Nat) (a1 : Int) (M : Mem) (Q : Int → Prop) : Prop :=
  ((w32 a1 = 20 → (
    Q (M a0 1))) ∧
  (w32 a1 = 21 → (
    Q (M a0 3))) ∧
  (w32 a1 = 22 → (
    Q (M a0 4))) ∧
  (w32 a1 = 23 → (
    Q (M a0 5))) ∧
  ((w32 a1 < 20 ∨ 23 < w32 a1) → (
    (((w32 10 ≤ w32 a1) → (
      inb (rt a0 2) (a1 - 10) ∧ (
      Q (M (rt a0 2) (ix (a1 - 10)))))) ∧
    (¬ (w32 10 ≤ w32 a1) → (
      inb (rt a0 0) a1 ∧ (
      Q (M (rt a0 0) (ix a1)))))))))
set_option maxRecDepth 100000 in
set_option maxHeartbeats 4000000 in
theorem c_X6_tell (l : Launch) (g : En) {a0 : Nat} {a1 : Int} {M : Mem} {Q : Int → Prop} (k0 : kd a0 = 6) (hw : wp_X6_tell a0 a1 M Q) :
    Met l yX6_tell (WS yX6_tell cX6_tell 2 (some .long)) rm_X6_tell (va_Pc [.ref (g.2.2.1 + a0), .int (i3 a1)] (Rp g M)) (va_Ql (S := Int × Mem) (fun r u => r = i6 u.1 ∧ (u.2 = M ∧ Q u.1)) (fun u => Rp g u.2) (aR g)) 0 0 (aR g) := by
  refine met_Z (plainFor_of_name rfl) (Nat.le_of_ble_eq_true rfl) ?_
  intro p e s m args below meth c F hr _
  show Z g p l e rm_X6_tell s m args below meth c 2 (MQ below (va_Ql (S := Int × Mem) (fun r u => r = i6 u.1 ∧ (u.2 = M ∧ Q u.1)) (fun u => Rp g u.2) (aR g)) args s 0 0 (aR g)) M 0 [(0, .ref (g.2.2.1 + a0)), (1, .int (i3 a1))] []
  refine z_iload_n F dX6_tell_0 rfl rfl 1 rfl ?_
  by_cases e1_0 : w32 a1 = 20
  · refine z_swcase F 20 dX6_tell_1 e1_0 (by decide) (by decide) rfl rfl ?_
    have hw := hw.1 e1_0
    refine z_aload_n F dX6_tell_32 rfl rfl 0 rfl ?_
    refine z_getL F fl_399 k0 dX6_tell_33 rfl ?_
    exact z_lretp (x := (M a0 1)) F hr dX6_tell_36 hw
  · skip
    by_cases e1_1 : w32 a1 = 21
    · refine z_swcase F 21 dX6_tell_1 e1_1 (by decide) (by decide) rfl rfl ?_
      have hw := hw.2.1 e1_1
      refine z_aload_n F dX6_tell_37 rfl rfl 0 rfl ?_
      refine z_getL F fl_402 k0 dX6_tell_38 rfl ?_
      exact z_lretp (x := (M a0 3)) F hr dX6_tell_41 hw
    · skip
      by_cases e1_2 : w32 a1 = 22
      · refine z_swcase F 22 dX6_tell_1 e1_2 (by decide) (by decide) rfl rfl ?_
        have hw := hw.2.2.1 e1_2
        refine z_aload_n F dX6_tell_42 rfl rfl 0 rfl ?_
        refine z_getL F fl_403 k0 dX6_tell_43 rfl ?_
        exact z_lretp (x := (M a0 4)) F hr dX6_tell_46 hw
      · skip
        by_cases e1_3 : w32 a1 = 23
        · refine z_swcase F 23 dX6_tell_1 e1_3 (by decide) (by decide) rfl rfl ?_
          have hw := hw.2.2.2.1 e1_3
          refine z_aload_n F dX6_tell_47 rfl rfl 0 rfl ?_
          refine z_getL F fl_404 k0 dX6_tell_48 rfl ?_
          exact z_lretp (x := (M a0 5)) F hr dX6_tell_51 hw
        · skip
          have h9 : w32 a1 < 20 ∨ 23 < w32 a1 := by omega
          refine z_swout F dX6_tell_1 h9 rfl ?_
          have hw := hw.2.2.2.2 h9
          refine z_iload_n F dX6_tell_52 rfl rfl 1 rfl ?_
          refine z_bipush F dX6_tell_53 (by decide) rfl ?_
          refine z_icmp_ge F dX6_tell_55 rfl rfl hw (fun hw => ?_) (fun hw => ?_)
          · refine z_aload_n F dX6_tell_67 rfl rfl 0 rfl ?_
            refine z_getR F fl_401 k0 dX6_tell_68 rfl ?_
            refine z_iload_n F dX6_tell_71 rfl rfl 1 rfl ?_
            refine z_bipush F dX6_tell_72 (by decide) rfl ?_
            refine z_isub F dX6_tell_74 rfl ?_
            refine z_lald F (tk_6_2 k0) dX6_tell_75 rfl hw (fun hw => ?_)
            exact z_lretp (x := (M (rt a0 2) (ix (a1 - 10)))) F hr dX6_tell_76 hw
          · refine z_aload_n F dX6_tell_58 rfl rfl 0 rfl ?_
            refine z_getR F fl_397 k0 dX6_tell_59 rfl ?_
            refine z_iload_n F dX6_tell_62 rfl rfl 1 rfl ?_
            refine z_lald F (tk_6_0 k0) dX6_tell_63 rfl hw (fun hw => ?_)
            refine z_goto F dX6_tell_64 rfl ?_
            exact z_lretp (x := (M (rt a0 0) (ix a1))) F hr dX6_tell_76 hw
theorem cv_X6_tell : CV yX6_tell RX6 cX6_tell 2 (some .long) 1 := ⟨w_882, w_883, w_78, w_884, rfl, by decide +kernel, by decide +kernel, by decide +kernel⟩
abbrev rm_X6_firstOtherwise : Room := { frames := 0, cells := 0, slots := 0, locals := 0 }
def wp_X6_firstOtherwise_B2 (a0 : Nat) (a1 : Nat) (Q : Int → Prop) (K2 : Int → Prop) (M : Mem) (x2 : Int) : Prop :=
  (((w32 (M a1 2) ≤ w32 x2) → (
    Q (-1))) ∧
  (¬ (w32 (M a1 2) ≤ w32 x2) → (
    (((w32 (M a0 6) ≤ w32 x2) → (
      Q x2)) ∧
    (¬ (w32 (M a0 6) ≤ w32 x2) → (
      inb (rt a1 0) x2 ∧ (
      inb (rt a0 0) x2 ∧ (
      (((w64 (w32 (M (rt a1 0) (ix x2))) = w64 (M (rt a0 0) (ix x2))) → (
        K2 (x2 + 1))) ∧
      (¬ (w64 (w32 (M (rt a1 0) (ix x2))) = w64 (M (rt a0 0) (ix x2))) → (
        Q x2)))))))))))
def wp_X6_firstOtherwise_L2 (a0 : Nat) (a1 : Nat) (Q : Int → Prop) (M : Mem) (x2 : Int) : Prop :=
  ∃ (I : Int → Prop) (μ : Int → Nat), I x2 ∧ ∀ (x2 : Int), I x2 →
    wp_X6_firstOtherwise_B2 a0 a1 Q (fun x2' => I x2' ∧ μ x2' < μ x2) M x2
def wp_X6_firstOtherwise (a0 : Nat) (a1 : Nat) (M : Mem) (Q : Int → Prop) : Prop :=
  wp_X6_firstOtherwise_L2 a0 a1 Q M 0
set_option maxRecDepth 100000 in
set_option maxHeartbeats 4000000 in
theorem bk_X6_firstOtherwise_B2 {g : En} {p : Program} {l : Launch} {e : Env} {s : State} {m : MethodId} {args : Array Value} {below : List Frame} {meth : Method} {c : Code} {M : Mem} {a0 : Nat} {a1 : Nat} {Q : Int → Prop} {K2 : Int → Prop} {x2 : Int} (F : Fx g p s m args meth c cX6_firstOtherwise 3 RX6) (hr : meth.sig.returnType = (some .int)) (k0 : kd a0 = 6) (k1 : kd a1 = 9)
    (hK2 : ∀ (x2' : Int), K2 x2' → Z g p l e rm_X6_firstOtherwise s m args below meth c 3 (MQ below (va_Qi (S := Int × Mem) (fun r u => r = i3 u.1 ∧ (u.2 = M ∧ Q u.1)) (fun u => Rp g u.2) (aR g)) args s 0 0 (aR g)) M 2 [(0, .ref (g.2.2.1 + a0)), (1, .ref (g.2.2.1 + a1)), (2, .int (i3 x2'))] [])
    (hw : wp_X6_firstOtherwise_B2 a0 a1 Q K2 M x2) : Z g p l e rm_X6_firstOtherwise s m args below meth c 3 (MQ below (va_Qi (S := Int × Mem) (fun r u => r = i3 u.1 ∧ (u.2 = M ∧ Q u.1)) (fun u => Rp g u.2) (aR g)) args s 0 0 (aR g)) M 2 [(0, .ref (g.2.2.1 + a0)), (1, .ref (g.2.2.1 + a1)), (2, .int (i3 x2))] [] := by
  refine z_iload_n F dX6_firstOtherwise_2 rfl rfl 2 rfl ?_
  refine z_aload_n F dX6_firstOtherwise_3 rfl rfl 1 rfl ?_
  refine z_getI F fl_436 k1 dX6_firstOtherwise_4 rfl ?_
  refine z_icmp_ge F dX6_firstOtherwise_7 rfl rfl hw (fun hw => ?_) (fun hw => ?_)
  · refine z_iconst F dX6_firstOtherwise_43 rfl ?_
    exact z_iretp (x := (-1)) F hr dX6_firstOtherwise_44 hw
  · refine z_iload_n F dX6_firstOtherwise_10 rfl rfl 2 rfl ?_
    refine z_aload_n F dX6_firstOtherwise_11 rfl rfl 0 rfl ?_
    refine z_getI F fl_405 k0 dX6_firstOtherwise_12 rfl ?_
    refine z_icmp_ge F dX6_firstOtherwise_15 rfl rfl hw (fun hw => ?_) (fun hw => ?_)
    · refine z_iload_n F dX6_firstOtherwise_35 rfl rfl 2 rfl ?_
      exact z_iretp (x := x2) F hr dX6_firstOtherwise_36 hw
    · refine z_aload_n F dX6_firstOtherwise_18 rfl rfl 1 rfl ?_
      refine z_getR F fl_431 k1 dX6_firstOtherwise_19 rfl ?_
      refine z_iload_n F dX6_firstOtherwise_22 rfl rfl 2 rfl ?_
      refine z_iald F (tk_9_0 k1) dX6_firstOtherwise_23 rfl hw (fun hw => ?_)
      refine z_i2l F dX6_firstOtherwise_24 rfl ?_
      refine z_aload_n F dX6_firstOtherwise_25 rfl rfl 0 rfl ?_
      refine z_getR F fl_397 k0 dX6_firstOtherwise_26 rfl ?_
      refine z_iload_n F dX6_firstOtherwise_29 rfl rfl 2 rfl ?_
      refine z_lald F (tk_6_0 k0) dX6_firstOtherwise_30 rfl hw (fun hw => ?_)
      refine z_lcmp_eq F dX6_firstOtherwise_31 rfl dX6_firstOtherwise_32 rfl rfl hw (fun hw => ?_) (fun hw => ?_)
      · refine z_iinc F dX6_firstOtherwise_37 rfl 2 rfl (by decide) rfl ?_
        refine z_goto F dX6_firstOtherwise_40 rfl ?_
        refine z_sub [1, 2, 0] rfl ?_
        exact hK2 (x2 + 1) hw
      · refine z_iload_n F dX6_firstOtherwise_35 rfl rfl 2 rfl ?_
        exact z_iretp (x := x2) F hr dX6_firstOtherwise_36 hw
set_option maxRecDepth 100000 in
set_option maxHeartbeats 4000000 in
theorem lp_X6_firstOtherwise_2 {g : En} {p : Program} {l : Launch} {e : Env} {s : State} {m : MethodId} {args : Array Value} {below : List Frame} {meth : Method} {c : Code} {M : Mem} {a0 : Nat} {a1 : Nat} {Q : Int → Prop} {x2 : Int} (F : Fx g p s m args meth c cX6_firstOtherwise 3 RX6) (hr : meth.sig.returnType = (some .int)) (k0 : kd a0 = 6) (k1 : kd a1 = 9)
    (hw : wp_X6_firstOtherwise_L2 a0 a1 Q M x2) : Z g p l e rm_X6_firstOtherwise s m args below meth c 3 (MQ below (va_Qi (S := Int × Mem) (fun r u => r = i3 u.1 ∧ (u.2 = M ∧ Q u.1)) (fun u => Rp g u.2) (aR g)) args s 0 0 (aR g)) M 2 [(0, .ref (g.2.2.1 + a0)), (1, .ref (g.2.2.1 + a1)), (2, .int (i3 x2))] [] := by
  obtain ⟨I, μ, h0, hb⟩ := hw
  have key : ∀ (n : Nat) (x2 : Int), I x2 → μ x2 < n → Z g p l e rm_X6_firstOtherwise s m args below meth c 3 (MQ below (va_Qi (S := Int × Mem) (fun r u => r = i3 u.1 ∧ (u.2 = M ∧ Q u.1)) (fun u => Rp g u.2) (aR g)) args s 0 0 (aR g)) M 2 [(0, .ref (g.2.2.1 + a0)), (1, .ref (g.2.2.1 + a1)), (2, .int (i3 x2))] [] := by
    intro n
    induction n with
    | zero => exact fun _ _ h => absurd h (Nat.not_lt_zero _)
    | succ n ih =>
      intro x2 hI hn
      exact bk_X6_firstOtherwise_B2 F hr k0 k1 (fun x2' hk => ih x2' hk.1 (Nat.lt_of_lt_of_le hk.2 (Nat.le_of_lt_succ hn))) (hb x2 hI)
  exact key _ x2 h0 (Nat.lt_succ_self _)
set_option maxRecDepth 100000 in
set_option maxHeartbeats 4000000 in
theorem c_X6_firstOtherwise (l : Launch) (g : En) {a0 : Nat} {a1 : Nat} {M : Mem} {Q : Int → Prop} (k0 : kd a0 = 6) (k1 : kd a1 = 9) (hw : wp_X6_firstOtherwise a0 a1 M Q) :
    Met l yX6_firstOtherwise (WS yX6_firstOtherwise cX6_firstOtherwise 3 (some .int)) rm_X6_firstOtherwise (va_Pc [.ref (g.2.2.1 + a0), .ref (g.2.2.1 + a1)] (Rp g M)) (va_Qi (S := Int × Mem) (fun r u => r = i3 u.1 ∧ (u.2 = M ∧ Q u.1)) (fun u => Rp g u.2) (aR g)) 0 0 (aR g) := by
  refine met_Z (plainFor_of_name rfl) (Nat.le_of_ble_eq_true rfl) ?_
  intro p e s m args below meth c F hr _
  show Z g p l e rm_X6_firstOtherwise s m args below meth c 3 (MQ below (va_Qi (S := Int × Mem) (fun r u => r = i3 u.1 ∧ (u.2 = M ∧ Q u.1)) (fun u => Rp g u.2) (aR g)) args s 0 0 (aR g)) M 0 [(0, .ref (g.2.2.1 + a0)), (1, .ref (g.2.2.1 + a1))] []
  refine z_iconst F dX6_firstOtherwise_0 rfl ?_
  refine z_istore_n F dX6_firstOtherwise_1 rfl rfl (by decide) rfl ?_
  refine z_sub [1, 2, 0] rfl ?_
  exact lp_X6_firstOtherwise_2 F hr k0 k1 hw
theorem cv_X6_firstOtherwise : CV yX6_firstOtherwise RX6 cX6_firstOtherwise 3 (some .int) 1 := ⟨w_908, w_909, w_78, w_910, rfl, by decide +kernel, by decide +kernel, by decide +kernel⟩
abbrev rm_X8_layRungs : Room := { frames := 0, cells := 0, slots := 0, locals := 0 }
def wp_X8_layRungs_B108 (a0 : Nat) (a1 : Nat) (Q : Mem → Prop) (K108 : Mem → Int → Prop) (M : Mem) (x2 : Int) : Prop :=
  (((w32 x2 < w32 1) → (
    Q M)) ∧
  (¬ (w32 x2 < w32 1) → (
    inb (rt a0 5) x2 ∧ (
    (((¬ w32 (M (rt a0 5) (ix x2)) = w32 (M a0 0)) → (
      Q M)) ∧
    (¬ (¬ w32 (M (rt a0 5) (ix x2)) = w32 (M a0 0)) → (
      inb (rt a0 5) x2 ∧ (
      ∀ M132 : Mem, M132 = st2 M (rt a0 5) (ix x2) (-1) →
      K108 M132 (x2 + (-1))))))))))
def wp_X8_layRungs_L108 (a0 : Nat) (a1 : Nat) (Q : Mem → Prop) (M : Mem) (x2 : Int) : Prop :=
  ∃ (I : Mem → Int → Prop) (μ : Mem → Int → Nat), I M x2 ∧ ∀ (M : Mem) (x2 : Int), I M x2 →
    wp_X8_layRungs_B108 a0 a1 Q (fun M' x2' => I M' x2' ∧ μ M' x2' < μ M x2) M x2
def wp_X8_layRungs_b99 (a0 : Nat) (a1 : Nat) (Q : Mem → Prop) (K7 : Mem → Int → Prop) (M : Mem) (x2 : Int) : Prop :=
  K7 M (x2 + 1)
def wp_X8_layRungs_B7 (a0 : Nat) (a1 : Nat) (Q : Mem → Prop) (K7 : Mem → Int → Prop) (M : Mem) (x2 : Int) : Prop :=
  (((w32 60 < w32 x2) → (
    wp_X8_layRungs_L108 a0 a1 Q M 60)) ∧
  (¬ (w32 60 < w32 x2) → (
    inb (rt a0 5) x2 ∧ (
    ∀ M22 : Mem, M22 = st2 M (rt a0 5) (ix x2) (M a0 0) →
    inb (rt (rt a1 0) 0) x2 ∧ (
    (((w32 (M22 (rt (rt a1 0) 0) (ix x2)) ≤ 0) → (
      wp_X8_layRungs_b99 a0 a1 Q K7 M22 x2)) ∧
    (¬ (w32 (M22 (rt (rt a1 0) 0) (ix x2)) ≤ 0) → (
      (((w32 5 ≤ w32 (M22 a0 0)) → (
        wp_X8_layRungs_b99 a0 a1 Q K7 M22 x2)) ∧
      (¬ (w32 5 ≤ w32 (M22 a0 0)) → (
        inb (rt a0 1) (M22 a0 0) ∧ (
        ∀ M52 : Mem, M52 = st2 M22 (rt a0 1) (ix (M22 a0 0)) x2 →
        inb (rt (rt a1 0) 0) x2 ∧ (
        inb (rt a0 2) (M52 a0 0) ∧ (
        ∀ M70 : Mem, M70 = st2 M52 (rt a0 2) (ix (M52 a0 0)) (M52 (rt (rt a1 0) 0) (ix x2)) →
        inb (rt (rt a1 2) 0) x2 ∧ (
        inb (rt a0 4) (M70 a0 0) ∧ (
        ∀ M88 : Mem, M88 = st2 M70 (rt a0 4) (ix (M70 a0 0)) (M70 (rt (rt a1 2) 0) (ix x2)) →
        ∀ M96 : Mem, M96 = st2 M88 a0 0 ((M88 a0 0) + 1) →
        wp_X8_layRungs_b99 a0 a1 Q K7 M96 x2))))))))))))))))
def wp_X8_layRungs_L7 (a0 : Nat) (a1 : Nat) (Q : Mem → Prop) (M : Mem) (x2 : Int) : Prop :=
  ∃ (I : Mem → Int → Prop) (μ : Mem → Int → Nat), I M x2 ∧ ∀ (M : Mem) (x2 : Int), I M x2 →
    wp_X8_layRungs_B7 a0 a1 Q (fun M' x2' => I M' x2' ∧ μ M' x2' < μ M x2) M x2
def wp_X8_layRungs (a0 : Nat) (a1 : Nat) (M : Mem) (Q : Mem → Prop) : Prop :=
  ∀ M2 : Mem, M2 = st2 M a0 0 0 →
  wp_X8_layRungs_L7 a0 a1 Q M2 1
set_option maxRecDepth 100000 in
set_option maxHeartbeats 4000000 in
theorem bk_X8_layRungs_B108 {g : En} {p : Program} {l : Launch} {e : Env} {s : State} {m : MethodId} {args : Array Value} {below : List Frame} {meth : Method} {c : Code} {M : Mem} {a0 : Nat} {a1 : Nat} {Q : Mem → Prop} {K108 : Mem → Int → Prop} {x2 : Int} (F : Fx g p s m args meth c cX8_layRungs 3 RX8) (hr : meth.sig.returnType = none) (k0 : kd a0 = 8) (k1 : kd a1 = 1)
    (hK108 : ∀ (M' : Mem) (x2' : Int), K108 M' x2' → Z g p l e rm_X8_layRungs s m args below meth c 3 (MQ below (va_Qv (S := Mem) Q (fun u => Rp g u) (aR g)) args s 0 0 (aR g)) M' 108 [(0, .ref (g.2.2.1 + a0)), (2, .int (i3 x2'))] [])
    (hw : wp_X8_layRungs_B108 a0 a1 Q K108 M x2) : Z g p l e rm_X8_layRungs s m args below meth c 3 (MQ below (va_Qv (S := Mem) Q (fun u => Rp g u) (aR g)) args s 0 0 (aR g)) M 108 [(0, .ref (g.2.2.1 + a0)), (2, .int (i3 x2))] [] := by
  refine z_iload_n F dX8_layRungs_108 rfl rfl 1 rfl ?_
  refine z_iconst F dX8_layRungs_109 rfl ?_
  refine z_icmp_lt F dX8_layRungs_110 rfl rfl hw (fun hw => ?_) (fun hw => ?_)
  · exact z_vret F hr dX8_layRungs_139 hw
  · refine z_aload_n F dX8_layRungs_113 rfl rfl 0 rfl ?_
    refine z_getR F fl_215 k0 dX8_layRungs_114 rfl ?_
    refine z_iload_n F dX8_layRungs_117 rfl rfl 1 rfl ?_
    refine z_iald F (tk_8_5 k0) dX8_layRungs_118 rfl hw (fun hw => ?_)
    refine z_aload_n F dX8_layRungs_119 rfl rfl 0 rfl ?_
    refine z_getI F fl_196 k0 dX8_layRungs_120 rfl ?_
    refine z_icmp_ne F dX8_layRungs_123 rfl rfl hw (fun hw => ?_) (fun hw => ?_)
    · exact z_vret F hr dX8_layRungs_139 hw
    · refine z_aload_n F dX8_layRungs_126 rfl rfl 0 rfl ?_
      refine z_getR F fl_215 k0 dX8_layRungs_127 rfl ?_
      refine z_iload_n F dX8_layRungs_130 rfl rfl 1 rfl ?_
      refine z_iconst F dX8_layRungs_131 rfl ?_
      refine z_iast F (tk_8_5 k0) dX8_layRungs_132 rfl hw (fun hw => ?_)
      refine z_nmM (fun M132 eM132 => ?_)
      have hw := hw M132 eM132
      refine z_iinc F dX8_layRungs_133 rfl 1 rfl (by decide) rfl ?_
      refine z_goto F dX8_layRungs_136 rfl ?_
      refine z_sub [1, 0] rfl ?_
      exact hK108 M132 (x2 + (-1)) hw
set_option maxRecDepth 100000 in
set_option maxHeartbeats 4000000 in
theorem lp_X8_layRungs_108 {g : En} {p : Program} {l : Launch} {e : Env} {s : State} {m : MethodId} {args : Array Value} {below : List Frame} {meth : Method} {c : Code} {M : Mem} {a0 : Nat} {a1 : Nat} {Q : Mem → Prop} {x2 : Int} (F : Fx g p s m args meth c cX8_layRungs 3 RX8) (hr : meth.sig.returnType = none) (k0 : kd a0 = 8) (k1 : kd a1 = 1)
    (hw : wp_X8_layRungs_L108 a0 a1 Q M x2) : Z g p l e rm_X8_layRungs s m args below meth c 3 (MQ below (va_Qv (S := Mem) Q (fun u => Rp g u) (aR g)) args s 0 0 (aR g)) M 108 [(0, .ref (g.2.2.1 + a0)), (2, .int (i3 x2))] [] := by
  obtain ⟨I, μ, h0, hb⟩ := hw
  have key : ∀ (n : Nat) (M : Mem) (x2 : Int), I M x2 → μ M x2 < n → Z g p l e rm_X8_layRungs s m args below meth c 3 (MQ below (va_Qv (S := Mem) Q (fun u => Rp g u) (aR g)) args s 0 0 (aR g)) M 108 [(0, .ref (g.2.2.1 + a0)), (2, .int (i3 x2))] [] := by
    intro n
    induction n with
    | zero => exact fun _ _ _ h => absurd h (Nat.not_lt_zero _)
    | succ n ih =>
      intro M x2 hI hn
      exact bk_X8_layRungs_B108 F hr k0 k1 (fun M' x2' hk => ih M' x2' hk.1 (Nat.lt_of_lt_of_le hk.2 (Nat.le_of_lt_succ hn))) (hb M x2 hI)
  exact key _ M x2 h0 (Nat.lt_succ_self _)
set_option maxRecDepth 100000 in
set_option maxHeartbeats 4000000 in
theorem bk_X8_layRungs_99 {g : En} {p : Program} {l : Launch} {e : Env} {s : State} {m : MethodId} {args : Array Value} {below : List Frame} {meth : Method} {c : Code} {M : Mem} {a0 : Nat} {a1 : Nat} {Q : Mem → Prop} {K7 : Mem → Int → Prop} {x2 : Int} (F : Fx g p s m args meth c cX8_layRungs 3 RX8) (hr : meth.sig.returnType = none) (k0 : kd a0 = 8) (k1 : kd a1 = 1)
    (hK7 : ∀ (M' : Mem) (x2' : Int), K7 M' x2' → Z g p l e rm_X8_layRungs s m args below meth c 3 (MQ below (va_Qv (S := Mem) Q (fun u => Rp g u) (aR g)) args s 0 0 (aR g)) M' 7 [(0, .ref (g.2.2.1 + a0)), (1, .ref (g.2.2.1 + a1)), (2, .int (i3 x2'))] [])
    (hw : wp_X8_layRungs_b99 a0 a1 Q K7 M x2) : Z g p l e rm_X8_layRungs s m args below meth c 3 (MQ below (va_Qv (S := Mem) Q (fun u => Rp g u) (aR g)) args s 0 0 (aR g)) M 99 [(0, .ref (g.2.2.1 + a0)), (1, .ref (g.2.2.1 + a1)), (2, .int (i3 x2))] [] := by
  refine z_iinc F dX8_layRungs_99 rfl 2 rfl (by decide) rfl ?_
  refine z_goto F dX8_layRungs_102 rfl ?_
  refine z_sub [1, 2, 0] rfl ?_
  exact hK7 M (x2 + 1) hw
set_option maxRecDepth 100000 in
set_option maxHeartbeats 4000000 in
theorem bk_X8_layRungs_B7 {g : En} {p : Program} {l : Launch} {e : Env} {s : State} {m : MethodId} {args : Array Value} {below : List Frame} {meth : Method} {c : Code} {M : Mem} {a0 : Nat} {a1 : Nat} {Q : Mem → Prop} {K7 : Mem → Int → Prop} {x2 : Int} (F : Fx g p s m args meth c cX8_layRungs 3 RX8) (hr : meth.sig.returnType = none) (k0 : kd a0 = 8) (k1 : kd a1 = 1)
    (hK7 : ∀ (M' : Mem) (x2' : Int), K7 M' x2' → Z g p l e rm_X8_layRungs s m args below meth c 3 (MQ below (va_Qv (S := Mem) Q (fun u => Rp g u) (aR g)) args s 0 0 (aR g)) M' 7 [(0, .ref (g.2.2.1 + a0)), (1, .ref (g.2.2.1 + a1)), (2, .int (i3 x2'))] [])
    (hw : wp_X8_layRungs_B7 a0 a1 Q K7 M x2) : Z g p l e rm_X8_layRungs s m args below meth c 3 (MQ below (va_Qv (S := Mem) Q (fun u => Rp g u) (aR g)) args s 0 0 (aR g)) M 7 [(0, .ref (g.2.2.1 + a0)), (1, .ref (g.2.2.1 + a1)), (2, .int (i3 x2))] [] := by
  refine z_iload_n F dX8_layRungs_7 rfl rfl 2 rfl ?_
  refine z_bipush F dX8_layRungs_8 (by decide) rfl ?_
  refine z_icmp_gt F dX8_layRungs_10 rfl rfl hw (fun hw => ?_) (fun hw => ?_)
  · refine z_bipush F dX8_layRungs_105 (by decide) rfl ?_
    refine z_istore_n F dX8_layRungs_107 rfl rfl (by decide) rfl ?_
    refine z_sub [1, 0] rfl ?_
    exact lp_X8_layRungs_108 F hr k0 k1 hw
  · refine z_aload_n F dX8_layRungs_13 rfl rfl 0 rfl ?_
    refine z_getR F fl_215 k0 dX8_layRungs_14 rfl ?_
    refine z_iload_n F dX8_layRungs_17 rfl rfl 2 rfl ?_
    refine z_aload_n F dX8_layRungs_18 rfl rfl 0 rfl ?_
    refine z_getI F fl_196 k0 dX8_layRungs_19 rfl ?_
    refine z_iast F (tk_8_5 k0) dX8_layRungs_22 rfl hw (fun hw => ?_)
    refine z_nmM (fun M22 eM22 => ?_)
    have hw := hw M22 eM22
    refine z_aload_n F dX8_layRungs_23 rfl rfl 1 rfl ?_
    refine z_getR F fl_157 k1 dX8_layRungs_24 rfl ?_
    refine z_getR F fl_108 (tk_1_0 k1) dX8_layRungs_27 rfl ?_
    refine z_iload_n F dX8_layRungs_30 rfl rfl 2 rfl ?_
    refine z_iald F (tk_2_0 (tk_1_0 k1)) dX8_layRungs_31 rfl hw (fun hw => ?_)
    refine z_if_le F dX8_layRungs_32 rfl rfl hw (fun hw => ?_) (fun hw => ?_)
    · refine z_sub [0, 1, 2] rfl ?_
      exact bk_X8_layRungs_99 F hr k0 k1 hK7 hw
    · refine z_aload_n F dX8_layRungs_35 rfl rfl 0 rfl ?_
      refine z_getI F fl_196 k0 dX8_layRungs_36 rfl ?_
      refine z_iconst F dX8_layRungs_39 rfl ?_
      refine z_icmp_ge F dX8_layRungs_40 rfl rfl hw (fun hw => ?_) (fun hw => ?_)
      · refine z_sub [0, 1, 2] rfl ?_
        exact bk_X8_layRungs_99 F hr k0 k1 hK7 hw
      · refine z_aload_n F dX8_layRungs_43 rfl rfl 0 rfl ?_
        refine z_getR F fl_199 k0 dX8_layRungs_44 rfl ?_
        refine z_aload_n F dX8_layRungs_47 rfl rfl 0 rfl ?_
        refine z_getI F fl_196 k0 dX8_layRungs_48 rfl ?_
        refine z_iload_n F dX8_layRungs_51 rfl rfl 2 rfl ?_
        refine z_iast F (tk_8_1 k0) dX8_layRungs_52 rfl hw (fun hw => ?_)
        refine z_nmM (fun M52 eM52 => ?_)
        have hw := hw M52 eM52
        refine z_aload_n F dX8_layRungs_53 rfl rfl 0 rfl ?_
        refine z_getR F fl_201 k0 dX8_layRungs_54 rfl ?_
        refine z_aload_n F dX8_layRungs_57 rfl rfl 0 rfl ?_
        refine z_getI F fl_196 k0 dX8_layRungs_58 rfl ?_
        refine z_aload_n F dX8_layRungs_61 rfl rfl 1 rfl ?_
        refine z_getR F fl_157 k1 dX8_layRungs_62 rfl ?_
        refine z_getR F fl_108 (tk_1_0 k1) dX8_layRungs_65 rfl ?_
        refine z_iload_n F dX8_layRungs_68 rfl rfl 2 rfl ?_
        refine z_iald F (tk_2_0 (tk_1_0 k1)) dX8_layRungs_69 rfl hw (fun hw => ?_)
        refine z_iast F (tk_8_2 k0) dX8_layRungs_70 rfl hw (fun hw => ?_)
        refine z_nmM (fun M70 eM70 => ?_)
        have hw := hw M70 eM70
        refine z_aload_n F dX8_layRungs_71 rfl rfl 0 rfl ?_
        refine z_getR F fl_211 k0 dX8_layRungs_72 rfl ?_
        refine z_aload_n F dX8_layRungs_75 rfl rfl 0 rfl ?_
        refine z_getI F fl_196 k0 dX8_layRungs_76 rfl ?_
        refine z_aload_n F dX8_layRungs_79 rfl rfl 1 rfl ?_
        refine z_getR F fl_163 k1 dX8_layRungs_80 rfl ?_
        refine z_getR F fl_108 (tk_1_2 k1) dX8_layRungs_83 rfl ?_
        refine z_iload_n F dX8_layRungs_86 rfl rfl 2 rfl ?_
        refine z_iald F (tk_2_0 (tk_1_2 k1)) dX8_layRungs_87 rfl hw (fun hw => ?_)
        refine z_iast F (tk_8_4 k0) dX8_layRungs_88 rfl hw (fun hw => ?_)
        refine z_nmM (fun M88 eM88 => ?_)
        have hw := hw M88 eM88
        refine z_aload_n F dX8_layRungs_89 rfl rfl 0 rfl ?_
        refine z_dup F rfl dX8_layRungs_90 rfl ?_
        refine z_getI F fl_196 k0 dX8_layRungs_91 rfl ?_
        refine z_iconst F dX8_layRungs_94 rfl ?_
        refine z_iadd F dX8_layRungs_95 rfl ?_
        refine z_putI F fp_196 k0 dX8_layRungs_96 rfl ?_
        refine z_nmM (fun M96 eM96 => ?_)
        have hw := hw M96 eM96
        refine z_sub [0, 1, 2] rfl ?_
        exact bk_X8_layRungs_99 F hr k0 k1 hK7 hw
set_option maxRecDepth 100000 in
set_option maxHeartbeats 4000000 in
theorem lp_X8_layRungs_7 {g : En} {p : Program} {l : Launch} {e : Env} {s : State} {m : MethodId} {args : Array Value} {below : List Frame} {meth : Method} {c : Code} {M : Mem} {a0 : Nat} {a1 : Nat} {Q : Mem → Prop} {x2 : Int} (F : Fx g p s m args meth c cX8_layRungs 3 RX8) (hr : meth.sig.returnType = none) (k0 : kd a0 = 8) (k1 : kd a1 = 1)
    (hw : wp_X8_layRungs_L7 a0 a1 Q M x2) : Z g p l e rm_X8_layRungs s m args below meth c 3 (MQ below (va_Qv (S := Mem) Q (fun u => Rp g u) (aR g)) args s 0 0 (aR g)) M 7 [(0, .ref (g.2.2.1 + a0)), (1, .ref (g.2.2.1 + a1)), (2, .int (i3 x2))] [] := by
  obtain ⟨I, μ, h0, hb⟩ := hw
  have key : ∀ (n : Nat) (M : Mem) (x2 : Int), I M x2 → μ M x2 < n → Z g p l e rm_X8_layRungs s m args below meth c 3 (MQ below (va_Qv (S := Mem) Q (fun u => Rp g u) (aR g)) args s 0 0 (aR g)) M 7 [(0, .ref (g.2.2.1 + a0)), (1, .ref (g.2.2.1 + a1)), (2, .int (i3 x2))] [] := by
    intro n
    induction n with
    | zero => exact fun _ _ _ h => absurd h (Nat.not_lt_zero _)
    | succ n ih =>
      intro M x2 hI hn
      exact bk_X8_layRungs_B7 F hr k0 k1 (fun M' x2' hk => ih M' x2' hk.1 (Nat.lt_of_lt_of_le hk.2 (Nat.le_of_lt_succ hn))) (hb M x2 hI)
  exact key _ M x2 h0 (Nat.lt_succ_self _)
set_option maxRecDepth 100000 in
set_option maxHeartbeats 4000000 in
theorem c_X8_layRungs (l : Launch) (g : En) {a0 : Nat} {a1 : Nat} {M : Mem} {Q : Mem → Prop} (k0 : kd a0 = 8) (k1 : kd a1 = 1) (hw : wp_X8_layRungs a0 a1 M Q) :
    Met l yX8_layRungs (WS yX8_layRungs cX8_layRungs 3 none) rm_X8_layRungs (va_Pc [.ref (g.2.2.1 + a0), .ref (g.2.2.1 + a1)] (Rp g M)) (va_Qv (S := Mem) Q (fun u => Rp g u) (aR g)) 0 0 (aR g) := by
  refine met_Z (plainFor_of_name rfl) (Nat.le_of_ble_eq_true rfl) ?_
  intro p e s m args below meth c F hr _
  show Z g p l e rm_X8_layRungs s m args below meth c 3 (MQ below (va_Qv (S := Mem) Q (fun u => Rp g u) (aR g)) args s 0 0 (aR g)) M 0 [(0, .ref (g.2.2.1 + a0)), (1, .ref (g.2.2.1 + a1))] []
  refine z_aload_n F dX8_layRungs_0 rfl rfl 0 rfl ?_
  refine z_iconst F dX8_layRungs_1 rfl ?_
  refine z_putI F fp_196 k0 dX8_layRungs_2 rfl ?_
  refine z_nmM (fun M2 eM2 => ?_)
  have hw := hw M2 eM2
  refine z_iconst F dX8_layRungs_5 rfl ?_
  refine z_istore_n F dX8_layRungs_6 rfl rfl (by decide) rfl ?_
  refine z_sub [1, 2, 0] rfl ?_
  exact lp_X8_layRungs_7 F hr k0 k1 hw
theorem cv_X8_layRungs : CV yX8_layRungs RX8 cX8_layRungs 3 none 1 := ⟨w_540, w_1, w_72, w_541, rfl, by decide +kernel, by decide +kernel, by decide +kernel⟩
abbrev rm_X8_layRates : Room := { frames := 0, cells := 0, slots := 0, locals := 0 }
def wp_X8_layRates_B76 (a0 : Nat) (a1 : Nat) (a2 : Nat) (Q : Mem → Prop) (K76 : Mem → Int → Prop) (M : Mem) (x4 : Int) : Prop :=
  (((w32 (M a0 0) ≤ w32 x4) → (
    Q M)) ∧
  (¬ (w32 (M a0 0) ≤ w32 x4) → (
    inb (rt a0 1) x4 ∧ (
    inb (rt a0 6) (M (rt a0 1) (ix x4)) ∧ (
    inb (rt a0 3) x4 ∧ (
    ∀ M103 : Mem, M103 = st2 M (rt a0 3) (ix x4) (M (rt a0 6) (ix (M (rt a0 1) (ix x4)))) →
    K76 M103 (x4 + 1)))))))
def wp_X8_layRates_L76 (a0 : Nat) (a1 : Nat) (a2 : Nat) (Q : Mem → Prop) (M : Mem) (x4 : Int) : Prop :=
  ∃ (I : Mem → Int → Prop) (μ : Mem → Int → Nat), I M x4 ∧ ∀ (M : Mem) (x4 : Int), I M x4 →
    wp_X8_layRates_B76 a0 a1 a2 Q (fun M' x4' => I M' x4' ∧ μ M' x4' < μ M x4) M x4
def wp_X8_layRates_b66 (a0 : Nat) (a1 : Nat) (a2 : Nat) (Q : Mem → Prop) (K5 : Mem → Int → Int → Prop) (M : Mem) (s1 : Int) (s2 : Int) (x3 : Int) (x4 : Int) : Prop :=
  inb (rt a0 6) s1 ∧ (
  ∀ M66 : Mem, M66 = st2 M (rt a0 6) (ix s1) s2 →
  K5 M66 x3 (x4 + 1))
def wp_X8_layRates_b58 (a0 : Nat) (a1 : Nat) (a2 : Nat) (Q : Mem → Prop) (K5 : Mem → Int → Int → Prop) (M : Mem) (s1 : Int) (x3 : Int) (x4 : Int) : Prop :=
  wp_X8_layRates_b66 a0 a1 a2 Q K5 M s1 x3 x3 x4
def wp_X8_layRates_b28 (a0 : Nat) (a1 : Nat) (a2 : Nat) (Q : Mem → Prop) (K5 : Mem → Int → Int → Prop) (M : Mem) (s0 : Int) (x4 : Int) : Prop :=
  inb (rt a0 5) x4 ∧ (
  (((w32 (M (rt a0 5) (ix x4)) = w32 (-1)) → (
    wp_X8_layRates_b58 a0 a1 a2 Q K5 M x4 s0 x4)) ∧
  (¬ (w32 (M (rt a0 5) (ix x4)) = w32 (-1)) → (
    inb a2 (M (rt a0 5) (ix x4)) ∧ (
    (((¬ w32 (M a2 (ix (M (rt a0 5) (ix x4)))) = w32 (-1)) → (
      inb a2 (M (rt a0 5) (ix x4)) ∧ (
      wp_X8_layRates_b66 a0 a1 a2 Q K5 M x4 (M a2 (ix (M (rt a0 5) (ix x4)))) s0 x4))) ∧
    (¬ (¬ w32 (M a2 (ix (M (rt a0 5) (ix x4)))) = w32 (-1)) → (
      wp_X8_layRates_b58 a0 a1 a2 Q K5 M x4 s0 x4))))))))
def wp_X8_layRates_B5 (a0 : Nat) (a1 : Nat) (a2 : Nat) (Q : Mem → Prop) (K5 : Mem → Int → Int → Prop) (M : Mem) (x3 : Int) (x4 : Int) : Prop :=
  (((w32 60 < w32 x4) → (
    wp_X8_layRates_L76 a0 a1 a2 Q M 0)) ∧
  (¬ (w32 60 < w32 x4) → (
    inb a1 x4 ∧ (
    (((¬ w32 (M a1 (ix x4)) = w32 (-1)) → (
      inb a1 x4 ∧ (
      wp_X8_layRates_b28 a0 a1 a2 Q K5 M (M a1 (ix x4)) x4))) ∧
    (¬ (¬ w32 (M a1 (ix x4)) = w32 (-1)) → (
      wp_X8_layRates_b28 a0 a1 a2 Q K5 M x3 x4)))))))
def wp_X8_layRates_L5 (a0 : Nat) (a1 : Nat) (a2 : Nat) (Q : Mem → Prop) (M : Mem) (x3 : Int) (x4 : Int) : Prop :=
  ∃ (I : Mem → Int → Int → Prop) (μ : Mem → Int → Int → Nat), I M x3 x4 ∧ ∀ (M : Mem) (x3 : Int) (x4 : Int), I M x3 x4 →
    wp_X8_layRates_B5 a0 a1 a2 Q (fun M' x3' x4' => I M' x3' x4' ∧ μ M' x3' x4' < μ M x3 x4) M x3 x4
def wp_X8_layRates (a0 : Nat) (a1 : Nat) (a2 : Nat) (M : Mem) (Q : Mem → Prop) : Prop :=
  wp_X8_layRates_L5 a0 a1 a2 Q M 0 1
set_option maxRecDepth 100000 in
set_option maxHeartbeats 4000000 in
theorem bk_X8_layRates_B76 {g : En} {p : Program} {l : Launch} {e : Env} {s : State} {m : MethodId} {args : Array Value} {below : List Frame} {meth : Method} {c : Code} {M : Mem} {a0 : Nat} {a1 : Nat} {a2 : Nat} {Q : Mem → Prop} {K76 : Mem → Int → Prop} {x4 : Int} (F : Fx g p s m args meth c cX8_layRates 6 RX8) (hr : meth.sig.returnType = none) (k0 : kd a0 = 8) (k1 : kd a1 = 13) (k2 : kd a2 = 13)
    (hK76 : ∀ (M' : Mem) (x4' : Int), K76 M' x4' → Z g p l e rm_X8_layRates s m args below meth c 6 (MQ below (va_Qv (S := Mem) Q (fun u => Rp g u) (aR g)) args s 0 0 (aR g)) M' 76 [(0, .ref (g.2.2.1 + a0)), (4, .int (i3 x4'))] [])
    (hw : wp_X8_layRates_B76 a0 a1 a2 Q K76 M x4) : Z g p l e rm_X8_layRates s m args below meth c 6 (MQ below (va_Qv (S := Mem) Q (fun u => Rp g u) (aR g)) args s 0 0 (aR g)) M 76 [(0, .ref (g.2.2.1 + a0)), (4, .int (i3 x4))] [] := by
  refine z_iload F dX8_layRates_76 rfl 1 rfl ?_
  refine z_aload_n F dX8_layRates_78 rfl rfl 0 rfl ?_
  refine z_getI F fl_196 k0 dX8_layRates_79 rfl ?_
  refine z_icmp_ge F dX8_layRates_82 rfl rfl hw (fun hw => ?_) (fun hw => ?_)
  · exact z_vret F hr dX8_layRates_110 hw
  · refine z_aload_n F dX8_layRates_85 rfl rfl 0 rfl ?_
    refine z_getR F fl_206 k0 dX8_layRates_86 rfl ?_
    refine z_iload F dX8_layRates_89 rfl 1 rfl ?_
    refine z_aload_n F dX8_layRates_91 rfl rfl 0 rfl ?_
    refine z_getR F fl_217 k0 dX8_layRates_92 rfl ?_
    refine z_aload_n F dX8_layRates_95 rfl rfl 0 rfl ?_
    refine z_getR F fl_199 k0 dX8_layRates_96 rfl ?_
    refine z_iload F dX8_layRates_99 rfl 1 rfl ?_
    refine z_iald F (tk_8_1 k0) dX8_layRates_101 rfl hw (fun hw => ?_)
    refine z_iald F (tk_8_6 k0) dX8_layRates_102 rfl hw (fun hw => ?_)
    refine z_iast F (tk_8_3 k0) dX8_layRates_103 rfl hw (fun hw => ?_)
    refine z_nmM (fun M103 eM103 => ?_)
    have hw := hw M103 eM103
    refine z_iinc F dX8_layRates_104 rfl 1 rfl (by decide) rfl ?_
    refine z_goto F dX8_layRates_107 rfl ?_
    refine z_sub [1, 0] rfl ?_
    exact hK76 M103 (x4 + 1) hw
set_option maxRecDepth 100000 in
set_option maxHeartbeats 4000000 in
theorem lp_X8_layRates_76 {g : En} {p : Program} {l : Launch} {e : Env} {s : State} {m : MethodId} {args : Array Value} {below : List Frame} {meth : Method} {c : Code} {M : Mem} {a0 : Nat} {a1 : Nat} {a2 : Nat} {Q : Mem → Prop} {x4 : Int} (F : Fx g p s m args meth c cX8_layRates 6 RX8) (hr : meth.sig.returnType = none) (k0 : kd a0 = 8) (k1 : kd a1 = 13) (k2 : kd a2 = 13)
    (hw : wp_X8_layRates_L76 a0 a1 a2 Q M x4) : Z g p l e rm_X8_layRates s m args below meth c 6 (MQ below (va_Qv (S := Mem) Q (fun u => Rp g u) (aR g)) args s 0 0 (aR g)) M 76 [(0, .ref (g.2.2.1 + a0)), (4, .int (i3 x4))] [] := by
  obtain ⟨I, μ, h0, hb⟩ := hw
  have key : ∀ (n : Nat) (M : Mem) (x4 : Int), I M x4 → μ M x4 < n → Z g p l e rm_X8_layRates s m args below meth c 6 (MQ below (va_Qv (S := Mem) Q (fun u => Rp g u) (aR g)) args s 0 0 (aR g)) M 76 [(0, .ref (g.2.2.1 + a0)), (4, .int (i3 x4))] [] := by
    intro n
    induction n with
    | zero => exact fun _ _ _ h => absurd h (Nat.not_lt_zero _)
    | succ n ih =>
      intro M x4 hI hn
      exact bk_X8_layRates_B76 F hr k0 k1 k2 (fun M' x4' hk => ih M' x4' hk.1 (Nat.lt_of_lt_of_le hk.2 (Nat.le_of_lt_succ hn))) (hb M x4 hI)
  exact key _ M x4 h0 (Nat.lt_succ_self _)
set_option maxRecDepth 100000 in
set_option maxHeartbeats 4000000 in
theorem bk_X8_layRates_66 {g : En} {p : Program} {l : Launch} {e : Env} {s : State} {m : MethodId} {args : Array Value} {below : List Frame} {meth : Method} {c : Code} {M : Mem} {a0 : Nat} {a1 : Nat} {a2 : Nat} {Q : Mem → Prop} {K5 : Mem → Int → Int → Prop} {s1 : Int} {s2 : Int} {x3 : Int} {x4 : Int} (F : Fx g p s m args meth c cX8_layRates 6 RX8) (hr : meth.sig.returnType = none) (k0 : kd a0 = 8) (k1 : kd a1 = 13) (k2 : kd a2 = 13)
    (hK5 : ∀ (M' : Mem) (x3' : Int) (x4' : Int), K5 M' x3' x4' → Z g p l e rm_X8_layRates s m args below meth c 6 (MQ below (va_Qv (S := Mem) Q (fun u => Rp g u) (aR g)) args s 0 0 (aR g)) M' 5 [(0, .ref (g.2.2.1 + a0)), (1, .ref (g.2.2.1 + a1)), (2, .ref (g.2.2.1 + a2)), (3, .int (i3 x3')), (4, .int (i3 x4'))] [])
    (hw : wp_X8_layRates_b66 a0 a1 a2 Q K5 M s1 s2 x3 x4) : Z g p l e rm_X8_layRates s m args below meth c 6 (MQ below (va_Qv (S := Mem) Q (fun u => Rp g u) (aR g)) args s 0 0 (aR g)) M 66 [(0, .ref (g.2.2.1 + a0)), (1, .ref (g.2.2.1 + a1)), (2, .ref (g.2.2.1 + a2)), (3, .int (i3 x3)), (4, .int (i3 x4))] [.int (i3 s2), .int (i3 s1), .ref (g.2.2.1 + (rt a0 6))] := by
  refine z_iast F (tk_8_6 k0) dX8_layRates_66 rfl hw (fun hw => ?_)
  refine z_nmM (fun M66 eM66 => ?_)
  have hw := hw M66 eM66
  refine z_iinc F dX8_layRates_67 rfl 4 rfl (by decide) rfl ?_
  refine z_goto F dX8_layRates_70 rfl ?_
  refine z_sub [1, 2, 3, 4, 0] rfl ?_
  exact hK5 M66 x3 (x4 + 1) hw
set_option maxRecDepth 100000 in
set_option maxHeartbeats 4000000 in
theorem bk_X8_layRates_58 {g : En} {p : Program} {l : Launch} {e : Env} {s : State} {m : MethodId} {args : Array Value} {below : List Frame} {meth : Method} {c : Code} {M : Mem} {a0 : Nat} {a1 : Nat} {a2 : Nat} {Q : Mem → Prop} {K5 : Mem → Int → Int → Prop} {s1 : Int} {x3 : Int} {x4 : Int} (F : Fx g p s m args meth c cX8_layRates 6 RX8) (hr : meth.sig.returnType = none) (k0 : kd a0 = 8) (k1 : kd a1 = 13) (k2 : kd a2 = 13)
    (hK5 : ∀ (M' : Mem) (x3' : Int) (x4' : Int), K5 M' x3' x4' → Z g p l e rm_X8_layRates s m args below meth c 6 (MQ below (va_Qv (S := Mem) Q (fun u => Rp g u) (aR g)) args s 0 0 (aR g)) M' 5 [(0, .ref (g.2.2.1 + a0)), (1, .ref (g.2.2.1 + a1)), (2, .ref (g.2.2.1 + a2)), (3, .int (i3 x3')), (4, .int (i3 x4'))] [])
    (hw : wp_X8_layRates_b58 a0 a1 a2 Q K5 M s1 x3 x4) : Z g p l e rm_X8_layRates s m args below meth c 6 (MQ below (va_Qv (S := Mem) Q (fun u => Rp g u) (aR g)) args s 0 0 (aR g)) M 58 [(0, .ref (g.2.2.1 + a0)), (1, .ref (g.2.2.1 + a1)), (2, .ref (g.2.2.1 + a2)), (3, .int (i3 x3)), (4, .int (i3 x4))] [.int (i3 s1), .ref (g.2.2.1 + (rt a0 6))] := by
  refine z_iload_n F dX8_layRates_58 rfl rfl 3 rfl ?_
  refine z_goto F dX8_layRates_59 rfl ?_
  refine z_sub [0, 1, 2, 3, 4] rfl ?_
  exact bk_X8_layRates_66 F hr k0 k1 k2 hK5 hw
set_option maxRecDepth 100000 in
set_option maxHeartbeats 4000000 in
theorem bk_X8_layRates_28 {g : En} {p : Program} {l : Launch} {e : Env} {s : State} {m : MethodId} {args : Array Value} {below : List Frame} {meth : Method} {c : Code} {M : Mem} {a0 : Nat} {a1 : Nat} {a2 : Nat} {Q : Mem → Prop} {K5 : Mem → Int → Int → Prop} {s0 : Int} {x4 : Int} (F : Fx g p s m args meth c cX8_layRates 6 RX8) (hr : meth.sig.returnType = none) (k0 : kd a0 = 8) (k1 : kd a1 = 13) (k2 : kd a2 = 13)
    (hK5 : ∀ (M' : Mem) (x3' : Int) (x4' : Int), K5 M' x3' x4' → Z g p l e rm_X8_layRates s m args below meth c 6 (MQ below (va_Qv (S := Mem) Q (fun u => Rp g u) (aR g)) args s 0 0 (aR g)) M' 5 [(0, .ref (g.2.2.1 + a0)), (1, .ref (g.2.2.1 + a1)), (2, .ref (g.2.2.1 + a2)), (3, .int (i3 x3')), (4, .int (i3 x4'))] [])
    (hw : wp_X8_layRates_b28 a0 a1 a2 Q K5 M s0 x4) : Z g p l e rm_X8_layRates s m args below meth c 6 (MQ below (va_Qv (S := Mem) Q (fun u => Rp g u) (aR g)) args s 0 0 (aR g)) M 28 [(0, .ref (g.2.2.1 + a0)), (1, .ref (g.2.2.1 + a1)), (2, .ref (g.2.2.1 + a2)), (4, .int (i3 x4))] [.int (i3 s0)] := by
  refine z_istore_n F dX8_layRates_28 rfl rfl (by decide) rfl ?_
  refine z_aload_n F dX8_layRates_29 rfl rfl 1 rfl ?_
  refine z_getR F fl_215 k0 dX8_layRates_30 rfl ?_
  refine z_iload F dX8_layRates_33 rfl 4 rfl ?_
  refine z_iald F (tk_8_5 k0) dX8_layRates_35 rfl hw (fun hw => ?_)
  refine z_istore F dX8_layRates_36 rfl (by decide) rfl ?_
  refine z_aload_n F dX8_layRates_38 rfl rfl 2 rfl ?_
  refine z_getR F fl_217 k0 dX8_layRates_39 rfl ?_
  refine z_iload F dX8_layRates_42 rfl 5 rfl ?_
  refine z_iload F dX8_layRates_44 rfl 0 rfl ?_
  refine z_iconst F dX8_layRates_46 rfl ?_
  refine z_icmp_eq F dX8_layRates_47 rfl rfl hw (fun hw => ?_) (fun hw => ?_)
  · refine z_sub [2, 3, 4, 1, 5] rfl ?_
    exact bk_X8_layRates_58 F hr k0 k1 k2 hK5 hw
  · refine z_aload_n F dX8_layRates_50 rfl rfl 4 rfl ?_
    refine z_iload F dX8_layRates_51 rfl 0 rfl ?_
    refine z_iald F k2 dX8_layRates_53 rfl hw (fun hw => ?_)
    refine z_iconst F dX8_layRates_54 rfl ?_
    refine z_icmp_ne F dX8_layRates_55 rfl rfl hw (fun hw => ?_) (fun hw => ?_)
    · refine z_aload_n F dX8_layRates_62 rfl rfl 4 rfl ?_
      refine z_iload F dX8_layRates_63 rfl 0 rfl ?_
      refine z_iald F k2 dX8_layRates_65 rfl hw (fun hw => ?_)
      refine z_sub [2, 3, 4, 1, 5] rfl ?_
      exact bk_X8_layRates_66 F hr k0 k1 k2 hK5 hw
    · refine z_sub [2, 3, 4, 1, 5] rfl ?_
      exact bk_X8_layRates_58 F hr k0 k1 k2 hK5 hw
set_option maxRecDepth 100000 in
set_option maxHeartbeats 4000000 in
theorem bk_X8_layRates_B5 {g : En} {p : Program} {l : Launch} {e : Env} {s : State} {m : MethodId} {args : Array Value} {below : List Frame} {meth : Method} {c : Code} {M : Mem} {a0 : Nat} {a1 : Nat} {a2 : Nat} {Q : Mem → Prop} {K5 : Mem → Int → Int → Prop} {x3 : Int} {x4 : Int} (F : Fx g p s m args meth c cX8_layRates 6 RX8) (hr : meth.sig.returnType = none) (k0 : kd a0 = 8) (k1 : kd a1 = 13) (k2 : kd a2 = 13)
    (hK5 : ∀ (M' : Mem) (x3' : Int) (x4' : Int), K5 M' x3' x4' → Z g p l e rm_X8_layRates s m args below meth c 6 (MQ below (va_Qv (S := Mem) Q (fun u => Rp g u) (aR g)) args s 0 0 (aR g)) M' 5 [(0, .ref (g.2.2.1 + a0)), (1, .ref (g.2.2.1 + a1)), (2, .ref (g.2.2.1 + a2)), (3, .int (i3 x3')), (4, .int (i3 x4'))] [])
    (hw : wp_X8_layRates_B5 a0 a1 a2 Q K5 M x3 x4) : Z g p l e rm_X8_layRates s m args below meth c 6 (MQ below (va_Qv (S := Mem) Q (fun u => Rp g u) (aR g)) args s 0 0 (aR g)) M 5 [(0, .ref (g.2.2.1 + a0)), (1, .ref (g.2.2.1 + a1)), (2, .ref (g.2.2.1 + a2)), (3, .int (i3 x3)), (4, .int (i3 x4))] [] := by
  refine z_iload F dX8_layRates_5 rfl 4 rfl ?_
  refine z_bipush F dX8_layRates_7 (by decide) rfl ?_
  refine z_icmp_gt F dX8_layRates_9 rfl rfl hw (fun hw => ?_) (fun hw => ?_)
  · refine z_iconst F dX8_layRates_73 rfl ?_
    refine z_istore F dX8_layRates_74 rfl (by decide) rfl ?_
    refine z_sub [1, 0] rfl ?_
    exact lp_X8_layRates_76 F hr k0 k1 k2 hw
  · refine z_aload_n F dX8_layRates_12 rfl rfl 1 rfl ?_
    refine z_iload F dX8_layRates_13 rfl 4 rfl ?_
    refine z_iald F k1 dX8_layRates_15 rfl hw (fun hw => ?_)
    refine z_iconst F dX8_layRates_16 rfl ?_
    refine z_icmp_ne F dX8_layRates_17 rfl rfl hw (fun hw => ?_) (fun hw => ?_)
    · refine z_aload_n F dX8_layRates_24 rfl rfl 1 rfl ?_
      refine z_iload F dX8_layRates_25 rfl 4 rfl ?_
      refine z_iald F k1 dX8_layRates_27 rfl hw (fun hw => ?_)
      refine z_sub [0, 1, 2, 4] rfl ?_
      exact bk_X8_layRates_28 F hr k0 k1 k2 hK5 hw
    · refine z_iload_n F dX8_layRates_20 rfl rfl 3 rfl ?_
      refine z_goto F dX8_layRates_21 rfl ?_
      refine z_sub [0, 1, 2, 4] rfl ?_
      exact bk_X8_layRates_28 F hr k0 k1 k2 hK5 hw
set_option maxRecDepth 100000 in
set_option maxHeartbeats 4000000 in
theorem lp_X8_layRates_5 {g : En} {p : Program} {l : Launch} {e : Env} {s : State} {m : MethodId} {args : Array Value} {below : List Frame} {meth : Method} {c : Code} {M : Mem} {a0 : Nat} {a1 : Nat} {a2 : Nat} {Q : Mem → Prop} {x3 : Int} {x4 : Int} (F : Fx g p s m args meth c cX8_layRates 6 RX8) (hr : meth.sig.returnType = none) (k0 : kd a0 = 8) (k1 : kd a1 = 13) (k2 : kd a2 = 13)
    (hw : wp_X8_layRates_L5 a0 a1 a2 Q M x3 x4) : Z g p l e rm_X8_layRates s m args below meth c 6 (MQ below (va_Qv (S := Mem) Q (fun u => Rp g u) (aR g)) args s 0 0 (aR g)) M 5 [(0, .ref (g.2.2.1 + a0)), (1, .ref (g.2.2.1 + a1)), (2, .ref (g.2.2.1 + a2)), (3, .int (i3 x3)), (4, .int (i3 x4))] [] := by
  obtain ⟨I, μ, h0, hb⟩ := hw
  have key : ∀ (n : Nat) (M : Mem) (x3 : Int) (x4 : Int), I M x3 x4 → μ M x3 x4 < n → Z g p l e rm_X8_layRates s m args below meth c 6 (MQ below (va_Qv (S := Mem) Q (fun u => Rp g u) (aR g)) args s 0 0 (aR g)) M 5 [(0, .ref (g.2.2.1 + a0)), (1, .ref (g.2.2.1 + a1)), (2, .ref (g.2.2.1 + a2)), (3, .int (i3 x3)), (4, .int (i3 x4))] [] := by
    intro n
    induction n with
    | zero => exact fun _ _ _ _ h => absurd h (Nat.not_lt_zero _)
    | succ n ih =>
      intro M x3 x4 hI hn
      exact bk_X8_layRates_B5 F hr k0 k1 k2 (fun M' x3' x4' hk => ih M' x3' x4' hk.1 (Nat.lt_of_lt_of_le hk.2 (Nat.le_of_lt_succ hn))) (hb M x3 x4 hI)
  exact key _ M x3 x4 h0 (Nat.lt_succ_self _)
set_option maxRecDepth 100000 in
set_option maxHeartbeats 4000000 in
theorem c_X8_layRates (l : Launch) (g : En) {a0 : Nat} {a1 : Nat} {a2 : Nat} {M : Mem} {Q : Mem → Prop} (k0 : kd a0 = 8) (k1 : kd a1 = 13) (k2 : kd a2 = 13) (hw : wp_X8_layRates a0 a1 a2 M Q) :
    Met l yX8_layRates (WS yX8_layRates cX8_layRates 6 none) rm_X8_layRates (va_Pc [.ref (g.2.2.1 + a0), .ref (g.2.2.1 + a1), .ref (g.2.2.1 + a2)] (Rp g M)) (va_Qv (S := Mem) Q (fun u => Rp g u) (aR g)) 0 0 (aR g) := by
  refine met_Z (plainFor_of_name rfl) (Nat.le_of_ble_eq_true rfl) ?_
  intro p e s m args below meth c F hr _
  show Z g p l e rm_X8_layRates s m args below meth c 6 (MQ below (va_Qv (S := Mem) Q (fun u => Rp g u) (aR g)) args s 0 0 (aR g)) M 0 [(0, .ref (g.2.2.1 + a0)), (1, .ref (g.2.2.1 + a1)), (2, .ref (g.2.2.1 + a2))] []
  refine z_iconst F dX8_layRates_0 rfl ?_
  refine z_istore_n F dX8_layRates_1 rfl rfl (by decide) rfl ?_
  refine z_iconst F dX8_layRates_2 rfl ?_
  refine z_istore F dX8_layRates_3 rfl (by decide) rfl ?_
  refine z_sub [2, 3, 4, 1, 0] rfl ?_
  exact lp_X8_layRates_5 F hr k0 k1 k2 hw
theorem cv_X8_layRates : CV yX8_layRates RX8 cX8_layRates 6 none 2 := ⟨w_544, w_2, w_72, w_545, rfl, by decide +kernel, by decide +kernel, by decide +kernel⟩
abbrev rm_X8_gatherPayings : Room := { frames := 1, cells := 0, slots := 0, locals := 23 }
def wp_X8_gatherPayings_b98 (a0 : Nat) (Q : Mem → Prop) (K26 : Mem → Int → Prop) (M : Mem) (x1 : Int) (x2 : Int) : Prop :=
  K26 M (x2 + 1)
def wp_X8_gatherPayings_B26 (a0 : Nat) (Q : Mem → Prop) (K26 : Mem → Int → Prop) (M : Mem) (x1 : Int) (x2 : Int) : Prop :=
  (((w32 60 < w32 x2) → (
    Q M)) ∧
  (¬ (w32 60 < w32 x2) → (
    inb (rt a0 5) x2 ∧ (
    (((w32 (M (rt a0 5) (ix x2)) = w32 (-1)) → (
      wp_X8_gatherPayings_b98 a0 Q K26 M x1 x2)) ∧
    (¬ (w32 (M (rt a0 5) (ix x2)) = w32 (-1)) → (
      inb (rt a0 7) x1 ∧ (
      inb (rt (rt a0 7) (ix x1)) x2 ∧ (
      (((w32 (M (rt (rt a0 7) (ix x1)) (ix x2)) ≤ 0) → (
        wp_X8_gatherPayings_b98 a0 Q K26 M x1 x2)) ∧
      (¬ (w32 (M (rt (rt a0 7) (ix x1)) (ix x2)) ≤ 0) → (
        inb (rt a0 8) x1 ∧ (
        inb (rt (rt a0 8) (ix x1)) (M (rt a0 5) (ix x2)) ∧ (
        inb (rt a0 7) x1 ∧ (
        inb (rt (rt a0 7) (ix x1)) x2 ∧ (
        inb (rt (rt a0 8) (ix x1)) (M (rt a0 5) (ix x2)) ∧ (
        ∀ M73 : Mem, M73 = st2 M (rt (rt a0 8) (ix x1)) (ix (M (rt a0 5) (ix x2))) ((M (rt (rt a0 8) (ix x1)) (ix (M (rt a0 5) (ix x2)))) + (M (rt (rt a0 7) (ix x1)) (ix x2))) →
        inb (rt a0 9) x1 ∧ (
        inb (rt a0 7) x1 ∧ (
        inb (rt (rt a0 7) (ix x1)) x2 ∧ (
        inb (rt a0 9) x1 ∧ (
        ∀ M90 : Mem, M90 = st2 M73 (rt a0 9) (ix x1) ((M73 (rt a0 9) (ix x1)) + (M73 (rt (rt a0 7) (ix x1)) (ix x2))) →
        inb (rt a0 10) x1 ∧ (
        ∀ M97 : Mem, M97 = st2 M90 (rt a0 10) (ix x1) (M (rt a0 5) (ix x2)) →
        wp_X8_gatherPayings_b98 a0 Q K26 M97 x1 x2))))))))))))))))))))))
def wp_X8_gatherPayings_L26 (a0 : Nat) (Q : Mem → Prop) (M : Mem) (x1 : Int) (x2 : Int) : Prop :=
  ∃ (I : Mem → Int → Prop) (μ : Mem → Int → Nat), I M x2 ∧ ∀ (M : Mem) (x2 : Int), I M x2 →
    wp_X8_gatherPayings_B26 a0 Q (fun M' x2' => I M' x2' ∧ μ M' x2' < μ M x2) M x1 x2
def wp_X8_gatherPayings (a0 : Nat) (a1 : Int) (M : Mem) (Q : Mem → Prop) : Prop :=
  inb (rt a0 8) a1 ∧ (
  wp_J7_fill_53178 (rt (rt a0 8) (ix a1)) 0 M (fun M7 =>
  inb (rt a0 9) a1 ∧ (
  ∀ M16 : Mem, M16 = st2 M7 (rt a0 9) (ix a1) 0 →
  inb (rt a0 10) a1 ∧ (
  ∀ M23 : Mem, M23 = st2 M16 (rt a0 10) (ix a1) (-1) →
  wp_X8_gatherPayings_L26 a0 Q M23 a1 1))))
set_option maxRecDepth 100000 in
set_option maxHeartbeats 4000000 in
theorem bk_X8_gatherPayings_98 {g : En} {p : Program} {l : Launch} {e : Env} {s : State} {m : MethodId} {args : Array Value} {below : List Frame} {meth : Method} {c : Code} {M : Mem} {a0 : Nat} {Q : Mem → Prop} {K26 : Mem → Int → Prop} {x1 : Int} {x2 : Int} (F : Fx g p s m args meth c cX8_gatherPayings 4 RX8) (hr : meth.sig.returnType = none) (k0 : kd a0 = 8)
    (hK26 : ∀ (M' : Mem) (x2' : Int), K26 M' x2' → Z g p l e rm_X8_gatherPayings s m args below meth c 4 (MQ below (va_Qv (S := Mem) Q (fun u => Rp g u) (aR g)) args s 0 0 (aR g)) M' 26 [(0, .ref (g.2.2.1 + a0)), (1, .int (i3 x1)), (2, .int (i3 x2'))] [])
    (hw : wp_X8_gatherPayings_b98 a0 Q K26 M x1 x2) : Z g p l e rm_X8_gatherPayings s m args below meth c 4 (MQ below (va_Qv (S := Mem) Q (fun u => Rp g u) (aR g)) args s 0 0 (aR g)) M 98 [(0, .ref (g.2.2.1 + a0)), (1, .int (i3 x1)), (2, .int (i3 x2))] [] := by
  refine z_iinc F dX8_gatherPayings_98 rfl 2 rfl (by decide) rfl ?_
  refine z_goto F dX8_gatherPayings_101 rfl ?_
  refine z_sub [1, 2, 0] rfl ?_
  exact hK26 M (x2 + 1) hw
set_option maxRecDepth 100000 in
set_option maxHeartbeats 4000000 in
theorem bk_X8_gatherPayings_B26 {g : En} {p : Program} {l : Launch} {e : Env} {s : State} {m : MethodId} {args : Array Value} {below : List Frame} {meth : Method} {c : Code} {M : Mem} {a0 : Nat} {Q : Mem → Prop} {K26 : Mem → Int → Prop} {x1 : Int} {x2 : Int} (F : Fx g p s m args meth c cX8_gatherPayings 4 RX8) (hr : meth.sig.returnType = none) (k0 : kd a0 = 8)
    (hK26 : ∀ (M' : Mem) (x2' : Int), K26 M' x2' → Z g p l e rm_X8_gatherPayings s m args below meth c 4 (MQ below (va_Qv (S := Mem) Q (fun u => Rp g u) (aR g)) args s 0 0 (aR g)) M' 26 [(0, .ref (g.2.2.1 + a0)), (1, .int (i3 x1)), (2, .int (i3 x2'))] [])
    (hw : wp_X8_gatherPayings_B26 a0 Q K26 M x1 x2) : Z g p l e rm_X8_gatherPayings s m args below meth c 4 (MQ below (va_Qv (S := Mem) Q (fun u => Rp g u) (aR g)) args s 0 0 (aR g)) M 26 [(0, .ref (g.2.2.1 + a0)), (1, .int (i3 x1)), (2, .int (i3 x2))] [] := by
  refine z_iload_n F dX8_gatherPayings_26 rfl rfl 2 rfl ?_
  refine z_bipush F dX8_gatherPayings_27 (by decide) rfl ?_
  refine z_icmp_gt F dX8_gatherPayings_29 rfl rfl hw (fun hw => ?_) (fun hw => ?_)
  · exact z_vret F hr dX8_gatherPayings_104 hw
  · refine z_aload_n F dX8_gatherPayings_32 rfl rfl 0 rfl ?_
    refine z_getR F fl_215 k0 dX8_gatherPayings_33 rfl ?_
    refine z_iload_n F dX8_gatherPayings_36 rfl rfl 2 rfl ?_
    refine z_iald F (tk_8_5 k0) dX8_gatherPayings_37 rfl hw (fun hw => ?_)
    refine z_istore_n F dX8_gatherPayings_38 rfl rfl (by decide) rfl ?_
    refine z_iload_n F dX8_gatherPayings_39 rfl rfl 0 rfl ?_
    refine z_iconst F dX8_gatherPayings_40 rfl ?_
    refine z_icmp_eq F dX8_gatherPayings_41 rfl rfl hw (fun hw => ?_) (fun hw => ?_)
    · refine z_sub [1, 2, 3] rfl ?_
      exact bk_X8_gatherPayings_98 F hr k0 hK26 hw
    · refine z_aload_n F dX8_gatherPayings_44 rfl rfl 1 rfl ?_
      refine z_getR F fl_219 k0 dX8_gatherPayings_45 rfl ?_
      refine z_iload_n F dX8_gatherPayings_48 rfl rfl 2 rfl ?_
      have n49 := hw.1
      refine z_aald F 4 (tk_8_7 k0) rfl rfl dX8_gatherPayings_49 rfl hw (fun hw => ?_)
      refine z_iload_n F dX8_gatherPayings_50 rfl rfl 3 rfl ?_
      refine z_iald F (tka_19 (tk_8_7 k0) n49) dX8_gatherPayings_51 rfl hw (fun hw => ?_)
      refine z_if_le F dX8_gatherPayings_52 rfl rfl hw (fun hw => ?_) (fun hw => ?_)
      · refine z_sub [1, 2, 3] rfl ?_
        exact bk_X8_gatherPayings_98 F hr k0 hK26 hw
      · refine z_aload_n F dX8_gatherPayings_55 rfl rfl 1 rfl ?_
        refine z_getR F fl_221 k0 dX8_gatherPayings_56 rfl ?_
        refine z_iload_n F dX8_gatherPayings_59 rfl rfl 2 rfl ?_
        have n60 := hw.1
        refine z_aald F 4 (tk_8_8 k0) rfl rfl dX8_gatherPayings_60 rfl hw (fun hw => ?_)
        refine z_iload_n F dX8_gatherPayings_61 rfl rfl 0 rfl ?_
        refine z_dup2 F rfl rfl dX8_gatherPayings_62 rfl ?_
        refine z_iald F (tka_19 (tk_8_8 k0) n60) dX8_gatherPayings_63 rfl hw (fun hw => ?_)
        refine z_aload_n F dX8_gatherPayings_64 rfl rfl 1 rfl ?_
        refine z_getR F fl_219 k0 dX8_gatherPayings_65 rfl ?_
        refine z_iload_n F dX8_gatherPayings_68 rfl rfl 2 rfl ?_
        have n69 := hw.1
        refine z_aald F 4 (tk_8_7 k0) rfl rfl dX8_gatherPayings_69 rfl hw (fun hw => ?_)
        refine z_iload_n F dX8_gatherPayings_70 rfl rfl 3 rfl ?_
        refine z_iald F (tka_19 (tk_8_7 k0) n69) dX8_gatherPayings_71 rfl hw (fun hw => ?_)
        refine z_iadd F dX8_gatherPayings_72 rfl ?_
        refine z_iast F (tka_19 (tk_8_8 k0) n60) dX8_gatherPayings_73 rfl hw (fun hw => ?_)
        refine z_nmM (fun M73 eM73 => ?_)
        have hw := hw M73 eM73
        refine z_aload_n F dX8_gatherPayings_74 rfl rfl 1 rfl ?_
        refine z_getR F fl_225 k0 dX8_gatherPayings_75 rfl ?_
        refine z_iload_n F dX8_gatherPayings_78 rfl rfl 2 rfl ?_
        refine z_dup2 F rfl rfl dX8_gatherPayings_79 rfl ?_
        refine z_iald F (tk_8_9 k0) dX8_gatherPayings_80 rfl hw (fun hw => ?_)
        refine z_aload_n F dX8_gatherPayings_81 rfl rfl 1 rfl ?_
        refine z_getR F fl_219 k0 dX8_gatherPayings_82 rfl ?_
        refine z_iload_n F dX8_gatherPayings_85 rfl rfl 2 rfl ?_
        have n86 := hw.1
        refine z_aald F 4 (tk_8_7 k0) rfl rfl dX8_gatherPayings_86 rfl hw (fun hw => ?_)
        refine z_iload_n F dX8_gatherPayings_87 rfl rfl 3 rfl ?_
        refine z_iald F (tka_19 (tk_8_7 k0) n86) dX8_gatherPayings_88 rfl hw (fun hw => ?_)
        refine z_iadd F dX8_gatherPayings_89 rfl ?_
        refine z_iast F (tk_8_9 k0) dX8_gatherPayings_90 rfl hw (fun hw => ?_)
        refine z_nmM (fun M90 eM90 => ?_)
        have hw := hw M90 eM90
        refine z_aload_n F dX8_gatherPayings_91 rfl rfl 1 rfl ?_
        refine z_getR F fl_228 k0 dX8_gatherPayings_92 rfl ?_
        refine z_iload_n F dX8_gatherPayings_95 rfl rfl 2 rfl ?_
        refine z_iload_n F dX8_gatherPayings_96 rfl rfl 0 rfl ?_
        refine z_iast F (tk_8_10 k0) dX8_gatherPayings_97 rfl hw (fun hw => ?_)
        refine z_nmM (fun M97 eM97 => ?_)
        have hw := hw M97 eM97
        refine z_sub [1, 2, 3] rfl ?_
        exact bk_X8_gatherPayings_98 F hr k0 hK26 hw
set_option maxRecDepth 100000 in
set_option maxHeartbeats 4000000 in
theorem lp_X8_gatherPayings_26 {g : En} {p : Program} {l : Launch} {e : Env} {s : State} {m : MethodId} {args : Array Value} {below : List Frame} {meth : Method} {c : Code} {M : Mem} {a0 : Nat} {Q : Mem → Prop} {x1 : Int} {x2 : Int} (F : Fx g p s m args meth c cX8_gatherPayings 4 RX8) (hr : meth.sig.returnType = none) (k0 : kd a0 = 8)
    (hw : wp_X8_gatherPayings_L26 a0 Q M x1 x2) : Z g p l e rm_X8_gatherPayings s m args below meth c 4 (MQ below (va_Qv (S := Mem) Q (fun u => Rp g u) (aR g)) args s 0 0 (aR g)) M 26 [(0, .ref (g.2.2.1 + a0)), (1, .int (i3 x1)), (2, .int (i3 x2))] [] := by
  obtain ⟨I, μ, h0, hb⟩ := hw
  have key : ∀ (n : Nat) (M : Mem) (x2 : Int), I M x2 → μ M x2 < n → Z g p l e rm_X8_gatherPayings s m args below meth c 4 (MQ below (va_Qv (S := Mem) Q (fun u => Rp g u) (aR g)) args s 0 0 (aR g)) M 26 [(0, .ref (g.2.2.1 + a0)), (1, .int (i3 x1)), (2, .int (i3 x2))] [] := by
    intro n
    induction n with
    | zero => exact fun _ _ _ h => absurd h (Nat.not_lt_zero _)
    | succ n ih =>
      intro M x2 hI hn
      exact bk_X8_gatherPayings_B26 F hr k0 (fun M' x2' hk => ih M' x2' hk.1 (Nat.lt_of_lt_of_le hk.2 (Nat.le_of_lt_succ hn))) (hb M x2 hI)
  exact key _ M x2 h0 (Nat.lt_succ_self _)
set_option maxRecDepth 100000 in
set_option maxHeartbeats 4000000 in
theorem c_X8_gatherPayings (l : Launch) (g : En) {a0 : Nat} {a1 : Int} {M : Mem} {Q : Mem → Prop} (k0 : kd a0 = 8) (hw : wp_X8_gatherPayings a0 a1 M Q) :
    Met l yX8_gatherPayings (WS yX8_gatherPayings cX8_gatherPayings 4 none) rm_X8_gatherPayings (va_Pc [.ref (g.2.2.1 + a0), .int (i3 a1)] (Rp g M)) (va_Qv (S := Mem) Q (fun u => Rp g u) (aR g)) 0 0 (aR g) := by
  refine met_Z (plainFor_of_name rfl) (Nat.le_of_ble_eq_true rfl) ?_
  intro p e s m args below meth c F hr _
  show Z g p l e rm_X8_gatherPayings s m args below meth c 4 (MQ below (va_Qv (S := Mem) Q (fun u => Rp g u) (aR g)) args s 0 0 (aR g)) M 0 [(0, .ref (g.2.2.1 + a0)), (1, .int (i3 a1))] []
  refine z_aload_n F dX8_gatherPayings_0 rfl rfl 0 rfl ?_
  refine z_getR F fl_221 k0 dX8_gatherPayings_1 rfl ?_
  refine z_iload_n F dX8_gatherPayings_4 rfl rfl 1 rfl ?_
  have n5 := hw.1
  refine z_aald F 4 (tk_8_8 k0) rfl rfl dX8_gatherPayings_5 rfl hw (fun hw => ?_)
  refine z_iconst F dX8_gatherPayings_6 rfl ?_
  refine z_cSv (As := [.ref (g.2.2.1 + (rt (rt a0 8) (ix a1))), .int (i3 0)]) (st := []) F (c_J7_fill_53178 l g (tka_19 (tk_8_8 k0) n5) hw) cs_J7_fill_53178 w_563 ⟨rfl, rfl, Nat.le_of_ble_eq_true rfl, Nat.le_of_ble_eq_true rfl⟩ rfl (Nat.le_of_ble_eq_true rfl) dX8_gatherPayings_7 rfl (fun M7 hw => ?_)
  refine z_aload_n F dX8_gatherPayings_10 rfl rfl 0 rfl ?_
  refine z_getR F fl_225 k0 dX8_gatherPayings_11 rfl ?_
  refine z_iload_n F dX8_gatherPayings_14 rfl rfl 1 rfl ?_
  refine z_iconst F dX8_gatherPayings_15 rfl ?_
  refine z_iast F (tk_8_9 k0) dX8_gatherPayings_16 rfl hw (fun hw => ?_)
  refine z_nmM (fun M16 eM16 => ?_)
  have hw := hw M16 eM16
  refine z_aload_n F dX8_gatherPayings_17 rfl rfl 0 rfl ?_
  refine z_getR F fl_228 k0 dX8_gatherPayings_18 rfl ?_
  refine z_iload_n F dX8_gatherPayings_21 rfl rfl 1 rfl ?_
  refine z_iconst F dX8_gatherPayings_22 rfl ?_
  refine z_iast F (tk_8_10 k0) dX8_gatherPayings_23 rfl hw (fun hw => ?_)
  refine z_nmM (fun M23 eM23 => ?_)
  have hw := hw M23 eM23
  refine z_iconst F dX8_gatherPayings_24 rfl ?_
  refine z_istore_n F dX8_gatherPayings_25 rfl rfl (by decide) rfl ?_
  refine z_sub [1, 2, 0] rfl ?_
  exact lp_X8_gatherPayings_26 F hr k0 hw
theorem cv_X8_gatherPayings : CV yX8_gatherPayings RX8 cX8_gatherPayings 4 none 1 := ⟨w_561, w_5, w_72, w_562, rfl, by decide +kernel, by decide +kernel, by decide +kernel⟩
abbrev rm_X8_lay : Room := { frames := 2, cells := 0, slots := 0, locals := 49 }
def wp_X8_lay_B19 (a0 : Nat) (a1 : Nat) (a2 : Nat) (Q : Mem → Prop) (K19 : Mem → Int → Prop) (M : Mem) (x3 : Int) : Prop :=
  (((w32 (M a1 4) ≤ w32 x3) → (
    Q M)) ∧
  (¬ (w32 (M a1 4) ≤ w32 x3) → (
    inb (rt a1 3) x3 ∧ (
    inb (rt a0 7) x3 ∧ (
    wp_X0_layPayings (rt (rt a1 3) (ix x3)) (rt (rt a0 7) (ix x3)) (rt a0 6) M (fun M43 =>
    wp_X8_gatherPayings a0 x3 M43 (fun M48 =>
    K19 M48 (x3 + 1))))))))
def wp_X8_lay_L19 (a0 : Nat) (a1 : Nat) (a2 : Nat) (Q : Mem → Prop) (M : Mem) (x3 : Int) : Prop :=
  ∃ (I : Mem → Int → Prop) (μ : Mem → Int → Nat), I M x3 ∧ ∀ (M : Mem) (x3 : Int), I M x3 →
    wp_X8_lay_B19 a0 a1 a2 Q (fun M' x3' => I M' x3' ∧ μ M' x3' < μ M x3) M x3
def wp_X8_lay (a0 : Nat) (a1 : Nat) (a2 : Nat) (M : Mem) (Q : Mem → Prop) : Prop :=
  wp_X8_layRungs a0 a1 M (fun M2 =>
  wp_X8_layRates a0 (rt (rt a1 1) 0) a2 M2 (fun M14 =>
  wp_X8_lay_L19 a0 a1 a2 Q M14 0))
set_option maxRecDepth 100000 in
set_option maxHeartbeats 4000000 in
theorem bk_X8_lay_B19 {g : En} {p : Program} {l : Launch} {e : Env} {s : State} {m : MethodId} {args : Array Value} {below : List Frame} {meth : Method} {c : Code} {M : Mem} {a0 : Nat} {a1 : Nat} {a2 : Nat} {Q : Mem → Prop} {K19 : Mem → Int → Prop} {x3 : Int} (F : Fx g p s m args meth c cX8_lay 4 RX8) (hr : meth.sig.returnType = none) (k0 : kd a0 = 8) (k1 : kd a1 = 1) (k2 : kd a2 = 13)
    (hK19 : ∀ (M' : Mem) (x3' : Int), K19 M' x3' → Z g p l e rm_X8_lay s m args below meth c 4 (MQ below (va_Qv (S := Mem) Q (fun u => Rp g u) (aR g)) args s 0 0 (aR g)) M' 19 [(0, .ref (g.2.2.1 + a0)), (1, .ref (g.2.2.1 + a1)), (3, .int (i3 x3'))] [])
    (hw : wp_X8_lay_B19 a0 a1 a2 Q K19 M x3) : Z g p l e rm_X8_lay s m args below meth c 4 (MQ below (va_Qv (S := Mem) Q (fun u => Rp g u) (aR g)) args s 0 0 (aR g)) M 19 [(0, .ref (g.2.2.1 + a0)), (1, .ref (g.2.2.1 + a1)), (3, .int (i3 x3))] [] := by
  refine z_iload_n F dX8_lay_19 rfl rfl 2 rfl ?_
  refine z_aload_n F dX8_lay_20 rfl rfl 1 rfl ?_
  refine z_getI F fl_172 k1 dX8_lay_21 rfl ?_
  refine z_icmp_ge F dX8_lay_24 rfl rfl hw (fun hw => ?_) (fun hw => ?_)
  · exact z_vret F hr dX8_lay_57 hw
  · refine z_aload_n F dX8_lay_27 rfl rfl 1 rfl ?_
    refine z_getR F fl_165 k1 dX8_lay_28 rfl ?_
    refine z_iload_n F dX8_lay_31 rfl rfl 2 rfl ?_
    have n32 := hw.1
    refine z_aald F 0 (tk_1_3 k1) rfl rfl dX8_lay_32 rfl hw (fun hw => ?_)
    refine z_aload_n F dX8_lay_33 rfl rfl 0 rfl ?_
    refine z_getR F fl_219 k0 dX8_lay_34 rfl ?_
    refine z_iload_n F dX8_lay_37 rfl rfl 2 rfl ?_
    have n38 := hw.1
    refine z_aald F 4 (tk_8_7 k0) rfl rfl dX8_lay_38 rfl hw (fun hw => ?_)
    refine z_aload_n F dX8_lay_39 rfl rfl 0 rfl ?_
    refine z_getR F fl_217 k0 dX8_lay_40 rfl ?_
    refine z_cVv (As := [.ref (g.2.2.1 + (rt (rt a0 7) (ix x3))), .ref (g.2.2.1 + (rt a0 6))]) (st := []) F (c_X0_layPayings l g (tka_15 (tk_1_3 k1) n32) (tka_19 (tk_8_7 k0) n38) (tk_8_6 k0) hw) cv_X0_layPayings w_546 ⟨rfl, rfl, Nat.le_of_ble_eq_true rfl, Nat.le_of_ble_eq_true rfl⟩ (tka_15 (tk_1_3 k1) n32) rfl rfl (Nat.le_of_ble_eq_true rfl) dX8_lay_43 rfl (fun M43 hw => ?_)
    refine z_aload_n F dX8_lay_46 rfl rfl 0 rfl ?_
    refine z_iload_n F dX8_lay_47 rfl rfl 2 rfl ?_
    refine z_cVv (As := [.int (i3 x3)]) (st := []) F (c_X8_gatherPayings l g k0 hw) cv_X8_gatherPayings w_559 ⟨rfl, rfl, Nat.le_of_ble_eq_true rfl, Nat.le_of_ble_eq_true rfl⟩ k0 rfl rfl (Nat.le_of_ble_eq_true rfl) dX8_lay_48 rfl (fun M48 hw => ?_)
    refine z_iinc F dX8_lay_51 rfl 2 rfl (by decide) rfl ?_
    refine z_goto F dX8_lay_54 rfl ?_
    refine z_sub [1, 2, 0] rfl ?_
    exact hK19 M48 (x3 + 1) hw
set_option maxRecDepth 100000 in
set_option maxHeartbeats 4000000 in
theorem lp_X8_lay_19 {g : En} {p : Program} {l : Launch} {e : Env} {s : State} {m : MethodId} {args : Array Value} {below : List Frame} {meth : Method} {c : Code} {M : Mem} {a0 : Nat} {a1 : Nat} {a2 : Nat} {Q : Mem → Prop} {x3 : Int} (F : Fx g p s m args meth c cX8_lay 4 RX8) (hr : meth.sig.returnType = none) (k0 : kd a0 = 8) (k1 : kd a1 = 1) (k2 : kd a2 = 13)
    (hw : wp_X8_lay_L19 a0 a1 a2 Q M x3) : Z g p l e rm_X8_lay s m args below meth c 4 (MQ below (va_Qv (S := Mem) Q (fun u => Rp g u) (aR g)) args s 0 0 (aR g)) M 19 [(0, .ref (g.2.2.1 + a0)), (1, .ref (g.2.2.1 + a1)), (3, .int (i3 x3))] [] := by
  obtain ⟨I, μ, h0, hb⟩ := hw
  have key : ∀ (n : Nat) (M : Mem) (x3 : Int), I M x3 → μ M x3 < n → Z g p l e rm_X8_lay s m args below meth c 4 (MQ below (va_Qv (S := Mem) Q (fun u => Rp g u) (aR g)) args s 0 0 (aR g)) M 19 [(0, .ref (g.2.2.1 + a0)), (1, .ref (g.2.2.1 + a1)), (3, .int (i3 x3))] [] := by
    intro n
    induction n with
    | zero => exact fun _ _ _ h => absurd h (Nat.not_lt_zero _)
    | succ n ih =>
      intro M x3 hI hn
      exact bk_X8_lay_B19 F hr k0 k1 k2 (fun M' x3' hk => ih M' x3' hk.1 (Nat.lt_of_lt_of_le hk.2 (Nat.le_of_lt_succ hn))) (hb M x3 hI)
  exact key _ M x3 h0 (Nat.lt_succ_self _)
set_option maxRecDepth 100000 in
set_option maxHeartbeats 4000000 in
theorem c_X8_lay (l : Launch) (g : En) {a0 : Nat} {a1 : Nat} {a2 : Nat} {M : Mem} {Q : Mem → Prop} (k0 : kd a0 = 8) (k1 : kd a1 = 1) (k2 : kd a2 = 13) (hw : wp_X8_lay a0 a1 a2 M Q) :
    Met l yX8_lay (WS yX8_lay cX8_lay 4 none) rm_X8_lay (va_Pc [.ref (g.2.2.1 + a0), .ref (g.2.2.1 + a1), .ref (g.2.2.1 + a2)] (Rp g M)) (va_Qv (S := Mem) Q (fun u => Rp g u) (aR g)) 0 0 (aR g) := by
  refine met_Z (plainFor_of_name rfl) (Nat.le_of_ble_eq_true rfl) ?_
  intro p e s m args below meth c F hr _
  show Z g p l e rm_X8_lay s m args below meth c 4 (MQ below (va_Qv (S := Mem) Q (fun u => Rp g u) (aR g)) args s 0 0 (aR g)) M 0 [(0, .ref (g.2.2.1 + a0)), (1, .ref (g.2.2.1 + a1)), (2, .ref (g.2.2.1 + a2))] []
  refine z_aload_n F dX8_lay_0 rfl rfl 0 rfl ?_
  refine z_aload_n F dX8_lay_1 rfl rfl 1 rfl ?_
  refine z_cVv (As := [.ref (g.2.2.1 + a1)]) (st := []) F (c_X8_layRungs l g k0 k1 hw) cv_X8_layRungs w_538 ⟨rfl, rfl, Nat.le_of_ble_eq_true rfl, Nat.le_of_ble_eq_true rfl⟩ k0 rfl rfl (Nat.le_of_ble_eq_true rfl) dX8_lay_2 rfl (fun M2 hw => ?_)
  refine z_aload_n F dX8_lay_5 rfl rfl 0 rfl ?_
  refine z_aload_n F dX8_lay_6 rfl rfl 1 rfl ?_
  refine z_getR F fl_159 k1 dX8_lay_7 rfl ?_
  refine z_getR F fl_108 (tk_1_1 k1) dX8_lay_10 rfl ?_
  refine z_aload_n F dX8_lay_13 rfl rfl 2 rfl ?_
  refine z_cVv (As := [.ref (g.2.2.1 + (rt (rt a1 1) 0)), .ref (g.2.2.1 + a2)]) (st := []) F (c_X8_layRates l g k0 (tk_2_0 (tk_1_1 k1)) k2 hw) cv_X8_layRates w_542 ⟨rfl, rfl, Nat.le_of_ble_eq_true rfl, Nat.le_of_ble_eq_true rfl⟩ k0 rfl rfl (Nat.le_of_ble_eq_true rfl) dX8_lay_14 rfl (fun M14 hw => ?_)
  refine z_iconst F dX8_lay_17 rfl ?_
  refine z_istore_n F dX8_lay_18 rfl rfl (by decide) rfl ?_
  refine z_sub [1, 2, 0] rfl ?_
  exact lp_X8_lay_19 F hr k0 k1 k2 hw
theorem cv_X8_lay : CV yX8_lay RX8 cX8_lay 4 none 2 := ⟨w_535, w_536, w_72, w_537, rfl, by decide +kernel, by decide +kernel, by decide +kernel⟩
abbrev rm_X8_hasRung : Room := { frames := 0, cells := 0, slots := 0, locals := 0 }
def wp_X8_hasRung (a0 : Nat) (a1 : Int) (M : Mem) (Q : Bool → Prop) : Prop :=
  (((w32 a1 < 0) → (
    Q false)) ∧
  (¬ (w32 a1 < 0) → (
    (((w32 (M a0 0) ≤ w32 a1) → (
      Q false)) ∧
    (¬ (w32 (M a0 0) ≤ w32 a1) → (
      Q true))))))
set_option maxRecDepth 100000 in
set_option maxHeartbeats 4000000 in
theorem c_X8_hasRung (l : Launch) (g : En) {a0 : Nat} {a1 : Int} {M : Mem} {Q : Bool → Prop} (k0 : kd a0 = 8) (hw : wp_X8_hasRung a0 a1 M Q) :
    Met l yX8_hasRung (WS yX8_hasRung cX8_hasRung 2 (some .boolean)) rm_X8_hasRung (va_Pc [.ref (g.2.2.1 + a0), .int (i3 a1)] (Rp g M)) (va_Qi (S := Bool × Mem) (fun r u => r = i3 (bz u.1) ∧ (u.2 = M ∧ Q u.1)) (fun u => Rp g u.2) (aR g)) 0 0 (aR g) := by
  refine met_Z (plainFor_of_name rfl) (Nat.le_of_ble_eq_true rfl) ?_
  intro p e s m args below meth c F hr _
  show Z g p l e rm_X8_hasRung s m args below meth c 2 (MQ below (va_Qi (S := Bool × Mem) (fun r u => r = i3 (bz u.1) ∧ (u.2 = M ∧ Q u.1)) (fun u => Rp g u.2) (aR g)) args s 0 0 (aR g)) M 0 [(0, .ref (g.2.2.1 + a0)), (1, .int (i3 a1))] []
  refine z_iload_n F dX8_hasRung_0 rfl rfl 1 rfl ?_
  refine z_if_lt F dX8_hasRung_1 rfl rfl hw (fun hw => ?_) (fun hw => ?_)
  · refine z_iconst F dX8_hasRung_16 rfl ?_
    exact z_zretp (x := false) F hr dX8_hasRung_17 hw
  · refine z_iload_n F dX8_hasRung_4 rfl rfl 1 rfl ?_
    refine z_aload_n F dX8_hasRung_5 rfl rfl 0 rfl ?_
    refine z_getI F fl_196 k0 dX8_hasRung_6 rfl ?_
    refine z_icmp_ge F dX8_hasRung_9 rfl rfl hw (fun hw => ?_) (fun hw => ?_)
    · refine z_iconst F dX8_hasRung_16 rfl ?_
      exact z_zretp (x := false) F hr dX8_hasRung_17 hw
    · refine z_iconst F dX8_hasRung_12 rfl ?_
      refine z_goto F dX8_hasRung_13 rfl ?_
      exact z_zretp (x := true) F hr dX8_hasRung_17 hw
theorem cv_X8_hasRung : CV yX8_hasRung RX8 cX8_hasRung 2 (some .boolean) 1 := ⟨w_565, w_566, w_72, w_567, rfl, by decide +kernel, by decide +kernel, by decide +kernel⟩
