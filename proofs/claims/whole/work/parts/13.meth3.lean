abbrev rm_X12_finds : Room := { frames := 0, cells := 0, slots := 0, locals := 0 }
def wp_X12_finds_b39 (a0 : Nat) (Q : Mem → Prop) (K7 : Mem → Int → Prop) (M : Mem) (x1 : Int) : Prop :=
  K7 M (x1 + 1)
def wp_X12_finds_B7 (a0 : Nat) (Q : Mem → Prop) (K7 : Mem → Int → Prop) (M : Mem) (x1 : Int) : Prop :=
  (((w32 60 < w32 x1) → (
    Q M)) ∧
  (¬ (w32 60 < w32 x1) → (
    inb (rt a0 0) x1 ∧ (
    (((w32 (M (rt a0 0) (ix x1)) ≤ 0) → (
      wp_X12_finds_b39 a0 Q K7 M x1)) ∧
    (¬ (w32 (M (rt a0 0) (ix x1)) ≤ 0) → (
      ∀ M34 : Mem, M34 = st2 M a0 5 ((M a0 5) + 1) →
      inb (rt a0 6) (M a0 5) ∧ (
      ∀ M38 : Mem, M38 = st2 M34 (rt a0 6) (ix (M a0 5)) x1 →
      wp_X12_finds_b39 a0 Q K7 M38 x1))))))))
def wp_X12_finds_L7 (a0 : Nat) (Q : Mem → Prop) (M : Mem) (x1 : Int) : Prop :=
  ∃ (I : Mem → Int → Prop) (μ : Mem → Int → Nat), I M x1 ∧ ∀ (M : Mem) (x1 : Int), I M x1 →
    wp_X12_finds_B7 a0 Q (fun M' x1' => I M' x1' ∧ μ M' x1' < μ M x1) M x1
def wp_X12_finds (a0 : Nat) (M : Mem) (Q : Mem → Prop) : Prop :=
  ∀ M2 : Mem, M2 = st2 M a0 5 0 →
  wp_X12_finds_L7 a0 Q M2 1
set_option maxRecDepth 100000 in
set_option maxHeartbeats 4000000 in
theorem bk_X12_finds_39 {g : En} {p : Program} {l : Launch} {e : Env} {s : State} {m : MethodId} {args : Array Value} {below : List Frame} {meth : Method} {c : Code} {M : Mem} {a0 : Nat} {Q : Mem → Prop} {K7 : Mem → Int → Prop} {x1 : Int} (F : Fx g p s m args meth c cX12_finds 2 RX12) (hr : meth.sig.returnType = none) (k0 : kd a0 = 12)
    (hK7 : ∀ (M' : Mem) (x1' : Int), K7 M' x1' → Z g p l e rm_X12_finds s m args below meth c 2 (MQ below (va_Qv (S := Mem) Q (fun u => Rp g u) (aR g)) args s 0 0 (aR g)) M' 7 [(0, .ref (g.2.2.1 + a0)), (1, .int (i3 x1'))] [])
    (hw : wp_X12_finds_b39 a0 Q K7 M x1) : Z g p l e rm_X12_finds s m args below meth c 2 (MQ below (va_Qv (S := Mem) Q (fun u => Rp g u) (aR g)) args s 0 0 (aR g)) M 39 [(0, .ref (g.2.2.1 + a0)), (1, .int (i3 x1))] [] := by
  refine z_iinc F dX12_finds_39 rfl 1 rfl (by decide) rfl ?_
  refine z_goto F dX12_finds_42 rfl ?_
  refine z_sub [1, 0] rfl ?_
  exact hK7 M (x1 + 1) hw
set_option maxRecDepth 100000 in
set_option maxHeartbeats 4000000 in
theorem bk_X12_finds_B7 {g : En} {p : Program} {l : Launch} {e : Env} {s : State} {m : MethodId} {args : Array Value} {below : List Frame} {meth : Method} {c : Code} {M : Mem} {a0 : Nat} {Q : Mem → Prop} {K7 : Mem → Int → Prop} {x1 : Int} (F : Fx g p s m args meth c cX12_finds 2 RX12) (hr : meth.sig.returnType = none) (k0 : kd a0 = 12)
    (hK7 : ∀ (M' : Mem) (x1' : Int), K7 M' x1' → Z g p l e rm_X12_finds s m args below meth c 2 (MQ below (va_Qv (S := Mem) Q (fun u => Rp g u) (aR g)) args s 0 0 (aR g)) M' 7 [(0, .ref (g.2.2.1 + a0)), (1, .int (i3 x1'))] [])
    (hw : wp_X12_finds_B7 a0 Q K7 M x1) : Z g p l e rm_X12_finds s m args below meth c 2 (MQ below (va_Qv (S := Mem) Q (fun u => Rp g u) (aR g)) args s 0 0 (aR g)) M 7 [(0, .ref (g.2.2.1 + a0)), (1, .int (i3 x1))] [] := by
  refine z_iload_n F dX12_finds_7 rfl rfl 1 rfl ?_
  refine z_bipush F dX12_finds_8 (by decide) rfl ?_
  refine z_icmp_gt F dX12_finds_10 rfl rfl hw (fun hw => ?_) (fun hw => ?_)
  · exact z_vret F hr dX12_finds_45 hw
  · refine z_aload_n F dX12_finds_13 rfl rfl 0 rfl ?_
    refine z_getR F fl_992 k0 dX12_finds_14 rfl ?_
    refine z_iload_n F dX12_finds_17 rfl rfl 1 rfl ?_
    refine z_iald F (tk_12_0 k0) dX12_finds_18 rfl hw (fun hw => ?_)
    refine z_if_le F dX12_finds_19 rfl rfl hw (fun hw => ?_) (fun hw => ?_)
    · refine z_sub [0, 1] rfl ?_
      exact bk_X12_finds_39 F hr k0 hK7 hw
    · refine z_aload_n F dX12_finds_22 rfl rfl 0 rfl ?_
      refine z_getR F fl_998 k0 dX12_finds_23 rfl ?_
      refine z_aload_n F dX12_finds_26 rfl rfl 0 rfl ?_
      refine z_dup F rfl dX12_finds_27 rfl ?_
      refine z_getI F fl_997 k0 dX12_finds_28 rfl ?_
      refine z_dupx1 F rfl rfl dX12_finds_31 rfl ?_
      refine z_iconst F dX12_finds_32 rfl ?_
      refine z_iadd F dX12_finds_33 rfl ?_
      refine z_putI F fp_997 k0 dX12_finds_34 rfl ?_
      refine z_nmM (fun M34 eM34 => ?_)
      have hw := hw M34 eM34
      refine z_iload_n F dX12_finds_37 rfl rfl 1 rfl ?_
      refine z_iast F (tk_12_6 k0) dX12_finds_38 rfl hw (fun hw => ?_)
      refine z_nmM (fun M38 eM38 => ?_)
      have hw := hw M38 eM38
      refine z_sub [0, 1] rfl ?_
      exact bk_X12_finds_39 F hr k0 hK7 hw
set_option maxRecDepth 100000 in
set_option maxHeartbeats 4000000 in
theorem lp_X12_finds_7 {g : En} {p : Program} {l : Launch} {e : Env} {s : State} {m : MethodId} {args : Array Value} {below : List Frame} {meth : Method} {c : Code} {M : Mem} {a0 : Nat} {Q : Mem → Prop} {x1 : Int} (F : Fx g p s m args meth c cX12_finds 2 RX12) (hr : meth.sig.returnType = none) (k0 : kd a0 = 12)
    (hw : wp_X12_finds_L7 a0 Q M x1) : Z g p l e rm_X12_finds s m args below meth c 2 (MQ below (va_Qv (S := Mem) Q (fun u => Rp g u) (aR g)) args s 0 0 (aR g)) M 7 [(0, .ref (g.2.2.1 + a0)), (1, .int (i3 x1))] [] := by
  obtain ⟨I, μ, h0, hb⟩ := hw
  have key : ∀ (n : Nat) (M : Mem) (x1 : Int), I M x1 → μ M x1 < n → Z g p l e rm_X12_finds s m args below meth c 2 (MQ below (va_Qv (S := Mem) Q (fun u => Rp g u) (aR g)) args s 0 0 (aR g)) M 7 [(0, .ref (g.2.2.1 + a0)), (1, .int (i3 x1))] [] := by
    intro n
    induction n with
    | zero => exact fun _ _ _ h => absurd h (Nat.not_lt_zero _)
    | succ n ih =>
      intro M x1 hI hn
      exact bk_X12_finds_B7 F hr k0 (fun M' x1' hk => ih M' x1' hk.1 (Nat.lt_of_lt_of_le hk.2 (Nat.le_of_lt_succ hn))) (hb M x1 hI)
  exact key _ M x1 h0 (Nat.lt_succ_self _)
set_option maxRecDepth 100000 in
set_option maxHeartbeats 4000000 in
theorem c_X12_finds (l : Launch) (g : En) {a0 : Nat} {M : Mem} {Q : Mem → Prop} (k0 : kd a0 = 12) (hw : wp_X12_finds a0 M Q) :
    Met l yX12_finds (WS yX12_finds cX12_finds 2 none) rm_X12_finds (va_Pc [.ref (g.2.2.1 + a0)] (Rp g M)) (va_Qv (S := Mem) Q (fun u => Rp g u) (aR g)) 0 0 (aR g) := by
  refine met_Z (plainFor_of_name rfl) (Nat.le_of_ble_eq_true rfl) ?_
  intro p e s m args below meth c F hr _
  show Z g p l e rm_X12_finds s m args below meth c 2 (MQ below (va_Qv (S := Mem) Q (fun u => Rp g u) (aR g)) args s 0 0 (aR g)) M 0 [(0, .ref (g.2.2.1 + a0))] []
  refine z_aload_n F dX12_finds_0 rfl rfl 0 rfl ?_
  refine z_iconst F dX12_finds_1 rfl ?_
  refine z_putI F fp_997 k0 dX12_finds_2 rfl ?_
  refine z_nmM (fun M2 eM2 => ?_)
  have hw := hw M2 eM2
  refine z_iconst F dX12_finds_5 rfl ?_
  refine z_istore_n F dX12_finds_6 rfl rfl (by decide) rfl ?_
  refine z_sub [1, 0] rfl ?_
  exact lp_X12_finds_7 F hr k0 hw
theorem cv_X12_finds : CV yX12_finds RX12 cX12_finds 2 none 0 := ⟨w_1113, w_22, w_80, w_1114, rfl, by decide +kernel, by decide +kernel, by decide +kernel⟩
abbrev rm_X12_many : Room := { frames := 0, cells := 0, slots := 0, locals := 0 }
def wp_X12_many_b19 (a0 : Nat) (Q : Int → Prop) (K4 : Int → Int → Prop) (M : Mem) (x1 : Int) (x2 : Int) : Prop :=
  K4 x1 (x2 + 1)
def wp_X12_many_B4 (a0 : Nat) (Q : Int → Prop) (K4 : Int → Int → Prop) (M : Mem) (x1 : Int) (x2 : Int) : Prop :=
  (((w32 60 < w32 x2) → (
    Q x1)) ∧
  (¬ (w32 60 < w32 x2) → (
    inb a0 x2 ∧ (
    (((w32 (M a0 (ix x2)) ≤ 0) → (
      wp_X12_many_b19 a0 Q K4 M x1 x2)) ∧
    (¬ (w32 (M a0 (ix x2)) ≤ 0) → (
      wp_X12_many_b19 a0 Q K4 M (x1 + 1) x2)))))))
def wp_X12_many_L4 (a0 : Nat) (Q : Int → Prop) (M : Mem) (x1 : Int) (x2 : Int) : Prop :=
  ∃ (I : Int → Int → Prop) (μ : Int → Int → Nat), I x1 x2 ∧ ∀ (x1 : Int) (x2 : Int), I x1 x2 →
    wp_X12_many_B4 a0 Q (fun x1' x2' => I x1' x2' ∧ μ x1' x2' < μ x1 x2) M x1 x2
def wp_X12_many (a0 : Nat) (M : Mem) (Q : Int → Prop) : Prop :=
  wp_X12_many_L4 a0 Q M 0 1
set_option maxRecDepth 100000 in
set_option maxHeartbeats 4000000 in
theorem bk_X12_many_19 {g : En} {p : Program} {l : Launch} {e : Env} {s : State} {m : MethodId} {args : Array Value} {below : List Frame} {meth : Method} {c : Code} {M : Mem} {a0 : Nat} {Q : Int → Prop} {K4 : Int → Int → Prop} {x1 : Int} {x2 : Int} (F : Fx g p s m args meth c cX12_many 3 RX12) (hr : meth.sig.returnType = (some .int)) (k0 : kd a0 = 13)
    (hK4 : ∀ (x1' : Int) (x2' : Int), K4 x1' x2' → Z g p l e rm_X12_many s m args below meth c 3 (MQ below (va_Qi (S := Int × Mem) (fun r u => r = i3 u.1 ∧ (u.2 = M ∧ Q u.1)) (fun u => Rp g u.2) (aR g)) args s 0 0 (aR g)) M 4 [(0, .ref (g.2.2.1 + a0)), (1, .int (i3 x1')), (2, .int (i3 x2'))] [])
    (hw : wp_X12_many_b19 a0 Q K4 M x1 x2) : Z g p l e rm_X12_many s m args below meth c 3 (MQ below (va_Qi (S := Int × Mem) (fun r u => r = i3 u.1 ∧ (u.2 = M ∧ Q u.1)) (fun u => Rp g u.2) (aR g)) args s 0 0 (aR g)) M 19 [(0, .ref (g.2.2.1 + a0)), (1, .int (i3 x1)), (2, .int (i3 x2))] [] := by
  refine z_iinc F dX12_many_19 rfl 2 rfl (by decide) rfl ?_
  refine z_goto F dX12_many_22 rfl ?_
  refine z_sub [1, 2, 0] rfl ?_
  exact hK4 x1 (x2 + 1) hw
set_option maxRecDepth 100000 in
set_option maxHeartbeats 4000000 in
theorem bk_X12_many_B4 {g : En} {p : Program} {l : Launch} {e : Env} {s : State} {m : MethodId} {args : Array Value} {below : List Frame} {meth : Method} {c : Code} {M : Mem} {a0 : Nat} {Q : Int → Prop} {K4 : Int → Int → Prop} {x1 : Int} {x2 : Int} (F : Fx g p s m args meth c cX12_many 3 RX12) (hr : meth.sig.returnType = (some .int)) (k0 : kd a0 = 13)
    (hK4 : ∀ (x1' : Int) (x2' : Int), K4 x1' x2' → Z g p l e rm_X12_many s m args below meth c 3 (MQ below (va_Qi (S := Int × Mem) (fun r u => r = i3 u.1 ∧ (u.2 = M ∧ Q u.1)) (fun u => Rp g u.2) (aR g)) args s 0 0 (aR g)) M 4 [(0, .ref (g.2.2.1 + a0)), (1, .int (i3 x1')), (2, .int (i3 x2'))] [])
    (hw : wp_X12_many_B4 a0 Q K4 M x1 x2) : Z g p l e rm_X12_many s m args below meth c 3 (MQ below (va_Qi (S := Int × Mem) (fun r u => r = i3 u.1 ∧ (u.2 = M ∧ Q u.1)) (fun u => Rp g u.2) (aR g)) args s 0 0 (aR g)) M 4 [(0, .ref (g.2.2.1 + a0)), (1, .int (i3 x1)), (2, .int (i3 x2))] [] := by
  refine z_iload_n F dX12_many_4 rfl rfl 2 rfl ?_
  refine z_bipush F dX12_many_5 (by decide) rfl ?_
  refine z_icmp_gt F dX12_many_7 rfl rfl hw (fun hw => ?_) (fun hw => ?_)
  · refine z_iload_n F dX12_many_25 rfl rfl 1 rfl ?_
    exact z_iretp (x := x1) F hr dX12_many_26 hw
  · refine z_aload_n F dX12_many_10 rfl rfl 0 rfl ?_
    refine z_iload_n F dX12_many_11 rfl rfl 2 rfl ?_
    refine z_iald F k0 dX12_many_12 rfl hw (fun hw => ?_)
    refine z_if_le F dX12_many_13 rfl rfl hw (fun hw => ?_) (fun hw => ?_)
    · refine z_sub [0, 1, 2] rfl ?_
      exact bk_X12_many_19 F hr k0 hK4 hw
    · refine z_iinc F dX12_many_16 rfl 1 rfl (by decide) rfl ?_
      refine z_sub [1, 0, 2] rfl ?_
      exact bk_X12_many_19 F hr k0 hK4 hw
set_option maxRecDepth 100000 in
set_option maxHeartbeats 4000000 in
theorem lp_X12_many_4 {g : En} {p : Program} {l : Launch} {e : Env} {s : State} {m : MethodId} {args : Array Value} {below : List Frame} {meth : Method} {c : Code} {M : Mem} {a0 : Nat} {Q : Int → Prop} {x1 : Int} {x2 : Int} (F : Fx g p s m args meth c cX12_many 3 RX12) (hr : meth.sig.returnType = (some .int)) (k0 : kd a0 = 13)
    (hw : wp_X12_many_L4 a0 Q M x1 x2) : Z g p l e rm_X12_many s m args below meth c 3 (MQ below (va_Qi (S := Int × Mem) (fun r u => r = i3 u.1 ∧ (u.2 = M ∧ Q u.1)) (fun u => Rp g u.2) (aR g)) args s 0 0 (aR g)) M 4 [(0, .ref (g.2.2.1 + a0)), (1, .int (i3 x1)), (2, .int (i3 x2))] [] := by
  obtain ⟨I, μ, h0, hb⟩ := hw
  have key : ∀ (n : Nat) (x1 : Int) (x2 : Int), I x1 x2 → μ x1 x2 < n → Z g p l e rm_X12_many s m args below meth c 3 (MQ below (va_Qi (S := Int × Mem) (fun r u => r = i3 u.1 ∧ (u.2 = M ∧ Q u.1)) (fun u => Rp g u.2) (aR g)) args s 0 0 (aR g)) M 4 [(0, .ref (g.2.2.1 + a0)), (1, .int (i3 x1)), (2, .int (i3 x2))] [] := by
    intro n
    induction n with
    | zero => exact fun _ _ _ h => absurd h (Nat.not_lt_zero _)
    | succ n ih =>
      intro x1 x2 hI hn
      exact bk_X12_many_B4 F hr k0 (fun x1' x2' hk => ih x1' x2' hk.1 (Nat.lt_of_lt_of_le hk.2 (Nat.le_of_lt_succ hn))) (hb x1 x2 hI)
  exact key _ x1 x2 h0 (Nat.lt_succ_self _)
set_option maxRecDepth 100000 in
set_option maxHeartbeats 4000000 in
theorem c_X12_many (l : Launch) (g : En) {a0 : Nat} {M : Mem} {Q : Int → Prop} (k0 : kd a0 = 13) (hw : wp_X12_many a0 M Q) :
    Met l yX12_many (WS yX12_many cX12_many 3 (some .int)) rm_X12_many (va_Pc [.ref (g.2.2.1 + a0)] (Rp g M)) (va_Qi (S := Int × Mem) (fun r u => r = i3 u.1 ∧ (u.2 = M ∧ Q u.1)) (fun u => Rp g u.2) (aR g)) 0 0 (aR g) := by
  refine met_Z (plainFor_of_name rfl) (Nat.le_of_ble_eq_true rfl) ?_
  intro p e s m args below meth c F hr _
  show Z g p l e rm_X12_many s m args below meth c 3 (MQ below (va_Qi (S := Int × Mem) (fun r u => r = i3 u.1 ∧ (u.2 = M ∧ Q u.1)) (fun u => Rp g u.2) (aR g)) args s 0 0 (aR g)) M 0 [(0, .ref (g.2.2.1 + a0))] []
  refine z_iconst F dX12_many_0 rfl ?_
  refine z_istore_n F dX12_many_1 rfl rfl (by decide) rfl ?_
  refine z_iconst F dX12_many_2 rfl ?_
  refine z_istore_n F dX12_many_3 rfl rfl (by decide) rfl ?_
  refine z_sub [2, 1, 0] rfl ?_
  exact lp_X12_many_4 F hr k0 hw
theorem cs_X12_many : CS yX12_many cX12_many 3 (some .int) 1 := ⟨w_1109, w_80, w_1110, by decide +kernel, by decide +kernel, by decide +kernel⟩
abbrev rm_X12_becomes : Room := { frames := 1, cells := 0, slots := 0, locals := 22 }
def wp_X12_becomes_b21 (a0 : Nat) (Q : Int → Mem → Prop) (M : Mem) (x1 : Int) (x2 : Int) : Prop :=
  inb a0 x1 ∧ (
  inb a0 x1 ∧ (
  ∀ M29 : Mem, M29 = st2 M a0 (ix x1) x2 →
  Q (M a0 (ix x1)) M29))
def wp_X12_becomes (a0 : Nat) (a1 : Int) (a2 : Int) (a3 : Int) (M : Mem) (Q : Int → Mem → Prop) : Prop :=
  (((w32 a2 ≤ 0) → (
    wp_X12_becomes_b21 a0 Q M a1 a2)) ∧
  (¬ (w32 a2 ≤ 0) → (
    inb a0 a1 ∧ (
    (((¬ w32 (M a0 (ix a1)) = 0) → (
      wp_X12_becomes_b21 a0 Q M a1 a2)) ∧
    (¬ (¬ w32 (M a0 (ix a1)) = 0) → (
      wp_X12_many a0 M (fun r11 =>
      (((¬ w32 r11 = w32 a3) → (
        wp_X12_becomes_b21 a0 Q M a1 a2)) ∧
      (¬ (¬ w32 r11 = w32 a3) → (
        Q (-4) M)))))))))))
set_option maxRecDepth 100000 in
set_option maxHeartbeats 4000000 in
theorem bk_X12_becomes_21 {g : En} {p : Program} {l : Launch} {e : Env} {s : State} {m : MethodId} {args : Array Value} {below : List Frame} {meth : Method} {c : Code} {M : Mem} {a0 : Nat} {Q : Int → Mem → Prop} {x1 : Int} {x2 : Int} (F : Fx g p s m args meth c cX12_becomes 5 RX12) (hr : meth.sig.returnType = (some .int)) (k0 : kd a0 = 13)
    (hw : wp_X12_becomes_b21 a0 Q M x1 x2) : Z g p l e rm_X12_becomes s m args below meth c 5 (MQ below (va_Qi (S := Int × Mem) (fun r u => r = i3 u.1 ∧ Q u.1 u.2) (fun u => Rp g u.2) (aR g)) args s 0 0 (aR g)) M 21 [(0, .ref (g.2.2.1 + a0)), (1, .int (i3 x1)), (2, .int (i3 x2))] [] := by
  refine z_aload_n F dX12_becomes_21 rfl rfl 0 rfl ?_
  refine z_iload_n F dX12_becomes_22 rfl rfl 1 rfl ?_
  refine z_iald F k0 dX12_becomes_23 rfl hw (fun hw => ?_)
  refine z_istore F dX12_becomes_24 rfl (by decide) rfl ?_
  refine z_aload_n F dX12_becomes_26 rfl rfl 1 rfl ?_
  refine z_iload_n F dX12_becomes_27 rfl rfl 2 rfl ?_
  refine z_iload_n F dX12_becomes_28 rfl rfl 3 rfl ?_
  refine z_iast F k0 dX12_becomes_29 rfl hw (fun hw => ?_)
  refine z_nmM (fun M29 eM29 => ?_)
  have hw := hw M29 eM29
  refine z_iload F dX12_becomes_30 rfl 0 rfl ?_
  exact z_iret (x := (M a0 (ix x1))) F hr dX12_becomes_32 hw
set_option maxRecDepth 100000 in
set_option maxHeartbeats 4000000 in
theorem c_X12_becomes (l : Launch) (g : En) {a0 : Nat} {a1 : Int} {a2 : Int} {a3 : Int} {M : Mem} {Q : Int → Mem → Prop} (k0 : kd a0 = 13) (hw : wp_X12_becomes a0 a1 a2 a3 M Q) :
    Met l yX12_becomes (WS yX12_becomes cX12_becomes 5 (some .int)) rm_X12_becomes (va_Pc [.ref (g.2.2.1 + a0), .int (i3 a1), .int (i3 a2), .int (i3 a3)] (Rp g M)) (va_Qi (S := Int × Mem) (fun r u => r = i3 u.1 ∧ Q u.1 u.2) (fun u => Rp g u.2) (aR g)) 0 0 (aR g) := by
  refine met_Z (plainFor_of_name rfl) (Nat.le_of_ble_eq_true rfl) ?_
  intro p e s m args below meth c F hr _
  show Z g p l e rm_X12_becomes s m args below meth c 5 (MQ below (va_Qi (S := Int × Mem) (fun r u => r = i3 u.1 ∧ Q u.1 u.2) (fun u => Rp g u.2) (aR g)) args s 0 0 (aR g)) M 0 [(0, .ref (g.2.2.1 + a0)), (1, .int (i3 a1)), (2, .int (i3 a2)), (3, .int (i3 a3))] []
  refine z_iload_n F dX12_becomes_0 rfl rfl 2 rfl ?_
  refine z_if_le F dX12_becomes_1 rfl rfl hw (fun hw => ?_) (fun hw => ?_)
  · refine z_sub [0, 1, 2] rfl ?_
    exact bk_X12_becomes_21 F hr k0 hw
  · refine z_aload_n F dX12_becomes_4 rfl rfl 0 rfl ?_
    refine z_iload_n F dX12_becomes_5 rfl rfl 1 rfl ?_
    refine z_iald F k0 dX12_becomes_6 rfl hw (fun hw => ?_)
    refine z_if_ne F dX12_becomes_7 rfl rfl hw (fun hw => ?_) (fun hw => ?_)
    · refine z_sub [0, 1, 2] rfl ?_
      exact bk_X12_becomes_21 F hr k0 hw
    · refine z_aload_n F dX12_becomes_10 rfl rfl 0 rfl ?_
      refine z_cSip (As := [.ref (g.2.2.1 + a0)]) (st := []) F (c_X12_many l g k0 hw) cs_X12_many w_1108 ⟨rfl, rfl, Nat.le_of_ble_eq_true rfl, Nat.le_of_ble_eq_true rfl⟩ rfl (Nat.le_of_ble_eq_true rfl) dX12_becomes_11 rfl (fun r11 hw => ?_)
      refine z_iload_n F dX12_becomes_14 rfl rfl 3 rfl ?_
      refine z_icmp_ne F dX12_becomes_15 rfl rfl hw (fun hw => ?_) (fun hw => ?_)
      · refine z_sub [0, 1, 2] rfl ?_
        exact bk_X12_becomes_21 F hr k0 hw
      · refine z_bipush F dX12_becomes_18 (by decide) rfl ?_
        exact z_iret (x := (-4)) F hr dX12_becomes_20 hw
theorem cs_X12_becomes : CS yX12_becomes cX12_becomes 5 (some .int) 4 := ⟨w_1106, w_80, w_1107, by decide +kernel, by decide +kernel, by decide +kernel⟩
abbrev rm_X12_due : Room := { frames := 2, cells := 0, slots := 0, locals := 46 }
def wp_X12_due (a0 : Nat) (a1 : Int) (a2 : Int) (M : Mem) (Q : Int → Mem → Prop) : Prop :=
  wp_X12_isDay a1 M (fun r1 =>
  ((r1 = false → (
    Q (-2) M)) ∧
  (r1 = true → (
    wp_X12_within a2 0 99 M (fun r11 =>
    ((r11 = true → (
      wp_X12_becomes (rt a0 0) a1 a2 5 M (fun r27 M27 =>
      wp_X12_finds a0 M27 (fun M32 =>
      Q r27 M32)))) ∧
    (r11 = false → (
      Q (-2) M))))))))
set_option maxRecDepth 100000 in
set_option maxHeartbeats 4000000 in
theorem c_X12_due (l : Launch) (g : En) {a0 : Nat} {a1 : Int} {a2 : Int} {M : Mem} {Q : Int → Mem → Prop} (k0 : kd a0 = 12) (hw : wp_X12_due a0 a1 a2 M Q) :
    Met l yX12_due (WS yX12_due cX12_due 4 (some .int)) rm_X12_due (va_Pc [.ref (g.2.2.1 + a0), .int (i3 a1), .int (i3 a2)] (Rp g M)) (va_Qi (S := Int × Mem) (fun r u => r = i3 u.1 ∧ Q u.1 u.2) (fun u => Rp g u.2) (aR g)) 0 0 (aR g) := by
  refine met_Z (plainFor_of_name rfl) (Nat.le_of_ble_eq_true rfl) ?_
  intro p e s m args below meth c F hr _
  show Z g p l e rm_X12_due s m args below meth c 4 (MQ below (va_Qi (S := Int × Mem) (fun r u => r = i3 u.1 ∧ Q u.1 u.2) (fun u => Rp g u.2) (aR g)) args s 0 0 (aR g)) M 0 [(0, .ref (g.2.2.1 + a0)), (1, .int (i3 a1)), (2, .int (i3 a2))] []
  refine z_iload_n F dX12_due_0 rfl rfl 1 rfl ?_
  refine z_cSbp (As := [.int (i3 a1)]) (st := []) F (c_X12_isDay l g hw) cs_X12_isDay w_1099 ⟨rfl, rfl, Nat.le_of_ble_eq_true rfl, Nat.le_of_ble_eq_true rfl⟩ rfl (Nat.le_of_ble_eq_true rfl) dX12_due_1 rfl (fun r1 hw => ?_)
  refine z_ifb_eq F dX12_due_4 rfl rfl hw (fun hw => ?_) (fun hw => ?_)
  · refine z_bipush F dX12_due_17 (by decide) rfl ?_
    exact z_iret (x := (-2)) F hr dX12_due_19 hw
  · refine z_iload_n F dX12_due_7 rfl rfl 2 rfl ?_
    refine z_iconst F dX12_due_8 rfl ?_
    refine z_bipush F dX12_due_9 (by decide) rfl ?_
    refine z_cSbp (As := [.int (i3 a2), .int (i3 0), .int (i3 99)]) (st := []) F (c_X12_within l g hw) cs_X12_within w_1102 ⟨rfl, rfl, Nat.le_of_ble_eq_true rfl, Nat.le_of_ble_eq_true rfl⟩ rfl (Nat.le_of_ble_eq_true rfl) dX12_due_11 rfl (fun r11 hw => ?_)
    refine z_ifb_ne F dX12_due_14 rfl rfl hw (fun hw => ?_) (fun hw => ?_)
    · refine z_aload_n F dX12_due_20 rfl rfl 0 rfl ?_
      refine z_getR F fl_992 k0 dX12_due_21 rfl ?_
      refine z_iload_n F dX12_due_24 rfl rfl 1 rfl ?_
      refine z_iload_n F dX12_due_25 rfl rfl 2 rfl ?_
      refine z_iconst F dX12_due_26 rfl ?_
      refine z_cSi (As := [.ref (g.2.2.1 + (rt a0 0)), .int (i3 a1), .int (i3 a2), .int (i3 5)]) (st := []) F (c_X12_becomes l g (tk_12_0 k0) hw) cs_X12_becomes w_1105 ⟨rfl, rfl, Nat.le_of_ble_eq_true rfl, Nat.le_of_ble_eq_true rfl⟩ rfl (Nat.le_of_ble_eq_true rfl) dX12_due_27 rfl (fun r27 M27 hw => ?_)
      refine z_istore_n F dX12_due_30 rfl rfl (by decide) rfl ?_
      refine z_aload_n F dX12_due_31 rfl rfl 1 rfl ?_
      refine z_cVv (As := []) (st := []) F (c_X12_finds l g k0 hw) cv_X12_finds w_1111 ⟨rfl, rfl, Nat.le_of_ble_eq_true rfl, Nat.le_of_ble_eq_true rfl⟩ k0 rfl rfl (Nat.le_of_ble_eq_true rfl) dX12_due_32 rfl (fun M32 hw => ?_)
      refine z_iload_n F dX12_due_35 rfl rfl 0 rfl ?_
      exact z_iret (x := r27) F hr dX12_due_36 hw
    · refine z_bipush F dX12_due_17 (by decide) rfl ?_
      exact z_iret (x := (-2)) F hr dX12_due_19 hw
theorem cv_X12_due : CV yX12_due RX12 cX12_due 4 (some .int) 2 := ⟨w_1096, w_1097, w_80, w_1098, rfl, by decide +kernel, by decide +kernel, by decide +kernel⟩
abbrev rm_X12_rate : Room := { frames := 2, cells := 0, slots := 0, locals := 46 }
def wp_X12_rate (a0 : Nat) (a1 : Int) (a2 : Int) (M : Mem) (Q : Int → Mem → Prop) : Prop :=
  wp_X12_isDay a1 M (fun r1 =>
  ((r1 = false → (
    Q (-2) M)) ∧
  (r1 = true → (
    wp_X12_within a2 (-1) 3 M (fun r10 =>
    ((r10 = true → (
      wp_X12_becomes (rt a0 1) a1 (a2 + 1) 6 M (fun r29 M29 =>
      (((¬ w32 r29 = w32 (-4)) → (
        Q (r29 - 1) M29)) ∧
      (¬ (¬ w32 r29 = w32 (-4)) → (
        Q (-4) M29)))))) ∧
    (r10 = false → (
      Q (-2) M))))))))
set_option maxRecDepth 100000 in
set_option maxHeartbeats 4000000 in
theorem c_X12_rate (l : Launch) (g : En) {a0 : Nat} {a1 : Int} {a2 : Int} {M : Mem} {Q : Int → Mem → Prop} (k0 : kd a0 = 12) (hw : wp_X12_rate a0 a1 a2 M Q) :
    Met l yX12_rate (WS yX12_rate cX12_rate 4 (some .int)) rm_X12_rate (va_Pc [.ref (g.2.2.1 + a0), .int (i3 a1), .int (i3 a2)] (Rp g M)) (va_Qi (S := Int × Mem) (fun r u => r = i3 u.1 ∧ Q u.1 u.2) (fun u => Rp g u.2) (aR g)) 0 0 (aR g) := by
  refine met_Z (plainFor_of_name rfl) (Nat.le_of_ble_eq_true rfl) ?_
  intro p e s m args below meth c F hr _
  show Z g p l e rm_X12_rate s m args below meth c 4 (MQ below (va_Qi (S := Int × Mem) (fun r u => r = i3 u.1 ∧ Q u.1 u.2) (fun u => Rp g u.2) (aR g)) args s 0 0 (aR g)) M 0 [(0, .ref (g.2.2.1 + a0)), (1, .int (i3 a1)), (2, .int (i3 a2))] []
  refine z_iload_n F dX12_rate_0 rfl rfl 1 rfl ?_
  refine z_cSbp (As := [.int (i3 a1)]) (st := []) F (c_X12_isDay l g hw) cs_X12_isDay w_1099 ⟨rfl, rfl, Nat.le_of_ble_eq_true rfl, Nat.le_of_ble_eq_true rfl⟩ rfl (Nat.le_of_ble_eq_true rfl) dX12_rate_1 rfl (fun r1 hw => ?_)
  refine z_ifb_eq F dX12_rate_4 rfl rfl hw (fun hw => ?_) (fun hw => ?_)
  · refine z_bipush F dX12_rate_16 (by decide) rfl ?_
    exact z_iret (x := (-2)) F hr dX12_rate_18 hw
  · refine z_iload_n F dX12_rate_7 rfl rfl 2 rfl ?_
    refine z_iconst F dX12_rate_8 rfl ?_
    refine z_iconst F dX12_rate_9 rfl ?_
    refine z_cSbp (As := [.int (i3 a2), .int (i3 (-1)), .int (i3 3)]) (st := []) F (c_X12_within l g hw) cs_X12_within w_1102 ⟨rfl, rfl, Nat.le_of_ble_eq_true rfl, Nat.le_of_ble_eq_true rfl⟩ rfl (Nat.le_of_ble_eq_true rfl) dX12_rate_10 rfl (fun r10 hw => ?_)
    refine z_ifb_ne F dX12_rate_13 rfl rfl hw (fun hw => ?_) (fun hw => ?_)
    · refine z_aload_n F dX12_rate_19 rfl rfl 0 rfl ?_
      refine z_getR F fl_993 k0 dX12_rate_20 rfl ?_
      refine z_iload_n F dX12_rate_23 rfl rfl 1 rfl ?_
      refine z_iload_n F dX12_rate_24 rfl rfl 2 rfl ?_
      refine z_iconst F dX12_rate_25 rfl ?_
      refine z_iadd F dX12_rate_26 rfl ?_
      refine z_bipush F dX12_rate_27 (by decide) rfl ?_
      refine z_cSi (As := [.ref (g.2.2.1 + (rt a0 1)), .int (i3 a1), .int (i3 (a2 + 1)), .int (i3 6)]) (st := []) F (c_X12_becomes l g (tk_12_1 k0) hw) cs_X12_becomes w_1105 ⟨rfl, rfl, Nat.le_of_ble_eq_true rfl, Nat.le_of_ble_eq_true rfl⟩ rfl (Nat.le_of_ble_eq_true rfl) dX12_rate_29 rfl (fun r29 M29 hw => ?_)
      refine z_istore_n F dX12_rate_32 rfl rfl (by decide) rfl ?_
      refine z_iload_n F dX12_rate_33 rfl rfl 0 rfl ?_
      refine z_bipush F dX12_rate_34 (by decide) rfl ?_
      refine z_icmp_ne F dX12_rate_36 rfl rfl hw (fun hw => ?_) (fun hw => ?_)
      · refine z_iload_n F dX12_rate_44 rfl rfl 0 rfl ?_
        refine z_iconst F dX12_rate_45 rfl ?_
        refine z_isub F dX12_rate_46 rfl ?_
        exact z_iret (x := (r29 - 1)) F hr dX12_rate_47 hw
      · refine z_bipush F dX12_rate_39 (by decide) rfl ?_
        refine z_goto F dX12_rate_41 rfl ?_
        exact z_iret (x := (-4)) F hr dX12_rate_47 hw
    · refine z_bipush F dX12_rate_16 (by decide) rfl ?_
      exact z_iret (x := (-2)) F hr dX12_rate_18 hw
theorem cv_X12_rate : CV yX12_rate RX12 cX12_rate 4 (some .int) 2 := ⟨w_1116, w_1117, w_80, w_1118, rfl, by decide +kernel, by decide +kernel, by decide +kernel⟩
abbrev rm_X12_limit : Room := { frames := 2, cells := 0, slots := 0, locals := 46 }
def wp_X12_limit (a0 : Nat) (a1 : Int) (a2 : Int) (M : Mem) (Q : Int → Mem → Prop) : Prop :=
  wp_X12_isDay a1 M (fun r1 =>
  ((r1 = false → (
    Q (-2) M)) ∧
  (r1 = true → (
    wp_X12_within a2 (-1) 99 M (fun r11 =>
    ((r11 = true → (
      wp_X12_becomes (rt a0 2) a1 (a2 + 1) 5 M (fun r29 M29 =>
      (((¬ w32 r29 = w32 (-4)) → (
        Q (r29 - 1) M29)) ∧
      (¬ (¬ w32 r29 = w32 (-4)) → (
        Q (-4) M29)))))) ∧
    (r11 = false → (
      Q (-2) M))))))))
set_option maxRecDepth 100000 in
set_option maxHeartbeats 4000000 in
theorem c_X12_limit (l : Launch) (g : En) {a0 : Nat} {a1 : Int} {a2 : Int} {M : Mem} {Q : Int → Mem → Prop} (k0 : kd a0 = 12) (hw : wp_X12_limit a0 a1 a2 M Q) :
    Met l yX12_limit (WS yX12_limit cX12_limit 4 (some .int)) rm_X12_limit (va_Pc [.ref (g.2.2.1 + a0), .int (i3 a1), .int (i3 a2)] (Rp g M)) (va_Qi (S := Int × Mem) (fun r u => r = i3 u.1 ∧ Q u.1 u.2) (fun u => Rp g u.2) (aR g)) 0 0 (aR g) := by
  refine met_Z (plainFor_of_name rfl) (Nat.le_of_ble_eq_true rfl) ?_
  intro p e s m args below meth c F hr _
  show Z g p l e rm_X12_limit s m args below meth c 4 (MQ below (va_Qi (S := Int × Mem) (fun r u => r = i3 u.1 ∧ Q u.1 u.2) (fun u => Rp g u.2) (aR g)) args s 0 0 (aR g)) M 0 [(0, .ref (g.2.2.1 + a0)), (1, .int (i3 a1)), (2, .int (i3 a2))] []
  refine z_iload_n F dX12_limit_0 rfl rfl 1 rfl ?_
  refine z_cSbp (As := [.int (i3 a1)]) (st := []) F (c_X12_isDay l g hw) cs_X12_isDay w_1099 ⟨rfl, rfl, Nat.le_of_ble_eq_true rfl, Nat.le_of_ble_eq_true rfl⟩ rfl (Nat.le_of_ble_eq_true rfl) dX12_limit_1 rfl (fun r1 hw => ?_)
  refine z_ifb_eq F dX12_limit_4 rfl rfl hw (fun hw => ?_) (fun hw => ?_)
  · refine z_bipush F dX12_limit_17 (by decide) rfl ?_
    exact z_iret (x := (-2)) F hr dX12_limit_19 hw
  · refine z_iload_n F dX12_limit_7 rfl rfl 2 rfl ?_
    refine z_iconst F dX12_limit_8 rfl ?_
    refine z_bipush F dX12_limit_9 (by decide) rfl ?_
    refine z_cSbp (As := [.int (i3 a2), .int (i3 (-1)), .int (i3 99)]) (st := []) F (c_X12_within l g hw) cs_X12_within w_1102 ⟨rfl, rfl, Nat.le_of_ble_eq_true rfl, Nat.le_of_ble_eq_true rfl⟩ rfl (Nat.le_of_ble_eq_true rfl) dX12_limit_11 rfl (fun r11 hw => ?_)
    refine z_ifb_ne F dX12_limit_14 rfl rfl hw (fun hw => ?_) (fun hw => ?_)
    · refine z_aload_n F dX12_limit_20 rfl rfl 0 rfl ?_
      refine z_getR F fl_994 k0 dX12_limit_21 rfl ?_
      refine z_iload_n F dX12_limit_24 rfl rfl 1 rfl ?_
      refine z_iload_n F dX12_limit_25 rfl rfl 2 rfl ?_
      refine z_iconst F dX12_limit_26 rfl ?_
      refine z_iadd F dX12_limit_27 rfl ?_
      refine z_iconst F dX12_limit_28 rfl ?_
      refine z_cSi (As := [.ref (g.2.2.1 + (rt a0 2)), .int (i3 a1), .int (i3 (a2 + 1)), .int (i3 5)]) (st := []) F (c_X12_becomes l g (tk_12_2 k0) hw) cs_X12_becomes w_1105 ⟨rfl, rfl, Nat.le_of_ble_eq_true rfl, Nat.le_of_ble_eq_true rfl⟩ rfl (Nat.le_of_ble_eq_true rfl) dX12_limit_29 rfl (fun r29 M29 hw => ?_)
      refine z_istore_n F dX12_limit_32 rfl rfl (by decide) rfl ?_
      refine z_iload_n F dX12_limit_33 rfl rfl 0 rfl ?_
      refine z_bipush F dX12_limit_34 (by decide) rfl ?_
      refine z_icmp_ne F dX12_limit_36 rfl rfl hw (fun hw => ?_) (fun hw => ?_)
      · refine z_iload_n F dX12_limit_44 rfl rfl 0 rfl ?_
        refine z_iconst F dX12_limit_45 rfl ?_
        refine z_isub F dX12_limit_46 rfl ?_
        exact z_iret (x := (r29 - 1)) F hr dX12_limit_47 hw
      · refine z_bipush F dX12_limit_39 (by decide) rfl ?_
        refine z_goto F dX12_limit_41 rfl ?_
        exact z_iret (x := (-4)) F hr dX12_limit_47 hw
    · refine z_bipush F dX12_limit_17 (by decide) rfl ?_
      exact z_iret (x := (-2)) F hr dX12_limit_19 hw
theorem cv_X12_limit : CV yX12_limit RX12 cX12_limit 4 (some .int) 2 := ⟨w_1120, w_1121, w_80, w_1122, rfl, by decide +kernel, by decide +kernel, by decide +kernel⟩
abbrev rm_X12_rateOf : Room := { frames := 0, cells := 0, slots := 0, locals := 0 }
def wp_X12_rateOf_b21 (a0 : Nat) (Q : Int → Prop) (M : Mem) (x2 : Int) : Prop :=
  (((¬ w32 x2 = 0) → (
    inb (rt a0 1) x2 ∧ (
    Q ((M (rt a0 1) (ix x2)) - 1)))) ∧
  (¬ (¬ w32 x2 = 0) → (
    Q 0)))
def wp_X12_rateOf_B2 (a0 : Nat) (Q : Int → Prop) (K2 : Int → Prop) (M : Mem) (x2 : Int) : Prop :=
  (((w32 x2 ≤ 0) → (
    wp_X12_rateOf_b21 a0 Q M x2)) ∧
  (¬ (w32 x2 ≤ 0) → (
    inb (rt a0 1) x2 ∧ (
    (((¬ w32 (M (rt a0 1) (ix x2)) = 0) → (
      wp_X12_rateOf_b21 a0 Q M x2)) ∧
    (¬ (¬ w32 (M (rt a0 1) (ix x2)) = 0) → (
      K2 (x2 + (-1)))))))))
def wp_X12_rateOf_L2 (a0 : Nat) (Q : Int → Prop) (M : Mem) (x2 : Int) : Prop :=
  ∃ (I : Int → Prop) (μ : Int → Nat), I x2 ∧ ∀ (x2 : Int), I x2 →
    wp_X12_rateOf_B2 a0 Q (fun x2' => I x2' ∧ μ x2' < μ x2) M x2
def wp_X12_rateOf (a0 : Nat) (a1 : Int) (M : Mem) (Q : Int → Prop) : Prop :=
  wp_X12_rateOf_L2 a0 Q M a1
set_option maxRecDepth 100000 in
set_option maxHeartbeats 4000000 in
theorem bk_X12_rateOf_21 {g : En} {p : Program} {l : Launch} {e : Env} {s : State} {m : MethodId} {args : Array Value} {below : List Frame} {meth : Method} {c : Code} {M : Mem} {a0 : Nat} {Q : Int → Prop} {x2 : Int} (F : Fx g p s m args meth c cX12_rateOf 3 RX12) (hr : meth.sig.returnType = (some .int)) (k0 : kd a0 = 12)
    (hw : wp_X12_rateOf_b21 a0 Q M x2) : Z g p l e rm_X12_rateOf s m args below meth c 3 (MQ below (va_Qi (S := Int × Mem) (fun r u => r = i3 u.1 ∧ (u.2 = M ∧ Q u.1)) (fun u => Rp g u.2) (aR g)) args s 0 0 (aR g)) M 21 [(0, .ref (g.2.2.1 + a0)), (2, .int (i3 x2))] [] := by
  refine z_iload_n F dX12_rateOf_21 rfl rfl 1 rfl ?_
  refine z_if_ne F dX12_rateOf_22 rfl rfl hw (fun hw => ?_) (fun hw => ?_)
  · refine z_aload_n F dX12_rateOf_29 rfl rfl 0 rfl ?_
    refine z_getR F fl_993 k0 dX12_rateOf_30 rfl ?_
    refine z_iload_n F dX12_rateOf_33 rfl rfl 1 rfl ?_
    refine z_iald F (tk_12_1 k0) dX12_rateOf_34 rfl hw (fun hw => ?_)
    refine z_iconst F dX12_rateOf_35 rfl ?_
    refine z_isub F dX12_rateOf_36 rfl ?_
    exact z_iretp (x := ((M (rt a0 1) (ix x2)) - 1)) F hr dX12_rateOf_37 hw
  · refine z_iconst F dX12_rateOf_25 rfl ?_
    refine z_goto F dX12_rateOf_26 rfl ?_
    exact z_iretp (x := 0) F hr dX12_rateOf_37 hw
set_option maxRecDepth 100000 in
set_option maxHeartbeats 4000000 in
theorem bk_X12_rateOf_B2 {g : En} {p : Program} {l : Launch} {e : Env} {s : State} {m : MethodId} {args : Array Value} {below : List Frame} {meth : Method} {c : Code} {M : Mem} {a0 : Nat} {Q : Int → Prop} {K2 : Int → Prop} {x2 : Int} (F : Fx g p s m args meth c cX12_rateOf 3 RX12) (hr : meth.sig.returnType = (some .int)) (k0 : kd a0 = 12)
    (hK2 : ∀ (x2' : Int), K2 x2' → Z g p l e rm_X12_rateOf s m args below meth c 3 (MQ below (va_Qi (S := Int × Mem) (fun r u => r = i3 u.1 ∧ (u.2 = M ∧ Q u.1)) (fun u => Rp g u.2) (aR g)) args s 0 0 (aR g)) M 2 [(0, .ref (g.2.2.1 + a0)), (2, .int (i3 x2'))] [])
    (hw : wp_X12_rateOf_B2 a0 Q K2 M x2) : Z g p l e rm_X12_rateOf s m args below meth c 3 (MQ below (va_Qi (S := Int × Mem) (fun r u => r = i3 u.1 ∧ (u.2 = M ∧ Q u.1)) (fun u => Rp g u.2) (aR g)) args s 0 0 (aR g)) M 2 [(0, .ref (g.2.2.1 + a0)), (2, .int (i3 x2))] [] := by
  refine z_iload_n F dX12_rateOf_2 rfl rfl 1 rfl ?_
  refine z_if_le F dX12_rateOf_3 rfl rfl hw (fun hw => ?_) (fun hw => ?_)
  · refine z_sub [0, 1] rfl ?_
    exact bk_X12_rateOf_21 F hr k0 hw
  · refine z_aload_n F dX12_rateOf_6 rfl rfl 0 rfl ?_
    refine z_getR F fl_993 k0 dX12_rateOf_7 rfl ?_
    refine z_iload_n F dX12_rateOf_10 rfl rfl 1 rfl ?_
    refine z_iald F (tk_12_1 k0) dX12_rateOf_11 rfl hw (fun hw => ?_)
    refine z_if_ne F dX12_rateOf_12 rfl rfl hw (fun hw => ?_) (fun hw => ?_)
    · refine z_sub [0, 1] rfl ?_
      exact bk_X12_rateOf_21 F hr k0 hw
    · refine z_iinc F dX12_rateOf_15 rfl 1 rfl (by decide) rfl ?_
      refine z_goto F dX12_rateOf_18 rfl ?_
      refine z_sub [1, 0] rfl ?_
      exact hK2 (x2 + (-1)) hw
set_option maxRecDepth 100000 in
set_option maxHeartbeats 4000000 in
theorem lp_X12_rateOf_2 {g : En} {p : Program} {l : Launch} {e : Env} {s : State} {m : MethodId} {args : Array Value} {below : List Frame} {meth : Method} {c : Code} {M : Mem} {a0 : Nat} {Q : Int → Prop} {x2 : Int} (F : Fx g p s m args meth c cX12_rateOf 3 RX12) (hr : meth.sig.returnType = (some .int)) (k0 : kd a0 = 12)
    (hw : wp_X12_rateOf_L2 a0 Q M x2) : Z g p l e rm_X12_rateOf s m args below meth c 3 (MQ below (va_Qi (S := Int × Mem) (fun r u => r = i3 u.1 ∧ (u.2 = M ∧ Q u.1)) (fun u => Rp g u.2) (aR g)) args s 0 0 (aR g)) M 2 [(0, .ref (g.2.2.1 + a0)), (2, .int (i3 x2))] [] := by
  obtain ⟨I, μ, h0, hb⟩ := hw
  have key : ∀ (n : Nat) (x2 : Int), I x2 → μ x2 < n → Z g p l e rm_X12_rateOf s m args below meth c 3 (MQ below (va_Qi (S := Int × Mem) (fun r u => r = i3 u.1 ∧ (u.2 = M ∧ Q u.1)) (fun u => Rp g u.2) (aR g)) args s 0 0 (aR g)) M 2 [(0, .ref (g.2.2.1 + a0)), (2, .int (i3 x2))] [] := by
    intro n
    induction n with
    | zero => exact fun _ _ h => absurd h (Nat.not_lt_zero _)
    | succ n ih =>
      intro x2 hI hn
      exact bk_X12_rateOf_B2 F hr k0 (fun x2' hk => ih x2' hk.1 (Nat.lt_of_lt_of_le hk.2 (Nat.le_of_lt_succ hn))) (hb x2 hI)
  exact key _ x2 h0 (Nat.lt_succ_self _)
set_option maxRecDepth 100000 in
set_option maxHeartbeats 4000000 in
theorem c_X12_rateOf (l : Launch) (g : En) {a0 : Nat} {a1 : Int} {M : Mem} {Q : Int → Prop} (k0 : kd a0 = 12) (hw : wp_X12_rateOf a0 a1 M Q) :
    Met l yX12_rateOf (WS yX12_rateOf cX12_rateOf 3 (some .int)) rm_X12_rateOf (va_Pc [.ref (g.2.2.1 + a0), .int (i3 a1)] (Rp g M)) (va_Qi (S := Int × Mem) (fun r u => r = i3 u.1 ∧ (u.2 = M ∧ Q u.1)) (fun u => Rp g u.2) (aR g)) 0 0 (aR g) := by
  refine met_Z (plainFor_of_name rfl) (Nat.le_of_ble_eq_true rfl) ?_
  intro p e s m args below meth c F hr _
  show Z g p l e rm_X12_rateOf s m args below meth c 3 (MQ below (va_Qi (S := Int × Mem) (fun r u => r = i3 u.1 ∧ (u.2 = M ∧ Q u.1)) (fun u => Rp g u.2) (aR g)) args s 0 0 (aR g)) M 0 [(0, .ref (g.2.2.1 + a0)), (1, .int (i3 a1))] []
  refine z_iload_n F dX12_rateOf_0 rfl rfl 1 rfl ?_
  refine z_istore_n F dX12_rateOf_1 rfl rfl (by decide) rfl ?_
  refine z_sub [1, 0] rfl ?_
  exact lp_X12_rateOf_2 F hr k0 hw
theorem cv_X12_rateOf : CV yX12_rateOf RX12 cX12_rateOf 3 (some .int) 1 := ⟨w_1133, w_24, w_80, w_1134, rfl, by decide +kernel, by decide +kernel, by decide +kernel⟩
abbrev rm_X12_rungFor : Room := { frames := 0, cells := 0, slots := 0, locals := 0 }
def wp_X12_rungFor_B2 (a0 : Nat) (Q : Int → Prop) (K2 : Int → Prop) (M : Mem) (x1 : Int) (x2 : Int) : Prop :=
  (((w32 (M a0 5) ≤ w32 x2) → (
    Q (-1))) ∧
  (¬ (w32 (M a0 5) ≤ w32 x2) → (
    inb (rt a0 6) x2 ∧ (
    (((w32 (M (rt a0 6) (ix x2)) < w32 x1) → (
      K2 (x2 + 1))) ∧
    (¬ (w32 (M (rt a0 6) (ix x2)) < w32 x1) → (
      Q x2)))))))
def wp_X12_rungFor_L2 (a0 : Nat) (Q : Int → Prop) (M : Mem) (x1 : Int) (x2 : Int) : Prop :=
  ∃ (I : Int → Prop) (μ : Int → Nat), I x2 ∧ ∀ (x2 : Int), I x2 →
    wp_X12_rungFor_B2 a0 Q (fun x2' => I x2' ∧ μ x2' < μ x2) M x1 x2
def wp_X12_rungFor (a0 : Nat) (a1 : Int) (M : Mem) (Q : Int → Prop) : Prop :=
  wp_X12_rungFor_L2 a0 Q M a1 0
set_option maxRecDepth 100000 in
set_option maxHeartbeats 4000000 in
theorem bk_X12_rungFor_B2 {g : En} {p : Program} {l : Launch} {e : Env} {s : State} {m : MethodId} {args : Array Value} {below : List Frame} {meth : Method} {c : Code} {M : Mem} {a0 : Nat} {Q : Int → Prop} {K2 : Int → Prop} {x1 : Int} {x2 : Int} (F : Fx g p s m args meth c cX12_rungFor 3 RX12) (hr : meth.sig.returnType = (some .int)) (k0 : kd a0 = 12)
    (hK2 : ∀ (x2' : Int), K2 x2' → Z g p l e rm_X12_rungFor s m args below meth c 3 (MQ below (va_Qi (S := Int × Mem) (fun r u => r = i3 u.1 ∧ (u.2 = M ∧ Q u.1)) (fun u => Rp g u.2) (aR g)) args s 0 0 (aR g)) M 2 [(0, .ref (g.2.2.1 + a0)), (1, .int (i3 x1)), (2, .int (i3 x2'))] [])
    (hw : wp_X12_rungFor_B2 a0 Q K2 M x1 x2) : Z g p l e rm_X12_rungFor s m args below meth c 3 (MQ below (va_Qi (S := Int × Mem) (fun r u => r = i3 u.1 ∧ (u.2 = M ∧ Q u.1)) (fun u => Rp g u.2) (aR g)) args s 0 0 (aR g)) M 2 [(0, .ref (g.2.2.1 + a0)), (1, .int (i3 x1)), (2, .int (i3 x2))] [] := by
  refine z_iload_n F dX12_rungFor_2 rfl rfl 2 rfl ?_
  refine z_aload_n F dX12_rungFor_3 rfl rfl 0 rfl ?_
  refine z_getI F fl_997 k0 dX12_rungFor_4 rfl ?_
  refine z_icmp_ge F dX12_rungFor_7 rfl rfl hw (fun hw => ?_) (fun hw => ?_)
  · refine z_iconst F dX12_rungFor_28 rfl ?_
    exact z_iretp (x := (-1)) F hr dX12_rungFor_29 hw
  · refine z_aload_n F dX12_rungFor_10 rfl rfl 0 rfl ?_
    refine z_getR F fl_998 k0 dX12_rungFor_11 rfl ?_
    refine z_iload_n F dX12_rungFor_14 rfl rfl 2 rfl ?_
    refine z_iald F (tk_12_6 k0) dX12_rungFor_15 rfl hw (fun hw => ?_)
    refine z_iload_n F dX12_rungFor_16 rfl rfl 1 rfl ?_
    refine z_icmp_lt F dX12_rungFor_17 rfl rfl hw (fun hw => ?_) (fun hw => ?_)
    · refine z_iinc F dX12_rungFor_22 rfl 2 rfl (by decide) rfl ?_
      refine z_goto F dX12_rungFor_25 rfl ?_
      refine z_sub [1, 2, 0] rfl ?_
      exact hK2 (x2 + 1) hw
    · refine z_iload_n F dX12_rungFor_20 rfl rfl 2 rfl ?_
      exact z_iretp (x := x2) F hr dX12_rungFor_21 hw
set_option maxRecDepth 100000 in
set_option maxHeartbeats 4000000 in
theorem lp_X12_rungFor_2 {g : En} {p : Program} {l : Launch} {e : Env} {s : State} {m : MethodId} {args : Array Value} {below : List Frame} {meth : Method} {c : Code} {M : Mem} {a0 : Nat} {Q : Int → Prop} {x1 : Int} {x2 : Int} (F : Fx g p s m args meth c cX12_rungFor 3 RX12) (hr : meth.sig.returnType = (some .int)) (k0 : kd a0 = 12)
    (hw : wp_X12_rungFor_L2 a0 Q M x1 x2) : Z g p l e rm_X12_rungFor s m args below meth c 3 (MQ below (va_Qi (S := Int × Mem) (fun r u => r = i3 u.1 ∧ (u.2 = M ∧ Q u.1)) (fun u => Rp g u.2) (aR g)) args s 0 0 (aR g)) M 2 [(0, .ref (g.2.2.1 + a0)), (1, .int (i3 x1)), (2, .int (i3 x2))] [] := by
  obtain ⟨I, μ, h0, hb⟩ := hw
  have key : ∀ (n : Nat) (x2 : Int), I x2 → μ x2 < n → Z g p l e rm_X12_rungFor s m args below meth c 3 (MQ below (va_Qi (S := Int × Mem) (fun r u => r = i3 u.1 ∧ (u.2 = M ∧ Q u.1)) (fun u => Rp g u.2) (aR g)) args s 0 0 (aR g)) M 2 [(0, .ref (g.2.2.1 + a0)), (1, .int (i3 x1)), (2, .int (i3 x2))] [] := by
    intro n
    induction n with
    | zero => exact fun _ _ h => absurd h (Nat.not_lt_zero _)
    | succ n ih =>
      intro x2 hI hn
      exact bk_X12_rungFor_B2 F hr k0 (fun x2' hk => ih x2' hk.1 (Nat.lt_of_lt_of_le hk.2 (Nat.le_of_lt_succ hn))) (hb x2 hI)
  exact key _ x2 h0 (Nat.lt_succ_self _)
set_option maxRecDepth 100000 in
set_option maxHeartbeats 4000000 in
theorem c_X12_rungFor (l : Launch) (g : En) {a0 : Nat} {a1 : Int} {M : Mem} {Q : Int → Prop} (k0 : kd a0 = 12) (hw : wp_X12_rungFor a0 a1 M Q) :
    Met l yX12_rungFor (WS yX12_rungFor cX12_rungFor 3 (some .int)) rm_X12_rungFor (va_Pc [.ref (g.2.2.1 + a0), .int (i3 a1)] (Rp g M)) (va_Qi (S := Int × Mem) (fun r u => r = i3 u.1 ∧ (u.2 = M ∧ Q u.1)) (fun u => Rp g u.2) (aR g)) 0 0 (aR g) := by
  refine met_Z (plainFor_of_name rfl) (Nat.le_of_ble_eq_true rfl) ?_
  intro p e s m args below meth c F hr _
  show Z g p l e rm_X12_rungFor s m args below meth c 3 (MQ below (va_Qi (S := Int × Mem) (fun r u => r = i3 u.1 ∧ (u.2 = M ∧ Q u.1)) (fun u => Rp g u.2) (aR g)) args s 0 0 (aR g)) M 0 [(0, .ref (g.2.2.1 + a0)), (1, .int (i3 a1))] []
  refine z_iconst F dX12_rungFor_0 rfl ?_
  refine z_istore_n F dX12_rungFor_1 rfl rfl (by decide) rfl ?_
  refine z_sub [1, 2, 0] rfl ?_
  exact lp_X12_rungFor_2 F hr k0 hw
theorem cv_X12_rungFor : CV yX12_rungFor RX12 cX12_rungFor 3 (some .int) 1 := ⟨w_1141, w_25, w_80, w_1142, rfl, by decide +kernel, by decide +kernel, by decide +kernel⟩
abbrev rm_X12_rateBy : Room := { frames := 1, cells := 0, slots := 0, locals := 22 }
def wp_X12_rateBy_b21 (a0 : Nat) (Q : Int → Prop) (M : Mem) (x1 : Int) : Prop :=
  wp_X12_rateOf a0 x1 M (fun r23 =>
  Q r23)
def wp_X12_rateBy (a0 : Nat) (a1 : Int) (M : Mem) (Q : Int → Prop) : Prop :=
  wp_X12_rungFor a0 a1 M (fun r2 =>
  (((w32 r2 = w32 (-1)) → (
    wp_X12_rateBy_b21 a0 Q M a1)) ∧
  (¬ (w32 r2 = w32 (-1)) → (
    inb (rt a0 7) r2 ∧ (
    (((¬ w32 (M (rt a0 7) (ix r2)) = w32 (-1)) → (
      inb (rt a0 7) r2 ∧ (
      Q (M (rt a0 7) (ix r2))))) ∧
    (¬ (¬ w32 (M (rt a0 7) (ix r2)) = w32 (-1)) → (
      wp_X12_rateBy_b21 a0 Q M a1))))))))
set_option maxRecDepth 100000 in
set_option maxHeartbeats 4000000 in
theorem bk_X12_rateBy_21 {g : En} {p : Program} {l : Launch} {e : Env} {s : State} {m : MethodId} {args : Array Value} {below : List Frame} {meth : Method} {c : Code} {M : Mem} {a0 : Nat} {Q : Int → Prop} {x1 : Int} (F : Fx g p s m args meth c cX12_rateBy 3 RX12) (hr : meth.sig.returnType = (some .int)) (k0 : kd a0 = 12)
    (hw : wp_X12_rateBy_b21 a0 Q M x1) : Z g p l e rm_X12_rateBy s m args below meth c 3 (MQ below (va_Qi (S := Int × Mem) (fun r u => r = i3 u.1 ∧ (u.2 = M ∧ Q u.1)) (fun u => Rp g u.2) (aR g)) args s 0 0 (aR g)) M 21 [(0, .ref (g.2.2.1 + a0)), (1, .int (i3 x1))] [] := by
  refine z_aload_n F dX12_rateBy_21 rfl rfl 0 rfl ?_
  refine z_iload_n F dX12_rateBy_22 rfl rfl 1 rfl ?_
  refine z_cVip (As := [.int (i3 x1)]) (st := []) F (c_X12_rateOf l g k0 hw) cv_X12_rateOf w_1131 ⟨rfl, rfl, Nat.le_of_ble_eq_true rfl, Nat.le_of_ble_eq_true rfl⟩ k0 rfl rfl (Nat.le_of_ble_eq_true rfl) dX12_rateBy_23 rfl (fun r23 hw => ?_)
  refine z_goto F dX12_rateBy_26 rfl ?_
  exact z_iretp (x := r23) F hr dX12_rateBy_35 hw
set_option maxRecDepth 100000 in
set_option maxHeartbeats 4000000 in
theorem c_X12_rateBy (l : Launch) (g : En) {a0 : Nat} {a1 : Int} {M : Mem} {Q : Int → Prop} (k0 : kd a0 = 12) (hw : wp_X12_rateBy a0 a1 M Q) :
    Met l yX12_rateBy (WS yX12_rateBy cX12_rateBy 3 (some .int)) rm_X12_rateBy (va_Pc [.ref (g.2.2.1 + a0), .int (i3 a1)] (Rp g M)) (va_Qi (S := Int × Mem) (fun r u => r = i3 u.1 ∧ (u.2 = M ∧ Q u.1)) (fun u => Rp g u.2) (aR g)) 0 0 (aR g) := by
  refine met_Z (plainFor_of_name rfl) (Nat.le_of_ble_eq_true rfl) ?_
  intro p e s m args below meth c F hr _
  show Z g p l e rm_X12_rateBy s m args below meth c 3 (MQ below (va_Qi (S := Int × Mem) (fun r u => r = i3 u.1 ∧ (u.2 = M ∧ Q u.1)) (fun u => Rp g u.2) (aR g)) args s 0 0 (aR g)) M 0 [(0, .ref (g.2.2.1 + a0)), (1, .int (i3 a1))] []
  refine z_aload_n F dX12_rateBy_0 rfl rfl 0 rfl ?_
  refine z_iload_n F dX12_rateBy_1 rfl rfl 1 rfl ?_
  refine z_cVip (As := [.int (i3 a1)]) (st := []) F (c_X12_rungFor l g k0 hw) cv_X12_rungFor w_1139 ⟨rfl, rfl, Nat.le_of_ble_eq_true rfl, Nat.le_of_ble_eq_true rfl⟩ k0 rfl rfl (Nat.le_of_ble_eq_true rfl) dX12_rateBy_2 rfl (fun r2 hw => ?_)
  refine z_istore_n F dX12_rateBy_5 rfl rfl (by decide) rfl ?_
  refine z_iload_n F dX12_rateBy_6 rfl rfl 0 rfl ?_
  refine z_iconst F dX12_rateBy_7 rfl ?_
  refine z_icmp_eq F dX12_rateBy_8 rfl rfl hw (fun hw => ?_) (fun hw => ?_)
  · refine z_sub [1, 2] rfl ?_
    exact bk_X12_rateBy_21 F hr k0 hw
  · refine z_aload_n F dX12_rateBy_11 rfl rfl 1 rfl ?_
    refine z_getR F fl_999 k0 dX12_rateBy_12 rfl ?_
    refine z_iload_n F dX12_rateBy_15 rfl rfl 0 rfl ?_
    refine z_iald F (tk_12_7 k0) dX12_rateBy_16 rfl hw (fun hw => ?_)
    refine z_iconst F dX12_rateBy_17 rfl ?_
    refine z_icmp_ne F dX12_rateBy_18 rfl rfl hw (fun hw => ?_) (fun hw => ?_)
    · refine z_aload_n F dX12_rateBy_29 rfl rfl 1 rfl ?_
      refine z_getR F fl_999 k0 dX12_rateBy_30 rfl ?_
      refine z_iload_n F dX12_rateBy_33 rfl rfl 0 rfl ?_
      refine z_iald F (tk_12_7 k0) dX12_rateBy_34 rfl hw (fun hw => ?_)
      exact z_iretp (x := (M (rt a0 7) (ix r2))) F hr dX12_rateBy_35 hw
    · refine z_sub [1, 2] rfl ?_
      exact bk_X12_rateBy_21 F hr k0 hw
theorem cv_X12_rateBy : CV yX12_rateBy RX12 cX12_rateBy 3 (some .int) 1 := ⟨w_1177, w_31, w_80, w_1178, rfl, by decide +kernel, by decide +kernel, by decide +kernel⟩
abbrev rm_X12_rung : Room := { frames := 2, cells := 0, slots := 0, locals := 43 }
def wp_X12_rung (a0 : Nat) (a1 : Int) (a2 : Int) (M : Mem) (Q : Int → Prop) : Prop :=
  wp_X12_within a2 0 3 M (fun r3 =>
  ((r3 = true → (
    wp_X12_isRung a0 a1 M (fun r14 =>
    ((r14 = true → (
      inb (rt a0 6) a1 ∧ (
      (((¬ w32 a2 = 0) → (
        (((¬ w32 a2 = w32 1) → (
          (((¬ w32 a2 = w32 2) → (
            inb (rt a0 2) (M (rt a0 6) (ix a1)) ∧ (
            Q ((M (rt a0 2) (ix (M (rt a0 6) (ix a1)))) - 1)))) ∧
          (¬ (¬ w32 a2 = w32 2) → (
            wp_X12_rateOf a0 (M (rt a0 6) (ix a1)) M (fun r59 =>
            Q r59)))))) ∧
        (¬ (¬ w32 a2 = w32 1) → (
          inb (rt a0 0) (M (rt a0 6) (ix a1)) ∧ (
          Q (M (rt a0 0) (ix (M (rt a0 6) (ix a1)))))))))) ∧
      (¬ (¬ w32 a2 = 0) → (
        Q (M (rt a0 6) (ix a1)))))))) ∧
    (r14 = false → (
      Q (-12))))))) ∧
  (r3 = false → (
    Q (-2)))))
set_option maxRecDepth 100000 in
set_option maxHeartbeats 4000000 in
theorem c_X12_rung (l : Launch) (g : En) {a0 : Nat} {a1 : Int} {a2 : Int} {M : Mem} {Q : Int → Prop} (k0 : kd a0 = 12) (hw : wp_X12_rung a0 a1 a2 M Q) :
    Met l yX12_rung (WS yX12_rung cX12_rung 4 (some .int)) rm_X12_rung (va_Pc [.ref (g.2.2.1 + a0), .int (i3 a1), .int (i3 a2)] (Rp g M)) (va_Qi (S := Int × Mem) (fun r u => r = i3 u.1 ∧ (u.2 = M ∧ Q u.1)) (fun u => Rp g u.2) (aR g)) 0 0 (aR g) := by
  refine met_Z (plainFor_of_name rfl) (Nat.le_of_ble_eq_true rfl) ?_
  intro p e s m args below meth c F hr _
  show Z g p l e rm_X12_rung s m args below meth c 4 (MQ below (va_Qi (S := Int × Mem) (fun r u => r = i3 u.1 ∧ (u.2 = M ∧ Q u.1)) (fun u => Rp g u.2) (aR g)) args s 0 0 (aR g)) M 0 [(0, .ref (g.2.2.1 + a0)), (1, .int (i3 a1)), (2, .int (i3 a2))] []
  refine z_iload_n F dX12_rung_0 rfl rfl 2 rfl ?_
  refine z_iconst F dX12_rung_1 rfl ?_
  refine z_iconst F dX12_rung_2 rfl ?_
  refine z_cSbp (As := [.int (i3 a2), .int (i3 0), .int (i3 3)]) (st := []) F (c_X12_within l g hw) cs_X12_within w_1102 ⟨rfl, rfl, Nat.le_of_ble_eq_true rfl, Nat.le_of_ble_eq_true rfl⟩ rfl (Nat.le_of_ble_eq_true rfl) dX12_rung_3 rfl (fun r3 hw => ?_)
  refine z_ifb_ne F dX12_rung_6 rfl rfl hw (fun hw => ?_) (fun hw => ?_)
  · refine z_aload_n F dX12_rung_12 rfl rfl 0 rfl ?_
    refine z_iload_n F dX12_rung_13 rfl rfl 1 rfl ?_
    refine z_cVbp (As := [.int (i3 a1)]) (st := []) F (c_X12_isRung l g k0 hw) cv_X12_isRung w_1127 ⟨rfl, rfl, Nat.le_of_ble_eq_true rfl, Nat.le_of_ble_eq_true rfl⟩ k0 rfl rfl (Nat.le_of_ble_eq_true rfl) dX12_rung_14 rfl (fun r14 hw => ?_)
    refine z_ifb_ne F dX12_rung_17 rfl rfl hw (fun hw => ?_) (fun hw => ?_)
    · refine z_aload_n F dX12_rung_23 rfl rfl 0 rfl ?_
      refine z_getR F fl_998 k0 dX12_rung_24 rfl ?_
      refine z_iload_n F dX12_rung_27 rfl rfl 1 rfl ?_
      refine z_iald F (tk_12_6 k0) dX12_rung_28 rfl hw (fun hw => ?_)
      refine z_istore_n F dX12_rung_29 rfl rfl (by decide) rfl ?_
      refine z_iload_n F dX12_rung_30 rfl rfl 3 rfl ?_
      refine z_if_ne F dX12_rung_31 rfl rfl hw (fun hw => ?_) (fun hw => ?_)
      · refine z_iload_n F dX12_rung_38 rfl rfl 3 rfl ?_
        refine z_iconst F dX12_rung_39 rfl ?_
        refine z_icmp_ne F dX12_rung_40 rfl rfl hw (fun hw => ?_) (fun hw => ?_)
        · refine z_iload_n F dX12_rung_52 rfl rfl 3 rfl ?_
          refine z_iconst F dX12_rung_53 rfl ?_
          refine z_icmp_ne F dX12_rung_54 rfl rfl hw (fun hw => ?_) (fun hw => ?_)
          · refine z_aload_n F dX12_rung_65 rfl rfl 1 rfl ?_
            refine z_getR F fl_994 k0 dX12_rung_66 rfl ?_
            refine z_iload_n F dX12_rung_69 rfl rfl 0 rfl ?_
            refine z_iald F (tk_12_2 k0) dX12_rung_70 rfl hw (fun hw => ?_)
            refine z_iconst F dX12_rung_71 rfl ?_
            refine z_isub F dX12_rung_72 rfl ?_
            exact z_iretp (x := ((M (rt a0 2) (ix (M (rt a0 6) (ix a1)))) - 1)) F hr dX12_rung_73 hw
          · refine z_aload_n F dX12_rung_57 rfl rfl 1 rfl ?_
            refine z_iload_n F dX12_rung_58 rfl rfl 0 rfl ?_
            refine z_cVip (As := [.int (i3 (M (rt a0 6) (ix a1)))]) (st := []) F (c_X12_rateOf l g k0 hw) cv_X12_rateOf w_1131 ⟨rfl, rfl, Nat.le_of_ble_eq_true rfl, Nat.le_of_ble_eq_true rfl⟩ k0 rfl rfl (Nat.le_of_ble_eq_true rfl) dX12_rung_59 rfl (fun r59 hw => ?_)
            refine z_goto F dX12_rung_62 rfl ?_
            exact z_iretp (x := r59) F hr dX12_rung_73 hw
        · refine z_aload_n F dX12_rung_43 rfl rfl 1 rfl ?_
          refine z_getR F fl_992 k0 dX12_rung_44 rfl ?_
          refine z_iload_n F dX12_rung_47 rfl rfl 0 rfl ?_
          refine z_iald F (tk_12_0 k0) dX12_rung_48 rfl hw (fun hw => ?_)
          refine z_goto F dX12_rung_49 rfl ?_
          exact z_iretp (x := (M (rt a0 0) (ix (M (rt a0 6) (ix a1))))) F hr dX12_rung_73 hw
      · refine z_iload_n F dX12_rung_34 rfl rfl 0 rfl ?_
        refine z_goto F dX12_rung_35 rfl ?_
        exact z_iretp (x := (M (rt a0 6) (ix a1))) F hr dX12_rung_73 hw
    · refine z_bipush F dX12_rung_20 (by decide) rfl ?_
      exact z_iretp (x := (-12)) F hr dX12_rung_22 hw
  · refine z_bipush F dX12_rung_9 (by decide) rfl ?_
    exact z_iretp (x := (-2)) F hr dX12_rung_11 hw
theorem cv_X12_rung : CV yX12_rung RX12 cX12_rung 4 (some .int) 2 := ⟨w_1124, w_1125, w_80, w_1126, rfl, by decide +kernel, by decide +kernel, by decide +kernel⟩
abbrev rm_X12_day : Room := { frames := 2, cells := 0, slots := 0, locals := 42 }
def wp_X12_day (a0 : Nat) (a1 : Int) (a2 : Int) (M : Mem) (Q : Int → Prop) : Prop :=
  wp_X12_isDay a1 M (fun r1 =>
  ((r1 = false → (
    Q (-2))) ∧
  (r1 = true → (
    wp_X12_within a2 0 1 M (fun r10 =>
    ((r10 = true → (
      (((¬ w32 a2 = 0) → (
        wp_X12_rungFor a0 a1 M (fun r33 =>
        Q r33))) ∧
      (¬ (¬ w32 a2 = 0) → (
        wp_X12_rateOf a0 a1 M (fun r25 =>
        Q r25)))))) ∧
    (r10 = false → (
      Q (-2)))))))))
set_option maxRecDepth 100000 in
set_option maxHeartbeats 4000000 in
theorem c_X12_day (l : Launch) (g : En) {a0 : Nat} {a1 : Int} {a2 : Int} {M : Mem} {Q : Int → Prop} (k0 : kd a0 = 12) (hw : wp_X12_day a0 a1 a2 M Q) :
    Met l yX12_day (WS yX12_day cX12_day 3 (some .int)) rm_X12_day (va_Pc [.ref (g.2.2.1 + a0), .int (i3 a1), .int (i3 a2)] (Rp g M)) (va_Qi (S := Int × Mem) (fun r u => r = i3 u.1 ∧ (u.2 = M ∧ Q u.1)) (fun u => Rp g u.2) (aR g)) 0 0 (aR g) := by
  refine met_Z (plainFor_of_name rfl) (Nat.le_of_ble_eq_true rfl) ?_
  intro p e s m args below meth c F hr _
  show Z g p l e rm_X12_day s m args below meth c 3 (MQ below (va_Qi (S := Int × Mem) (fun r u => r = i3 u.1 ∧ (u.2 = M ∧ Q u.1)) (fun u => Rp g u.2) (aR g)) args s 0 0 (aR g)) M 0 [(0, .ref (g.2.2.1 + a0)), (1, .int (i3 a1)), (2, .int (i3 a2))] []
  refine z_iload_n F dX12_day_0 rfl rfl 1 rfl ?_
  refine z_cSbp (As := [.int (i3 a1)]) (st := []) F (c_X12_isDay l g hw) cs_X12_isDay w_1099 ⟨rfl, rfl, Nat.le_of_ble_eq_true rfl, Nat.le_of_ble_eq_true rfl⟩ rfl (Nat.le_of_ble_eq_true rfl) dX12_day_1 rfl (fun r1 hw => ?_)
  refine z_ifb_eq F dX12_day_4 rfl rfl hw (fun hw => ?_) (fun hw => ?_)
  · refine z_bipush F dX12_day_16 (by decide) rfl ?_
    exact z_iretp (x := (-2)) F hr dX12_day_18 hw
  · refine z_iload_n F dX12_day_7 rfl rfl 2 rfl ?_
    refine z_iconst F dX12_day_8 rfl ?_
    refine z_iconst F dX12_day_9 rfl ?_
    refine z_cSbp (As := [.int (i3 a2), .int (i3 0), .int (i3 1)]) (st := []) F (c_X12_within l g hw) cs_X12_within w_1102 ⟨rfl, rfl, Nat.le_of_ble_eq_true rfl, Nat.le_of_ble_eq_true rfl⟩ rfl (Nat.le_of_ble_eq_true rfl) dX12_day_10 rfl (fun r10 hw => ?_)
    refine z_ifb_ne F dX12_day_13 rfl rfl hw (fun hw => ?_) (fun hw => ?_)
    · refine z_iload_n F dX12_day_19 rfl rfl 2 rfl ?_
      refine z_if_ne F dX12_day_20 rfl rfl hw (fun hw => ?_) (fun hw => ?_)
      · refine z_aload_n F dX12_day_31 rfl rfl 0 rfl ?_
        refine z_iload_n F dX12_day_32 rfl rfl 1 rfl ?_
        refine z_cVip (As := [.int (i3 a1)]) (st := []) F (c_X12_rungFor l g k0 hw) cv_X12_rungFor w_1139 ⟨rfl, rfl, Nat.le_of_ble_eq_true rfl, Nat.le_of_ble_eq_true rfl⟩ k0 rfl rfl (Nat.le_of_ble_eq_true rfl) dX12_day_33 rfl (fun r33 hw => ?_)
        exact z_iretp (x := r33) F hr dX12_day_36 hw
      · refine z_aload_n F dX12_day_23 rfl rfl 0 rfl ?_
        refine z_iload_n F dX12_day_24 rfl rfl 1 rfl ?_
        refine z_cVip (As := [.int (i3 a1)]) (st := []) F (c_X12_rateOf l g k0 hw) cv_X12_rateOf w_1131 ⟨rfl, rfl, Nat.le_of_ble_eq_true rfl, Nat.le_of_ble_eq_true rfl⟩ k0 rfl rfl (Nat.le_of_ble_eq_true rfl) dX12_day_25 rfl (fun r25 hw => ?_)
        refine z_goto F dX12_day_28 rfl ?_
        exact z_iretp (x := r25) F hr dX12_day_36 hw
    · refine z_bipush F dX12_day_16 (by decide) rfl ?_
      exact z_iretp (x := (-2)) F hr dX12_day_18 hw
theorem cv_X12_day : CV yX12_day RX12 cX12_day 3 (some .int) 2 := ⟨w_1136, w_1137, w_80, w_1138, rfl, by decide +kernel, by decide +kernel, by decide +kernel⟩
abbrev rm_X12_of : Room := { frames := 0, cells := 0, slots := 0, locals := 0 }
def wp_X12_of (a0 : Nat) (a1 : Int) (a2 : Int) (M : Mem) (Q : Int → Prop) : Prop :=
  inb (rt a0 4) ((5 * a2) + a1) ∧ (
  Q (M (rt a0 4) (ix ((5 * a2) + a1))))
set_option maxRecDepth 100000 in
set_option maxHeartbeats 4000000 in
theorem c_X12_of (l : Launch) (g : En) {a0 : Nat} {a1 : Int} {a2 : Int} {M : Mem} {Q : Int → Prop} (k0 : kd a0 = 12) (hw : wp_X12_of a0 a1 a2 M Q) :
    Met l yX12_of (WS yX12_of cX12_of 3 (some .int)) rm_X12_of (va_Pc [.ref (g.2.2.1 + a0), .int (i3 a1), .int (i3 a2)] (Rp g M)) (va_Qi (S := Int × Mem) (fun r u => r = i3 u.1 ∧ (u.2 = M ∧ Q u.1)) (fun u => Rp g u.2) (aR g)) 0 0 (aR g) := by
  refine met_Z (plainFor_of_name rfl) (Nat.le_of_ble_eq_true rfl) ?_
  intro p e s m args below meth c F hr _
  show Z g p l e rm_X12_of s m args below meth c 3 (MQ below (va_Qi (S := Int × Mem) (fun r u => r = i3 u.1 ∧ (u.2 = M ∧ Q u.1)) (fun u => Rp g u.2) (aR g)) args s 0 0 (aR g)) M 0 [(0, .ref (g.2.2.1 + a0)), (1, .int (i3 a1)), (2, .int (i3 a2))] []
  refine z_aload_n F dX12_of_0 rfl rfl 0 rfl ?_
  refine z_getR F fl_996 k0 dX12_of_1 rfl ?_
  refine z_iconst F dX12_of_4 rfl ?_
  refine z_iload_n F dX12_of_5 rfl rfl 2 rfl ?_
  refine z_imul F dX12_of_6 rfl ?_
  refine z_iload_n F dX12_of_7 rfl rfl 1 rfl ?_
  refine z_iadd F dX12_of_8 rfl ?_
  refine z_iald F (tk_12_4 k0) dX12_of_9 rfl hw (fun hw => ?_)
  exact z_iretp (x := (M (rt a0 4) (ix ((5 * a2) + a1)))) F hr dX12_of_10 hw
theorem cv_X12_of : CV yX12_of RX12 cX12_of 3 (some .int) 2 := ⟨w_1157, w_27, w_80, w_1158, rfl, by decide +kernel, by decide +kernel, by decide +kernel⟩
abbrev rm_X12_bond : Room := { frames := 2, cells := 0, slots := 0, locals := 42 }
def wp_X12_bond (a0 : Nat) (a1 : Int) (a2 : Int) (a3 : Int) (a4 : Int) (a5 : Int) (a6 : Int) (M : Mem) (Q : Int → Mem → Prop) : Prop :=
  wp_X12_within a1 0 5 M (fun r3 =>
  ((r3 = false → (
    Q (-2) M)) ∧
  (r3 = true → (
    wp_X12_within a2 1 99 M (fun r13 =>
    ((r13 = false → (
      Q (-2) M)) ∧
    (r13 = true → (
      wp_X12_within a3 0 9 M (fun r23 =>
      ((r23 = false → (
        Q (-2) M)) ∧
      (r23 = true → (
        wp_X12_within a4 1 30 M (fun r34 =>
        ((r34 = false → (
          Q (-2) M)) ∧
        (r34 = true → (
          wp_X12_isDay a5 M (fun r42 =>
          ((r42 = false → (
            Q (-2) M)) ∧
          (r42 = true → (
            wp_X12_isDay a6 M (fun r50 =>
            ((r50 = true → (
              (((¬ w32 (M a0 3) = w32 5) → (
                inb (rt a0 4) (M a0 3) ∧ (
                ∀ M79 : Mem, M79 = st2 M (rt a0 4) (ix (M a0 3)) a1 →
                inb (rt a0 4) (5 + (M79 a0 3)) ∧ (
                ∀ M91 : Mem, M91 = st2 M79 (rt a0 4) (ix (5 + (M79 a0 3))) a2 →
                inb (rt a0 4) (10 + (M91 a0 3)) ∧ (
                ∀ M104 : Mem, M104 = st2 M91 (rt a0 4) (ix (10 + (M91 a0 3))) a3 →
                inb (rt a0 4) (15 + (M104 a0 3)) ∧ (
                ∀ M118 : Mem, M118 = st2 M104 (rt a0 4) (ix (15 + (M104 a0 3))) a4 →
                inb (rt a0 4) (20 + (M118 a0 3)) ∧ (
                ∀ M132 : Mem, M132 = st2 M118 (rt a0 4) (ix (20 + (M118 a0 3))) a5 →
                inb (rt a0 4) (25 + (M132 a0 3)) ∧ (
                ∀ M146 : Mem, M146 = st2 M132 (rt a0 4) (ix (25 + (M132 a0 3))) a6 →
                inb (rt a0 4) (30 + (M146 a0 3)) ∧ (
                ∀ M159 : Mem, M159 = st2 M146 (rt a0 4) (ix (30 + (M146 a0 3))) 0 →
                ∀ M168 : Mem, M168 = st2 M159 a0 3 ((M159 a0 3) + 1) →
                Q (M159 a0 3) M168))))))))) ∧
              (¬ (¬ w32 (M a0 3) = w32 5) → (
                Q (-4) M))))) ∧
            (r50 = false → (
              Q (-2) M))))))))))))))))))))))))
set_option maxRecDepth 100000 in
set_option maxHeartbeats 4000000 in
theorem c_X12_bond (l : Launch) (g : En) {a0 : Nat} {a1 : Int} {a2 : Int} {a3 : Int} {a4 : Int} {a5 : Int} {a6 : Int} {M : Mem} {Q : Int → Mem → Prop} (k0 : kd a0 = 12) (hw : wp_X12_bond a0 a1 a2 a3 a4 a5 a6 M Q) :
    Met l yX12_bond (WS yX12_bond cX12_bond 7 (some .int)) rm_X12_bond (va_Pc [.ref (g.2.2.1 + a0), .int (i3 a1), .int (i3 a2), .int (i3 a3), .int (i3 a4), .int (i3 a5), .int (i3 a6)] (Rp g M)) (va_Qi (S := Int × Mem) (fun r u => r = i3 u.1 ∧ Q u.1 u.2) (fun u => Rp g u.2) (aR g)) 0 0 (aR g) := by
  refine met_Z (plainFor_of_name rfl) (Nat.le_of_ble_eq_true rfl) ?_
  intro p e s m args below meth c F hr _
  show Z g p l e rm_X12_bond s m args below meth c 7 (MQ below (va_Qi (S := Int × Mem) (fun r u => r = i3 u.1 ∧ Q u.1 u.2) (fun u => Rp g u.2) (aR g)) args s 0 0 (aR g)) M 0 [(0, .ref (g.2.2.1 + a0)), (1, .int (i3 a1)), (2, .int (i3 a2)), (3, .int (i3 a3)), (4, .int (i3 a4)), (5, .int (i3 a5)), (6, .int (i3 a6))] []
  refine z_iload_n F dX12_bond_0 rfl rfl 1 rfl ?_
  refine z_iconst F dX12_bond_1 rfl ?_
  refine z_iconst F dX12_bond_2 rfl ?_
  refine z_cSbp (As := [.int (i3 a1), .int (i3 0), .int (i3 5)]) (st := []) F (c_X12_within l g hw) cs_X12_within w_1102 ⟨rfl, rfl, Nat.le_of_ble_eq_true rfl, Nat.le_of_ble_eq_true rfl⟩ rfl (Nat.le_of_ble_eq_true rfl) dX12_bond_3 rfl (fun r3 hw => ?_)
  refine z_ifb_eq F dX12_bond_6 rfl rfl hw (fun hw => ?_) (fun hw => ?_)
  · refine z_bipush F dX12_bond_56 (by decide) rfl ?_
    exact z_iret (x := (-2)) F hr dX12_bond_58 hw
  · refine z_iload_n F dX12_bond_9 rfl rfl 2 rfl ?_
    refine z_iconst F dX12_bond_10 rfl ?_
    refine z_bipush F dX12_bond_11 (by decide) rfl ?_
    refine z_cSbp (As := [.int (i3 a2), .int (i3 1), .int (i3 99)]) (st := []) F (c_X12_within l g hw) cs_X12_within w_1102 ⟨rfl, rfl, Nat.le_of_ble_eq_true rfl, Nat.le_of_ble_eq_true rfl⟩ rfl (Nat.le_of_ble_eq_true rfl) dX12_bond_13 rfl (fun r13 hw => ?_)
    refine z_ifb_eq F dX12_bond_16 rfl rfl hw (fun hw => ?_) (fun hw => ?_)
    · refine z_bipush F dX12_bond_56 (by decide) rfl ?_
      exact z_iret (x := (-2)) F hr dX12_bond_58 hw
    · refine z_iload_n F dX12_bond_19 rfl rfl 3 rfl ?_
      refine z_iconst F dX12_bond_20 rfl ?_
      refine z_bipush F dX12_bond_21 (by decide) rfl ?_
      refine z_cSbp (As := [.int (i3 a3), .int (i3 0), .int (i3 9)]) (st := []) F (c_X12_within l g hw) cs_X12_within w_1102 ⟨rfl, rfl, Nat.le_of_ble_eq_true rfl, Nat.le_of_ble_eq_true rfl⟩ rfl (Nat.le_of_ble_eq_true rfl) dX12_bond_23 rfl (fun r23 hw => ?_)
      refine z_ifb_eq F dX12_bond_26 rfl rfl hw (fun hw => ?_) (fun hw => ?_)
      · refine z_bipush F dX12_bond_56 (by decide) rfl ?_
        exact z_iret (x := (-2)) F hr dX12_bond_58 hw
      · refine z_iload F dX12_bond_29 rfl 4 rfl ?_
        refine z_iconst F dX12_bond_31 rfl ?_
        refine z_bipush F dX12_bond_32 (by decide) rfl ?_
        refine z_cSbp (As := [.int (i3 a4), .int (i3 1), .int (i3 30)]) (st := []) F (c_X12_within l g hw) cs_X12_within w_1102 ⟨rfl, rfl, Nat.le_of_ble_eq_true rfl, Nat.le_of_ble_eq_true rfl⟩ rfl (Nat.le_of_ble_eq_true rfl) dX12_bond_34 rfl (fun r34 hw => ?_)
        refine z_ifb_eq F dX12_bond_37 rfl rfl hw (fun hw => ?_) (fun hw => ?_)
        · refine z_bipush F dX12_bond_56 (by decide) rfl ?_
          exact z_iret (x := (-2)) F hr dX12_bond_58 hw
        · refine z_iload F dX12_bond_40 rfl 5 rfl ?_
          refine z_cSbp (As := [.int (i3 a5)]) (st := []) F (c_X12_isDay l g hw) cs_X12_isDay w_1099 ⟨rfl, rfl, Nat.le_of_ble_eq_true rfl, Nat.le_of_ble_eq_true rfl⟩ rfl (Nat.le_of_ble_eq_true rfl) dX12_bond_42 rfl (fun r42 hw => ?_)
          refine z_ifb_eq F dX12_bond_45 rfl rfl hw (fun hw => ?_) (fun hw => ?_)
          · refine z_bipush F dX12_bond_56 (by decide) rfl ?_
            exact z_iret (x := (-2)) F hr dX12_bond_58 hw
          · refine z_iload F dX12_bond_48 rfl 6 rfl ?_
            refine z_cSbp (As := [.int (i3 a6)]) (st := []) F (c_X12_isDay l g hw) cs_X12_isDay w_1099 ⟨rfl, rfl, Nat.le_of_ble_eq_true rfl, Nat.le_of_ble_eq_true rfl⟩ rfl (Nat.le_of_ble_eq_true rfl) dX12_bond_50 rfl (fun r50 hw => ?_)
            refine z_ifb_ne F dX12_bond_53 rfl rfl hw (fun hw => ?_) (fun hw => ?_)
            · refine z_aload_n F dX12_bond_59 rfl rfl 0 rfl ?_
              refine z_getI F fl_995 k0 dX12_bond_60 rfl ?_
              refine z_iconst F dX12_bond_63 rfl ?_
              refine z_icmp_ne F dX12_bond_64 rfl rfl hw (fun hw => ?_) (fun hw => ?_)
              · refine z_aload_n F dX12_bond_70 rfl rfl 0 rfl ?_
                refine z_getR F fl_996 k0 dX12_bond_71 rfl ?_
                refine z_aload_n F dX12_bond_74 rfl rfl 0 rfl ?_
                refine z_getI F fl_995 k0 dX12_bond_75 rfl ?_
                refine z_iload_n F dX12_bond_78 rfl rfl 1 rfl ?_
                refine z_iast F (tk_12_4 k0) dX12_bond_79 rfl hw (fun hw => ?_)
                refine z_nmM (fun M79 eM79 => ?_)
                have hw := hw M79 eM79
                refine z_aload_n F dX12_bond_80 rfl rfl 0 rfl ?_
                refine z_getR F fl_996 k0 dX12_bond_81 rfl ?_
                refine z_iconst F dX12_bond_84 rfl ?_
                refine z_aload_n F dX12_bond_85 rfl rfl 0 rfl ?_
                refine z_getI F fl_995 k0 dX12_bond_86 rfl ?_
                refine z_iadd F dX12_bond_89 rfl ?_
                refine z_iload_n F dX12_bond_90 rfl rfl 2 rfl ?_
                refine z_iast F (tk_12_4 k0) dX12_bond_91 rfl hw (fun hw => ?_)
                refine z_nmM (fun M91 eM91 => ?_)
                have hw := hw M91 eM91
                refine z_aload_n F dX12_bond_92 rfl rfl 0 rfl ?_
                refine z_getR F fl_996 k0 dX12_bond_93 rfl ?_
                refine z_bipush F dX12_bond_96 (by decide) rfl ?_
                refine z_aload_n F dX12_bond_98 rfl rfl 0 rfl ?_
                refine z_getI F fl_995 k0 dX12_bond_99 rfl ?_
                refine z_iadd F dX12_bond_102 rfl ?_
                refine z_iload_n F dX12_bond_103 rfl rfl 3 rfl ?_
                refine z_iast F (tk_12_4 k0) dX12_bond_104 rfl hw (fun hw => ?_)
                refine z_nmM (fun M104 eM104 => ?_)
                have hw := hw M104 eM104
                refine z_aload_n F dX12_bond_105 rfl rfl 0 rfl ?_
                refine z_getR F fl_996 k0 dX12_bond_106 rfl ?_
                refine z_bipush F dX12_bond_109 (by decide) rfl ?_
                refine z_aload_n F dX12_bond_111 rfl rfl 0 rfl ?_
                refine z_getI F fl_995 k0 dX12_bond_112 rfl ?_
                refine z_iadd F dX12_bond_115 rfl ?_
                refine z_iload F dX12_bond_116 rfl 4 rfl ?_
                refine z_iast F (tk_12_4 k0) dX12_bond_118 rfl hw (fun hw => ?_)
                refine z_nmM (fun M118 eM118 => ?_)
                have hw := hw M118 eM118
                refine z_aload_n F dX12_bond_119 rfl rfl 0 rfl ?_
                refine z_getR F fl_996 k0 dX12_bond_120 rfl ?_
                refine z_bipush F dX12_bond_123 (by decide) rfl ?_
                refine z_aload_n F dX12_bond_125 rfl rfl 0 rfl ?_
                refine z_getI F fl_995 k0 dX12_bond_126 rfl ?_
                refine z_iadd F dX12_bond_129 rfl ?_
                refine z_iload F dX12_bond_130 rfl 5 rfl ?_
                refine z_iast F (tk_12_4 k0) dX12_bond_132 rfl hw (fun hw => ?_)
                refine z_nmM (fun M132 eM132 => ?_)
                have hw := hw M132 eM132
                refine z_aload_n F dX12_bond_133 rfl rfl 0 rfl ?_
                refine z_getR F fl_996 k0 dX12_bond_134 rfl ?_
                refine z_bipush F dX12_bond_137 (by decide) rfl ?_
                refine z_aload_n F dX12_bond_139 rfl rfl 0 rfl ?_
                refine z_getI F fl_995 k0 dX12_bond_140 rfl ?_
                refine z_iadd F dX12_bond_143 rfl ?_
                refine z_iload F dX12_bond_144 rfl 6 rfl ?_
                refine z_iast F (tk_12_4 k0) dX12_bond_146 rfl hw (fun hw => ?_)
                refine z_nmM (fun M146 eM146 => ?_)
                have hw := hw M146 eM146
                refine z_aload_n F dX12_bond_147 rfl rfl 0 rfl ?_
                refine z_getR F fl_996 k0 dX12_bond_148 rfl ?_
                refine z_bipush F dX12_bond_151 (by decide) rfl ?_
                refine z_aload_n F dX12_bond_153 rfl rfl 0 rfl ?_
                refine z_getI F fl_995 k0 dX12_bond_154 rfl ?_
                refine z_iadd F dX12_bond_157 rfl ?_
                refine z_iconst F dX12_bond_158 rfl ?_
                refine z_iast F (tk_12_4 k0) dX12_bond_159 rfl hw (fun hw => ?_)
                refine z_nmM (fun M159 eM159 => ?_)
                have hw := hw M159 eM159
                refine z_aload_n F dX12_bond_160 rfl rfl 0 rfl ?_
                refine z_dup F rfl dX12_bond_161 rfl ?_
                refine z_getI F fl_995 k0 dX12_bond_162 rfl ?_
                refine z_dupx1 F rfl rfl dX12_bond_165 rfl ?_
                refine z_iconst F dX12_bond_166 rfl ?_
                refine z_iadd F dX12_bond_167 rfl ?_
                refine z_putI F fp_995 k0 dX12_bond_168 rfl ?_
                refine z_nmM (fun M168 eM168 => ?_)
                have hw := hw M168 eM168
                exact z_iret (x := (M159 a0 3)) F hr dX12_bond_171 hw
              · refine z_bipush F dX12_bond_67 (by decide) rfl ?_
                exact z_iret (x := (-4)) F hr dX12_bond_69 hw
            · refine z_bipush F dX12_bond_56 (by decide) rfl ?_
              exact z_iret (x := (-2)) F hr dX12_bond_58 hw
theorem cv_X12_bond : CV yX12_bond RX12 cX12_bond 7 (some .int) 6 := ⟨w_1144, w_1145, w_80, w_1146, rfl, by decide +kernel, by decide +kernel, by decide +kernel⟩
abbrev rm_X12_hold : Room := { frames := 2, cells := 0, slots := 0, locals := 43 }
def wp_X12_hold (a0 : Nat) (a1 : Int) (a2 : Int) (M : Mem) (Q : Int → Mem → Prop) : Prop :=
  wp_X12_isBond a0 a1 M (fun r2 =>
  ((r2 = false → (
    Q (-2) M)) ∧
  (r2 = true → (
    wp_X12_within a2 0 99 M (fun r12 =>
    ((r12 = true → (
      wp_X12_of a0 a1 6 M (fun r25 =>
      inb (rt a0 4) (30 + a1) ∧ (
      ∀ M38 : Mem, M38 = st2 M (rt a0 4) (ix (30 + a1)) a2 →
      Q r25 M38)))) ∧
    (r12 = false → (
      Q (-2) M))))))))
set_option maxRecDepth 100000 in
set_option maxHeartbeats 4000000 in
theorem c_X12_hold (l : Launch) (g : En) {a0 : Nat} {a1 : Int} {a2 : Int} {M : Mem} {Q : Int → Mem → Prop} (k0 : kd a0 = 12) (hw : wp_X12_hold a0 a1 a2 M Q) :
    Met l yX12_hold (WS yX12_hold cX12_hold 4 (some .int)) rm_X12_hold (va_Pc [.ref (g.2.2.1 + a0), .int (i3 a1), .int (i3 a2)] (Rp g M)) (va_Qi (S := Int × Mem) (fun r u => r = i3 u.1 ∧ Q u.1 u.2) (fun u => Rp g u.2) (aR g)) 0 0 (aR g) := by
  refine met_Z (plainFor_of_name rfl) (Nat.le_of_ble_eq_true rfl) ?_
  intro p e s m args below meth c F hr _
  show Z g p l e rm_X12_hold s m args below meth c 4 (MQ below (va_Qi (S := Int × Mem) (fun r u => r = i3 u.1 ∧ Q u.1 u.2) (fun u => Rp g u.2) (aR g)) args s 0 0 (aR g)) M 0 [(0, .ref (g.2.2.1 + a0)), (1, .int (i3 a1)), (2, .int (i3 a2))] []
  refine z_aload_n F dX12_hold_0 rfl rfl 0 rfl ?_
  refine z_iload_n F dX12_hold_1 rfl rfl 1 rfl ?_
  refine z_cVbp (As := [.int (i3 a1)]) (st := []) F (c_X12_isBond l g k0 hw) cv_X12_isBond w_1151 ⟨rfl, rfl, Nat.le_of_ble_eq_true rfl, Nat.le_of_ble_eq_true rfl⟩ k0 rfl rfl (Nat.le_of_ble_eq_true rfl) dX12_hold_2 rfl (fun r2 hw => ?_)
  refine z_ifb_eq F dX12_hold_5 rfl rfl hw (fun hw => ?_) (fun hw => ?_)
  · refine z_bipush F dX12_hold_18 (by decide) rfl ?_
    exact z_iret (x := (-2)) F hr dX12_hold_20 hw
  · refine z_iload_n F dX12_hold_8 rfl rfl 2 rfl ?_
    refine z_iconst F dX12_hold_9 rfl ?_
    refine z_bipush F dX12_hold_10 (by decide) rfl ?_
    refine z_cSbp (As := [.int (i3 a2), .int (i3 0), .int (i3 99)]) (st := []) F (c_X12_within l g hw) cs_X12_within w_1102 ⟨rfl, rfl, Nat.le_of_ble_eq_true rfl, Nat.le_of_ble_eq_true rfl⟩ rfl (Nat.le_of_ble_eq_true rfl) dX12_hold_12 rfl (fun r12 hw => ?_)
    refine z_ifb_ne F dX12_hold_15 rfl rfl hw (fun hw => ?_) (fun hw => ?_)
    · refine z_aload_n F dX12_hold_21 rfl rfl 0 rfl ?_
      refine z_iload_n F dX12_hold_22 rfl rfl 1 rfl ?_
      refine z_bipush F dX12_hold_23 (by decide) rfl ?_
      refine z_cVip (As := [.int (i3 a1), .int (i3 6)]) (st := []) F (c_X12_of l g k0 hw) cv_X12_of w_1155 ⟨rfl, rfl, Nat.le_of_ble_eq_true rfl, Nat.le_of_ble_eq_true rfl⟩ k0 rfl rfl (Nat.le_of_ble_eq_true rfl) dX12_hold_25 rfl (fun r25 hw => ?_)
      refine z_istore_n F dX12_hold_28 rfl rfl (by decide) rfl ?_
      refine z_aload_n F dX12_hold_29 rfl rfl 1 rfl ?_
      refine z_getR F fl_996 k0 dX12_hold_30 rfl ?_
      refine z_bipush F dX12_hold_33 (by decide) rfl ?_
      refine z_iload_n F dX12_hold_35 rfl rfl 2 rfl ?_
      refine z_iadd F dX12_hold_36 rfl ?_
      refine z_iload_n F dX12_hold_37 rfl rfl 3 rfl ?_
      refine z_iast F (tk_12_4 k0) dX12_hold_38 rfl hw (fun hw => ?_)
      refine z_nmM (fun M38 eM38 => ?_)
      have hw := hw M38 eM38
      refine z_iload_n F dX12_hold_39 rfl rfl 0 rfl ?_
      exact z_iret (x := r25) F hr dX12_hold_40 hw
    · refine z_bipush F dX12_hold_18 (by decide) rfl ?_
      exact z_iret (x := (-2)) F hr dX12_hold_20 hw
theorem cv_X12_hold : CV yX12_hold RX12 cX12_hold 4 (some .int) 2 := ⟨w_1148, w_1149, w_80, w_1150, rfl, by decide +kernel, by decide +kernel, by decide +kernel⟩
abbrev rm_X12_calledOn : Room := { frames := 2, cells := 0, slots := 0, locals := 44 }
def wp_X12_calledOn_B7 (a0 : Nat) (Q : Int → Prop) (K7 : Int → Prop) (M : Mem) (x1 : Int) (x2 : Int) : Prop :=
  wp_X12_of a0 x1 4 M (fun r11 =>
  (((w32 r11 ≤ w32 x2) → (
    wp_X12_of a0 x1 4 M (fun r42 =>
    Q r42))) ∧
  (¬ (w32 r11 ≤ w32 x2) → (
    wp_X12_rateBy a0 x2 M (fun r19 =>
    (((¬ w32 r19 = 0) → (
      wp_X12_of a0 x1 3 M (fun r31 =>
      K7 (x2 + r31)))) ∧
    (¬ (¬ w32 r19 = 0) → (
      Q x2))))))))
def wp_X12_calledOn_L7 (a0 : Nat) (Q : Int → Prop) (M : Mem) (x1 : Int) (x2 : Int) : Prop :=
  ∃ (I : Int → Prop) (μ : Int → Nat), I x2 ∧ ∀ (x2 : Int), I x2 →
    wp_X12_calledOn_B7 a0 Q (fun x2' => I x2' ∧ μ x2' < μ x2) M x1 x2
def wp_X12_calledOn (a0 : Nat) (a1 : Int) (M : Mem) (Q : Int → Prop) : Prop :=
  wp_X12_of a0 a1 3 M (fun r3 =>
  wp_X12_calledOn_L7 a0 Q M a1 r3)
set_option maxRecDepth 100000 in
set_option maxHeartbeats 4000000 in
theorem bk_X12_calledOn_B7 {g : En} {p : Program} {l : Launch} {e : Env} {s : State} {m : MethodId} {args : Array Value} {below : List Frame} {meth : Method} {c : Code} {M : Mem} {a0 : Nat} {Q : Int → Prop} {K7 : Int → Prop} {x1 : Int} {x2 : Int} (F : Fx g p s m args meth c cX12_calledOn 3 RX12) (hr : meth.sig.returnType = (some .int)) (k0 : kd a0 = 12)
    (hK7 : ∀ (x2' : Int), K7 x2' → Z g p l e rm_X12_calledOn s m args below meth c 3 (MQ below (va_Qi (S := Int × Mem) (fun r u => r = i3 u.1 ∧ (u.2 = M ∧ Q u.1)) (fun u => Rp g u.2) (aR g)) args s 0 0 (aR g)) M 7 [(0, .ref (g.2.2.1 + a0)), (1, .int (i3 x1)), (2, .int (i3 x2'))] [])
    (hw : wp_X12_calledOn_B7 a0 Q K7 M x1 x2) : Z g p l e rm_X12_calledOn s m args below meth c 3 (MQ below (va_Qi (S := Int × Mem) (fun r u => r = i3 u.1 ∧ (u.2 = M ∧ Q u.1)) (fun u => Rp g u.2) (aR g)) args s 0 0 (aR g)) M 7 [(0, .ref (g.2.2.1 + a0)), (1, .int (i3 x1)), (2, .int (i3 x2))] [] := by
  refine z_iload_n F dX12_calledOn_7 rfl rfl 2 rfl ?_
  refine z_aload_n F dX12_calledOn_8 rfl rfl 0 rfl ?_
  refine z_iload_n F dX12_calledOn_9 rfl rfl 1 rfl ?_
  refine z_iconst F dX12_calledOn_10 rfl ?_
  refine z_cVip (As := [.int (i3 x1), .int (i3 4)]) (st := [.int (i3 x2)]) F (c_X12_of l g k0 hw) cv_X12_of w_1155 ⟨rfl, rfl, Nat.le_of_ble_eq_true rfl, Nat.le_of_ble_eq_true rfl⟩ k0 rfl rfl (Nat.le_of_ble_eq_true rfl) dX12_calledOn_11 rfl (fun r11 hw => ?_)
  refine z_icmp_ge F dX12_calledOn_14 rfl rfl hw (fun hw => ?_) (fun hw => ?_)
  · refine z_aload_n F dX12_calledOn_39 rfl rfl 0 rfl ?_
    refine z_iload_n F dX12_calledOn_40 rfl rfl 1 rfl ?_
    refine z_iconst F dX12_calledOn_41 rfl ?_
    refine z_cVip (As := [.int (i3 x1), .int (i3 4)]) (st := []) F (c_X12_of l g k0 hw) cv_X12_of w_1155 ⟨rfl, rfl, Nat.le_of_ble_eq_true rfl, Nat.le_of_ble_eq_true rfl⟩ k0 rfl rfl (Nat.le_of_ble_eq_true rfl) dX12_calledOn_42 rfl (fun r42 hw => ?_)
    exact z_iretp (x := r42) F hr dX12_calledOn_45 hw
  · refine z_aload_n F dX12_calledOn_17 rfl rfl 0 rfl ?_
    refine z_iload_n F dX12_calledOn_18 rfl rfl 2 rfl ?_
    refine z_cVip (As := [.int (i3 x2)]) (st := []) F (c_X12_rateBy l g k0 hw) cv_X12_rateBy w_1175 ⟨rfl, rfl, Nat.le_of_ble_eq_true rfl, Nat.le_of_ble_eq_true rfl⟩ k0 rfl rfl (Nat.le_of_ble_eq_true rfl) dX12_calledOn_19 rfl (fun r19 hw => ?_)
    refine z_if_ne F dX12_calledOn_22 rfl rfl hw (fun hw => ?_) (fun hw => ?_)
    · refine z_iload_n F dX12_calledOn_27 rfl rfl 2 rfl ?_
      refine z_aload_n F dX12_calledOn_28 rfl rfl 0 rfl ?_
      refine z_iload_n F dX12_calledOn_29 rfl rfl 1 rfl ?_
      refine z_iconst F dX12_calledOn_30 rfl ?_
      refine z_cVip (As := [.int (i3 x1), .int (i3 3)]) (st := [.int (i3 x2)]) F (c_X12_of l g k0 hw) cv_X12_of w_1155 ⟨rfl, rfl, Nat.le_of_ble_eq_true rfl, Nat.le_of_ble_eq_true rfl⟩ k0 rfl rfl (Nat.le_of_ble_eq_true rfl) dX12_calledOn_31 rfl (fun r31 hw => ?_)
      refine z_iadd F dX12_calledOn_34 rfl ?_
      refine z_istore_n F dX12_calledOn_35 rfl rfl (by decide) rfl ?_
      refine z_goto F dX12_calledOn_36 rfl ?_
      refine z_sub [1, 2, 0] rfl ?_
      exact hK7 (x2 + r31) hw
    · refine z_iload_n F dX12_calledOn_25 rfl rfl 2 rfl ?_
      exact z_iretp (x := x2) F hr dX12_calledOn_26 hw
set_option maxRecDepth 100000 in
set_option maxHeartbeats 4000000 in
theorem lp_X12_calledOn_7 {g : En} {p : Program} {l : Launch} {e : Env} {s : State} {m : MethodId} {args : Array Value} {below : List Frame} {meth : Method} {c : Code} {M : Mem} {a0 : Nat} {Q : Int → Prop} {x1 : Int} {x2 : Int} (F : Fx g p s m args meth c cX12_calledOn 3 RX12) (hr : meth.sig.returnType = (some .int)) (k0 : kd a0 = 12)
    (hw : wp_X12_calledOn_L7 a0 Q M x1 x2) : Z g p l e rm_X12_calledOn s m args below meth c 3 (MQ below (va_Qi (S := Int × Mem) (fun r u => r = i3 u.1 ∧ (u.2 = M ∧ Q u.1)) (fun u => Rp g u.2) (aR g)) args s 0 0 (aR g)) M 7 [(0, .ref (g.2.2.1 + a0)), (1, .int (i3 x1)), (2, .int (i3 x2))] [] := by
  obtain ⟨I, μ, h0, hb⟩ := hw
  have key : ∀ (n : Nat) (x2 : Int), I x2 → μ x2 < n → Z g p l e rm_X12_calledOn s m args below meth c 3 (MQ below (va_Qi (S := Int × Mem) (fun r u => r = i3 u.1 ∧ (u.2 = M ∧ Q u.1)) (fun u => Rp g u.2) (aR g)) args s 0 0 (aR g)) M 7 [(0, .ref (g.2.2.1 + a0)), (1, .int (i3 x1)), (2, .int (i3 x2))] [] := by
    intro n
    induction n with
    | zero => exact fun _ _ h => absurd h (Nat.not_lt_zero _)
    | succ n ih =>
      intro x2 hI hn
      exact bk_X12_calledOn_B7 F hr k0 (fun x2' hk => ih x2' hk.1 (Nat.lt_of_lt_of_le hk.2 (Nat.le_of_lt_succ hn))) (hb x2 hI)
  exact key _ x2 h0 (Nat.lt_succ_self _)
set_option maxRecDepth 100000 in
set_option maxHeartbeats 4000000 in
theorem c_X12_calledOn (l : Launch) (g : En) {a0 : Nat} {a1 : Int} {M : Mem} {Q : Int → Prop} (k0 : kd a0 = 12) (hw : wp_X12_calledOn a0 a1 M Q) :
    Met l yX12_calledOn (WS yX12_calledOn cX12_calledOn 3 (some .int)) rm_X12_calledOn (va_Pc [.ref (g.2.2.1 + a0), .int (i3 a1)] (Rp g M)) (va_Qi (S := Int × Mem) (fun r u => r = i3 u.1 ∧ (u.2 = M ∧ Q u.1)) (fun u => Rp g u.2) (aR g)) 0 0 (aR g) := by
  refine met_Z (plainFor_of_name rfl) (Nat.le_of_ble_eq_true rfl) ?_
  intro p e s m args below meth c F hr _
  show Z g p l e rm_X12_calledOn s m args below meth c 3 (MQ below (va_Qi (S := Int × Mem) (fun r u => r = i3 u.1 ∧ (u.2 = M ∧ Q u.1)) (fun u => Rp g u.2) (aR g)) args s 0 0 (aR g)) M 0 [(0, .ref (g.2.2.1 + a0)), (1, .int (i3 a1))] []
  refine z_aload_n F dX12_calledOn_0 rfl rfl 0 rfl ?_
  refine z_iload_n F dX12_calledOn_1 rfl rfl 1 rfl ?_
  refine z_iconst F dX12_calledOn_2 rfl ?_
  refine z_cVip (As := [.int (i3 a1), .int (i3 3)]) (st := []) F (c_X12_of l g k0 hw) cv_X12_of w_1155 ⟨rfl, rfl, Nat.le_of_ble_eq_true rfl, Nat.le_of_ble_eq_true rfl⟩ k0 rfl rfl (Nat.le_of_ble_eq_true rfl) dX12_calledOn_3 rfl (fun r3 hw => ?_)
  refine z_istore_n F dX12_calledOn_6 rfl rfl (by decide) rfl ?_
  refine z_sub [1, 2, 0] rfl ?_
  exact lp_X12_calledOn_7 F hr k0 hw
theorem cv_X12_calledOn : CV yX12_calledOn RX12 cX12_calledOn 3 (some .int) 1 := ⟨w_1181, w_32, w_80, w_1182, rfl, by decide +kernel, by decide +kernel, by decide +kernel⟩
abbrev rm_X12_paysOn : Room := { frames := 3, cells := 0, slots := 0, locals := 66 }
def wp_X12_paysOn_b167 (a0 : Nat) (Q : Int → Prop) (M : Mem) (s0 : Int) (s1 : Int) (x2 : Int) (x4 : Int) (x5 : Int) : Prop :=
  (((¬ w32 x2 = w32 x4) → (
    Q ((s0 + s1) - 0))) ∧
  (¬ (¬ w32 x2 = w32 x4) → (
    w32 2 ≠ 0 ∧ (
    Q ((s0 + s1) - ((w32 x5).tdiv (w32 2)))))))
def wp_X12_paysOn_b92 (a0 : Nat) (Q : Int → Prop) (M : Mem) (s0 : Int) (x1 : Int) (x2 : Int) (x3 : Int) (x4 : Int) (x5 : Int) (x6 : Int) : Prop :=
  wp_X12_of a0 x1 0 M (fun r97 =>
  ((w32 r97 = 0 → (
    Q (x3 + s0))) ∧
  (w32 r97 = 1 → (
    Q s0)) ∧
  (w32 r97 = 2 → (
    Q ((x3 + s0) + x6))) ∧
  (w32 r97 = 3 → (
    (((¬ w32 x6 = 0) → (
      wp_X12_paysOn_b167 a0 Q M s0 0 x2 x4 x5)) ∧
    (¬ (¬ w32 x6 = 0) → (
      w32 2 ≠ 0 ∧ (
      wp_X12_paysOn_b167 a0 Q M s0 ((w32 x5).tdiv (w32 2)) x2 x4 x5)))))) ∧
  (w32 r97 = 4 → (
    wp_X12_rateBy a0 x2 M (fun r194 =>
    Q (((x3 + s0) + x6) + (x3 * r194))))) ∧
  ((w32 r97 < 0 ∨ 4 < w32 r97) → (
    wp_X12_calledOn a0 x1 M (fun r202 =>
    (((w32 x2 ≤ w32 r202) → (
      (((¬ w32 x2 = w32 r202) → (
        Q ((x3 + x6) + 0))) ∧
      (¬ (¬ w32 x2 = w32 r202) → (
        Q ((x3 + x6) + x5)))))) ∧
    (¬ (w32 x2 ≤ w32 r202) → (
      Q 0))))))))
def wp_X12_paysOn_b78 (a0 : Nat) (Q : Int → Prop) (M : Mem) (s0 : Int) (x1 : Int) (x2 : Int) (x3 : Int) (x4 : Int) (x5 : Int) : Prop :=
  (((¬ w32 x2 = w32 x4) → (
    wp_X12_paysOn_b92 a0 Q M 0 x1 x2 x3 x4 x5 s0)) ∧
  (¬ (¬ w32 x2 = w32 x4) → (
    wp_X12_paysOn_b92 a0 Q M x5 x1 x2 x3 x4 x5 s0)))
def wp_X12_paysOn_b48 (a0 : Nat) (Q : Int → Prop) (M : Mem) (x1 : Int) (x2 : Int) (x3 : Int) (x4 : Int) (x5 : Int) : Prop :=
  (((¬ w32 x2 = w32 x4) → (
    wp_X12_of a0 x1 3 M (fun r72 =>
    w32 r72 ≠ 0 ∧ (
    wp_X12_paysOn_b78 a0 Q M (((w32 x2).tdiv (w32 r72)) - 1) x1 x2 x3 x4 x5)))) ∧
  (¬ (¬ w32 x2 = w32 x4) → (
    wp_X12_of a0 x1 3 M (fun r61 =>
    w32 r61 ≠ 0 ∧ (
    wp_X12_paysOn_b78 a0 Q M ((w32 (x4 - 1)).tdiv (w32 r61)) x1 x2 x3 x4 x5)))))
def wp_X12_paysOn (a0 : Nat) (a1 : Int) (a2 : Int) (M : Mem) (Q : Int → Prop) : Prop :=
  wp_X12_of a0 a1 2 M (fun r3 =>
  wp_X12_of a0 a1 4 M (fun r10 =>
  wp_X12_of a0 a1 5 M (fun r18 =>
  (((w32 r10 < w32 a2) → (
    Q 0)) ∧
  (¬ (w32 r10 < w32 a2) → (
    (((w32 a2 = w32 r10) → (
      wp_X12_paysOn_b48 a0 Q M a1 a2 r3 r10 r18)) ∧
    (¬ (w32 a2 = w32 r10) → (
      wp_X12_of a0 a1 3 M (fun r39 =>
      w32 r39 ≠ 0 ∧ (
      (((w32 ((w32 a2).tmod (w32 r39)) = 0) → (
        wp_X12_paysOn_b48 a0 Q M a1 a2 r3 r10 r18)) ∧
      (¬ (w32 ((w32 a2).tmod (w32 r39)) = 0) → (
        Q 0))))))))))))))
set_option maxRecDepth 100000 in
set_option maxHeartbeats 4000000 in
theorem bk_X12_paysOn_167 {g : En} {p : Program} {l : Launch} {e : Env} {s : State} {m : MethodId} {args : Array Value} {below : List Frame} {meth : Method} {c : Code} {M : Mem} {a0 : Nat} {Q : Int → Prop} {s0 : Int} {s1 : Int} {x2 : Int} {x4 : Int} {x5 : Int} (F : Fx g p s m args meth c cX12_paysOn 9 RX12) (hr : meth.sig.returnType = (some .int)) (k0 : kd a0 = 12)
    (hw : wp_X12_paysOn_b167 a0 Q M s0 s1 x2 x4 x5) : Z g p l e rm_X12_paysOn s m args below meth c 9 (MQ below (va_Qi (S := Int × Mem) (fun r u => r = i3 u.1 ∧ (u.2 = M ∧ Q u.1)) (fun u => Rp g u.2) (aR g)) args s 0 0 (aR g)) M 167 [(2, .int (i3 x2)), (4, .int (i3 x4)), (5, .int (i3 x5))] [.int (i3 s1), .int (i3 s0)] := by
  refine z_iadd F dX12_paysOn_167 rfl ?_
  refine z_iload_n F dX12_paysOn_168 rfl rfl 0 rfl ?_
  refine z_iload F dX12_paysOn_169 rfl 1 rfl ?_
  refine z_icmp_ne F dX12_paysOn_171 rfl rfl hw (fun hw => ?_) (fun hw => ?_)
  · refine z_iconst F dX12_paysOn_181 rfl ?_
    refine z_isub F dX12_paysOn_182 rfl ?_
    exact z_iretp (x := ((s0 + s1) - 0)) F hr dX12_paysOn_183 hw
  · refine z_iload F dX12_paysOn_174 rfl 2 rfl ?_
    refine z_iconst F dX12_paysOn_176 rfl ?_
    refine z_idiv F dX12_paysOn_177 rfl hw (fun hw => ?_)
    refine z_goto F dX12_paysOn_178 rfl ?_
    refine z_isub F dX12_paysOn_182 rfl ?_
    exact z_iretp (x := ((s0 + s1) - ((w32 x5).tdiv (w32 2)))) F hr dX12_paysOn_183 hw
set_option maxRecDepth 100000 in
set_option maxHeartbeats 4000000 in
theorem bk_X12_paysOn_92 {g : En} {p : Program} {l : Launch} {e : Env} {s : State} {m : MethodId} {args : Array Value} {below : List Frame} {meth : Method} {c : Code} {M : Mem} {a0 : Nat} {Q : Int → Prop} {s0 : Int} {x1 : Int} {x2 : Int} {x3 : Int} {x4 : Int} {x5 : Int} {x6 : Int} (F : Fx g p s m args meth c cX12_paysOn 9 RX12) (hr : meth.sig.returnType = (some .int)) (k0 : kd a0 = 12)
    (hw : wp_X12_paysOn_b92 a0 Q M s0 x1 x2 x3 x4 x5 x6) : Z g p l e rm_X12_paysOn s m args below meth c 9 (MQ below (va_Qi (S := Int × Mem) (fun r u => r = i3 u.1 ∧ (u.2 = M ∧ Q u.1)) (fun u => Rp g u.2) (aR g)) args s 0 0 (aR g)) M 92 [(0, .ref (g.2.2.1 + a0)), (1, .int (i3 x1)), (2, .int (i3 x2)), (3, .int (i3 x3)), (4, .int (i3 x4)), (5, .int (i3 x5)), (6, .int (i3 x6))] [.int (i3 s0)] := by
  refine z_istore F dX12_paysOn_92 rfl (by decide) rfl ?_
  refine z_aload_n F dX12_paysOn_94 rfl rfl 1 rfl ?_
  refine z_iload_n F dX12_paysOn_95 rfl rfl 2 rfl ?_
  refine z_iconst F dX12_paysOn_96 rfl ?_
  refine z_cVip (As := [.int (i3 x1), .int (i3 0)]) (st := []) F (c_X12_of l g k0 hw) cv_X12_of w_1155 ⟨rfl, rfl, Nat.le_of_ble_eq_true rfl, Nat.le_of_ble_eq_true rfl⟩ k0 rfl rfl (Nat.le_of_ble_eq_true rfl) dX12_paysOn_97 rfl (fun r97 hw => ?_)
  by_cases e100_0 : w32 r97 = 0
  · refine z_swcase F 0 dX12_paysOn_100 e100_0 (by decide) (by decide) rfl rfl ?_
    have hw := hw.1 e100_0
    refine z_iload_n F dX12_paysOn_136 rfl rfl 4 rfl ?_
    refine z_iload F dX12_paysOn_137 rfl 0 rfl ?_
    refine z_iadd F dX12_paysOn_139 rfl ?_
    exact z_iretp (x := (x3 + s0)) F hr dX12_paysOn_140 hw
  · skip
    by_cases e100_1 : w32 r97 = 1
    · refine z_swcase F 1 dX12_paysOn_100 e100_1 (by decide) (by decide) rfl rfl ?_
      have hw := hw.2.1 e100_1
      refine z_iload F dX12_paysOn_141 rfl 0 rfl ?_
      exact z_iretp (x := s0) F hr dX12_paysOn_143 hw
    · skip
      by_cases e100_2 : w32 r97 = 2
      · refine z_swcase F 2 dX12_paysOn_100 e100_2 (by decide) (by decide) rfl rfl ?_
        have hw := hw.2.2.1 e100_2
        refine z_iload_n F dX12_paysOn_144 rfl rfl 4 rfl ?_
        refine z_iload F dX12_paysOn_145 rfl 0 rfl ?_
        refine z_iadd F dX12_paysOn_147 rfl ?_
        refine z_iload F dX12_paysOn_148 rfl 7 rfl ?_
        refine z_iadd F dX12_paysOn_150 rfl ?_
        exact z_iretp (x := ((x3 + s0) + x6)) F hr dX12_paysOn_151 hw
      · skip
        by_cases e100_3 : w32 r97 = 3
        · refine z_swcase F 3 dX12_paysOn_100 e100_3 (by decide) (by decide) rfl rfl ?_
          have hw := hw.2.2.2.1 e100_3
          refine z_iload F dX12_paysOn_152 rfl 0 rfl ?_
          refine z_iload F dX12_paysOn_154 rfl 7 rfl ?_
          refine z_if_ne F dX12_paysOn_156 rfl rfl hw (fun hw => ?_) (fun hw => ?_)
          · refine z_iconst F dX12_paysOn_166 rfl ?_
            refine z_sub [3, 5, 6] rfl ?_
            exact bk_X12_paysOn_167 F hr k0 hw
          · refine z_iload F dX12_paysOn_159 rfl 6 rfl ?_
            refine z_iconst F dX12_paysOn_161 rfl ?_
            refine z_idiv F dX12_paysOn_162 rfl hw (fun hw => ?_)
            refine z_goto F dX12_paysOn_163 rfl ?_
            refine z_sub [3, 5, 6] rfl ?_
            exact bk_X12_paysOn_167 F hr k0 hw
        · skip
          by_cases e100_4 : w32 r97 = 4
          · refine z_swcase F 4 dX12_paysOn_100 e100_4 (by decide) (by decide) rfl rfl ?_
            have hw := hw.2.2.2.2.1 e100_4
            refine z_iload_n F dX12_paysOn_184 rfl rfl 4 rfl ?_
            refine z_iload F dX12_paysOn_185 rfl 0 rfl ?_
            refine z_iadd F dX12_paysOn_187 rfl ?_
            refine z_iload F dX12_paysOn_188 rfl 7 rfl ?_
            refine z_iadd F dX12_paysOn_190 rfl ?_
            refine z_iload_n F dX12_paysOn_191 rfl rfl 4 rfl ?_
            refine z_aload_n F dX12_paysOn_192 rfl rfl 1 rfl ?_
            refine z_iload_n F dX12_paysOn_193 rfl rfl 3 rfl ?_
            refine z_cVip (As := [.int (i3 x2)]) (st := [.int (i3 x3), .int (i3 ((x3 + s0) + x6))]) F (c_X12_rateBy l g k0 hw) cv_X12_rateBy w_1175 ⟨rfl, rfl, Nat.le_of_ble_eq_true rfl, Nat.le_of_ble_eq_true rfl⟩ k0 rfl rfl (Nat.le_of_ble_eq_true rfl) dX12_paysOn_194 rfl (fun r194 hw => ?_)
            refine z_imul F dX12_paysOn_197 rfl ?_
            refine z_iadd F dX12_paysOn_198 rfl ?_
            exact z_iretp (x := (((x3 + s0) + x6) + (x3 * r194))) F hr dX12_paysOn_199 hw
          · skip
            have h9 : w32 r97 < 0 ∨ 4 < w32 r97 := by omega
            refine z_swout F dX12_paysOn_100 h9 rfl ?_
            have hw := hw.2.2.2.2.2 h9
            refine z_aload_n F dX12_paysOn_200 rfl rfl 1 rfl ?_
            refine z_iload_n F dX12_paysOn_201 rfl rfl 2 rfl ?_
            refine z_cVip (As := [.int (i3 x1)]) (st := []) F (c_X12_calledOn l g k0 hw) cv_X12_calledOn w_1179 ⟨rfl, rfl, Nat.le_of_ble_eq_true rfl, Nat.le_of_ble_eq_true rfl⟩ k0 rfl rfl (Nat.le_of_ble_eq_true rfl) dX12_paysOn_202 rfl (fun r202 hw => ?_)
            refine z_istore F dX12_paysOn_205 rfl (by decide) rfl ?_
            refine z_iload_n F dX12_paysOn_207 rfl rfl 4 rfl ?_
            refine z_iload F dX12_paysOn_208 rfl 0 rfl ?_
            refine z_icmp_le F dX12_paysOn_210 rfl rfl hw (fun hw => ?_) (fun hw => ?_)
            · refine z_iload_n F dX12_paysOn_217 rfl rfl 5 rfl ?_
              refine z_iload F dX12_paysOn_218 rfl 8 rfl ?_
              refine z_iadd F dX12_paysOn_220 rfl ?_
              refine z_iload_n F dX12_paysOn_221 rfl rfl 4 rfl ?_
              refine z_iload F dX12_paysOn_222 rfl 0 rfl ?_
              refine z_icmp_ne F dX12_paysOn_224 rfl rfl hw (fun hw => ?_) (fun hw => ?_)
              · refine z_iconst F dX12_paysOn_232 rfl ?_
                refine z_iadd F dX12_paysOn_233 rfl ?_
                exact z_iretp (x := ((x3 + x6) + 0)) F hr dX12_paysOn_234 hw
              · refine z_iload F dX12_paysOn_227 rfl 7 rfl ?_
                refine z_goto F dX12_paysOn_229 rfl ?_
                refine z_iadd F dX12_paysOn_233 rfl ?_
                exact z_iretp (x := ((x3 + x6) + x5)) F hr dX12_paysOn_234 hw
            · refine z_iconst F dX12_paysOn_213 rfl ?_
              refine z_goto F dX12_paysOn_214 rfl ?_
              exact z_iretp (x := 0) F hr dX12_paysOn_234 hw
set_option maxRecDepth 100000 in
set_option maxHeartbeats 4000000 in
theorem bk_X12_paysOn_78 {g : En} {p : Program} {l : Launch} {e : Env} {s : State} {m : MethodId} {args : Array Value} {below : List Frame} {meth : Method} {c : Code} {M : Mem} {a0 : Nat} {Q : Int → Prop} {s0 : Int} {x1 : Int} {x2 : Int} {x3 : Int} {x4 : Int} {x5 : Int} (F : Fx g p s m args meth c cX12_paysOn 9 RX12) (hr : meth.sig.returnType = (some .int)) (k0 : kd a0 = 12)
    (hw : wp_X12_paysOn_b78 a0 Q M s0 x1 x2 x3 x4 x5) : Z g p l e rm_X12_paysOn s m args below meth c 9 (MQ below (va_Qi (S := Int × Mem) (fun r u => r = i3 u.1 ∧ (u.2 = M ∧ Q u.1)) (fun u => Rp g u.2) (aR g)) args s 0 0 (aR g)) M 78 [(0, .ref (g.2.2.1 + a0)), (1, .int (i3 x1)), (2, .int (i3 x2)), (3, .int (i3 x3)), (4, .int (i3 x4)), (5, .int (i3 x5))] [.int (i3 s0)] := by
  refine z_istore F dX12_paysOn_78 rfl (by decide) rfl ?_
  refine z_iload_n F dX12_paysOn_80 rfl rfl 3 rfl ?_
  refine z_iload F dX12_paysOn_81 rfl 5 rfl ?_
  refine z_icmp_ne F dX12_paysOn_83 rfl rfl hw (fun hw => ?_) (fun hw => ?_)
  · refine z_iconst F dX12_paysOn_91 rfl ?_
    refine z_sub [1, 2, 3, 4, 5, 6, 0] rfl ?_
    exact bk_X12_paysOn_92 F hr k0 hw
  · refine z_iload F dX12_paysOn_86 rfl 6 rfl ?_
    refine z_goto F dX12_paysOn_88 rfl ?_
    refine z_sub [1, 2, 3, 4, 5, 6, 0] rfl ?_
    exact bk_X12_paysOn_92 F hr k0 hw
set_option maxRecDepth 100000 in
set_option maxHeartbeats 4000000 in
theorem bk_X12_paysOn_48 {g : En} {p : Program} {l : Launch} {e : Env} {s : State} {m : MethodId} {args : Array Value} {below : List Frame} {meth : Method} {c : Code} {M : Mem} {a0 : Nat} {Q : Int → Prop} {x1 : Int} {x2 : Int} {x3 : Int} {x4 : Int} {x5 : Int} (F : Fx g p s m args meth c cX12_paysOn 9 RX12) (hr : meth.sig.returnType = (some .int)) (k0 : kd a0 = 12)
    (hw : wp_X12_paysOn_b48 a0 Q M x1 x2 x3 x4 x5) : Z g p l e rm_X12_paysOn s m args below meth c 9 (MQ below (va_Qi (S := Int × Mem) (fun r u => r = i3 u.1 ∧ (u.2 = M ∧ Q u.1)) (fun u => Rp g u.2) (aR g)) args s 0 0 (aR g)) M 48 [(0, .ref (g.2.2.1 + a0)), (1, .int (i3 x1)), (2, .int (i3 x2)), (3, .int (i3 x3)), (4, .int (i3 x4)), (5, .int (i3 x5))] [] := by
  refine z_iload_n F dX12_paysOn_48 rfl rfl 2 rfl ?_
  refine z_iload F dX12_paysOn_49 rfl 4 rfl ?_
  refine z_icmp_ne F dX12_paysOn_51 rfl rfl hw (fun hw => ?_) (fun hw => ?_)
  · refine z_iload_n F dX12_paysOn_68 rfl rfl 2 rfl ?_
    refine z_aload_n F dX12_paysOn_69 rfl rfl 0 rfl ?_
    refine z_iload_n F dX12_paysOn_70 rfl rfl 1 rfl ?_
    refine z_iconst F dX12_paysOn_71 rfl ?_
    refine z_cVip (As := [.int (i3 x1), .int (i3 3)]) (st := [.int (i3 x2)]) F (c_X12_of l g k0 hw) cv_X12_of w_1155 ⟨rfl, rfl, Nat.le_of_ble_eq_true rfl, Nat.le_of_ble_eq_true rfl⟩ k0 rfl rfl (Nat.le_of_ble_eq_true rfl) dX12_paysOn_72 rfl (fun r72 hw => ?_)
    refine z_idiv F dX12_paysOn_75 rfl hw (fun hw => ?_)
    refine z_iconst F dX12_paysOn_76 rfl ?_
    refine z_isub F dX12_paysOn_77 rfl ?_
    refine z_sub [0, 1, 2, 3, 4, 5] rfl ?_
    exact bk_X12_paysOn_78 F hr k0 hw
  · refine z_iload F dX12_paysOn_54 rfl 4 rfl ?_
    refine z_iconst F dX12_paysOn_56 rfl ?_
    refine z_isub F dX12_paysOn_57 rfl ?_
    refine z_aload_n F dX12_paysOn_58 rfl rfl 0 rfl ?_
    refine z_iload_n F dX12_paysOn_59 rfl rfl 1 rfl ?_
    refine z_iconst F dX12_paysOn_60 rfl ?_
    refine z_cVip (As := [.int (i3 x1), .int (i3 3)]) (st := [.int (i3 (x4 - 1))]) F (c_X12_of l g k0 hw) cv_X12_of w_1155 ⟨rfl, rfl, Nat.le_of_ble_eq_true rfl, Nat.le_of_ble_eq_true rfl⟩ k0 rfl rfl (Nat.le_of_ble_eq_true rfl) dX12_paysOn_61 rfl (fun r61 hw => ?_)
    refine z_idiv F dX12_paysOn_64 rfl hw (fun hw => ?_)
    refine z_goto F dX12_paysOn_65 rfl ?_
    refine z_sub [0, 1, 2, 3, 4, 5] rfl ?_
    exact bk_X12_paysOn_78 F hr k0 hw
set_option maxRecDepth 100000 in
set_option maxHeartbeats 4000000 in
theorem c_X12_paysOn (l : Launch) (g : En) {a0 : Nat} {a1 : Int} {a2 : Int} {M : Mem} {Q : Int → Prop} (k0 : kd a0 = 12) (hw : wp_X12_paysOn a0 a1 a2 M Q) :
    Met l yX12_paysOn (WS yX12_paysOn cX12_paysOn 9 (some .int)) rm_X12_paysOn (va_Pc [.ref (g.2.2.1 + a0), .int (i3 a1), .int (i3 a2)] (Rp g M)) (va_Qi (S := Int × Mem) (fun r u => r = i3 u.1 ∧ (u.2 = M ∧ Q u.1)) (fun u => Rp g u.2) (aR g)) 0 0 (aR g) := by
  refine met_Z (plainFor_of_name rfl) (Nat.le_of_ble_eq_true rfl) ?_
  intro p e s m args below meth c F hr _
  show Z g p l e rm_X12_paysOn s m args below meth c 9 (MQ below (va_Qi (S := Int × Mem) (fun r u => r = i3 u.1 ∧ (u.2 = M ∧ Q u.1)) (fun u => Rp g u.2) (aR g)) args s 0 0 (aR g)) M 0 [(0, .ref (g.2.2.1 + a0)), (1, .int (i3 a1)), (2, .int (i3 a2))] []
  refine z_aload_n F dX12_paysOn_0 rfl rfl 0 rfl ?_
  refine z_iload_n F dX12_paysOn_1 rfl rfl 1 rfl ?_
  refine z_iconst F dX12_paysOn_2 rfl ?_
  refine z_cVip (As := [.int (i3 a1), .int (i3 2)]) (st := []) F (c_X12_of l g k0 hw) cv_X12_of w_1155 ⟨rfl, rfl, Nat.le_of_ble_eq_true rfl, Nat.le_of_ble_eq_true rfl⟩ k0 rfl rfl (Nat.le_of_ble_eq_true rfl) dX12_paysOn_3 rfl (fun r3 hw => ?_)
  refine z_istore_n F dX12_paysOn_6 rfl rfl (by decide) rfl ?_
  refine z_aload_n F dX12_paysOn_7 rfl rfl 1 rfl ?_
  refine z_iload_n F dX12_paysOn_8 rfl rfl 2 rfl ?_
  refine z_iconst F dX12_paysOn_9 rfl ?_
  refine z_cVip (As := [.int (i3 a1), .int (i3 4)]) (st := []) F (c_X12_of l g k0 hw) cv_X12_of w_1155 ⟨rfl, rfl, Nat.le_of_ble_eq_true rfl, Nat.le_of_ble_eq_true rfl⟩ k0 rfl rfl (Nat.le_of_ble_eq_true rfl) dX12_paysOn_10 rfl (fun r10 hw => ?_)
  refine z_istore F dX12_paysOn_13 rfl (by decide) rfl ?_
  refine z_aload_n F dX12_paysOn_15 rfl rfl 2 rfl ?_
  refine z_iload_n F dX12_paysOn_16 rfl rfl 3 rfl ?_
  refine z_iconst F dX12_paysOn_17 rfl ?_
  refine z_cVip (As := [.int (i3 a1), .int (i3 5)]) (st := []) F (c_X12_of l g k0 hw) cv_X12_of w_1155 ⟨rfl, rfl, Nat.le_of_ble_eq_true rfl, Nat.le_of_ble_eq_true rfl⟩ k0 rfl rfl (Nat.le_of_ble_eq_true rfl) dX12_paysOn_18 rfl (fun r18 hw => ?_)
  refine z_istore F dX12_paysOn_21 rfl (by decide) rfl ?_
  refine z_iload_n F dX12_paysOn_23 rfl rfl 5 rfl ?_
  refine z_iload F dX12_paysOn_24 rfl 1 rfl ?_
  refine z_icmp_gt F dX12_paysOn_26 rfl rfl hw (fun hw => ?_) (fun hw => ?_)
  · refine z_iconst F dX12_paysOn_46 rfl ?_
    exact z_iretp (x := 0) F hr dX12_paysOn_47 hw
  · refine z_iload_n F dX12_paysOn_29 rfl rfl 5 rfl ?_
    refine z_iload F dX12_paysOn_30 rfl 1 rfl ?_
    refine z_icmp_eq F dX12_paysOn_32 rfl rfl hw (fun hw => ?_) (fun hw => ?_)
    · refine z_sub [3, 4, 5, 2, 1, 0] rfl ?_
      exact bk_X12_paysOn_48 F hr k0 hw
    · refine z_iload_n F dX12_paysOn_35 rfl rfl 5 rfl ?_
      refine z_aload_n F dX12_paysOn_36 rfl rfl 3 rfl ?_
      refine z_iload_n F dX12_paysOn_37 rfl rfl 4 rfl ?_
      refine z_iconst F dX12_paysOn_38 rfl ?_
      refine z_cVip (As := [.int (i3 a1), .int (i3 3)]) (st := [.int (i3 a2)]) F (c_X12_of l g k0 hw) cv_X12_of w_1155 ⟨rfl, rfl, Nat.le_of_ble_eq_true rfl, Nat.le_of_ble_eq_true rfl⟩ k0 rfl rfl (Nat.le_of_ble_eq_true rfl) dX12_paysOn_39 rfl (fun r39 hw => ?_)
      refine z_irem F dX12_paysOn_42 rfl hw (fun hw => ?_)
      refine z_if_eq F dX12_paysOn_43 rfl rfl hw (fun hw => ?_) (fun hw => ?_)
      · refine z_sub [3, 4, 5, 2, 1, 0] rfl ?_
        exact bk_X12_paysOn_48 F hr k0 hw
      · refine z_iconst F dX12_paysOn_46 rfl ?_
        exact z_iretp (x := 0) F hr dX12_paysOn_47 hw
theorem cv_X12_paysOn : CV yX12_paysOn RX12 cX12_paysOn 9 (some .int) 2 := ⟨w_1173, w_30, w_80, w_1174, rfl, by decide +kernel, by decide +kernel, by decide +kernel⟩
abbrev rm_X12_paysAtRung : Room := { frames := 4, cells := 0, slots := 0, locals := 94 }
def wp_X12_paysAtRung_B22 (a0 : Nat) (Q : Int → Prop) (K22 : Int → Int → Prop) (M : Mem) (x1 : Int) (x2 : Int) (x3 : Int) (x4 : Int) : Prop :=
  inb (rt a0 6) x2 ∧ (
  (((w32 (M (rt a0 6) (ix x2)) < w32 x4) → (
    Q x3)) ∧
  (¬ (w32 (M (rt a0 6) (ix x2)) < w32 x4) → (
    wp_X12_paysOn a0 x1 x4 M (fun r38 =>
    K22 (x3 + r38) (x4 + 1))))))
def wp_X12_paysAtRung_L22 (a0 : Nat) (Q : Int → Prop) (M : Mem) (x1 : Int) (x2 : Int) (x3 : Int) (x4 : Int) : Prop :=
  ∃ (I : Int → Int → Prop) (μ : Int → Int → Nat), I x3 x4 ∧ ∀ (x3 : Int) (x4 : Int), I x3 x4 →
    wp_X12_paysAtRung_B22 a0 Q (fun x3' x4' => I x3' x4' ∧ μ x3' x4' < μ x3 x4) M x1 x2 x3 x4
def wp_X12_paysAtRung_b20 (a0 : Nat) (Q : Int → Prop) (M : Mem) (s0 : Int) (x1 : Int) (x2 : Int) (x3 : Int) : Prop :=
  wp_X12_paysAtRung_L22 a0 Q M x1 x2 x3 s0
def wp_X12_paysAtRung (a0 : Nat) (a1 : Int) (a2 : Int) (M : Mem) (Q : Int → Prop) : Prop :=
  (((¬ w32 a2 = 0) → (
    inb (rt a0 6) (a2 - 1) ∧ (
    wp_X12_paysAtRung_b20 a0 Q M ((M (rt a0 6) (ix (a2 - 1))) + 1) a1 a2 0))) ∧
  (¬ (¬ w32 a2 = 0) → (
    wp_X12_paysAtRung_b20 a0 Q M 1 a1 a2 0)))
set_option maxRecDepth 100000 in
set_option maxHeartbeats 4000000 in
theorem bk_X12_paysAtRung_B22 {g : En} {p : Program} {l : Launch} {e : Env} {s : State} {m : MethodId} {args : Array Value} {below : List Frame} {meth : Method} {c : Code} {M : Mem} {a0 : Nat} {Q : Int → Prop} {K22 : Int → Int → Prop} {x1 : Int} {x2 : Int} {x3 : Int} {x4 : Int} (F : Fx g p s m args meth c cX12_paysAtRung 5 RX12) (hr : meth.sig.returnType = (some .int)) (k0 : kd a0 = 12)
    (hK22 : ∀ (x3' : Int) (x4' : Int), K22 x3' x4' → Z g p l e rm_X12_paysAtRung s m args below meth c 5 (MQ below (va_Qi (S := Int × Mem) (fun r u => r = i3 u.1 ∧ (u.2 = M ∧ Q u.1)) (fun u => Rp g u.2) (aR g)) args s 0 0 (aR g)) M 22 [(0, .ref (g.2.2.1 + a0)), (1, .int (i3 x1)), (2, .int (i3 x2)), (3, .int (i3 x3')), (4, .int (i3 x4'))] [])
    (hw : wp_X12_paysAtRung_B22 a0 Q K22 M x1 x2 x3 x4) : Z g p l e rm_X12_paysAtRung s m args below meth c 5 (MQ below (va_Qi (S := Int × Mem) (fun r u => r = i3 u.1 ∧ (u.2 = M ∧ Q u.1)) (fun u => Rp g u.2) (aR g)) args s 0 0 (aR g)) M 22 [(0, .ref (g.2.2.1 + a0)), (1, .int (i3 x1)), (2, .int (i3 x2)), (3, .int (i3 x3)), (4, .int (i3 x4))] [] := by
  refine z_iload F dX12_paysAtRung_22 rfl 4 rfl ?_
  refine z_aload_n F dX12_paysAtRung_24 rfl rfl 0 rfl ?_
  refine z_getR F fl_998 k0 dX12_paysAtRung_25 rfl ?_
  refine z_iload_n F dX12_paysAtRung_28 rfl rfl 2 rfl ?_
  refine z_iald F (tk_12_6 k0) dX12_paysAtRung_29 rfl hw (fun hw => ?_)
  refine z_icmp_gt F dX12_paysAtRung_30 rfl rfl hw (fun hw => ?_) (fun hw => ?_)
  · refine z_iload_n F dX12_paysAtRung_49 rfl rfl 3 rfl ?_
    exact z_iretp (x := x3) F hr dX12_paysAtRung_50 hw
  · refine z_iload_n F dX12_paysAtRung_33 rfl rfl 3 rfl ?_
    refine z_aload_n F dX12_paysAtRung_34 rfl rfl 0 rfl ?_
    refine z_iload_n F dX12_paysAtRung_35 rfl rfl 1 rfl ?_
    refine z_iload F dX12_paysAtRung_36 rfl 4 rfl ?_
    refine z_cVip (As := [.int (i3 x1), .int (i3 x4)]) (st := [.int (i3 x3)]) F (c_X12_paysOn l g k0 hw) cv_X12_paysOn w_1171 ⟨rfl, rfl, Nat.le_of_ble_eq_true rfl, Nat.le_of_ble_eq_true rfl⟩ k0 rfl rfl (Nat.le_of_ble_eq_true rfl) dX12_paysAtRung_38 rfl (fun r38 hw => ?_)
    refine z_iadd F dX12_paysAtRung_41 rfl ?_
    refine z_istore_n F dX12_paysAtRung_42 rfl rfl (by decide) rfl ?_
    refine z_iinc F dX12_paysAtRung_43 rfl 4 rfl (by decide) rfl ?_
    refine z_goto F dX12_paysAtRung_46 rfl ?_
    refine z_sub [2, 3, 4, 1, 0] rfl ?_
    exact hK22 (x3 + r38) (x4 + 1) hw
set_option maxRecDepth 100000 in
set_option maxHeartbeats 4000000 in
theorem lp_X12_paysAtRung_22 {g : En} {p : Program} {l : Launch} {e : Env} {s : State} {m : MethodId} {args : Array Value} {below : List Frame} {meth : Method} {c : Code} {M : Mem} {a0 : Nat} {Q : Int → Prop} {x1 : Int} {x2 : Int} {x3 : Int} {x4 : Int} (F : Fx g p s m args meth c cX12_paysAtRung 5 RX12) (hr : meth.sig.returnType = (some .int)) (k0 : kd a0 = 12)
    (hw : wp_X12_paysAtRung_L22 a0 Q M x1 x2 x3 x4) : Z g p l e rm_X12_paysAtRung s m args below meth c 5 (MQ below (va_Qi (S := Int × Mem) (fun r u => r = i3 u.1 ∧ (u.2 = M ∧ Q u.1)) (fun u => Rp g u.2) (aR g)) args s 0 0 (aR g)) M 22 [(0, .ref (g.2.2.1 + a0)), (1, .int (i3 x1)), (2, .int (i3 x2)), (3, .int (i3 x3)), (4, .int (i3 x4))] [] := by
  obtain ⟨I, μ, h0, hb⟩ := hw
  have key : ∀ (n : Nat) (x3 : Int) (x4 : Int), I x3 x4 → μ x3 x4 < n → Z g p l e rm_X12_paysAtRung s m args below meth c 5 (MQ below (va_Qi (S := Int × Mem) (fun r u => r = i3 u.1 ∧ (u.2 = M ∧ Q u.1)) (fun u => Rp g u.2) (aR g)) args s 0 0 (aR g)) M 22 [(0, .ref (g.2.2.1 + a0)), (1, .int (i3 x1)), (2, .int (i3 x2)), (3, .int (i3 x3)), (4, .int (i3 x4))] [] := by
    intro n
    induction n with
    | zero => exact fun _ _ _ h => absurd h (Nat.not_lt_zero _)
    | succ n ih =>
      intro x3 x4 hI hn
      exact bk_X12_paysAtRung_B22 F hr k0 (fun x3' x4' hk => ih x3' x4' hk.1 (Nat.lt_of_lt_of_le hk.2 (Nat.le_of_lt_succ hn))) (hb x3 x4 hI)
  exact key _ x3 x4 h0 (Nat.lt_succ_self _)
set_option maxRecDepth 100000 in
set_option maxHeartbeats 4000000 in
theorem bk_X12_paysAtRung_20 {g : En} {p : Program} {l : Launch} {e : Env} {s : State} {m : MethodId} {args : Array Value} {below : List Frame} {meth : Method} {c : Code} {M : Mem} {a0 : Nat} {Q : Int → Prop} {s0 : Int} {x1 : Int} {x2 : Int} {x3 : Int} (F : Fx g p s m args meth c cX12_paysAtRung 5 RX12) (hr : meth.sig.returnType = (some .int)) (k0 : kd a0 = 12)
    (hw : wp_X12_paysAtRung_b20 a0 Q M s0 x1 x2 x3) : Z g p l e rm_X12_paysAtRung s m args below meth c 5 (MQ below (va_Qi (S := Int × Mem) (fun r u => r = i3 u.1 ∧ (u.2 = M ∧ Q u.1)) (fun u => Rp g u.2) (aR g)) args s 0 0 (aR g)) M 20 [(0, .ref (g.2.2.1 + a0)), (1, .int (i3 x1)), (2, .int (i3 x2)), (3, .int (i3 x3))] [.int (i3 s0)] := by
  refine z_istore F dX12_paysAtRung_20 rfl (by decide) rfl ?_
  refine z_sub [1, 2, 3, 4, 0] rfl ?_
  exact lp_X12_paysAtRung_22 F hr k0 hw
set_option maxRecDepth 100000 in
set_option maxHeartbeats 4000000 in
theorem c_X12_paysAtRung (l : Launch) (g : En) {a0 : Nat} {a1 : Int} {a2 : Int} {M : Mem} {Q : Int → Prop} (k0 : kd a0 = 12) (hw : wp_X12_paysAtRung a0 a1 a2 M Q) :
    Met l yX12_paysAtRung (WS yX12_paysAtRung cX12_paysAtRung 5 (some .int)) rm_X12_paysAtRung (va_Pc [.ref (g.2.2.1 + a0), .int (i3 a1), .int (i3 a2)] (Rp g M)) (va_Qi (S := Int × Mem) (fun r u => r = i3 u.1 ∧ (u.2 = M ∧ Q u.1)) (fun u => Rp g u.2) (aR g)) 0 0 (aR g) := by
  refine met_Z (plainFor_of_name rfl) (Nat.le_of_ble_eq_true rfl) ?_
  intro p e s m args below meth c F hr _
  show Z g p l e rm_X12_paysAtRung s m args below meth c 5 (MQ below (va_Qi (S := Int × Mem) (fun r u => r = i3 u.1 ∧ (u.2 = M ∧ Q u.1)) (fun u => Rp g u.2) (aR g)) args s 0 0 (aR g)) M 0 [(0, .ref (g.2.2.1 + a0)), (1, .int (i3 a1)), (2, .int (i3 a2))] []
  refine z_iconst F dX12_paysAtRung_0 rfl ?_
  refine z_istore_n F dX12_paysAtRung_1 rfl rfl (by decide) rfl ?_
  refine z_iload_n F dX12_paysAtRung_2 rfl rfl 3 rfl ?_
  refine z_if_ne F dX12_paysAtRung_3 rfl rfl hw (fun hw => ?_) (fun hw => ?_)
  · refine z_aload_n F dX12_paysAtRung_10 rfl rfl 1 rfl ?_
    refine z_getR F fl_998 k0 dX12_paysAtRung_11 rfl ?_
    refine z_iload_n F dX12_paysAtRung_14 rfl rfl 3 rfl ?_
    refine z_iconst F dX12_paysAtRung_15 rfl ?_
    refine z_isub F dX12_paysAtRung_16 rfl ?_
    refine z_iald F (tk_12_6 k0) dX12_paysAtRung_17 rfl hw (fun hw => ?_)
    refine z_iconst F dX12_paysAtRung_18 rfl ?_
    refine z_iadd F dX12_paysAtRung_19 rfl ?_
    refine z_sub [1, 2, 3, 0] rfl ?_
    exact bk_X12_paysAtRung_20 F hr k0 hw
  · refine z_iconst F dX12_paysAtRung_6 rfl ?_
    refine z_goto F dX12_paysAtRung_7 rfl ?_
    refine z_sub [1, 2, 3, 0] rfl ?_
    exact bk_X12_paysAtRung_20 F hr k0 hw
theorem cv_X12_paysAtRung : CV yX12_paysAtRung RX12 cX12_paysAtRung 5 (some .int) 2 := ⟨w_1169, w_29, w_80, w_1170, rfl, by decide +kernel, by decide +kernel, by decide +kernel⟩
abbrev rm_X12_lastOf : Room := { frames := 5, cells := 0, slots := 0, locals := 118 }
def wp_X12_lastOf_b23 (a0 : Nat) (Q : Int → Prop) (K4 : Int → Int → Prop) (M : Mem) (x1 : Int) (x2 : Int) (x3 : Int) : Prop :=
  K4 x2 (x3 + 1)
def wp_X12_lastOf_B4 (a0 : Nat) (Q : Int → Prop) (K4 : Int → Int → Prop) (M : Mem) (x1 : Int) (x2 : Int) (x3 : Int) : Prop :=
  (((w32 (M a0 5) ≤ w32 x3) → (
    Q x2)) ∧
  (¬ (w32 (M a0 5) ≤ w32 x3) → (
    wp_X12_paysAtRung a0 x1 x3 M (fun r15 =>
    (((w32 r15 ≤ 0) → (
      wp_X12_lastOf_b23 a0 Q K4 M x1 x2 x3)) ∧
    (¬ (w32 r15 ≤ 0) → (
      wp_X12_lastOf_b23 a0 Q K4 M x1 x3 x3)))))))
def wp_X12_lastOf_L4 (a0 : Nat) (Q : Int → Prop) (M : Mem) (x1 : Int) (x2 : Int) (x3 : Int) : Prop :=
  ∃ (I : Int → Int → Prop) (μ : Int → Int → Nat), I x2 x3 ∧ ∀ (x2 : Int) (x3 : Int), I x2 x3 →
    wp_X12_lastOf_B4 a0 Q (fun x2' x3' => I x2' x3' ∧ μ x2' x3' < μ x2 x3) M x1 x2 x3
def wp_X12_lastOf (a0 : Nat) (a1 : Int) (M : Mem) (Q : Int → Prop) : Prop :=
  wp_X12_lastOf_L4 a0 Q M a1 (-1) 0
set_option maxRecDepth 100000 in
set_option maxHeartbeats 4000000 in
theorem bk_X12_lastOf_23 {g : En} {p : Program} {l : Launch} {e : Env} {s : State} {m : MethodId} {args : Array Value} {below : List Frame} {meth : Method} {c : Code} {M : Mem} {a0 : Nat} {Q : Int → Prop} {K4 : Int → Int → Prop} {x1 : Int} {x2 : Int} {x3 : Int} (F : Fx g p s m args meth c cX12_lastOf 4 RX12) (hr : meth.sig.returnType = (some .int)) (k0 : kd a0 = 12)
    (hK4 : ∀ (x2' : Int) (x3' : Int), K4 x2' x3' → Z g p l e rm_X12_lastOf s m args below meth c 4 (MQ below (va_Qi (S := Int × Mem) (fun r u => r = i3 u.1 ∧ (u.2 = M ∧ Q u.1)) (fun u => Rp g u.2) (aR g)) args s 0 0 (aR g)) M 4 [(0, .ref (g.2.2.1 + a0)), (1, .int (i3 x1)), (2, .int (i3 x2')), (3, .int (i3 x3'))] [])
    (hw : wp_X12_lastOf_b23 a0 Q K4 M x1 x2 x3) : Z g p l e rm_X12_lastOf s m args below meth c 4 (MQ below (va_Qi (S := Int × Mem) (fun r u => r = i3 u.1 ∧ (u.2 = M ∧ Q u.1)) (fun u => Rp g u.2) (aR g)) args s 0 0 (aR g)) M 23 [(0, .ref (g.2.2.1 + a0)), (1, .int (i3 x1)), (2, .int (i3 x2)), (3, .int (i3 x3))] [] := by
  refine z_iinc F dX12_lastOf_23 rfl 3 rfl (by decide) rfl ?_
  refine z_goto F dX12_lastOf_26 rfl ?_
  refine z_sub [1, 2, 3, 0] rfl ?_
  exact hK4 x2 (x3 + 1) hw
set_option maxRecDepth 100000 in
set_option maxHeartbeats 4000000 in
theorem bk_X12_lastOf_B4 {g : En} {p : Program} {l : Launch} {e : Env} {s : State} {m : MethodId} {args : Array Value} {below : List Frame} {meth : Method} {c : Code} {M : Mem} {a0 : Nat} {Q : Int → Prop} {K4 : Int → Int → Prop} {x1 : Int} {x2 : Int} {x3 : Int} (F : Fx g p s m args meth c cX12_lastOf 4 RX12) (hr : meth.sig.returnType = (some .int)) (k0 : kd a0 = 12)
    (hK4 : ∀ (x2' : Int) (x3' : Int), K4 x2' x3' → Z g p l e rm_X12_lastOf s m args below meth c 4 (MQ below (va_Qi (S := Int × Mem) (fun r u => r = i3 u.1 ∧ (u.2 = M ∧ Q u.1)) (fun u => Rp g u.2) (aR g)) args s 0 0 (aR g)) M 4 [(0, .ref (g.2.2.1 + a0)), (1, .int (i3 x1)), (2, .int (i3 x2')), (3, .int (i3 x3'))] [])
    (hw : wp_X12_lastOf_B4 a0 Q K4 M x1 x2 x3) : Z g p l e rm_X12_lastOf s m args below meth c 4 (MQ below (va_Qi (S := Int × Mem) (fun r u => r = i3 u.1 ∧ (u.2 = M ∧ Q u.1)) (fun u => Rp g u.2) (aR g)) args s 0 0 (aR g)) M 4 [(0, .ref (g.2.2.1 + a0)), (1, .int (i3 x1)), (2, .int (i3 x2)), (3, .int (i3 x3))] [] := by
  refine z_iload_n F dX12_lastOf_4 rfl rfl 3 rfl ?_
  refine z_aload_n F dX12_lastOf_5 rfl rfl 0 rfl ?_
  refine z_getI F fl_997 k0 dX12_lastOf_6 rfl ?_
  refine z_icmp_ge F dX12_lastOf_9 rfl rfl hw (fun hw => ?_) (fun hw => ?_)
  · refine z_iload_n F dX12_lastOf_29 rfl rfl 2 rfl ?_
    exact z_iretp (x := x2) F hr dX12_lastOf_30 hw
  · refine z_aload_n F dX12_lastOf_12 rfl rfl 0 rfl ?_
    refine z_iload_n F dX12_lastOf_13 rfl rfl 1 rfl ?_
    refine z_iload_n F dX12_lastOf_14 rfl rfl 3 rfl ?_
    refine z_cVip (As := [.int (i3 x1), .int (i3 x3)]) (st := []) F (c_X12_paysAtRung l g k0 hw) cv_X12_paysAtRung w_1167 ⟨rfl, rfl, Nat.le_of_ble_eq_true rfl, Nat.le_of_ble_eq_true rfl⟩ k0 rfl rfl (Nat.le_of_ble_eq_true rfl) dX12_lastOf_15 rfl (fun r15 hw => ?_)
    refine z_if_le F dX12_lastOf_18 rfl rfl hw (fun hw => ?_) (fun hw => ?_)
    · refine z_sub [0, 1, 2, 3] rfl ?_
      exact bk_X12_lastOf_23 F hr k0 hK4 hw
    · refine z_iload_n F dX12_lastOf_21 rfl rfl 3 rfl ?_
      refine z_istore_n F dX12_lastOf_22 rfl rfl (by decide) rfl ?_
      refine z_sub [1, 2, 0, 3] rfl ?_
      exact bk_X12_lastOf_23 F hr k0 hK4 hw
set_option maxRecDepth 100000 in
set_option maxHeartbeats 4000000 in
theorem lp_X12_lastOf_4 {g : En} {p : Program} {l : Launch} {e : Env} {s : State} {m : MethodId} {args : Array Value} {below : List Frame} {meth : Method} {c : Code} {M : Mem} {a0 : Nat} {Q : Int → Prop} {x1 : Int} {x2 : Int} {x3 : Int} (F : Fx g p s m args meth c cX12_lastOf 4 RX12) (hr : meth.sig.returnType = (some .int)) (k0 : kd a0 = 12)
    (hw : wp_X12_lastOf_L4 a0 Q M x1 x2 x3) : Z g p l e rm_X12_lastOf s m args below meth c 4 (MQ below (va_Qi (S := Int × Mem) (fun r u => r = i3 u.1 ∧ (u.2 = M ∧ Q u.1)) (fun u => Rp g u.2) (aR g)) args s 0 0 (aR g)) M 4 [(0, .ref (g.2.2.1 + a0)), (1, .int (i3 x1)), (2, .int (i3 x2)), (3, .int (i3 x3))] [] := by
  obtain ⟨I, μ, h0, hb⟩ := hw
  have key : ∀ (n : Nat) (x2 : Int) (x3 : Int), I x2 x3 → μ x2 x3 < n → Z g p l e rm_X12_lastOf s m args below meth c 4 (MQ below (va_Qi (S := Int × Mem) (fun r u => r = i3 u.1 ∧ (u.2 = M ∧ Q u.1)) (fun u => Rp g u.2) (aR g)) args s 0 0 (aR g)) M 4 [(0, .ref (g.2.2.1 + a0)), (1, .int (i3 x1)), (2, .int (i3 x2)), (3, .int (i3 x3))] [] := by
    intro n
    induction n with
    | zero => exact fun _ _ _ h => absurd h (Nat.not_lt_zero _)
    | succ n ih =>
      intro x2 x3 hI hn
      exact bk_X12_lastOf_B4 F hr k0 (fun x2' x3' hk => ih x2' x3' hk.1 (Nat.lt_of_lt_of_le hk.2 (Nat.le_of_lt_succ hn))) (hb x2 x3 hI)
  exact key _ x2 x3 h0 (Nat.lt_succ_self _)
set_option maxRecDepth 100000 in
set_option maxHeartbeats 4000000 in
theorem c_X12_lastOf (l : Launch) (g : En) {a0 : Nat} {a1 : Int} {M : Mem} {Q : Int → Prop} (k0 : kd a0 = 12) (hw : wp_X12_lastOf a0 a1 M Q) :
    Met l yX12_lastOf (WS yX12_lastOf cX12_lastOf 4 (some .int)) rm_X12_lastOf (va_Pc [.ref (g.2.2.1 + a0), .int (i3 a1)] (Rp g M)) (va_Qi (S := Int × Mem) (fun r u => r = i3 u.1 ∧ (u.2 = M ∧ Q u.1)) (fun u => Rp g u.2) (aR g)) 0 0 (aR g) := by
  refine met_Z (plainFor_of_name rfl) (Nat.le_of_ble_eq_true rfl) ?_
  intro p e s m args below meth c F hr _
  show Z g p l e rm_X12_lastOf s m args below meth c 4 (MQ below (va_Qi (S := Int × Mem) (fun r u => r = i3 u.1 ∧ (u.2 = M ∧ Q u.1)) (fun u => Rp g u.2) (aR g)) args s 0 0 (aR g)) M 0 [(0, .ref (g.2.2.1 + a0)), (1, .int (i3 a1))] []
  refine z_iconst F dX12_lastOf_0 rfl ?_
  refine z_istore_n F dX12_lastOf_1 rfl rfl (by decide) rfl ?_
  refine z_iconst F dX12_lastOf_2 rfl ?_
  refine z_istore_n F dX12_lastOf_3 rfl rfl (by decide) rfl ?_
  refine z_sub [2, 3, 1, 0] rfl ?_
  exact lp_X12_lastOf_4 F hr k0 hw
theorem cv_X12_lastOf : CV yX12_lastOf RX12 cX12_lastOf 4 (some .int) 1 := ⟨w_1165, w_28, w_80, w_1166, rfl, by decide +kernel, by decide +kernel, by decide +kernel⟩
abbrev rm_X12_allOf : Room := { frames := 5, cells := 0, slots := 0, locals := 118 }
def wp_X12_allOf_B4 (a0 : Nat) (Q : Int → Prop) (K4 : Int → Int → Prop) (M : Mem) (x1 : Int) (x2 : Int) (x3 : Int) : Prop :=
  (((w32 (M a0 5) ≤ w32 x3) → (
    Q x2)) ∧
  (¬ (w32 (M a0 5) ≤ w32 x3) → (
    wp_X12_paysAtRung a0 x1 x3 M (fun r16 =>
    K4 (x2 + r16) (x3 + 1)))))
def wp_X12_allOf_L4 (a0 : Nat) (Q : Int → Prop) (M : Mem) (x1 : Int) (x2 : Int) (x3 : Int) : Prop :=
  ∃ (I : Int → Int → Prop) (μ : Int → Int → Nat), I x2 x3 ∧ ∀ (x2 : Int) (x3 : Int), I x2 x3 →
    wp_X12_allOf_B4 a0 Q (fun x2' x3' => I x2' x3' ∧ μ x2' x3' < μ x2 x3) M x1 x2 x3
def wp_X12_allOf (a0 : Nat) (a1 : Int) (M : Mem) (Q : Int → Prop) : Prop :=
  wp_X12_allOf_L4 a0 Q M a1 0 0
set_option maxRecDepth 100000 in
set_option maxHeartbeats 4000000 in
theorem bk_X12_allOf_B4 {g : En} {p : Program} {l : Launch} {e : Env} {s : State} {m : MethodId} {args : Array Value} {below : List Frame} {meth : Method} {c : Code} {M : Mem} {a0 : Nat} {Q : Int → Prop} {K4 : Int → Int → Prop} {x1 : Int} {x2 : Int} {x3 : Int} (F : Fx g p s m args meth c cX12_allOf 4 RX12) (hr : meth.sig.returnType = (some .int)) (k0 : kd a0 = 12)
    (hK4 : ∀ (x2' : Int) (x3' : Int), K4 x2' x3' → Z g p l e rm_X12_allOf s m args below meth c 4 (MQ below (va_Qi (S := Int × Mem) (fun r u => r = i3 u.1 ∧ (u.2 = M ∧ Q u.1)) (fun u => Rp g u.2) (aR g)) args s 0 0 (aR g)) M 4 [(0, .ref (g.2.2.1 + a0)), (1, .int (i3 x1)), (2, .int (i3 x2')), (3, .int (i3 x3'))] [])
    (hw : wp_X12_allOf_B4 a0 Q K4 M x1 x2 x3) : Z g p l e rm_X12_allOf s m args below meth c 4 (MQ below (va_Qi (S := Int × Mem) (fun r u => r = i3 u.1 ∧ (u.2 = M ∧ Q u.1)) (fun u => Rp g u.2) (aR g)) args s 0 0 (aR g)) M 4 [(0, .ref (g.2.2.1 + a0)), (1, .int (i3 x1)), (2, .int (i3 x2)), (3, .int (i3 x3))] [] := by
  refine z_iload_n F dX12_allOf_4 rfl rfl 3 rfl ?_
  refine z_aload_n F dX12_allOf_5 rfl rfl 0 rfl ?_
  refine z_getI F fl_997 k0 dX12_allOf_6 rfl ?_
  refine z_icmp_ge F dX12_allOf_9 rfl rfl hw (fun hw => ?_) (fun hw => ?_)
  · refine z_iload_n F dX12_allOf_27 rfl rfl 2 rfl ?_
    exact z_iretp (x := x2) F hr dX12_allOf_28 hw
  · refine z_iload_n F dX12_allOf_12 rfl rfl 2 rfl ?_
    refine z_aload_n F dX12_allOf_13 rfl rfl 0 rfl ?_
    refine z_iload_n F dX12_allOf_14 rfl rfl 1 rfl ?_
    refine z_iload_n F dX12_allOf_15 rfl rfl 3 rfl ?_
    refine z_cVip (As := [.int (i3 x1), .int (i3 x3)]) (st := [.int (i3 x2)]) F (c_X12_paysAtRung l g k0 hw) cv_X12_paysAtRung w_1167 ⟨rfl, rfl, Nat.le_of_ble_eq_true rfl, Nat.le_of_ble_eq_true rfl⟩ k0 rfl rfl (Nat.le_of_ble_eq_true rfl) dX12_allOf_16 rfl (fun r16 hw => ?_)
    refine z_iadd F dX12_allOf_19 rfl ?_
    refine z_istore_n F dX12_allOf_20 rfl rfl (by decide) rfl ?_
    refine z_iinc F dX12_allOf_21 rfl 3 rfl (by decide) rfl ?_
    refine z_goto F dX12_allOf_24 rfl ?_
    refine z_sub [2, 3, 1, 0] rfl ?_
    exact hK4 (x2 + r16) (x3 + 1) hw
set_option maxRecDepth 100000 in
set_option maxHeartbeats 4000000 in
theorem lp_X12_allOf_4 {g : En} {p : Program} {l : Launch} {e : Env} {s : State} {m : MethodId} {args : Array Value} {below : List Frame} {meth : Method} {c : Code} {M : Mem} {a0 : Nat} {Q : Int → Prop} {x1 : Int} {x2 : Int} {x3 : Int} (F : Fx g p s m args meth c cX12_allOf 4 RX12) (hr : meth.sig.returnType = (some .int)) (k0 : kd a0 = 12)
    (hw : wp_X12_allOf_L4 a0 Q M x1 x2 x3) : Z g p l e rm_X12_allOf s m args below meth c 4 (MQ below (va_Qi (S := Int × Mem) (fun r u => r = i3 u.1 ∧ (u.2 = M ∧ Q u.1)) (fun u => Rp g u.2) (aR g)) args s 0 0 (aR g)) M 4 [(0, .ref (g.2.2.1 + a0)), (1, .int (i3 x1)), (2, .int (i3 x2)), (3, .int (i3 x3))] [] := by
  obtain ⟨I, μ, h0, hb⟩ := hw
  have key : ∀ (n : Nat) (x2 : Int) (x3 : Int), I x2 x3 → μ x2 x3 < n → Z g p l e rm_X12_allOf s m args below meth c 4 (MQ below (va_Qi (S := Int × Mem) (fun r u => r = i3 u.1 ∧ (u.2 = M ∧ Q u.1)) (fun u => Rp g u.2) (aR g)) args s 0 0 (aR g)) M 4 [(0, .ref (g.2.2.1 + a0)), (1, .int (i3 x1)), (2, .int (i3 x2)), (3, .int (i3 x3))] [] := by
    intro n
    induction n with
    | zero => exact fun _ _ _ h => absurd h (Nat.not_lt_zero _)
    | succ n ih =>
      intro x2 x3 hI hn
      exact bk_X12_allOf_B4 F hr k0 (fun x2' x3' hk => ih x2' x3' hk.1 (Nat.lt_of_lt_of_le hk.2 (Nat.le_of_lt_succ hn))) (hb x2 x3 hI)
  exact key _ x2 x3 h0 (Nat.lt_succ_self _)
set_option maxRecDepth 100000 in
set_option maxHeartbeats 4000000 in
theorem c_X12_allOf (l : Launch) (g : En) {a0 : Nat} {a1 : Int} {M : Mem} {Q : Int → Prop} (k0 : kd a0 = 12) (hw : wp_X12_allOf a0 a1 M Q) :
    Met l yX12_allOf (WS yX12_allOf cX12_allOf 4 (some .int)) rm_X12_allOf (va_Pc [.ref (g.2.2.1 + a0), .int (i3 a1)] (Rp g M)) (va_Qi (S := Int × Mem) (fun r u => r = i3 u.1 ∧ (u.2 = M ∧ Q u.1)) (fun u => Rp g u.2) (aR g)) 0 0 (aR g) := by
  refine met_Z (plainFor_of_name rfl) (Nat.le_of_ble_eq_true rfl) ?_
  intro p e s m args below meth c F hr _
  show Z g p l e rm_X12_allOf s m args below meth c 4 (MQ below (va_Qi (S := Int × Mem) (fun r u => r = i3 u.1 ∧ (u.2 = M ∧ Q u.1)) (fun u => Rp g u.2) (aR g)) args s 0 0 (aR g)) M 0 [(0, .ref (g.2.2.1 + a0)), (1, .int (i3 a1))] []
  refine z_iconst F dX12_allOf_0 rfl ?_
  refine z_istore_n F dX12_allOf_1 rfl rfl (by decide) rfl ?_
  refine z_iconst F dX12_allOf_2 rfl ?_
  refine z_istore_n F dX12_allOf_3 rfl rfl (by decide) rfl ?_
  refine z_sub [2, 3, 1, 0] rfl ?_
  exact lp_X12_allOf_4 F hr k0 hw
theorem cv_X12_allOf : CV yX12_allOf RX12 cX12_allOf 4 (some .int) 1 := ⟨w_1185, w_33, w_80, w_1186, rfl, by decide +kernel, by decide +kernel, by decide +kernel⟩
abbrev rm_X12_told : Room := { frames := 6, cells := 0, slots := 0, locals := 141 }
def wp_X12_told (a0 : Nat) (a1 : Int) (a2 : Int) (M : Mem) (Q : Int → Prop) : Prop :=
  wp_X12_isBond a0 a1 M (fun r2 =>
  ((r2 = false → (
    Q (-2))) ∧
  (r2 = true → (
    wp_X12_within a2 0 8 M (fun r12 =>
    ((r12 = true → (
      (((w32 7 ≤ w32 a2) → (
        (((¬ w32 a2 = w32 7) → (
          wp_X12_allOf a0 a1 M (fun r52 =>
          Q r52))) ∧
        (¬ (¬ w32 a2 = w32 7) → (
          wp_X12_lastOf a0 a1 M (fun r44 =>
          Q r44)))))) ∧
      (¬ (w32 7 ≤ w32 a2) → (
        wp_X12_of a0 a1 a2 M (fun r30 =>
        Q r30)))))) ∧
    (r12 = false → (
      Q (-2)))))))))
set_option maxRecDepth 100000 in
set_option maxHeartbeats 4000000 in
theorem c_X12_told (l : Launch) (g : En) {a0 : Nat} {a1 : Int} {a2 : Int} {M : Mem} {Q : Int → Prop} (k0 : kd a0 = 12) (hw : wp_X12_told a0 a1 a2 M Q) :
    Met l yX12_told (WS yX12_told cX12_told 3 (some .int)) rm_X12_told (va_Pc [.ref (g.2.2.1 + a0), .int (i3 a1), .int (i3 a2)] (Rp g M)) (va_Qi (S := Int × Mem) (fun r u => r = i3 u.1 ∧ (u.2 = M ∧ Q u.1)) (fun u => Rp g u.2) (aR g)) 0 0 (aR g) := by
  refine met_Z (plainFor_of_name rfl) (Nat.le_of_ble_eq_true rfl) ?_
  intro p e s m args below meth c F hr _
  show Z g p l e rm_X12_told s m args below meth c 3 (MQ below (va_Qi (S := Int × Mem) (fun r u => r = i3 u.1 ∧ (u.2 = M ∧ Q u.1)) (fun u => Rp g u.2) (aR g)) args s 0 0 (aR g)) M 0 [(0, .ref (g.2.2.1 + a0)), (1, .int (i3 a1)), (2, .int (i3 a2))] []
  refine z_aload_n F dX12_told_0 rfl rfl 0 rfl ?_
  refine z_iload_n F dX12_told_1 rfl rfl 1 rfl ?_
  refine z_cVbp (As := [.int (i3 a1)]) (st := []) F (c_X12_isBond l g k0 hw) cv_X12_isBond w_1151 ⟨rfl, rfl, Nat.le_of_ble_eq_true rfl, Nat.le_of_ble_eq_true rfl⟩ k0 rfl rfl (Nat.le_of_ble_eq_true rfl) dX12_told_2 rfl (fun r2 hw => ?_)
  refine z_ifb_eq F dX12_told_5 rfl rfl hw (fun hw => ?_) (fun hw => ?_)
  · refine z_bipush F dX12_told_18 (by decide) rfl ?_
    exact z_iretp (x := (-2)) F hr dX12_told_20 hw
  · refine z_iload_n F dX12_told_8 rfl rfl 2 rfl ?_
    refine z_iconst F dX12_told_9 rfl ?_
    refine z_bipush F dX12_told_10 (by decide) rfl ?_
    refine z_cSbp (As := [.int (i3 a2), .int (i3 0), .int (i3 8)]) (st := []) F (c_X12_within l g hw) cs_X12_within w_1102 ⟨rfl, rfl, Nat.le_of_ble_eq_true rfl, Nat.le_of_ble_eq_true rfl⟩ rfl (Nat.le_of_ble_eq_true rfl) dX12_told_12 rfl (fun r12 hw => ?_)
    refine z_ifb_ne F dX12_told_15 rfl rfl hw (fun hw => ?_) (fun hw => ?_)
    · refine z_iload_n F dX12_told_21 rfl rfl 2 rfl ?_
      refine z_bipush F dX12_told_22 (by decide) rfl ?_
      refine z_icmp_ge F dX12_told_24 rfl rfl hw (fun hw => ?_) (fun hw => ?_)
      · refine z_iload_n F dX12_told_36 rfl rfl 2 rfl ?_
        refine z_bipush F dX12_told_37 (by decide) rfl ?_
        refine z_icmp_ne F dX12_told_39 rfl rfl hw (fun hw => ?_) (fun hw => ?_)
        · refine z_aload_n F dX12_told_50 rfl rfl 0 rfl ?_
          refine z_iload_n F dX12_told_51 rfl rfl 1 rfl ?_
          refine z_cVip (As := [.int (i3 a1)]) (st := []) F (c_X12_allOf l g k0 hw) cv_X12_allOf w_1183 ⟨rfl, rfl, Nat.le_of_ble_eq_true rfl, Nat.le_of_ble_eq_true rfl⟩ k0 rfl rfl (Nat.le_of_ble_eq_true rfl) dX12_told_52 rfl (fun r52 hw => ?_)
          exact z_iretp (x := r52) F hr dX12_told_55 hw
        · refine z_aload_n F dX12_told_42 rfl rfl 0 rfl ?_
          refine z_iload_n F dX12_told_43 rfl rfl 1 rfl ?_
          refine z_cVip (As := [.int (i3 a1)]) (st := []) F (c_X12_lastOf l g k0 hw) cv_X12_lastOf w_1163 ⟨rfl, rfl, Nat.le_of_ble_eq_true rfl, Nat.le_of_ble_eq_true rfl⟩ k0 rfl rfl (Nat.le_of_ble_eq_true rfl) dX12_told_44 rfl (fun r44 hw => ?_)
          refine z_goto F dX12_told_47 rfl ?_
          exact z_iretp (x := r44) F hr dX12_told_55 hw
      · refine z_aload_n F dX12_told_27 rfl rfl 0 rfl ?_
        refine z_iload_n F dX12_told_28 rfl rfl 1 rfl ?_
        refine z_iload_n F dX12_told_29 rfl rfl 2 rfl ?_
        refine z_cVip (As := [.int (i3 a1), .int (i3 a2)]) (st := []) F (c_X12_of l g k0 hw) cv_X12_of w_1155 ⟨rfl, rfl, Nat.le_of_ble_eq_true rfl, Nat.le_of_ble_eq_true rfl⟩ k0 rfl rfl (Nat.le_of_ble_eq_true rfl) dX12_told_30 rfl (fun r30 hw => ?_)
        refine z_goto F dX12_told_33 rfl ?_
        exact z_iretp (x := r30) F hr dX12_told_55 hw
    · refine z_bipush F dX12_told_18 (by decide) rfl ?_
      exact z_iretp (x := (-2)) F hr dX12_told_20 hw
theorem cv_X12_told : CV yX12_told RX12 cX12_told 3 (some .int) 2 := ⟨w_1160, w_1161, w_80, w_1162, rfl, by decide +kernel, by decide +kernel, by decide +kernel⟩
abbrev rm_X12_pays : Room := { frames := 4, cells := 0, slots := 0, locals := 94 }
def wp_X12_pays (a0 : Nat) (a1 : Int) (a2 : Int) (M : Mem) (Q : Int → Prop) : Prop :=
  wp_X12_isBond a0 a1 M (fun r2 =>
  ((r2 = false → (
    Q (-2))) ∧
  (r2 = true → (
    wp_X12_isDay a2 M (fun r9 =>
    ((r9 = false → (
      Q (-2))) ∧
    (r9 = true → (
      wp_X12_paysOn a0 a1 a2 M (fun r18 =>
      Q r18)))))))))
set_option maxRecDepth 100000 in
set_option maxHeartbeats 4000000 in
theorem c_X12_pays (l : Launch) (g : En) {a0 : Nat} {a1 : Int} {a2 : Int} {M : Mem} {Q : Int → Prop} (k0 : kd a0 = 12) (hw : wp_X12_pays a0 a1 a2 M Q) :
    Met l yX12_pays (WS yX12_pays cX12_pays 3 (some .int)) rm_X12_pays (va_Pc [.ref (g.2.2.1 + a0), .int (i3 a1), .int (i3 a2)] (Rp g M)) (va_Qi (S := Int × Mem) (fun r u => r = i3 u.1 ∧ (u.2 = M ∧ Q u.1)) (fun u => Rp g u.2) (aR g)) 0 0 (aR g) := by
  refine met_Z (plainFor_of_name rfl) (Nat.le_of_ble_eq_true rfl) ?_
  intro p e s m args below meth c F hr _
  show Z g p l e rm_X12_pays s m args below meth c 3 (MQ below (va_Qi (S := Int × Mem) (fun r u => r = i3 u.1 ∧ (u.2 = M ∧ Q u.1)) (fun u => Rp g u.2) (aR g)) args s 0 0 (aR g)) M 0 [(0, .ref (g.2.2.1 + a0)), (1, .int (i3 a1)), (2, .int (i3 a2))] []
  refine z_aload_n F dX12_pays_0 rfl rfl 0 rfl ?_
  refine z_iload_n F dX12_pays_1 rfl rfl 1 rfl ?_
  refine z_cVbp (As := [.int (i3 a1)]) (st := []) F (c_X12_isBond l g k0 hw) cv_X12_isBond w_1151 ⟨rfl, rfl, Nat.le_of_ble_eq_true rfl, Nat.le_of_ble_eq_true rfl⟩ k0 rfl rfl (Nat.le_of_ble_eq_true rfl) dX12_pays_2 rfl (fun r2 hw => ?_)
  refine z_ifb_eq F dX12_pays_5 rfl rfl hw (fun hw => ?_) (fun hw => ?_)
  · refine z_bipush F dX12_pays_24 (by decide) rfl ?_
    exact z_iretp (x := (-2)) F hr dX12_pays_26 hw
  · refine z_iload_n F dX12_pays_8 rfl rfl 2 rfl ?_
    refine z_cSbp (As := [.int (i3 a2)]) (st := []) F (c_X12_isDay l g hw) cs_X12_isDay w_1099 ⟨rfl, rfl, Nat.le_of_ble_eq_true rfl, Nat.le_of_ble_eq_true rfl⟩ rfl (Nat.le_of_ble_eq_true rfl) dX12_pays_9 rfl (fun r9 hw => ?_)
    refine z_ifb_eq F dX12_pays_12 rfl rfl hw (fun hw => ?_) (fun hw => ?_)
    · refine z_bipush F dX12_pays_24 (by decide) rfl ?_
      exact z_iretp (x := (-2)) F hr dX12_pays_26 hw
    · refine z_aload_n F dX12_pays_15 rfl rfl 0 rfl ?_
      refine z_iload_n F dX12_pays_16 rfl rfl 1 rfl ?_
      refine z_iload_n F dX12_pays_17 rfl rfl 2 rfl ?_
      refine z_cVip (As := [.int (i3 a1), .int (i3 a2)]) (st := []) F (c_X12_paysOn l g k0 hw) cv_X12_paysOn w_1171 ⟨rfl, rfl, Nat.le_of_ble_eq_true rfl, Nat.le_of_ble_eq_true rfl⟩ k0 rfl rfl (Nat.le_of_ble_eq_true rfl) dX12_pays_18 rfl (fun r18 hw => ?_)
      refine z_goto F dX12_pays_21 rfl ?_
      exact z_iretp (x := r18) F hr dX12_pays_26 hw
theorem cv_X12_pays : CV yX12_pays RX12 cX12_pays 3 (some .int) 2 := ⟨w_1188, w_1189, w_80, w_1190, rfl, by decide +kernel, by decide +kernel, by decide +kernel⟩
abbrev rm_X12_paysAt : Room := { frames := 5, cells := 0, slots := 0, locals := 118 }
def wp_X12_paysAt (a0 : Nat) (a1 : Int) (a2 : Int) (M : Mem) (Q : Int → Prop) : Prop :=
  wp_X12_isBond a0 a1 M (fun r2 =>
  ((r2 = true → (
    wp_X12_isRung a0 a2 M (fun r13 =>
    ((r13 = false → (
      Q (-12))) ∧
    (r13 = true → (
      wp_X12_paysAtRung a0 a1 a2 M (fun r22 =>
      Q r22))))))) ∧
  (r2 = false → (
    Q (-2)))))
set_option maxRecDepth 100000 in
set_option maxHeartbeats 4000000 in
theorem c_X12_paysAt (l : Launch) (g : En) {a0 : Nat} {a1 : Int} {a2 : Int} {M : Mem} {Q : Int → Prop} (k0 : kd a0 = 12) (hw : wp_X12_paysAt a0 a1 a2 M Q) :
    Met l yX12_paysAt (WS yX12_paysAt cX12_paysAt 3 (some .int)) rm_X12_paysAt (va_Pc [.ref (g.2.2.1 + a0), .int (i3 a1), .int (i3 a2)] (Rp g M)) (va_Qi (S := Int × Mem) (fun r u => r = i3 u.1 ∧ (u.2 = M ∧ Q u.1)) (fun u => Rp g u.2) (aR g)) 0 0 (aR g) := by
  refine met_Z (plainFor_of_name rfl) (Nat.le_of_ble_eq_true rfl) ?_
  intro p e s m args below meth c F hr _
  show Z g p l e rm_X12_paysAt s m args below meth c 3 (MQ below (va_Qi (S := Int × Mem) (fun r u => r = i3 u.1 ∧ (u.2 = M ∧ Q u.1)) (fun u => Rp g u.2) (aR g)) args s 0 0 (aR g)) M 0 [(0, .ref (g.2.2.1 + a0)), (1, .int (i3 a1)), (2, .int (i3 a2))] []
  refine z_aload_n F dX12_paysAt_0 rfl rfl 0 rfl ?_
  refine z_iload_n F dX12_paysAt_1 rfl rfl 1 rfl ?_
  refine z_cVbp (As := [.int (i3 a1)]) (st := []) F (c_X12_isBond l g k0 hw) cv_X12_isBond w_1151 ⟨rfl, rfl, Nat.le_of_ble_eq_true rfl, Nat.le_of_ble_eq_true rfl⟩ k0 rfl rfl (Nat.le_of_ble_eq_true rfl) dX12_paysAt_2 rfl (fun r2 hw => ?_)
  refine z_ifb_ne F dX12_paysAt_5 rfl rfl hw (fun hw => ?_) (fun hw => ?_)
  · refine z_aload_n F dX12_paysAt_11 rfl rfl 0 rfl ?_
    refine z_iload_n F dX12_paysAt_12 rfl rfl 2 rfl ?_
    refine z_cVbp (As := [.int (i3 a2)]) (st := []) F (c_X12_isRung l g k0 hw) cv_X12_isRung w_1127 ⟨rfl, rfl, Nat.le_of_ble_eq_true rfl, Nat.le_of_ble_eq_true rfl⟩ k0 rfl rfl (Nat.le_of_ble_eq_true rfl) dX12_paysAt_13 rfl (fun r13 hw => ?_)
    refine z_ifb_eq F dX12_paysAt_16 rfl rfl hw (fun hw => ?_) (fun hw => ?_)
    · refine z_bipush F dX12_paysAt_28 (by decide) rfl ?_
      exact z_iretp (x := (-12)) F hr dX12_paysAt_30 hw
    · refine z_aload_n F dX12_paysAt_19 rfl rfl 0 rfl ?_
      refine z_iload_n F dX12_paysAt_20 rfl rfl 1 rfl ?_
      refine z_iload_n F dX12_paysAt_21 rfl rfl 2 rfl ?_
      refine z_cVip (As := [.int (i3 a1), .int (i3 a2)]) (st := []) F (c_X12_paysAtRung l g k0 hw) cv_X12_paysAtRung w_1167 ⟨rfl, rfl, Nat.le_of_ble_eq_true rfl, Nat.le_of_ble_eq_true rfl⟩ k0 rfl rfl (Nat.le_of_ble_eq_true rfl) dX12_paysAt_22 rfl (fun r22 hw => ?_)
      refine z_goto F dX12_paysAt_25 rfl ?_
      exact z_iretp (x := r22) F hr dX12_paysAt_30 hw
  · refine z_bipush F dX12_paysAt_8 (by decide) rfl ?_
    exact z_iretp (x := (-2)) F hr dX12_paysAt_10 hw
theorem cv_X12_paysAt : CV yX12_paysAt RX12 cX12_paysAt 3 (some .int) 2 := ⟨w_1192, w_1193, w_80, w_1194, rfl, by decide +kernel, by decide +kernel, by decide +kernel⟩
abbrev rm_X12_above : Room := { frames := 0, cells := 0, slots := 0, locals := 0 }
def wp_X12_above (a0 : Int) (M : Mem) (Q : Int → Prop) : Prop :=
  (((¬ w32 a0 = w32 3) → (
    (((w32 a0 ≤ w32 3) → (
      Q 0)) ∧
    (¬ (w32 a0 ≤ w32 3) → (
      Q 2))))) ∧
  (¬ (¬ w32 a0 = w32 3) → (
    Q 1)))
set_option maxRecDepth 100000 in
set_option maxHeartbeats 4000000 in
theorem c_X12_above (l : Launch) (g : En) {a0 : Int} {M : Mem} {Q : Int → Prop} (hw : wp_X12_above a0 M Q) :
    Met l yX12_above (WS yX12_above cX12_above 1 (some .int)) rm_X12_above (va_Pc [.int (i3 a0)] (Rp g M)) (va_Qi (S := Int × Mem) (fun r u => r = i3 u.1 ∧ (u.2 = M ∧ Q u.1)) (fun u => Rp g u.2) (aR g)) 0 0 (aR g) := by
  refine met_Z (plainFor_of_name rfl) (Nat.le_of_ble_eq_true rfl) ?_
  intro p e s m args below meth c F hr _
  show Z g p l e rm_X12_above s m args below meth c 1 (MQ below (va_Qi (S := Int × Mem) (fun r u => r = i3 u.1 ∧ (u.2 = M ∧ Q u.1)) (fun u => Rp g u.2) (aR g)) args s 0 0 (aR g)) M 0 [(0, .int (i3 a0))] []
  refine z_iload_n F dX12_above_0 rfl rfl 0 rfl ?_
  refine z_iconst F dX12_above_1 rfl ?_
  refine z_icmp_ne F dX12_above_2 rfl rfl hw (fun hw => ?_) (fun hw => ?_)
  · refine z_iload_n F dX12_above_9 rfl rfl 0 rfl ?_
    refine z_iconst F dX12_above_10 rfl ?_
    refine z_icmp_le F dX12_above_11 rfl rfl hw (fun hw => ?_) (fun hw => ?_)
    · refine z_iconst F dX12_above_18 rfl ?_
      exact z_iretp (x := 0) F hr dX12_above_19 hw
    · refine z_iconst F dX12_above_14 rfl ?_
      refine z_goto F dX12_above_15 rfl ?_
      exact z_iretp (x := 2) F hr dX12_above_19 hw
  · refine z_iconst F dX12_above_5 rfl ?_
    refine z_goto F dX12_above_6 rfl ?_
    exact z_iretp (x := 1) F hr dX12_above_19 hw
theorem cs_X12_above : CS yX12_above cX12_above 1 (some .int) 1 := ⟨w_1200, w_80, w_1201, by decide +kernel, by decide +kernel, by decide +kernel⟩
abbrev rm_X12_taken : Room := { frames := 2, cells := 0, slots := 0, locals := 43 }
def wp_X12_taken_b44 (a0 : Nat) (Q : Int → Prop) (M : Mem) (x1 : Int) (x2 : Int) (x3 : Int) : Prop :=
  (((¬ w32 x3 = w32 x2) → (
    Q (-13))) ∧
  (¬ (¬ w32 x3 = w32 x2) → (
    wp_X12_of a0 x1 1 M (fun r52 =>
    Q r52))))
def wp_X12_taken_B27 (a0 : Nat) (Q : Int → Prop) (K27 : Int → Prop) (M : Mem) (x1 : Int) (x2 : Int) (x3 : Int) : Prop :=
  (((w32 x3 = w32 x2) → (
    wp_X12_taken_b44 a0 Q M x1 x2 x3)) ∧
  (¬ (w32 x3 = w32 x2) → (
    (((w32 x3 = 0) → (
      wp_X12_taken_b44 a0 Q M x1 x2 x3)) ∧
    (¬ (w32 x3 = 0) → (
      wp_X12_above x3 M (fun r37 =>
      K27 r37)))))))
def wp_X12_taken_L27 (a0 : Nat) (Q : Int → Prop) (M : Mem) (x1 : Int) (x2 : Int) (x3 : Int) : Prop :=
  ∃ (I : Int → Prop) (μ : Int → Nat), I x3 ∧ ∀ (x3 : Int), I x3 →
    wp_X12_taken_B27 a0 Q (fun x3' => I x3' ∧ μ x3' < μ x3) M x1 x2 x3
def wp_X12_taken (a0 : Nat) (a1 : Int) (a2 : Int) (M : Mem) (Q : Int → Prop) : Prop :=
  wp_X12_isBond a0 a1 M (fun r2 =>
  ((r2 = false → (
    Q (-2))) ∧
  (r2 = true → (
    wp_X12_within a2 0 5 M (fun r11 =>
    ((r11 = true → (
      wp_X12_of a0 a1 0 M (fun r23 =>
      wp_X12_taken_L27 a0 Q M a1 a2 r23))) ∧
    (r11 = false → (
      Q (-2)))))))))
set_option maxRecDepth 100000 in
set_option maxHeartbeats 4000000 in
theorem bk_X12_taken_44 {g : En} {p : Program} {l : Launch} {e : Env} {s : State} {m : MethodId} {args : Array Value} {below : List Frame} {meth : Method} {c : Code} {M : Mem} {a0 : Nat} {Q : Int → Prop} {x1 : Int} {x2 : Int} {x3 : Int} (F : Fx g p s m args meth c cX12_taken 4 RX12) (hr : meth.sig.returnType = (some .int)) (k0 : kd a0 = 12)
    (hw : wp_X12_taken_b44 a0 Q M x1 x2 x3) : Z g p l e rm_X12_taken s m args below meth c 4 (MQ below (va_Qi (S := Int × Mem) (fun r u => r = i3 u.1 ∧ (u.2 = M ∧ Q u.1)) (fun u => Rp g u.2) (aR g)) args s 0 0 (aR g)) M 44 [(0, .ref (g.2.2.1 + a0)), (1, .int (i3 x1)), (2, .int (i3 x2)), (3, .int (i3 x3))] [] := by
  refine z_iload_n F dX12_taken_44 rfl rfl 3 rfl ?_
  refine z_iload_n F dX12_taken_45 rfl rfl 2 rfl ?_
  refine z_icmp_ne F dX12_taken_46 rfl rfl hw (fun hw => ?_) (fun hw => ?_)
  · refine z_bipush F dX12_taken_58 (by decide) rfl ?_
    exact z_iretp (x := (-13)) F hr dX12_taken_60 hw
  · refine z_aload_n F dX12_taken_49 rfl rfl 0 rfl ?_
    refine z_iload_n F dX12_taken_50 rfl rfl 1 rfl ?_
    refine z_iconst F dX12_taken_51 rfl ?_
    refine z_cVip (As := [.int (i3 x1), .int (i3 1)]) (st := []) F (c_X12_of l g k0 hw) cv_X12_of w_1155 ⟨rfl, rfl, Nat.le_of_ble_eq_true rfl, Nat.le_of_ble_eq_true rfl⟩ k0 rfl rfl (Nat.le_of_ble_eq_true rfl) dX12_taken_52 rfl (fun r52 hw => ?_)
    refine z_goto F dX12_taken_55 rfl ?_
    exact z_iretp (x := r52) F hr dX12_taken_60 hw
set_option maxRecDepth 100000 in
set_option maxHeartbeats 4000000 in
theorem bk_X12_taken_B27 {g : En} {p : Program} {l : Launch} {e : Env} {s : State} {m : MethodId} {args : Array Value} {below : List Frame} {meth : Method} {c : Code} {M : Mem} {a0 : Nat} {Q : Int → Prop} {K27 : Int → Prop} {x1 : Int} {x2 : Int} {x3 : Int} (F : Fx g p s m args meth c cX12_taken 4 RX12) (hr : meth.sig.returnType = (some .int)) (k0 : kd a0 = 12)
    (hK27 : ∀ (x3' : Int), K27 x3' → Z g p l e rm_X12_taken s m args below meth c 4 (MQ below (va_Qi (S := Int × Mem) (fun r u => r = i3 u.1 ∧ (u.2 = M ∧ Q u.1)) (fun u => Rp g u.2) (aR g)) args s 0 0 (aR g)) M 27 [(0, .ref (g.2.2.1 + a0)), (1, .int (i3 x1)), (2, .int (i3 x2)), (3, .int (i3 x3'))] [])
    (hw : wp_X12_taken_B27 a0 Q K27 M x1 x2 x3) : Z g p l e rm_X12_taken s m args below meth c 4 (MQ below (va_Qi (S := Int × Mem) (fun r u => r = i3 u.1 ∧ (u.2 = M ∧ Q u.1)) (fun u => Rp g u.2) (aR g)) args s 0 0 (aR g)) M 27 [(0, .ref (g.2.2.1 + a0)), (1, .int (i3 x1)), (2, .int (i3 x2)), (3, .int (i3 x3))] [] := by
  refine z_iload_n F dX12_taken_27 rfl rfl 3 rfl ?_
  refine z_iload_n F dX12_taken_28 rfl rfl 2 rfl ?_
  refine z_icmp_eq F dX12_taken_29 rfl rfl hw (fun hw => ?_) (fun hw => ?_)
  · refine z_sub [0, 1, 2, 3] rfl ?_
    exact bk_X12_taken_44 F hr k0 hw
  · refine z_iload_n F dX12_taken_32 rfl rfl 3 rfl ?_
    refine z_if_eq F dX12_taken_33 rfl rfl hw (fun hw => ?_) (fun hw => ?_)
    · refine z_sub [0, 1, 2, 3] rfl ?_
      exact bk_X12_taken_44 F hr k0 hw
    · refine z_iload_n F dX12_taken_36 rfl rfl 3 rfl ?_
      refine z_cSip (As := [.int (i3 x3)]) (st := []) F (c_X12_above l g hw) cs_X12_above w_1199 ⟨rfl, rfl, Nat.le_of_ble_eq_true rfl, Nat.le_of_ble_eq_true rfl⟩ rfl (Nat.le_of_ble_eq_true rfl) dX12_taken_37 rfl (fun r37 hw => ?_)
      refine z_istore_n F dX12_taken_40 rfl rfl (by decide) rfl ?_
      refine z_goto F dX12_taken_41 rfl ?_
      refine z_sub [1, 2, 3, 0] rfl ?_
      exact hK27 r37 hw
set_option maxRecDepth 100000 in
set_option maxHeartbeats 4000000 in
theorem lp_X12_taken_27 {g : En} {p : Program} {l : Launch} {e : Env} {s : State} {m : MethodId} {args : Array Value} {below : List Frame} {meth : Method} {c : Code} {M : Mem} {a0 : Nat} {Q : Int → Prop} {x1 : Int} {x2 : Int} {x3 : Int} (F : Fx g p s m args meth c cX12_taken 4 RX12) (hr : meth.sig.returnType = (some .int)) (k0 : kd a0 = 12)
    (hw : wp_X12_taken_L27 a0 Q M x1 x2 x3) : Z g p l e rm_X12_taken s m args below meth c 4 (MQ below (va_Qi (S := Int × Mem) (fun r u => r = i3 u.1 ∧ (u.2 = M ∧ Q u.1)) (fun u => Rp g u.2) (aR g)) args s 0 0 (aR g)) M 27 [(0, .ref (g.2.2.1 + a0)), (1, .int (i3 x1)), (2, .int (i3 x2)), (3, .int (i3 x3))] [] := by
  obtain ⟨I, μ, h0, hb⟩ := hw
  have key : ∀ (n : Nat) (x3 : Int), I x3 → μ x3 < n → Z g p l e rm_X12_taken s m args below meth c 4 (MQ below (va_Qi (S := Int × Mem) (fun r u => r = i3 u.1 ∧ (u.2 = M ∧ Q u.1)) (fun u => Rp g u.2) (aR g)) args s 0 0 (aR g)) M 27 [(0, .ref (g.2.2.1 + a0)), (1, .int (i3 x1)), (2, .int (i3 x2)), (3, .int (i3 x3))] [] := by
    intro n
    induction n with
    | zero => exact fun _ _ h => absurd h (Nat.not_lt_zero _)
    | succ n ih =>
      intro x3 hI hn
      exact bk_X12_taken_B27 F hr k0 (fun x3' hk => ih x3' hk.1 (Nat.lt_of_lt_of_le hk.2 (Nat.le_of_lt_succ hn))) (hb x3 hI)
  exact key _ x3 h0 (Nat.lt_succ_self _)
set_option maxRecDepth 100000 in
set_option maxHeartbeats 4000000 in
theorem c_X12_taken (l : Launch) (g : En) {a0 : Nat} {a1 : Int} {a2 : Int} {M : Mem} {Q : Int → Prop} (k0 : kd a0 = 12) (hw : wp_X12_taken a0 a1 a2 M Q) :
    Met l yX12_taken (WS yX12_taken cX12_taken 4 (some .int)) rm_X12_taken (va_Pc [.ref (g.2.2.1 + a0), .int (i3 a1), .int (i3 a2)] (Rp g M)) (va_Qi (S := Int × Mem) (fun r u => r = i3 u.1 ∧ (u.2 = M ∧ Q u.1)) (fun u => Rp g u.2) (aR g)) 0 0 (aR g) := by
  refine met_Z (plainFor_of_name rfl) (Nat.le_of_ble_eq_true rfl) ?_
  intro p e s m args below meth c F hr _
  show Z g p l e rm_X12_taken s m args below meth c 4 (MQ below (va_Qi (S := Int × Mem) (fun r u => r = i3 u.1 ∧ (u.2 = M ∧ Q u.1)) (fun u => Rp g u.2) (aR g)) args s 0 0 (aR g)) M 0 [(0, .ref (g.2.2.1 + a0)), (1, .int (i3 a1)), (2, .int (i3 a2))] []
  refine z_aload_n F dX12_taken_0 rfl rfl 0 rfl ?_
  refine z_iload_n F dX12_taken_1 rfl rfl 1 rfl ?_
  refine z_cVbp (As := [.int (i3 a1)]) (st := []) F (c_X12_isBond l g k0 hw) cv_X12_isBond w_1151 ⟨rfl, rfl, Nat.le_of_ble_eq_true rfl, Nat.le_of_ble_eq_true rfl⟩ k0 rfl rfl (Nat.le_of_ble_eq_true rfl) dX12_taken_2 rfl (fun r2 hw => ?_)
  refine z_ifb_eq F dX12_taken_5 rfl rfl hw (fun hw => ?_) (fun hw => ?_)
  · refine z_bipush F dX12_taken_17 (by decide) rfl ?_
    exact z_iretp (x := (-2)) F hr dX12_taken_19 hw
  · refine z_iload_n F dX12_taken_8 rfl rfl 2 rfl ?_
    refine z_iconst F dX12_taken_9 rfl ?_
    refine z_iconst F dX12_taken_10 rfl ?_
    refine z_cSbp (As := [.int (i3 a2), .int (i3 0), .int (i3 5)]) (st := []) F (c_X12_within l g hw) cs_X12_within w_1102 ⟨rfl, rfl, Nat.le_of_ble_eq_true rfl, Nat.le_of_ble_eq_true rfl⟩ rfl (Nat.le_of_ble_eq_true rfl) dX12_taken_11 rfl (fun r11 hw => ?_)
    refine z_ifb_ne F dX12_taken_14 rfl rfl hw (fun hw => ?_) (fun hw => ?_)
    · refine z_aload_n F dX12_taken_20 rfl rfl 0 rfl ?_
      refine z_iload_n F dX12_taken_21 rfl rfl 1 rfl ?_
      refine z_iconst F dX12_taken_22 rfl ?_
      refine z_cVip (As := [.int (i3 a1), .int (i3 0)]) (st := []) F (c_X12_of l g k0 hw) cv_X12_of w_1155 ⟨rfl, rfl, Nat.le_of_ble_eq_true rfl, Nat.le_of_ble_eq_true rfl⟩ k0 rfl rfl (Nat.le_of_ble_eq_true rfl) dX12_taken_23 rfl (fun r23 hw => ?_)
      refine z_istore_n F dX12_taken_26 rfl rfl (by decide) rfl ?_
      refine z_sub [1, 2, 3, 0] rfl ?_
      exact lp_X12_taken_27 F hr k0 hw
    · refine z_bipush F dX12_taken_17 (by decide) rfl ?_
      exact z_iretp (x := (-2)) F hr dX12_taken_19 hw
theorem cv_X12_taken : CV yX12_taken RX12 cX12_taken 4 (some .int) 2 := ⟨w_1196, w_1197, w_80, w_1198, rfl, by decide +kernel, by decide +kernel, by decide +kernel⟩
abbrev rm_X12_isAhead : Room := { frames := 6, cells := 0, slots := 0, locals := 141 }
def wp_X12_isAhead (a0 : Nat) (a1 : Int) (a2 : Int) (a3 : Int) (M : Mem) (Q : Bool → Prop) : Prop :=
  ((w32 a1 = 0 → (
    wp_X12_of a0 a2 1 M (fun r31 =>
    wp_X12_of a0 a3 1 M (fun r37 =>
    (((w32 r37 ≤ w32 r31) → (
      Q false)) ∧
    (¬ (w32 r37 ≤ w32 r31) → (
      Q true))))))) ∧
  (w32 a1 = 1 → (
    wp_X12_allOf a0 a2 M (fun r51 =>
    (((w32 r51 ≤ 0) → (
      Q false)) ∧
    (¬ (w32 r51 ≤ 0) → (
      wp_X12_allOf a0 a3 M (fun r59 =>
      (((w32 r59 = 0) → (
        Q true)) ∧
      (¬ (w32 r59 = 0) → (
        wp_X12_of a0 a2 1 M (fun r68 =>
        wp_X12_allOf a0 a3 M (fun r73 =>
        wp_X12_of a0 a3 1 M (fun r80 =>
        wp_X12_allOf a0 a2 M (fun r85 =>
        (((w32 (r80 * r85) ≤ w32 (r68 * r73)) → (
          Q false)) ∧
        (¬ (w32 (r80 * r85) ≤ w32 (r68 * r73)) → (
          Q true))))))))))))))))) ∧
  (w32 a1 = 2 → (
    wp_X12_of a0 a2 4 M (fun r101 =>
    wp_X12_of a0 a3 4 M (fun r107 =>
    (((w32 r101 ≤ w32 r107) → (
      Q false)) ∧
    (¬ (w32 r101 ≤ w32 r107) → (
      Q true))))))) ∧
  ((w32 a1 < 0 ∨ 2 < w32 a1) → (
    wp_X12_of a0 a2 2 M (fun r122 =>
    wp_X12_of a0 a3 2 M (fun r128 =>
    (((w32 r122 ≤ w32 r128) → (
      Q false)) ∧
    (¬ (w32 r122 ≤ w32 r128) → (
      Q true))))))))
set_option maxRecDepth 100000 in
set_option maxHeartbeats 4000000 in
theorem c_X12_isAhead (l : Launch) (g : En) {a0 : Nat} {a1 : Int} {a2 : Int} {a3 : Int} {M : Mem} {Q : Bool → Prop} (k0 : kd a0 = 12) (hw : wp_X12_isAhead a0 a1 a2 a3 M Q) :
    Met l yX12_isAhead (WS yX12_isAhead cX12_isAhead 4 (some .boolean)) rm_X12_isAhead (va_Pc [.ref (g.2.2.1 + a0), .int (i3 a1), .int (i3 a2), .int (i3 a3)] (Rp g M)) (va_Qi (S := Bool × Mem) (fun r u => r = i3 (bz u.1) ∧ (u.2 = M ∧ Q u.1)) (fun u => Rp g u.2) (aR g)) 0 0 (aR g) := by
  refine met_Z (plainFor_of_name rfl) (Nat.le_of_ble_eq_true rfl) ?_
  intro p e s m args below meth c F hr _
  show Z g p l e rm_X12_isAhead s m args below meth c 4 (MQ below (va_Qi (S := Bool × Mem) (fun r u => r = i3 (bz u.1) ∧ (u.2 = M ∧ Q u.1)) (fun u => Rp g u.2) (aR g)) args s 0 0 (aR g)) M 0 [(0, .ref (g.2.2.1 + a0)), (1, .int (i3 a1)), (2, .int (i3 a2)), (3, .int (i3 a3))] []
  refine z_iload_n F dX12_isAhead_0 rfl rfl 1 rfl ?_
  by_cases e1_0 : w32 a1 = 0
  · refine z_swcase F 0 dX12_isAhead_1 e1_0 (by decide) (by decide) rfl rfl ?_
    have hw := hw.1 e1_0
    refine z_aload_n F dX12_isAhead_28 rfl rfl 0 rfl ?_
    refine z_iload_n F dX12_isAhead_29 rfl rfl 2 rfl ?_
    refine z_iconst F dX12_isAhead_30 rfl ?_
    refine z_cVip (As := [.int (i3 a2), .int (i3 1)]) (st := []) F (c_X12_of l g k0 hw) cv_X12_of w_1155 ⟨rfl, rfl, Nat.le_of_ble_eq_true rfl, Nat.le_of_ble_eq_true rfl⟩ k0 rfl rfl (Nat.le_of_ble_eq_true rfl) dX12_isAhead_31 rfl (fun r31 hw => ?_)
    refine z_aload_n F dX12_isAhead_34 rfl rfl 0 rfl ?_
    refine z_iload_n F dX12_isAhead_35 rfl rfl 3 rfl ?_
    refine z_iconst F dX12_isAhead_36 rfl ?_
    refine z_cVip (As := [.int (i3 a3), .int (i3 1)]) (st := [.int (i3 r31)]) F (c_X12_of l g k0 hw) cv_X12_of w_1155 ⟨rfl, rfl, Nat.le_of_ble_eq_true rfl, Nat.le_of_ble_eq_true rfl⟩ k0 rfl rfl (Nat.le_of_ble_eq_true rfl) dX12_isAhead_37 rfl (fun r37 hw => ?_)
    refine z_icmp_ge F dX12_isAhead_40 rfl rfl hw (fun hw => ?_) (fun hw => ?_)
    · refine z_iconst F dX12_isAhead_47 rfl ?_
      exact z_zretp (x := false) F hr dX12_isAhead_48 hw
    · refine z_iconst F dX12_isAhead_43 rfl ?_
      refine z_goto F dX12_isAhead_44 rfl ?_
      exact z_zretp (x := true) F hr dX12_isAhead_48 hw
  · skip
    by_cases e1_1 : w32 a1 = 1
    · refine z_swcase F 1 dX12_isAhead_1 e1_1 (by decide) (by decide) rfl rfl ?_
      have hw := hw.2.1 e1_1
      refine z_aload_n F dX12_isAhead_49 rfl rfl 0 rfl ?_
      refine z_iload_n F dX12_isAhead_50 rfl rfl 2 rfl ?_
      refine z_cVip (As := [.int (i3 a2)]) (st := []) F (c_X12_allOf l g k0 hw) cv_X12_allOf w_1183 ⟨rfl, rfl, Nat.le_of_ble_eq_true rfl, Nat.le_of_ble_eq_true rfl⟩ k0 rfl rfl (Nat.le_of_ble_eq_true rfl) dX12_isAhead_51 rfl (fun r51 hw => ?_)
      refine z_if_le F dX12_isAhead_54 rfl rfl hw (fun hw => ?_) (fun hw => ?_)
      · refine z_iconst F dX12_isAhead_96 rfl ?_
        exact z_zretp (x := false) F hr dX12_isAhead_97 hw
      · refine z_aload_n F dX12_isAhead_57 rfl rfl 0 rfl ?_
        refine z_iload_n F dX12_isAhead_58 rfl rfl 3 rfl ?_
        refine z_cVip (As := [.int (i3 a3)]) (st := []) F (c_X12_allOf l g k0 hw) cv_X12_allOf w_1183 ⟨rfl, rfl, Nat.le_of_ble_eq_true rfl, Nat.le_of_ble_eq_true rfl⟩ k0 rfl rfl (Nat.le_of_ble_eq_true rfl) dX12_isAhead_59 rfl (fun r59 hw => ?_)
        refine z_if_eq F dX12_isAhead_62 rfl rfl hw (fun hw => ?_) (fun hw => ?_)
        · refine z_iconst F dX12_isAhead_92 rfl ?_
          refine z_goto F dX12_isAhead_93 rfl ?_
          exact z_zretp (x := true) F hr dX12_isAhead_97 hw
        · refine z_aload_n F dX12_isAhead_65 rfl rfl 0 rfl ?_
          refine z_iload_n F dX12_isAhead_66 rfl rfl 2 rfl ?_
          refine z_iconst F dX12_isAhead_67 rfl ?_
          refine z_cVip (As := [.int (i3 a2), .int (i3 1)]) (st := []) F (c_X12_of l g k0 hw) cv_X12_of w_1155 ⟨rfl, rfl, Nat.le_of_ble_eq_true rfl, Nat.le_of_ble_eq_true rfl⟩ k0 rfl rfl (Nat.le_of_ble_eq_true rfl) dX12_isAhead_68 rfl (fun r68 hw => ?_)
          refine z_aload_n F dX12_isAhead_71 rfl rfl 0 rfl ?_
          refine z_iload_n F dX12_isAhead_72 rfl rfl 3 rfl ?_
          refine z_cVip (As := [.int (i3 a3)]) (st := [.int (i3 r68)]) F (c_X12_allOf l g k0 hw) cv_X12_allOf w_1183 ⟨rfl, rfl, Nat.le_of_ble_eq_true rfl, Nat.le_of_ble_eq_true rfl⟩ k0 rfl rfl (Nat.le_of_ble_eq_true rfl) dX12_isAhead_73 rfl (fun r73 hw => ?_)
          refine z_imul F dX12_isAhead_76 rfl ?_
          refine z_aload_n F dX12_isAhead_77 rfl rfl 0 rfl ?_
          refine z_iload_n F dX12_isAhead_78 rfl rfl 3 rfl ?_
          refine z_iconst F dX12_isAhead_79 rfl ?_
          refine z_cVip (As := [.int (i3 a3), .int (i3 1)]) (st := [.int (i3 (r68 * r73))]) F (c_X12_of l g k0 hw) cv_X12_of w_1155 ⟨rfl, rfl, Nat.le_of_ble_eq_true rfl, Nat.le_of_ble_eq_true rfl⟩ k0 rfl rfl (Nat.le_of_ble_eq_true rfl) dX12_isAhead_80 rfl (fun r80 hw => ?_)
          refine z_aload_n F dX12_isAhead_83 rfl rfl 0 rfl ?_
          refine z_iload_n F dX12_isAhead_84 rfl rfl 2 rfl ?_
          refine z_cVip (As := [.int (i3 a2)]) (st := [.int (i3 r80), .int (i3 (r68 * r73))]) F (c_X12_allOf l g k0 hw) cv_X12_allOf w_1183 ⟨rfl, rfl, Nat.le_of_ble_eq_true rfl, Nat.le_of_ble_eq_true rfl⟩ k0 rfl rfl (Nat.le_of_ble_eq_true rfl) dX12_isAhead_85 rfl (fun r85 hw => ?_)
          refine z_imul F dX12_isAhead_88 rfl ?_
          refine z_icmp_ge F dX12_isAhead_89 rfl rfl hw (fun hw => ?_) (fun hw => ?_)
          · refine z_iconst F dX12_isAhead_96 rfl ?_
            exact z_zretp (x := false) F hr dX12_isAhead_97 hw
          · refine z_iconst F dX12_isAhead_92 rfl ?_
            refine z_goto F dX12_isAhead_93 rfl ?_
            exact z_zretp (x := true) F hr dX12_isAhead_97 hw
    · skip
      by_cases e1_2 : w32 a1 = 2
      · refine z_swcase F 2 dX12_isAhead_1 e1_2 (by decide) (by decide) rfl rfl ?_
        have hw := hw.2.2.1 e1_2
        refine z_aload_n F dX12_isAhead_98 rfl rfl 0 rfl ?_
        refine z_iload_n F dX12_isAhead_99 rfl rfl 2 rfl ?_
        refine z_iconst F dX12_isAhead_100 rfl ?_
        refine z_cVip (As := [.int (i3 a2), .int (i3 4)]) (st := []) F (c_X12_of l g k0 hw) cv_X12_of w_1155 ⟨rfl, rfl, Nat.le_of_ble_eq_true rfl, Nat.le_of_ble_eq_true rfl⟩ k0 rfl rfl (Nat.le_of_ble_eq_true rfl) dX12_isAhead_101 rfl (fun r101 hw => ?_)
        refine z_aload_n F dX12_isAhead_104 rfl rfl 0 rfl ?_
        refine z_iload_n F dX12_isAhead_105 rfl rfl 3 rfl ?_
        refine z_iconst F dX12_isAhead_106 rfl ?_
        refine z_cVip (As := [.int (i3 a3), .int (i3 4)]) (st := [.int (i3 r101)]) F (c_X12_of l g k0 hw) cv_X12_of w_1155 ⟨rfl, rfl, Nat.le_of_ble_eq_true rfl, Nat.le_of_ble_eq_true rfl⟩ k0 rfl rfl (Nat.le_of_ble_eq_true rfl) dX12_isAhead_107 rfl (fun r107 hw => ?_)
        refine z_icmp_le F dX12_isAhead_110 rfl rfl hw (fun hw => ?_) (fun hw => ?_)
        · refine z_iconst F dX12_isAhead_117 rfl ?_
          exact z_zretp (x := false) F hr dX12_isAhead_118 hw
        · refine z_iconst F dX12_isAhead_113 rfl ?_
          refine z_goto F dX12_isAhead_114 rfl ?_
          exact z_zretp (x := true) F hr dX12_isAhead_118 hw
      · skip
        have h9 : w32 a1 < 0 ∨ 2 < w32 a1 := by omega
        refine z_swout F dX12_isAhead_1 h9 rfl ?_
        have hw := hw.2.2.2 h9
        refine z_aload_n F dX12_isAhead_119 rfl rfl 0 rfl ?_
        refine z_iload_n F dX12_isAhead_120 rfl rfl 2 rfl ?_
        refine z_iconst F dX12_isAhead_121 rfl ?_
        refine z_cVip (As := [.int (i3 a2), .int (i3 2)]) (st := []) F (c_X12_of l g k0 hw) cv_X12_of w_1155 ⟨rfl, rfl, Nat.le_of_ble_eq_true rfl, Nat.le_of_ble_eq_true rfl⟩ k0 rfl rfl (Nat.le_of_ble_eq_true rfl) dX12_isAhead_122 rfl (fun r122 hw => ?_)
        refine z_aload_n F dX12_isAhead_125 rfl rfl 0 rfl ?_
        refine z_iload_n F dX12_isAhead_126 rfl rfl 3 rfl ?_
        refine z_iconst F dX12_isAhead_127 rfl ?_
        refine z_cVip (As := [.int (i3 a3), .int (i3 2)]) (st := [.int (i3 r122)]) F (c_X12_of l g k0 hw) cv_X12_of w_1155 ⟨rfl, rfl, Nat.le_of_ble_eq_true rfl, Nat.le_of_ble_eq_true rfl⟩ k0 rfl rfl (Nat.le_of_ble_eq_true rfl) dX12_isAhead_128 rfl (fun r128 hw => ?_)
        refine z_icmp_le F dX12_isAhead_131 rfl rfl hw (fun hw => ?_) (fun hw => ?_)
        · refine z_iconst F dX12_isAhead_138 rfl ?_
          exact z_zretp (x := false) F hr dX12_isAhead_139 hw
        · refine z_iconst F dX12_isAhead_134 rfl ?_
          refine z_goto F dX12_isAhead_135 rfl ?_
          exact z_zretp (x := true) F hr dX12_isAhead_139 hw
theorem cv_X12_isAhead : CV yX12_isAhead RX12 cX12_isAhead 4 (some .boolean) 3 := ⟨w_1212, w_35, w_80, w_1213, rfl, by decide +kernel, by decide +kernel, by decide +kernel⟩
abbrev rm_X12_ranks : Room := { frames := 7, cells := 0, slots := 0, locals := 164 }
def wp_X12_ranks_b53 (a0 : Nat) (Q : Mem → Prop) (K2 : Mem → Int → Prop) (M : Mem) (x1 : Int) (x2 : Int) (x3 : Int) : Prop :=
  inb (rt a0 22) x3 ∧ (
  ∀ M59 : Mem, M59 = st2 M (rt a0 22) (ix x3) x2 →
  K2 M59 (x2 + 1))
def wp_X12_ranks_B12 (a0 : Nat) (Q : Mem → Prop) (K12 : Mem → Int → Prop) (K2 : Mem → Int → Prop) (M : Mem) (x1 : Int) (x2 : Int) (x3 : Int) : Prop :=
  (((w32 x3 ≤ 0) → (
    wp_X12_ranks_b53 a0 Q K2 M x1 x2 x3)) ∧
  (¬ (w32 x3 ≤ 0) → (
    inb (rt a0 22) (x3 - 1) ∧ (
    wp_X12_isAhead a0 x1 x2 (M (rt a0 22) (ix (x3 - 1))) M (fun r27 =>
    ((r27 = false → (
      wp_X12_ranks_b53 a0 Q K2 M x1 x2 x3)) ∧
    (r27 = true → (
      inb (rt a0 22) (x3 - 1) ∧ (
      inb (rt a0 22) x3 ∧ (
      ∀ M46 : Mem, M46 = st2 M (rt a0 22) (ix x3) (M (rt a0 22) (ix (x3 - 1))) →
      K12 M46 (x3 + (-1))))))))))))
def wp_X12_ranks_L12 (a0 : Nat) (Q : Mem → Prop) (K2 : Mem → Int → Prop) (M : Mem) (x1 : Int) (x2 : Int) (x3 : Int) : Prop :=
  ∃ (I : Mem → Int → Prop) (μ : Mem → Int → Nat), I M x3 ∧ ∀ (M : Mem) (x3 : Int), I M x3 →
    wp_X12_ranks_B12 a0 Q (fun M' x3' => I M' x3' ∧ μ M' x3' < μ M x3) K2 M x1 x2 x3
def wp_X12_ranks_B2 (a0 : Nat) (Q : Mem → Prop) (K2 : Mem → Int → Prop) (M : Mem) (x1 : Int) (x2 : Int) : Prop :=
  (((w32 (M a0 3) ≤ w32 x2) → (
    Q M)) ∧
  (¬ (w32 (M a0 3) ≤ w32 x2) → (
    wp_X12_ranks_L12 a0 Q K2 M x1 x2 x2)))
def wp_X12_ranks_L2 (a0 : Nat) (Q : Mem → Prop) (M : Mem) (x1 : Int) (x2 : Int) : Prop :=
  ∃ (I : Mem → Int → Prop) (μ : Mem → Int → Nat), I M x2 ∧ ∀ (M : Mem) (x2 : Int), I M x2 →
    wp_X12_ranks_B2 a0 Q (fun M' x2' => I M' x2' ∧ μ M' x2' < μ M x2) M x1 x2
def wp_X12_ranks (a0 : Nat) (a1 : Int) (M : Mem) (Q : Mem → Prop) : Prop :=
  wp_X12_ranks_L2 a0 Q M a1 0
set_option maxRecDepth 100000 in
set_option maxHeartbeats 4000000 in
theorem bk_X12_ranks_53 {g : En} {p : Program} {l : Launch} {e : Env} {s : State} {m : MethodId} {args : Array Value} {below : List Frame} {meth : Method} {c : Code} {M : Mem} {a0 : Nat} {Q : Mem → Prop} {K2 : Mem → Int → Prop} {x1 : Int} {x2 : Int} {x3 : Int} (F : Fx g p s m args meth c cX12_ranks 4 RX12) (hr : meth.sig.returnType = none) (k0 : kd a0 = 12)
    (hK2 : ∀ (M' : Mem) (x2' : Int), K2 M' x2' → Z g p l e rm_X12_ranks s m args below meth c 4 (MQ below (va_Qv (S := Mem) Q (fun u => Rp g u) (aR g)) args s 0 0 (aR g)) M' 2 [(0, .ref (g.2.2.1 + a0)), (1, .int (i3 x1)), (2, .int (i3 x2'))] [])
    (hw : wp_X12_ranks_b53 a0 Q K2 M x1 x2 x3) : Z g p l e rm_X12_ranks s m args below meth c 4 (MQ below (va_Qv (S := Mem) Q (fun u => Rp g u) (aR g)) args s 0 0 (aR g)) M 53 [(0, .ref (g.2.2.1 + a0)), (1, .int (i3 x1)), (2, .int (i3 x2)), (3, .int (i3 x3))] [] := by
  refine z_aload_n F dX12_ranks_53 rfl rfl 0 rfl ?_
  refine z_getR F fl_1014 k0 dX12_ranks_54 rfl ?_
  refine z_iload_n F dX12_ranks_57 rfl rfl 3 rfl ?_
  refine z_iload_n F dX12_ranks_58 rfl rfl 2 rfl ?_
  refine z_iast F (tk_12_22 k0) dX12_ranks_59 rfl hw (fun hw => ?_)
  refine z_nmM (fun M59 eM59 => ?_)
  have hw := hw M59 eM59
  refine z_iinc F dX12_ranks_60 rfl 2 rfl (by decide) rfl ?_
  refine z_goto F dX12_ranks_63 rfl ?_
  refine z_sub [1, 2, 0] rfl ?_
  exact hK2 M59 (x2 + 1) hw
set_option maxRecDepth 100000 in
set_option maxHeartbeats 4000000 in
theorem bk_X12_ranks_B12 {g : En} {p : Program} {l : Launch} {e : Env} {s : State} {m : MethodId} {args : Array Value} {below : List Frame} {meth : Method} {c : Code} {M : Mem} {a0 : Nat} {Q : Mem → Prop} {K12 : Mem → Int → Prop} {K2 : Mem → Int → Prop} {x1 : Int} {x2 : Int} {x3 : Int} (F : Fx g p s m args meth c cX12_ranks 4 RX12) (hr : meth.sig.returnType = none) (k0 : kd a0 = 12)
    (hK12 : ∀ (M' : Mem) (x3' : Int), K12 M' x3' → Z g p l e rm_X12_ranks s m args below meth c 4 (MQ below (va_Qv (S := Mem) Q (fun u => Rp g u) (aR g)) args s 0 0 (aR g)) M' 12 [(0, .ref (g.2.2.1 + a0)), (1, .int (i3 x1)), (2, .int (i3 x2)), (3, .int (i3 x3'))] [])
    (hK2 : ∀ (M' : Mem) (x2' : Int), K2 M' x2' → Z g p l e rm_X12_ranks s m args below meth c 4 (MQ below (va_Qv (S := Mem) Q (fun u => Rp g u) (aR g)) args s 0 0 (aR g)) M' 2 [(0, .ref (g.2.2.1 + a0)), (1, .int (i3 x1)), (2, .int (i3 x2'))] [])
    (hw : wp_X12_ranks_B12 a0 Q K12 K2 M x1 x2 x3) : Z g p l e rm_X12_ranks s m args below meth c 4 (MQ below (va_Qv (S := Mem) Q (fun u => Rp g u) (aR g)) args s 0 0 (aR g)) M 12 [(0, .ref (g.2.2.1 + a0)), (1, .int (i3 x1)), (2, .int (i3 x2)), (3, .int (i3 x3))] [] := by
  refine z_iload_n F dX12_ranks_12 rfl rfl 3 rfl ?_
  refine z_if_le F dX12_ranks_13 rfl rfl hw (fun hw => ?_) (fun hw => ?_)
  · refine z_sub [0, 1, 2, 3] rfl ?_
    exact bk_X12_ranks_53 F hr k0 hK2 hw
  · refine z_aload_n F dX12_ranks_16 rfl rfl 0 rfl ?_
    refine z_iload_n F dX12_ranks_17 rfl rfl 1 rfl ?_
    refine z_iload_n F dX12_ranks_18 rfl rfl 2 rfl ?_
    refine z_aload_n F dX12_ranks_19 rfl rfl 0 rfl ?_
    refine z_getR F fl_1014 k0 dX12_ranks_20 rfl ?_
    refine z_iload_n F dX12_ranks_23 rfl rfl 3 rfl ?_
    refine z_iconst F dX12_ranks_24 rfl ?_
    refine z_isub F dX12_ranks_25 rfl ?_
    refine z_iald F (tk_12_22 k0) dX12_ranks_26 rfl hw (fun hw => ?_)
    refine z_cVbp (As := [.int (i3 x1), .int (i3 x2), .int (i3 (M (rt a0 22) (ix (x3 - 1))))]) (st := []) F (c_X12_isAhead l g k0 hw) cv_X12_isAhead w_1210 ⟨rfl, rfl, Nat.le_of_ble_eq_true rfl, Nat.le_of_ble_eq_true rfl⟩ k0 rfl rfl (Nat.le_of_ble_eq_true rfl) dX12_ranks_27 rfl (fun r27 hw => ?_)
    refine z_ifb_eq F dX12_ranks_30 rfl rfl hw (fun hw => ?_) (fun hw => ?_)
    · refine z_sub [0, 1, 2, 3] rfl ?_
      exact bk_X12_ranks_53 F hr k0 hK2 hw
    · refine z_aload_n F dX12_ranks_33 rfl rfl 0 rfl ?_
      refine z_getR F fl_1014 k0 dX12_ranks_34 rfl ?_
      refine z_iload_n F dX12_ranks_37 rfl rfl 3 rfl ?_
      refine z_aload_n F dX12_ranks_38 rfl rfl 0 rfl ?_
      refine z_getR F fl_1014 k0 dX12_ranks_39 rfl ?_
      refine z_iload_n F dX12_ranks_42 rfl rfl 3 rfl ?_
      refine z_iconst F dX12_ranks_43 rfl ?_
      refine z_isub F dX12_ranks_44 rfl ?_
      refine z_iald F (tk_12_22 k0) dX12_ranks_45 rfl hw (fun hw => ?_)
      refine z_iast F (tk_12_22 k0) dX12_ranks_46 rfl hw (fun hw => ?_)
      refine z_nmM (fun M46 eM46 => ?_)
      have hw := hw M46 eM46
      refine z_iinc F dX12_ranks_47 rfl 3 rfl (by decide) rfl ?_
      refine z_goto F dX12_ranks_50 rfl ?_
      refine z_sub [1, 2, 3, 0] rfl ?_
      exact hK12 M46 (x3 + (-1)) hw
set_option maxRecDepth 100000 in
set_option maxHeartbeats 4000000 in
theorem lp_X12_ranks_12 {g : En} {p : Program} {l : Launch} {e : Env} {s : State} {m : MethodId} {args : Array Value} {below : List Frame} {meth : Method} {c : Code} {M : Mem} {a0 : Nat} {Q : Mem → Prop} {K2 : Mem → Int → Prop} {x1 : Int} {x2 : Int} {x3 : Int} (F : Fx g p s m args meth c cX12_ranks 4 RX12) (hr : meth.sig.returnType = none) (k0 : kd a0 = 12)
    (hK2 : ∀ (M' : Mem) (x2' : Int), K2 M' x2' → Z g p l e rm_X12_ranks s m args below meth c 4 (MQ below (va_Qv (S := Mem) Q (fun u => Rp g u) (aR g)) args s 0 0 (aR g)) M' 2 [(0, .ref (g.2.2.1 + a0)), (1, .int (i3 x1)), (2, .int (i3 x2'))] [])
    (hw : wp_X12_ranks_L12 a0 Q K2 M x1 x2 x3) : Z g p l e rm_X12_ranks s m args below meth c 4 (MQ below (va_Qv (S := Mem) Q (fun u => Rp g u) (aR g)) args s 0 0 (aR g)) M 12 [(0, .ref (g.2.2.1 + a0)), (1, .int (i3 x1)), (2, .int (i3 x2)), (3, .int (i3 x3))] [] := by
  obtain ⟨I, μ, h0, hb⟩ := hw
  have key : ∀ (n : Nat) (M : Mem) (x3 : Int), I M x3 → μ M x3 < n → Z g p l e rm_X12_ranks s m args below meth c 4 (MQ below (va_Qv (S := Mem) Q (fun u => Rp g u) (aR g)) args s 0 0 (aR g)) M 12 [(0, .ref (g.2.2.1 + a0)), (1, .int (i3 x1)), (2, .int (i3 x2)), (3, .int (i3 x3))] [] := by
    intro n
    induction n with
    | zero => exact fun _ _ _ h => absurd h (Nat.not_lt_zero _)
    | succ n ih =>
      intro M x3 hI hn
      exact bk_X12_ranks_B12 F hr k0 (fun M' x3' hk => ih M' x3' hk.1 (Nat.lt_of_lt_of_le hk.2 (Nat.le_of_lt_succ hn))) hK2 (hb M x3 hI)
  exact key _ M x3 h0 (Nat.lt_succ_self _)
set_option maxRecDepth 100000 in
set_option maxHeartbeats 4000000 in
theorem bk_X12_ranks_B2 {g : En} {p : Program} {l : Launch} {e : Env} {s : State} {m : MethodId} {args : Array Value} {below : List Frame} {meth : Method} {c : Code} {M : Mem} {a0 : Nat} {Q : Mem → Prop} {K2 : Mem → Int → Prop} {x1 : Int} {x2 : Int} (F : Fx g p s m args meth c cX12_ranks 4 RX12) (hr : meth.sig.returnType = none) (k0 : kd a0 = 12)
    (hK2 : ∀ (M' : Mem) (x2' : Int), K2 M' x2' → Z g p l e rm_X12_ranks s m args below meth c 4 (MQ below (va_Qv (S := Mem) Q (fun u => Rp g u) (aR g)) args s 0 0 (aR g)) M' 2 [(0, .ref (g.2.2.1 + a0)), (1, .int (i3 x1)), (2, .int (i3 x2'))] [])
    (hw : wp_X12_ranks_B2 a0 Q K2 M x1 x2) : Z g p l e rm_X12_ranks s m args below meth c 4 (MQ below (va_Qv (S := Mem) Q (fun u => Rp g u) (aR g)) args s 0 0 (aR g)) M 2 [(0, .ref (g.2.2.1 + a0)), (1, .int (i3 x1)), (2, .int (i3 x2))] [] := by
  refine z_iload_n F dX12_ranks_2 rfl rfl 2 rfl ?_
  refine z_aload_n F dX12_ranks_3 rfl rfl 0 rfl ?_
  refine z_getI F fl_995 k0 dX12_ranks_4 rfl ?_
  refine z_icmp_ge F dX12_ranks_7 rfl rfl hw (fun hw => ?_) (fun hw => ?_)
  · exact z_vret F hr dX12_ranks_66 hw
  · refine z_iload_n F dX12_ranks_10 rfl rfl 2 rfl ?_
    refine z_istore_n F dX12_ranks_11 rfl rfl (by decide) rfl ?_
    refine z_sub [1, 2, 3, 0] rfl ?_
    exact lp_X12_ranks_12 F hr k0 hK2 hw
set_option maxRecDepth 100000 in
set_option maxHeartbeats 4000000 in
theorem lp_X12_ranks_2 {g : En} {p : Program} {l : Launch} {e : Env} {s : State} {m : MethodId} {args : Array Value} {below : List Frame} {meth : Method} {c : Code} {M : Mem} {a0 : Nat} {Q : Mem → Prop} {x1 : Int} {x2 : Int} (F : Fx g p s m args meth c cX12_ranks 4 RX12) (hr : meth.sig.returnType = none) (k0 : kd a0 = 12)
    (hw : wp_X12_ranks_L2 a0 Q M x1 x2) : Z g p l e rm_X12_ranks s m args below meth c 4 (MQ below (va_Qv (S := Mem) Q (fun u => Rp g u) (aR g)) args s 0 0 (aR g)) M 2 [(0, .ref (g.2.2.1 + a0)), (1, .int (i3 x1)), (2, .int (i3 x2))] [] := by
  obtain ⟨I, μ, h0, hb⟩ := hw
  have key : ∀ (n : Nat) (M : Mem) (x2 : Int), I M x2 → μ M x2 < n → Z g p l e rm_X12_ranks s m args below meth c 4 (MQ below (va_Qv (S := Mem) Q (fun u => Rp g u) (aR g)) args s 0 0 (aR g)) M 2 [(0, .ref (g.2.2.1 + a0)), (1, .int (i3 x1)), (2, .int (i3 x2))] [] := by
    intro n
    induction n with
    | zero => exact fun _ _ _ h => absurd h (Nat.not_lt_zero _)
    | succ n ih =>
      intro M x2 hI hn
      exact bk_X12_ranks_B2 F hr k0 (fun M' x2' hk => ih M' x2' hk.1 (Nat.lt_of_lt_of_le hk.2 (Nat.le_of_lt_succ hn))) (hb M x2 hI)
  exact key _ M x2 h0 (Nat.lt_succ_self _)
set_option maxRecDepth 100000 in
set_option maxHeartbeats 4000000 in
theorem c_X12_ranks (l : Launch) (g : En) {a0 : Nat} {a1 : Int} {M : Mem} {Q : Mem → Prop} (k0 : kd a0 = 12) (hw : wp_X12_ranks a0 a1 M Q) :
    Met l yX12_ranks (WS yX12_ranks cX12_ranks 4 none) rm_X12_ranks (va_Pc [.ref (g.2.2.1 + a0), .int (i3 a1)] (Rp g M)) (va_Qv (S := Mem) Q (fun u => Rp g u) (aR g)) 0 0 (aR g) := by
  refine met_Z (plainFor_of_name rfl) (Nat.le_of_ble_eq_true rfl) ?_
  intro p e s m args below meth c F hr _
  show Z g p l e rm_X12_ranks s m args below meth c 4 (MQ below (va_Qv (S := Mem) Q (fun u => Rp g u) (aR g)) args s 0 0 (aR g)) M 0 [(0, .ref (g.2.2.1 + a0)), (1, .int (i3 a1))] []
  refine z_iconst F dX12_ranks_0 rfl ?_
  refine z_istore_n F dX12_ranks_1 rfl rfl (by decide) rfl ?_
  refine z_sub [1, 2, 0] rfl ?_
  exact lp_X12_ranks_2 F hr k0 hw
theorem cv_X12_ranks : CV yX12_ranks RX12 cX12_ranks 4 none 1 := ⟨w_1208, w_34, w_80, w_1209, rfl, by decide +kernel, by decide +kernel, by decide +kernel⟩
abbrev rm_X12_ranked : Room := { frames := 8, cells := 0, slots := 0, locals := 187 }
def wp_X12_ranked (a0 : Nat) (a1 : Int) (a2 : Int) (M : Mem) (Q : Int → Mem → Prop) : Prop :=
  wp_X12_within a1 0 3 M (fun r3 =>
  ((r3 = true → (
    wp_X12_isBond a0 a2 M (fun r14 =>
    ((r14 = true → (
      wp_X12_ranks a0 a1 M (fun M25 =>
      inb (rt a0 22) a2 ∧ (
      Q (M25 (rt a0 22) (ix a2)) M25)))) ∧
    (r14 = false → (
      Q (-12) M)))))) ∧
  (r3 = false → (
    Q (-2) M))))
set_option maxRecDepth 100000 in
set_option maxHeartbeats 4000000 in
theorem c_X12_ranked (l : Launch) (g : En) {a0 : Nat} {a1 : Int} {a2 : Int} {M : Mem} {Q : Int → Mem → Prop} (k0 : kd a0 = 12) (hw : wp_X12_ranked a0 a1 a2 M Q) :
    Met l yX12_ranked (WS yX12_ranked cX12_ranked 3 (some .int)) rm_X12_ranked (va_Pc [.ref (g.2.2.1 + a0), .int (i3 a1), .int (i3 a2)] (Rp g M)) (va_Qi (S := Int × Mem) (fun r u => r = i3 u.1 ∧ Q u.1 u.2) (fun u => Rp g u.2) (aR g)) 0 0 (aR g) := by
  refine met_Z (plainFor_of_name rfl) (Nat.le_of_ble_eq_true rfl) ?_
  intro p e s m args below meth c F hr _
  show Z g p l e rm_X12_ranked s m args below meth c 3 (MQ below (va_Qi (S := Int × Mem) (fun r u => r = i3 u.1 ∧ Q u.1 u.2) (fun u => Rp g u.2) (aR g)) args s 0 0 (aR g)) M 0 [(0, .ref (g.2.2.1 + a0)), (1, .int (i3 a1)), (2, .int (i3 a2))] []
  refine z_iload_n F dX12_ranked_0 rfl rfl 1 rfl ?_
  refine z_iconst F dX12_ranked_1 rfl ?_
  refine z_iconst F dX12_ranked_2 rfl ?_
  refine z_cSbp (As := [.int (i3 a1), .int (i3 0), .int (i3 3)]) (st := []) F (c_X12_within l g hw) cs_X12_within w_1102 ⟨rfl, rfl, Nat.le_of_ble_eq_true rfl, Nat.le_of_ble_eq_true rfl⟩ rfl (Nat.le_of_ble_eq_true rfl) dX12_ranked_3 rfl (fun r3 hw => ?_)
  refine z_ifb_ne F dX12_ranked_6 rfl rfl hw (fun hw => ?_) (fun hw => ?_)
  · refine z_aload_n F dX12_ranked_12 rfl rfl 0 rfl ?_
    refine z_iload_n F dX12_ranked_13 rfl rfl 2 rfl ?_
    refine z_cVbp (As := [.int (i3 a2)]) (st := []) F (c_X12_isBond l g k0 hw) cv_X12_isBond w_1151 ⟨rfl, rfl, Nat.le_of_ble_eq_true rfl, Nat.le_of_ble_eq_true rfl⟩ k0 rfl rfl (Nat.le_of_ble_eq_true rfl) dX12_ranked_14 rfl (fun r14 hw => ?_)
    refine z_ifb_ne F dX12_ranked_17 rfl rfl hw (fun hw => ?_) (fun hw => ?_)
    · refine z_aload_n F dX12_ranked_23 rfl rfl 0 rfl ?_
      refine z_iload_n F dX12_ranked_24 rfl rfl 1 rfl ?_
      refine z_cVv (As := [.int (i3 a1)]) (st := []) F (c_X12_ranks l g k0 hw) cv_X12_ranks w_1206 ⟨rfl, rfl, Nat.le_of_ble_eq_true rfl, Nat.le_of_ble_eq_true rfl⟩ k0 rfl rfl (Nat.le_of_ble_eq_true rfl) dX12_ranked_25 rfl (fun M25 hw => ?_)
      refine z_aload_n F dX12_ranked_28 rfl rfl 0 rfl ?_
      refine z_getR F fl_1014 k0 dX12_ranked_29 rfl ?_
      refine z_iload_n F dX12_ranked_32 rfl rfl 2 rfl ?_
      refine z_iald F (tk_12_22 k0) dX12_ranked_33 rfl hw (fun hw => ?_)
      exact z_iret (x := (M25 (rt a0 22) (ix a2))) F hr dX12_ranked_34 hw
    · refine z_bipush F dX12_ranked_20 (by decide) rfl ?_
      exact z_iret (x := (-12)) F hr dX12_ranked_22 hw
  · refine z_bipush F dX12_ranked_9 (by decide) rfl ?_
    exact z_iret (x := (-2)) F hr dX12_ranked_11 hw
theorem cv_X12_ranked : CV yX12_ranked RX12 cX12_ranked 3 (some .int) 2 := ⟨w_1203, w_1204, w_80, w_1205, rfl, by decide +kernel, by decide +kernel, by decide +kernel⟩
abbrev rm_X12_times : Room := { frames := 0, cells := 0, slots := 0, locals := 0 }
def wp_X12_times_b29 (a0 : Nat) (Q : Int → Mem → Prop) (M : Mem) (x5 : Int) : Prop :=
  ∀ M31 : Mem, M31 = st2 M a0 8 (bz true) →
  Q x5 M31
def wp_X12_times_b20 (a0 : Nat) (Q : Int → Mem → Prop) (M : Mem) (x5 : Int) : Prop :=
  (((¬ w64 x5 = w64 (-9223372036854775808)) → (
    Q x5 M)) ∧
  (¬ (¬ w64 x5 = w64 (-9223372036854775808)) → (
    wp_X12_times_b29 a0 Q M x5)))
def wp_X12_times (a0 : Nat) (a1 : Int) (a2 : Int) (M : Mem) (Q : Int → Mem → Prop) : Prop :=
  (((w64 a1 = w64 0) → (
    wp_X12_times_b20 a0 Q M (a1 * a2))) ∧
  (¬ (w64 a1 = w64 0) → (
    w64 a1 ≠ 0 ∧ (
    (((¬ w64 ((w64 (a1 * a2)).tdiv (w64 a1)) = w64 a2) → (
      wp_X12_times_b29 a0 Q M (a1 * a2))) ∧
    (¬ (¬ w64 ((w64 (a1 * a2)).tdiv (w64 a1)) = w64 a2) → (
      wp_X12_times_b20 a0 Q M (a1 * a2))))))))
set_option maxRecDepth 100000 in
set_option maxHeartbeats 4000000 in
theorem bk_X12_times_29 {g : En} {p : Program} {l : Launch} {e : Env} {s : State} {m : MethodId} {args : Array Value} {below : List Frame} {meth : Method} {c : Code} {M : Mem} {a0 : Nat} {Q : Int → Mem → Prop} {x5 : Int} (F : Fx g p s m args meth c cX12_times 7 RX12) (hr : meth.sig.returnType = (some .long)) (k0 : kd a0 = 12)
    (hw : wp_X12_times_b29 a0 Q M x5) : Z g p l e rm_X12_times s m args below meth c 7 (MQ below (va_Ql (S := Int × Mem) (fun r u => r = i6 u.1 ∧ Q u.1 u.2) (fun u => Rp g u.2) (aR g)) args s 0 0 (aR g)) M 29 [(0, .ref (g.2.2.1 + a0)), (5, .long (i6 x5))] [] := by
  refine z_aload_n F dX12_times_29 rfl rfl 0 rfl ?_
  refine z_iconst F dX12_times_30 rfl ?_
  refine z_putB (r := true) F fp_1000 k0 dX12_times_31 rfl ?_
  refine z_nmM (fun M31 eM31 => ?_)
  have hw := hw M31 eM31
  refine z_lload F dX12_times_34 rfl 1 rfl ?_
  exact z_lret (x := x5) F hr dX12_times_36 hw
set_option maxRecDepth 100000 in
set_option maxHeartbeats 4000000 in
theorem bk_X12_times_20 {g : En} {p : Program} {l : Launch} {e : Env} {s : State} {m : MethodId} {args : Array Value} {below : List Frame} {meth : Method} {c : Code} {M : Mem} {a0 : Nat} {Q : Int → Mem → Prop} {x5 : Int} (F : Fx g p s m args meth c cX12_times 7 RX12) (hr : meth.sig.returnType = (some .long)) (k0 : kd a0 = 12)
    (hw : wp_X12_times_b20 a0 Q M x5) : Z g p l e rm_X12_times s m args below meth c 7 (MQ below (va_Ql (S := Int × Mem) (fun r u => r = i6 u.1 ∧ Q u.1 u.2) (fun u => Rp g u.2) (aR g)) args s 0 0 (aR g)) M 20 [(0, .ref (g.2.2.1 + a0)), (5, .long (i6 x5))] [] := by
  refine z_lload F dX12_times_20 rfl 1 rfl ?_
  refine z_ldc2 (n := (-9223372036854775808)) F w_1222 (by decide) dX12_times_22 rfl ?_
  refine z_lcmp_ne F dX12_times_25 rfl dX12_times_26 rfl rfl hw (fun hw => ?_) (fun hw => ?_)
  · refine z_lload F dX12_times_34 rfl 1 rfl ?_
    exact z_lret (x := x5) F hr dX12_times_36 hw
  · refine z_sub [0, 1] rfl ?_
    exact bk_X12_times_29 F hr k0 hw
set_option maxRecDepth 100000 in
set_option maxHeartbeats 4000000 in
theorem c_X12_times (l : Launch) (g : En) {a0 : Nat} {a1 : Int} {a2 : Int} {M : Mem} {Q : Int → Mem → Prop} (k0 : kd a0 = 12) (hw : wp_X12_times a0 a1 a2 M Q) :
    Met l yX12_times (WS yX12_times cX12_times 7 (some .long)) rm_X12_times (va_Pc [.ref (g.2.2.1 + a0), .long (i6 a1), .long (i6 a2)] (Rp g M)) (va_Ql (S := Int × Mem) (fun r u => r = i6 u.1 ∧ Q u.1 u.2) (fun u => Rp g u.2) (aR g)) 0 0 (aR g) := by
  refine met_Z (plainFor_of_name rfl) (Nat.le_of_ble_eq_true rfl) ?_
  intro p e s m args below meth c F hr _
  show Z g p l e rm_X12_times s m args below meth c 7 (MQ below (va_Ql (S := Int × Mem) (fun r u => r = i6 u.1 ∧ Q u.1 u.2) (fun u => Rp g u.2) (aR g)) args s 0 0 (aR g)) M 0 [(0, .ref (g.2.2.1 + a0)), (1, .long (i6 a1)), (3, .long (i6 a2))] []
  refine z_lload_n F dX12_times_0 rfl rfl 1 rfl ?_
  refine z_lload_n F dX12_times_1 rfl rfl 2 rfl ?_
  refine z_lmul F dX12_times_2 rfl ?_
  refine z_lstore F dX12_times_3 rfl (by decide) rfl ?_
  refine z_lload_n F dX12_times_5 rfl rfl 2 rfl ?_
  refine z_lconst (v := 0) F dX12_times_6 rfl rfl ?_
  refine z_lcmp_eq F dX12_times_7 rfl dX12_times_8 rfl rfl hw (fun hw => ?_) (fun hw => ?_)
  · refine z_sub [1, 0] rfl ?_
    exact bk_X12_times_20 F hr k0 hw
  · refine z_lload F dX12_times_11 rfl 0 rfl ?_
    refine z_lload_n F dX12_times_13 rfl rfl 2 rfl ?_
    refine z_ldiv F dX12_times_14 rfl hw (fun hw => ?_)
    refine z_lload_n F dX12_times_15 rfl rfl 3 rfl ?_
    refine z_lcmp_ne F dX12_times_16 rfl dX12_times_17 rfl rfl hw (fun hw => ?_) (fun hw => ?_)
    · refine z_sub [1, 0] rfl ?_
      exact bk_X12_times_29 F hr k0 hw
    · refine z_sub [1, 0] rfl ?_
      exact bk_X12_times_20 F hr k0 hw
theorem cv_X12_times : CV yX12_times RX12 cX12_times 7 (some .long) 2 := ⟨w_1264, w_45, w_80, w_1265, rfl, by decide +kernel, by decide +kernel, by decide +kernel⟩
abbrev rm_X12_plus : Room := { frames := 0, cells := 0, slots := 0, locals := 0 }
def wp_X12_plus_b28 (a0 : Nat) (Q : Int → Mem → Prop) (M : Mem) (x5 : Int) : Prop :=
  ∀ M30 : Mem, M30 = st2 M a0 8 (bz true) →
  Q x5 M30
def wp_X12_plus (a0 : Nat) (a1 : Int) (a2 : Int) (M : Mem) (Q : Int → Mem → Prop) : Prop :=
  (((w64 (la (lx a1 (a1 + a2)) (lx a2 (a1 + a2))) < w64 0) → (
    wp_X12_plus_b28 a0 Q M (a1 + a2))) ∧
  (¬ (w64 (la (lx a1 (a1 + a2)) (lx a2 (a1 + a2))) < w64 0) → (
    (((¬ w64 (a1 + a2) = w64 (-9223372036854775808)) → (
      Q (a1 + a2) M)) ∧
    (¬ (¬ w64 (a1 + a2) = w64 (-9223372036854775808)) → (
      wp_X12_plus_b28 a0 Q M (a1 + a2)))))))
set_option maxRecDepth 100000 in
set_option maxHeartbeats 4000000 in
theorem bk_X12_plus_28 {g : En} {p : Program} {l : Launch} {e : Env} {s : State} {m : MethodId} {args : Array Value} {below : List Frame} {meth : Method} {c : Code} {M : Mem} {a0 : Nat} {Q : Int → Mem → Prop} {x5 : Int} (F : Fx g p s m args meth c cX12_plus 7 RX12) (hr : meth.sig.returnType = (some .long)) (k0 : kd a0 = 12)
    (hw : wp_X12_plus_b28 a0 Q M x5) : Z g p l e rm_X12_plus s m args below meth c 7 (MQ below (va_Ql (S := Int × Mem) (fun r u => r = i6 u.1 ∧ Q u.1 u.2) (fun u => Rp g u.2) (aR g)) args s 0 0 (aR g)) M 28 [(0, .ref (g.2.2.1 + a0)), (5, .long (i6 x5))] [] := by
  refine z_aload_n F dX12_plus_28 rfl rfl 0 rfl ?_
  refine z_iconst F dX12_plus_29 rfl ?_
  refine z_putB (r := true) F fp_1000 k0 dX12_plus_30 rfl ?_
  refine z_nmM (fun M30 eM30 => ?_)
  have hw := hw M30 eM30
  refine z_lload F dX12_plus_33 rfl 1 rfl ?_
  exact z_lret (x := x5) F hr dX12_plus_35 hw
set_option maxRecDepth 100000 in
set_option maxHeartbeats 4000000 in
theorem c_X12_plus (l : Launch) (g : En) {a0 : Nat} {a1 : Int} {a2 : Int} {M : Mem} {Q : Int → Mem → Prop} (k0 : kd a0 = 12) (hw : wp_X12_plus a0 a1 a2 M Q) :
    Met l yX12_plus (WS yX12_plus cX12_plus 7 (some .long)) rm_X12_plus (va_Pc [.ref (g.2.2.1 + a0), .long (i6 a1), .long (i6 a2)] (Rp g M)) (va_Ql (S := Int × Mem) (fun r u => r = i6 u.1 ∧ Q u.1 u.2) (fun u => Rp g u.2) (aR g)) 0 0 (aR g) := by
  refine met_Z (plainFor_of_name rfl) (Nat.le_of_ble_eq_true rfl) ?_
  intro p e s m args below meth c F hr _
  show Z g p l e rm_X12_plus s m args below meth c 7 (MQ below (va_Ql (S := Int × Mem) (fun r u => r = i6 u.1 ∧ Q u.1 u.2) (fun u => Rp g u.2) (aR g)) args s 0 0 (aR g)) M 0 [(0, .ref (g.2.2.1 + a0)), (1, .long (i6 a1)), (3, .long (i6 a2))] []
  refine z_lload_n F dX12_plus_0 rfl rfl 1 rfl ?_
  refine z_lload_n F dX12_plus_1 rfl rfl 2 rfl ?_
  refine z_ladd F dX12_plus_2 rfl ?_
  refine z_lstore F dX12_plus_3 rfl (by decide) rfl ?_
  refine z_lload_n F dX12_plus_5 rfl rfl 2 rfl ?_
  refine z_lload F dX12_plus_6 rfl 0 rfl ?_
  refine z_lxor F dX12_plus_8 rfl ?_
  refine z_lload_n F dX12_plus_9 rfl rfl 3 rfl ?_
  refine z_lload F dX12_plus_10 rfl 0 rfl ?_
  refine z_lxor F dX12_plus_12 rfl ?_
  refine z_land F dX12_plus_13 rfl ?_
  refine z_lconst (v := 0) F dX12_plus_14 rfl rfl ?_
  refine z_lcmp_lt F dX12_plus_15 rfl dX12_plus_16 rfl rfl hw (fun hw => ?_) (fun hw => ?_)
  · refine z_sub [1, 0] rfl ?_
    exact bk_X12_plus_28 F hr k0 hw
  · refine z_lload F dX12_plus_19 rfl 0 rfl ?_
    refine z_ldc2 (n := (-9223372036854775808)) F w_1222 (by decide) dX12_plus_21 rfl ?_
    refine z_lcmp_ne F dX12_plus_24 rfl dX12_plus_25 rfl rfl hw (fun hw => ?_) (fun hw => ?_)
    · refine z_lload F dX12_plus_33 rfl 0 rfl ?_
      exact z_lret (x := (a1 + a2)) F hr dX12_plus_35 hw
    · refine z_sub [1, 0] rfl ?_
      exact bk_X12_plus_28 F hr k0 hw
theorem cv_X12_plus : CV yX12_plus RX12 cX12_plus 7 (some .long) 2 := ⟨w_1272, w_47, w_80, w_1273, rfl, by decide +kernel, by decide +kernel, by decide +kernel⟩
abbrev rm_J9_abs_067f4 : Room := { frames := 0, cells := 0, slots := 0, locals := 0 }
def wp_J9_abs_067f4 (a0 : Int) (M : Mem) (Q : Int → Prop) : Prop :=
  (((w64 0 ≤ w64 a0) → (
    Q a0)) ∧
  (¬ (w64 0 ≤ w64 a0) → (
    Q (-a0))))
set_option maxRecDepth 100000 in
set_option maxHeartbeats 4000000 in
theorem c_J9_abs_067f4 (l : Launch) (g : En) {a0 : Int} {M : Mem} {Q : Int → Prop} (hw : wp_J9_abs_067f4 a0 M Q) :
    Met l yJ9_abs_067f4 (WS yJ9_abs_067f4 cJ9_abs_067f4 2 (some .long)) rm_J9_abs_067f4 (va_Pc [.long (i6 a0)] (Rp g M)) (va_Ql (S := Int × Mem) (fun r u => r = i6 u.1 ∧ (u.2 = M ∧ Q u.1)) (fun u => Rp g u.2) (aR g)) 0 0 (aR g) := by
  refine met_Z (by decide +kernel) (Nat.le_of_ble_eq_true rfl) ?_
  intro p e s m args below meth c F hr _
  show Z g p l e rm_J9_abs_067f4 s m args below meth c 2 (MQ below (va_Ql (S := Int × Mem) (fun r u => r = i6 u.1 ∧ (u.2 = M ∧ Q u.1)) (fun u => Rp g u.2) (aR g)) args s 0 0 (aR g)) M 0 [(0, .long (i6 a0))] []
  refine z_lload_n F dJ9_abs_067f4_0 rfl rfl 0 rfl ?_
  refine z_lconst (v := 0) F dJ9_abs_067f4_1 rfl rfl ?_
  refine z_lcmp_ge F dJ9_abs_067f4_2 rfl dJ9_abs_067f4_3 rfl rfl hw (fun hw => ?_) (fun hw => ?_)
  · refine z_lload_n F dJ9_abs_067f4_11 rfl rfl 0 rfl ?_
    exact z_lretp (x := a0) F hr dJ9_abs_067f4_12 hw
  · refine z_lload_n F dJ9_abs_067f4_6 rfl rfl 0 rfl ?_
    refine z_lneg F dJ9_abs_067f4_7 rfl ?_
    refine z_goto F dJ9_abs_067f4_8 rfl ?_
    exact z_lretp (x := (-a0)) F hr dJ9_abs_067f4_12 hw
theorem cs_J9_abs_067f4 : CS yJ9_abs_067f4 cJ9_abs_067f4 2 (some .long) 1 := ⟨w_1252, w_82, w_1253, by decide +kernel, by decide +kernel, by decide +kernel⟩
abbrev rm_X12_common : Room := { frames := 1, cells := 0, slots := 0, locals := 21 }
def wp_X12_common_B9  (Q : Int → Prop) (K9 : Int → Int → Prop) (M : Mem) (x4 : Int) (x6 : Int) : Prop :=
  (((w64 x6 = w64 0) → (
    Q x4)) ∧
  (¬ (w64 x6 = w64 0) → (
    w64 x6 ≠ 0 ∧ (
    K9 x6 ((w64 x4).tmod (w64 x6))))))
def wp_X12_common_L9  (Q : Int → Prop) (M : Mem) (x4 : Int) (x6 : Int) : Prop :=
  ∃ (I : Int → Int → Prop) (μ : Int → Int → Nat), I x4 x6 ∧ ∀ (x4 : Int) (x6 : Int), I x4 x6 →
    wp_X12_common_B9 Q (fun x4' x6' => I x4' x6' ∧ μ x4' x6' < μ x4 x6) M x4 x6
def wp_X12_common (a0 : Int) (a1 : Int) (M : Mem) (Q : Int → Prop) : Prop :=
  wp_J9_abs_067f4 a0 M (fun r1 =>
  wp_X12_common_L9 Q M r1 a1)
set_option maxRecDepth 100000 in
set_option maxHeartbeats 4000000 in
theorem bk_X12_common_B9 {g : En} {p : Program} {l : Launch} {e : Env} {s : State} {m : MethodId} {args : Array Value} {below : List Frame} {meth : Method} {c : Code} {M : Mem} {Q : Int → Prop} {K9 : Int → Int → Prop} {x4 : Int} {x6 : Int} (F : Fx g p s m args meth c cX12_common 10 RX12) (hr : meth.sig.returnType = (some .long))
    (hK9 : ∀ (x4' : Int) (x6' : Int), K9 x4' x6' → Z g p l e rm_X12_common s m args below meth c 10 (MQ below (va_Ql (S := Int × Mem) (fun r u => r = i6 u.1 ∧ (u.2 = M ∧ Q u.1)) (fun u => Rp g u.2) (aR g)) args s 0 0 (aR g)) M 9 [(4, .long (i6 x4')), (6, .long (i6 x6'))] [])
    (hw : wp_X12_common_B9 Q K9 M x4 x6) : Z g p l e rm_X12_common s m args below meth c 10 (MQ below (va_Ql (S := Int × Mem) (fun r u => r = i6 u.1 ∧ (u.2 = M ∧ Q u.1)) (fun u => Rp g u.2) (aR g)) args s 0 0 (aR g)) M 9 [(4, .long (i6 x4)), (6, .long (i6 x6))] [] := by
  refine z_lload F dX12_common_9 rfl 1 rfl ?_
  refine z_lconst (v := 0) F dX12_common_11 rfl rfl ?_
  refine z_lcmp_eq F dX12_common_12 rfl dX12_common_13 rfl rfl hw (fun hw => ?_) (fun hw => ?_)
  · refine z_lload F dX12_common_34 rfl 0 rfl ?_
    exact z_lretp (x := x4) F hr dX12_common_36 hw
  · refine z_lload F dX12_common_16 rfl 0 rfl ?_
    refine z_lload F dX12_common_18 rfl 1 rfl ?_
    refine z_lrem F dX12_common_20 rfl hw (fun hw => ?_)
    refine z_lstore F dX12_common_21 rfl (by decide) rfl ?_
    refine z_lload F dX12_common_23 rfl 2 rfl ?_
    refine z_lstore F dX12_common_25 rfl (by decide) rfl ?_
    refine z_lload F dX12_common_27 rfl 1 rfl ?_
    refine z_lstore F dX12_common_29 rfl (by decide) rfl ?_
    refine z_goto F dX12_common_31 rfl ?_
    refine z_sub [1, 0] rfl ?_
    exact hK9 x6 ((w64 x4).tmod (w64 x6)) hw
set_option maxRecDepth 100000 in
set_option maxHeartbeats 4000000 in
theorem lp_X12_common_9 {g : En} {p : Program} {l : Launch} {e : Env} {s : State} {m : MethodId} {args : Array Value} {below : List Frame} {meth : Method} {c : Code} {M : Mem} {Q : Int → Prop} {x4 : Int} {x6 : Int} (F : Fx g p s m args meth c cX12_common 10 RX12) (hr : meth.sig.returnType = (some .long))
    (hw : wp_X12_common_L9 Q M x4 x6) : Z g p l e rm_X12_common s m args below meth c 10 (MQ below (va_Ql (S := Int × Mem) (fun r u => r = i6 u.1 ∧ (u.2 = M ∧ Q u.1)) (fun u => Rp g u.2) (aR g)) args s 0 0 (aR g)) M 9 [(4, .long (i6 x4)), (6, .long (i6 x6))] [] := by
  obtain ⟨I, μ, h0, hb⟩ := hw
  have key : ∀ (n : Nat) (x4 : Int) (x6 : Int), I x4 x6 → μ x4 x6 < n → Z g p l e rm_X12_common s m args below meth c 10 (MQ below (va_Ql (S := Int × Mem) (fun r u => r = i6 u.1 ∧ (u.2 = M ∧ Q u.1)) (fun u => Rp g u.2) (aR g)) args s 0 0 (aR g)) M 9 [(4, .long (i6 x4)), (6, .long (i6 x6))] [] := by
    intro n
    induction n with
    | zero => exact fun _ _ _ h => absurd h (Nat.not_lt_zero _)
    | succ n ih =>
      intro x4 x6 hI hn
      exact bk_X12_common_B9 F hr (fun x4' x6' hk => ih x4' x6' hk.1 (Nat.lt_of_lt_of_le hk.2 (Nat.le_of_lt_succ hn))) (hb x4 x6 hI)
  exact key _ x4 x6 h0 (Nat.lt_succ_self _)
set_option maxRecDepth 100000 in
set_option maxHeartbeats 4000000 in
theorem c_X12_common (l : Launch) (g : En) {a0 : Int} {a1 : Int} {M : Mem} {Q : Int → Prop} (hw : wp_X12_common a0 a1 M Q) :
    Met l yX12_common (WS yX12_common cX12_common 10 (some .long)) rm_X12_common (va_Pc [.long (i6 a0), .long (i6 a1)] (Rp g M)) (va_Ql (S := Int × Mem) (fun r u => r = i6 u.1 ∧ (u.2 = M ∧ Q u.1)) (fun u => Rp g u.2) (aR g)) 0 0 (aR g) := by
  refine met_Z (plainFor_of_name rfl) (Nat.le_of_ble_eq_true rfl) ?_
  intro p e s m args below meth c F hr _
  show Z g p l e rm_X12_common s m args below meth c 10 (MQ below (va_Ql (S := Int × Mem) (fun r u => r = i6 u.1 ∧ (u.2 = M ∧ Q u.1)) (fun u => Rp g u.2) (aR g)) args s 0 0 (aR g)) M 0 [(0, .long (i6 a0)), (2, .long (i6 a1))] []
  refine z_lload_n F dX12_common_0 rfl rfl 0 rfl ?_
  refine z_cSlp (As := [.long (i6 a0)]) (st := []) F (c_J9_abs_067f4 l g hw) cs_J9_abs_067f4 w_1251 ⟨rfl, rfl, Nat.le_of_ble_eq_true rfl, Nat.le_of_ble_eq_true rfl⟩ rfl (Nat.le_of_ble_eq_true rfl) dX12_common_1 rfl (fun r1 hw => ?_)
  refine z_lstore F dX12_common_4 rfl (by decide) rfl ?_
  refine z_lload_n F dX12_common_6 rfl rfl 2 rfl ?_
  refine z_lstore F dX12_common_7 rfl (by decide) rfl ?_
  refine z_sub [1, 0] rfl ?_
  exact lp_X12_common_9 F hr  hw
theorem cs_X12_common : CS yX12_common cX12_common 10 (some .long) 2 := ⟨w_1249, w_80, w_1250, by decide +kernel, by decide +kernel, by decide +kernel⟩
abbrev rm_X12_lowest : Room := { frames := 2, cells := 0, slots := 0, locals := 50 }
def wp_X12_lowest (a0 : Nat) (a1 : Int) (a2 : Int) (M : Mem) (Q : Mem → Prop) : Prop :=
  ∀ M2 : Mem, M2 = st2 M a0 9 0 →
  ∀ M7 : Mem, M7 = st2 M2 a0 10 1 →
  (((fb M7 a0 8) = false → (
    wp_X12_common a1 a2 M7 (fun r20 =>
    w64 r20 ≠ 0 ∧ (
    ∀ M30 : Mem, M30 = st2 M7 a0 9 ((w64 a1).tdiv (w64 r20)) →
    w64 r20 ≠ 0 ∧ (
    ∀ M38 : Mem, M38 = st2 M30 a0 10 ((w64 a2).tdiv (w64 r20)) →
    Q M38))))) ∧
  ((fb M7 a0 8) = true → (
    Q M7)))
set_option maxRecDepth 100000 in
set_option maxHeartbeats 4000000 in
theorem c_X12_lowest (l : Launch) (g : En) {a0 : Nat} {a1 : Int} {a2 : Int} {M : Mem} {Q : Mem → Prop} (k0 : kd a0 = 12) (hw : wp_X12_lowest a0 a1 a2 M Q) :
    Met l yX12_lowest (WS yX12_lowest cX12_lowest 7 none) rm_X12_lowest (va_Pc [.ref (g.2.2.1 + a0), .long (i6 a1), .long (i6 a2)] (Rp g M)) (va_Qv (S := Mem) Q (fun u => Rp g u) (aR g)) 0 0 (aR g) := by
  refine met_Z (plainFor_of_name rfl) (Nat.le_of_ble_eq_true rfl) ?_
  intro p e s m args below meth c F hr _
  show Z g p l e rm_X12_lowest s m args below meth c 7 (MQ below (va_Qv (S := Mem) Q (fun u => Rp g u) (aR g)) args s 0 0 (aR g)) M 0 [(0, .ref (g.2.2.1 + a0)), (1, .long (i6 a1)), (3, .long (i6 a2))] []
  refine z_aload_n F dX12_lowest_0 rfl rfl 0 rfl ?_
  refine z_lconst (v := 0) F dX12_lowest_1 rfl rfl ?_
  refine z_putL F fp_1001 k0 dX12_lowest_2 rfl ?_
  refine z_nmM (fun M2 eM2 => ?_)
  have hw := hw M2 eM2
  refine z_aload_n F dX12_lowest_5 rfl rfl 0 rfl ?_
  refine z_lconst (v := 1) F dX12_lowest_6 rfl rfl ?_
  refine z_putL F fp_1002 k0 dX12_lowest_7 rfl ?_
  refine z_nmM (fun M7 eM7 => ?_)
  have hw := hw M7 eM7
  refine z_aload_n F dX12_lowest_10 rfl rfl 0 rfl ?_
  refine z_getB F fl_1000 k0 dX12_lowest_11 rfl ?_
  refine z_ifb_eq F dX12_lowest_14 rfl rfl hw (fun hw => ?_) (fun hw => ?_)
  · refine z_lload_n F dX12_lowest_18 rfl rfl 1 rfl ?_
    refine z_lload_n F dX12_lowest_19 rfl rfl 2 rfl ?_
    refine z_cSlp (As := [.long (i6 a1), .long (i6 a2)]) (st := []) F (c_X12_common l g hw) cs_X12_common w_1248 ⟨rfl, rfl, Nat.le_of_ble_eq_true rfl, Nat.le_of_ble_eq_true rfl⟩ rfl (Nat.le_of_ble_eq_true rfl) dX12_lowest_20 rfl (fun r20 hw => ?_)
    refine z_lstore F dX12_lowest_23 rfl (by decide) rfl ?_
    refine z_aload_n F dX12_lowest_25 rfl rfl 1 rfl ?_
    refine z_lload_n F dX12_lowest_26 rfl rfl 2 rfl ?_
    refine z_lload F dX12_lowest_27 rfl 0 rfl ?_
    refine z_ldiv F dX12_lowest_29 rfl hw (fun hw => ?_)
    refine z_putL F fp_1001 k0 dX12_lowest_30 rfl ?_
    refine z_nmM (fun M30 eM30 => ?_)
    have hw := hw M30 eM30
    refine z_aload_n F dX12_lowest_33 rfl rfl 1 rfl ?_
    refine z_lload_n F dX12_lowest_34 rfl rfl 3 rfl ?_
    refine z_lload F dX12_lowest_35 rfl 0 rfl ?_
    refine z_ldiv F dX12_lowest_37 rfl hw (fun hw => ?_)
    refine z_putL F fp_1002 k0 dX12_lowest_38 rfl ?_
    refine z_nmM (fun M38 eM38 => ?_)
    have hw := hw M38 eM38
    exact z_vret F hr dX12_lowest_41 hw
  · exact z_vret F hr dX12_lowest_17 hw
theorem cv_X12_lowest : CV yX12_lowest RX12 cX12_lowest 7 none 2 := ⟨w_1246, w_42, w_80, w_1247, rfl, by decide +kernel, by decide +kernel, by decide +kernel⟩
abbrev rm_X12_sum : Room := { frames := 3, cells := 0, slots := 0, locals := 76 }
def wp_X12_sum (a0 : Nat) (a1 : Int) (a2 : Int) (a3 : Int) (a4 : Int) (M : Mem) (Q : Mem → Prop) : Prop :=
  wp_X12_times a0 a1 a4 M (fun r4 M4 =>
  wp_X12_times a0 a3 a2 M4 (fun r13 M13 =>
  wp_X12_plus a0 r4 r13 M13 (fun r24 M24 =>
  wp_X12_times a0 a2 a4 M24 (fun r31 M31 =>
  wp_X12_lowest a0 r24 r31 M31 (fun M34 =>
  Q M34)))))
set_option maxRecDepth 100000 in
set_option maxHeartbeats 4000000 in
theorem c_X12_sum (l : Launch) (g : En) {a0 : Nat} {a1 : Int} {a2 : Int} {a3 : Int} {a4 : Int} {M : Mem} {Q : Mem → Prop} (k0 : kd a0 = 12) (hw : wp_X12_sum a0 a1 a2 a3 a4 M Q) :
    Met l yX12_sum (WS yX12_sum cX12_sum 13 none) rm_X12_sum (va_Pc [.ref (g.2.2.1 + a0), .long (i6 a1), .long (i6 a2), .long (i6 a3), .long (i6 a4)] (Rp g M)) (va_Qv (S := Mem) Q (fun u => Rp g u) (aR g)) 0 0 (aR g) := by
  refine met_Z (plainFor_of_name rfl) (Nat.le_of_ble_eq_true rfl) ?_
  intro p e s m args below meth c F hr _
  show Z g p l e rm_X12_sum s m args below meth c 13 (MQ below (va_Qv (S := Mem) Q (fun u => Rp g u) (aR g)) args s 0 0 (aR g)) M 0 [(0, .ref (g.2.2.1 + a0)), (1, .long (i6 a1)), (3, .long (i6 a2)), (5, .long (i6 a3)), (7, .long (i6 a4))] []
  refine z_aload_n F dX12_sum_0 rfl rfl 0 rfl ?_
  refine z_lload_n F dX12_sum_1 rfl rfl 1 rfl ?_
  refine z_lload F dX12_sum_2 rfl 4 rfl ?_
  refine z_cVl (As := [.long (i6 a1), .long (i6 a4)]) (st := []) F (c_X12_times l g k0 hw) cv_X12_times w_1262 ⟨rfl, rfl, Nat.le_of_ble_eq_true rfl, Nat.le_of_ble_eq_true rfl⟩ k0 rfl rfl (Nat.le_of_ble_eq_true rfl) dX12_sum_4 rfl (fun r4 M4 hw => ?_)
  refine z_lstore F dX12_sum_7 rfl (by decide) rfl ?_
  refine z_aload_n F dX12_sum_9 rfl rfl 1 rfl ?_
  refine z_lload F dX12_sum_10 rfl 4 rfl ?_
  refine z_lload_n F dX12_sum_12 rfl rfl 3 rfl ?_
  refine z_cVl (As := [.long (i6 a3), .long (i6 a2)]) (st := []) F (c_X12_times l g k0 hw) cv_X12_times w_1262 ⟨rfl, rfl, Nat.le_of_ble_eq_true rfl, Nat.le_of_ble_eq_true rfl⟩ k0 rfl rfl (Nat.le_of_ble_eq_true rfl) dX12_sum_13 rfl (fun r13 M13 hw => ?_)
  refine z_lstore F dX12_sum_16 rfl (by decide) rfl ?_
  refine z_aload_n F dX12_sum_18 rfl rfl 2 rfl ?_
  refine z_aload_n F dX12_sum_19 rfl rfl 2 rfl ?_
  refine z_lload F dX12_sum_20 rfl 1 rfl ?_
  refine z_lload F dX12_sum_22 rfl 0 rfl ?_
  refine z_cVl (As := [.long (i6 r4), .long (i6 r13)]) (st := [.ref (g.2.2.1 + a0)]) F (c_X12_plus l g k0 hw) cv_X12_plus w_1270 ⟨rfl, rfl, Nat.le_of_ble_eq_true rfl, Nat.le_of_ble_eq_true rfl⟩ k0 rfl rfl (Nat.le_of_ble_eq_true rfl) dX12_sum_24 rfl (fun r24 M24 hw => ?_)
  refine z_aload_n F dX12_sum_27 rfl rfl 2 rfl ?_
  refine z_lload_n F dX12_sum_28 rfl rfl 4 rfl ?_
  refine z_lload F dX12_sum_29 rfl 6 rfl ?_
  refine z_cVl (As := [.long (i6 a2), .long (i6 a4)]) (st := [.long (i6 r24), .ref (g.2.2.1 + a0)]) F (c_X12_times l g k0 hw) cv_X12_times w_1262 ⟨rfl, rfl, Nat.le_of_ble_eq_true rfl, Nat.le_of_ble_eq_true rfl⟩ k0 rfl rfl (Nat.le_of_ble_eq_true rfl) dX12_sum_31 rfl (fun r31 M31 hw => ?_)
  refine z_cVv (As := [.long (i6 r24), .long (i6 r31)]) (st := []) F (c_X12_lowest l g k0 hw) cv_X12_lowest w_1244 ⟨rfl, rfl, Nat.le_of_ble_eq_true rfl, Nat.le_of_ble_eq_true rfl⟩ k0 rfl rfl (Nat.le_of_ble_eq_true rfl) dX12_sum_34 rfl (fun M34 hw => ?_)
  exact z_vret F hr dX12_sum_37 hw
theorem cv_X12_sum : CV yX12_sum RX12 cX12_sum 13 none 4 := ⟨w_1268, w_46, w_80, w_1269, rfl, by decide +kernel, by decide +kernel, by decide +kernel⟩
abbrev rm_X12_product : Room := { frames := 3, cells := 0, slots := 0, locals := 76 }
def wp_X12_product (a0 : Nat) (a1 : Int) (a2 : Int) (a3 : Int) (a4 : Int) (M : Mem) (Q : Mem → Prop) : Prop :=
  wp_X12_times a0 a1 a3 M (fun r5 M5 =>
  wp_X12_times a0 a2 a4 M5 (fun r12 M12 =>
  wp_X12_lowest a0 r5 r12 M12 (fun M15 =>
  Q M15)))
set_option maxRecDepth 100000 in
set_option maxHeartbeats 4000000 in
theorem c_X12_product (l : Launch) (g : En) {a0 : Nat} {a1 : Int} {a2 : Int} {a3 : Int} {a4 : Int} {M : Mem} {Q : Mem → Prop} (k0 : kd a0 = 12) (hw : wp_X12_product a0 a1 a2 a3 a4 M Q) :
    Met l yX12_product (WS yX12_product cX12_product 9 none) rm_X12_product (va_Pc [.ref (g.2.2.1 + a0), .long (i6 a1), .long (i6 a2), .long (i6 a3), .long (i6 a4)] (Rp g M)) (va_Qv (S := Mem) Q (fun u => Rp g u) (aR g)) 0 0 (aR g) := by
  refine met_Z (plainFor_of_name rfl) (Nat.le_of_ble_eq_true rfl) ?_
  intro p e s m args below meth c F hr _
  show Z g p l e rm_X12_product s m args below meth c 9 (MQ below (va_Qv (S := Mem) Q (fun u => Rp g u) (aR g)) args s 0 0 (aR g)) M 0 [(0, .ref (g.2.2.1 + a0)), (1, .long (i6 a1)), (3, .long (i6 a2)), (5, .long (i6 a3)), (7, .long (i6 a4))] []
  refine z_aload_n F dX12_product_0 rfl rfl 0 rfl ?_
  refine z_aload_n F dX12_product_1 rfl rfl 0 rfl ?_
  refine z_lload_n F dX12_product_2 rfl rfl 1 rfl ?_
  refine z_lload F dX12_product_3 rfl 3 rfl ?_
  refine z_cVl (As := [.long (i6 a1), .long (i6 a3)]) (st := [.ref (g.2.2.1 + a0)]) F (c_X12_times l g k0 hw) cv_X12_times w_1262 ⟨rfl, rfl, Nat.le_of_ble_eq_true rfl, Nat.le_of_ble_eq_true rfl⟩ k0 rfl rfl (Nat.le_of_ble_eq_true rfl) dX12_product_5 rfl (fun r5 M5 hw => ?_)
  refine z_aload_n F dX12_product_8 rfl rfl 0 rfl ?_
  refine z_lload_n F dX12_product_9 rfl rfl 2 rfl ?_
  refine z_lload F dX12_product_10 rfl 4 rfl ?_
  refine z_cVl (As := [.long (i6 a2), .long (i6 a4)]) (st := [.long (i6 r5), .ref (g.2.2.1 + a0)]) F (c_X12_times l g k0 hw) cv_X12_times w_1262 ⟨rfl, rfl, Nat.le_of_ble_eq_true rfl, Nat.le_of_ble_eq_true rfl⟩ k0 rfl rfl (Nat.le_of_ble_eq_true rfl) dX12_product_12 rfl (fun r12 M12 hw => ?_)
  refine z_cVv (As := [.long (i6 r5), .long (i6 r12)]) (st := []) F (c_X12_lowest l g k0 hw) cv_X12_lowest w_1244 ⟨rfl, rfl, Nat.le_of_ble_eq_true rfl, Nat.le_of_ble_eq_true rfl⟩ k0 rfl rfl (Nat.le_of_ble_eq_true rfl) dX12_product_15 rfl (fun M15 hw => ?_)
  exact z_vret F hr dX12_product_18 hw
theorem cv_X12_product : CV yX12_product RX12 cX12_product 9 none 4 := ⟨w_1260, w_44, w_80, w_1261, rfl, by decide +kernel, by decide +kernel, by decide +kernel⟩
abbrev rm_X12_quotient : Room := { frames := 4, cells := 0, slots := 0, locals := 104 }
def wp_X12_quotient (a0 : Nat) (a1 : Int) (a2 : Int) (a3 : Int) (a4 : Int) (M : Mem) (Q : Mem → Prop) : Prop :=
  (((w64 0 ≤ w64 a3) → (
    wp_X12_product a0 a1 a2 a4 a3 M (fun M29 =>
    Q M29))) ∧
  (¬ (w64 0 ≤ w64 a3) → (
    wp_X12_product a0 a1 a2 (-a4) (-a3) M (fun M16 =>
    Q M16))))
set_option maxRecDepth 100000 in
set_option maxHeartbeats 4000000 in
theorem c_X12_quotient (l : Launch) (g : En) {a0 : Nat} {a1 : Int} {a2 : Int} {a3 : Int} {a4 : Int} {M : Mem} {Q : Mem → Prop} (k0 : kd a0 = 12) (hw : wp_X12_quotient a0 a1 a2 a3 a4 M Q) :
    Met l yX12_quotient (WS yX12_quotient cX12_quotient 9 none) rm_X12_quotient (va_Pc [.ref (g.2.2.1 + a0), .long (i6 a1), .long (i6 a2), .long (i6 a3), .long (i6 a4)] (Rp g M)) (va_Qv (S := Mem) Q (fun u => Rp g u) (aR g)) 0 0 (aR g) := by
  refine met_Z (plainFor_of_name rfl) (Nat.le_of_ble_eq_true rfl) ?_
  intro p e s m args below meth c F hr _
  show Z g p l e rm_X12_quotient s m args below meth c 9 (MQ below (va_Qv (S := Mem) Q (fun u => Rp g u) (aR g)) args s 0 0 (aR g)) M 0 [(0, .ref (g.2.2.1 + a0)), (1, .long (i6 a1)), (3, .long (i6 a2)), (5, .long (i6 a3)), (7, .long (i6 a4))] []
  refine z_lload F dX12_quotient_0 rfl 3 rfl ?_
  refine z_lconst (v := 0) F dX12_quotient_2 rfl rfl ?_
  refine z_lcmp_ge F dX12_quotient_3 rfl dX12_quotient_4 rfl rfl hw (fun hw => ?_) (fun hw => ?_)
  · refine z_aload_n F dX12_quotient_22 rfl rfl 0 rfl ?_
    refine z_lload_n F dX12_quotient_23 rfl rfl 1 rfl ?_
    refine z_lload_n F dX12_quotient_24 rfl rfl 2 rfl ?_
    refine z_lload F dX12_quotient_25 rfl 4 rfl ?_
    refine z_lload F dX12_quotient_27 rfl 3 rfl ?_
    refine z_cVv (As := [.long (i6 a1), .long (i6 a2), .long (i6 a4), .long (i6 a3)]) (st := []) F (c_X12_product l g k0 hw) cv_X12_product w_1258 ⟨rfl, rfl, Nat.le_of_ble_eq_true rfl, Nat.le_of_ble_eq_true rfl⟩ k0 rfl rfl (Nat.le_of_ble_eq_true rfl) dX12_quotient_29 rfl (fun M29 hw => ?_)
    exact z_vret F hr dX12_quotient_32 hw
  · refine z_aload_n F dX12_quotient_7 rfl rfl 0 rfl ?_
    refine z_lload_n F dX12_quotient_8 rfl rfl 1 rfl ?_
    refine z_lload_n F dX12_quotient_9 rfl rfl 2 rfl ?_
    refine z_lload F dX12_quotient_10 rfl 4 rfl ?_
    refine z_lneg F dX12_quotient_12 rfl ?_
    refine z_lload F dX12_quotient_13 rfl 3 rfl ?_
    refine z_lneg F dX12_quotient_15 rfl ?_
    refine z_cVv (As := [.long (i6 a1), .long (i6 a2), .long (i6 (-a4)), .long (i6 (-a3))]) (st := []) F (c_X12_product l g k0 hw) cv_X12_product w_1258 ⟨rfl, rfl, Nat.le_of_ble_eq_true rfl, Nat.le_of_ble_eq_true rfl⟩ k0 rfl rfl (Nat.le_of_ble_eq_true rfl) dX12_quotient_16 rfl (fun M16 hw => ?_)
    refine z_goto F dX12_quotient_19 rfl ?_
    exact z_vret F hr dX12_quotient_32 hw
theorem cv_X12_quotient : CV yX12_quotient RX12 cX12_quotient 9 none 4 := ⟨w_1256, w_43, w_80, w_1257, rfl, by decide +kernel, by decide +kernel, by decide +kernel⟩
abbrev rm_X12_isLess : Room := { frames := 1, cells := 0, slots := 0, locals := 25 }
def wp_X12_isLess_B14  (Q : Bool → Prop) (K14 : Int → Int → Int → Int → Prop) (M : Mem) (x8 : Int) (x10 : Int) (x12 : Int) (x14 : Int) : Prop :=
  wp_J9_floorDiv_f86c9 x8 x10 M (fun r18 =>
  wp_J9_floorDiv_f86c9 x12 x14 M (fun r27 =>
  (((w64 r18 = w64 r27) → (
    (((¬ w64 (x12 - (r27 * x14)) = w64 0) → (
      (((¬ w64 (x8 - (r18 * x10)) = w64 0) → (
        K14 x14 (x12 - (r27 * x14)) x10 (x8 - (r18 * x10)))) ∧
      (¬ (¬ w64 (x8 - (r18 * x10)) = w64 0) → (
        Q true))))) ∧
    (¬ (¬ w64 (x12 - (r27 * x14)) = w64 0) → (
      Q false))))) ∧
  (¬ (w64 r18 = w64 r27) → (
    (((w64 r27 ≤ w64 r18) → (
      Q false)) ∧
    (¬ (w64 r27 ≤ w64 r18) → (
      Q true))))))))
def wp_X12_isLess_L14  (Q : Bool → Prop) (M : Mem) (x8 : Int) (x10 : Int) (x12 : Int) (x14 : Int) : Prop :=
  ∃ (I : Int → Int → Int → Int → Prop) (μ : Int → Int → Int → Int → Nat), I x8 x10 x12 x14 ∧ ∀ (x8 : Int) (x10 : Int) (x12 : Int) (x14 : Int), I x8 x10 x12 x14 →
    wp_X12_isLess_B14 Q (fun x8' x10' x12' x14' => I x8' x10' x12' x14' ∧ μ x8' x10' x12' x14' < μ x8 x10 x12 x14) M x8 x10 x12 x14
def wp_X12_isLess (a0 : Int) (a1 : Int) (a2 : Int) (a3 : Int) (M : Mem) (Q : Bool → Prop) : Prop :=
  wp_X12_isLess_L14 Q M a0 a1 a2 a3
set_option maxRecDepth 100000 in
set_option maxHeartbeats 4000000 in
theorem bk_X12_isLess_B14 {g : En} {p : Program} {l : Launch} {e : Env} {s : State} {m : MethodId} {args : Array Value} {below : List Frame} {meth : Method} {c : Code} {M : Mem} {Q : Bool → Prop} {K14 : Int → Int → Int → Int → Prop} {x8 : Int} {x10 : Int} {x12 : Int} {x14 : Int} (F : Fx g p s m args meth c cX12_isLess 24 RX12) (hr : meth.sig.returnType = (some .boolean))
    (hK14 : ∀ (x8' : Int) (x10' : Int) (x12' : Int) (x14' : Int), K14 x8' x10' x12' x14' → Z g p l e rm_X12_isLess s m args below meth c 24 (MQ below (va_Qi (S := Bool × Mem) (fun r u => r = i3 (bz u.1) ∧ (u.2 = M ∧ Q u.1)) (fun u => Rp g u.2) (aR g)) args s 0 0 (aR g)) M 14 [(8, .long (i6 x8')), (10, .long (i6 x10')), (12, .long (i6 x12')), (14, .long (i6 x14'))] [])
    (hw : wp_X12_isLess_B14 Q K14 M x8 x10 x12 x14) : Z g p l e rm_X12_isLess s m args below meth c 24 (MQ below (va_Qi (S := Bool × Mem) (fun r u => r = i3 (bz u.1) ∧ (u.2 = M ∧ Q u.1)) (fun u => Rp g u.2) (aR g)) args s 0 0 (aR g)) M 14 [(8, .long (i6 x8)), (10, .long (i6 x10)), (12, .long (i6 x12)), (14, .long (i6 x14))] [] := by
  refine z_lload F dX12_isLess_14 rfl 0 rfl ?_
  refine z_lload F dX12_isLess_16 rfl 1 rfl ?_
  refine z_cSlp (As := [.long (i6 x8), .long (i6 x10)]) (st := []) F (c_J9_floorDiv_f86c9 l g hw) cs_J9_floorDiv_f86c9 w_1322 ⟨rfl, rfl, Nat.le_of_ble_eq_true rfl, Nat.le_of_ble_eq_true rfl⟩ rfl (Nat.le_of_ble_eq_true rfl) dX12_isLess_18 rfl (fun r18 hw => ?_)
  refine z_lstore F dX12_isLess_21 rfl (by decide) rfl ?_
  refine z_lload F dX12_isLess_23 rfl 3 rfl ?_
  refine z_lload F dX12_isLess_25 rfl 4 rfl ?_
  refine z_cSlp (As := [.long (i6 x12), .long (i6 x14)]) (st := []) F (c_J9_floorDiv_f86c9 l g hw) cs_J9_floorDiv_f86c9 w_1322 ⟨rfl, rfl, Nat.le_of_ble_eq_true rfl, Nat.le_of_ble_eq_true rfl⟩ rfl (Nat.le_of_ble_eq_true rfl) dX12_isLess_27 rfl (fun r27 hw => ?_)
  refine z_lstore F dX12_isLess_30 rfl (by decide) rfl ?_
  refine z_lload F dX12_isLess_32 rfl 1 rfl ?_
  refine z_lload F dX12_isLess_34 rfl 0 rfl ?_
  refine z_lcmp_eq F dX12_isLess_36 rfl dX12_isLess_37 rfl rfl hw (fun hw => ?_) (fun hw => ?_)
  · refine z_lload F dX12_isLess_54 rfl 2 rfl ?_
    refine z_lload F dX12_isLess_56 rfl 1 rfl ?_
    refine z_lload F dX12_isLess_58 rfl 3 rfl ?_
    refine z_lmul F dX12_isLess_60 rfl ?_
    refine z_lsub F dX12_isLess_61 rfl ?_
    refine z_lstore F dX12_isLess_62 rfl (by decide) rfl ?_
    refine z_lload F dX12_isLess_64 rfl 5 rfl ?_
    refine z_lload F dX12_isLess_66 rfl 1 rfl ?_
    refine z_lload F dX12_isLess_68 rfl 6 rfl ?_
    refine z_lmul F dX12_isLess_70 rfl ?_
    refine z_lsub F dX12_isLess_71 rfl ?_
    refine z_lstore F dX12_isLess_72 rfl (by decide) rfl ?_
    refine z_lload F dX12_isLess_74 rfl 0 rfl ?_
    refine z_lconst (v := 0) F dX12_isLess_76 rfl rfl ?_
    refine z_lcmp_ne F dX12_isLess_77 rfl dX12_isLess_78 rfl rfl hw (fun hw => ?_) (fun hw => ?_)
    · refine z_lload F dX12_isLess_83 rfl 1 rfl ?_
      refine z_lconst (v := 0) F dX12_isLess_85 rfl rfl ?_
      refine z_lcmp_ne F dX12_isLess_86 rfl dX12_isLess_87 rfl rfl hw (fun hw => ?_) (fun hw => ?_)
      · refine z_lload F dX12_isLess_92 rfl 7 rfl ?_
        refine z_lstore F dX12_isLess_94 rfl (by decide) rfl ?_
        refine z_lload F dX12_isLess_96 rfl 5 rfl ?_
        refine z_lstore F dX12_isLess_98 rfl (by decide) rfl ?_
        refine z_lload F dX12_isLess_100 rfl 2 rfl ?_
        refine z_lstore F dX12_isLess_102 rfl (by decide) rfl ?_
        refine z_lload F dX12_isLess_104 rfl 4 rfl ?_
        refine z_lstore F dX12_isLess_106 rfl (by decide) rfl ?_
        refine z_goto F dX12_isLess_108 rfl ?_
        refine z_sub [3, 1, 2, 0] rfl ?_
        exact hK14 x14 (x12 - (r27 * x14)) x10 (x8 - (r18 * x10)) hw
      · refine z_iconst F dX12_isLess_90 rfl ?_
        exact z_zretp (x := true) F hr dX12_isLess_91 hw
    · refine z_iconst F dX12_isLess_81 rfl ?_
      exact z_zretp (x := false) F hr dX12_isLess_82 hw
  · refine z_lload F dX12_isLess_40 rfl 1 rfl ?_
    refine z_lload F dX12_isLess_42 rfl 0 rfl ?_
    refine z_lcmp_ge F dX12_isLess_44 rfl dX12_isLess_45 rfl rfl hw (fun hw => ?_) (fun hw => ?_)
    · refine z_iconst F dX12_isLess_52 rfl ?_
      exact z_zretp (x := false) F hr dX12_isLess_53 hw
    · refine z_iconst F dX12_isLess_48 rfl ?_
      refine z_goto F dX12_isLess_49 rfl ?_
      exact z_zretp (x := true) F hr dX12_isLess_53 hw
set_option maxRecDepth 100000 in
set_option maxHeartbeats 4000000 in
theorem lp_X12_isLess_14 {g : En} {p : Program} {l : Launch} {e : Env} {s : State} {m : MethodId} {args : Array Value} {below : List Frame} {meth : Method} {c : Code} {M : Mem} {Q : Bool → Prop} {x8 : Int} {x10 : Int} {x12 : Int} {x14 : Int} (F : Fx g p s m args meth c cX12_isLess 24 RX12) (hr : meth.sig.returnType = (some .boolean))
    (hw : wp_X12_isLess_L14 Q M x8 x10 x12 x14) : Z g p l e rm_X12_isLess s m args below meth c 24 (MQ below (va_Qi (S := Bool × Mem) (fun r u => r = i3 (bz u.1) ∧ (u.2 = M ∧ Q u.1)) (fun u => Rp g u.2) (aR g)) args s 0 0 (aR g)) M 14 [(8, .long (i6 x8)), (10, .long (i6 x10)), (12, .long (i6 x12)), (14, .long (i6 x14))] [] := by
  obtain ⟨I, μ, h0, hb⟩ := hw
  have key : ∀ (n : Nat) (x8 : Int) (x10 : Int) (x12 : Int) (x14 : Int), I x8 x10 x12 x14 → μ x8 x10 x12 x14 < n → Z g p l e rm_X12_isLess s m args below meth c 24 (MQ below (va_Qi (S := Bool × Mem) (fun r u => r = i3 (bz u.1) ∧ (u.2 = M ∧ Q u.1)) (fun u => Rp g u.2) (aR g)) args s 0 0 (aR g)) M 14 [(8, .long (i6 x8)), (10, .long (i6 x10)), (12, .long (i6 x12)), (14, .long (i6 x14))] [] := by
    intro n
    induction n with
    | zero => exact fun _ _ _ _ _ h => absurd h (Nat.not_lt_zero _)
    | succ n ih =>
      intro x8 x10 x12 x14 hI hn
      exact bk_X12_isLess_B14 F hr (fun x8' x10' x12' x14' hk => ih x8' x10' x12' x14' hk.1 (Nat.lt_of_lt_of_le hk.2 (Nat.le_of_lt_succ hn))) (hb x8 x10 x12 x14 hI)
  exact key _ x8 x10 x12 x14 h0 (Nat.lt_succ_self _)
set_option maxRecDepth 100000 in
set_option maxHeartbeats 4000000 in
theorem c_X12_isLess (l : Launch) (g : En) {a0 : Int} {a1 : Int} {a2 : Int} {a3 : Int} {M : Mem} {Q : Bool → Prop} (hw : wp_X12_isLess a0 a1 a2 a3 M Q) :
    Met l yX12_isLess (WS yX12_isLess cX12_isLess 24 (some .boolean)) rm_X12_isLess (va_Pc [.long (i6 a0), .long (i6 a1), .long (i6 a2), .long (i6 a3)] (Rp g M)) (va_Qi (S := Bool × Mem) (fun r u => r = i3 (bz u.1) ∧ (u.2 = M ∧ Q u.1)) (fun u => Rp g u.2) (aR g)) 0 0 (aR g) := by
  refine met_Z (plainFor_of_name rfl) (Nat.le_of_ble_eq_true rfl) ?_
  intro p e s m args below meth c F hr _
  show Z g p l e rm_X12_isLess s m args below meth c 24 (MQ below (va_Qi (S := Bool × Mem) (fun r u => r = i3 (bz u.1) ∧ (u.2 = M ∧ Q u.1)) (fun u => Rp g u.2) (aR g)) args s 0 0 (aR g)) M 0 [(0, .long (i6 a0)), (2, .long (i6 a1)), (4, .long (i6 a2)), (6, .long (i6 a3))] []
  refine z_lload_n F dX12_isLess_0 rfl rfl 0 rfl ?_
  refine z_lstore F dX12_isLess_1 rfl (by decide) rfl ?_
  refine z_lload_n F dX12_isLess_3 rfl rfl 2 rfl ?_
  refine z_lstore F dX12_isLess_4 rfl (by decide) rfl ?_
  refine z_lload F dX12_isLess_6 rfl 4 rfl ?_
  refine z_lstore F dX12_isLess_8 rfl (by decide) rfl ?_
  refine z_lload F dX12_isLess_10 rfl 6 rfl ?_
  refine z_lstore F dX12_isLess_12 rfl (by decide) rfl ?_
  refine z_sub [3, 2, 1, 0] rfl ?_
  exact lp_X12_isLess_14 F hr  hw
theorem cs_X12_isLess : CS yX12_isLess cX12_isLess 24 (some .boolean) 4 := ⟨w_1320, w_80, w_1321, by decide +kernel, by decide +kernel, by decide +kernel⟩
abbrev rm_X12_part : Room := { frames := 0, cells := 0, slots := 0, locals := 0 }
def wp_X12_part (a0 : Nat) (a1 : Int) (M : Mem) (Q : Int → Prop) : Prop :=
  (((fb M a0 8) = false → (
    (((¬ w32 a1 = 0) → (
      Q (M a0 10))) ∧
    (¬ (¬ w32 a1 = 0) → (
      Q (M a0 9)))))) ∧
  ((fb M a0 8) = true → (
    Q (-9223372036854775808))))
set_option maxRecDepth 100000 in
set_option maxHeartbeats 4000000 in
theorem c_X12_part (l : Launch) (g : En) {a0 : Nat} {a1 : Int} {M : Mem} {Q : Int → Prop} (k0 : kd a0 = 12) (hw : wp_X12_part a0 a1 M Q) :
    Met l yX12_part (WS yX12_part cX12_part 2 (some .long)) rm_X12_part (va_Pc [.ref (g.2.2.1 + a0), .int (i3 a1)] (Rp g M)) (va_Ql (S := Int × Mem) (fun r u => r = i6 u.1 ∧ (u.2 = M ∧ Q u.1)) (fun u => Rp g u.2) (aR g)) 0 0 (aR g) := by
  refine met_Z (plainFor_of_name rfl) (Nat.le_of_ble_eq_true rfl) ?_
  intro p e s m args below meth c F hr _
  show Z g p l e rm_X12_part s m args below meth c 2 (MQ below (va_Ql (S := Int × Mem) (fun r u => r = i6 u.1 ∧ (u.2 = M ∧ Q u.1)) (fun u => Rp g u.2) (aR g)) args s 0 0 (aR g)) M 0 [(0, .ref (g.2.2.1 + a0)), (1, .int (i3 a1))] []
  refine z_aload_n F dX12_part_0 rfl rfl 0 rfl ?_
  refine z_getB F fl_1000 k0 dX12_part_1 rfl ?_
  refine z_ifb_eq F dX12_part_4 rfl rfl hw (fun hw => ?_) (fun hw => ?_)
  · refine z_iload_n F dX12_part_13 rfl rfl 1 rfl ?_
    refine z_if_ne F dX12_part_14 rfl rfl hw (fun hw => ?_) (fun hw => ?_)
    · refine z_aload_n F dX12_part_24 rfl rfl 0 rfl ?_
      refine z_getL F fl_1002 k0 dX12_part_25 rfl ?_
      exact z_lretp (x := (M a0 10)) F hr dX12_part_28 hw
    · refine z_aload_n F dX12_part_17 rfl rfl 0 rfl ?_
      refine z_getL F fl_1001 k0 dX12_part_18 rfl ?_
      refine z_goto F dX12_part_21 rfl ?_
      exact z_lretp (x := (M a0 9)) F hr dX12_part_28 hw
  · refine z_ldc2 (n := (-9223372036854775808)) F w_1222 (by decide) dX12_part_7 rfl ?_
    refine z_goto F dX12_part_10 rfl ?_
    exact z_lretp (x := (-9223372036854775808)) F hr dX12_part_28 hw
theorem cv_X12_part : CV yX12_part RX12 cX12_part 2 (some .long) 1 := ⟨w_1276, w_48, w_80, w_1277, rfl, by decide +kernel, by decide +kernel, by decide +kernel⟩
abbrev rm_X12_isRow : Room := { frames := 1, cells := 0, slots := 0, locals := 22 }
def wp_X12_isRow (a0 : Nat) (a1 : Int) (M : Mem) (Q : Bool → Prop) : Prop :=
  wp_X12_within a1 (-2) ((M a0 3) - 1) M (fun r9 =>
  Q r9)
set_option maxRecDepth 100000 in
set_option maxHeartbeats 4000000 in
theorem c_X12_isRow (l : Launch) (g : En) {a0 : Nat} {a1 : Int} {M : Mem} {Q : Bool → Prop} (k0 : kd a0 = 12) (hw : wp_X12_isRow a0 a1 M Q) :
    Met l yX12_isRow (WS yX12_isRow cX12_isRow 2 (some .boolean)) rm_X12_isRow (va_Pc [.ref (g.2.2.1 + a0), .int (i3 a1)] (Rp g M)) (va_Qi (S := Bool × Mem) (fun r u => r = i3 (bz u.1) ∧ (u.2 = M ∧ Q u.1)) (fun u => Rp g u.2) (aR g)) 0 0 (aR g) := by
  refine met_Z (plainFor_of_name rfl) (Nat.le_of_ble_eq_true rfl) ?_
  intro p e s m args below meth c F hr _
  show Z g p l e rm_X12_isRow s m args below meth c 2 (MQ below (va_Qi (S := Bool × Mem) (fun r u => r = i3 (bz u.1) ∧ (u.2 = M ∧ Q u.1)) (fun u => Rp g u.2) (aR g)) args s 0 0 (aR g)) M 0 [(0, .ref (g.2.2.1 + a0)), (1, .int (i3 a1))] []
  refine z_iload_n F dX12_isRow_0 rfl rfl 1 rfl ?_
  refine z_bipush F dX12_isRow_1 (by decide) rfl ?_
  refine z_aload_n F dX12_isRow_3 rfl rfl 0 rfl ?_
  refine z_getI F fl_995 k0 dX12_isRow_4 rfl ?_
  refine z_iconst F dX12_isRow_7 rfl ?_
  refine z_isub F dX12_isRow_8 rfl ?_
  refine z_cSbp (As := [.int (i3 a1), .int (i3 (-2)), .int (i3 ((M a0 3) - 1))]) (st := []) F (c_X12_within l g hw) cs_X12_within w_1102 ⟨rfl, rfl, Nat.le_of_ble_eq_true rfl, Nat.le_of_ble_eq_true rfl⟩ rfl (Nat.le_of_ble_eq_true rfl) dX12_isRow_9 rfl (fun r9 hw => ?_)
  exact z_zretp (x := r9) F hr dX12_isRow_12 hw
theorem cv_X12_isRow : CV yX12_isRow RX12 cX12_isRow 2 (some .boolean) 1 := ⟨w_1220, w_36, w_80, w_1221, rfl, by decide +kernel, by decide +kernel, by decide +kernel⟩
abbrev rm_X12_amountAt : Room := { frames := 5, cells := 0, slots := 0, locals := 118 }
def wp_X12_amountAt_B33 (a0 : Nat) (Q : Int → Prop) (K33 : Int → Int → Prop) (M : Mem) (x2 : Int) (x3 : Int) (x4 : Int) : Prop :=
  (((w32 (M a0 3) ≤ w32 x4) → (
    Q x3)) ∧
  (¬ (w32 (M a0 3) ≤ w32 x4) → (
    wp_X12_of a0 x4 6 M (fun r48 =>
    wp_X12_paysAtRung a0 x4 x2 M (fun r55 =>
    K33 (x3 + (r48 * r55)) (x4 + 1))))))
def wp_X12_amountAt_L33 (a0 : Nat) (Q : Int → Prop) (M : Mem) (x2 : Int) (x3 : Int) (x4 : Int) : Prop :=
  ∃ (I : Int → Int → Prop) (μ : Int → Int → Nat), I x3 x4 ∧ ∀ (x3 : Int) (x4 : Int), I x3 x4 →
    wp_X12_amountAt_B33 a0 Q (fun x3' x4' => I x3' x4' ∧ μ x3' x4' < μ x3 x4) M x2 x3 x4
def wp_X12_amountAt (a0 : Nat) (a1 : Int) (a2 : Int) (M : Mem) (Q : Int → Prop) : Prop :=
  (((w32 a1 < 0) → (
    (((¬ w32 a1 = w32 (-1)) → (
      wp_X12_amountAt_L33 a0 Q M a2 0 0)) ∧
    (¬ (¬ w32 a1 = w32 (-1)) → (
      inb (rt a0 6) a2 ∧ (
      inb (rt a0 0) (M (rt a0 6) (ix a2)) ∧ (
      Q (M (rt a0 0) (ix (M (rt a0 6) (ix a2))))))))))) ∧
  (¬ (w32 a1 < 0) → (
    wp_X12_paysAtRung a0 a1 a2 M (fun r7 =>
    Q r7))))
set_option maxRecDepth 100000 in
set_option maxHeartbeats 4000000 in
theorem bk_X12_amountAt_B33 {g : En} {p : Program} {l : Launch} {e : Env} {s : State} {m : MethodId} {args : Array Value} {below : List Frame} {meth : Method} {c : Code} {M : Mem} {a0 : Nat} {Q : Int → Prop} {K33 : Int → Int → Prop} {x2 : Int} {x3 : Int} {x4 : Int} (F : Fx g p s m args meth c cX12_amountAt 5 RX12) (hr : meth.sig.returnType = (some .int)) (k0 : kd a0 = 12)
    (hK33 : ∀ (x3' : Int) (x4' : Int), K33 x3' x4' → Z g p l e rm_X12_amountAt s m args below meth c 5 (MQ below (va_Qi (S := Int × Mem) (fun r u => r = i3 u.1 ∧ (u.2 = M ∧ Q u.1)) (fun u => Rp g u.2) (aR g)) args s 0 0 (aR g)) M 33 [(0, .ref (g.2.2.1 + a0)), (2, .int (i3 x2)), (3, .int (i3 x3')), (4, .int (i3 x4'))] [])
    (hw : wp_X12_amountAt_B33 a0 Q K33 M x2 x3 x4) : Z g p l e rm_X12_amountAt s m args below meth c 5 (MQ below (va_Qi (S := Int × Mem) (fun r u => r = i3 u.1 ∧ (u.2 = M ∧ Q u.1)) (fun u => Rp g u.2) (aR g)) args s 0 0 (aR g)) M 33 [(0, .ref (g.2.2.1 + a0)), (2, .int (i3 x2)), (3, .int (i3 x3)), (4, .int (i3 x4))] [] := by
  refine z_iload F dX12_amountAt_33 rfl 3 rfl ?_
  refine z_aload_n F dX12_amountAt_35 rfl rfl 0 rfl ?_
  refine z_getI F fl_995 k0 dX12_amountAt_36 rfl ?_
  refine z_icmp_ge F dX12_amountAt_39 rfl rfl hw (fun hw => ?_) (fun hw => ?_)
  · refine z_iload_n F dX12_amountAt_67 rfl rfl 2 rfl ?_
    exact z_iretp (x := x3) F hr dX12_amountAt_68 hw
  · refine z_iload_n F dX12_amountAt_42 rfl rfl 2 rfl ?_
    refine z_aload_n F dX12_amountAt_43 rfl rfl 0 rfl ?_
    refine z_iload F dX12_amountAt_44 rfl 3 rfl ?_
    refine z_bipush F dX12_amountAt_46 (by decide) rfl ?_
    refine z_cVip (As := [.int (i3 x4), .int (i3 6)]) (st := [.int (i3 x3)]) F (c_X12_of l g k0 hw) cv_X12_of w_1155 ⟨rfl, rfl, Nat.le_of_ble_eq_true rfl, Nat.le_of_ble_eq_true rfl⟩ k0 rfl rfl (Nat.le_of_ble_eq_true rfl) dX12_amountAt_48 rfl (fun r48 hw => ?_)
    refine z_aload_n F dX12_amountAt_51 rfl rfl 0 rfl ?_
    refine z_iload F dX12_amountAt_52 rfl 3 rfl ?_
    refine z_iload_n F dX12_amountAt_54 rfl rfl 1 rfl ?_
    refine z_cVip (As := [.int (i3 x4), .int (i3 x2)]) (st := [.int (i3 r48), .int (i3 x3)]) F (c_X12_paysAtRung l g k0 hw) cv_X12_paysAtRung w_1167 ⟨rfl, rfl, Nat.le_of_ble_eq_true rfl, Nat.le_of_ble_eq_true rfl⟩ k0 rfl rfl (Nat.le_of_ble_eq_true rfl) dX12_amountAt_55 rfl (fun r55 hw => ?_)
    refine z_imul F dX12_amountAt_58 rfl ?_
    refine z_iadd F dX12_amountAt_59 rfl ?_
    refine z_istore_n F dX12_amountAt_60 rfl rfl (by decide) rfl ?_
    refine z_iinc F dX12_amountAt_61 rfl 3 rfl (by decide) rfl ?_
    refine z_goto F dX12_amountAt_64 rfl ?_
    refine z_sub [2, 3, 1, 0] rfl ?_
    exact hK33 (x3 + (r48 * r55)) (x4 + 1) hw
set_option maxRecDepth 100000 in
set_option maxHeartbeats 4000000 in
theorem lp_X12_amountAt_33 {g : En} {p : Program} {l : Launch} {e : Env} {s : State} {m : MethodId} {args : Array Value} {below : List Frame} {meth : Method} {c : Code} {M : Mem} {a0 : Nat} {Q : Int → Prop} {x2 : Int} {x3 : Int} {x4 : Int} (F : Fx g p s m args meth c cX12_amountAt 5 RX12) (hr : meth.sig.returnType = (some .int)) (k0 : kd a0 = 12)
    (hw : wp_X12_amountAt_L33 a0 Q M x2 x3 x4) : Z g p l e rm_X12_amountAt s m args below meth c 5 (MQ below (va_Qi (S := Int × Mem) (fun r u => r = i3 u.1 ∧ (u.2 = M ∧ Q u.1)) (fun u => Rp g u.2) (aR g)) args s 0 0 (aR g)) M 33 [(0, .ref (g.2.2.1 + a0)), (2, .int (i3 x2)), (3, .int (i3 x3)), (4, .int (i3 x4))] [] := by
  obtain ⟨I, μ, h0, hb⟩ := hw
  have key : ∀ (n : Nat) (x3 : Int) (x4 : Int), I x3 x4 → μ x3 x4 < n → Z g p l e rm_X12_amountAt s m args below meth c 5 (MQ below (va_Qi (S := Int × Mem) (fun r u => r = i3 u.1 ∧ (u.2 = M ∧ Q u.1)) (fun u => Rp g u.2) (aR g)) args s 0 0 (aR g)) M 33 [(0, .ref (g.2.2.1 + a0)), (2, .int (i3 x2)), (3, .int (i3 x3)), (4, .int (i3 x4))] [] := by
    intro n
    induction n with
    | zero => exact fun _ _ _ h => absurd h (Nat.not_lt_zero _)
    | succ n ih =>
      intro x3 x4 hI hn
      exact bk_X12_amountAt_B33 F hr k0 (fun x3' x4' hk => ih x3' x4' hk.1 (Nat.lt_of_lt_of_le hk.2 (Nat.le_of_lt_succ hn))) (hb x3 x4 hI)
  exact key _ x3 x4 h0 (Nat.lt_succ_self _)
set_option maxRecDepth 100000 in
set_option maxHeartbeats 4000000 in
theorem c_X12_amountAt (l : Launch) (g : En) {a0 : Nat} {a1 : Int} {a2 : Int} {M : Mem} {Q : Int → Prop} (k0 : kd a0 = 12) (hw : wp_X12_amountAt a0 a1 a2 M Q) :
    Met l yX12_amountAt (WS yX12_amountAt cX12_amountAt 5 (some .int)) rm_X12_amountAt (va_Pc [.ref (g.2.2.1 + a0), .int (i3 a1), .int (i3 a2)] (Rp g M)) (va_Qi (S := Int × Mem) (fun r u => r = i3 u.1 ∧ (u.2 = M ∧ Q u.1)) (fun u => Rp g u.2) (aR g)) 0 0 (aR g) := by
  refine met_Z (plainFor_of_name rfl) (Nat.le_of_ble_eq_true rfl) ?_
  intro p e s m args below meth c F hr _
  show Z g p l e rm_X12_amountAt s m args below meth c 5 (MQ below (va_Qi (S := Int × Mem) (fun r u => r = i3 u.1 ∧ (u.2 = M ∧ Q u.1)) (fun u => Rp g u.2) (aR g)) args s 0 0 (aR g)) M 0 [(0, .ref (g.2.2.1 + a0)), (1, .int (i3 a1)), (2, .int (i3 a2))] []
  refine z_iload_n F dX12_amountAt_0 rfl rfl 1 rfl ?_
  refine z_if_lt F dX12_amountAt_1 rfl rfl hw (fun hw => ?_) (fun hw => ?_)
  · refine z_iload_n F dX12_amountAt_11 rfl rfl 1 rfl ?_
    refine z_iconst F dX12_amountAt_12 rfl ?_
    refine z_icmp_ne F dX12_amountAt_13 rfl rfl hw (fun hw => ?_) (fun hw => ?_)
    · refine z_iconst F dX12_amountAt_28 rfl ?_
      refine z_istore_n F dX12_amountAt_29 rfl rfl (by decide) rfl ?_
      refine z_iconst F dX12_amountAt_30 rfl ?_
      refine z_istore F dX12_amountAt_31 rfl (by decide) rfl ?_
      refine z_sub [2, 4, 1, 0] rfl ?_
      exact lp_X12_amountAt_33 F hr k0 hw
    · refine z_aload_n F dX12_amountAt_16 rfl rfl 0 rfl ?_
      refine z_getR F fl_992 k0 dX12_amountAt_17 rfl ?_
      refine z_aload_n F dX12_amountAt_20 rfl rfl 0 rfl ?_
      refine z_getR F fl_998 k0 dX12_amountAt_21 rfl ?_
      refine z_iload_n F dX12_amountAt_24 rfl rfl 2 rfl ?_
      refine z_iald F (tk_12_6 k0) dX12_amountAt_25 rfl hw (fun hw => ?_)
      refine z_iald F (tk_12_0 k0) dX12_amountAt_26 rfl hw (fun hw => ?_)
      exact z_iretp (x := (M (rt a0 0) (ix (M (rt a0 6) (ix a2))))) F hr dX12_amountAt_27 hw
  · refine z_aload_n F dX12_amountAt_4 rfl rfl 0 rfl ?_
    refine z_iload_n F dX12_amountAt_5 rfl rfl 1 rfl ?_
    refine z_iload_n F dX12_amountAt_6 rfl rfl 2 rfl ?_
    refine z_cVip (As := [.int (i3 a1), .int (i3 a2)]) (st := []) F (c_X12_paysAtRung l g k0 hw) cv_X12_paysAtRung w_1167 ⟨rfl, rfl, Nat.le_of_ble_eq_true rfl, Nat.le_of_ble_eq_true rfl⟩ k0 rfl rfl (Nat.le_of_ble_eq_true rfl) dX12_amountAt_7 rfl (fun r7 hw => ?_)
    exact z_iretp (x := r7) F hr dX12_amountAt_10 hw
theorem cv_X12_amountAt : CV yX12_amountAt RX12 cX12_amountAt 5 (some .int) 2 := ⟨w_1233, w_39, w_80, w_1234, rfl, by decide +kernel, by decide +kernel, by decide +kernel⟩
abbrev rm_X12_factor : Room := { frames := 1, cells := 0, slots := 0, locals := 22 }
def wp_X12_factor (a0 : Nat) (a1 : Int) (M : Mem) (Q : Int → Prop) : Prop :=
  inb (rt a0 6) a1 ∧ (
  wp_X12_rateOf a0 (M (rt a0 6) (ix a1)) M (fun r8 =>
  Q (4 + r8)))
set_option maxRecDepth 100000 in
set_option maxHeartbeats 4000000 in
theorem c_X12_factor (l : Launch) (g : En) {a0 : Nat} {a1 : Int} {M : Mem} {Q : Int → Prop} (k0 : kd a0 = 12) (hw : wp_X12_factor a0 a1 M Q) :
    Met l yX12_factor (WS yX12_factor cX12_factor 2 (some .int)) rm_X12_factor (va_Pc [.ref (g.2.2.1 + a0), .int (i3 a1)] (Rp g M)) (va_Qi (S := Int × Mem) (fun r u => r = i3 u.1 ∧ (u.2 = M ∧ Q u.1)) (fun u => Rp g u.2) (aR g)) 0 0 (aR g) := by
  refine met_Z (plainFor_of_name rfl) (Nat.le_of_ble_eq_true rfl) ?_
  intro p e s m args below meth c F hr _
  show Z g p l e rm_X12_factor s m args below meth c 2 (MQ below (va_Qi (S := Int × Mem) (fun r u => r = i3 u.1 ∧ (u.2 = M ∧ Q u.1)) (fun u => Rp g u.2) (aR g)) args s 0 0 (aR g)) M 0 [(0, .ref (g.2.2.1 + a0)), (1, .int (i3 a1))] []
  refine z_iconst F dX12_factor_0 rfl ?_
  refine z_aload_n F dX12_factor_1 rfl rfl 0 rfl ?_
  refine z_aload_n F dX12_factor_2 rfl rfl 0 rfl ?_
  refine z_getR F fl_998 k0 dX12_factor_3 rfl ?_
  refine z_iload_n F dX12_factor_6 rfl rfl 1 rfl ?_
  refine z_iald F (tk_12_6 k0) dX12_factor_7 rfl hw (fun hw => ?_)
  refine z_cVip (As := [.int (i3 (M (rt a0 6) (ix a1)))]) (st := [.int (i3 4)]) F (c_X12_rateOf l g k0 hw) cv_X12_rateOf w_1131 ⟨rfl, rfl, Nat.le_of_ble_eq_true rfl, Nat.le_of_ble_eq_true rfl⟩ k0 rfl rfl (Nat.le_of_ble_eq_true rfl) dX12_factor_8 rfl (fun r8 hw => ?_)
  refine z_iadd F dX12_factor_11 rfl ?_
  exact z_iretp (x := (4 + r8)) F hr dX12_factor_12 hw
theorem cv_X12_factor : CV yX12_factor RX12 cX12_factor 2 (some .int) 1 := ⟨w_1241, w_41, w_80, w_1242, rfl, by decide +kernel, by decide +kernel, by decide +kernel⟩
abbrev rm_X12_byFactor : Room := { frames := 5, cells := 0, slots := 0, locals := 132 }
def wp_X12_byFactor (a0 : Nat) (a1 : Int) (a2 : Bool) (M : Mem) (Q : Mem → Prop) : Prop :=
  wp_X12_factor a0 a1 M (fun r14 =>
  wp_X12_lowest a0 (w32 r14) 4 M (fun M21 =>
  ((a2 = false → (
    wp_X12_product a0 (M a0 9) (M a0 10) (M21 a0 9) (M21 a0 10) M21 (fun M58 =>
    Q M58))) ∧
  (a2 = true → (
    wp_X12_quotient a0 (M a0 9) (M a0 10) (M21 a0 9) (M21 a0 10) M21 (fun M40 =>
    Q M40))))))
set_option maxRecDepth 100000 in
set_option maxHeartbeats 4000000 in
theorem c_X12_byFactor (l : Launch) (g : En) {a0 : Nat} {a1 : Int} {a2 : Bool} {M : Mem} {Q : Mem → Prop} (k0 : kd a0 = 12) (hw : wp_X12_byFactor a0 a1 a2 M Q) :
    Met l yX12_byFactor (WS yX12_byFactor cX12_byFactor 7 none) rm_X12_byFactor (va_Pc [.ref (g.2.2.1 + a0), .int (i3 a1), .int (i3 (bz a2))] (Rp g M)) (va_Qv (S := Mem) Q (fun u => Rp g u) (aR g)) 0 0 (aR g) := by
  refine met_Z (plainFor_of_name rfl) (Nat.le_of_ble_eq_true rfl) ?_
  intro p e s m args below meth c F hr _
  show Z g p l e rm_X12_byFactor s m args below meth c 7 (MQ below (va_Qv (S := Mem) Q (fun u => Rp g u) (aR g)) args s 0 0 (aR g)) M 0 [(0, .ref (g.2.2.1 + a0)), (1, .int (i3 a1)), (2, .int (i3 (bz a2)))] []
  refine z_aload_n F dX12_byFactor_0 rfl rfl 0 rfl ?_
  refine z_getL F fl_1001 k0 dX12_byFactor_1 rfl ?_
  refine z_lstore_n F dX12_byFactor_4 rfl rfl (by decide) rfl ?_
  refine z_aload_n F dX12_byFactor_5 rfl rfl 1 rfl ?_
  refine z_getL F fl_1002 k0 dX12_byFactor_6 rfl ?_
  refine z_lstore F dX12_byFactor_9 rfl (by decide) rfl ?_
  refine z_aload_n F dX12_byFactor_11 rfl rfl 2 rfl ?_
  refine z_aload_n F dX12_byFactor_12 rfl rfl 2 rfl ?_
  refine z_iload_n F dX12_byFactor_13 rfl rfl 3 rfl ?_
  refine z_cVip (As := [.int (i3 a1)]) (st := [.ref (g.2.2.1 + a0)]) F (c_X12_factor l g k0 hw) cv_X12_factor w_1239 ⟨rfl, rfl, Nat.le_of_ble_eq_true rfl, Nat.le_of_ble_eq_true rfl⟩ k0 rfl rfl (Nat.le_of_ble_eq_true rfl) dX12_byFactor_14 rfl (fun r14 hw => ?_)
  refine z_i2l F dX12_byFactor_17 rfl ?_
  refine z_ldc2 (n := 4) F w_1243 (by decide) dX12_byFactor_18 rfl ?_
  refine z_cVv (As := [.long (i6 (w32 r14)), .long (i6 4)]) (st := []) F (c_X12_lowest l g k0 hw) cv_X12_lowest w_1244 ⟨rfl, rfl, Nat.le_of_ble_eq_true rfl, Nat.le_of_ble_eq_true rfl⟩ k0 rfl rfl (Nat.le_of_ble_eq_true rfl) dX12_byFactor_21 rfl (fun M21 hw => ?_)
  refine z_iload_n F dX12_byFactor_24 rfl rfl 4 rfl ?_
  refine z_ifb_eq F dX12_byFactor_25 rfl rfl hw (fun hw => ?_) (fun hw => ?_)
  · refine z_aload_n F dX12_byFactor_46 rfl rfl 2 rfl ?_
    refine z_lload_n F dX12_byFactor_47 rfl rfl 1 rfl ?_
    refine z_lload F dX12_byFactor_48 rfl 0 rfl ?_
    refine z_aload_n F dX12_byFactor_50 rfl rfl 2 rfl ?_
    refine z_getL F fl_1001 k0 dX12_byFactor_51 rfl ?_
    refine z_aload_n F dX12_byFactor_54 rfl rfl 2 rfl ?_
    refine z_getL F fl_1002 k0 dX12_byFactor_55 rfl ?_
    refine z_cVv (As := [.long (i6 (M a0 9)), .long (i6 (M a0 10)), .long (i6 (M21 a0 9)), .long (i6 (M21 a0 10))]) (st := []) F (c_X12_product l g k0 hw) cv_X12_product w_1258 ⟨rfl, rfl, Nat.le_of_ble_eq_true rfl, Nat.le_of_ble_eq_true rfl⟩ k0 rfl rfl (Nat.le_of_ble_eq_true rfl) dX12_byFactor_58 rfl (fun M58 hw => ?_)
    exact z_vret F hr dX12_byFactor_61 hw
  · refine z_aload_n F dX12_byFactor_28 rfl rfl 2 rfl ?_
    refine z_lload_n F dX12_byFactor_29 rfl rfl 1 rfl ?_
    refine z_lload F dX12_byFactor_30 rfl 0 rfl ?_
    refine z_aload_n F dX12_byFactor_32 rfl rfl 2 rfl ?_
    refine z_getL F fl_1001 k0 dX12_byFactor_33 rfl ?_
    refine z_aload_n F dX12_byFactor_36 rfl rfl 2 rfl ?_
    refine z_getL F fl_1002 k0 dX12_byFactor_37 rfl ?_
    refine z_cVv (As := [.long (i6 (M a0 9)), .long (i6 (M a0 10)), .long (i6 (M21 a0 9)), .long (i6 (M21 a0 10))]) (st := []) F (c_X12_quotient l g k0 hw) cv_X12_quotient w_1254 ⟨rfl, rfl, Nat.le_of_ble_eq_true rfl, Nat.le_of_ble_eq_true rfl⟩ k0 rfl rfl (Nat.le_of_ble_eq_true rfl) dX12_byFactor_40 rfl (fun M40 hw => ?_)
    refine z_goto F dX12_byFactor_43 rfl ?_
    exact z_vret F hr dX12_byFactor_61 hw
theorem cv_X12_byFactor : CV yX12_byFactor RX12 cX12_byFactor 7 none 2 := ⟨w_1237, w_40, w_80, w_1238, rfl, by decide +kernel, by decide +kernel, by decide +kernel⟩
abbrev rm_X12_worthAt : Room := { frames := 6, cells := 0, slots := 0, locals := 158 }
def wp_X12_worthAt_B18 (a0 : Nat) (Q : Mem → Prop) (K18 : Mem → Int → Prop) (M : Mem) (x2 : Int) (x3 : Int) : Prop :=
  (((w32 x2 < w32 x3) → (
    Q M)) ∧
  (¬ (w32 x2 < w32 x3) → (
    wp_X12_byFactor a0 x3 true M (fun M26 =>
    K18 M26 (x3 + 1)))))
def wp_X12_worthAt_L18 (a0 : Nat) (Q : Mem → Prop) (M : Mem) (x2 : Int) (x3 : Int) : Prop :=
  ∃ (I : Mem → Int → Prop) (μ : Mem → Int → Nat), I M x3 ∧ ∀ (M : Mem) (x3 : Int), I M x3 →
    wp_X12_worthAt_B18 a0 Q (fun M' x3' => I M' x3' ∧ μ M' x3' < μ M x3) M x2 x3
def wp_X12_worthAt (a0 : Nat) (a1 : Int) (a2 : Int) (M : Mem) (Q : Mem → Prop) : Prop :=
  wp_X12_amountAt a0 a1 a2 M (fun r4 =>
  ∀ M8 : Mem, M8 = st2 M a0 9 (w32 r4) →
  ∀ M13 : Mem, M13 = st2 M8 a0 10 1 →
  wp_X12_worthAt_L18 a0 Q M13 a2 0)
set_option maxRecDepth 100000 in
set_option maxHeartbeats 4000000 in
theorem bk_X12_worthAt_B18 {g : En} {p : Program} {l : Launch} {e : Env} {s : State} {m : MethodId} {args : Array Value} {below : List Frame} {meth : Method} {c : Code} {M : Mem} {a0 : Nat} {Q : Mem → Prop} {K18 : Mem → Int → Prop} {x2 : Int} {x3 : Int} (F : Fx g p s m args meth c cX12_worthAt 4 RX12) (hr : meth.sig.returnType = none) (k0 : kd a0 = 12)
    (hK18 : ∀ (M' : Mem) (x3' : Int), K18 M' x3' → Z g p l e rm_X12_worthAt s m args below meth c 4 (MQ below (va_Qv (S := Mem) Q (fun u => Rp g u) (aR g)) args s 0 0 (aR g)) M' 18 [(0, .ref (g.2.2.1 + a0)), (2, .int (i3 x2)), (3, .int (i3 x3'))] [])
    (hw : wp_X12_worthAt_B18 a0 Q K18 M x2 x3) : Z g p l e rm_X12_worthAt s m args below meth c 4 (MQ below (va_Qv (S := Mem) Q (fun u => Rp g u) (aR g)) args s 0 0 (aR g)) M 18 [(0, .ref (g.2.2.1 + a0)), (2, .int (i3 x2)), (3, .int (i3 x3))] [] := by
  refine z_iload_n F dX12_worthAt_18 rfl rfl 2 rfl ?_
  refine z_iload_n F dX12_worthAt_19 rfl rfl 1 rfl ?_
  refine z_icmp_gt F dX12_worthAt_20 rfl rfl hw (fun hw => ?_) (fun hw => ?_)
  · exact z_vret F hr dX12_worthAt_35 hw
  · refine z_aload_n F dX12_worthAt_23 rfl rfl 0 rfl ?_
    refine z_iload_n F dX12_worthAt_24 rfl rfl 2 rfl ?_
    refine z_iconst F dX12_worthAt_25 rfl ?_
    refine z_cVv (As := [.int (i3 x3), .int (i3 (bz true))]) (st := []) F (c_X12_byFactor l g k0 hw) cv_X12_byFactor w_1235 ⟨rfl, rfl, Nat.le_of_ble_eq_true rfl, Nat.le_of_ble_eq_true rfl⟩ k0 rfl rfl (Nat.le_of_ble_eq_true rfl) dX12_worthAt_26 rfl (fun M26 hw => ?_)
    refine z_iinc F dX12_worthAt_29 rfl 2 rfl (by decide) rfl ?_
    refine z_goto F dX12_worthAt_32 rfl ?_
    refine z_sub [1, 2, 0] rfl ?_
    exact hK18 M26 (x3 + 1) hw
set_option maxRecDepth 100000 in
set_option maxHeartbeats 4000000 in
theorem lp_X12_worthAt_18 {g : En} {p : Program} {l : Launch} {e : Env} {s : State} {m : MethodId} {args : Array Value} {below : List Frame} {meth : Method} {c : Code} {M : Mem} {a0 : Nat} {Q : Mem → Prop} {x2 : Int} {x3 : Int} (F : Fx g p s m args meth c cX12_worthAt 4 RX12) (hr : meth.sig.returnType = none) (k0 : kd a0 = 12)
    (hw : wp_X12_worthAt_L18 a0 Q M x2 x3) : Z g p l e rm_X12_worthAt s m args below meth c 4 (MQ below (va_Qv (S := Mem) Q (fun u => Rp g u) (aR g)) args s 0 0 (aR g)) M 18 [(0, .ref (g.2.2.1 + a0)), (2, .int (i3 x2)), (3, .int (i3 x3))] [] := by
  obtain ⟨I, μ, h0, hb⟩ := hw
  have key : ∀ (n : Nat) (M : Mem) (x3 : Int), I M x3 → μ M x3 < n → Z g p l e rm_X12_worthAt s m args below meth c 4 (MQ below (va_Qv (S := Mem) Q (fun u => Rp g u) (aR g)) args s 0 0 (aR g)) M 18 [(0, .ref (g.2.2.1 + a0)), (2, .int (i3 x2)), (3, .int (i3 x3))] [] := by
    intro n
    induction n with
    | zero => exact fun _ _ _ h => absurd h (Nat.not_lt_zero _)
    | succ n ih =>
      intro M x3 hI hn
      exact bk_X12_worthAt_B18 F hr k0 (fun M' x3' hk => ih M' x3' hk.1 (Nat.lt_of_lt_of_le hk.2 (Nat.le_of_lt_succ hn))) (hb M x3 hI)
  exact key _ M x3 h0 (Nat.lt_succ_self _)
set_option maxRecDepth 100000 in
set_option maxHeartbeats 4000000 in
theorem c_X12_worthAt (l : Launch) (g : En) {a0 : Nat} {a1 : Int} {a2 : Int} {M : Mem} {Q : Mem → Prop} (k0 : kd a0 = 12) (hw : wp_X12_worthAt a0 a1 a2 M Q) :
    Met l yX12_worthAt (WS yX12_worthAt cX12_worthAt 4 none) rm_X12_worthAt (va_Pc [.ref (g.2.2.1 + a0), .int (i3 a1), .int (i3 a2)] (Rp g M)) (va_Qv (S := Mem) Q (fun u => Rp g u) (aR g)) 0 0 (aR g) := by
  refine met_Z (plainFor_of_name rfl) (Nat.le_of_ble_eq_true rfl) ?_
  intro p e s m args below meth c F hr _
  show Z g p l e rm_X12_worthAt s m args below meth c 4 (MQ below (va_Qv (S := Mem) Q (fun u => Rp g u) (aR g)) args s 0 0 (aR g)) M 0 [(0, .ref (g.2.2.1 + a0)), (1, .int (i3 a1)), (2, .int (i3 a2))] []
  refine z_aload_n F dX12_worthAt_0 rfl rfl 0 rfl ?_
  refine z_aload_n F dX12_worthAt_1 rfl rfl 0 rfl ?_
  refine z_iload_n F dX12_worthAt_2 rfl rfl 1 rfl ?_
  refine z_iload_n F dX12_worthAt_3 rfl rfl 2 rfl ?_
  refine z_cVip (As := [.int (i3 a1), .int (i3 a2)]) (st := [.ref (g.2.2.1 + a0)]) F (c_X12_amountAt l g k0 hw) cv_X12_amountAt w_1231 ⟨rfl, rfl, Nat.le_of_ble_eq_true rfl, Nat.le_of_ble_eq_true rfl⟩ k0 rfl rfl (Nat.le_of_ble_eq_true rfl) dX12_worthAt_4 rfl (fun r4 hw => ?_)
  refine z_i2l F dX12_worthAt_7 rfl ?_
  refine z_putL F fp_1001 k0 dX12_worthAt_8 rfl ?_
  refine z_nmM (fun M8 eM8 => ?_)
  have hw := hw M8 eM8
  refine z_aload_n F dX12_worthAt_11 rfl rfl 0 rfl ?_
  refine z_lconst (v := 1) F dX12_worthAt_12 rfl rfl ?_
  refine z_putL F fp_1002 k0 dX12_worthAt_13 rfl ?_
  refine z_nmM (fun M13 eM13 => ?_)
  have hw := hw M13 eM13
  refine z_iconst F dX12_worthAt_16 rfl ?_
  refine z_istore_n F dX12_worthAt_17 rfl rfl (by decide) rfl ?_
  refine z_sub [1, 3, 0] rfl ?_
  exact lp_X12_worthAt_18 F hr k0 hw
theorem cv_X12_worthAt : CV yX12_worthAt RX12 cX12_worthAt 4 none 2 := ⟨w_1229, w_38, w_80, w_1230, rfl, by decide +kernel, by decide +kernel, by decide +kernel⟩
abbrev rm_X12_worthOf : Room := { frames := 7, cells := 0, slots := 0, locals := 181 }
def wp_X12_worthOf_B8 (a0 : Nat) (Q : Mem → Prop) (K8 : Mem → Int → Int → Int → Prop) (M : Mem) (x1 : Int) (x2 : Int) (x4 : Int) (x6 : Int) : Prop :=
  (((w32 (M a0 5) ≤ w32 x6) → (
    ∀ M58 : Mem, M58 = st2 M a0 9 x2 →
    ∀ M64 : Mem, M64 = st2 M58 a0 10 x4 →
    Q M64)) ∧
  (¬ (w32 (M a0 5) ≤ w32 x6) → (
    wp_X12_worthAt a0 x1 x6 M (fun M21 =>
    wp_X12_sum a0 x2 x4 (M21 a0 9) (M21 a0 10) M21 (fun M36 =>
    K8 M36 (M36 a0 9) (M36 a0 10) (x6 + 1))))))
def wp_X12_worthOf_L8 (a0 : Nat) (Q : Mem → Prop) (M : Mem) (x1 : Int) (x2 : Int) (x4 : Int) (x6 : Int) : Prop :=
  ∃ (I : Mem → Int → Int → Int → Prop) (μ : Mem → Int → Int → Int → Nat), I M x2 x4 x6 ∧ ∀ (M : Mem) (x2 : Int) (x4 : Int) (x6 : Int), I M x2 x4 x6 →
    wp_X12_worthOf_B8 a0 Q (fun M' x2' x4' x6' => I M' x2' x4' x6' ∧ μ M' x2' x4' x6' < μ M x2 x4 x6) M x1 x2 x4 x6
def wp_X12_worthOf (a0 : Nat) (a1 : Int) (M : Mem) (Q : Mem → Prop) : Prop :=
  wp_X12_worthOf_L8 a0 Q M a1 0 1 0
set_option maxRecDepth 100000 in
set_option maxHeartbeats 4000000 in
theorem bk_X12_worthOf_B8 {g : En} {p : Program} {l : Launch} {e : Env} {s : State} {m : MethodId} {args : Array Value} {below : List Frame} {meth : Method} {c : Code} {M : Mem} {a0 : Nat} {Q : Mem → Prop} {K8 : Mem → Int → Int → Int → Prop} {x1 : Int} {x2 : Int} {x4 : Int} {x6 : Int} (F : Fx g p s m args meth c cX12_worthOf 7 RX12) (hr : meth.sig.returnType = none) (k0 : kd a0 = 12)
    (hK8 : ∀ (M' : Mem) (x2' : Int) (x4' : Int) (x6' : Int), K8 M' x2' x4' x6' → Z g p l e rm_X12_worthOf s m args below meth c 7 (MQ below (va_Qv (S := Mem) Q (fun u => Rp g u) (aR g)) args s 0 0 (aR g)) M' 8 [(0, .ref (g.2.2.1 + a0)), (1, .int (i3 x1)), (2, .long (i6 x2')), (4, .long (i6 x4')), (6, .int (i3 x6'))] [])
    (hw : wp_X12_worthOf_B8 a0 Q K8 M x1 x2 x4 x6) : Z g p l e rm_X12_worthOf s m args below meth c 7 (MQ below (va_Qv (S := Mem) Q (fun u => Rp g u) (aR g)) args s 0 0 (aR g)) M 8 [(0, .ref (g.2.2.1 + a0)), (1, .int (i3 x1)), (2, .long (i6 x2)), (4, .long (i6 x4)), (6, .int (i3 x6))] [] := by
  refine z_iload F dX12_worthOf_8 rfl 4 rfl ?_
  refine z_aload_n F dX12_worthOf_10 rfl rfl 0 rfl ?_
  refine z_getI F fl_997 k0 dX12_worthOf_11 rfl ?_
  refine z_icmp_ge F dX12_worthOf_14 rfl rfl hw (fun hw => ?_) (fun hw => ?_)
  · refine z_aload_n F dX12_worthOf_56 rfl rfl 0 rfl ?_
    refine z_lload_n F dX12_worthOf_57 rfl rfl 2 rfl ?_
    refine z_putL F fp_1001 k0 dX12_worthOf_58 rfl ?_
    refine z_nmM (fun M58 eM58 => ?_)
    have hw := hw M58 eM58
    refine z_aload_n F dX12_worthOf_61 rfl rfl 0 rfl ?_
    refine z_lload F dX12_worthOf_62 rfl 3 rfl ?_
    refine z_putL F fp_1002 k0 dX12_worthOf_64 rfl ?_
    refine z_nmM (fun M64 eM64 => ?_)
    have hw := hw M64 eM64
    exact z_vret F hr dX12_worthOf_67 hw
  · refine z_aload_n F dX12_worthOf_17 rfl rfl 0 rfl ?_
    refine z_iload_n F dX12_worthOf_18 rfl rfl 1 rfl ?_
    refine z_iload F dX12_worthOf_19 rfl 4 rfl ?_
    refine z_cVv (As := [.int (i3 x1), .int (i3 x6)]) (st := []) F (c_X12_worthAt l g k0 hw) cv_X12_worthAt w_1227 ⟨rfl, rfl, Nat.le_of_ble_eq_true rfl, Nat.le_of_ble_eq_true rfl⟩ k0 rfl rfl (Nat.le_of_ble_eq_true rfl) dX12_worthOf_21 rfl (fun M21 hw => ?_)
    refine z_aload_n F dX12_worthOf_24 rfl rfl 0 rfl ?_
    refine z_lload_n F dX12_worthOf_25 rfl rfl 2 rfl ?_
    refine z_lload F dX12_worthOf_26 rfl 3 rfl ?_
    refine z_aload_n F dX12_worthOf_28 rfl rfl 0 rfl ?_
    refine z_getL F fl_1001 k0 dX12_worthOf_29 rfl ?_
    refine z_aload_n F dX12_worthOf_32 rfl rfl 0 rfl ?_
    refine z_getL F fl_1002 k0 dX12_worthOf_33 rfl ?_
    refine z_cVv (As := [.long (i6 x2), .long (i6 x4), .long (i6 (M21 a0 9)), .long (i6 (M21 a0 10))]) (st := []) F (c_X12_sum l g k0 hw) cv_X12_sum w_1266 ⟨rfl, rfl, Nat.le_of_ble_eq_true rfl, Nat.le_of_ble_eq_true rfl⟩ k0 rfl rfl (Nat.le_of_ble_eq_true rfl) dX12_worthOf_36 rfl (fun M36 hw => ?_)
    refine z_aload_n F dX12_worthOf_39 rfl rfl 0 rfl ?_
    refine z_getL F fl_1001 k0 dX12_worthOf_40 rfl ?_
    refine z_lstore_n F dX12_worthOf_43 rfl rfl (by decide) rfl ?_
    refine z_aload_n F dX12_worthOf_44 rfl rfl 1 rfl ?_
    refine z_getL F fl_1002 k0 dX12_worthOf_45 rfl ?_
    refine z_lstore F dX12_worthOf_48 rfl (by decide) rfl ?_
    refine z_iinc F dX12_worthOf_50 rfl 4 rfl (by decide) rfl ?_
    refine z_goto F dX12_worthOf_53 rfl ?_
    refine z_sub [3, 4, 2, 1, 0] rfl ?_
    exact hK8 M36 (M36 a0 9) (M36 a0 10) (x6 + 1) hw
set_option maxRecDepth 100000 in
set_option maxHeartbeats 4000000 in
theorem lp_X12_worthOf_8 {g : En} {p : Program} {l : Launch} {e : Env} {s : State} {m : MethodId} {args : Array Value} {below : List Frame} {meth : Method} {c : Code} {M : Mem} {a0 : Nat} {Q : Mem → Prop} {x1 : Int} {x2 : Int} {x4 : Int} {x6 : Int} (F : Fx g p s m args meth c cX12_worthOf 7 RX12) (hr : meth.sig.returnType = none) (k0 : kd a0 = 12)
    (hw : wp_X12_worthOf_L8 a0 Q M x1 x2 x4 x6) : Z g p l e rm_X12_worthOf s m args below meth c 7 (MQ below (va_Qv (S := Mem) Q (fun u => Rp g u) (aR g)) args s 0 0 (aR g)) M 8 [(0, .ref (g.2.2.1 + a0)), (1, .int (i3 x1)), (2, .long (i6 x2)), (4, .long (i6 x4)), (6, .int (i3 x6))] [] := by
  obtain ⟨I, μ, h0, hb⟩ := hw
  have key : ∀ (n : Nat) (M : Mem) (x2 : Int) (x4 : Int) (x6 : Int), I M x2 x4 x6 → μ M x2 x4 x6 < n → Z g p l e rm_X12_worthOf s m args below meth c 7 (MQ below (va_Qv (S := Mem) Q (fun u => Rp g u) (aR g)) args s 0 0 (aR g)) M 8 [(0, .ref (g.2.2.1 + a0)), (1, .int (i3 x1)), (2, .long (i6 x2)), (4, .long (i6 x4)), (6, .int (i3 x6))] [] := by
    intro n
    induction n with
    | zero => exact fun _ _ _ _ _ h => absurd h (Nat.not_lt_zero _)
    | succ n ih =>
      intro M x2 x4 x6 hI hn
      exact bk_X12_worthOf_B8 F hr k0 (fun M' x2' x4' x6' hk => ih M' x2' x4' x6' hk.1 (Nat.lt_of_lt_of_le hk.2 (Nat.le_of_lt_succ hn))) (hb M x2 x4 x6 hI)
  exact key _ M x2 x4 x6 h0 (Nat.lt_succ_self _)
set_option maxRecDepth 100000 in
set_option maxHeartbeats 4000000 in
theorem c_X12_worthOf (l : Launch) (g : En) {a0 : Nat} {a1 : Int} {M : Mem} {Q : Mem → Prop} (k0 : kd a0 = 12) (hw : wp_X12_worthOf a0 a1 M Q) :
    Met l yX12_worthOf (WS yX12_worthOf cX12_worthOf 7 none) rm_X12_worthOf (va_Pc [.ref (g.2.2.1 + a0), .int (i3 a1)] (Rp g M)) (va_Qv (S := Mem) Q (fun u => Rp g u) (aR g)) 0 0 (aR g) := by
  refine met_Z (plainFor_of_name rfl) (Nat.le_of_ble_eq_true rfl) ?_
  intro p e s m args below meth c F hr _
  show Z g p l e rm_X12_worthOf s m args below meth c 7 (MQ below (va_Qv (S := Mem) Q (fun u => Rp g u) (aR g)) args s 0 0 (aR g)) M 0 [(0, .ref (g.2.2.1 + a0)), (1, .int (i3 a1))] []
  refine z_lconst (v := 0) F dX12_worthOf_0 rfl rfl ?_
  refine z_lstore_n F dX12_worthOf_1 rfl rfl (by decide) rfl ?_
  refine z_lconst (v := 1) F dX12_worthOf_2 rfl rfl ?_
  refine z_lstore F dX12_worthOf_3 rfl (by decide) rfl ?_
  refine z_iconst F dX12_worthOf_5 rfl ?_
  refine z_istore F dX12_worthOf_6 rfl (by decide) rfl ?_
  refine z_sub [3, 4, 2, 1, 0] rfl ?_
  exact lp_X12_worthOf_8 F hr k0 hw
theorem cv_X12_worthOf : CV yX12_worthOf RX12 cX12_worthOf 7 none 1 := ⟨w_1225, w_37, w_80, w_1226, rfl, by decide +kernel, by decide +kernel, by decide +kernel⟩
abbrev rm_X12_worth : Room := { frames := 8, cells := 0, slots := 0, locals := 207 }
def wp_X12_worth (a0 : Nat) (a1 : Int) (a2 : Int) (M : Mem) (Q : Int → Mem → Prop) : Prop :=
  wp_X12_isRow a0 a1 M (fun r2 =>
  ((r2 = false → (
    Q (-9223372036854775808) M)) ∧
  (r2 = true → (
    wp_X12_within a2 0 1 M (fun r11 =>
    ((r11 = true → (
      ∀ M23 : Mem, M23 = st2 M a0 8 (bz false) →
      wp_X12_worthOf a0 a1 M23 (fun M28 =>
      wp_X12_part a0 a2 M28 (fun r33 =>
      Q r33 M28)))) ∧
    (r11 = false → (
      Q (-9223372036854775808) M))))))))
set_option maxRecDepth 100000 in
set_option maxHeartbeats 4000000 in
theorem c_X12_worth (l : Launch) (g : En) {a0 : Nat} {a1 : Int} {a2 : Int} {M : Mem} {Q : Int → Mem → Prop} (k0 : kd a0 = 12) (hw : wp_X12_worth a0 a1 a2 M Q) :
    Met l yX12_worth (WS yX12_worth cX12_worth 3 (some .long)) rm_X12_worth (va_Pc [.ref (g.2.2.1 + a0), .int (i3 a1), .int (i3 a2)] (Rp g M)) (va_Ql (S := Int × Mem) (fun r u => r = i6 u.1 ∧ Q u.1 u.2) (fun u => Rp g u.2) (aR g)) 0 0 (aR g) := by
  refine met_Z (plainFor_of_name rfl) (Nat.le_of_ble_eq_true rfl) ?_
  intro p e s m args below meth c F hr _
  show Z g p l e rm_X12_worth s m args below meth c 3 (MQ below (va_Ql (S := Int × Mem) (fun r u => r = i6 u.1 ∧ Q u.1 u.2) (fun u => Rp g u.2) (aR g)) args s 0 0 (aR g)) M 0 [(0, .ref (g.2.2.1 + a0)), (1, .int (i3 a1)), (2, .int (i3 a2))] []
  refine z_aload_n F dX12_worth_0 rfl rfl 0 rfl ?_
  refine z_iload_n F dX12_worth_1 rfl rfl 1 rfl ?_
  refine z_cVbp (As := [.int (i3 a1)]) (st := []) F (c_X12_isRow l g k0 hw) cv_X12_isRow w_1218 ⟨rfl, rfl, Nat.le_of_ble_eq_true rfl, Nat.le_of_ble_eq_true rfl⟩ k0 rfl rfl (Nat.le_of_ble_eq_true rfl) dX12_worth_2 rfl (fun r2 hw => ?_)
  refine z_ifb_eq F dX12_worth_5 rfl rfl hw (fun hw => ?_) (fun hw => ?_)
  · refine z_ldc2 (n := (-9223372036854775808)) F w_1222 (by decide) dX12_worth_17 rfl ?_
    exact z_lret (x := (-9223372036854775808)) F hr dX12_worth_20 hw
  · refine z_iload_n F dX12_worth_8 rfl rfl 2 rfl ?_
    refine z_iconst F dX12_worth_9 rfl ?_
    refine z_iconst F dX12_worth_10 rfl ?_
    refine z_cSbp (As := [.int (i3 a2), .int (i3 0), .int (i3 1)]) (st := []) F (c_X12_within l g hw) cs_X12_within w_1102 ⟨rfl, rfl, Nat.le_of_ble_eq_true rfl, Nat.le_of_ble_eq_true rfl⟩ rfl (Nat.le_of_ble_eq_true rfl) dX12_worth_11 rfl (fun r11 hw => ?_)
    refine z_ifb_ne F dX12_worth_14 rfl rfl hw (fun hw => ?_) (fun hw => ?_)
    · refine z_aload_n F dX12_worth_21 rfl rfl 0 rfl ?_
      refine z_iconst F dX12_worth_22 rfl ?_
      refine z_putB (r := false) F fp_1000 k0 dX12_worth_23 rfl ?_
      refine z_nmM (fun M23 eM23 => ?_)
      have hw := hw M23 eM23
      refine z_aload_n F dX12_worth_26 rfl rfl 0 rfl ?_
      refine z_iload_n F dX12_worth_27 rfl rfl 1 rfl ?_
      refine z_cVv (As := [.int (i3 a1)]) (st := []) F (c_X12_worthOf l g k0 hw) cv_X12_worthOf w_1223 ⟨rfl, rfl, Nat.le_of_ble_eq_true rfl, Nat.le_of_ble_eq_true rfl⟩ k0 rfl rfl (Nat.le_of_ble_eq_true rfl) dX12_worth_28 rfl (fun M28 hw => ?_)
      refine z_aload_n F dX12_worth_31 rfl rfl 0 rfl ?_
      refine z_iload_n F dX12_worth_32 rfl rfl 2 rfl ?_
      refine z_cVlp (As := [.int (i3 a2)]) (st := []) F (c_X12_part l g k0 hw) cv_X12_part w_1274 ⟨rfl, rfl, Nat.le_of_ble_eq_true rfl, Nat.le_of_ble_eq_true rfl⟩ k0 rfl rfl (Nat.le_of_ble_eq_true rfl) dX12_worth_33 rfl (fun r33 hw => ?_)
      exact z_lret (x := r33) F hr dX12_worth_36 hw
    · refine z_ldc2 (n := (-9223372036854775808)) F w_1222 (by decide) dX12_worth_17 rfl ?_
      exact z_lret (x := (-9223372036854775808)) F hr dX12_worth_20 hw
theorem cv_X12_worth : CV yX12_worth RX12 cX12_worth 3 (some .long) 2 := ⟨w_1215, w_1216, w_80, w_1217, rfl, by decide +kernel, by decide +kernel, by decide +kernel⟩
abbrev rm_X12_lengthOf : Room := { frames := 8, cells := 0, slots := 0, locals := 207 }
def wp_X12_lengthOf_b91 (a0 : Nat) (Q : Mem → Prop) (K9 : Mem → Int → Int → Int → Prop) (M : Mem) (x1 : Int) (x2 : Bool) (x3 : Int) (x5 : Int) (x7 : Int) (x9 : Int) (x11 : Int) (x12 : Int) (x14 : Int) : Prop :=
  wp_X12_worthAt a0 x1 x11 M (fun M95 =>
  wp_X12_product a0 x12 x14 (M95 a0 9) (M95 a0 10) M95 (fun M111 =>
  wp_X12_sum a0 x7 x9 (M111 a0 9) (M111 a0 10) M111 (fun M127 =>
  K9 M127 (M127 a0 9) (M127 a0 10) (x11 + 1))))
def wp_X12_lengthOf_B9 (a0 : Nat) (Q : Mem → Prop) (K9 : Mem → Int → Int → Int → Prop) (M : Mem) (x1 : Int) (x2 : Bool) (x3 : Int) (x5 : Int) (x7 : Int) (x9 : Int) (x11 : Int) : Prop :=
  (((w32 (M a0 5) ≤ w32 x11) → (
    wp_X12_worthOf a0 x1 M (fun M150 =>
    wp_X12_quotient a0 x7 x9 (M150 a0 9) (M150 a0 10) M150 (fun M166 =>
    Q M166)))) ∧
  (¬ (w32 (M a0 5) ≤ w32 x11) → (
    ((x2 = false → (
      wp_X12_lengthOf_b91 a0 Q K9 M x1 x2 x3 x5 x7 x9 x11 ((w32 x11) + 1) 1)) ∧
    (x2 = true → (
      wp_X12_product a0 x3 x5 (-1) 1 M (fun M40 =>
      wp_X12_sum a0 ((w32 x11) + 1) 1 (M40 a0 9) (M40 a0 10) M40 (fun M56 =>
      wp_X12_product a0 (M56 a0 9) (M56 a0 10) (M56 a0 9) (M56 a0 10) M56 (fun M76 =>
      wp_X12_lengthOf_b91 a0 Q K9 M76 x1 x2 x3 x5 x7 x9 x11 (M76 a0 9) (M76 a0 10))))))))))
def wp_X12_lengthOf_L9 (a0 : Nat) (Q : Mem → Prop) (M : Mem) (x1 : Int) (x2 : Bool) (x3 : Int) (x5 : Int) (x7 : Int) (x9 : Int) (x11 : Int) : Prop :=
  ∃ (I : Mem → Int → Int → Int → Prop) (μ : Mem → Int → Int → Int → Nat), I M x7 x9 x11 ∧ ∀ (M : Mem) (x7 : Int) (x9 : Int) (x11 : Int), I M x7 x9 x11 →
    wp_X12_lengthOf_B9 a0 Q (fun M' x7' x9' x11' => I M' x7' x9' x11' ∧ μ M' x7' x9' x11' < μ M x7 x9 x11) M x1 x2 x3 x5 x7 x9 x11
def wp_X12_lengthOf (a0 : Nat) (a1 : Int) (a2 : Bool) (a3 : Int) (a4 : Int) (M : Mem) (Q : Mem → Prop) : Prop :=
  wp_X12_lengthOf_L9 a0 Q M a1 a2 a3 a4 0 1 0
set_option maxRecDepth 100000 in
set_option maxHeartbeats 4000000 in
theorem bk_X12_lengthOf_91 {g : En} {p : Program} {l : Launch} {e : Env} {s : State} {m : MethodId} {args : Array Value} {below : List Frame} {meth : Method} {c : Code} {M : Mem} {a0 : Nat} {Q : Mem → Prop} {K9 : Mem → Int → Int → Int → Prop} {x1 : Int} {x2 : Bool} {x3 : Int} {x5 : Int} {x7 : Int} {x9 : Int} {x11 : Int} {x12 : Int} {x14 : Int} (F : Fx g p s m args meth c cX12_lengthOf 16 RX12) (hr : meth.sig.returnType = none) (k0 : kd a0 = 12)
    (hK9 : ∀ (M' : Mem) (x7' : Int) (x9' : Int) (x11' : Int), K9 M' x7' x9' x11' → Z g p l e rm_X12_lengthOf s m args below meth c 16 (MQ below (va_Qv (S := Mem) Q (fun u => Rp g u) (aR g)) args s 0 0 (aR g)) M' 9 [(0, .ref (g.2.2.1 + a0)), (1, .int (i3 x1)), (2, .int (i3 (bz x2))), (3, .long (i6 x3)), (5, .long (i6 x5)), (7, .long (i6 x7')), (9, .long (i6 x9')), (11, .int (i3 x11'))] [])
    (hw : wp_X12_lengthOf_b91 a0 Q K9 M x1 x2 x3 x5 x7 x9 x11 x12 x14) : Z g p l e rm_X12_lengthOf s m args below meth c 16 (MQ below (va_Qv (S := Mem) Q (fun u => Rp g u) (aR g)) args s 0 0 (aR g)) M 91 [(0, .ref (g.2.2.1 + a0)), (1, .int (i3 x1)), (2, .int (i3 (bz x2))), (3, .long (i6 x3)), (5, .long (i6 x5)), (7, .long (i6 x7)), (9, .long (i6 x9)), (11, .int (i3 x11)), (12, .long (i6 x12)), (14, .long (i6 x14))] [] := by
  refine z_aload_n F dX12_lengthOf_91 rfl rfl 0 rfl ?_
  refine z_iload_n F dX12_lengthOf_92 rfl rfl 1 rfl ?_
  refine z_iload F dX12_lengthOf_93 rfl 7 rfl ?_
  refine z_cVv (As := [.int (i3 x1), .int (i3 x11)]) (st := []) F (c_X12_worthAt l g k0 hw) cv_X12_worthAt w_1227 ⟨rfl, rfl, Nat.le_of_ble_eq_true rfl, Nat.le_of_ble_eq_true rfl⟩ k0 rfl rfl (Nat.le_of_ble_eq_true rfl) dX12_lengthOf_95 rfl (fun M95 hw => ?_)
  refine z_aload_n F dX12_lengthOf_98 rfl rfl 0 rfl ?_
  refine z_lload F dX12_lengthOf_99 rfl 8 rfl ?_
  refine z_lload F dX12_lengthOf_101 rfl 9 rfl ?_
  refine z_aload_n F dX12_lengthOf_103 rfl rfl 0 rfl ?_
  refine z_getL F fl_1001 k0 dX12_lengthOf_104 rfl ?_
  refine z_aload_n F dX12_lengthOf_107 rfl rfl 0 rfl ?_
  refine z_getL F fl_1002 k0 dX12_lengthOf_108 rfl ?_
  refine z_cVv (As := [.long (i6 x12), .long (i6 x14), .long (i6 (M95 a0 9)), .long (i6 (M95 a0 10))]) (st := []) F (c_X12_product l g k0 hw) cv_X12_product w_1258 ⟨rfl, rfl, Nat.le_of_ble_eq_true rfl, Nat.le_of_ble_eq_true rfl⟩ k0 rfl rfl (Nat.le_of_ble_eq_true rfl) dX12_lengthOf_111 rfl (fun M111 hw => ?_)
  refine z_aload_n F dX12_lengthOf_114 rfl rfl 0 rfl ?_
  refine z_lload F dX12_lengthOf_115 rfl 5 rfl ?_
  refine z_lload F dX12_lengthOf_117 rfl 6 rfl ?_
  refine z_aload_n F dX12_lengthOf_119 rfl rfl 0 rfl ?_
  refine z_getL F fl_1001 k0 dX12_lengthOf_120 rfl ?_
  refine z_aload_n F dX12_lengthOf_123 rfl rfl 0 rfl ?_
  refine z_getL F fl_1002 k0 dX12_lengthOf_124 rfl ?_
  refine z_cVv (As := [.long (i6 x7), .long (i6 x9), .long (i6 (M111 a0 9)), .long (i6 (M111 a0 10))]) (st := []) F (c_X12_sum l g k0 hw) cv_X12_sum w_1266 ⟨rfl, rfl, Nat.le_of_ble_eq_true rfl, Nat.le_of_ble_eq_true rfl⟩ k0 rfl rfl (Nat.le_of_ble_eq_true rfl) dX12_lengthOf_127 rfl (fun M127 hw => ?_)
  refine z_aload_n F dX12_lengthOf_130 rfl rfl 0 rfl ?_
  refine z_getL F fl_1001 k0 dX12_lengthOf_131 rfl ?_
  refine z_lstore F dX12_lengthOf_134 rfl (by decide) rfl ?_
  refine z_aload_n F dX12_lengthOf_136 rfl rfl 1 rfl ?_
  refine z_getL F fl_1002 k0 dX12_lengthOf_137 rfl ?_
  refine z_lstore F dX12_lengthOf_140 rfl (by decide) rfl ?_
  refine z_iinc F dX12_lengthOf_142 rfl 7 rfl (by decide) rfl ?_
  refine z_goto F dX12_lengthOf_145 rfl ?_
  refine z_sub [3, 4, 5, 6, 7, 2, 1, 0] rfl ?_
  exact hK9 M127 (M127 a0 9) (M127 a0 10) (x11 + 1) hw
set_option maxRecDepth 100000 in
set_option maxHeartbeats 4000000 in
theorem bk_X12_lengthOf_B9 {g : En} {p : Program} {l : Launch} {e : Env} {s : State} {m : MethodId} {args : Array Value} {below : List Frame} {meth : Method} {c : Code} {M : Mem} {a0 : Nat} {Q : Mem → Prop} {K9 : Mem → Int → Int → Int → Prop} {x1 : Int} {x2 : Bool} {x3 : Int} {x5 : Int} {x7 : Int} {x9 : Int} {x11 : Int} (F : Fx g p s m args meth c cX12_lengthOf 16 RX12) (hr : meth.sig.returnType = none) (k0 : kd a0 = 12)
    (hK9 : ∀ (M' : Mem) (x7' : Int) (x9' : Int) (x11' : Int), K9 M' x7' x9' x11' → Z g p l e rm_X12_lengthOf s m args below meth c 16 (MQ below (va_Qv (S := Mem) Q (fun u => Rp g u) (aR g)) args s 0 0 (aR g)) M' 9 [(0, .ref (g.2.2.1 + a0)), (1, .int (i3 x1)), (2, .int (i3 (bz x2))), (3, .long (i6 x3)), (5, .long (i6 x5)), (7, .long (i6 x7')), (9, .long (i6 x9')), (11, .int (i3 x11'))] [])
    (hw : wp_X12_lengthOf_B9 a0 Q K9 M x1 x2 x3 x5 x7 x9 x11) : Z g p l e rm_X12_lengthOf s m args below meth c 16 (MQ below (va_Qv (S := Mem) Q (fun u => Rp g u) (aR g)) args s 0 0 (aR g)) M 9 [(0, .ref (g.2.2.1 + a0)), (1, .int (i3 x1)), (2, .int (i3 (bz x2))), (3, .long (i6 x3)), (5, .long (i6 x5)), (7, .long (i6 x7)), (9, .long (i6 x9)), (11, .int (i3 x11))] [] := by
  refine z_iload F dX12_lengthOf_9 rfl 7 rfl ?_
  refine z_aload_n F dX12_lengthOf_11 rfl rfl 0 rfl ?_
  refine z_getI F fl_997 k0 dX12_lengthOf_12 rfl ?_
  refine z_icmp_ge F dX12_lengthOf_15 rfl rfl hw (fun hw => ?_) (fun hw => ?_)
  · refine z_aload_n F dX12_lengthOf_148 rfl rfl 0 rfl ?_
    refine z_iload_n F dX12_lengthOf_149 rfl rfl 1 rfl ?_
    refine z_cVv (As := [.int (i3 x1)]) (st := []) F (c_X12_worthOf l g k0 hw) cv_X12_worthOf w_1223 ⟨rfl, rfl, Nat.le_of_ble_eq_true rfl, Nat.le_of_ble_eq_true rfl⟩ k0 rfl rfl (Nat.le_of_ble_eq_true rfl) dX12_lengthOf_150 rfl (fun M150 hw => ?_)
    refine z_aload_n F dX12_lengthOf_153 rfl rfl 0 rfl ?_
    refine z_lload F dX12_lengthOf_154 rfl 5 rfl ?_
    refine z_lload F dX12_lengthOf_156 rfl 6 rfl ?_
    refine z_aload_n F dX12_lengthOf_158 rfl rfl 0 rfl ?_
    refine z_getL F fl_1001 k0 dX12_lengthOf_159 rfl ?_
    refine z_aload_n F dX12_lengthOf_162 rfl rfl 0 rfl ?_
    refine z_getL F fl_1002 k0 dX12_lengthOf_163 rfl ?_
    refine z_cVv (As := [.long (i6 x7), .long (i6 x9), .long (i6 (M150 a0 9)), .long (i6 (M150 a0 10))]) (st := []) F (c_X12_quotient l g k0 hw) cv_X12_quotient w_1254 ⟨rfl, rfl, Nat.le_of_ble_eq_true rfl, Nat.le_of_ble_eq_true rfl⟩ k0 rfl rfl (Nat.le_of_ble_eq_true rfl) dX12_lengthOf_166 rfl (fun M166 hw => ?_)
    exact z_vret F hr dX12_lengthOf_169 hw
  · refine z_iload F dX12_lengthOf_18 rfl 7 rfl ?_
    refine z_i2l F dX12_lengthOf_20 rfl ?_
    refine z_lconst (v := 1) F dX12_lengthOf_21 rfl rfl ?_
    refine z_ladd F dX12_lengthOf_22 rfl ?_
    refine z_lstore F dX12_lengthOf_23 rfl (by decide) rfl ?_
    refine z_lconst (v := 1) F dX12_lengthOf_25 rfl rfl ?_
    refine z_lstore F dX12_lengthOf_26 rfl (by decide) rfl ?_
    refine z_iload_n F dX12_lengthOf_28 rfl rfl 4 rfl ?_
    refine z_ifb_eq F dX12_lengthOf_29 rfl rfl hw (fun hw => ?_) (fun hw => ?_)
    · refine z_sub [2, 3, 4, 5, 6, 7, 8, 9, 1, 0] rfl ?_
      exact bk_X12_lengthOf_91 F hr k0 hK9 hw
    · refine z_aload_n F dX12_lengthOf_32 rfl rfl 2 rfl ?_
      refine z_lload_n F dX12_lengthOf_33 rfl rfl 5 rfl ?_
      refine z_lload F dX12_lengthOf_34 rfl 6 rfl ?_
      refine z_ldc2 (n := (-1)) F w_1286 (by decide) dX12_lengthOf_36 rfl ?_
      refine z_lconst (v := 1) F dX12_lengthOf_39 rfl rfl ?_
      refine z_cVv (As := [.long (i6 x3), .long (i6 x5), .long (i6 (-1)), .long (i6 1)]) (st := []) F (c_X12_product l g k0 hw) cv_X12_product w_1258 ⟨rfl, rfl, Nat.le_of_ble_eq_true rfl, Nat.le_of_ble_eq_true rfl⟩ k0 rfl rfl (Nat.le_of_ble_eq_true rfl) dX12_lengthOf_40 rfl (fun M40 hw => ?_)
      refine z_aload_n F dX12_lengthOf_43 rfl rfl 2 rfl ?_
      refine z_lload F dX12_lengthOf_44 rfl 1 rfl ?_
      refine z_lload F dX12_lengthOf_46 rfl 0 rfl ?_
      refine z_aload_n F dX12_lengthOf_48 rfl rfl 2 rfl ?_
      refine z_getL F fl_1001 k0 dX12_lengthOf_49 rfl ?_
      refine z_aload_n F dX12_lengthOf_52 rfl rfl 2 rfl ?_
      refine z_getL F fl_1002 k0 dX12_lengthOf_53 rfl ?_
      refine z_cVv (As := [.long (i6 ((w32 x11) + 1)), .long (i6 1), .long (i6 (M40 a0 9)), .long (i6 (M40 a0 10))]) (st := []) F (c_X12_sum l g k0 hw) cv_X12_sum w_1266 ⟨rfl, rfl, Nat.le_of_ble_eq_true rfl, Nat.le_of_ble_eq_true rfl⟩ k0 rfl rfl (Nat.le_of_ble_eq_true rfl) dX12_lengthOf_56 rfl (fun M56 hw => ?_)
      refine z_aload_n F dX12_lengthOf_59 rfl rfl 2 rfl ?_
      refine z_aload_n F dX12_lengthOf_60 rfl rfl 2 rfl ?_
      refine z_getL F fl_1001 k0 dX12_lengthOf_61 rfl ?_
      refine z_aload_n F dX12_lengthOf_64 rfl rfl 2 rfl ?_
      refine z_getL F fl_1002 k0 dX12_lengthOf_65 rfl ?_
      refine z_aload_n F dX12_lengthOf_68 rfl rfl 2 rfl ?_
      refine z_getL F fl_1001 k0 dX12_lengthOf_69 rfl ?_
      refine z_aload_n F dX12_lengthOf_72 rfl rfl 2 rfl ?_
      refine z_getL F fl_1002 k0 dX12_lengthOf_73 rfl ?_
      refine z_cVv (As := [.long (i6 (M56 a0 9)), .long (i6 (M56 a0 10)), .long (i6 (M56 a0 9)), .long (i6 (M56 a0 10))]) (st := []) F (c_X12_product l g k0 hw) cv_X12_product w_1258 ⟨rfl, rfl, Nat.le_of_ble_eq_true rfl, Nat.le_of_ble_eq_true rfl⟩ k0 rfl rfl (Nat.le_of_ble_eq_true rfl) dX12_lengthOf_76 rfl (fun M76 hw => ?_)
      refine z_aload_n F dX12_lengthOf_79 rfl rfl 2 rfl ?_
      refine z_getL F fl_1001 k0 dX12_lengthOf_80 rfl ?_
      refine z_lstore F dX12_lengthOf_83 rfl (by decide) rfl ?_
      refine z_aload_n F dX12_lengthOf_85 rfl rfl 2 rfl ?_
      refine z_getL F fl_1002 k0 dX12_lengthOf_86 rfl ?_
      refine z_lstore F dX12_lengthOf_89 rfl (by decide) rfl ?_
      refine z_sub [2, 3, 4, 5, 6, 7, 8, 9, 1, 0] rfl ?_
      exact bk_X12_lengthOf_91 F hr k0 hK9 hw
set_option maxRecDepth 100000 in
set_option maxHeartbeats 4000000 in
theorem lp_X12_lengthOf_9 {g : En} {p : Program} {l : Launch} {e : Env} {s : State} {m : MethodId} {args : Array Value} {below : List Frame} {meth : Method} {c : Code} {M : Mem} {a0 : Nat} {Q : Mem → Prop} {x1 : Int} {x2 : Bool} {x3 : Int} {x5 : Int} {x7 : Int} {x9 : Int} {x11 : Int} (F : Fx g p s m args meth c cX12_lengthOf 16 RX12) (hr : meth.sig.returnType = none) (k0 : kd a0 = 12)
    (hw : wp_X12_lengthOf_L9 a0 Q M x1 x2 x3 x5 x7 x9 x11) : Z g p l e rm_X12_lengthOf s m args below meth c 16 (MQ below (va_Qv (S := Mem) Q (fun u => Rp g u) (aR g)) args s 0 0 (aR g)) M 9 [(0, .ref (g.2.2.1 + a0)), (1, .int (i3 x1)), (2, .int (i3 (bz x2))), (3, .long (i6 x3)), (5, .long (i6 x5)), (7, .long (i6 x7)), (9, .long (i6 x9)), (11, .int (i3 x11))] [] := by
  obtain ⟨I, μ, h0, hb⟩ := hw
  have key : ∀ (n : Nat) (M : Mem) (x7 : Int) (x9 : Int) (x11 : Int), I M x7 x9 x11 → μ M x7 x9 x11 < n → Z g p l e rm_X12_lengthOf s m args below meth c 16 (MQ below (va_Qv (S := Mem) Q (fun u => Rp g u) (aR g)) args s 0 0 (aR g)) M 9 [(0, .ref (g.2.2.1 + a0)), (1, .int (i3 x1)), (2, .int (i3 (bz x2))), (3, .long (i6 x3)), (5, .long (i6 x5)), (7, .long (i6 x7)), (9, .long (i6 x9)), (11, .int (i3 x11))] [] := by
    intro n
    induction n with
    | zero => exact fun _ _ _ _ _ h => absurd h (Nat.not_lt_zero _)
    | succ n ih =>
      intro M x7 x9 x11 hI hn
      exact bk_X12_lengthOf_B9 F hr k0 (fun M' x7' x9' x11' hk => ih M' x7' x9' x11' hk.1 (Nat.lt_of_lt_of_le hk.2 (Nat.le_of_lt_succ hn))) (hb M x7 x9 x11 hI)
  exact key _ M x7 x9 x11 h0 (Nat.lt_succ_self _)
set_option maxRecDepth 100000 in
set_option maxHeartbeats 4000000 in
theorem c_X12_lengthOf (l : Launch) (g : En) {a0 : Nat} {a1 : Int} {a2 : Bool} {a3 : Int} {a4 : Int} {M : Mem} {Q : Mem → Prop} (k0 : kd a0 = 12) (hw : wp_X12_lengthOf a0 a1 a2 a3 a4 M Q) :
    Met l yX12_lengthOf (WS yX12_lengthOf cX12_lengthOf 16 none) rm_X12_lengthOf (va_Pc [.ref (g.2.2.1 + a0), .int (i3 a1), .int (i3 (bz a2)), .long (i6 a3), .long (i6 a4)] (Rp g M)) (va_Qv (S := Mem) Q (fun u => Rp g u) (aR g)) 0 0 (aR g) := by
  refine met_Z (plainFor_of_name rfl) (Nat.le_of_ble_eq_true rfl) ?_
  intro p e s m args below meth c F hr _
  show Z g p l e rm_X12_lengthOf s m args below meth c 16 (MQ below (va_Qv (S := Mem) Q (fun u => Rp g u) (aR g)) args s 0 0 (aR g)) M 0 [(0, .ref (g.2.2.1 + a0)), (1, .int (i3 a1)), (2, .int (i3 (bz a2))), (3, .long (i6 a3)), (5, .long (i6 a4))] []
  refine z_lconst (v := 0) F dX12_lengthOf_0 rfl rfl ?_
  refine z_lstore F dX12_lengthOf_1 rfl (by decide) rfl ?_
  refine z_lconst (v := 1) F dX12_lengthOf_3 rfl rfl ?_
  refine z_lstore F dX12_lengthOf_4 rfl (by decide) rfl ?_
  refine z_iconst F dX12_lengthOf_6 rfl ?_
  refine z_istore F dX12_lengthOf_7 rfl (by decide) rfl ?_
  refine z_sub [3, 4, 5, 6, 7, 2, 1, 0] rfl ?_
  exact lp_X12_lengthOf_9 F hr k0 hw
theorem cv_X12_lengthOf : CV yX12_lengthOf RX12 cX12_lengthOf 16 none 4 := ⟨w_1284, w_49, w_80, w_1285, rfl, by decide +kernel, by decide +kernel, by decide +kernel⟩
