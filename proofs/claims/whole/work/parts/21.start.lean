section ST
variable {g : En} {p : Program} {l : Launch} {e : Env} {R : Room} {s : State} {m : MethodId} {args : Array Value} {below : List Frame} {meth : Method} {c : Code} {cc : ByteArray} {nL : Nat} {own : String} {Q : State → Prop} {N : Nat} {I : Msk} {M : Mem} {k n : Nat} {pc q : Nat} {lv : List (Nat × Value)} {st : List Value}
theorem cz_astore_n (F : Fc g p s m args meth c cc nL own) {k9 : Fin 4} {i : Nat} {x : Nat} {lv2 : List (Nat × Value)} (d : decode cc pc = .ok (.astore_n k9, 1)) (hq : pc + 1 = q) (hk : (k9 : Nat) = i) (hn : i < nL) (hl9 : (i, Value.ref x) :: lv.filter (fun q => !(q.1 == i) && !(q.1 + 1 == i && q.2.category == 2)) = lv2) (kk : CZ g p l e R s m args below meth c nL Q N I M k n q lv2 st) : CZ g p l e R s m args below meth c nL Q N I M k n pc lv (.ref x :: st) := by
  subst hq
  intro H locs ls hP hS h9
  exact lv_astore_n F.1 F.2.1 d hk h9 hn hl9 (fun ls2 h8 => kk H locs ls2 hP hS h8)
end ST
/-- the numbers that the makings leave -/
def M_new : Mem := fM_X12_init_189 (zM (fM_X11_init_0 (zM (fun _ _ => 0) 0)) 189)
def I_new : Msk := fI_X12_init_189 (zI (fI_X11_init_0 (zI (fun _ _ => false) 0)) 189)
theorem I_ok : okI I_new = true := by decide +kernel
theorem arr_known {s : State} {ty : FieldType} {args : Array Value} (h : (Cond.arrayClass ty).before args s = true) : ∃ cA : ClassId, ArrOfT s cA ty ∧ s.vm.findClass ("[" ++ ty.toString) = some cA := by
  obtain ⟨cA, kA, comp, h1, h2, h3⟩ := Cond.arrayClass_spec h
  exact ⟨cA, fun n z => ⟨fun k h => (by cases h), kA, h2, comp, h3⟩, h1⟩
theorem arr_knownO {s : State} {C : String} {args : Array Value} (h : (Cond.arrayOver (.object C)).before args s = true) : ∃ cA : ClassId, ArrOfT s cA (.object C) ∧ va_RA s cA (.object C) := by
  obtain ⟨comp, cA, kA, h1, h2, h3, h4, h5⟩ := Cond.arrayOver_spec h
  exact ⟨cA, fun n z => ⟨fun k h => (by cases h), kA, h3, comp, h4⟩, kA, comp, h3, h4, h1, h5⟩
theorem arr_knownA {s : State} {t : FieldType} {args : Array Value} (h : (Cond.arrayOver (.array t)).before args s = true) : ∃ cA : ClassId, ArrOfT s cA (.array t) ∧ s.vm.findClass ("[" ++ (FieldType.array t).toString) = some cA := by
  obtain ⟨comp, cA, kA, h1, h2, h3, h4⟩ := Cond.arrayOver_specA h
  exact ⟨cA, fun n z => ⟨fun k h => (by cases h), kA, h2, comp, h3⟩, h4⟩
set_option maxRecDepth 100000 in
set_option maxHeartbeats 8000000 in
/-- THE LAW, from its entry, where its steps keep an Inv that what is newly made has -/
theorem start_open {Inv : Mem → Prop} (h0 : Inv M_new) (hst : LawSteps Inv) {p : Program} {e : Env} {s : State} {m : MethodId} {below : List Frame} {meth : Method} {c : Code} (l : Launch) {b L : Nat} {xs : Nat → Int32} (hL : L ≤ 3584) (C0 : lw_At p s m meth c b L xs) : W p l e room_1 s m #[Value.ref b] below meth c s.heap [] 0 0 (lw_Z below #[Value.ref b] s) (entryFrame m ([Value.ref b] : List Value).toArray 4) := by
  obtain ⟨hx, hb, hr, hml, hown, hts0, hX, hbl, hlocks, hgv⟩ := C0
  have hts : ∀ w ∈ LW, w.before #[Value.ref b] s = true := fun w hw => hts0 w (LW_lw hw)
  obtain ⟨c0, iS0, hKn0⟩ := u_known (C := RX0) (T := TX0) (N := 7) (n := 7) hts inq_0 (hts (.instantiable RX0 7) w_121)
  obtain ⟨c1, iS1, hKn1⟩ := u_known (C := RX1) (T := TX1) (N := 5) (n := 5) hts inq_1 (hts (.instantiable RX1 5) w_93)
  obtain ⟨c2, iS2, hKn2⟩ := u_known (C := RX2) (T := TX2) (N := 3) (n := 3) hts inq_2 (hts (.instantiable RX2 3) w_99)
  obtain ⟨c3, iS3, hKn3⟩ := u_known (C := RX3) (T := TX3) (N := 9) (n := 9) hts inq_3 (hts (.instantiable RX3 9) w_309)
  obtain ⟨c4, iS4, hKn4⟩ := u_known (C := RX4) (T := TX4) (N := 3) (n := 3) hts inq_4 (hts (.instantiable RX4 3) w_261)
  obtain ⟨c5, iS5, hKn5⟩ := u_known (C := RX5) (T := TX5) (N := 4) (n := 4) hts inq_5 (hts (.instantiable RX5 4) w_369)
  obtain ⟨c6, iS6, hKn6⟩ := u_known (C := RX6) (T := TX6) (N := 7) (n := 7) hts inq_6 (hts (.instantiable RX6 7) w_392)
  obtain ⟨c7, iS7, hKn7⟩ := u_known (C := RX7) (T := TX7) (N := 3) (n := 3) hts inq_7 (hts (.instantiable RX7 3) w_315)
  obtain ⟨c8, iS8, hKn8⟩ := u_known (C := RX8) (T := TX8) (N := 11) (n := 11) hts inq_8 (hts (.instantiable RX8 11) w_186)
  obtain ⟨c9, iS9, hKn9⟩ := u_known (C := RX9) (T := TX9) (N := 3) (n := 3) hts inq_9 (hts (.instantiable RX9 3) w_425)
  obtain ⟨c10, iS10, hKn10⟩ := u_known (C := RX10) (T := TX10) (N := 7) (n := 7) hts inq_10 (hts (.instantiable RX10 7) w_255)
  obtain ⟨c11, iS11, hKn11⟩ := u_known (C := RX11) (T := TX11) (N := 18) (n := 18) hts inq_11 (hts (.instantiable RX11 18) w_85)
  obtain ⟨c12, iS12, hKn12⟩ := u_known (C := RX12) (T := TX12) (N := 34) (n := 34) hts inq_12 (hts (.instantiable RX12 34) w_987)
  obtain ⟨dC, dI, hKc⟩ : ∃ (dC : Nat → ClassId) (dI : Nat → Nat → Nat), ∀ (k : Nat) (q : vw_C), vwCl[k]? = some q → u_Kn s q.1 q.2.1 q.2.2 (dC k) (dI k) := by
    refine ⟨fun k => if k = 0 then c0 else if k = 1 then c1 else if k = 2 then c2 else if k = 3 then c3 else if k = 4 then c4 else if k = 5 then c5 else if k = 6 then c6 else if k = 7 then c7 else if k = 8 then c8 else if k = 9 then c9 else if k = 10 then c10 else if k = 11 then c11 else c12, fun k => if k = 0 then iS0 else if k = 1 then iS1 else if k = 2 then iS2 else if k = 3 then iS3 else if k = 4 then iS4 else if k = 5 then iS5 else if k = 6 then iS6 else if k = 7 then iS7 else if k = 8 then iS8 else if k = 9 then iS9 else if k = 10 then iS10 else if k = 11 then iS11 else iS12, ?_⟩
    intro k q hq
    match k, hq with
    | 0, hq => cases hq; exact hKn0
    | 1, hq => cases hq; exact hKn1
    | 2, hq => cases hq; exact hKn2
    | 3, hq => cases hq; exact hKn3
    | 4, hq => cases hq; exact hKn4
    | 5, hq => cases hq; exact hKn5
    | 6, hq => cases hq; exact hKn6
    | 7, hq => cases hq; exact hKn7
    | 8, hq => cases hq; exact hKn8
    | 9, hq => cases hq; exact hKn9
    | 10, hq => cases hq; exact hKn10
    | 11, hq => cases hq; exact hKn11
    | 12, hq => cases hq; exact hKn12
    | k + 13, hq => simp [vwCl] at hq
  obtain ⟨a0, A0, B0⟩ := arr_known (hts0 _ w_118)
  obtain ⟨a1, A1, B1⟩ := arr_known (hts0 _ w_421)
  obtain ⟨a2, A2, B2⟩ := arr_knownO (hts0 _ w_120)
  obtain ⟨a3, A3, B3⟩ := arr_knownO (hts0 _ w_280)
  obtain ⟨a4, A4, B4⟩ := arr_knownO (hts0 _ w_336)
  obtain ⟨a5, A5, B5⟩ := arr_knownO (hts0 _ w_423)
  obtain ⟨a6, A6, B6⟩ := arr_knownA (hts0 _ w_192)
  -- the static table
  have hs9 := flat_of_before _ hgv
  obtain ⟨t9, ht9, hT9⟩ : ∃ t : Nat, (Term.static "DuesOnRungs" "UNDER" "[I").eval #[Value.ref b] s none [] s = some (.ref t) ∧ va_T .int t 6 (fun j => .int (i3 (und j))) (fun q => s.heap.size ≤ q ∧ q < s.heap.size + NN) s s.heap := by
    refine va_Tof (N := 6) (by decide) (hs9 (Cond.arrayOf (.static "DuesOnRungs" "UNDER" "[I") .int) (by decide +kernel)) (va_eqt (z := 6) (hs9 (Cond.eq (.length (.static "DuesOnRungs" "UNDER" "[I")) (.int 6)) (by decide +kernel))) ?_ (fun a ha h => absurd h.1 (Nat.not_le.mpr ha))
    intro j hj
    match j, hj with
    | 0, _ => exact va_eqt (z := -1) (hs9 (Cond.eq (.elem (.static "DuesOnRungs" "UNDER" "[I") (.int 0)) (.int (-1))) (by decide +kernel))
    | 1, _ => exact va_eqt (z := 0) (hs9 (Cond.eq (.elem (.static "DuesOnRungs" "UNDER" "[I") (.int 1)) (.int 0)) (by decide +kernel))
    | 2, _ => exact va_eqt (z := 0) (hs9 (Cond.eq (.elem (.static "DuesOnRungs" "UNDER" "[I") (.int 2)) (.int 0)) (by decide +kernel))
    | 3, _ => exact va_eqt (z := 1) (hs9 (Cond.eq (.elem (.static "DuesOnRungs" "UNDER" "[I") (.int 3)) (.int 1)) (by decide +kernel))
    | 4, _ => exact va_eqt (z := 2) (hs9 (Cond.eq (.elem (.static "DuesOnRungs" "UNDER" "[I") (.int 4)) (.int 2)) (by decide +kernel))
    | 5, _ => exact va_eqt (z := 2) (hs9 (Cond.eq (.elem (.static "DuesOnRungs" "UNDER" "[I") (.int 5)) (.int 2)) (by decide +kernel))
  obtain ⟨g, hg1, hg2, hg3, hg4⟩ : ∃ g : En, g.1 = (dC, dI) ∧ g.2.1 = (fun k => if k = 0 then a0 else if k = 1 then a1 else if k = 2 then a2 else if k = 3 then a3 else if k = 4 then a4 else if k = 5 then a5 else a6) ∧ g.2.2.1 = s.heap.size ∧ g.2.2.2 = t9 := ⟨((dC, dI), _, s.heap.size, t9), rfl, rfl, rfl, rfl⟩
  have hKs : va_K g.1 vwCl (Tys g) s := by
    rw [hg1]
    refine ⟨hKc, fun k q hq => ?_⟩
    unfold Tys at hq
    rw [hg2] at hq
    match k, hq with
    | 0, hq => cases hq; exact ⟨A0, B0⟩
    | 1, hq => cases hq; exact ⟨A1, B1⟩
    | 2, hq => cases hq; exact ⟨A2, B2⟩
    | 3, hq => cases hq; exact ⟨A3, B3⟩
    | 4, hq => cases hq; exact ⟨A4, B4⟩
    | 5, hq => cases hq; exact ⟨A5, B5⟩
    | 6, hq => cases hq; exact ⟨A6, B6⟩
    | k + 7, hq => simp at hq
  have hnest : ∀ w ∈ NestW, va_Nw w s := by
    intro w hw
    simp only [NestW, List.mem_cons, List.not_mem_nil, or_false] at hw
    rcases hw with e | e | e | e | e | e | e | e | e <;> subst e
    · exact va_Nw.of rfl (hts0 _ w_122)
    · exact va_Nw.of rfl (hts0 _ w_187)
    · exact va_Nw.of rfl (hts0 _ w_262)
    · exact va_Nw.of rfl (hts0 _ w_307)
    · exact va_Nw.of rfl (hts0 _ w_321)
    · exact va_Nw.of rfl (hts0 _ w_338)
    · exact va_Nw.of rfl (hts0 _ w_370)
    · exact va_Nw.of rfl (hts0 _ w_393)
    · exact va_Nw.of rfl (hts0 _ w_426)
  have hKc2 : Kc g s := ⟨hKs, hnest, ⟨hts0 _ w_120, hts0 _ w_280, hts0 _ w_336, hts0 _ w_423⟩, hts0 _ w_192⟩
  have F : Fc g p s m #[Value.ref b] meth c code 4 RL := ⟨hx, hb, hml, hown, hts, hKc2, hlocks, by rw [hg3]; exact Nat.le_refl _⟩
  have haR : (fun q : Nat => s.heap.size ≤ q ∧ q < s.heap.size + NN) = aR g := by unfold aR; rw [hg3]
  have hz9 : va_Z "DuesOnRungs" "UNDER" "[I" (.ref g.2.2.2) (aR g) s s.heap := by
    rw [hg4, ← haR]
    exact va_Zof (hts0 _ w_616) (hts (.initialized "DuesOnRungs") w_67) ht9 (fun a ha h => absurd h.1 (Nat.not_le.mpr ha))
  have FX9 : Fx g p s m #[Value.ref b] meth c code 4 RL := ⟨hx, hb, hml, hown, hts, hKs, hlocks, hz9, by rw [hg4, ← haR]; exact hT9, va_Nw.of rfl (hts0 _ w_615)⟩
  have hl := lv_entry ([.ref b]) (n := 4) (Nat.le_of_ble_eq_true rfl)
  rw [lg_entry_eq]
  generalize (lg_sl ([.ref b]) ++ List.replicate (4 - (lg_sl ([.ref b])).length) Slot.unset).toArray = ls at hl ⊢
  have hl : lv_has ls 4 [(0, .ref b)] := hl
  have key : CZ g p l e room_1 s m #[Value.ref b] below meth c 4 (lw_Z below #[Value.ref b] s) 0 (fun _ _ => false) (fun _ _ => 0) 0 0 0 [(0, .ref b)] [] := by
    refine cz_new (N := 0) (ci := 11) F tyX11 (by decide) rfl inq_11 tyX11_ok w_84 w_85 w_67 kd_0 (fun j hj b => nf_11 (b := b) j hj) rfl rfl rfl (Nat.le_of_ble_eq_true rfl) (Nat.le_of_ble_eq_true rfl) dL_law_0 rfl ?_
    refine cz_dup F rfl dL_law_3 rfl ?_
    refine cz_call (h := 0) (As := []) (st := [.ref (g.2.2.1 + 0)]) F (k_X11_init_0 l g) ci_X11_init w_86 ⟨rfl, rfl, Nat.le_of_ble_eq_true rfl, Nat.le_of_ble_eq_true rfl⟩ rfl (Nat.le_of_ble_eq_true rfl) dL_law_4 rfl rfl ⟨Nat.le_of_ble_eq_true rfl, Nat.le_of_ble_eq_true rfl⟩ rfl ?_
    refine cz_astore_n F dL_law_7 rfl rfl (by decide) rfl ?_
    refine cz_new (N := 189) (ci := 12) F tyX12 (by decide) rfl inq_12 tyX12_ok w_986 w_987 w_80 kd_189 (fun j hj b => nf_12 (b := b) j hj) rfl rfl rfl (Nat.le_of_ble_eq_true rfl) (Nat.le_of_ble_eq_true rfl) dL_law_8 rfl ?_
    refine cz_dup F rfl dL_law_11 rfl ?_
    refine cz_call (h := 189) (As := []) (st := [.ref (g.2.2.1 + 189)]) F (k_X12_init_189 l g) ci_X12_init w_988 ⟨rfl, rfl, Nat.le_of_ble_eq_true rfl, Nat.le_of_ble_eq_true rfl⟩ rfl (Nat.le_of_ble_eq_true rfl) dL_law_12 rfl rfl ⟨Nat.le_of_ble_eq_true rfl, Nat.le_of_ble_eq_true rfl⟩ rfl ?_
    refine cz_astore_n F dL_law_15 rfl rfl (by decide) rfl ?_
    refine cz_iconst F dL_law_16 rfl ?_
    refine cz_istore_n F dL_law_17 rfl rfl (by decide) rfl ?_
    intro H locs ls hP hS hl
    have hP2 : va_P g.1 vwCl (wS g M_new) H := PC_Rp (I := I_new) (M := M_new) hP I_ok
    refine va_forget (fun q hq => by have := hS.2.2 q hq; unfold aB at this; rw [hg3] at this; exact this) ?_
    have hS2 : va_S (aR g) s.heap H [] := ⟨hS.1, fun q h1 h2 => hS.2.1 q h1 (fun h3 => by unfold aB at h3; omega), fun q hq => absurd hq List.not_mem_nil⟩
    exact law_loop (xs := xs) FX9 hX hbl (fun h => by unfold aR at h; omega) hL ⟨Nat.le_of_ble_eq_true rfl, Nat.le_of_ble_eq_true rfl⟩ hr (Nat.le_of_ble_eq_true rfl) (Nat.le_of_ble_eq_true rfl) (fun q h => by unfold aR at h; omega) hst (L + 1) 0 (Nat.zero_le _) (by omega) M_new h0 H [] ls hP2 hS2 (lv_sub hl [3, 2, 1, 0] rfl)
  refine key s.heap [] ls ⟨by rw [hg3]; rfl, fun k q h => by simp [wC] at h⟩ ?_ hl
  exact va_S.rf
