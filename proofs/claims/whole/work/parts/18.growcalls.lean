section CK
variable {g : En} {p : Program} {l : Launch} {e : Env} {R : Room} {s : State} {m : MethodId} {args : Array Value} {below : List Frame} {meth : Method} {c : Code} {cc : ByteArray} {nL : Nat} {own : String} {Q : State → Prop} {N : Nat} {I : Nat → Nat → Bool} {M : Mem} {k n : Nat} {pc q : Nat} {lv : List (Nat × Value)} {st : List Value}
variable {y : MethodName} {bytes : ByteArray} {maxL idx na mc ms : Nat} {rm : Room} {As : List Value} {h : Nat} {N2 : Nat} {I2 : Msk} {M2 : Mem}
theorem RqC_of {H : Heap} {U : State} (F : Fc g p s m args meth c cc nL own) (hP : PC g N I M H) (hU : U.heap = H) (hW : s.WarmedH U.vm) : RqC g N I M U := ⟨by rw [hU]; exact hP, Kc.warm (AOA_warm hW) hW F.2.2.2.2.2.1⟩
/-- the end of a making -/
theorem cz_vret (F : Fc g p s m args meth c cc nL own) (hr : meth.sig.returnType = none) (d : decode cc pc = .ok (.return_, 1)) : CZ g p l e R s m args below meth c nL (MQ below (va_Qv (S := Unit) (fun _ => True) (fun _ t => RqC g N I M t) (aB g)) args s k n (aB g)) N I M k n pc lv [] := by
  intro H locs ls hP hS hl
  have hlocks := F.2.2.2.2.2.2.1
  exact W.vret F.1 F.2.1 hr (fun t ht hW => ⟨⟨(), rfl, trivial, RqC_of F hP ht hW⟩, hS.F ht⟩) hS.2.2 d
def fitC (rm R : Room) (maxL mc ms : Nat) : Prop := rm.cells = mc ∧ rm.slots = ms ∧ rm.frames + 1 ≤ R.frames ∧ 8 + (maxL + 11) + rm.locals ≤ R.locals
def CI (y : MethodName) (bytes : ByteArray) (maxL na : Nat) : Prop := Cond.instanceMethod y ∈ LW ∧ Cond.initialized y.cls ∈ LW ∧ Cond.code y bytes maxL none ∈ LW ∧ y.name = "<init>" ∧ okY y na
theorem cz_call (F : Fc g p s m args meth c cc nL own) (hM : Met l y (WS y bytes maxL none) rm (va_Pc (.ref (g.2.2.1 + h) :: As) (RqC g N I M)) (va_Qv (S := Unit) (fun _ => True) (fun _ t => RqC g N2 I2 M2 t) (aB g)) mc ms (aB g)) (ci : CI y bytes maxL na) (hlk : Cond.methodLink own idx y ∈ LW) (hr : fitC rm R maxL mc ms) (hn : As.length = na) (hcat : (st.map fun v => v.category).sum ≤ 8) (d : decode cc pc = .ok (.invokespecial idx, 3)) {k2 n2 : Nat} (hk2 : k + mc = k2) (hn2 : n + ms = n2) (hf : k2 ≤ R.cells ∧ n2 ≤ R.slots) (hq : pc + 3 = q)
    (kk : CZ g p l e R s m args below meth c nL Q N2 I2 M2 k2 n2 q lv st) : CZ g p l e R s m args below meth c nL Q N I M k n pc lv (As.reverse ++ .ref (g.2.2.1 + h) :: st) := by
  subst hk2
  subst hn2
  subst hq
  intro H locs ls hP hS hl
  refine va_callv (va_runI (As := As) (rest := st) ⟨F.1, F.2.1, F.2.2.1, F.2.2.2.1, F.2.2.2.2.1⟩ hM (cwI na F.2.2.2.2.1 (ws_good ci.2.2.1) rfl hr.1 hr.2.1 (F.2.2.2.2.1 _ ci.2.1) (F.2.2.2.2.1 _ hlk) (F.2.2.2.2.1 _ ci.1) ci.2.2.2.1 ci.2.2.2.2 ⟨hr.2.2.1, hr.2.2.2⟩) ⟨RqC_blind, fun U hU hW => ⟨rfl, RqC_of F hP hU hW⟩⟩ rfl hn hl.1 rfl (lv_room hcat) d hf) hS (fun q _ h => h) (fun q h => h) ?_
  intro u t H1 locs1 ht hvm hp hB _ _ hS1
  exact kk H1 locs1 ls (by rw [← ht]; exact hB.1) hS1 hl
theorem cz_callN (F : Fc g p s m args meth c cc nL own) {host : String} (hM : Met l y (WS y bytes maxL none) rm (va_Pc (.ref (g.2.2.1 + h) :: As) (RqC g N I M)) (va_Qv (S := Unit) (fun _ => True) (fun _ t => RqC g N2 I2 M2 t) (aB g)) mc ms (aB g)) (ci : CI y bytes maxL na) (hlk : Cond.methodLinkNest own idx y host ∈ NestW) (hr : fitC rm R maxL mc ms) (hn : As.length = na) (hcat : (st.map fun v => v.category).sum ≤ 8) (d : decode cc pc = .ok (.invokespecial idx, 3)) {k2 n2 : Nat} (hk2 : k + mc = k2) (hn2 : n + ms = n2) (hf : k2 ≤ R.cells ∧ n2 ≤ R.slots) (hq : pc + 3 = q)
    (kk : CZ g p l e R s m args below meth c nL Q N2 I2 M2 k2 n2 q lv st) : CZ g p l e R s m args below meth c nL Q N I M k n pc lv (As.reverse ++ .ref (g.2.2.1 + h) :: st) := by
  subst hk2
  subst hn2
  subst hq
  intro H locs ls hP hS hl
  refine va_callv (va_runIN (As := As) (rest := st) ⟨F.1, F.2.1, F.2.2.1, F.2.2.2.1, F.2.2.2.2.1⟩ hM ⟨va_cnB na F.2.2.2.2.1 (ws_good ci.2.2.1) rfl hr.1 hr.2.1 (F.2.2.2.2.2.1.2.1 _ hlk) (F.2.2.2.2.1 _ ci.2.1) ci.2.2.2.2 ⟨hr.2.2.1, hr.2.2.2⟩, ci.2.2.2.1, F.2.2.2.2.1 _ ci.1⟩ ⟨RqC_blind, fun U hU hW => ⟨rfl, RqC_of F hP hU hW⟩⟩ rfl hn hl.1 rfl (lv_room hcat) d hf) hS (fun q _ h => h) (fun q h => h) ?_
  intro u t H1 locs1 ht hvm hp hB _ _ hS1
  exact kk H1 locs1 ls (by rw [← ht]; exact hB.1) hS1 hl
theorem cz_callS (F : Fc g p s m args meth c cc nL own) (hM : Met l y (WS y bytes maxL none) rm (va_Pc As (RqC g N I M)) (va_Qv (S := Unit) (fun _ => True) (fun _ t => RqC g N2 I2 M2 t) (aB g)) 0 0 (aB g)) (cs : CS y bytes maxL none na) (hlk : Cond.methodLink own idx y ∈ LW) (hr : fitC rm R maxL 0 0) (hn : As.length = na) (hcat : (st.map fun v => v.category).sum ≤ 8) (d : decode cc pc = .ok (.invokestatic idx, 3)) (hf : k ≤ R.cells ∧ n ≤ R.slots) (hq : pc + 3 = q)
    (kk : CZ g p l e R s m args below meth c nL Q N2 I2 M2 k n q lv st) : CZ g p l e R s m args below meth c nL Q N I M k n pc lv (As.reverse ++ st) := by
  subst hq
  intro H locs ls hP hS hl
  refine va_callv (va_runS (As := As) (rest := st) ⟨F.1, F.2.1, F.2.2.1, F.2.2.2.1, F.2.2.2.2.1⟩ hM (va_cwS na F.2.2.2.2.1 (gS cs hlk) rfl hr.1 hr.2.1 cs.2.2.2 ⟨hr.2.2.1, hr.2.2.2⟩) ⟨RqC_blind, fun U hU hW => ⟨rfl, RqC_of F hP hU hW⟩⟩ rfl hn hl.1 rfl (lv_room hcat) d hf) hS (fun q _ h => h) (fun q h => h) ?_
  intro u t H1 locs1 ht hvm hp hB _ _ hS1
  exact kk H1 locs1 ls (by rw [← ht]; exact hB.1) hS1 hl
/-- a making's contract out of its walk -/
theorem met_C {av : List Value} (hplain : plainFor y = true) (hlen : (lg_sl av).length ≤ maxL) (hz : ∀ (p : Program) (e : Env) (s : State) (m : MethodId) (args : Array Value) (below : List Frame) (meth : Method) (c : Code), Fc g p s m args meth c bytes maxL y.cls → meth.sig.returnType = none → meth.name = y.name → CZ g p l e rm s m args below meth c maxL (MQ below (va_Qv (S := Unit) (fun _ => True) (fun _ t => RqC g N2 I2 M2 t) (aB g)) args s mc ms (aB g)) N I M 0 0 0 (lv_args 0 av) []) :
    Met l y (WS y bytes maxL none) rm (va_Pc av (RqC g N I M)) (va_Qv (S := Unit) (fun _ => True) (fun _ t => RqC g N2 I2 M2 t) (aB g)) mc ms (aB g) := by
  refine ofWF (cd := bytes) (maxL := maxL) (ret := none) hplain rfl ?_
  intro p e s m args below meth c s₁ B hml hv
  obtain ⟨rfl, hP, hK⟩ := hv
  have hts : ∀ w ∈ WS y bytes maxL none, w.before av.toArray s = true := atoms_spec (ws := WS y bytes maxL none) B.pre
  have F : Fc g p s m av.toArray meth c bytes maxL y.cls := ⟨B.exec, B.bytes, hml, findClass_of_methodNamed B.named, fun w hw => hts w (List.mem_cons_of_mem _ hw), hK, B.notSynchronized, by rw [hP.1]; exact Nat.le_add_right _ _⟩
  have hl := lv_entry av (n := maxL) hlen
  rw [lg_entry_eq]
  exact hz p e s m av.toArray below meth c F B.returns (name_of_methodNamed B.named B.method).1 s.heap [] _ hP va_S.rf hl
theorem cz_M {M3 : Mem} (h : ∀ a c, M3 a c = M a c) (kk : CZ g p l e R s m args below meth c nL Q N I M3 k n pc lv st) : CZ g p l e R s m args below meth c nL Q N I M k n pc lv st := by
  have e9 : M3 = M := funext fun a => funext fun c => h a c
  rw [← e9]
  exact kk
end CK
theorem flM_succ (M : Mem) (a i : Nat) (v : Int) (x y : Nat) : flM M a (i + 1) v x y = st2 (flM M a i v) a i v x y := by
  show (if x = a ∧ y < i + 1 then v else M x y) = if x = a ∧ y = i then v else (if x = a ∧ y < i then v else M x y)
  by_cases h1 : x = a
  · by_cases h2 : y = i
    · rw [if_pos ⟨h1, by omega⟩, if_pos ⟨h1, h2⟩]
    · rw [if_neg (c := x = a ∧ y = i) (fun q => h2 q.2)]
      by_cases h3 : y < i
      · rw [if_pos ⟨h1, by omega⟩, if_pos ⟨h1, h3⟩]
      · rw [if_neg (fun q => by omega), if_neg (fun q => h3 q.2)]
  · rw [if_neg (fun q => h1 q.1), if_neg (fun q => h1 q.1), if_neg (fun q => h1 q.1)]
set_option maxRecDepth 100000 in
set_option maxHeartbeats 4000000 in
/-- Arrays.fill, over what stands of the world -/
theorem k_fill (l : Launch) (g : En) {a L N : Nat} {v : Int} {I : Msk} {M : Mem} (ka : kd a = 13) (hL : ln a = L) (hsm : L < 1000) (ha : a < N) : Met l yJ7_fill_53178 (WS yJ7_fill_53178 cJ7_fill_53178 4 none) rm_J7_fill_53178 (va_Pc [.ref (g.2.2.1 + a), .int (i3 v)] (RqC g N I M)) (va_Qv (S := Unit) (fun _ => True) (fun _ t => RqC g N I (flM M a L v) t) (aB g)) 0 0 (aB g) := by
  refine met_C (plainFor_of_name rfl) (Nat.le_of_ble_eq_true rfl) ?_
  intro p e s m args below meth c F hr _
  show CZ g p l e rm_J7_fill_53178 s m args below meth c 4 _ N I M 0 0 0 [(0, .ref (g.2.2.1 + a)), (1, .int (i3 v))] []
  refine cz_iconst F dJ7_fill_53178_0 rfl ?_
  refine cz_istore_n F dJ7_fill_53178_1 rfl rfl (by decide) rfl ?_
  refine cz_aload_n F dJ7_fill_53178_2 rfl rfl 1 rfl ?_
  have hlen : ∀ (M : Mem) (lv : List (Nat × Value)) (st : List Value), CZ g p l e rm_J7_fill_53178 s m args below meth c 4 (MQ below (va_Qv (S := Unit) (fun _ => True) (fun _ t => RqC g N I (flM M a L v) t) (aB g)) args s 0 0 (aB g)) N I M 0 0 4 lv (.int (i3 (L : Int)) :: st) → CZ g p l e rm_J7_fill_53178 s m args below meth c 4 (MQ below (va_Qv (S := Unit) (fun _ => True) (fun _ t => RqC g N I (flM M a L v) t) (aB g)) args s 0 0 (aB g)) N I M 0 0 3 lv (.ref (g.2.2.1 + a) :: st) := by
    intro M lv st kk H locs ls hP hS hl
    refine va_alen F.1 F.2.1 F.2.2.2.2.2.1.1 hP.2 a 0 (cA := g.2.1 0) (x := (L, .inl (fun j => i3 (M a j)))) ?_ (ty := .int) rfl rfl dJ7_fill_53178_3 (kk H locs ls hP hS hl)
    rw [wC_get ha, celC_i ka, hL]
  refine hlen M _ _ ?_
  refine cz_istore_n F dJ7_fill_53178_4 rfl rfl (by decide) rfl ?_
  have key : ∀ (d i : Nat), i + d = L → CZ g p l e rm_J7_fill_53178 s m args below meth c 4 (MQ below (va_Qv (S := Unit) (fun _ => True) (fun _ t => RqC g N I (flM M a L v) t) (aB g)) args s 0 0 (aB g)) N I (flM M a i v) 0 0 5 [(3, .int (i3 (L : Int))), (2, .int (i3 (i : Int))), (0, .ref (g.2.2.1 + a)), (1, .int (i3 v))] [] := by
    intro d
    induction d with
    | zero =>
      intro i hi
      have e9 : i = L := by omega
      subst e9
      refine cz_iload_n F dJ7_fill_53178_5 rfl rfl 1 rfl ?_
      refine cz_iload_n F dJ7_fill_53178_6 rfl rfl 0 rfl ?_
      refine cz_ge_y F (Int.le_refl _) dJ7_fill_53178_7 rfl ?_
      exact cz_vret F hr dJ7_fill_53178_20
    | succ d ih =>
      intro i hi
      refine cz_iload_n F dJ7_fill_53178_5 rfl rfl 1 rfl ?_
      refine cz_iload_n F dJ7_fill_53178_6 rfl rfl 0 rfl ?_
      refine cz_ge_n F (by unfold w32; omega) dJ7_fill_53178_7 rfl rfl ?_
      refine cz_aload_n F dJ7_fill_53178_10 rfl rfl 2 rfl ?_
      refine cz_iload_n F dJ7_fill_53178_11 rfl rfl 1 rfl ?_
      refine cz_iload_n F dJ7_fill_53178_12 rfl rfl 3 rfl ?_
      refine cz_iast F ka ha ⟨by unfold w32; omega, by rw [hL]; unfold w32; omega⟩ dJ7_fill_53178_13 rfl ?_
      refine cz_iinc F dJ7_fill_53178_14 rfl 1 rfl (show (i : Int) + 1 = ((i + 1 : Nat) : Int) by omega) (by decide) rfl ?_
      refine cz_goto F dJ7_fill_53178_17 rfl ?_
      refine cz_M (M3 := flM M a (i + 1) v) (fun x y => ?_) ?_
      · have e9 : ix (i : Int) = i := by unfold ix w32; omega
        rw [e9]
        exact flM_succ M a i v x y
      · intro H locs ls hP hS hl
        exact ih (i + 1) (by omega) H locs ls hP hS (lv_sub hl [1, 0, 2, 3] rfl)
  refine cz_M (M3 := flM M a 0 v) (fun x y => by simp [flM]) ?_
  exact key L 0 (by omega)
