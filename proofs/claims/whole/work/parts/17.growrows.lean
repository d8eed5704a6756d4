def NestW : List Cond := [Cond.methodLinkNest "DuesOnRungs$Book" 32 ⟨"DuesOnRungs$Bond", "<init>", "()V"⟩ "DuesOnRungs", Cond.methodLinkNest "DuesOnRungs" 23 ⟨"DuesOnRungs$Scene", "<init>", "()V"⟩ "DuesOnRungs", Cond.methodLinkNest "DuesOnRungs$Worths" 11 ⟨"DuesOnRungs$Fraction", "<init>", "()V"⟩ "DuesOnRungs", Cond.methodLinkNest "DuesOnRungs" 57 ⟨"DuesOnRungs$Fraction", "<init>", "()V"⟩ "DuesOnRungs", Cond.methodLinkNest "DuesOnRungs$Row" 11 ⟨"DuesOnRungs$Fraction", "<init>", "()V"⟩ "DuesOnRungs", Cond.methodLinkNest "DuesOnRungs$Dictionary" 28 ⟨"DuesOnRungs$Fraction", "<init>", "()V"⟩ "DuesOnRungs", Cond.methodLinkNest "DuesOnRungs" 71 ⟨"DuesOnRungs$Ladder", "<init>", "()V"⟩ "DuesOnRungs", Cond.methodLinkNest "DuesOnRungs" 78 ⟨"DuesOnRungs$Replay", "<init>", "()V"⟩ "DuesOnRungs", Cond.methodLinkNest "DuesOnRungs" 95 ⟨"DuesOnRungs$Sheet", "<init>", "()V"⟩ "DuesOnRungs"]
def AOA (U : State) : Prop := (Cond.arrayOver (.array .int)).before #[] U = true
/-- what a making needs to know of the tables -/
def Kc (g : En) (U : State) : Prop := va_K g.1 vwCl (Tys g) U ∧ (∀ w ∈ NestW, va_Nw w U) ∧ (va_AO "DuesOnRungs$Bond" U ∧ va_AO "DuesOnRungs$Fraction" U ∧ va_AO "DuesOnRungs$Row" U ∧ va_AO "DuesOnRungs$Sheet" U) ∧ AOA U
theorem Nest_moved {s U : State} (hm : ∀ (a : String) (i : Nat) (x : MethodName) (h : String), va_Nw (.methodLinkNest a i x h) s → va_Nw (.methodLinkNest a i x h) U) (h : ∀ w ∈ NestW, va_Nw w s) : ∀ w ∈ NestW, va_Nw w U := by
  intro w hw
  have h1 := h w hw
  simp only [NestW, List.mem_cons, List.not_mem_nil, or_false] at hw
  rcases hw with e | e | e | e | e | e | e | e | e <;> subst e <;> exact hm _ _ _ _ h1
theorem Kc.warm {g : En} {s U : State} (hA : AOA s → AOA U) (hW : s.WarmedH U.vm) (h : Kc g s) : Kc g U :=
  ⟨h.1.moved hW.alike, Nest_moved (fun _ _ _ _ q => va_Nw.warmM hW q) h.2.1, ⟨h.2.2.1.1.moved hW.alike, h.2.2.1.2.1.moved hW.alike, h.2.2.1.2.2.1.moved hW.alike, h.2.2.1.2.2.2.moved hW.alike⟩, hA h.2.2.2⟩
theorem AOA_alike {s U : State} (hvm : s.vm.Alike U.vm) (h : AOA s) : AOA U := by
  have hf : ∀ n, U.vm.findClass n = s.vm.findClass n := fun n => by rw [hvm.findClass]
  have hi : ∀ (f : Class → Bool), (∀ k, f (Class.bare k) = f k) → U.vm.classes.findIdx? f = s.vm.classes.findIdx? f := by
    intro f hg
    have e : ∀ vm : Vm, vm.classes.findIdx? f = vm.bare.classes.findIdx? f := by
      intro vm
      simp only [Vm.bare, Array.findIdx?_map]
      exact congrArg (fun z => vm.classes.findIdx? z) (funext fun k => (hg k).symm)
    rw [e U.vm, e s.vm, hvm.bare_eq]
  have hm : ∀ (c : Nat) (f : Class → Bool), (∀ k, f (Class.bare k) = f k) → (U.vm.classes[c]?).map f = (s.vm.classes[c]?).map f := by
    intro c f hg
    have e : ∀ vm : Vm, (vm.classes[c]?).map f = (vm.bare.classes[c]?).map f := by
      intro vm
      rw [Vm.classes_bare, Option.map_map]
      cases vm.classes[c]? with
      | none => rfl
      | some k => simp [hg]
    rw [e U.vm, e s.vm, hvm.bare_eq]
  unfold AOA Cond.before Cond.holds at h ⊢
  simp only [Cond.value] at h ⊢
  simp only [hf]
  refine Eq.trans ?_ h
  congr 1
  cases s.vm.findClass (FieldType.array FieldType.int).toString with
  | none => rfl
  | some comp =>
    simp only [Option.bind_some]
    rw [hi _ (fun k => rfl)]
    refine congrArg (Option.bind _) (funext fun c => ?_)
    exact hm c _ (fun k => rfl)
theorem AOA_warm {s U : State} (hW : s.WarmedH U.vm) (h : AOA s) : AOA U := AOA_alike hW.alike h
def Fc (g : En) (p : Program) (s : State) (m : MethodId) (args : Array Value) (meth : Method) (c : Code) (cc : ByteArray) (nL : Nat) (own : String) : Prop :=
  p.tables.exec = Jvm.exec ∧ c.code = cc ∧ c.maxLocals = nL ∧ s.vm.findClass own = some m.cls ∧ (∀ w ∈ LW, w.before args s = true) ∧ Kc g s ∧ meth.locks = false ∧ g.2.2.1 ≤ s.heap.size
def CZ (g : En) (p : Program) (l : Launch) (e : Env) (R : Room) (s : State) (m : MethodId) (args : Array Value) (below : List Frame) (meth : Method) (c : Code) (nL : Nat) (Q : State → Prop) (N : Nat) (I : Msk) (M : Mem) (k n pc : Nat) (lv : List (Nat × Value)) (st : List Value) : Prop :=
  ∀ (H : Heap) (locs : List Loc) (ls : Array Slot), PC g N I M H → va_S (aB g) s.heap H locs → lv_has ls nL lv → W p l e R s m args below meth c H locs k n Q (F0 m pc ls st)
def RqC (g : En) (N : Nat) (I : Msk) (M : Mem) (U : State) : Prop := PC g N I M U.heap ∧ Kc g U
theorem RqC_blind {g : En} {N : Nat} {I : Msk} {M : Mem} {av : List Value} : FrameBlind (va_Pc av (RqC g N I M)) := by
  intro a U f mk h
  obtain ⟨h0, h1, h2, h3, h4, h5⟩ := h
  exact ⟨h0, h1, va_K.moved (u := U) (U := U.calling f mk a) (Vm.Alike.refl U.vm) h2, Nest_moved (fun _ _ _ _ q => va_Nw.same (u := U) (U := U.calling f mk a) rfl rfl q) h3, ⟨va_AO.moved (u := U) (U := U.calling f mk a) (Vm.Alike.refl U.vm) h4.1, va_AO.moved (u := U) (U := U.calling f mk a) (Vm.Alike.refl U.vm) h4.2.1, va_AO.moved (u := U) (U := U.calling f mk a) (Vm.Alike.refl U.vm) h4.2.2.1, va_AO.moved (u := U) (U := U.calling f mk a) (Vm.Alike.refl U.vm) h4.2.2.2⟩, h5⟩
def FX (ci j : Nat) (own : String) (idx : Nat) (ty : FieldType) (fin : Bool) : Prop := ci < 13 ∧ ∃ (C : String) (T : u_T) (N : Nat) (ty0 : Nat → FieldType), vwCl[ci]? = some (C, T, N) ∧ (∀ w ∈ u_ws C T N, w ∈ LW) ∧ j < N ∧ Cond.fieldLink own idx (T j).1 (T j).2.1 (T j).2.2.1 ∈ LW ∧
  (∀ k, k < N → parseFieldDescriptor (T k).2.2.1 = some (ty0 k)) ∧ (∀ a, a < N → ∀ b, b < N → a ≠ b → (T a).2.1 ≠ (T b).2.1) ∧ (T j).2.2.2 = fin ∧ (T j).1 = own ∧ parseFieldDescriptor (T j).2.2.1 = some ty ∧ (slt ci).length = N
section CR
variable {g : En} {p : Program} {l : Launch} {e : Env} {R : Room} {s : State} {m : MethodId} {args : Array Value} {below : List Frame} {meth : Method} {c : Code} {cc : ByteArray} {nL : Nat} {own : String} {Q : State → Prop} {N : Nat} {I : Nat → Nat → Bool} {M : Mem} {k n : Nat} {pc q : Nat} {lv : List (Nat × Value)} {st : List Value}
theorem cz_iload_n (F : Fc g p s m args meth c cc nL own) {k9 : Fin 4} {i : Nat} {x : Int} (d : decode cc pc = .ok (.iload_n k9, 1)) (hq : pc + 1 = q) (hk : (k9 : Nat) = i) (t : Nat) (hl9 : lv[t]? = some (i, .int (i3 x))) (kk : CZ g p l e R s m args below meth c nL Q N I M k n q lv (.int (i3 x) :: st)) : CZ g p l e R s m args below meth c nL Q N I M k n pc lv st := by
  subst hq
  intro H locs ls hP hS h9
  exact lv_iload_n F.1 F.2.1 d hk (lv_at h9 t hl9) (kk H locs ls hP hS h9)
theorem cz_aload_n (F : Fc g p s m args meth c cc nL own) {k9 : Fin 4} {i : Nat} {x : Nat} (d : decode cc pc = .ok (.aload_n k9, 1)) (hq : pc + 1 = q) (hk : (k9 : Nat) = i) (t : Nat) (hl9 : lv[t]? = some (i, .ref x)) (kk : CZ g p l e R s m args below meth c nL Q N I M k n q lv (.ref x :: st)) : CZ g p l e R s m args below meth c nL Q N I M k n pc lv st := by
  subst hq
  intro H locs ls hP hS h9
  exact lv_aload_n F.1 F.2.1 d hk (lv_at h9 t hl9) (kk H locs ls hP hS h9)
theorem cz_istore_n (F : Fc g p s m args meth c cc nL own) {k9 : Fin 4} {i : Nat} {x : Int} {lv2 : List (Nat × Value)} (d : decode cc pc = .ok (.istore_n k9, 1)) (hq : pc + 1 = q) (hk : (k9 : Nat) = i) (hn : i < nL) (hl9 : (i, Value.int (i3 x)) :: lv.filter (fun q => !(q.1 == i) && !(q.1 + 1 == i && q.2.category == 2)) = lv2) (kk : CZ g p l e R s m args below meth c nL Q N I M k n q lv2 st) : CZ g p l e R s m args below meth c nL Q N I M k n pc lv (.int (i3 x) :: st) := by
  subst hq
  intro H locs ls hP hS h9
  exact lv_istore_n F.1 F.2.1 d hk h9 hn hl9 (fun ls2 h8 => kk H locs ls2 hP hS h8)
theorem cz_iinc (F : Fc g p s m args meth c cc nL own) {i : Nat} {a x y : Int} {lv2 : List (Nat × Value)} (d : decode cc pc = .ok (.iinc i a, 3)) (hq : pc + 3 = q) (t : Nat) (ht : lv[t]? = some (i, .int (i3 x))) (hy : x + a = y) (hn : i < nL) (hl9 : (i, Value.int (i3 y)) :: lv.filter (fun q => !(q.1 == i) && !(q.1 + 1 == i && q.2.category == 2)) = lv2) (kk : CZ g p l e R s m args below meth c nL Q N I M k n q lv2 st) : CZ g p l e R s m args below meth c nL Q N I M k n pc lv st := by
  subst hq
  subst hy
  intro H locs ls hP hS h9
  exact lv_iinc F.1 F.2.1 d h9 ht (i3_add x a).symm hn hl9 (fun ls2 h8 => kk H locs ls2 hP hS h8)
theorem cz_iconst (F : Fc g p s m args meth c cc nL own) {v : Int} (d : decode cc pc = .ok (.iconst v, 1)) (hq : pc + 1 = q) (kk : CZ g p l e R s m args below meth c nL Q N I M k n q lv (.int (i3 v) :: st)) : CZ g p l e R s m args below meth c nL Q N I M k n pc lv st := by
  subst hq
  intro H locs ls hP hS hl
  exact lv_iconst F.1 F.2.1 d rfl (kk H locs ls hP hS hl)
theorem cz_bipush (F : Fc g p s m args meth c cc nL own) {v : Int} (d : decode cc pc = .ok (.bipush v, 2)) (hn : (Int8.ofInt v).toInt32 = i3 v) (hq : pc + 2 = q) (kk : CZ g p l e R s m args below meth c nL Q N I M k n q lv (.int (i3 v) :: st)) : CZ g p l e R s m args below meth c nL Q N I M k n pc lv st := by
  subst hq
  intro H locs ls hP hS hl
  exact lv_bipush F.1 F.2.1 d hn (kk H locs ls hP hS hl)
theorem cz_sipush (F : Fc g p s m args meth c cc nL own) {v : Int} (d : decode cc pc = .ok (.sipush v, 3)) (hn : (Int16.ofInt v).toInt32 = i3 v) (hq : pc + 3 = q) (kk : CZ g p l e R s m args below meth c nL Q N I M k n q lv (.int (i3 v) :: st)) : CZ g p l e R s m args below meth c nL Q N I M k n pc lv st := by
  subst hq
  intro H locs ls hP hS hl
  exact lv_sipush F.1 F.2.1 d hn (kk H locs ls hP hS hl)
theorem cz_lconst1 (F : Fc g p s m args meth c cc nL own) (d : decode cc pc = .ok (.lconst 1, 1)) (hq : pc + 1 = q) (kk : CZ g p l e R s m args below meth c nL Q N I M k n q lv (.long (i6 1) :: st)) : CZ g p l e R s m args below meth c nL Q N I M k n pc lv st := by
  subst hq
  intro H locs ls hP hS hl
  exact lv_lconst F.1 F.2.1 d rfl (kk H locs ls hP hS hl)
theorem cz_dup (F : Fc g p s m args meth c cc nL own) {v : Value} (hv : v.category = 1) (d : decode cc pc = .ok (.dup, 1)) (hq : pc + 1 = q) (kk : CZ g p l e R s m args below meth c nL Q N I M k n q lv (v :: v :: st)) : CZ g p l e R s m args below meth c nL Q N I M k n pc lv (v :: st) := by
  subst hq
  intro H locs ls hP hS hl
  exact lv_dup F.1 F.2.1 d hv (kk H locs ls hP hS hl)
theorem cz_goto (F : Fc g p s m args meth c cc nL own) {off : Int} (d : decode cc pc = .ok (.goto off, 3)) (ht : (pc : Int) + off = (q : Int)) (kk : CZ g p l e R s m args below meth c nL Q N I M k n q lv st) : CZ g p l e R s m args below meth c nL Q N I M k n pc lv st := by
  intro H locs ls hP hS hl
  exact lv_goto F.1 F.2.1 d ht (kk H locs ls hP hS hl)
theorem cz_ge_y (F : Fc g p s m args meth c cc nL own) {x y off : Int} {t : Nat} (h : w32 y ≤ w32 x) (d : decode cc pc = .ok (.if_icmp .ge off, 3)) (ht : (pc : Int) + off = (t : Int)) (kk : CZ g p l e R s m args below meth c nL Q N I M k n t lv st) : CZ g p l e R s m args below meth c nL Q N I M k n pc lv (.int (i3 y) :: .int (i3 x) :: st) := by
  intro H locs ls hP hS hl
  exact lv_icmp_ge F.1 F.2.1 d ht (fun _ => kk H locs ls hP hS hl) (fun q9 => absurd ((i3_le y x).mpr h) q9)
theorem cz_ge_n (F : Fc g p s m args meth c cc nL own) {x y off : Int} {t : Nat} (h : ¬ w32 y ≤ w32 x) (d : decode cc pc = .ok (.if_icmp .ge off, 3)) (ht : (pc : Int) + off = (t : Int)) (hq : pc + 3 = q) (kk : CZ g p l e R s m args below meth c nL Q N I M k n q lv st) : CZ g p l e R s m args below meth c nL Q N I M k n pc lv (.int (i3 y) :: .int (i3 x) :: st) := by
  subst hq
  intro H locs ls hP hS hl
  exact lv_icmp_ge F.1 F.2.1 d ht (fun q9 => absurd ((i3_le y x).mp q9) h) (fun _ => kk H locs ls hP hS hl)
theorem cz_obj (F : Fc g p s m args meth c cc nL own) {idx a : Nat} (hlk : Cond.methodLink own idx Lib.objectInit ∈ LW) (hin : Cond.instanceMethod Lib.objectInit ∈ LW) (hco : Cond.code Lib.objectInit ⟨#[0xb1]⟩ 1 none ∈ LW) (hf : 1 ≤ R.frames) (hlo : (st.map fun v => v.category).sum + 12 ≤ R.locals) (d : decode cc pc = .ok (.invokespecial idx, 3)) (hq : pc + 3 = q) (kk : CZ g p l e R s m args below meth c nL Q N I M k n q lv st) : CZ g p l e R s m args below meth c nL Q N I M k n pc lv (.ref a :: st) := by
  subst hq
  intro H locs ls hP hS hl
  refine W.objInit (rest := st) F.1 F.2.1 F.2.2.2.1 (F.2.2.2.2.1 _ hlk) (F.2.2.2.2.1 _ hin) (F.2.2.2.2.1 _ hco) rfl (hl.1.trans F.2.2.1.symm) rfl d hf ?_ (kk H locs ls hP hS hl)
  show 2 * 0 + _ + 12 ≤ _
  omega
theorem aB_new {H H1 : Heap} {locs : List Loc} (F : Fc g p s m args meth c cc nL own) (hS : va_S (aB g) s.heap H locs) (hz : H.size ≤ H1.size) (ho : ∀ q, q < H.size → H1[q]? = H[q]?) : va_S (aB g) s.heap H1 locs :=
  ⟨Nat.le_trans hS.1 hz, fun q h1 h2 => (ho q (Nat.lt_of_lt_of_le h1 hS.1)).trans (hS.2.1 q h1 h2), hS.2.2⟩
theorem cz_new (F : Fc g p s m args meth c cc nL own) {ci idx nF : Nat} {C : String} {T : u_T} (ty : Nat → FieldType) (hci : ci < 13) (hc : vwCl[ci]? = some (C, T, nF)) (hin : ∀ w ∈ u_ws C T nF, w ∈ LW) (hty : ∀ k, k < nF → parseFieldDescriptor (T k).2.2.1 = some (ty k)) (hcl : Cond.classLink own idx C ∈ LW) (hins : Cond.instantiable C nF ∈ LW) (hini : Cond.initialized C ∈ LW) (hk : kd N = ci) (hfs : ∀ j, j < nF → ∀ b : Nat, defaultValue (ty j) = vp_V (fsC b (zI I N) (zM M N) N 0 (slt ci)) j) {k2 n2 N2 : Nat} (hN : N + 1 = N2) (hk2 : k + 1 = k2) (hn2 : n + nF = n2) (hcells : k2 ≤ R.cells) (hslots : n2 ≤ R.slots) (d : decode cc pc = .ok (.new idx, 3)) (hq : pc + 3 = q) (kk : CZ g p l e R s m args below meth c nL Q N2 (zI I N) (zM M N) k2 n2 q lv (.ref (g.2.2.1 + N) :: st)) : CZ g p l e R s m args below meth c nL Q N I M k n pc lv st := by
  subst hq
  subst hN
  subst hk2
  subst hn2
  intro H locs ls hP hS hl
  have hKn := F.2.2.2.2.2.1.1.1 ci _ hc
  refine W.newcK F.1 F.2.1 F.2.2.2.1 (F.2.2.2.2.1 _ hcl) (F.2.2.2.2.1 _ hins) (F.2.2.2.2.1 _ hini) rfl d hcells hslots hKn.2.1 hP.1 fun H1 kC hkC e1 z1 o1 => ?_
  have ho : ∀ q, q < H.size → H1[q]? = H[q]? := fun q hq => o1 q (by rw [← hP.1]; exact hq)
  have hz : H1.size = H.size + 1 := by rw [z1, hP.1]
  refine kk H1 locs ls (hP.new hz ho (fun a ha => celC_congr (fun x => by simp [zI, zM, Nat.ne_of_lt ha])) (fun a h1 h2 => ?_)) (aB_new F hS (by omega) ho) hl
  have ea : a = N := by omega
  subst ea
  rw [celC_o hk hci]
  exact ⟨_, hc, (u_born ty F.2.2.2.2.1 hin hKn hkC e1 hty).to (fun j hj => hfs j hj _)⟩
theorem cz_newint (F : Fc g p s m args meth c cc nL own) {w : Int} {L : Nat} (hkd : kd N = 13) (hL : ln N = L) (hw : w32 w = (L : Int)) (hsm : L < 1000) (har : Cond.arrayClass (newarray.typeOf .int) ∈ LW) {k2 n2 N2 : Nat} (hN : N + 1 = N2) (hk2 : k + 1 = k2) (hn2 : n + L = n2) (hcells : k2 ≤ R.cells) (hslots : n2 ≤ R.slots) (d : decode cc pc = .ok (.newarray .int, 2)) (hq : pc + 2 = q) (kk : CZ g p l e R s m args below meth c nL Q N2 I (zM M N) k2 n2 q lv (.ref (g.2.2.1 + N) :: st)) : CZ g p l e R s m args below meth c nL Q N I M k n pc lv (.int (i3 w) :: st) := by
  subst hq
  subst hN
  subst hk2
  subst hn2
  intro H locs ls hP hS hl
  have hcl : (i3 w).toNatClampNeg = L := by rw [i3_cl]; unfold ix; omega
  refine W.newa (n := i3 w) F.1 F.2.1 (F.2.2.2.2.1 _ har) rfl d rfl (fun h => ?_) ?_ hcells (by rw [hcl]; exact hslots) fun cA kA comp h1 h2 h3 => ?_
  · have h9 := (i3_lt w 0).mp h
    have h0 : w32 0 = 0 := rfl
    omega
  · rw [hcl]
    show L * 4 ≤ _
    omega
  · rw [hcl]
    have hcA : cA = g.2.1 0 := Option.some.inj (h1.symm.trans (F.2.2.2.2.2.1.1.2 0 _ rfl).2)
    rw [hP.1]
    generalize hH1 : H.push ({ cls := cA, slots := Array.replicate L (defaultValue (newarray.typeOf .int)), vm := .none } : Cell) = H1
    have ho : ∀ q, q < H.size → H1[q]? = H[q]? := fun q hq => by rw [← hH1, Array.getElem?_push, if_neg (Nat.ne_of_lt hq)]
    have hz : H1.size = H.size + 1 := by rw [← hH1]; simp
    refine kk H1 locs ls (hP.new hz ho (fun a ha => celC_congr (fun x => by simp [zM, Nat.ne_of_lt ha])) (fun a h1 h2 => ?_)) (aB_new F hS (by omega) ho) hl
    have ea : a = N := by omega
    subst ea
    rw [celC_i hkd]
    show H1[g.2.2.1 + a]? = some (vp_cell _ _)
    rw [← hP.1, ← hH1, Array.getElem?_push, if_pos rfl, arrV_new, hcA, hL]
    rw [vp_cell_i]
    refine congrArg some (congrArg (arrV (g.2.1 0) L) (funext fun j => ?_))
    show Value.int 0 = _
    simp [zM, i3]
theorem cz_newlong (F : Fc g p s m args meth c cc nL own) {w : Int} {L : Nat} (hkd : kd N = 14) (hL : ln N = L) (hw : w32 w = (L : Int)) (hsm : L < 1000) (har : Cond.arrayClass (newarray.typeOf .long) ∈ LW) {k2 n2 N2 : Nat} (hN : N + 1 = N2) (hk2 : k + 1 = k2) (hn2 : n + L = n2) (hcells : k2 ≤ R.cells) (hslots : n2 ≤ R.slots) (d : decode cc pc = .ok (.newarray .long, 2)) (hq : pc + 2 = q) (kk : CZ g p l e R s m args below meth c nL Q N2 I (zM M N) k2 n2 q lv (.ref (g.2.2.1 + N) :: st)) : CZ g p l e R s m args below meth c nL Q N I M k n pc lv (.int (i3 w) :: st) := by
  subst hq
  subst hN
  subst hk2
  subst hn2
  intro H locs ls hP hS hl
  have hcl : (i3 w).toNatClampNeg = L := by rw [i3_cl]; unfold ix; omega
  refine W.newa (n := i3 w) F.1 F.2.1 (F.2.2.2.2.1 _ har) rfl d rfl (fun h => ?_) ?_ hcells (by rw [hcl]; exact hslots) fun cA kA comp h1 h2 h3 => ?_
  · have h9 := (i3_lt w 0).mp h
    have h0 : w32 0 = 0 := rfl
    omega
  · rw [hcl]
    show L * 8 ≤ _
    omega
  · rw [hcl]
    have hcA : cA = g.2.1 1 := Option.some.inj (h1.symm.trans (F.2.2.2.2.2.1.1.2 1 _ rfl).2)
    rw [hP.1]
    generalize hH1 : H.push ({ cls := cA, slots := Array.replicate L (defaultValue (newarray.typeOf .long)), vm := .none } : Cell) = H1
    have ho : ∀ q, q < H.size → H1[q]? = H[q]? := fun q hq => by rw [← hH1, Array.getElem?_push, if_neg (Nat.ne_of_lt hq)]
    have hz : H1.size = H.size + 1 := by rw [← hH1]; simp
    refine kk H1 locs ls (hP.new hz ho (fun a ha => celC_congr (fun x => by simp [zM, Nat.ne_of_lt ha])) (fun a h1 h2 => ?_)) (aB_new F hS (by omega) ho) hl
    have ea : a = N := by omega
    subst ea
    rw [celC_l hkd]
    show H1[g.2.2.1 + a]? = some (vp_cell _ _)
    rw [← hP.1, ← hH1, Array.getElem?_push, if_pos rfl, arrV_new, hcA, hL]
    rw [vp_cell_l]
    refine congrArg some (congrArg (arrV (g.2.1 1) L) (funext fun j => ?_))
    show Value.long 0 = _
    simp [zM, i6]
theorem cz_newq (F : Fc g p s m args meth c cc nL own) {w : Int} {L r idx : Nat} {C : String} (hkd : kd N = r + 15) (hL : ln N = L) (hw : w32 w = (L : Int)) (hsm : L < 1000) (hcl9 : Cond.classLink own idx C ∈ LW) (hao : va_AO C s) (hty : (Tys g)[r + 2]? = some (g.2.1 (r + 2), .object C)) {k2 n2 N2 : Nat} (hN : N + 1 = N2) (hk2 : k + 1 = k2) (hn2 : n + L = n2) (hcells : k2 ≤ R.cells) (hslots : n2 ≤ R.slots) (d : decode cc pc = .ok (.anewarray idx, 3)) (hq : pc + 3 = q) (kk : CZ g p l e R s m args below meth c nL Q N2 (zI I N) (zM M N) k2 n2 q lv (.ref (g.2.2.1 + N) :: st)) : CZ g p l e R s m args below meth c nL Q N I M k n pc lv (.int (i3 w) :: st) := by
  subst hq
  subst hN
  subst hk2
  subst hn2
  intro H locs ls hP hS hl
  have hcl : (i3 w).toNatClampNeg = L := by rw [i3_cl]; unfold ix; omega
  refine W.anew (n := i3 w) F.1 F.2.1 F.2.2.2.1 (F.2.2.2.2.1 _ hcl9) (va_AO.use hao) rfl d rfl (fun h => ?_) (by rw [hcl]; omega) hcells (by rw [hcl]; exact hslots) fun cA kA comp f1 f2 f3 f4 => ?_
  · have h9 := (i3_lt w 0).mp h
    have h0 : w32 0 = 0 := rfl
    omega
  · rw [hcl]
    obtain ⟨kA2, comp2, g1, g2, g3, g4⟩ := (F.2.2.2.2.2.1.1.2 (r + 2) _ hty).2
    have hcA : cA = g.2.1 (r + 2) := Option.some.inj (f1.symm.trans g4)
    rw [hP.1]
    generalize hH1 : H.push ({ cls := cA, slots := Array.replicate L .null, vm := .none } : Cell) = H1
    have ho : ∀ q, q < H.size → H1[q]? = H[q]? := fun q hq => by rw [← hH1, Array.getElem?_push, if_neg (Nat.ne_of_lt hq)]
    have hz : H1.size = H.size + 1 := by rw [← hH1]; simp
    refine kk H1 locs ls (hP.new hz ho (fun a ha => celC_congr (fun x => by simp [zI, zM, Nat.ne_of_lt ha])) (fun a h1 h2 => ?_)) (aB_new F hS (by omega) ho) hl
    have ea : a = N := by omega
    subst ea
    rw [celC_q hkd]
    show H1[g.2.2.1 + a]? = some (vp_cell _ _)
    rw [← hP.1, ← hH1, Array.getElem?_push, if_pos rfl, arrV_new, hcA, hL, vp_cell_q]
    refine congrArg some (congrArg (arrV (g.2.1 (r + 2)) L) (funext fun j => ?_))
    simp [zI]
    rfl
theorem cz_put (F : Fc g p s m args meth c cc nL own) {ci j idx h : Nat} {ty : FieldType} {fin : Bool} {I2 : Msk} {M2 : Mem} {v : Value} (fx : FX ci j own idx ty fin) (hfi : fin = true → meth.name = "<init>") (kh : kd h = ci) (hh : h < N) (hcel : ∀ b : Nat, (fsC b I M h 0 (slt ci)).set j v = fsC b I2 M2 h 0 (slt ci) ∨ b ≠ g.2.2.1) (hoth : ∀ a, a ≠ h → celC g I2 M2 a = celC g I M a) (hn : narrow ty v = v) (hfit : fits ty v = true) (d : decode cc pc = .ok (.putfield idx, 3)) (hq : pc + 3 = q) (kk : CZ g p l e R s m args below meth c nL Q N I2 M2 k n q lv st) : CZ g p l e R s m args below meth c nL Q N I M k n pc lv (v :: .ref (g.2.2.1 + h) :: st) := by
  subst hq
  intro H locs ls hP hS hl
  obtain ⟨hci, C, T, nF, ty0, hc, hin, hj, hlk, hty, hnm, hfin, hdecl, hd, hlen⟩ := fx
  have hK := F.2.2.2.2.2.1.1
  have hts := F.2.2.2.2.1
  have hap := va_apart (own := own) hts hin ty0 hty hnm hK hc
  have h0 := hP.at hh
  rw [celC_o kh hci] at h0
  obtain ⟨r, h1, cell, q1, q2, q3, q4⟩ := h0
  have hr : r = (C, T, nF) := Option.some.inj (h1.symm.trans hc)
  subst hr
  obtain ⟨hS9, hfc, kC, hkC, hkind⟩ := hK.1 ci _ hc
  obtain ⟨cf, kf, fi, f, hi, hsl⟩ := hS9 j hj
  have hst := (u_facts hfc hkC (u_lays hts hin hj) hi).1
  have fin2 : ∀ (H1 : Heap), H1[g.2.2.1 + h]? = some (cell.setSlot (g.1.2 ci j) v) → H1.size = H.size → (∀ q, q ≠ g.2.2.1 + h → H1[q]? = H[q]?) → PC g N I2 M2 H1 := by
    intro H1 e1 e2 e3
    refine hP.put e2 e3 hoth ?_
    rw [celC_o kh hci]
    refine ⟨_, hc, t_OB.to (V := updV (vp_V (fsC g.2.2.1 I M h 0 (slt ci))) j v) ⟨_, e1, q2, q3, t_set q4 hap hj v⟩ (fun x _ => ?_)⟩
    rw [vp_updV_set (by rw [fsC_len, hlen]; exact hj)]
    rcases hcel g.2.2.1 with e | e
    · rw [e]
    · exact absurd rfl e
  have hlay := hts _ (hin _ (u_in_lay hj))
  cases fin with
  | false =>
    unfold u_lay at hlay
    rw [if_neg (by rw [hfin]; decide)] at hlay
    have h6 := u_store hfc hkC hkind hlay hi hd hn hfit
    refine W.putK F.1 F.2.1 (f := f) ⟨F.2.2.2.1, hts _ hlk, ⟨_, _, _, hi⟩, hst⟩ (by rw [q2]; exact h6) q1 q3 (by rw [hsl]; exact k2_hasslot (q4 j hj)) rfl rfl d fun H1 e1 e2 e3 => ?_
    rw [hsl] at e1 ⊢
    exact kk H1 _ ls (fin2 H1 e1 e2 e3) (hS.put e2 e3 (Nat.le_add_right _ _)) hl
  | true =>
    unfold u_lay at hlay
    rw [if_pos hfin] at hlay
    have hcf : m.cls = cf := by
      obtain ⟨_, _, c', _, _, _, -, -, hf', -, -, -, hown2, -⟩ := Cond.laysFinal_spec hlay
      have e1 : c' = cf := by have := hi.symm.trans hf'; simp at this; exact this.1.symm
      rw [hdecl] at hown2
      rw [← e1]; exact Option.some.inj (F.2.2.2.1.symm.trans hown2)
    have h6 := u_fits hfc hkC hkind (Or.inr hlay) hi hd hn hfit
    refine W.putFinK F.1 F.2.1 F.2.2.2.1 (hts _ hlk) hi hst hcf (hfi rfl) (by rw [q2]; exact h6) q1 q3 (by rw [hsl]; exact k2_hasslot (q4 j hj)) rfl rfl d fun H1 e1 e2 e3 => ?_
    rw [hsl] at e1 ⊢
    exact kk H1 _ ls (fin2 H1 e1 e2 e3) (hS.put e2 e3 (Nat.le_add_right _ _)) hl
theorem cz_putI (F : Fc g p s m args meth c cc nL own) {ci j idx h : Nat} {w : Int} {fin : Bool} (fx : FX ci j own idx .int fin) (hfi : fin = true → meth.name = "<init>") (hs : (slt ci)[j]? = some 0) (kh : kd h = ci) (hh : h < N) (d : decode cc pc = .ok (.putfield idx, 3)) (hq : pc + 3 = q) (kk : CZ g p l e R s m args below meth c nL Q N I (st2 M h j w) k n q lv st) : CZ g p l e R s m args below meth c nL Q N I M k n pc lv (.int (i3 w) :: .ref (g.2.2.1 + h) :: st) := by
  refine cz_put (I2 := I) (M2 := st2 M h j w) F fx hfi kh hh (fun b => Or.inl (fsC_set (List.getElem?_eq_some_iff.mp hs).1 (fun t ht => ?_) (fun x hx => ⟨rfl, st2_n M w (fun e => hx e.2)⟩))) (fun a ha => celC_congr (fun x => ⟨rfl, st2_n M w (fun e => ha e.1)⟩)) rfl rfl d hq kk
  have e9 : t = 0 := Option.some.inj (ht.symm.trans hs)
  subst e9
  simp [vofC, vof, st2_s]
theorem cz_putL (F : Fc g p s m args meth c cc nL own) {ci j idx h : Nat} {w : Int} {fin : Bool} (fx : FX ci j own idx .long fin) (hfi : fin = true → meth.name = "<init>") (hs : (slt ci)[j]? = some 1) (kh : kd h = ci) (hh : h < N) (d : decode cc pc = .ok (.putfield idx, 3)) (hq : pc + 3 = q) (kk : CZ g p l e R s m args below meth c nL Q N I (st2 M h j w) k n q lv st) : CZ g p l e R s m args below meth c nL Q N I M k n pc lv (.long (i6 w) :: .ref (g.2.2.1 + h) :: st) := by
  refine cz_put (I2 := I) (M2 := st2 M h j w) F fx hfi kh hh (fun b => Or.inl (fsC_set (List.getElem?_eq_some_iff.mp hs).1 (fun t ht => ?_) (fun x hx => ⟨rfl, st2_n M w (fun e => hx e.2)⟩))) (fun a ha => celC_congr (fun x => ⟨rfl, st2_n M w (fun e => ha e.1)⟩)) rfl rfl d hq kk
  have e9 : t = 1 := Option.some.inj (ht.symm.trans hs)
  subst e9
  simp [vofC, vof, st2_s]
theorem cz_putB (F : Fc g p s m args meth c cc nL own) {ci j idx h : Nat} {r : Bool} {w : Int} (hw : w = bz r) {fin : Bool} (fx : FX ci j own idx .boolean fin) (hfi : fin = true → meth.name = "<init>") (hs : (slt ci)[j]? = some 3) (kh : kd h = ci) (hh : h < N) (d : decode cc pc = .ok (.putfield idx, 3)) (hq : pc + 3 = q) (kk : CZ g p l e R s m args below meth c nL Q N I (st2 M h j w) k n q lv st) : CZ g p l e R s m args below meth c nL Q N I M k n pc lv (.int (i3 w) :: .ref (g.2.2.1 + h) :: st) := by
  subst hw
  refine cz_put (I2 := I) (M2 := st2 M h j (bz r)) F fx hfi kh hh (fun b => Or.inl (fsC_set (List.getElem?_eq_some_iff.mp hs).1 (fun t ht => ?_) (fun x hx => ⟨rfl, st2_n M _ (fun e => hx e.2)⟩))) (fun a ha => celC_congr (fun x => ⟨rfl, st2_n M _ (fun e => ha e.1)⟩)) (by cases r <;> decide) (by cases r <;> decide) d hq kk
  have e9 : t = 3 := Option.some.inj (ht.symm.trans hs)
  subst e9
  cases r <;> simp [vofC, vof, fb, st2_s, bz]
theorem cz_putR (F : Fc g p s m args meth c cc nL own) {ci j idx h r : Nat} {ty : FieldType} {fin : Bool} (fx : FX ci j own idx ty fin) (hfi : fin = true → meth.name = "<init>") (hs : (slt ci)[j]? = some 2) (kh : kd h = ci) (hh : h < N) (hr : rt h j = r) (hn : ∀ a : Nat, narrow ty (.ref a) = .ref a) (hfit : ∀ a : Nat, fits ty (.ref a) = true) (d : decode cc pc = .ok (.putfield idx, 3)) (hq : pc + 3 = q) (kk : CZ g p l e R s m args below meth c nL Q N (stI I h j) M k n q lv st) : CZ g p l e R s m args below meth c nL Q N I M k n pc lv (.ref (g.2.2.1 + r) :: .ref (g.2.2.1 + h) :: st) := by
  refine cz_put (I2 := stI I h j) (M2 := M) F fx hfi kh hh (fun b => ?_) (fun a ha => celC_congr (fun x => ⟨by simp [stI, ha], rfl⟩)) (hn _) (hfit _) d hq kk
  by_cases hb : b = g.2.2.1
  · left
    subst hb
    refine fsC_set (List.getElem?_eq_some_iff.mp hs).1 (fun t ht => ?_) (fun x hx => ⟨by simp [stI, hx], rfl⟩)
    have e9 : t = 2 := Option.some.inj (ht.symm.trans hs)
    subst e9
    simp [vofC, vof, stI, hr]
  · exact Or.inr hb
theorem cz_getR (F : Fc g p s m args meth c cc nL own) {ci j idx h r : Nat} (f : FL ci j own idx 2) (kh : kd h = ci) (hh : h < N) (hr : rt h j = r) (hI : I h j = true) (d : decode cc pc = .ok (.getfield idx, 3)) (hq : pc + 3 = q) (kk : CZ g p l e R s m args below meth c nL Q N I M k n q lv (.ref (g.2.2.1 + r) :: st)) : CZ g p l e R s m args below meth c nL Q N I M k n pc lv (.ref (g.2.2.1 + h) :: st) := by
  subst hq
  subst hr
  intro H locs ls hP hS hl
  obtain ⟨hci, C, T, nF, hc, hin, hj, hlk, ht⟩ := f
  refine va_get (C := C) (T := T) (N := nF) (ci := ci) F.1 F.2.1 F.2.2.2.2.1 hin F.2.2.2.1 F.2.2.2.2.2.1.1 hP.2 h (fs := fsC g.2.2.1 I M h 0 (slt ci)) ?_ hc j hj (F.2.2.2.2.1 _ hlk) (fun _ h9 => h9) (v := .ref (g.2.2.1 + rt h j)) ?_ d (kk H locs ls hP hS hl)
  · rw [wC_get hh, celC_o kh hci]
  · rw [fsC_get, ht]
    simp [vofC, hI, vof]
theorem cz_iast (F : Fc g p s m args meth c cc nL own) {a : Nat} {i w : Int} (ka : kd a = 13) (ha : a < N) (hi : inb a i) (d : decode cc pc = .ok (.iastore, 1)) (hq : pc + 1 = q) (kk : CZ g p l e R s m args below meth c nL Q N I (st2 M a (ix i) w) k n q lv st) : CZ g p l e R s m args below meth c nL Q N I M k n pc lv (.int (i3 w) :: .int (i3 i) :: .ref (g.2.2.1 + a) :: st) := by
  subst hq
  intro H locs ls hP hS hl
  have hcell : H[g.2.2.1 + a]? = some (vp_cell (g.2.1 0) (ln a, .inl (fun j => i3 (M a j)))) := by
    have := hP.at ha
    rw [celC_i ka] at this
    exact this
  refine W.iast F.1 F.2.1 hcell ((F.2.2.2.2.2.1.1.2 0 _ rfl).1 (ln a) (fun j => .int (i3 (M a j)))) (fun q => by cases q) ?_ rfl rfl d fun H1 e1 e2 e3 => ?_
  · show ¬ (i3 i < 0 ∨ (arrV _ _ _).slots.size ≤ _)
    rw [arrV_size]
    exact (i3_in i (ln a)).mpr hi
  · refine kk H1 _ ls (hP.put e2 e3 (fun x hx => celC_congr (fun y => ⟨rfl, st2_n M w (fun e => hx e.1)⟩)) ?_) (hS.put e2 e3 (Nat.le_add_right _ _)) hl
    rw [celC_i ka]
    show H1[_]? = some (vp_cell _ _)
    rw [e1, vp_cell_i, vp_cell_i, arrV_store, i3_cl]
    refine congrArg some (congrArg (arrV (g.2.1 0) (ln a)) (funext fun j => ?_))
    by_cases hj : j = ix i <;> simp [updV, st2, hj]
theorem cz_aast (F : Fc g p s m args meth c cc nL own) {a h r cj : Nat} {i : Int} {C : String} {T : u_T} {nF : Nat} (hcj : cj < 13) (ka : kd a = r + 15) (ha : a < N) (kh : kd h = cj) (hh : h < N) (hc : vwCl[cj]? = some (C, T, nF)) (hty : (Tys g)[r + 2]? = some (g.2.1 (r + 2), .object C)) (hi : inb a i) (hr : rt a (ix i) = h) (d : decode cc pc = .ok (.aastore, 1)) (hq : pc + 1 = q) (kk : CZ g p l e R s m args below meth c nL Q N (stI I a (ix i)) M k n q lv st) : CZ g p l e R s m args below meth c nL Q N I M k n pc lv (.ref (g.2.2.1 + h) :: .int (i3 i) :: .ref (g.2.2.1 + a) :: st) := by
  subst hq
  intro H locs ls hP hS hl
  have hcell : H[g.2.2.1 + a]? = some (vp_cell (g.2.1 (r + 2)) (ln a, .inr (.inr (.inr (.inr (fun j => if I a j = true then some (g.2.2.1 + rt a j) else none)))))) := by
    have := hP.at ha
    rw [celC_q ka] at this
    exact this
  have hv := hP.at hh
  rw [celC_o kh hcj] at hv
  obtain ⟨r', hr', cellV, g1, g2, g3, -⟩ := hv
  have hcls := (F.2.2.2.2.2.1.1.1 cj _ hc).2
  obtain ⟨kA, comp, k1, k2, k3, -⟩ := (F.2.2.2.2.2.1.1.2 (r + 2) _ hty).2
  have hcomp : comp = g.1.1 cj := Option.some.inj (k3.symm.trans hcls.1)
  subst hcomp
  obtain ⟨kC, hkC, -⟩ := hcls.2
  have hin := (i3_in i (ln a)).mpr hi
  refine W.aast F.1 F.2.1 hcell (fun q h => by cases h) (fun h => by cases h) k1 k2 rfl hkC ⟨fun q => hin (Or.inl q), by show _ < (arrV _ _ _).slots.size; rw [arrV_size]; exact Nat.not_le.mp fun q => hin (Or.inr q)⟩ g1 (fun q h => by rw [g3] at h; cases h) (by rw [g2]; exact hkC) (by rw [g2]; exact va_assign hcls) rfl rfl d fun H1 e1 e2 e3 => ?_
  refine kk H1 _ ls (hP.put e2 e3 (fun x hx => celC_congr (fun y => ⟨by simp [stI, hx], rfl⟩)) ?_) (hS.put e2 e3 (Nat.le_add_right _ _)) hl
  rw [celC_q ka]
  show H1[_]? = some (vp_cell _ _)
  rw [e1, vp_cell_q, vp_cell_q, arrV_store, i3_cl]
  refine congrArg some (congrArg (arrV (g.2.1 (r + 2)) (ln a)) (funext fun j => ?_))
  by_cases hj : j = ix i
  · subst hj
    simp [updV, stI, hr, va_rf]
  · simp [updV, stI, hj]
end CR
