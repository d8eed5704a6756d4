/-! the machine over the fixed world: a state is what the cells hold, a place, locals, a stack -/
def Fx (g : En) (p : Program) (s : State) (m : MethodId) (args : Array Value) (meth : Method) (c : Code) (cc : ByteArray) (nL : Nat) (own : String) : Prop :=
  p.tables.exec = Jvm.exec ∧ c.code = cc ∧ c.maxLocals = nL ∧ s.vm.findClass own = some m.cls ∧ (∀ w ∈ LW, w.before args s = true) ∧ va_K g.1 vwCl (Tys g) s ∧ meth.locks = false ∧
  va_Z "DuesOnRungs" "UNDER" "[I" (.ref g.2.2.2) (aR g) s s.heap ∧ va_T .int g.2.2.2 6 (fun j => .int (i3 (und j))) (aR g) s s.heap ∧ va_Nw (.fieldLinkNest "DuesOnRungs$Bond" 37 "DuesOnRungs" "UNDER" "[I" "DuesOnRungs") s
def Z (g : En) (p : Program) (l : Launch) (e : Env) (R : Room) (s : State) (m : MethodId) (args : Array Value) (below : List Frame) (meth : Method) (c : Code) (nL : Nat) (Q : State → Prop) (M : Mem) (pc : Nat) (lv : List (Nat × Value)) (st : List Value) : Prop :=
  ∀ (H : Heap) (locs : List Loc) (ls : Array Slot), va_P g.1 vwCl (wS g M) H → va_S (aR g) s.heap H locs → lv_has ls nL lv → W p l e R s m args below meth c H locs 0 0 Q (F0 m pc ls st)
def FL (ci j : Nat) (own : String) (idx t : Nat) : Prop := ci < 13 ∧ ∃ (C : String) (T : u_T) (N : Nat), vwCl[ci]? = some (C, T, N) ∧ (∀ w ∈ u_ws C T N, w ∈ LW) ∧ j < N ∧ Cond.fieldLink own idx (T j).1 (T j).2.1 (T j).2.2.1 ∈ LW ∧ (slt ci)[j]? = some t
def FP (ci j : Nat) (own : String) (idx t : Nat) (ty : FieldType) : Prop := ci < 13 ∧ ∃ (C : String) (T : u_T) (N : Nat) (ty0 : Nat → FieldType), vwCl[ci]? = some (C, T, N) ∧ (∀ w ∈ u_ws C T N, w ∈ LW) ∧ j < N ∧ Cond.fieldLink own idx (T j).1 (T j).2.1 (T j).2.2.1 ∈ LW ∧ (slt ci)[j]? = some t ∧
  (∀ k, k < N → parseFieldDescriptor (T k).2.2.1 = some (ty0 k)) ∧ (∀ a, a < N → ∀ b, b < N → a ≠ b → (T a).2.1 ≠ (T b).2.1) ∧ (T j).2.2.2 = false ∧ parseFieldDescriptor (T j).2.2.1 = some ty ∧ (slt ci).length = N
def inb (a : Nat) (i : Int) : Prop := 0 ≤ w32 i ∧ w32 i < (ln a : Int)
def lx (a b : Int) : Int := (i6 a ^^^ i6 b).toInt
def la (a b : Int) : Int := (i6 a &&& i6 b).toInt
section ZR
variable {g : En} {p : Program} {l : Launch} {e : Env} {R : Room} {s : State} {m : MethodId} {args : Array Value} {below : List Frame} {meth : Method} {c : Code} {cc : ByteArray} {nL : Nat} {own : String} {Q : State → Prop} {M : Mem} {pc q : Nat} {lv : List (Nat × Value)} {st : List Value}
theorem z_iload_n (F : Fx g p s m args meth c cc nL own) {k : Fin 4} {i : Nat} {x : Int} (d : decode cc pc = .ok (.iload_n k, 1)) (hq : pc + 1 = q) (hk : (k : Nat) = i) (t : Nat) (hl : lv[t]? = some (i, .int (i3 x))) (kk : Z g p l e R s m args below meth c nL Q M q lv (.int (i3 x) :: st)) : Z g p l e R s m args below meth c nL Q M pc lv st := by
  subst hq
  intro H locs ls hP hS h9
  refine lv_iload_n F.1 F.2.1 d hk (lv_at h9 t hl) ?_
  exact kk H locs ls hP hS h9
theorem z_iload (F : Fx g p s m args meth c cc nL own) {i : Nat} {x : Int} (d : decode cc pc = .ok (.iload i, 2)) (hq : pc + 2 = q) (t : Nat) (hl : lv[t]? = some (i, .int (i3 x))) (kk : Z g p l e R s m args below meth c nL Q M q lv (.int (i3 x) :: st)) : Z g p l e R s m args below meth c nL Q M pc lv st := by
  subst hq
  intro H locs ls hP hS h9
  refine lv_iload F.1 F.2.1 d (lv_at h9 t hl) ?_
  exact kk H locs ls hP hS h9
theorem z_lload_n (F : Fx g p s m args meth c cc nL own) {k : Fin 4} {i : Nat} {x : Int} (d : decode cc pc = .ok (.lload_n k, 1)) (hq : pc + 1 = q) (hk : (k : Nat) = i) (t : Nat) (hl : lv[t]? = some (i, .long (i6 x))) (kk : Z g p l e R s m args below meth c nL Q M q lv (.long (i6 x) :: st)) : Z g p l e R s m args below meth c nL Q M pc lv st := by
  subst hq
  intro H locs ls hP hS h9
  refine lv_lload_n F.1 F.2.1 d hk (lv_at h9 t hl) ?_
  exact kk H locs ls hP hS h9
theorem z_lload (F : Fx g p s m args meth c cc nL own) {i : Nat} {x : Int} (d : decode cc pc = .ok (.lload i, 2)) (hq : pc + 2 = q) (t : Nat) (hl : lv[t]? = some (i, .long (i6 x))) (kk : Z g p l e R s m args below meth c nL Q M q lv (.long (i6 x) :: st)) : Z g p l e R s m args below meth c nL Q M pc lv st := by
  subst hq
  intro H locs ls hP hS h9
  refine lv_lload F.1 F.2.1 d (lv_at h9 t hl) ?_
  exact kk H locs ls hP hS h9
theorem z_aload_n (F : Fx g p s m args meth c cc nL own) {k : Fin 4} {i : Nat} {x : Nat} (d : decode cc pc = .ok (.aload_n k, 1)) (hq : pc + 1 = q) (hk : (k : Nat) = i) (t : Nat) (hl : lv[t]? = some (i, .ref x)) (kk : Z g p l e R s m args below meth c nL Q M q lv (.ref x :: st)) : Z g p l e R s m args below meth c nL Q M pc lv st := by
  subst hq
  intro H locs ls hP hS h9
  refine lv_aload_n F.1 F.2.1 d hk (lv_at h9 t hl) ?_
  exact kk H locs ls hP hS h9
theorem z_aload (F : Fx g p s m args meth c cc nL own) {i : Nat} {x : Nat} (d : decode cc pc = .ok (.aload i, 2)) (hq : pc + 2 = q) (t : Nat) (hl : lv[t]? = some (i, .ref x)) (kk : Z g p l e R s m args below meth c nL Q M q lv (.ref x :: st)) : Z g p l e R s m args below meth c nL Q M pc lv st := by
  subst hq
  intro H locs ls hP hS h9
  refine lv_aload F.1 F.2.1 d (lv_at h9 t hl) ?_
  exact kk H locs ls hP hS h9
theorem z_istore_n (F : Fx g p s m args meth c cc nL own) {k : Fin 4} {i : Nat} {x : Int} {lv2 : List (Nat × Value)} (d : decode cc pc = .ok (.istore_n k, 1)) (hq : pc + 1 = q) (hk : (k : Nat) = i) (hn : i < nL) (hl : (i, Value.int (i3 x)) :: lv.filter (fun q => !(q.1 == i) && !(q.1 + 1 == i && q.2.category == 2)) = lv2) (kk : Z g p l e R s m args below meth c nL Q M q lv2 st) : Z g p l e R s m args below meth c nL Q M pc lv (.int (i3 x) :: st) := by
  subst hq
  intro H locs ls hP hS h9
  refine lv_istore_n F.1 F.2.1 d hk h9 hn hl (fun ls2 h8 => ?_)
  exact kk H locs ls2 hP hS h8
theorem z_istore (F : Fx g p s m args meth c cc nL own) {i : Nat} {x : Int} {lv2 : List (Nat × Value)} (d : decode cc pc = .ok (.istore i, 2)) (hq : pc + 2 = q) (hn : i < nL) (hl : (i, Value.int (i3 x)) :: lv.filter (fun q => !(q.1 == i) && !(q.1 + 1 == i && q.2.category == 2)) = lv2) (kk : Z g p l e R s m args below meth c nL Q M q lv2 st) : Z g p l e R s m args below meth c nL Q M pc lv (.int (i3 x) :: st) := by
  subst hq
  intro H locs ls hP hS h9
  refine lv_istore F.1 F.2.1 d h9 hn hl (fun ls2 h8 => ?_)
  exact kk H locs ls2 hP hS h8
theorem z_lstore_n (F : Fx g p s m args meth c cc nL own) {k : Fin 4} {i : Nat} {x : Int} {lv2 : List (Nat × Value)} (d : decode cc pc = .ok (.lstore_n k, 1)) (hq : pc + 1 = q) (hk : (k : Nat) = i) (hn : i + 1 < nL) (hl : (i, Value.long (i6 x)) :: lv.filter (fun q => !(q.1 == i) && (!(q.1 == i + 1) && !(q.1 + 1 == i && q.2.category == 2))) = lv2) (kk : Z g p l e R s m args below meth c nL Q M q lv2 st) : Z g p l e R s m args below meth c nL Q M pc lv (.long (i6 x) :: st) := by
  subst hq
  intro H locs ls hP hS h9
  refine lv_lstore_n F.1 F.2.1 d hk h9 hn hl (fun ls2 h8 => ?_)
  exact kk H locs ls2 hP hS h8
theorem z_lstore (F : Fx g p s m args meth c cc nL own) {i : Nat} {x : Int} {lv2 : List (Nat × Value)} (d : decode cc pc = .ok (.lstore i, 2)) (hq : pc + 2 = q) (hn : i + 1 < nL) (hl : (i, Value.long (i6 x)) :: lv.filter (fun q => !(q.1 == i) && (!(q.1 == i + 1) && !(q.1 + 1 == i && q.2.category == 2))) = lv2) (kk : Z g p l e R s m args below meth c nL Q M q lv2 st) : Z g p l e R s m args below meth c nL Q M pc lv (.long (i6 x) :: st) := by
  subst hq
  intro H locs ls hP hS h9
  refine lv_lstore F.1 F.2.1 d h9 hn hl (fun ls2 h8 => ?_)
  exact kk H locs ls2 hP hS h8
theorem z_astore_n (F : Fx g p s m args meth c cc nL own) {k : Fin 4} {i : Nat} {x : Nat} {lv2 : List (Nat × Value)} (d : decode cc pc = .ok (.astore_n k, 1)) (hq : pc + 1 = q) (hk : (k : Nat) = i) (hn : i < nL) (hl : (i, Value.ref x) :: lv.filter (fun q => !(q.1 == i) && !(q.1 + 1 == i && q.2.category == 2)) = lv2) (kk : Z g p l e R s m args below meth c nL Q M q lv2 st) : Z g p l e R s m args below meth c nL Q M pc lv (.ref x :: st) := by
  subst hq
  intro H locs ls hP hS h9
  refine lv_astore_n F.1 F.2.1 d hk h9 hn hl (fun ls2 h8 => ?_)
  exact kk H locs ls2 hP hS h8
theorem z_astore (F : Fx g p s m args meth c cc nL own) {i : Nat} {x : Nat} {lv2 : List (Nat × Value)} (d : decode cc pc = .ok (.astore i, 2)) (hq : pc + 2 = q) (hn : i < nL) (hl : (i, Value.ref x) :: lv.filter (fun q => !(q.1 == i) && !(q.1 + 1 == i && q.2.category == 2)) = lv2) (kk : Z g p l e R s m args below meth c nL Q M q lv2 st) : Z g p l e R s m args below meth c nL Q M pc lv (.ref x :: st) := by
  subst hq
  intro H locs ls hP hS h9
  refine lv_astore F.1 F.2.1 d h9 hn hl (fun ls2 h8 => ?_)
  exact kk H locs ls2 hP hS h8
theorem z_iinc (F : Fx g p s m args meth c cc nL own) {i : Nat} {n x : Int} {lv2 : List (Nat × Value)} (d : decode cc pc = .ok (.iinc i n, 3)) (hq : pc + 3 = q) (t : Nat) (ht : lv[t]? = some (i, .int (i3 x))) (hn : i < nL) (hl : (i, Value.int (i3 (x + n))) :: lv.filter (fun q => !(q.1 == i) && !(q.1 + 1 == i && q.2.category == 2)) = lv2) (kk : Z g p l e R s m args below meth c nL Q M q lv2 st) : Z g p l e R s m args below meth c nL Q M pc lv st := by
  subst hq
  intro H locs ls hP hS h9
  refine lv_iinc F.1 F.2.1 d h9 ht (i3_add x n).symm hn hl (fun ls2 h8 => ?_)
  exact kk H locs ls2 hP hS h8
theorem z_iconst (F : Fx g p s m args meth c cc nL own) {n : Int} (d : decode cc pc = .ok (.iconst n, 1)) (hq : pc + 1 = q) (kk : Z g p l e R s m args below meth c nL Q M q lv (.int (i3 n) :: st)) : Z g p l e R s m args below meth c nL Q M pc lv (st) := by
  subst hq
  intro H locs ls hP hS hl
  refine lv_iconst F.1 F.2.1 d rfl ?_
  exact kk H locs ls hP hS hl
theorem z_bipush (F : Fx g p s m args meth c cc nL own) {n : Int} (d : decode cc pc = .ok (.bipush n, 2)) (hn : (Int8.ofInt n).toInt32 = i3 n) (hq : pc + 2 = q) (kk : Z g p l e R s m args below meth c nL Q M q lv (.int (i3 n) :: st)) : Z g p l e R s m args below meth c nL Q M pc lv st := by
  subst hq
  intro H locs ls hP hS hl
  exact lv_bipush F.1 F.2.1 d hn (kk H locs ls hP hS hl)
theorem z_sipush (F : Fx g p s m args meth c cc nL own) {n : Int} (d : decode cc pc = .ok (.sipush n, 3)) (hn : (Int16.ofInt n).toInt32 = i3 n) (hq : pc + 3 = q) (kk : Z g p l e R s m args below meth c nL Q M q lv (.int (i3 n) :: st)) : Z g p l e R s m args below meth c nL Q M pc lv st := by
  subst hq
  intro H locs ls hP hS hl
  exact lv_sipush F.1 F.2.1 d hn (kk H locs ls hP hS hl)
theorem z_lconst (F : Fx g p s m args meth c cc nL own) {n : Fin 2} {v : Int} (d : decode cc pc = .ok (.lconst n, 1)) (hn : Int64.ofNat (n : Nat) = i6 v) (hq : pc + 1 = q) (kk : Z g p l e R s m args below meth c nL Q M q lv (.long (i6 v) :: st)) : Z g p l e R s m args below meth c nL Q M pc lv st := by
  subst hq
  intro H locs ls hP hS hl
  exact lv_lconst F.1 F.2.1 d hn (kk H locs ls hP hS hl)
theorem z_ldc (F : Fx g p s m args meth c cc nL own) {idx : Nat} {n : Int} {v : Int32} (hw : Cond.constant own idx v ∈ LW) (hn : v = i3 n) (d : decode cc pc = .ok (.ldc idx, 2)) (hq : pc + 2 = q) (kk : Z g p l e R s m args below meth c nL Q M q lv (.int (i3 n) :: st)) : Z g p l e R s m args below meth c nL Q M pc lv st := by
  subst hq
  subst hn
  intro H locs ls hP hS hl
  exact lv_ldc F.1 F.2.1 F.2.2.2.1 (F.2.2.2.2.1 _ hw) d (kk H locs ls hP hS hl)
theorem z_ldcw (F : Fx g p s m args meth c cc nL own) {idx : Nat} {n : Int} {v : Int32} (hw : Cond.constant own idx v ∈ LW) (hn : v = i3 n) (d : decode cc pc = .ok (.ldc_w idx, 3)) (hq : pc + 3 = q) (kk : Z g p l e R s m args below meth c nL Q M q lv (.int (i3 n) :: st)) : Z g p l e R s m args below meth c nL Q M pc lv st := by
  subst hq
  subst hn
  intro H locs ls hP hS hl
  exact lv_ldcw F.1 F.2.1 F.2.2.2.1 (F.2.2.2.2.1 _ hw) d (kk H locs ls hP hS hl)
theorem z_ldc2 (F : Fx g p s m args meth c cc nL own) {idx : Nat} {n : Int} {v : Int64} (hw : Cond.constantLong own idx v ∈ LW) (hn : v = i6 n) (d : decode cc pc = .ok (.ldc2_w idx, 3)) (hq : pc + 3 = q) (kk : Z g p l e R s m args below meth c nL Q M q lv (.long (i6 n) :: st)) : Z g p l e R s m args below meth c nL Q M pc lv st := by
  subst hq
  subst hn
  intro H locs ls hP hS hl
  exact lv_ldc2 F.1 F.2.1 F.2.2.2.1 (F.2.2.2.2.1 _ hw) d (kk H locs ls hP hS hl)
theorem z_iadd (F : Fx g p s m args meth c cc nL own) {x y : Int} (d : decode cc pc = .ok (.iadd, 1)) (hq : pc + 1 = q) (kk : Z g p l e R s m args below meth c nL Q M q lv (.int (i3 (x + y)) :: st)) : Z g p l e R s m args below meth c nL Q M pc lv (.int (i3 y) :: .int (i3 x) :: st) := by
  subst hq
  intro H locs ls hP hS hl
  refine lv_iadd F.1 F.2.1 d ?_
  rw [← i3_add]
  exact kk H locs ls hP hS hl
theorem z_ladd (F : Fx g p s m args meth c cc nL own) {x y : Int} (d : decode cc pc = .ok (.ladd, 1)) (hq : pc + 1 = q) (kk : Z g p l e R s m args below meth c nL Q M q lv (.long (i6 (x + y)) :: st)) : Z g p l e R s m args below meth c nL Q M pc lv (.long (i6 y) :: .long (i6 x) :: st) := by
  subst hq
  intro H locs ls hP hS hl
  refine lv_ladd F.1 F.2.1 d ?_
  rw [← i6_add]
  exact kk H locs ls hP hS hl
theorem z_isub (F : Fx g p s m args meth c cc nL own) {x y : Int} (d : decode cc pc = .ok (.isub, 1)) (hq : pc + 1 = q) (kk : Z g p l e R s m args below meth c nL Q M q lv (.int (i3 (x - y)) :: st)) : Z g p l e R s m args below meth c nL Q M pc lv (.int (i3 y) :: .int (i3 x) :: st) := by
  subst hq
  intro H locs ls hP hS hl
  refine lv_isub F.1 F.2.1 d ?_
  rw [← i3_sub]
  exact kk H locs ls hP hS hl
theorem z_lsub (F : Fx g p s m args meth c cc nL own) {x y : Int} (d : decode cc pc = .ok (.lsub, 1)) (hq : pc + 1 = q) (kk : Z g p l e R s m args below meth c nL Q M q lv (.long (i6 (x - y)) :: st)) : Z g p l e R s m args below meth c nL Q M pc lv (.long (i6 y) :: .long (i6 x) :: st) := by
  subst hq
  intro H locs ls hP hS hl
  refine lv_lsub F.1 F.2.1 d ?_
  rw [← i6_sub]
  exact kk H locs ls hP hS hl
theorem z_imul (F : Fx g p s m args meth c cc nL own) {x y : Int} (d : decode cc pc = .ok (.imul, 1)) (hq : pc + 1 = q) (kk : Z g p l e R s m args below meth c nL Q M q lv (.int (i3 (x * y)) :: st)) : Z g p l e R s m args below meth c nL Q M pc lv (.int (i3 y) :: .int (i3 x) :: st) := by
  subst hq
  intro H locs ls hP hS hl
  refine lv_imul F.1 F.2.1 d ?_
  rw [← i3_mul]
  exact kk H locs ls hP hS hl
theorem z_lmul (F : Fx g p s m args meth c cc nL own) {x y : Int} (d : decode cc pc = .ok (.lmul, 1)) (hq : pc + 1 = q) (kk : Z g p l e R s m args below meth c nL Q M q lv (.long (i6 (x * y)) :: st)) : Z g p l e R s m args below meth c nL Q M pc lv (.long (i6 y) :: .long (i6 x) :: st) := by
  subst hq
  intro H locs ls hP hS hl
  refine lv_lmul F.1 F.2.1 d ?_
  rw [← i6_mul]
  exact kk H locs ls hP hS hl
theorem z_ineg (F : Fx g p s m args meth c cc nL own) {x : Int} (d : decode cc pc = .ok (.ineg, 1)) (hq : pc + 1 = q) (kk : Z g p l e R s m args below meth c nL Q M q lv (.int (i3 (-x)) :: st)) : Z g p l e R s m args below meth c nL Q M pc lv (.int (i3 x) :: st) := by
  subst hq
  intro H locs ls hP hS hl
  refine lv_ineg F.1 F.2.1 d ?_
  rw [← i3_neg]
  exact kk H locs ls hP hS hl
theorem z_lneg (F : Fx g p s m args meth c cc nL own) {x : Int} (d : decode cc pc = .ok (.lneg, 1)) (hq : pc + 1 = q) (kk : Z g p l e R s m args below meth c nL Q M q lv (.long (i6 (-x)) :: st)) : Z g p l e R s m args below meth c nL Q M pc lv (.long (i6 x) :: st) := by
  subst hq
  intro H locs ls hP hS hl
  refine lv_lneg F.1 F.2.1 d ?_
  rw [← i6_neg]
  exact kk H locs ls hP hS hl
theorem z_i2l (F : Fx g p s m args meth c cc nL own) {x : Int} (d : decode cc pc = .ok (.i2l, 1)) (hq : pc + 1 = q) (kk : Z g p l e R s m args below meth c nL Q M q lv (.long (i6 (w32 x)) :: st)) : Z g p l e R s m args below meth c nL Q M pc lv (.int (i3 x) :: st) := by
  subst hq
  intro H locs ls hP hS hl
  refine lv_i2l F.1 F.2.1 d (i3_i2l x) ?_
  exact kk H locs ls hP hS hl
theorem z_l2i (F : Fx g p s m args meth c cc nL own) {x : Int} (d : decode cc pc = .ok (.l2i, 1)) (hq : pc + 1 = q) (kk : Z g p l e R s m args below meth c nL Q M q lv (.int (i3 x) :: st)) : Z g p l e R s m args below meth c nL Q M pc lv (.long (i6 x) :: st) := by
  subst hq
  intro H locs ls hP hS hl
  refine lv_l2i F.1 F.2.1 d (i6_l2i x) ?_
  exact kk H locs ls hP hS hl
theorem z_i2b (F : Fx g p s m args meth c cc nL own) {x : Int} (d : decode cc pc = .ok (.i2b, 1)) (hq : pc + 1 = q) (kk : Z g p l e R s m args below meth c nL Q M q lv (.int (i3 (w8 x)) :: st)) : Z g p l e R s m args below meth c nL Q M pc lv (.int (i3 x) :: st) := by
  subst hq
  intro H locs ls hP hS hl
  refine lv_i2b F.1 F.2.1 d (i3_i2b x) ?_
  exact kk H locs ls hP hS hl
theorem z_lxor (F : Fx g p s m args meth c cc nL own) {x y : Int} (d : decode cc pc = .ok (.lxor, 1)) (hq : pc + 1 = q) (kk : Z g p l e R s m args below meth c nL Q M q lv (.long (i6 (lx x y)) :: st)) : Z g p l e R s m args below meth c nL Q M pc lv (.long (i6 y) :: .long (i6 x) :: st) := by
  subst hq
  intro H locs ls hP hS hl
  refine lv_lxor F.1 F.2.1 d ?_
  rw [show i6 x ^^^ i6 y = i6 (lx x y) from (i6_of _).symm]
  exact kk H locs ls hP hS hl
theorem z_land (F : Fx g p s m args meth c cc nL own) {x y : Int} (d : decode cc pc = .ok (.land, 1)) (hq : pc + 1 = q) (kk : Z g p l e R s m args below meth c nL Q M q lv (.long (i6 (la x y)) :: st)) : Z g p l e R s m args below meth c nL Q M pc lv (.long (i6 y) :: .long (i6 x) :: st) := by
  subst hq
  intro H locs ls hP hS hl
  refine lv_land F.1 F.2.1 d ?_
  rw [show i6 x &&& i6 y = i6 (la x y) from (i6_of _).symm]
  exact kk H locs ls hP hS hl
theorem z_idiv (F : Fx g p s m args meth c cc nL own) {x y : Int} {A : Prop} (d : decode cc pc = .ok (.idiv, 1)) (hq : pc + 1 = q) (hw : w32 y ≠ 0 ∧ A) (kk : A → Z g p l e R s m args below meth c nL Q M q lv (.int (i3 ((w32 x).tdiv (w32 y))) :: st)) : Z g p l e R s m args below meth c nL Q M pc lv (.int (i3 y) :: .int (i3 x) :: st) := by
  subst hq
  intro H locs ls hP hS hl
  refine lv_idiv F.1 F.2.1 d (fun h => hw.1 ?_) ?_
  · have h2 := (i3_eq y 0).mp h
    exact h2
  · rw [i3_div]
    exact kk hw.2 H locs ls hP hS hl
theorem z_irem (F : Fx g p s m args meth c cc nL own) {x y : Int} {A : Prop} (d : decode cc pc = .ok (.irem, 1)) (hq : pc + 1 = q) (hw : w32 y ≠ 0 ∧ A) (kk : A → Z g p l e R s m args below meth c nL Q M q lv (.int (i3 ((w32 x).tmod (w32 y))) :: st)) : Z g p l e R s m args below meth c nL Q M pc lv (.int (i3 y) :: .int (i3 x) :: st) := by
  subst hq
  intro H locs ls hP hS hl
  refine lv_irem F.1 F.2.1 d (fun h => hw.1 ?_) ?_
  · have h2 := (i3_eq y 0).mp h
    exact h2
  · rw [i3_rem]
    exact kk hw.2 H locs ls hP hS hl
theorem z_ldiv (F : Fx g p s m args meth c cc nL own) {x y : Int} {A : Prop} (d : decode cc pc = .ok (.ldiv, 1)) (hq : pc + 1 = q) (hw : w64 y ≠ 0 ∧ A) (kk : A → Z g p l e R s m args below meth c nL Q M q lv (.long (i6 ((w64 x).tdiv (w64 y))) :: st)) : Z g p l e R s m args below meth c nL Q M pc lv (.long (i6 y) :: .long (i6 x) :: st) := by
  subst hq
  intro H locs ls hP hS hl
  refine lv_ldiv F.1 F.2.1 d (fun h => hw.1 ?_) ?_
  · have h2 := (i6_eq y 0).mp h
    exact h2
  · rw [i6_div]
    exact kk hw.2 H locs ls hP hS hl
theorem z_lrem (F : Fx g p s m args meth c cc nL own) {x y : Int} {A : Prop} (d : decode cc pc = .ok (.lrem, 1)) (hq : pc + 1 = q) (hw : w64 y ≠ 0 ∧ A) (kk : A → Z g p l e R s m args below meth c nL Q M q lv (.long (i6 ((w64 x).tmod (w64 y))) :: st)) : Z g p l e R s m args below meth c nL Q M pc lv (.long (i6 y) :: .long (i6 x) :: st) := by
  subst hq
  intro H locs ls hP hS hl
  refine lv_lrem F.1 F.2.1 d (fun h => hw.1 ?_) ?_
  · have h2 := (i6_eq y 0).mp h
    exact h2
  · rw [i6_rem]
    exact kk hw.2 H locs ls hP hS hl
theorem z_ush9 (F : Fx g p s m args meth c cc nL own) {x : Int} (d : decode cc pc = .ok (.iushr, 1)) (hq : pc + 1 = q) (kk : Z g p l e R s m args below meth c nL Q M q lv (.int (i3 (x % 4294967296 / 512)) :: st)) : Z g p l e R s m args below meth c nL Q M pc lv (.int (i3 9) :: .int (i3 x) :: st) := by
  subst hq
  intro H locs ls hP hS hl
  refine lv_iushr F.1 F.2.1 d ?_ (kk H locs ls hP hS hl)
  have h := pk_ushr (i3 x) (i3 9) 9 (by decide)
  have e : ∀ z : Int, (i3 z).toBitVec.toNat = (z % 4294967296).toNat := fun z => by simp [i3, Int32.toBitVec_ofInt, BitVec.toNat_ofInt]
  apply Int32.toBitVec_inj.mp
  apply BitVec.eq_of_toNat_eq
  rw [h, e, e]
  omega
theorem z_and31 (F : Fx g p s m args meth c cc nL own) {x : Int} (d : decode cc pc = .ok (.iand, 1)) (hq : pc + 1 = q) (kk : Z g p l e R s m args below meth c nL Q M q lv (.int (i3 (x % 32)) :: st)) : Z g p l e R s m args below meth c nL Q M pc lv (.int (i3 31) :: .int (i3 x) :: st) := by
  subst hq
  intro H locs ls hP hS hl
  refine lv_iand F.1 F.2.1 d ?_
  have h := pk_and (i3 x) (m := i3 31) 5 (by decide)
  have e : ∀ z : Int, (i3 z).toBitVec.toNat = (z % 4294967296).toNat := fun z => by simp [i3, Int32.toBitVec_ofInt, BitVec.toNat_ofInt]
  rw [e] at h
  have h2 : i3 x &&& i3 31 = i3 (x % 32) := by
    rw [h]
    apply Int32.toBitVec_inj.mp
    apply BitVec.eq_of_toNat_eq
    rw [e, pk_tn (by omega)]
    omega
  rw [h2]
  exact kk H locs ls hP hS hl
theorem z_dup (F : Fx g p s m args meth c cc nL own) {v : Value} (hv : v.category = 1) (d : decode cc pc = .ok (.dup, 1)) (hq : pc + 1 = q) (kk : Z g p l e R s m args below meth c nL Q M q lv (v :: v :: st)) : Z g p l e R s m args below meth c nL Q M pc lv (v :: st) := by
  subst hq
  intro H locs ls hP hS hl
  exact lv_dup F.1 F.2.1 d hv (kk H locs ls hP hS hl)
theorem z_dup2 (F : Fx g p s m args meth c cc nL own) {v w : Value} (hv : v.category = 1) (hw : w.category = 1) (d : decode cc pc = .ok (.dup2, 1)) (hq : pc + 1 = q) (kk : Z g p l e R s m args below meth c nL Q M q lv (w :: v :: w :: v :: st)) : Z g p l e R s m args below meth c nL Q M pc lv (w :: v :: st) := by
  subst hq
  intro H locs ls hP hS hl
  exact lv_dup2_11 F.1 F.2.1 d hw hv (kk H locs ls hP hS hl)
theorem z_dupx1 (F : Fx g p s m args meth c cc nL own) {v w : Value} (hv : v.category = 1) (hw : w.category = 1) (d : decode cc pc = .ok (.dup_x1, 1)) (hq : pc + 1 = q) (kk : Z g p l e R s m args below meth c nL Q M q lv (w :: v :: w :: st)) : Z g p l e R s m args below meth c nL Q M pc lv (w :: v :: st) := by
  subst hq
  intro H locs ls hP hS hl
  exact lv_dup_x1 F.1 F.2.1 d hw hv (kk H locs ls hP hS hl)
theorem z_pop2 (F : Fx g p s m args meth c cc nL own) {v : Value} (hv : v.category = 2) (d : decode cc pc = .ok (.pop2, 1)) (hq : pc + 1 = q) (kk : Z g p l e R s m args below meth c nL Q M q lv st) : Z g p l e R s m args below meth c nL Q M pc lv (v :: st) := by
  subst hq
  intro H locs ls hP hS hl
  exact lv_pop2_2 F.1 F.2.1 d hv (kk H locs ls hP hS hl)
theorem z_goto (F : Fx g p s m args meth c cc nL own) {off : Int} (d : decode cc pc = .ok (.goto off, 3)) (ht : (pc : Int) + off = (q : Int)) (kk : Z g p l e R s m args below meth c nL Q M q lv st) : Z g p l e R s m args below meth c nL Q M pc lv st := by
  intro H locs ls hP hS hl
  exact lv_goto F.1 F.2.1 d ht (kk H locs ls hP hS hl)
theorem z_icmp_eq (F : Fx g p s m args meth c cc nL own) {x y off : Int} {t : Nat} {A B : Prop} (d : decode cc pc = .ok (.if_icmp .eq off, 3)) (ht : (pc : Int) + off = (t : Int)) (hq : pc + 3 = q) (hw : ((w32 x = w32 y) → A) ∧ (¬ (w32 x = w32 y) → B)) (k1 : A → Z g p l e R s m args below meth c nL Q M t lv st) (k2 : B → Z g p l e R s m args below meth c nL Q M q lv st) : Z g p l e R s m args below meth c nL Q M pc lv (.int (i3 y) :: .int (i3 x) :: st) := by
  subst hq
  intro H locs ls hP hS hl
  refine lv_icmp_eq F.1 F.2.1 d ht (fun h => ?_) (fun h => ?_)
  · exact k1 (hw.1 ((i3_eq x y).mp h)) H locs ls hP hS hl
  · exact k2 (hw.2 (fun q => h ((i3_eq x y).mpr q))) H locs ls hP hS hl
theorem z_if_eq (F : Fx g p s m args meth c cc nL own) {x off : Int} {t : Nat} {A B : Prop} (d : decode cc pc = .ok (.ifCond .eq off, 3)) (ht : (pc : Int) + off = (t : Int)) (hq : pc + 3 = q) (hw : ((w32 x = 0) → A) ∧ (¬ (w32 x = 0) → B)) (k1 : A → Z g p l e R s m args below meth c nL Q M t lv st) (k2 : B → Z g p l e R s m args below meth c nL Q M q lv st) : Z g p l e R s m args below meth c nL Q M pc lv (.int (i3 x) :: st) := by
  subst hq
  intro H locs ls hP hS hl
  refine lv_if_eq F.1 F.2.1 d ht (fun h => ?_) (fun h => ?_)
  · exact k1 (hw.1 ((i3_eq x 0).mp h)) H locs ls hP hS hl
  · exact k2 (hw.2 (fun q => h ((i3_eq x 0).mpr q))) H locs ls hP hS hl
theorem zcmp_eq (x y : Int64) : lg_cmp x y = 0 ↔ x = y := by
  unfold lg_cmp
  simp only [gt_iff_lt, Int64.lt_iff_toInt_lt, ← Int64.toInt_inj]
  repeat' split
  all_goals (constructor <;> intro hh <;> first | omega | decide | exact absurd hh (by decide))
theorem z_lcmp_eq (F : Fx g p s m args meth c cc nL own) {x y off : Int} {t q1 : Nat} {A B : Prop} (d0 : decode cc pc = .ok (.lcmp, 1)) (hq1 : pc + 1 = q1) (d : decode cc q1 = .ok (.ifCond .eq off, 3)) (ht : (q1 : Int) + off = (t : Int)) (hq : q1 + 3 = q) (hw : ((w64 x = w64 y) → A) ∧ (¬ (w64 x = w64 y) → B)) (k1 : A → Z g p l e R s m args below meth c nL Q M t lv st) (k2 : B → Z g p l e R s m args below meth c nL Q M q lv st) : Z g p l e R s m args below meth c nL Q M pc lv (.long (i6 y) :: .long (i6 x) :: st) := by
  subst hq1
  subst hq
  intro H locs ls hP hS hl
  refine W.lcmp F.1 F.2.1 d0 ?_
  refine lv_if_eq F.1 F.2.1 d ht (fun h => ?_) (fun h => ?_)
  · exact k1 (hw.1 (((zcmp_eq (i6 x) (i6 y)).trans (i6_eq x y)).mp h)) H locs ls hP hS hl
  · exact k2 (hw.2 (fun q => h (((zcmp_eq (i6 x) (i6 y)).trans (i6_eq x y)).mpr q))) H locs ls hP hS hl
theorem z_icmp_ne (F : Fx g p s m args meth c cc nL own) {x y off : Int} {t : Nat} {A B : Prop} (d : decode cc pc = .ok (.if_icmp .ne off, 3)) (ht : (pc : Int) + off = (t : Int)) (hq : pc + 3 = q) (hw : ((¬ w32 x = w32 y) → A) ∧ (¬ (¬ w32 x = w32 y) → B)) (k1 : A → Z g p l e R s m args below meth c nL Q M t lv st) (k2 : B → Z g p l e R s m args below meth c nL Q M q lv st) : Z g p l e R s m args below meth c nL Q M pc lv (.int (i3 y) :: .int (i3 x) :: st) := by
  subst hq
  intro H locs ls hP hS hl
  refine lv_icmp_ne F.1 F.2.1 d ht (fun h => ?_) (fun h => ?_)
  · exact k1 (hw.1 (fun q => h ((i3_eq x y).mpr q))) H locs ls hP hS hl
  · exact k2 (hw.2 (fun q => q ((i3_eq x y).mp h))) H locs ls hP hS hl
theorem z_if_ne (F : Fx g p s m args meth c cc nL own) {x off : Int} {t : Nat} {A B : Prop} (d : decode cc pc = .ok (.ifCond .ne off, 3)) (ht : (pc : Int) + off = (t : Int)) (hq : pc + 3 = q) (hw : ((¬ w32 x = 0) → A) ∧ (¬ (¬ w32 x = 0) → B)) (k1 : A → Z g p l e R s m args below meth c nL Q M t lv st) (k2 : B → Z g p l e R s m args below meth c nL Q M q lv st) : Z g p l e R s m args below meth c nL Q M pc lv (.int (i3 x) :: st) := by
  subst hq
  intro H locs ls hP hS hl
  refine lv_if_ne F.1 F.2.1 d ht (fun h => ?_) (fun h => ?_)
  · exact k1 (hw.1 (fun q => h ((i3_eq x 0).mpr q))) H locs ls hP hS hl
  · exact k2 (hw.2 (fun q => q ((i3_eq x 0).mp h))) H locs ls hP hS hl
theorem z_lcmp_ne (F : Fx g p s m args meth c cc nL own) {x y off : Int} {t q1 : Nat} {A B : Prop} (d0 : decode cc pc = .ok (.lcmp, 1)) (hq1 : pc + 1 = q1) (d : decode cc q1 = .ok (.ifCond .ne off, 3)) (ht : (q1 : Int) + off = (t : Int)) (hq : q1 + 3 = q) (hw : ((¬ w64 x = w64 y) → A) ∧ (¬ (¬ w64 x = w64 y) → B)) (k1 : A → Z g p l e R s m args below meth c nL Q M t lv st) (k2 : B → Z g p l e R s m args below meth c nL Q M q lv st) : Z g p l e R s m args below meth c nL Q M pc lv (.long (i6 y) :: .long (i6 x) :: st) := by
  subst hq1
  subst hq
  intro H locs ls hP hS hl
  refine W.lcmp F.1 F.2.1 d0 ?_
  refine lv_if_ne F.1 F.2.1 d ht (fun h => ?_) (fun h => ?_)
  · exact k1 (hw.1 (fun q => h (((zcmp_eq (i6 x) (i6 y)).trans (i6_eq x y)).mpr q))) H locs ls hP hS hl
  · exact k2 (hw.2 (fun q => q (((zcmp_eq (i6 x) (i6 y)).trans (i6_eq x y)).mp h))) H locs ls hP hS hl
theorem z_icmp_lt (F : Fx g p s m args meth c cc nL own) {x y off : Int} {t : Nat} {A B : Prop} (d : decode cc pc = .ok (.if_icmp .lt off, 3)) (ht : (pc : Int) + off = (t : Int)) (hq : pc + 3 = q) (hw : ((w32 x < w32 y) → A) ∧ (¬ (w32 x < w32 y) → B)) (k1 : A → Z g p l e R s m args below meth c nL Q M t lv st) (k2 : B → Z g p l e R s m args below meth c nL Q M q lv st) : Z g p l e R s m args below meth c nL Q M pc lv (.int (i3 y) :: .int (i3 x) :: st) := by
  subst hq
  intro H locs ls hP hS hl
  refine lv_icmp_lt F.1 F.2.1 d ht (fun h => ?_) (fun h => ?_)
  · exact k1 (hw.1 ((i3_lt x y).mp h)) H locs ls hP hS hl
  · exact k2 (hw.2 (fun q => h ((i3_lt x y).mpr q))) H locs ls hP hS hl
theorem z_if_lt (F : Fx g p s m args meth c cc nL own) {x off : Int} {t : Nat} {A B : Prop} (d : decode cc pc = .ok (.ifCond .lt off, 3)) (ht : (pc : Int) + off = (t : Int)) (hq : pc + 3 = q) (hw : ((w32 x < 0) → A) ∧ (¬ (w32 x < 0) → B)) (k1 : A → Z g p l e R s m args below meth c nL Q M t lv st) (k2 : B → Z g p l e R s m args below meth c nL Q M q lv st) : Z g p l e R s m args below meth c nL Q M pc lv (.int (i3 x) :: st) := by
  subst hq
  intro H locs ls hP hS hl
  refine lv_if_lt F.1 F.2.1 d ht (fun h => ?_) (fun h => ?_)
  · exact k1 (hw.1 ((i3_lt x 0).mp h)) H locs ls hP hS hl
  · exact k2 (hw.2 (fun q => h ((i3_lt x 0).mpr q))) H locs ls hP hS hl
theorem z_lcmp_lt (F : Fx g p s m args meth c cc nL own) {x y off : Int} {t q1 : Nat} {A B : Prop} (d0 : decode cc pc = .ok (.lcmp, 1)) (hq1 : pc + 1 = q1) (d : decode cc q1 = .ok (.ifCond .lt off, 3)) (ht : (q1 : Int) + off = (t : Int)) (hq : q1 + 3 = q) (hw : ((w64 x < w64 y) → A) ∧ (¬ (w64 x < w64 y) → B)) (k1 : A → Z g p l e R s m args below meth c nL Q M t lv st) (k2 : B → Z g p l e R s m args below meth c nL Q M q lv st) : Z g p l e R s m args below meth c nL Q M pc lv (.long (i6 y) :: .long (i6 x) :: st) := by
  subst hq1
  subst hq
  intro H locs ls hP hS hl
  refine W.lcmp F.1 F.2.1 d0 ?_
  refine lv_if_lt F.1 F.2.1 d ht (fun h => ?_) (fun h => ?_)
  · exact k1 (hw.1 (((lg_cmp_lt (i6 x) (i6 y)).trans (i6_lt x y)).mp h)) H locs ls hP hS hl
  · exact k2 (hw.2 (fun q => h (((lg_cmp_lt (i6 x) (i6 y)).trans (i6_lt x y)).mpr q))) H locs ls hP hS hl
theorem z_icmp_ge (F : Fx g p s m args meth c cc nL own) {x y off : Int} {t : Nat} {A B : Prop} (d : decode cc pc = .ok (.if_icmp .ge off, 3)) (ht : (pc : Int) + off = (t : Int)) (hq : pc + 3 = q) (hw : ((w32 y ≤ w32 x) → A) ∧ (¬ (w32 y ≤ w32 x) → B)) (k1 : A → Z g p l e R s m args below meth c nL Q M t lv st) (k2 : B → Z g p l e R s m args below meth c nL Q M q lv st) : Z g p l e R s m args below meth c nL Q M pc lv (.int (i3 y) :: .int (i3 x) :: st) := by
  subst hq
  intro H locs ls hP hS hl
  refine lv_icmp_ge F.1 F.2.1 d ht (fun h => ?_) (fun h => ?_)
  · exact k1 (hw.1 ((i3_le y x).mp h)) H locs ls hP hS hl
  · exact k2 (hw.2 (fun q => h ((i3_le y x).mpr q))) H locs ls hP hS hl
theorem z_if_ge (F : Fx g p s m args meth c cc nL own) {x off : Int} {t : Nat} {A B : Prop} (d : decode cc pc = .ok (.ifCond .ge off, 3)) (ht : (pc : Int) + off = (t : Int)) (hq : pc + 3 = q) (hw : ((0 ≤ w32 x) → A) ∧ (¬ (0 ≤ w32 x) → B)) (k1 : A → Z g p l e R s m args below meth c nL Q M t lv st) (k2 : B → Z g p l e R s m args below meth c nL Q M q lv st) : Z g p l e R s m args below meth c nL Q M pc lv (.int (i3 x) :: st) := by
  subst hq
  intro H locs ls hP hS hl
  refine lv_if_ge F.1 F.2.1 d ht (fun h => ?_) (fun h => ?_)
  · exact k1 (hw.1 ((i3_le 0 x).mp h)) H locs ls hP hS hl
  · exact k2 (hw.2 (fun q => h ((i3_le 0 x).mpr q))) H locs ls hP hS hl
theorem z_lcmp_ge (F : Fx g p s m args meth c cc nL own) {x y off : Int} {t q1 : Nat} {A B : Prop} (d0 : decode cc pc = .ok (.lcmp, 1)) (hq1 : pc + 1 = q1) (d : decode cc q1 = .ok (.ifCond .ge off, 3)) (ht : (q1 : Int) + off = (t : Int)) (hq : q1 + 3 = q) (hw : ((w64 y ≤ w64 x) → A) ∧ (¬ (w64 y ≤ w64 x) → B)) (k1 : A → Z g p l e R s m args below meth c nL Q M t lv st) (k2 : B → Z g p l e R s m args below meth c nL Q M q lv st) : Z g p l e R s m args below meth c nL Q M pc lv (.long (i6 y) :: .long (i6 x) :: st) := by
  subst hq1
  subst hq
  intro H locs ls hP hS hl
  refine W.lcmp F.1 F.2.1 d0 ?_
  refine lv_if_ge F.1 F.2.1 d ht (fun h => ?_) (fun h => ?_)
  · exact k1 (hw.1 (((lg_cmp_ge (i6 x) (i6 y)).trans (i6_le y x)).mp h)) H locs ls hP hS hl
  · exact k2 (hw.2 (fun q => h (((lg_cmp_ge (i6 x) (i6 y)).trans (i6_le y x)).mpr q))) H locs ls hP hS hl
theorem z_icmp_gt (F : Fx g p s m args meth c cc nL own) {x y off : Int} {t : Nat} {A B : Prop} (d : decode cc pc = .ok (.if_icmp .gt off, 3)) (ht : (pc : Int) + off = (t : Int)) (hq : pc + 3 = q) (hw : ((w32 y < w32 x) → A) ∧ (¬ (w32 y < w32 x) → B)) (k1 : A → Z g p l e R s m args below meth c nL Q M t lv st) (k2 : B → Z g p l e R s m args below meth c nL Q M q lv st) : Z g p l e R s m args below meth c nL Q M pc lv (.int (i3 y) :: .int (i3 x) :: st) := by
  subst hq
  intro H locs ls hP hS hl
  refine lv_icmp_gt F.1 F.2.1 d ht (fun h => ?_) (fun h => ?_)
  · exact k1 (hw.1 ((i3_lt y x).mp h)) H locs ls hP hS hl
  · exact k2 (hw.2 (fun q => h ((i3_lt y x).mpr q))) H locs ls hP hS hl
theorem z_if_gt (F : Fx g p s m args meth c cc nL own) {x off : Int} {t : Nat} {A B : Prop} (d : decode cc pc = .ok (.ifCond .gt off, 3)) (ht : (pc : Int) + off = (t : Int)) (hq : pc + 3 = q) (hw : ((0 < w32 x) → A) ∧ (¬ (0 < w32 x) → B)) (k1 : A → Z g p l e R s m args below meth c nL Q M t lv st) (k2 : B → Z g p l e R s m args below meth c nL Q M q lv st) : Z g p l e R s m args below meth c nL Q M pc lv (.int (i3 x) :: st) := by
  subst hq
  intro H locs ls hP hS hl
  refine lv_if_gt F.1 F.2.1 d ht (fun h => ?_) (fun h => ?_)
  · exact k1 (hw.1 ((i3_lt 0 x).mp h)) H locs ls hP hS hl
  · exact k2 (hw.2 (fun q => h ((i3_lt 0 x).mpr q))) H locs ls hP hS hl
theorem z_lcmp_gt (F : Fx g p s m args meth c cc nL own) {x y off : Int} {t q1 : Nat} {A B : Prop} (d0 : decode cc pc = .ok (.lcmp, 1)) (hq1 : pc + 1 = q1) (d : decode cc q1 = .ok (.ifCond .gt off, 3)) (ht : (q1 : Int) + off = (t : Int)) (hq : q1 + 3 = q) (hw : ((w64 y < w64 x) → A) ∧ (¬ (w64 y < w64 x) → B)) (k1 : A → Z g p l e R s m args below meth c nL Q M t lv st) (k2 : B → Z g p l e R s m args below meth c nL Q M q lv st) : Z g p l e R s m args below meth c nL Q M pc lv (.long (i6 y) :: .long (i6 x) :: st) := by
  subst hq1
  subst hq
  intro H locs ls hP hS hl
  refine W.lcmp F.1 F.2.1 d0 ?_
  refine lv_if_gt F.1 F.2.1 d ht (fun h => ?_) (fun h => ?_)
  · exact k1 (hw.1 (((lg_cmp_gt (i6 x) (i6 y)).trans (i6_lt y x)).mp h)) H locs ls hP hS hl
  · exact k2 (hw.2 (fun q => h (((lg_cmp_gt (i6 x) (i6 y)).trans (i6_lt y x)).mpr q))) H locs ls hP hS hl
theorem z_icmp_le (F : Fx g p s m args meth c cc nL own) {x y off : Int} {t : Nat} {A B : Prop} (d : decode cc pc = .ok (.if_icmp .le off, 3)) (ht : (pc : Int) + off = (t : Int)) (hq : pc + 3 = q) (hw : ((w32 x ≤ w32 y) → A) ∧ (¬ (w32 x ≤ w32 y) → B)) (k1 : A → Z g p l e R s m args below meth c nL Q M t lv st) (k2 : B → Z g p l e R s m args below meth c nL Q M q lv st) : Z g p l e R s m args below meth c nL Q M pc lv (.int (i3 y) :: .int (i3 x) :: st) := by
  subst hq
  intro H locs ls hP hS hl
  refine lv_icmp_le F.1 F.2.1 d ht (fun h => ?_) (fun h => ?_)
  · exact k1 (hw.1 ((i3_le x y).mp h)) H locs ls hP hS hl
  · exact k2 (hw.2 (fun q => h ((i3_le x y).mpr q))) H locs ls hP hS hl
theorem z_if_le (F : Fx g p s m args meth c cc nL own) {x off : Int} {t : Nat} {A B : Prop} (d : decode cc pc = .ok (.ifCond .le off, 3)) (ht : (pc : Int) + off = (t : Int)) (hq : pc + 3 = q) (hw : ((w32 x ≤ 0) → A) ∧ (¬ (w32 x ≤ 0) → B)) (k1 : A → Z g p l e R s m args below meth c nL Q M t lv st) (k2 : B → Z g p l e R s m args below meth c nL Q M q lv st) : Z g p l e R s m args below meth c nL Q M pc lv (.int (i3 x) :: st) := by
  subst hq
  intro H locs ls hP hS hl
  refine lv_if_le F.1 F.2.1 d ht (fun h => ?_) (fun h => ?_)
  · exact k1 (hw.1 ((i3_le x 0).mp h)) H locs ls hP hS hl
  · exact k2 (hw.2 (fun q => h ((i3_le x 0).mpr q))) H locs ls hP hS hl
theorem z_lcmp_le (F : Fx g p s m args meth c cc nL own) {x y off : Int} {t q1 : Nat} {A B : Prop} (d0 : decode cc pc = .ok (.lcmp, 1)) (hq1 : pc + 1 = q1) (d : decode cc q1 = .ok (.ifCond .le off, 3)) (ht : (q1 : Int) + off = (t : Int)) (hq : q1 + 3 = q) (hw : ((w64 x ≤ w64 y) → A) ∧ (¬ (w64 x ≤ w64 y) → B)) (k1 : A → Z g p l e R s m args below meth c nL Q M t lv st) (k2 : B → Z g p l e R s m args below meth c nL Q M q lv st) : Z g p l e R s m args below meth c nL Q M pc lv (.long (i6 y) :: .long (i6 x) :: st) := by
  subst hq1
  subst hq
  intro H locs ls hP hS hl
  refine W.lcmp F.1 F.2.1 d0 ?_
  refine lv_if_le F.1 F.2.1 d ht (fun h => ?_) (fun h => ?_)
  · exact k1 (hw.1 (((lg_cmp_le (i6 x) (i6 y)).trans (i6_le x y)).mp h)) H locs ls hP hS hl
  · exact k2 (hw.2 (fun q => h (((lg_cmp_le (i6 x) (i6 y)).trans (i6_le x y)).mpr q))) H locs ls hP hS hl
theorem z_ifb_eq (F : Fx g p s m args meth c cc nL own) {r : Bool} {off : Int} {t : Nat} {A B : Prop} (d : decode cc pc = .ok (.ifCond .eq off, 3)) (ht : (pc : Int) + off = (t : Int)) (hq : pc + 3 = q) (hw : (r = false → A) ∧ (r = true → B)) (k1 : A → Z g p l e R s m args below meth c nL Q M t lv st) (k2 : B → Z g p l e R s m args below meth c nL Q M q lv st) : Z g p l e R s m args below meth c nL Q M pc lv (.int (i3 (bz r)) :: st) := by
  subst hq
  intro H locs ls hP hS hl
  refine lv_if_eq F.1 F.2.1 d ht (fun h => ?_) (fun h => ?_)
  · cases r
    · exact k1 (hw.1 rfl) H locs ls hP hS hl
    · exact absurd h (by decide)
  · cases r
    · exact absurd rfl h
    · exact k2 (hw.2 rfl) H locs ls hP hS hl
theorem z_ifb_ne (F : Fx g p s m args meth c cc nL own) {r : Bool} {off : Int} {t : Nat} {A B : Prop} (d : decode cc pc = .ok (.ifCond .ne off, 3)) (ht : (pc : Int) + off = (t : Int)) (hq : pc + 3 = q) (hw : (r = true → A) ∧ (r = false → B)) (k1 : A → Z g p l e R s m args below meth c nL Q M t lv st) (k2 : B → Z g p l e R s m args below meth c nL Q M q lv st) : Z g p l e R s m args below meth c nL Q M pc lv (.int (i3 (bz r)) :: st) := by
  subst hq
  intro H locs ls hP hS hl
  refine lv_if_ne F.1 F.2.1 d ht (fun h => ?_) (fun h => ?_)
  · cases r
    · exact absurd rfl h
    · exact k1 (hw.1 rfl) H locs ls hP hS hl
  · cases r
    · exact k2 (hw.2 rfl) H locs ls hP hS hl
    · exact absurd h (by decide)
end ZR
