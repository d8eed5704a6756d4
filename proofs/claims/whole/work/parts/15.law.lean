def R_law : String := "DuesOnRungsLaw"
def lw_P (b : Addr) (xs : List Int32) (args : Array Value) (s : State) : Prop := args = #[.ref b] ∧ s.IntsAt b xs ∧ xs.length ≤ 3584 ∧ (Jvm.Cond.and given_1 narrow_1).before args s = true
def lw_Q (_ : Array Value) (s : State) (o : Outcome) (t : State) : Prop := o = .returned (some (.int 1)) ∧ Framed s o t [] 600000 7302250
def lw_Z (below : List Frame) (a : Array Value) (s : State) : State → Prop := fun t => ∃ o, t.status = .running ∧ Ended t below o ∧ lw_Q a s o t
/-- the law's own end, with 1 on the stack, nothing written that was there before, its room as the claim has it -/
theorem lw_ret {p : Program} {l : Launch} {e : Env} {s : State} {m : MethodId} {below : List Frame} {meth : Method} {c : Code} {b : Nat} (hx : p.tables.exec = Jvm.exec) (hb : c.code = code) (hr : meth.sig.returnType = ret) (hlocks : meth.locks = false) {pc : Nat} {H : Heap} {ls : Array Slot} (hdg : decode code pc = .ok (.ireturn, 1)) : W p l e room_1 s m #[Value.ref b] below meth c H [] 600000 7302250 (lw_Z below #[Value.ref b] s) (F0 m pc ls [.int 1]) := by
  intro T hT X
  obtain ⟨fs, hret, hrun, hended, hW, hframe⟩ := X.leave (v := some (.int 1)) (hlocks := hlocks) (fun h => by rw [hr] at h; cases h)
  have hmeth' : T.vm.method? m = some meth := X.method'
  refine ⟨T.setFrames fs, ?_, .returned (some (.int 1)), hrun, hended, rfl, ⟨_, rfl⟩, hW, hframe⟩
  jvm_step X.here [X.here.top, hx, hb, hdg, hmeth', hr, ret, narrow_b1]
  (try refine ⟨rfl, ?_⟩); (try refine ⟨rfl, ?_⟩)
  first | (intro acts; rw [hret _ acts rfl rfl rfl]) | rw [hret _ _ rfl rfl rfl]
  exact Steps.refl _
/-- what holds at the law's entry: the machine, the code, the tables' words (any of lw_tbl by 'hts w (by decide +kernel)'), the script of L ints xs at the cell b, what the Statement gives of the start (any of its parts by flat_of_before) -/
def lw_At (p : Program) (s : State) (m : MethodId) (meth : Method) (c : Code) (b L : Nat) (xs : Nat → Int32) : Prop :=
  p.tables.exec = Jvm.exec ∧ c.code = code ∧ meth.sig.returnType = ret ∧ c.maxLocals = 4 ∧ s.vm.findClass R_law = some m.cls ∧ (∀ w ∈ lw_tbl, w.before #[Value.ref b] s = true) ∧ va_X b L xs s s.heap ∧ b < s.heap.size ∧ meth.locks = false ∧ (Jvm.Cond.and given_1 narrow_1).before #[Value.ref b] s = true
/-! the law: what a step must keep, the walk of its loop -/
def R32 (a : Int) : Prop := -2147483648 ≤ a ∧ a < 2147483648
def sc (xs : Nat → Int32) (j : Nat) : Int := (xs j).toInt
theorem sc_R (xs : Nat → Int32) (j : Nat) : R32 (sc xs j) := by
  have h := i3_toInt (xs j).toInt
  rw [i3_of] at h
  have := w32_r (xs j).toInt
  unfold R32 sc
  omega
theorem ix_nat {i : Nat} (h : i < 100000) : ix (i : Int) = i := by unfold ix w32; omega
theorem ix_in {i L : Nat} (h : i < L) (hL : L ≤ 3584) : 0 ≤ w32 (i : Int) ∧ w32 (i : Int) < (L : Int) := by unfold w32; omega
section LZ
variable {g : En} {p : Program} {l : Launch} {e : Env} {R : Room} {s : State} {m : MethodId} {args : Array Value} {below : List Frame} {meth : Method} {c : Code} {cc : ByteArray} {nL : Nat} {own : String} {Q : State → Prop} {M : Mem} {pc : Nat} {lv : List (Nat × Value)} {st : List Value}
variable {h : Nat} {y : MethodName} {C : String} {bytes : ByteArray} {maxL n idx : Nat} {ret : Option FieldType} {rm : Room} {As : List Value} {H : Heap} {locs : List Loc} {ls : Array Slot} {k0 n0 : Nat}
theorem l_ci (F : Fx g p s m args meth c cc nL own) {Qp : Int → Mem → Prop} (hM : Met l y (WS y bytes maxL ret) rm (va_Pc (.ref (g.2.2.1 + h) :: As) (Rp g M)) (va_Qi (S := Int × Mem) (fun r u => r = i3 u.1 ∧ Qp u.1 u.2) (fun u => Rp g u.2) (aR g)) 0 0 (aR g)) (cv : CV y C bytes maxL ret n) (hlk : Cond.methodLink own idx y ∈ LW) (hr : fitR rm R maxL) {ci : Nat} (kh : kd h = ci) {T : u_T} {N : Nat} (hc : vwCl[ci]? = some (C, T, N)) (hn : As.length = n) (hcat : (st.map fun v => v.category).sum ≤ 8) (d : decode cc pc = .ok (.invokevirtual idx, 3)) (hf : k0 ≤ R.cells ∧ n0 ≤ R.slots) (hP : va_P g.1 vwCl (wS g M) H) (hS : va_S (aR g) s.heap H locs) (hl : lv_has ls nL lv)
    (kk : ∀ (r : Int) (M2 : Mem) (H1 : Heap) (locs1 : List Loc), Qp r M2 → va_P g.1 vwCl (wS g M2) H1 → va_S (aR g) s.heap H1 locs1 → W p l e R s m args below meth c H1 locs1 k0 n0 Q (F0 m (pc + 3) ls (.int (i3 r) :: st))) : W p l e R s m args below meth c H locs k0 n0 Q (F0 m pc ls (As.reverse ++ .ref (g.2.2.1 + h) :: st)) := by
  refine va_calli (z_rV F hM cv hlk hr kh hc hn hcat d hf hP hS hl) hS (fun q _ h => h) (fun q h => h) ?_
  intro r u t H1 locs1 ht hvm hp hB _ _ hS1
  obtain ⟨u1, u2⟩ := u
  obtain ⟨hp1, hp2⟩ := hp
  dsimp only at hp1 hp2 hB
  subst hp1
  exact kk u1 u2 H1 locs1 hp2 (by rw [← ht]; exact hB.1) hS1
theorem l_cip (F : Fx g p s m args meth c cc nL own) {Qp : Int → Prop} (hM : Met l y (WS y bytes maxL ret) rm (va_Pc (.ref (g.2.2.1 + h) :: As) (Rp g M)) (va_Qi (S := Int × Mem) (fun r u => r = i3 u.1 ∧ (u.2 = M ∧ Qp u.1)) (fun u => Rp g u.2) (aR g)) 0 0 (aR g)) (cv : CV y C bytes maxL ret n) (hlk : Cond.methodLink own idx y ∈ LW) (hr : fitR rm R maxL) {ci : Nat} (kh : kd h = ci) {T : u_T} {N : Nat} (hc : vwCl[ci]? = some (C, T, N)) (hn : As.length = n) (hcat : (st.map fun v => v.category).sum ≤ 8) (d : decode cc pc = .ok (.invokevirtual idx, 3)) (hf : k0 ≤ R.cells ∧ n0 ≤ R.slots) (hP : va_P g.1 vwCl (wS g M) H) (hS : va_S (aR g) s.heap H locs) (hl : lv_has ls nL lv)
    (kk : ∀ (r : Int) (H1 : Heap) (locs1 : List Loc), Qp r → va_P g.1 vwCl (wS g M) H1 → va_S (aR g) s.heap H1 locs1 → W p l e R s m args below meth c H1 locs1 k0 n0 Q (F0 m (pc + 3) ls (.int (i3 r) :: st))) : W p l e R s m args below meth c H locs k0 n0 Q (F0 m pc ls (As.reverse ++ .ref (g.2.2.1 + h) :: st)) := by
  refine va_calli (z_rV F hM cv hlk hr kh hc hn hcat d hf hP hS hl) hS (fun q _ h => h) (fun q h => h) ?_
  intro r u t H1 locs1 ht hvm hp hB _ _ hS1
  obtain ⟨u1, u2⟩ := u
  obtain ⟨hp1, hp2⟩ := hp
  dsimp only at hp1 hp2 hB
  subst hp1
  obtain ⟨hp3, hp2⟩ := hp2
  subst hp3
  exact kk u1 H1 locs1 hp2 (by rw [← ht]; exact hB.1) hS1
theorem l_cl (F : Fx g p s m args meth c cc nL own) {Qp : Int → Mem → Prop} (hM : Met l y (WS y bytes maxL ret) rm (va_Pc (.ref (g.2.2.1 + h) :: As) (Rp g M)) (va_Ql (S := Int × Mem) (fun r u => r = i6 u.1 ∧ Qp u.1 u.2) (fun u => Rp g u.2) (aR g)) 0 0 (aR g)) (cv : CV y C bytes maxL ret n) (hlk : Cond.methodLink own idx y ∈ LW) (hr : fitR rm R maxL) {ci : Nat} (kh : kd h = ci) {T : u_T} {N : Nat} (hc : vwCl[ci]? = some (C, T, N)) (hn : As.length = n) (hcat : (st.map fun v => v.category).sum ≤ 8) (d : decode cc pc = .ok (.invokevirtual idx, 3)) (hf : k0 ≤ R.cells ∧ n0 ≤ R.slots) (hP : va_P g.1 vwCl (wS g M) H) (hS : va_S (aR g) s.heap H locs) (hl : lv_has ls nL lv)
    (kk : ∀ (r : Int) (M2 : Mem) (H1 : Heap) (locs1 : List Loc), Qp r M2 → va_P g.1 vwCl (wS g M2) H1 → va_S (aR g) s.heap H1 locs1 → W p l e R s m args below meth c H1 locs1 k0 n0 Q (F0 m (pc + 3) ls (.long (i6 r) :: st))) : W p l e R s m args below meth c H locs k0 n0 Q (F0 m pc ls (As.reverse ++ .ref (g.2.2.1 + h) :: st)) := by
  refine va_calll (z_rV F hM cv hlk hr kh hc hn hcat d hf hP hS hl) hS (fun q _ h => h) (fun q h => h) ?_
  intro r u t H1 locs1 ht hvm hp hB _ _ hS1
  obtain ⟨u1, u2⟩ := u
  obtain ⟨hp1, hp2⟩ := hp
  dsimp only at hp1 hp2 hB
  subst hp1
  exact kk u1 u2 H1 locs1 hp2 (by rw [← ht]; exact hB.1) hS1
theorem l_clp (F : Fx g p s m args meth c cc nL own) {Qp : Int → Prop} (hM : Met l y (WS y bytes maxL ret) rm (va_Pc (.ref (g.2.2.1 + h) :: As) (Rp g M)) (va_Ql (S := Int × Mem) (fun r u => r = i6 u.1 ∧ (u.2 = M ∧ Qp u.1)) (fun u => Rp g u.2) (aR g)) 0 0 (aR g)) (cv : CV y C bytes maxL ret n) (hlk : Cond.methodLink own idx y ∈ LW) (hr : fitR rm R maxL) {ci : Nat} (kh : kd h = ci) {T : u_T} {N : Nat} (hc : vwCl[ci]? = some (C, T, N)) (hn : As.length = n) (hcat : (st.map fun v => v.category).sum ≤ 8) (d : decode cc pc = .ok (.invokevirtual idx, 3)) (hf : k0 ≤ R.cells ∧ n0 ≤ R.slots) (hP : va_P g.1 vwCl (wS g M) H) (hS : va_S (aR g) s.heap H locs) (hl : lv_has ls nL lv)
    (kk : ∀ (r : Int) (H1 : Heap) (locs1 : List Loc), Qp r → va_P g.1 vwCl (wS g M) H1 → va_S (aR g) s.heap H1 locs1 → W p l e R s m args below meth c H1 locs1 k0 n0 Q (F0 m (pc + 3) ls (.long (i6 r) :: st))) : W p l e R s m args below meth c H locs k0 n0 Q (F0 m pc ls (As.reverse ++ .ref (g.2.2.1 + h) :: st)) := by
  refine va_calll (z_rV F hM cv hlk hr kh hc hn hcat d hf hP hS hl) hS (fun q _ h => h) (fun q h => h) ?_
  intro r u t H1 locs1 ht hvm hp hB _ _ hS1
  obtain ⟨u1, u2⟩ := u
  obtain ⟨hp1, hp2⟩ := hp
  dsimp only at hp1 hp2 hB
  subst hp1
  obtain ⟨hp3, hp2⟩ := hp2
  subst hp3
  exact kk u1 H1 locs1 hp2 (by rw [← ht]; exact hB.1) hS1
theorem l_arg (F : Fx g p s m args meth c cc nL own) {b L i k : Nat} {xs : Nat → Int32} (hX : va_X b L xs s s.heap) (hbl : b < s.heap.size) (hbA : ¬ aR g b) (hS : va_S (aR g) s.heap H locs) (h0 : ls[0]? = some (.val (.ref b))) (h3 : ls[3]? = some (.val (.int (i3 (i : Int))))) (hk : i + k < L) (hL : L ≤ 3584)
    (d0 : decode cc pc = .ok (.aload_n 0, 1)) (d1 : decode cc (pc + 1) = .ok (.iload_n 3, 1)) (d2 : decode cc (pc + 2) = .ok (.iconst (k : Int), 1)) (d3 : decode cc (pc + 2 + 1) = .ok (.iadd, 1)) (d4 : decode cc (pc + 2 + 1 + 1) = .ok (.iaload, 1))
    (kk : W p l e R s m args below meth c H locs k0 n0 Q (F0 m (pc + 2 + 1 + 1 + 1) ls (.int (i3 (sc xs (i + k))) :: st))) : W p l e R s m args below meth c H locs k0 n0 Q (F0 m pc ls st) := by
  refine lv_aload_n F.1 F.2.1 d0 rfl h0 ?_
  refine lv_iload_n F.1 F.2.1 d1 rfl h3 ?_
  refine lv_iconst (v := i3 (k : Int)) F.1 F.2.1 d2 rfl ?_
  refine lv_iadd F.1 F.2.1 d3 ?_
  rw [← i3_add]
  have e1 : ix ((i : Int) + (k : Int)) = i + k := by unfold ix w32; omega
  refine va_sld F.1 F.2.1 hX hbl hbA hS ((i3_in _ L).mpr ⟨by unfold w32; omega, by unfold w32; omega⟩) d4 ?_
  rw [i3_cl, e1]
  unfold sc at kk
  rw [i3_of] at kk
  exact kk
theorem l_argb (F : Fx g p s m args meth c cc nL own) {b L i k : Nat} {xs : Nat → Int32} (hX : va_X b L xs s s.heap) (hbl : b < s.heap.size) (hbA : ¬ aR g b) (hS : va_S (aR g) s.heap H locs) (h0 : ls[0]? = some (.val (.ref b))) (h3 : ls[3]? = some (.val (.int (i3 (i : Int))))) (hk : i + k < L) (hL : L ≤ 3584) (hb8 : (Int8.ofInt (k : Int)).toInt32 = i3 (k : Int))
    (d0 : decode cc pc = .ok (.aload_n 0, 1)) (d1 : decode cc (pc + 1) = .ok (.iload_n 3, 1)) (d2 : decode cc (pc + 2) = .ok (.bipush (k : Int), 2)) (d3 : decode cc (pc + 2 + 2) = .ok (.iadd, 1)) (d4 : decode cc (pc + 2 + 2 + 1) = .ok (.iaload, 1))
    (kk : W p l e R s m args below meth c H locs k0 n0 Q (F0 m (pc + 2 + 2 + 1 + 1) ls (.int (i3 (sc xs (i + k))) :: st))) : W p l e R s m args below meth c H locs k0 n0 Q (F0 m pc ls st) := by
  refine lv_aload_n F.1 F.2.1 d0 rfl h0 ?_
  refine lv_iload_n F.1 F.2.1 d1 rfl h3 ?_
  refine lv_bipush (v := i3 (k : Int)) F.1 F.2.1 d2 hb8 ?_
  refine lv_iadd F.1 F.2.1 d3 ?_
  rw [← i3_add]
  have e1 : ix ((i : Int) + (k : Int)) = i + k := by unfold ix w32; omega
  refine va_sld F.1 F.2.1 hX hbl hbA hS ((i3_in _ L).mpr ⟨by unfold w32; omega, by unfold w32; omega⟩) d4 ?_
  rw [i3_cl, e1]
  unfold sc at kk
  rw [i3_of] at kk
  exact kk
end LZ
theorem and31 (x : Int32) : x &&& i3 31 = i3 (sc (fun _ => x) 0 % 32) := by
  have h := pk_and x (m := i3 31) 5 (by decide)
  have e : ∀ z : Int, (i3 z).toBitVec.toNat = (z % 4294967296).toNat := fun z => by simp [i3, Int32.toBitVec_ofInt, BitVec.toNat_ofInt]
  rw [h]
  apply Int32.toBitVec_inj.mp
  apply BitVec.eq_of_toNat_eq
  rw [e, pk_tn (by omega)]
  have e2 : x.toBitVec.toNat = (sc (fun _ => x) 0 % 4294967296).toNat := by
    have := e (sc (fun _ => x) 0)
    unfold sc at this ⊢
    rw [i3_of] at this
    exact this
  rw [e2]
  omega
def Step_0 (Inv : Mem → Prop) : Prop := ∀ M : Mem, Inv M → ∀ (a1 : Int) (a2 : Int), R32 a1 → R32 a2 → wp_X11_due 0 a1 a2 M (fun r M1 => wp_X12_due 189 a1 a2 M1 (fun r2 M2 => w32 r = w32 r2 ∧ Inv M2))
def Step_1 (Inv : Mem → Prop) : Prop := ∀ M : Mem, Inv M → ∀ (a1 : Int) (a2 : Int), R32 a1 → R32 a2 → wp_X11_rate 0 a1 a2 M (fun r M1 => wp_X12_rate 189 a1 a2 M1 (fun r2 M2 => w32 r = w32 r2 ∧ Inv M2))
def Step_2 (Inv : Mem → Prop) : Prop := ∀ M : Mem, Inv M → ∀ (a1 : Int) (a2 : Int), R32 a1 → R32 a2 → wp_X11_limit 0 a1 a2 M (fun r M1 => wp_X12_limit 189 a1 a2 M1 (fun r2 M2 => w32 r = w32 r2 ∧ Inv M2))
def Step_3 (Inv : Mem → Prop) : Prop := ∀ M : Mem, Inv M → ∀ (a1 : Int) (a2 : Int), R32 a1 → R32 a2 → wp_X11_rung 0 a1 a2 M (fun r M1 => wp_X12_rung 189 a1 a2 M1 (fun r2 => w32 r = w32 r2 ∧ Inv M1))
def Step_4 (Inv : Mem → Prop) : Prop := ∀ M : Mem, Inv M → ∀ (a1 : Int) (a2 : Int), R32 a1 → R32 a2 → wp_X11_day 0 a1 a2 M (fun r M1 => wp_X12_day 189 a1 a2 M1 (fun r2 => w32 r = w32 r2 ∧ Inv M1))
def Step_5 (Inv : Mem → Prop) : Prop := ∀ M : Mem, Inv M → ∀ (a1 : Int) (a2 : Int) (a3 : Int) (a4 : Int) (a5 : Int) (a6 : Int), R32 a1 → R32 a2 → R32 a3 → R32 a4 → R32 a5 → R32 a6 → wp_X11_bond 0 a1 a2 a3 a4 a5 a6 M (fun r M1 => wp_X12_bond 189 a1 a2 a3 a4 a5 a6 M1 (fun r2 M2 => w32 r = w32 r2 ∧ Inv M2))
def Step_6 (Inv : Mem → Prop) : Prop := ∀ M : Mem, Inv M → ∀ (a1 : Int) (a2 : Int), R32 a1 → R32 a2 → wp_X11_hold 0 a1 a2 M (fun r M1 => wp_X12_hold 189 a1 a2 M1 (fun r2 M2 => w32 r = w32 r2 ∧ Inv M2))
def Step_7 (Inv : Mem → Prop) : Prop := ∀ M : Mem, Inv M → ∀ (a1 : Int) (a2 : Int), R32 a1 → R32 a2 → wp_X11_told 0 a1 a2 M (fun r M1 => wp_X12_told 189 a1 a2 M1 (fun r2 => w32 r = w32 r2 ∧ Inv M1))
def Step_8 (Inv : Mem → Prop) : Prop := ∀ M : Mem, Inv M → ∀ (a1 : Int) (a2 : Int), R32 a1 → R32 a2 → wp_X11_pays 0 a1 a2 M (fun r M1 => wp_X12_pays 189 a1 a2 M1 (fun r2 => w32 r = w32 r2 ∧ Inv M1))
def Step_9 (Inv : Mem → Prop) : Prop := ∀ M : Mem, Inv M → ∀ (a1 : Int) (a2 : Int), R32 a1 → R32 a2 → wp_X11_paysAt 0 a1 a2 M (fun r M1 => wp_X12_paysAt 189 a1 a2 M1 (fun r2 => w32 r = w32 r2 ∧ Inv M1))
def Step_10 (Inv : Mem → Prop) : Prop := ∀ M : Mem, Inv M → ∀ (a1 : Int) (a2 : Int), R32 a1 → R32 a2 → wp_X11_taken 0 a1 a2 M (fun r => wp_X12_taken 189 a1 a2 M (fun r2 => w32 r = w32 r2))
def Step_11 (Inv : Mem → Prop) : Prop := ∀ M : Mem, Inv M → ∀ (a1 : Int) (a2 : Int), R32 a1 → R32 a2 → wp_X11_ranked 0 a1 a2 M (fun r M1 => wp_X12_ranked 189 a1 a2 M1 (fun r2 M2 => w32 r = w32 r2 ∧ Inv M2))
def Step_12 (Inv : Mem → Prop) : Prop := ∀ M : Mem, Inv M → ∀ (a1 : Int) (a2 : Int), R32 a1 → R32 a2 → wp_X11_worth 0 a1 a2 M (fun r M1 => wp_X12_worth 189 a1 a2 M1 (fun r2 M2 => w64 r = w64 r2 ∧ Inv M2))
def Step_13 (Inv : Mem → Prop) : Prop := ∀ M : Mem, Inv M → ∀ (a1 : Int) (a2 : Int) (a3 : Int), R32 a1 → R32 a2 → R32 a3 → wp_X11_length 0 a1 a2 a3 M (fun r M1 => wp_X12_length 189 a1 a2 a3 M1 (fun r2 M2 => w64 r = w64 r2 ∧ Inv M2))
def Step_14 (Inv : Mem → Prop) : Prop := ∀ M : Mem, Inv M → ∀ (a1 : Int), R32 a1 → wp_X11_surplus 0 a1 M (fun r M1 => wp_X12_surplus 189 a1 M1 (fun r2 M2 => w64 r = w64 r2 ∧ Inv M2))
def Step_15 (Inv : Mem → Prop) : Prop := ∀ M : Mem, Inv M → wp_X11_least 0 M (fun r M1 => wp_X12_least 189 M1 (fun r2 M2 => w32 r = w32 r2 ∧ Inv M2))
def Step_16 (Inv : Mem → Prop) : Prop := ∀ M : Mem, Inv M → ∀ (a1 : Int) (a2 : Int), R32 a1 → R32 a2 → wp_X11_amount 0 a1 a2 M (fun r M1 => wp_X12_amount 189 a1 a2 M1 (fun r2 M2 => w64 r = w64 r2 ∧ Inv M2))
def Step_17 (Inv : Mem → Prop) : Prop := ∀ M : Mem, Inv M → ∀ (a1 : Int) (a2 : Int) (a3 : Int), R32 a1 → R32 a2 → R32 a3 → wp_X11_proof 0 a1 a2 a3 M (fun r M1 => wp_X12_proof 189 a1 a2 a3 M1 (fun r2 M2 => w64 r = w64 r2 ∧ Inv M2))
def Step_18 (Inv : Mem → Prop) : Prop := ∀ M : Mem, Inv M → ∀ (a1 : Int) (a2 : Int), R32 a1 → R32 a2 → wp_X11_ladder 0 a1 a2 M (fun r M1 => wp_X12_ladder 189 a1 a2 M1 (fun r2 M2 => w32 r = w32 r2 ∧ Inv M2))
def Step_19 (Inv : Mem → Prop) : Prop := ∀ M : Mem, Inv M → ∀ (a1 : Int) (a2 : Int), R32 a1 → R32 a2 → wp_X11_replay 0 a1 a2 M (fun r M1 => wp_X12_replay 189 a1 a2 M1 (fun r2 M2 => w32 r = w32 r2 ∧ Inv M2))
def Step_20 (Inv : Mem → Prop) : Prop := ∀ M : Mem, Inv M → ∀ (a1 : Int), R32 a1 → wp_X11_worst 0 a1 M (fun r M1 => wp_X12_worst 189 a1 M1 (fun r2 M2 => w32 r = w32 r2 ∧ Inv M2))
def Step_21 (Inv : Mem → Prop) : Prop := ∀ M : Mem, Inv M → ∀ (a1 : Int), R32 a1 → wp_X11_drawn 0 a1 M (fun r M1 => wp_X12_drawn 189 a1 M1 (fun r2 M2 => w32 r = w32 r2 ∧ Inv M2))
def Step_22 (Inv : Mem → Prop) : Prop := ∀ M : Mem, Inv M → ∀ (a1 : Int) (a2 : Int) (a3 : Int), R32 a1 → R32 a2 → R32 a3 → wp_X11_chance 0 a1 a2 a3 M (fun r M1 => wp_X12_chance 189 a1 a2 a3 M1 (fun r2 M2 => w32 r = w32 r2 ∧ Inv M2))
def Step_23 (Inv : Mem → Prop) : Prop := ∀ M : Mem, Inv M → ∀ (a1 : Int) (a2 : Int) (a3 : Int), R32 a1 → R32 a2 → R32 a3 → wp_X11_tells 0 a1 a2 a3 M (fun r M1 => wp_X12_tells 189 a1 a2 a3 M1 (fun r2 M2 => w32 r = w32 r2 ∧ Inv M2))
def Step_24 (Inv : Mem → Prop) : Prop := ∀ M : Mem, Inv M → ∀ (a1 : Int), R32 a1 → wp_X11_film 0 a1 M (fun r M1 => wp_X12_film 189 a1 M1 (fun r2 M2 => w32 r = w32 r2 ∧ Inv M2))
def Step_25 (Inv : Mem → Prop) : Prop := ∀ M : Mem, Inv M → wp_X11_image 0 M (fun r M1 => wp_X12_image 189 M1 (fun r2 M2 => w32 r = w32 r2 ∧ Inv M2))
def Step_26 (Inv : Mem → Prop) : Prop := ∀ M : Mem, Inv M → wp_X11_back 0 M (fun r M1 => wp_X12_back 189 M1 (fun r2 M2 => w32 r = w32 r2 ∧ Inv M2))
def Step_27 (Inv : Mem → Prop) : Prop := ∀ M : Mem, Inv M → ∀ (a1 : Int), R32 a1 → wp_X11_count 0 a1 M (fun r => wp_X12_count 189 a1 M (fun r2 => w32 r = w32 r2))
def Step_28 (Inv : Mem → Prop) : Prop := ∀ M : Mem, Inv M → ∀ (a1 : Int) (a2 : Int) (a3 : Int), R32 a1 → R32 a2 → R32 a3 → wp_X11_sheet 0 a1 a2 a3 M (fun r M1 => wp_X12_sheet 189 a1 a2 a3 M1 (fun r2 M2 => w32 r = w32 r2 ∧ Inv M2))
def Step_29 (Inv : Mem → Prop) : Prop := ∀ M : Mem, Inv M → ∀ (a1 : Int) (a2 : Int) (a3 : Int), R32 a1 → R32 a2 → R32 a3 → wp_X11_put 0 a1 a2 a3 M (fun r M1 => wp_X12_put 189 a1 a2 a3 M1 (fun r2 M2 => w32 r = w32 r2 ∧ Inv M2))
def Step_30 (Inv : Mem → Prop) : Prop := ∀ M : Mem, Inv M → ∀ (a1 : Int) (a2 : Int) (a3 : Int) (a4 : Int) (a5 : Int), R32 a1 → R32 a2 → R32 a3 → R32 a4 → R32 a5 → wp_X11_copy 0 a1 a2 a3 a4 a5 M (fun r M1 => wp_X12_copy 189 a1 a2 a3 a4 a5 M1 (fun r2 M2 => w32 r = w32 r2 ∧ Inv M2))
def Step_31 (Inv : Mem → Prop) : Prop := ∀ M : Mem, Inv M → ∀ (a1 : Int) (a2 : Int) (a3 : Int) (a4 : Int), R32 a1 → R32 a2 → R32 a3 → R32 a4 → wp_X11_load 0 a1 a2 a3 a4 M (fun r M1 => wp_X12_load 189 a1 a2 a3 a4 M1 (fun r2 M2 => w32 r = w32 r2 ∧ Inv M2))
def LawSteps (Inv : Mem → Prop) : Prop := Step_0 Inv ∧ Step_1 Inv ∧ Step_2 Inv ∧ Step_3 Inv ∧ Step_4 Inv ∧ Step_5 Inv ∧ Step_6 Inv ∧ Step_7 Inv ∧ Step_8 Inv ∧ Step_9 Inv ∧ Step_10 Inv ∧ Step_11 Inv ∧ Step_12 Inv ∧ Step_13 Inv ∧ Step_14 Inv ∧ Step_15 Inv ∧ Step_16 Inv ∧ Step_17 Inv ∧ Step_18 Inv ∧ Step_19 Inv ∧ Step_20 Inv ∧ Step_21 Inv ∧ Step_22 Inv ∧ Step_23 Inv ∧ Step_24 Inv ∧ Step_25 Inv ∧ Step_26 Inv ∧ Step_27 Inv ∧ Step_28 Inv ∧ Step_29 Inv ∧ Step_30 Inv ∧ Step_31 Inv
set_option maxRecDepth 100000 in
set_option maxHeartbeats 4000000 in
theorem law_case_0 {p : Program} {l : Launch} {e : Env} {s : State} {m : MethodId} {below : List Frame} {meth : Method} {c : Code} {b L : Nat} {xs : Nat → Int32} {g : En} {Inv : Mem → Prop} (F : Fx g p s m #[Value.ref b] meth c code 4 RL) (hX : va_X b L xs s s.heap) (hbl : b < s.heap.size) (hbA : ¬ aR g b) (hL : L ≤ 3584) {k0 n0 : Nat} (hf : k0 ≤ room_1.cells ∧ n0 ≤ room_1.slots) {i : Nat} (hi : i + 7 ≤ L) {ls : Array Slot} (hl : lv_has ls 4 [(0, .ref b), (1, .ref (g.2.2.1 + 0)), (2, .ref (g.2.2.1 + 189)), (3, .int (i3 (i : Int)))]) (hst : Step_0 Inv)
    (hgo : ∀ (M : Mem) (H : Heap) (locs : List Loc), Inv M → va_P g.1 vwCl (wS g M) H → va_S (aR g) s.heap H locs → W p l e room_1 s m #[Value.ref b] below meth c H locs k0 n0 (lw_Z below #[Value.ref b] s) (F0 m 1279 ls []))
    {M : Mem} (hI : Inv M) {H : Heap} {locs : List Loc} (hP : va_P g.1 vwCl (wS g M) H) (hS : va_S (aR g) s.heap H locs) : W p l e room_1 s m #[Value.ref b] below meth c H locs k0 n0 (lw_Z below #[Value.ref b] s) (F0 m 176 ls []) := by
  have h0 := lv_at hl 0 rfl
  have h1 := lv_at hl 1 rfl
  have h2 := lv_at hl 2 rfl
  have h3 := lv_at hl 3 rfl
  have hw := hst M hI (sc xs (i + 1)) (sc xs (i + 2)) (sc_R xs (i + 1)) (sc_R xs (i + 2))
  refine lv_aload_n F.1 F.2.1 dL_law_176 rfl h1 ?_
  refine l_arg (k := 1) F hX hbl hbA hS h0 h3 (by omega) hL dL_law_177 dL_law_178 dL_law_179 dL_law_180 dL_law_181 ?_
  refine l_arg (k := 2) F hX hbl hbA hS h0 h3 (by omega) hL dL_law_182 dL_law_183 dL_law_184 dL_law_185 dL_law_186 ?_
  refine l_ci (h := 0) (As := [.int (i3 (sc xs (i + 1))), .int (i3 (sc xs (i + 2)))]) (st := []) F (c_X11_due l g rfl hw) cv_X11_due w_500 ⟨rfl, rfl, Nat.le_of_ble_eq_true rfl, Nat.le_of_ble_eq_true rfl⟩ rfl rfl rfl (Nat.le_of_ble_eq_true rfl) dL_law_187 hf hP hS hl (fun r M1 H1 locs1 hw hP1 hS1 => ?_)
  refine lv_aload_n F.1 F.2.1 dL_law_190 rfl h2 ?_
  refine l_arg (k := 1) F hX hbl hbA hS1 h0 h3 (by omega) hL dL_law_191 dL_law_192 dL_law_193 dL_law_194 dL_law_195 ?_
  refine l_arg (k := 2) F hX hbl hbA hS1 h0 h3 (by omega) hL dL_law_196 dL_law_197 dL_law_198 dL_law_199 dL_law_200 ?_
  refine l_ci (h := 189) (As := [.int (i3 (sc xs (i + 1))), .int (i3 (sc xs (i + 2)))]) (st := [.int (i3 r)]) F (c_X12_due l g rfl hw) cv_X12_due w_1095 ⟨rfl, rfl, Nat.le_of_ble_eq_true rfl, Nat.le_of_ble_eq_true rfl⟩ rfl rfl rfl (Nat.le_of_ble_eq_true rfl) dL_law_201 hf hP1 hS1 hl (fun r2 M2 H2 locs2 hw hP2 hS2 => ?_)
  obtain ⟨he, hI2⟩ := hw
  refine lv_icmp_eq (tgt := 1279) F.1 F.2.1 dL_law_204 (by decide) (fun _ => ?_) (fun h9 => absurd ((i3_eq r r2).mpr he) h9)
  exact hgo M2 H2 locs2 hI2 hP2 hS2
set_option maxRecDepth 100000 in
set_option maxHeartbeats 4000000 in
theorem law_case_1 {p : Program} {l : Launch} {e : Env} {s : State} {m : MethodId} {below : List Frame} {meth : Method} {c : Code} {b L : Nat} {xs : Nat → Int32} {g : En} {Inv : Mem → Prop} (F : Fx g p s m #[Value.ref b] meth c code 4 RL) (hX : va_X b L xs s s.heap) (hbl : b < s.heap.size) (hbA : ¬ aR g b) (hL : L ≤ 3584) {k0 n0 : Nat} (hf : k0 ≤ room_1.cells ∧ n0 ≤ room_1.slots) {i : Nat} (hi : i + 7 ≤ L) {ls : Array Slot} (hl : lv_has ls 4 [(0, .ref b), (1, .ref (g.2.2.1 + 0)), (2, .ref (g.2.2.1 + 189)), (3, .int (i3 (i : Int)))]) (hst : Step_1 Inv)
    (hgo : ∀ (M : Mem) (H : Heap) (locs : List Loc), Inv M → va_P g.1 vwCl (wS g M) H → va_S (aR g) s.heap H locs → W p l e room_1 s m #[Value.ref b] below meth c H locs k0 n0 (lw_Z below #[Value.ref b] s) (F0 m 1279 ls []))
    {M : Mem} (hI : Inv M) {H : Heap} {locs : List Loc} (hP : va_P g.1 vwCl (wS g M) H) (hS : va_S (aR g) s.heap H locs) : W p l e room_1 s m #[Value.ref b] below meth c H locs k0 n0 (lw_Z below #[Value.ref b] s) (F0 m 209 ls []) := by
  have h0 := lv_at hl 0 rfl
  have h1 := lv_at hl 1 rfl
  have h2 := lv_at hl 2 rfl
  have h3 := lv_at hl 3 rfl
  have hw := hst M hI (sc xs (i + 1)) (sc xs (i + 2)) (sc_R xs (i + 1)) (sc_R xs (i + 2))
  refine lv_aload_n F.1 F.2.1 dL_law_209 rfl h1 ?_
  refine l_arg (k := 1) F hX hbl hbA hS h0 h3 (by omega) hL dL_law_210 dL_law_211 dL_law_212 dL_law_213 dL_law_214 ?_
  refine l_arg (k := 2) F hX hbl hbA hS h0 h3 (by omega) hL dL_law_215 dL_law_216 dL_law_217 dL_law_218 dL_law_219 ?_
  refine l_ci (h := 0) (As := [.int (i3 (sc xs (i + 1))), .int (i3 (sc xs (i + 2)))]) (st := []) F (c_X11_rate l g rfl hw) cv_X11_rate w_518 ⟨rfl, rfl, Nat.le_of_ble_eq_true rfl, Nat.le_of_ble_eq_true rfl⟩ rfl rfl rfl (Nat.le_of_ble_eq_true rfl) dL_law_220 hf hP hS hl (fun r M1 H1 locs1 hw hP1 hS1 => ?_)
  refine lv_aload_n F.1 F.2.1 dL_law_223 rfl h2 ?_
  refine l_arg (k := 1) F hX hbl hbA hS1 h0 h3 (by omega) hL dL_law_224 dL_law_225 dL_law_226 dL_law_227 dL_law_228 ?_
  refine l_arg (k := 2) F hX hbl hbA hS1 h0 h3 (by omega) hL dL_law_229 dL_law_230 dL_law_231 dL_law_232 dL_law_233 ?_
  refine l_ci (h := 189) (As := [.int (i3 (sc xs (i + 1))), .int (i3 (sc xs (i + 2)))]) (st := [.int (i3 r)]) F (c_X12_rate l g rfl hw) cv_X12_rate w_1115 ⟨rfl, rfl, Nat.le_of_ble_eq_true rfl, Nat.le_of_ble_eq_true rfl⟩ rfl rfl rfl (Nat.le_of_ble_eq_true rfl) dL_law_234 hf hP1 hS1 hl (fun r2 M2 H2 locs2 hw hP2 hS2 => ?_)
  obtain ⟨he, hI2⟩ := hw
  refine lv_icmp_eq (tgt := 1279) F.1 F.2.1 dL_law_237 (by decide) (fun _ => ?_) (fun h9 => absurd ((i3_eq r r2).mpr he) h9)
  exact hgo M2 H2 locs2 hI2 hP2 hS2
set_option maxRecDepth 100000 in
set_option maxHeartbeats 4000000 in
theorem law_case_2 {p : Program} {l : Launch} {e : Env} {s : State} {m : MethodId} {below : List Frame} {meth : Method} {c : Code} {b L : Nat} {xs : Nat → Int32} {g : En} {Inv : Mem → Prop} (F : Fx g p s m #[Value.ref b] meth c code 4 RL) (hX : va_X b L xs s s.heap) (hbl : b < s.heap.size) (hbA : ¬ aR g b) (hL : L ≤ 3584) {k0 n0 : Nat} (hf : k0 ≤ room_1.cells ∧ n0 ≤ room_1.slots) {i : Nat} (hi : i + 7 ≤ L) {ls : Array Slot} (hl : lv_has ls 4 [(0, .ref b), (1, .ref (g.2.2.1 + 0)), (2, .ref (g.2.2.1 + 189)), (3, .int (i3 (i : Int)))]) (hst : Step_2 Inv)
    (hgo : ∀ (M : Mem) (H : Heap) (locs : List Loc), Inv M → va_P g.1 vwCl (wS g M) H → va_S (aR g) s.heap H locs → W p l e room_1 s m #[Value.ref b] below meth c H locs k0 n0 (lw_Z below #[Value.ref b] s) (F0 m 1279 ls []))
    {M : Mem} (hI : Inv M) {H : Heap} {locs : List Loc} (hP : va_P g.1 vwCl (wS g M) H) (hS : va_S (aR g) s.heap H locs) : W p l e room_1 s m #[Value.ref b] below meth c H locs k0 n0 (lw_Z below #[Value.ref b] s) (F0 m 242 ls []) := by
  have h0 := lv_at hl 0 rfl
  have h1 := lv_at hl 1 rfl
  have h2 := lv_at hl 2 rfl
  have h3 := lv_at hl 3 rfl
  have hw := hst M hI (sc xs (i + 1)) (sc xs (i + 2)) (sc_R xs (i + 1)) (sc_R xs (i + 2))
  refine lv_aload_n F.1 F.2.1 dL_law_242 rfl h1 ?_
  refine l_arg (k := 1) F hX hbl hbA hS h0 h3 (by omega) hL dL_law_243 dL_law_244 dL_law_245 dL_law_246 dL_law_247 ?_
  refine l_arg (k := 2) F hX hbl hbA hS h0 h3 (by omega) hL dL_law_248 dL_law_249 dL_law_250 dL_law_251 dL_law_252 ?_
  refine l_ci (h := 0) (As := [.int (i3 (sc xs (i + 1))), .int (i3 (sc xs (i + 2)))]) (st := []) F (c_X11_limit l g rfl hw) cv_X11_limit w_522 ⟨rfl, rfl, Nat.le_of_ble_eq_true rfl, Nat.le_of_ble_eq_true rfl⟩ rfl rfl rfl (Nat.le_of_ble_eq_true rfl) dL_law_253 hf hP hS hl (fun r M1 H1 locs1 hw hP1 hS1 => ?_)
  refine lv_aload_n F.1 F.2.1 dL_law_256 rfl h2 ?_
  refine l_arg (k := 1) F hX hbl hbA hS1 h0 h3 (by omega) hL dL_law_257 dL_law_258 dL_law_259 dL_law_260 dL_law_261 ?_
  refine l_arg (k := 2) F hX hbl hbA hS1 h0 h3 (by omega) hL dL_law_262 dL_law_263 dL_law_264 dL_law_265 dL_law_266 ?_
  refine l_ci (h := 189) (As := [.int (i3 (sc xs (i + 1))), .int (i3 (sc xs (i + 2)))]) (st := [.int (i3 r)]) F (c_X12_limit l g rfl hw) cv_X12_limit w_1119 ⟨rfl, rfl, Nat.le_of_ble_eq_true rfl, Nat.le_of_ble_eq_true rfl⟩ rfl rfl rfl (Nat.le_of_ble_eq_true rfl) dL_law_267 hf hP1 hS1 hl (fun r2 M2 H2 locs2 hw hP2 hS2 => ?_)
  obtain ⟨he, hI2⟩ := hw
  refine lv_icmp_eq (tgt := 1279) F.1 F.2.1 dL_law_270 (by decide) (fun _ => ?_) (fun h9 => absurd ((i3_eq r r2).mpr he) h9)
  exact hgo M2 H2 locs2 hI2 hP2 hS2
set_option maxRecDepth 100000 in
set_option maxHeartbeats 4000000 in
theorem law_case_3 {p : Program} {l : Launch} {e : Env} {s : State} {m : MethodId} {below : List Frame} {meth : Method} {c : Code} {b L : Nat} {xs : Nat → Int32} {g : En} {Inv : Mem → Prop} (F : Fx g p s m #[Value.ref b] meth c code 4 RL) (hX : va_X b L xs s s.heap) (hbl : b < s.heap.size) (hbA : ¬ aR g b) (hL : L ≤ 3584) {k0 n0 : Nat} (hf : k0 ≤ room_1.cells ∧ n0 ≤ room_1.slots) {i : Nat} (hi : i + 7 ≤ L) {ls : Array Slot} (hl : lv_has ls 4 [(0, .ref b), (1, .ref (g.2.2.1 + 0)), (2, .ref (g.2.2.1 + 189)), (3, .int (i3 (i : Int)))]) (hst : Step_3 Inv)
    (hgo : ∀ (M : Mem) (H : Heap) (locs : List Loc), Inv M → va_P g.1 vwCl (wS g M) H → va_S (aR g) s.heap H locs → W p l e room_1 s m #[Value.ref b] below meth c H locs k0 n0 (lw_Z below #[Value.ref b] s) (F0 m 1279 ls []))
    {M : Mem} (hI : Inv M) {H : Heap} {locs : List Loc} (hP : va_P g.1 vwCl (wS g M) H) (hS : va_S (aR g) s.heap H locs) : W p l e room_1 s m #[Value.ref b] below meth c H locs k0 n0 (lw_Z below #[Value.ref b] s) (F0 m 275 ls []) := by
  have h0 := lv_at hl 0 rfl
  have h1 := lv_at hl 1 rfl
  have h2 := lv_at hl 2 rfl
  have h3 := lv_at hl 3 rfl
  have hw := hst M hI (sc xs (i + 1)) (sc xs (i + 2)) (sc_R xs (i + 1)) (sc_R xs (i + 2))
  refine lv_aload_n F.1 F.2.1 dL_law_275 rfl h1 ?_
  refine l_arg (k := 1) F hX hbl hbA hS h0 h3 (by omega) hL dL_law_276 dL_law_277 dL_law_278 dL_law_279 dL_law_280 ?_
  refine l_arg (k := 2) F hX hbl hbA hS h0 h3 (by omega) hL dL_law_281 dL_law_282 dL_law_283 dL_law_284 dL_law_285 ?_
  refine l_ci (h := 0) (As := [.int (i3 (sc xs (i + 1))), .int (i3 (sc xs (i + 2)))]) (st := []) F (c_X11_rung l g rfl hw) cv_X11_rung w_526 ⟨rfl, rfl, Nat.le_of_ble_eq_true rfl, Nat.le_of_ble_eq_true rfl⟩ rfl rfl rfl (Nat.le_of_ble_eq_true rfl) dL_law_286 hf hP hS hl (fun r M1 H1 locs1 hw hP1 hS1 => ?_)
  refine lv_aload_n F.1 F.2.1 dL_law_289 rfl h2 ?_
  refine l_arg (k := 1) F hX hbl hbA hS1 h0 h3 (by omega) hL dL_law_290 dL_law_291 dL_law_292 dL_law_293 dL_law_294 ?_
  refine l_arg (k := 2) F hX hbl hbA hS1 h0 h3 (by omega) hL dL_law_295 dL_law_296 dL_law_297 dL_law_298 dL_law_299 ?_
  refine l_cip (h := 189) (As := [.int (i3 (sc xs (i + 1))), .int (i3 (sc xs (i + 2)))]) (st := [.int (i3 r)]) F (c_X12_rung l g rfl hw) cv_X12_rung w_1123 ⟨rfl, rfl, Nat.le_of_ble_eq_true rfl, Nat.le_of_ble_eq_true rfl⟩ rfl rfl rfl (Nat.le_of_ble_eq_true rfl) dL_law_300 hf hP1 hS1 hl (fun r2 H2 locs2 hw hP2 hS2 => ?_)
  obtain ⟨he, hI2⟩ := hw
  refine lv_icmp_eq (tgt := 1279) F.1 F.2.1 dL_law_303 (by decide) (fun _ => ?_) (fun h9 => absurd ((i3_eq r r2).mpr he) h9)
  exact hgo M1 H2 locs2 hI2 hP2 hS2
set_option maxRecDepth 100000 in
set_option maxHeartbeats 4000000 in
theorem law_case_4 {p : Program} {l : Launch} {e : Env} {s : State} {m : MethodId} {below : List Frame} {meth : Method} {c : Code} {b L : Nat} {xs : Nat → Int32} {g : En} {Inv : Mem → Prop} (F : Fx g p s m #[Value.ref b] meth c code 4 RL) (hX : va_X b L xs s s.heap) (hbl : b < s.heap.size) (hbA : ¬ aR g b) (hL : L ≤ 3584) {k0 n0 : Nat} (hf : k0 ≤ room_1.cells ∧ n0 ≤ room_1.slots) {i : Nat} (hi : i + 7 ≤ L) {ls : Array Slot} (hl : lv_has ls 4 [(0, .ref b), (1, .ref (g.2.2.1 + 0)), (2, .ref (g.2.2.1 + 189)), (3, .int (i3 (i : Int)))]) (hst : Step_4 Inv)
    (hgo : ∀ (M : Mem) (H : Heap) (locs : List Loc), Inv M → va_P g.1 vwCl (wS g M) H → va_S (aR g) s.heap H locs → W p l e room_1 s m #[Value.ref b] below meth c H locs k0 n0 (lw_Z below #[Value.ref b] s) (F0 m 1279 ls []))
    {M : Mem} (hI : Inv M) {H : Heap} {locs : List Loc} (hP : va_P g.1 vwCl (wS g M) H) (hS : va_S (aR g) s.heap H locs) : W p l e room_1 s m #[Value.ref b] below meth c H locs k0 n0 (lw_Z below #[Value.ref b] s) (F0 m 308 ls []) := by
  have h0 := lv_at hl 0 rfl
  have h1 := lv_at hl 1 rfl
  have h2 := lv_at hl 2 rfl
  have h3 := lv_at hl 3 rfl
  have hw := hst M hI (sc xs (i + 1)) (sc xs (i + 2)) (sc_R xs (i + 1)) (sc_R xs (i + 2))
  refine lv_aload_n F.1 F.2.1 dL_law_308 rfl h1 ?_
  refine l_arg (k := 1) F hX hbl hbA hS h0 h3 (by omega) hL dL_law_309 dL_law_310 dL_law_311 dL_law_312 dL_law_313 ?_
  refine l_arg (k := 2) F hX hbl hbA hS h0 h3 (by omega) hL dL_law_314 dL_law_315 dL_law_316 dL_law_317 dL_law_318 ?_
  refine l_ci (h := 0) (As := [.int (i3 (sc xs (i + 1))), .int (i3 (sc xs (i + 2)))]) (st := []) F (c_X11_day l g rfl hw) cv_X11_day w_568 ⟨rfl, rfl, Nat.le_of_ble_eq_true rfl, Nat.le_of_ble_eq_true rfl⟩ rfl rfl rfl (Nat.le_of_ble_eq_true rfl) dL_law_319 hf hP hS hl (fun r M1 H1 locs1 hw hP1 hS1 => ?_)
  refine lv_aload_n F.1 F.2.1 dL_law_322 rfl h2 ?_
  refine l_arg (k := 1) F hX hbl hbA hS1 h0 h3 (by omega) hL dL_law_323 dL_law_324 dL_law_325 dL_law_326 dL_law_327 ?_
  refine l_arg (k := 2) F hX hbl hbA hS1 h0 h3 (by omega) hL dL_law_328 dL_law_329 dL_law_330 dL_law_331 dL_law_332 ?_
  refine l_cip (h := 189) (As := [.int (i3 (sc xs (i + 1))), .int (i3 (sc xs (i + 2)))]) (st := [.int (i3 r)]) F (c_X12_day l g rfl hw) cv_X12_day w_1135 ⟨rfl, rfl, Nat.le_of_ble_eq_true rfl, Nat.le_of_ble_eq_true rfl⟩ rfl rfl rfl (Nat.le_of_ble_eq_true rfl) dL_law_333 hf hP1 hS1 hl (fun r2 H2 locs2 hw hP2 hS2 => ?_)
  obtain ⟨he, hI2⟩ := hw
  refine lv_icmp_eq (tgt := 1279) F.1 F.2.1 dL_law_336 (by decide) (fun _ => ?_) (fun h9 => absurd ((i3_eq r r2).mpr he) h9)
  exact hgo M1 H2 locs2 hI2 hP2 hS2
set_option maxRecDepth 100000 in
set_option maxHeartbeats 4000000 in
theorem law_case_5 {p : Program} {l : Launch} {e : Env} {s : State} {m : MethodId} {below : List Frame} {meth : Method} {c : Code} {b L : Nat} {xs : Nat → Int32} {g : En} {Inv : Mem → Prop} (F : Fx g p s m #[Value.ref b] meth c code 4 RL) (hX : va_X b L xs s s.heap) (hbl : b < s.heap.size) (hbA : ¬ aR g b) (hL : L ≤ 3584) {k0 n0 : Nat} (hf : k0 ≤ room_1.cells ∧ n0 ≤ room_1.slots) {i : Nat} (hi : i + 7 ≤ L) {ls : Array Slot} (hl : lv_has ls 4 [(0, .ref b), (1, .ref (g.2.2.1 + 0)), (2, .ref (g.2.2.1 + 189)), (3, .int (i3 (i : Int)))]) (hst : Step_5 Inv)
    (hgo : ∀ (M : Mem) (H : Heap) (locs : List Loc), Inv M → va_P g.1 vwCl (wS g M) H → va_S (aR g) s.heap H locs → W p l e room_1 s m #[Value.ref b] below meth c H locs k0 n0 (lw_Z below #[Value.ref b] s) (F0 m 1279 ls []))
    {M : Mem} (hI : Inv M) {H : Heap} {locs : List Loc} (hP : va_P g.1 vwCl (wS g M) H) (hS : va_S (aR g) s.heap H locs) : W p l e room_1 s m #[Value.ref b] below meth c H locs k0 n0 (lw_Z below #[Value.ref b] s) (F0 m 341 ls []) := by
  have h0 := lv_at hl 0 rfl
  have h1 := lv_at hl 1 rfl
  have h2 := lv_at hl 2 rfl
  have h3 := lv_at hl 3 rfl
  have hw := hst M hI (sc xs (i + 1)) (sc xs (i + 2)) (sc xs (i + 3)) (sc xs (i + 4)) (sc xs (i + 5)) (sc xs (i + 6)) (sc_R xs (i + 1)) (sc_R xs (i + 2)) (sc_R xs (i + 3)) (sc_R xs (i + 4)) (sc_R xs (i + 5)) (sc_R xs (i + 6))
  refine lv_aload_n F.1 F.2.1 dL_law_341 rfl h1 ?_
  refine l_arg (k := 1) F hX hbl hbA hS h0 h3 (by omega) hL dL_law_342 dL_law_343 dL_law_344 dL_law_345 dL_law_346 ?_
  refine l_arg (k := 2) F hX hbl hbA hS h0 h3 (by omega) hL dL_law_347 dL_law_348 dL_law_349 dL_law_350 dL_law_351 ?_
  refine l_arg (k := 3) F hX hbl hbA hS h0 h3 (by omega) hL dL_law_352 dL_law_353 dL_law_354 dL_law_355 dL_law_356 ?_
  refine l_arg (k := 4) F hX hbl hbA hS h0 h3 (by omega) hL dL_law_357 dL_law_358 dL_law_359 dL_law_360 dL_law_361 ?_
  refine l_arg (k := 5) F hX hbl hbA hS h0 h3 (by omega) hL dL_law_362 dL_law_363 dL_law_364 dL_law_365 dL_law_366 ?_
  refine l_argb (k := 6) F hX hbl hbA hS h0 h3 (by omega) hL (by decide) dL_law_367 dL_law_368 dL_law_369 dL_law_371 dL_law_372 ?_
  refine l_ci (h := 0) (As := [.int (i3 (sc xs (i + 1))), .int (i3 (sc xs (i + 2))), .int (i3 (sc xs (i + 3))), .int (i3 (sc xs (i + 4))), .int (i3 (sc xs (i + 5))), .int (i3 (sc xs (i + 6)))]) (st := []) F (c_X11_bond l g rfl hw) cv_X11_bond w_572 ⟨rfl, rfl, Nat.le_of_ble_eq_true rfl, Nat.le_of_ble_eq_true rfl⟩ rfl rfl rfl (Nat.le_of_ble_eq_true rfl) dL_law_373 hf hP hS hl (fun r M1 H1 locs1 hw hP1 hS1 => ?_)
  refine lv_aload_n F.1 F.2.1 dL_law_376 rfl h2 ?_
  refine l_arg (k := 1) F hX hbl hbA hS1 h0 h3 (by omega) hL dL_law_377 dL_law_378 dL_law_379 dL_law_380 dL_law_381 ?_
  refine l_arg (k := 2) F hX hbl hbA hS1 h0 h3 (by omega) hL dL_law_382 dL_law_383 dL_law_384 dL_law_385 dL_law_386 ?_
  refine l_arg (k := 3) F hX hbl hbA hS1 h0 h3 (by omega) hL dL_law_387 dL_law_388 dL_law_389 dL_law_390 dL_law_391 ?_
  refine l_arg (k := 4) F hX hbl hbA hS1 h0 h3 (by omega) hL dL_law_392 dL_law_393 dL_law_394 dL_law_395 dL_law_396 ?_
  refine l_arg (k := 5) F hX hbl hbA hS1 h0 h3 (by omega) hL dL_law_397 dL_law_398 dL_law_399 dL_law_400 dL_law_401 ?_
  refine l_argb (k := 6) F hX hbl hbA hS1 h0 h3 (by omega) hL (by decide) dL_law_402 dL_law_403 dL_law_404 dL_law_406 dL_law_407 ?_
  refine l_ci (h := 189) (As := [.int (i3 (sc xs (i + 1))), .int (i3 (sc xs (i + 2))), .int (i3 (sc xs (i + 3))), .int (i3 (sc xs (i + 4))), .int (i3 (sc xs (i + 5))), .int (i3 (sc xs (i + 6)))]) (st := [.int (i3 r)]) F (c_X12_bond l g rfl hw) cv_X12_bond w_1143 ⟨rfl, rfl, Nat.le_of_ble_eq_true rfl, Nat.le_of_ble_eq_true rfl⟩ rfl rfl rfl (Nat.le_of_ble_eq_true rfl) dL_law_408 hf hP1 hS1 hl (fun r2 M2 H2 locs2 hw hP2 hS2 => ?_)
  obtain ⟨he, hI2⟩ := hw
  refine lv_icmp_eq (tgt := 1279) F.1 F.2.1 dL_law_411 (by decide) (fun _ => ?_) (fun h9 => absurd ((i3_eq r r2).mpr he) h9)
  exact hgo M2 H2 locs2 hI2 hP2 hS2
set_option maxRecDepth 100000 in
set_option maxHeartbeats 4000000 in
theorem law_case_6 {p : Program} {l : Launch} {e : Env} {s : State} {m : MethodId} {below : List Frame} {meth : Method} {c : Code} {b L : Nat} {xs : Nat → Int32} {g : En} {Inv : Mem → Prop} (F : Fx g p s m #[Value.ref b] meth c code 4 RL) (hX : va_X b L xs s s.heap) (hbl : b < s.heap.size) (hbA : ¬ aR g b) (hL : L ≤ 3584) {k0 n0 : Nat} (hf : k0 ≤ room_1.cells ∧ n0 ≤ room_1.slots) {i : Nat} (hi : i + 7 ≤ L) {ls : Array Slot} (hl : lv_has ls 4 [(0, .ref b), (1, .ref (g.2.2.1 + 0)), (2, .ref (g.2.2.1 + 189)), (3, .int (i3 (i : Int)))]) (hst : Step_6 Inv)
    (hgo : ∀ (M : Mem) (H : Heap) (locs : List Loc), Inv M → va_P g.1 vwCl (wS g M) H → va_S (aR g) s.heap H locs → W p l e room_1 s m #[Value.ref b] below meth c H locs k0 n0 (lw_Z below #[Value.ref b] s) (F0 m 1279 ls []))
    {M : Mem} (hI : Inv M) {H : Heap} {locs : List Loc} (hP : va_P g.1 vwCl (wS g M) H) (hS : va_S (aR g) s.heap H locs) : W p l e room_1 s m #[Value.ref b] below meth c H locs k0 n0 (lw_Z below #[Value.ref b] s) (F0 m 416 ls []) := by
  have h0 := lv_at hl 0 rfl
  have h1 := lv_at hl 1 rfl
  have h2 := lv_at hl 2 rfl
  have h3 := lv_at hl 3 rfl
  have hw := hst M hI (sc xs (i + 1)) (sc xs (i + 2)) (sc_R xs (i + 1)) (sc_R xs (i + 2))
  refine lv_aload_n F.1 F.2.1 dL_law_416 rfl h1 ?_
  refine l_arg (k := 1) F hX hbl hbA hS h0 h3 (by omega) hL dL_law_417 dL_law_418 dL_law_419 dL_law_420 dL_law_421 ?_
  refine l_arg (k := 2) F hX hbl hbA hS h0 h3 (by omega) hL dL_law_422 dL_law_423 dL_law_424 dL_law_425 dL_law_426 ?_
  refine l_ci (h := 0) (As := [.int (i3 (sc xs (i + 1))), .int (i3 (sc xs (i + 2)))]) (st := []) F (c_X11_hold l g rfl hw) cv_X11_hold w_583 ⟨rfl, rfl, Nat.le_of_ble_eq_true rfl, Nat.le_of_ble_eq_true rfl⟩ rfl rfl rfl (Nat.le_of_ble_eq_true rfl) dL_law_427 hf hP hS hl (fun r M1 H1 locs1 hw hP1 hS1 => ?_)
  refine lv_aload_n F.1 F.2.1 dL_law_430 rfl h2 ?_
  refine l_arg (k := 1) F hX hbl hbA hS1 h0 h3 (by omega) hL dL_law_431 dL_law_432 dL_law_433 dL_law_434 dL_law_435 ?_
  refine l_arg (k := 2) F hX hbl hbA hS1 h0 h3 (by omega) hL dL_law_436 dL_law_437 dL_law_438 dL_law_439 dL_law_440 ?_
  refine l_ci (h := 189) (As := [.int (i3 (sc xs (i + 1))), .int (i3 (sc xs (i + 2)))]) (st := [.int (i3 r)]) F (c_X12_hold l g rfl hw) cv_X12_hold w_1147 ⟨rfl, rfl, Nat.le_of_ble_eq_true rfl, Nat.le_of_ble_eq_true rfl⟩ rfl rfl rfl (Nat.le_of_ble_eq_true rfl) dL_law_441 hf hP1 hS1 hl (fun r2 M2 H2 locs2 hw hP2 hS2 => ?_)
  obtain ⟨he, hI2⟩ := hw
  refine lv_icmp_eq (tgt := 1279) F.1 F.2.1 dL_law_444 (by decide) (fun _ => ?_) (fun h9 => absurd ((i3_eq r r2).mpr he) h9)
  exact hgo M2 H2 locs2 hI2 hP2 hS2
set_option maxRecDepth 100000 in
set_option maxHeartbeats 4000000 in
theorem law_case_7 {p : Program} {l : Launch} {e : Env} {s : State} {m : MethodId} {below : List Frame} {meth : Method} {c : Code} {b L : Nat} {xs : Nat → Int32} {g : En} {Inv : Mem → Prop} (F : Fx g p s m #[Value.ref b] meth c code 4 RL) (hX : va_X b L xs s s.heap) (hbl : b < s.heap.size) (hbA : ¬ aR g b) (hL : L ≤ 3584) {k0 n0 : Nat} (hf : k0 ≤ room_1.cells ∧ n0 ≤ room_1.slots) {i : Nat} (hi : i + 7 ≤ L) {ls : Array Slot} (hl : lv_has ls 4 [(0, .ref b), (1, .ref (g.2.2.1 + 0)), (2, .ref (g.2.2.1 + 189)), (3, .int (i3 (i : Int)))]) (hst : Step_7 Inv)
    (hgo : ∀ (M : Mem) (H : Heap) (locs : List Loc), Inv M → va_P g.1 vwCl (wS g M) H → va_S (aR g) s.heap H locs → W p l e room_1 s m #[Value.ref b] below meth c H locs k0 n0 (lw_Z below #[Value.ref b] s) (F0 m 1279 ls []))
    {M : Mem} (hI : Inv M) {H : Heap} {locs : List Loc} (hP : va_P g.1 vwCl (wS g M) H) (hS : va_S (aR g) s.heap H locs) : W p l e room_1 s m #[Value.ref b] below meth c H locs k0 n0 (lw_Z below #[Value.ref b] s) (F0 m 449 ls []) := by
  have h0 := lv_at hl 0 rfl
  have h1 := lv_at hl 1 rfl
  have h2 := lv_at hl 2 rfl
  have h3 := lv_at hl 3 rfl
  have hw := hst M hI (sc xs (i + 1)) (sc xs (i + 2)) (sc_R xs (i + 1)) (sc_R xs (i + 2))
  refine lv_aload_n F.1 F.2.1 dL_law_449 rfl h1 ?_
  refine l_arg (k := 1) F hX hbl hbA hS h0 h3 (by omega) hL dL_law_450 dL_law_451 dL_law_452 dL_law_453 dL_law_454 ?_
  refine l_arg (k := 2) F hX hbl hbA hS h0 h3 (by omega) hL dL_law_455 dL_law_456 dL_law_457 dL_law_458 dL_law_459 ?_
  refine l_ci (h := 0) (As := [.int (i3 (sc xs (i + 1))), .int (i3 (sc xs (i + 2)))]) (st := []) F (c_X11_told l g rfl hw) cv_X11_told w_591 ⟨rfl, rfl, Nat.le_of_ble_eq_true rfl, Nat.le_of_ble_eq_true rfl⟩ rfl rfl rfl (Nat.le_of_ble_eq_true rfl) dL_law_460 hf hP hS hl (fun r M1 H1 locs1 hw hP1 hS1 => ?_)
  refine lv_aload_n F.1 F.2.1 dL_law_463 rfl h2 ?_
  refine l_arg (k := 1) F hX hbl hbA hS1 h0 h3 (by omega) hL dL_law_464 dL_law_465 dL_law_466 dL_law_467 dL_law_468 ?_
  refine l_arg (k := 2) F hX hbl hbA hS1 h0 h3 (by omega) hL dL_law_469 dL_law_470 dL_law_471 dL_law_472 dL_law_473 ?_
  refine l_cip (h := 189) (As := [.int (i3 (sc xs (i + 1))), .int (i3 (sc xs (i + 2)))]) (st := [.int (i3 r)]) F (c_X12_told l g rfl hw) cv_X12_told w_1159 ⟨rfl, rfl, Nat.le_of_ble_eq_true rfl, Nat.le_of_ble_eq_true rfl⟩ rfl rfl rfl (Nat.le_of_ble_eq_true rfl) dL_law_474 hf hP1 hS1 hl (fun r2 H2 locs2 hw hP2 hS2 => ?_)
  obtain ⟨he, hI2⟩ := hw
  refine lv_icmp_eq (tgt := 1279) F.1 F.2.1 dL_law_477 (by decide) (fun _ => ?_) (fun h9 => absurd ((i3_eq r r2).mpr he) h9)
  exact hgo M1 H2 locs2 hI2 hP2 hS2
set_option maxRecDepth 100000 in
set_option maxHeartbeats 4000000 in
theorem law_case_8 {p : Program} {l : Launch} {e : Env} {s : State} {m : MethodId} {below : List Frame} {meth : Method} {c : Code} {b L : Nat} {xs : Nat → Int32} {g : En} {Inv : Mem → Prop} (F : Fx g p s m #[Value.ref b] meth c code 4 RL) (hX : va_X b L xs s s.heap) (hbl : b < s.heap.size) (hbA : ¬ aR g b) (hL : L ≤ 3584) {k0 n0 : Nat} (hf : k0 ≤ room_1.cells ∧ n0 ≤ room_1.slots) {i : Nat} (hi : i + 7 ≤ L) {ls : Array Slot} (hl : lv_has ls 4 [(0, .ref b), (1, .ref (g.2.2.1 + 0)), (2, .ref (g.2.2.1 + 189)), (3, .int (i3 (i : Int)))]) (hst : Step_8 Inv)
    (hgo : ∀ (M : Mem) (H : Heap) (locs : List Loc), Inv M → va_P g.1 vwCl (wS g M) H → va_S (aR g) s.heap H locs → W p l e room_1 s m #[Value.ref b] below meth c H locs k0 n0 (lw_Z below #[Value.ref b] s) (F0 m 1279 ls []))
    {M : Mem} (hI : Inv M) {H : Heap} {locs : List Loc} (hP : va_P g.1 vwCl (wS g M) H) (hS : va_S (aR g) s.heap H locs) : W p l e room_1 s m #[Value.ref b] below meth c H locs k0 n0 (lw_Z below #[Value.ref b] s) (F0 m 482 ls []) := by
  have h0 := lv_at hl 0 rfl
  have h1 := lv_at hl 1 rfl
  have h2 := lv_at hl 2 rfl
  have h3 := lv_at hl 3 rfl
  have hw := hst M hI (sc xs (i + 1)) (sc xs (i + 2)) (sc_R xs (i + 1)) (sc_R xs (i + 2))
  refine lv_aload_n F.1 F.2.1 dL_law_482 rfl h1 ?_
  refine l_arg (k := 1) F hX hbl hbA hS h0 h3 (by omega) hL dL_law_483 dL_law_484 dL_law_485 dL_law_486 dL_law_487 ?_
  refine l_arg (k := 2) F hX hbl hbA hS h0 h3 (by omega) hL dL_law_488 dL_law_489 dL_law_490 dL_law_491 dL_law_492 ?_
  refine l_ci (h := 0) (As := [.int (i3 (sc xs (i + 1))), .int (i3 (sc xs (i + 2)))]) (st := []) F (c_X11_pays l g rfl hw) cv_X11_pays w_599 ⟨rfl, rfl, Nat.le_of_ble_eq_true rfl, Nat.le_of_ble_eq_true rfl⟩ rfl rfl rfl (Nat.le_of_ble_eq_true rfl) dL_law_493 hf hP hS hl (fun r M1 H1 locs1 hw hP1 hS1 => ?_)
  refine lv_aload_n F.1 F.2.1 dL_law_496 rfl h2 ?_
  refine l_arg (k := 1) F hX hbl hbA hS1 h0 h3 (by omega) hL dL_law_497 dL_law_498 dL_law_499 dL_law_500 dL_law_501 ?_
  refine l_arg (k := 2) F hX hbl hbA hS1 h0 h3 (by omega) hL dL_law_502 dL_law_503 dL_law_504 dL_law_505 dL_law_506 ?_
  refine l_cip (h := 189) (As := [.int (i3 (sc xs (i + 1))), .int (i3 (sc xs (i + 2)))]) (st := [.int (i3 r)]) F (c_X12_pays l g rfl hw) cv_X12_pays w_1187 ⟨rfl, rfl, Nat.le_of_ble_eq_true rfl, Nat.le_of_ble_eq_true rfl⟩ rfl rfl rfl (Nat.le_of_ble_eq_true rfl) dL_law_507 hf hP1 hS1 hl (fun r2 H2 locs2 hw hP2 hS2 => ?_)
  obtain ⟨he, hI2⟩ := hw
  refine lv_icmp_eq (tgt := 1279) F.1 F.2.1 dL_law_510 (by decide) (fun _ => ?_) (fun h9 => absurd ((i3_eq r r2).mpr he) h9)
  exact hgo M1 H2 locs2 hI2 hP2 hS2
set_option maxRecDepth 100000 in
set_option maxHeartbeats 4000000 in
theorem law_case_9 {p : Program} {l : Launch} {e : Env} {s : State} {m : MethodId} {below : List Frame} {meth : Method} {c : Code} {b L : Nat} {xs : Nat → Int32} {g : En} {Inv : Mem → Prop} (F : Fx g p s m #[Value.ref b] meth c code 4 RL) (hX : va_X b L xs s s.heap) (hbl : b < s.heap.size) (hbA : ¬ aR g b) (hL : L ≤ 3584) {k0 n0 : Nat} (hf : k0 ≤ room_1.cells ∧ n0 ≤ room_1.slots) {i : Nat} (hi : i + 7 ≤ L) {ls : Array Slot} (hl : lv_has ls 4 [(0, .ref b), (1, .ref (g.2.2.1 + 0)), (2, .ref (g.2.2.1 + 189)), (3, .int (i3 (i : Int)))]) (hst : Step_9 Inv)
    (hgo : ∀ (M : Mem) (H : Heap) (locs : List Loc), Inv M → va_P g.1 vwCl (wS g M) H → va_S (aR g) s.heap H locs → W p l e room_1 s m #[Value.ref b] below meth c H locs k0 n0 (lw_Z below #[Value.ref b] s) (F0 m 1279 ls []))
    {M : Mem} (hI : Inv M) {H : Heap} {locs : List Loc} (hP : va_P g.1 vwCl (wS g M) H) (hS : va_S (aR g) s.heap H locs) : W p l e room_1 s m #[Value.ref b] below meth c H locs k0 n0 (lw_Z below #[Value.ref b] s) (F0 m 515 ls []) := by
  have h0 := lv_at hl 0 rfl
  have h1 := lv_at hl 1 rfl
  have h2 := lv_at hl 2 rfl
  have h3 := lv_at hl 3 rfl
  have hw := hst M hI (sc xs (i + 1)) (sc xs (i + 2)) (sc_R xs (i + 1)) (sc_R xs (i + 2))
  refine lv_aload_n F.1 F.2.1 dL_law_515 rfl h1 ?_
  refine l_arg (k := 1) F hX hbl hbA hS h0 h3 (by omega) hL dL_law_516 dL_law_517 dL_law_518 dL_law_519 dL_law_520 ?_
  refine l_arg (k := 2) F hX hbl hbA hS h0 h3 (by omega) hL dL_law_521 dL_law_522 dL_law_523 dL_law_524 dL_law_525 ?_
  refine l_ci (h := 0) (As := [.int (i3 (sc xs (i + 1))), .int (i3 (sc xs (i + 2)))]) (st := []) F (c_X11_paysAt l g rfl hw) cv_X11_paysAt w_603 ⟨rfl, rfl, Nat.le_of_ble_eq_true rfl, Nat.le_of_ble_eq_true rfl⟩ rfl rfl rfl (Nat.le_of_ble_eq_true rfl) dL_law_526 hf hP hS hl (fun r M1 H1 locs1 hw hP1 hS1 => ?_)
  refine lv_aload_n F.1 F.2.1 dL_law_529 rfl h2 ?_
  refine l_arg (k := 1) F hX hbl hbA hS1 h0 h3 (by omega) hL dL_law_530 dL_law_531 dL_law_532 dL_law_533 dL_law_534 ?_
  refine l_arg (k := 2) F hX hbl hbA hS1 h0 h3 (by omega) hL dL_law_535 dL_law_536 dL_law_537 dL_law_538 dL_law_539 ?_
  refine l_cip (h := 189) (As := [.int (i3 (sc xs (i + 1))), .int (i3 (sc xs (i + 2)))]) (st := [.int (i3 r)]) F (c_X12_paysAt l g rfl hw) cv_X12_paysAt w_1191 ⟨rfl, rfl, Nat.le_of_ble_eq_true rfl, Nat.le_of_ble_eq_true rfl⟩ rfl rfl rfl (Nat.le_of_ble_eq_true rfl) dL_law_540 hf hP1 hS1 hl (fun r2 H2 locs2 hw hP2 hS2 => ?_)
  obtain ⟨he, hI2⟩ := hw
  refine lv_icmp_eq (tgt := 1279) F.1 F.2.1 dL_law_543 (by decide) (fun _ => ?_) (fun h9 => absurd ((i3_eq r r2).mpr he) h9)
  exact hgo M1 H2 locs2 hI2 hP2 hS2
set_option maxRecDepth 100000 in
set_option maxHeartbeats 4000000 in
theorem law_case_10 {p : Program} {l : Launch} {e : Env} {s : State} {m : MethodId} {below : List Frame} {meth : Method} {c : Code} {b L : Nat} {xs : Nat → Int32} {g : En} {Inv : Mem → Prop} (F : Fx g p s m #[Value.ref b] meth c code 4 RL) (hX : va_X b L xs s s.heap) (hbl : b < s.heap.size) (hbA : ¬ aR g b) (hL : L ≤ 3584) {k0 n0 : Nat} (hf : k0 ≤ room_1.cells ∧ n0 ≤ room_1.slots) {i : Nat} (hi : i + 7 ≤ L) {ls : Array Slot} (hl : lv_has ls 4 [(0, .ref b), (1, .ref (g.2.2.1 + 0)), (2, .ref (g.2.2.1 + 189)), (3, .int (i3 (i : Int)))]) (hst : Step_10 Inv)
    (hgo : ∀ (M : Mem) (H : Heap) (locs : List Loc), Inv M → va_P g.1 vwCl (wS g M) H → va_S (aR g) s.heap H locs → W p l e room_1 s m #[Value.ref b] below meth c H locs k0 n0 (lw_Z below #[Value.ref b] s) (F0 m 1279 ls []))
    {M : Mem} (hI : Inv M) {H : Heap} {locs : List Loc} (hP : va_P g.1 vwCl (wS g M) H) (hS : va_S (aR g) s.heap H locs) : W p l e room_1 s m #[Value.ref b] below meth c H locs k0 n0 (lw_Z below #[Value.ref b] s) (F0 m 548 ls []) := by
  have h0 := lv_at hl 0 rfl
  have h1 := lv_at hl 1 rfl
  have h2 := lv_at hl 2 rfl
  have h3 := lv_at hl 3 rfl
  have hw := hst M hI (sc xs (i + 1)) (sc xs (i + 2)) (sc_R xs (i + 1)) (sc_R xs (i + 2))
  refine lv_aload_n F.1 F.2.1 dL_law_548 rfl h1 ?_
  refine l_arg (k := 1) F hX hbl hbA hS h0 h3 (by omega) hL dL_law_549 dL_law_550 dL_law_551 dL_law_552 dL_law_553 ?_
  refine l_arg (k := 2) F hX hbl hbA hS h0 h3 (by omega) hL dL_law_554 dL_law_555 dL_law_556 dL_law_557 dL_law_558 ?_
  refine l_cip (h := 0) (As := [.int (i3 (sc xs (i + 1))), .int (i3 (sc xs (i + 2)))]) (st := []) F (c_X11_taken l g rfl hw) cv_X11_taken w_607 ⟨rfl, rfl, Nat.le_of_ble_eq_true rfl, Nat.le_of_ble_eq_true rfl⟩ rfl rfl rfl (Nat.le_of_ble_eq_true rfl) dL_law_559 hf hP hS hl (fun r H1 locs1 hw hP1 hS1 => ?_)
  refine lv_aload_n F.1 F.2.1 dL_law_562 rfl h2 ?_
  refine l_arg (k := 1) F hX hbl hbA hS1 h0 h3 (by omega) hL dL_law_563 dL_law_564 dL_law_565 dL_law_566 dL_law_567 ?_
  refine l_arg (k := 2) F hX hbl hbA hS1 h0 h3 (by omega) hL dL_law_568 dL_law_569 dL_law_570 dL_law_571 dL_law_572 ?_
  refine l_cip (h := 189) (As := [.int (i3 (sc xs (i + 1))), .int (i3 (sc xs (i + 2)))]) (st := [.int (i3 r)]) F (c_X12_taken l g rfl hw) cv_X12_taken w_1195 ⟨rfl, rfl, Nat.le_of_ble_eq_true rfl, Nat.le_of_ble_eq_true rfl⟩ rfl rfl rfl (Nat.le_of_ble_eq_true rfl) dL_law_573 hf hP1 hS1 hl (fun r2 H2 locs2 hw hP2 hS2 => ?_)
  have he := hw
  have hI2 := hI
  refine lv_icmp_eq (tgt := 1279) F.1 F.2.1 dL_law_576 (by decide) (fun _ => ?_) (fun h9 => absurd ((i3_eq r r2).mpr he) h9)
  exact hgo M H2 locs2 hI2 hP2 hS2
set_option maxRecDepth 100000 in
set_option maxHeartbeats 4000000 in
theorem law_case_11 {p : Program} {l : Launch} {e : Env} {s : State} {m : MethodId} {below : List Frame} {meth : Method} {c : Code} {b L : Nat} {xs : Nat → Int32} {g : En} {Inv : Mem → Prop} (F : Fx g p s m #[Value.ref b] meth c code 4 RL) (hX : va_X b L xs s s.heap) (hbl : b < s.heap.size) (hbA : ¬ aR g b) (hL : L ≤ 3584) {k0 n0 : Nat} (hf : k0 ≤ room_1.cells ∧ n0 ≤ room_1.slots) {i : Nat} (hi : i + 7 ≤ L) {ls : Array Slot} (hl : lv_has ls 4 [(0, .ref b), (1, .ref (g.2.2.1 + 0)), (2, .ref (g.2.2.1 + 189)), (3, .int (i3 (i : Int)))]) (hst : Step_11 Inv)
    (hgo : ∀ (M : Mem) (H : Heap) (locs : List Loc), Inv M → va_P g.1 vwCl (wS g M) H → va_S (aR g) s.heap H locs → W p l e room_1 s m #[Value.ref b] below meth c H locs k0 n0 (lw_Z below #[Value.ref b] s) (F0 m 1279 ls []))
    {M : Mem} (hI : Inv M) {H : Heap} {locs : List Loc} (hP : va_P g.1 vwCl (wS g M) H) (hS : va_S (aR g) s.heap H locs) : W p l e room_1 s m #[Value.ref b] below meth c H locs k0 n0 (lw_Z below #[Value.ref b] s) (F0 m 581 ls []) := by
  have h0 := lv_at hl 0 rfl
  have h1 := lv_at hl 1 rfl
  have h2 := lv_at hl 2 rfl
  have h3 := lv_at hl 3 rfl
  have hw := hst M hI (sc xs (i + 1)) (sc xs (i + 2)) (sc_R xs (i + 1)) (sc_R xs (i + 2))
  refine lv_aload_n F.1 F.2.1 dL_law_581 rfl h1 ?_
  refine l_arg (k := 1) F hX hbl hbA hS h0 h3 (by omega) hL dL_law_582 dL_law_583 dL_law_584 dL_law_585 dL_law_586 ?_
  refine l_arg (k := 2) F hX hbl hbA hS h0 h3 (by omega) hL dL_law_587 dL_law_588 dL_law_589 dL_law_590 dL_law_591 ?_
  refine l_ci (h := 0) (As := [.int (i3 (sc xs (i + 1))), .int (i3 (sc xs (i + 2)))]) (st := []) F (c_X11_ranked l g rfl hw) cv_X11_ranked w_617 ⟨rfl, rfl, Nat.le_of_ble_eq_true rfl, Nat.le_of_ble_eq_true rfl⟩ rfl rfl rfl (Nat.le_of_ble_eq_true rfl) dL_law_592 hf hP hS hl (fun r M1 H1 locs1 hw hP1 hS1 => ?_)
  refine lv_aload_n F.1 F.2.1 dL_law_595 rfl h2 ?_
  refine l_arg (k := 1) F hX hbl hbA hS1 h0 h3 (by omega) hL dL_law_596 dL_law_597 dL_law_598 dL_law_599 dL_law_600 ?_
  refine l_arg (k := 2) F hX hbl hbA hS1 h0 h3 (by omega) hL dL_law_601 dL_law_602 dL_law_603 dL_law_604 dL_law_605 ?_
  refine l_ci (h := 189) (As := [.int (i3 (sc xs (i + 1))), .int (i3 (sc xs (i + 2)))]) (st := [.int (i3 r)]) F (c_X12_ranked l g rfl hw) cv_X12_ranked w_1202 ⟨rfl, rfl, Nat.le_of_ble_eq_true rfl, Nat.le_of_ble_eq_true rfl⟩ rfl rfl rfl (Nat.le_of_ble_eq_true rfl) dL_law_606 hf hP1 hS1 hl (fun r2 M2 H2 locs2 hw hP2 hS2 => ?_)
  obtain ⟨he, hI2⟩ := hw
  refine lv_icmp_eq (tgt := 1279) F.1 F.2.1 dL_law_609 (by decide) (fun _ => ?_) (fun h9 => absurd ((i3_eq r r2).mpr he) h9)
  exact hgo M2 H2 locs2 hI2 hP2 hS2
set_option maxRecDepth 100000 in
set_option maxHeartbeats 4000000 in
theorem law_case_12 {p : Program} {l : Launch} {e : Env} {s : State} {m : MethodId} {below : List Frame} {meth : Method} {c : Code} {b L : Nat} {xs : Nat → Int32} {g : En} {Inv : Mem → Prop} (F : Fx g p s m #[Value.ref b] meth c code 4 RL) (hX : va_X b L xs s s.heap) (hbl : b < s.heap.size) (hbA : ¬ aR g b) (hL : L ≤ 3584) {k0 n0 : Nat} (hf : k0 ≤ room_1.cells ∧ n0 ≤ room_1.slots) {i : Nat} (hi : i + 7 ≤ L) {ls : Array Slot} (hl : lv_has ls 4 [(0, .ref b), (1, .ref (g.2.2.1 + 0)), (2, .ref (g.2.2.1 + 189)), (3, .int (i3 (i : Int)))]) (hst : Step_12 Inv)
    (hgo : ∀ (M : Mem) (H : Heap) (locs : List Loc), Inv M → va_P g.1 vwCl (wS g M) H → va_S (aR g) s.heap H locs → W p l e room_1 s m #[Value.ref b] below meth c H locs k0 n0 (lw_Z below #[Value.ref b] s) (F0 m 1279 ls []))
    {M : Mem} (hI : Inv M) {H : Heap} {locs : List Loc} (hP : va_P g.1 vwCl (wS g M) H) (hS : va_S (aR g) s.heap H locs) : W p l e room_1 s m #[Value.ref b] below meth c H locs k0 n0 (lw_Z below #[Value.ref b] s) (F0 m 614 ls []) := by
  have h0 := lv_at hl 0 rfl
  have h1 := lv_at hl 1 rfl
  have h2 := lv_at hl 2 rfl
  have h3 := lv_at hl 3 rfl
  have hw := hst M hI (sc xs (i + 1)) (sc xs (i + 2)) (sc_R xs (i + 1)) (sc_R xs (i + 2))
  refine lv_aload_n F.1 F.2.1 dL_law_614 rfl h1 ?_
  refine l_arg (k := 1) F hX hbl hbA hS h0 h3 (by omega) hL dL_law_615 dL_law_616 dL_law_617 dL_law_618 dL_law_619 ?_
  refine l_arg (k := 2) F hX hbl hbA hS h0 h3 (by omega) hL dL_law_620 dL_law_621 dL_law_622 dL_law_623 dL_law_624 ?_
  refine l_cl (h := 0) (As := [.int (i3 (sc xs (i + 1))), .int (i3 (sc xs (i + 2)))]) (st := []) F (c_X11_worth l g rfl hw) cv_X11_worth w_637 ⟨rfl, rfl, Nat.le_of_ble_eq_true rfl, Nat.le_of_ble_eq_true rfl⟩ rfl rfl rfl (Nat.le_of_ble_eq_true rfl) dL_law_625 hf hP hS hl (fun r M1 H1 locs1 hw hP1 hS1 => ?_)
  refine lv_aload_n F.1 F.2.1 dL_law_628 rfl h2 ?_
  refine l_arg (k := 1) F hX hbl hbA hS1 h0 h3 (by omega) hL dL_law_629 dL_law_630 dL_law_631 dL_law_632 dL_law_633 ?_
  refine l_arg (k := 2) F hX hbl hbA hS1 h0 h3 (by omega) hL dL_law_634 dL_law_635 dL_law_636 dL_law_637 dL_law_638 ?_
  refine l_cl (h := 189) (As := [.int (i3 (sc xs (i + 1))), .int (i3 (sc xs (i + 2)))]) (st := [.long (i6 r)]) F (c_X12_worth l g rfl hw) cv_X12_worth w_1214 ⟨rfl, rfl, Nat.le_of_ble_eq_true rfl, Nat.le_of_ble_eq_true rfl⟩ rfl rfl rfl (Nat.le_of_ble_eq_true rfl) dL_law_639 hf hP1 hS1 hl (fun r2 M2 H2 locs2 hw hP2 hS2 => ?_)
  obtain ⟨he, hI2⟩ := hw
  refine W.lcmp F.1 F.2.1 dL_law_642 ?_
  refine lv_if_eq (tgt := 1279) F.1 F.2.1 dL_law_643 (by decide) (fun _ => ?_) (fun h9 => absurd ((zcmp_eq _ _).mpr ((i6_eq r r2).mpr he)) h9)
  exact hgo M2 H2 locs2 hI2 hP2 hS2
set_option maxRecDepth 100000 in
set_option maxHeartbeats 4000000 in
theorem law_case_13 {p : Program} {l : Launch} {e : Env} {s : State} {m : MethodId} {below : List Frame} {meth : Method} {c : Code} {b L : Nat} {xs : Nat → Int32} {g : En} {Inv : Mem → Prop} (F : Fx g p s m #[Value.ref b] meth c code 4 RL) (hX : va_X b L xs s s.heap) (hbl : b < s.heap.size) (hbA : ¬ aR g b) (hL : L ≤ 3584) {k0 n0 : Nat} (hf : k0 ≤ room_1.cells ∧ n0 ≤ room_1.slots) {i : Nat} (hi : i + 7 ≤ L) {ls : Array Slot} (hl : lv_has ls 4 [(0, .ref b), (1, .ref (g.2.2.1 + 0)), (2, .ref (g.2.2.1 + 189)), (3, .int (i3 (i : Int)))]) (hst : Step_13 Inv)
    (hgo : ∀ (M : Mem) (H : Heap) (locs : List Loc), Inv M → va_P g.1 vwCl (wS g M) H → va_S (aR g) s.heap H locs → W p l e room_1 s m #[Value.ref b] below meth c H locs k0 n0 (lw_Z below #[Value.ref b] s) (F0 m 1279 ls []))
    {M : Mem} (hI : Inv M) {H : Heap} {locs : List Loc} (hP : va_P g.1 vwCl (wS g M) H) (hS : va_S (aR g) s.heap H locs) : W p l e room_1 s m #[Value.ref b] below meth c H locs k0 n0 (lw_Z below #[Value.ref b] s) (F0 m 648 ls []) := by
  have h0 := lv_at hl 0 rfl
  have h1 := lv_at hl 1 rfl
  have h2 := lv_at hl 2 rfl
  have h3 := lv_at hl 3 rfl
  have hw := hst M hI (sc xs (i + 1)) (sc xs (i + 2)) (sc xs (i + 3)) (sc_R xs (i + 1)) (sc_R xs (i + 2)) (sc_R xs (i + 3))
  refine lv_aload_n F.1 F.2.1 dL_law_648 rfl h1 ?_
  refine l_arg (k := 1) F hX hbl hbA hS h0 h3 (by omega) hL dL_law_649 dL_law_650 dL_law_651 dL_law_652 dL_law_653 ?_
  refine l_arg (k := 2) F hX hbl hbA hS h0 h3 (by omega) hL dL_law_654 dL_law_655 dL_law_656 dL_law_657 dL_law_658 ?_
  refine l_arg (k := 3) F hX hbl hbA hS h0 h3 (by omega) hL dL_law_659 dL_law_660 dL_law_661 dL_law_662 dL_law_663 ?_
  refine l_cl (h := 0) (As := [.int (i3 (sc xs (i + 1))), .int (i3 (sc xs (i + 2))), .int (i3 (sc xs (i + 3)))]) (st := []) F (c_X11_length l g rfl hw) cv_X11_length w_699 ⟨rfl, rfl, Nat.le_of_ble_eq_true rfl, Nat.le_of_ble_eq_true rfl⟩ rfl rfl rfl (Nat.le_of_ble_eq_true rfl) dL_law_664 hf hP hS hl (fun r M1 H1 locs1 hw hP1 hS1 => ?_)
  refine lv_aload_n F.1 F.2.1 dL_law_667 rfl h2 ?_
  refine l_arg (k := 1) F hX hbl hbA hS1 h0 h3 (by omega) hL dL_law_668 dL_law_669 dL_law_670 dL_law_671 dL_law_672 ?_
  refine l_arg (k := 2) F hX hbl hbA hS1 h0 h3 (by omega) hL dL_law_673 dL_law_674 dL_law_675 dL_law_676 dL_law_677 ?_
  refine l_arg (k := 3) F hX hbl hbA hS1 h0 h3 (by omega) hL dL_law_678 dL_law_679 dL_law_680 dL_law_681 dL_law_682 ?_
  refine l_cl (h := 189) (As := [.int (i3 (sc xs (i + 1))), .int (i3 (sc xs (i + 2))), .int (i3 (sc xs (i + 3)))]) (st := [.long (i6 r)]) F (c_X12_length l g rfl hw) cv_X12_length w_1278 ⟨rfl, rfl, Nat.le_of_ble_eq_true rfl, Nat.le_of_ble_eq_true rfl⟩ rfl rfl rfl (Nat.le_of_ble_eq_true rfl) dL_law_683 hf hP1 hS1 hl (fun r2 M2 H2 locs2 hw hP2 hS2 => ?_)
  obtain ⟨he, hI2⟩ := hw
  refine W.lcmp F.1 F.2.1 dL_law_686 ?_
  refine lv_if_eq (tgt := 1279) F.1 F.2.1 dL_law_687 (by decide) (fun _ => ?_) (fun h9 => absurd ((zcmp_eq _ _).mpr ((i6_eq r r2).mpr he)) h9)
  exact hgo M2 H2 locs2 hI2 hP2 hS2
set_option maxRecDepth 100000 in
set_option maxHeartbeats 4000000 in
theorem law_case_14 {p : Program} {l : Launch} {e : Env} {s : State} {m : MethodId} {below : List Frame} {meth : Method} {c : Code} {b L : Nat} {xs : Nat → Int32} {g : En} {Inv : Mem → Prop} (F : Fx g p s m #[Value.ref b] meth c code 4 RL) (hX : va_X b L xs s s.heap) (hbl : b < s.heap.size) (hbA : ¬ aR g b) (hL : L ≤ 3584) {k0 n0 : Nat} (hf : k0 ≤ room_1.cells ∧ n0 ≤ room_1.slots) {i : Nat} (hi : i + 7 ≤ L) {ls : Array Slot} (hl : lv_has ls 4 [(0, .ref b), (1, .ref (g.2.2.1 + 0)), (2, .ref (g.2.2.1 + 189)), (3, .int (i3 (i : Int)))]) (hst : Step_14 Inv)
    (hgo : ∀ (M : Mem) (H : Heap) (locs : List Loc), Inv M → va_P g.1 vwCl (wS g M) H → va_S (aR g) s.heap H locs → W p l e room_1 s m #[Value.ref b] below meth c H locs k0 n0 (lw_Z below #[Value.ref b] s) (F0 m 1279 ls []))
    {M : Mem} (hI : Inv M) {H : Heap} {locs : List Loc} (hP : va_P g.1 vwCl (wS g M) H) (hS : va_S (aR g) s.heap H locs) : W p l e room_1 s m #[Value.ref b] below meth c H locs k0 n0 (lw_Z below #[Value.ref b] s) (F0 m 692 ls []) := by
  have h0 := lv_at hl 0 rfl
  have h1 := lv_at hl 1 rfl
  have h2 := lv_at hl 2 rfl
  have h3 := lv_at hl 3 rfl
  have hw := hst M hI (sc xs (i + 1)) (sc_R xs (i + 1))
  refine lv_aload_n F.1 F.2.1 dL_law_692 rfl h1 ?_
  refine l_arg (k := 1) F hX hbl hbA hS h0 h3 (by omega) hL dL_law_693 dL_law_694 dL_law_695 dL_law_696 dL_law_697 ?_
  refine l_cl (h := 0) (As := [.int (i3 (sc xs (i + 1)))]) (st := []) F (c_X11_surplus l g rfl hw) cv_X11_surplus w_723 ⟨rfl, rfl, Nat.le_of_ble_eq_true rfl, Nat.le_of_ble_eq_true rfl⟩ rfl rfl rfl (Nat.le_of_ble_eq_true rfl) dL_law_698 hf hP hS hl (fun r M1 H1 locs1 hw hP1 hS1 => ?_)
  refine lv_aload_n F.1 F.2.1 dL_law_701 rfl h2 ?_
  refine l_arg (k := 1) F hX hbl hbA hS1 h0 h3 (by omega) hL dL_law_702 dL_law_703 dL_law_704 dL_law_705 dL_law_706 ?_
  refine l_cl (h := 189) (As := [.int (i3 (sc xs (i + 1)))]) (st := [.long (i6 r)]) F (c_X12_surplus l g rfl hw) cv_X12_surplus w_1287 ⟨rfl, rfl, Nat.le_of_ble_eq_true rfl, Nat.le_of_ble_eq_true rfl⟩ rfl rfl rfl (Nat.le_of_ble_eq_true rfl) dL_law_707 hf hP1 hS1 hl (fun r2 M2 H2 locs2 hw hP2 hS2 => ?_)
  obtain ⟨he, hI2⟩ := hw
  refine W.lcmp F.1 F.2.1 dL_law_710 ?_
  refine lv_if_eq (tgt := 1279) F.1 F.2.1 dL_law_711 (by decide) (fun _ => ?_) (fun h9 => absurd ((zcmp_eq _ _).mpr ((i6_eq r r2).mpr he)) h9)
  exact hgo M2 H2 locs2 hI2 hP2 hS2
set_option maxRecDepth 100000 in
set_option maxHeartbeats 4000000 in
theorem law_case_15 {p : Program} {l : Launch} {e : Env} {s : State} {m : MethodId} {below : List Frame} {meth : Method} {c : Code} {b L : Nat} {xs : Nat → Int32} {g : En} {Inv : Mem → Prop} (F : Fx g p s m #[Value.ref b] meth c code 4 RL) (hX : va_X b L xs s s.heap) (hbl : b < s.heap.size) (hbA : ¬ aR g b) (hL : L ≤ 3584) {k0 n0 : Nat} (hf : k0 ≤ room_1.cells ∧ n0 ≤ room_1.slots) {i : Nat} (hi : i + 7 ≤ L) {ls : Array Slot} (hl : lv_has ls 4 [(0, .ref b), (1, .ref (g.2.2.1 + 0)), (2, .ref (g.2.2.1 + 189)), (3, .int (i3 (i : Int)))]) (hst : Step_15 Inv)
    (hgo : ∀ (M : Mem) (H : Heap) (locs : List Loc), Inv M → va_P g.1 vwCl (wS g M) H → va_S (aR g) s.heap H locs → W p l e room_1 s m #[Value.ref b] below meth c H locs k0 n0 (lw_Z below #[Value.ref b] s) (F0 m 1279 ls []))
    {M : Mem} (hI : Inv M) {H : Heap} {locs : List Loc} (hP : va_P g.1 vwCl (wS g M) H) (hS : va_S (aR g) s.heap H locs) : W p l e room_1 s m #[Value.ref b] below meth c H locs k0 n0 (lw_Z below #[Value.ref b] s) (F0 m 716 ls []) := by
  have h0 := lv_at hl 0 rfl
  have h1 := lv_at hl 1 rfl
  have h2 := lv_at hl 2 rfl
  have h3 := lv_at hl 3 rfl
  have hw := hst M hI
  refine lv_aload_n F.1 F.2.1 dL_law_716 rfl h1 ?_
  refine l_ci (h := 0) (As := []) (st := []) F (c_X11_least l g rfl hw) cv_X11_least w_730 ⟨rfl, rfl, Nat.le_of_ble_eq_true rfl, Nat.le_of_ble_eq_true rfl⟩ rfl rfl rfl (Nat.le_of_ble_eq_true rfl) dL_law_717 hf hP hS hl (fun r M1 H1 locs1 hw hP1 hS1 => ?_)
  refine lv_aload_n F.1 F.2.1 dL_law_720 rfl h2 ?_
  refine l_ci (h := 189) (As := []) (st := [.int (i3 r)]) F (c_X12_least l g rfl hw) cv_X12_least w_1291 ⟨rfl, rfl, Nat.le_of_ble_eq_true rfl, Nat.le_of_ble_eq_true rfl⟩ rfl rfl rfl (Nat.le_of_ble_eq_true rfl) dL_law_721 hf hP1 hS1 hl (fun r2 M2 H2 locs2 hw hP2 hS2 => ?_)
  obtain ⟨he, hI2⟩ := hw
  refine lv_icmp_eq (tgt := 1279) F.1 F.2.1 dL_law_724 (by decide) (fun _ => ?_) (fun h9 => absurd ((i3_eq r r2).mpr he) h9)
  exact hgo M2 H2 locs2 hI2 hP2 hS2
set_option maxRecDepth 100000 in
set_option maxHeartbeats 4000000 in
theorem law_case_16 {p : Program} {l : Launch} {e : Env} {s : State} {m : MethodId} {below : List Frame} {meth : Method} {c : Code} {b L : Nat} {xs : Nat → Int32} {g : En} {Inv : Mem → Prop} (F : Fx g p s m #[Value.ref b] meth c code 4 RL) (hX : va_X b L xs s s.heap) (hbl : b < s.heap.size) (hbA : ¬ aR g b) (hL : L ≤ 3584) {k0 n0 : Nat} (hf : k0 ≤ room_1.cells ∧ n0 ≤ room_1.slots) {i : Nat} (hi : i + 7 ≤ L) {ls : Array Slot} (hl : lv_has ls 4 [(0, .ref b), (1, .ref (g.2.2.1 + 0)), (2, .ref (g.2.2.1 + 189)), (3, .int (i3 (i : Int)))]) (hst : Step_16 Inv)
    (hgo : ∀ (M : Mem) (H : Heap) (locs : List Loc), Inv M → va_P g.1 vwCl (wS g M) H → va_S (aR g) s.heap H locs → W p l e room_1 s m #[Value.ref b] below meth c H locs k0 n0 (lw_Z below #[Value.ref b] s) (F0 m 1279 ls []))
    {M : Mem} (hI : Inv M) {H : Heap} {locs : List Loc} (hP : va_P g.1 vwCl (wS g M) H) (hS : va_S (aR g) s.heap H locs) : W p l e room_1 s m #[Value.ref b] below meth c H locs k0 n0 (lw_Z below #[Value.ref b] s) (F0 m 729 ls []) := by
  have h0 := lv_at hl 0 rfl
  have h1 := lv_at hl 1 rfl
  have h2 := lv_at hl 2 rfl
  have h3 := lv_at hl 3 rfl
  have hw := hst M hI (sc xs (i + 1)) (sc xs (i + 2)) (sc_R xs (i + 1)) (sc_R xs (i + 2))
  refine lv_aload_n F.1 F.2.1 dL_law_729 rfl h1 ?_
  refine l_arg (k := 1) F hX hbl hbA hS h0 h3 (by omega) hL dL_law_730 dL_law_731 dL_law_732 dL_law_733 dL_law_734 ?_
  refine l_arg (k := 2) F hX hbl hbA hS h0 h3 (by omega) hL dL_law_735 dL_law_736 dL_law_737 dL_law_738 dL_law_739 ?_
  refine l_cl (h := 0) (As := [.int (i3 (sc xs (i + 1))), .int (i3 (sc xs (i + 2)))]) (st := []) F (c_X11_amount l g rfl hw) cv_X11_amount w_817 ⟨rfl, rfl, Nat.le_of_ble_eq_true rfl, Nat.le_of_ble_eq_true rfl⟩ rfl rfl rfl (Nat.le_of_ble_eq_true rfl) dL_law_740 hf hP hS hl (fun r M1 H1 locs1 hw hP1 hS1 => ?_)
  refine lv_aload_n F.1 F.2.1 dL_law_743 rfl h2 ?_
  refine l_arg (k := 1) F hX hbl hbA hS1 h0 h3 (by omega) hL dL_law_744 dL_law_745 dL_law_746 dL_law_747 dL_law_748 ?_
  refine l_arg (k := 2) F hX hbl hbA hS1 h0 h3 (by omega) hL dL_law_749 dL_law_750 dL_law_751 dL_law_752 dL_law_753 ?_
  refine l_cl (h := 189) (As := [.int (i3 (sc xs (i + 1))), .int (i3 (sc xs (i + 2)))]) (st := [.long (i6 r)]) F (c_X12_amount l g rfl hw) cv_X12_amount w_1331 ⟨rfl, rfl, Nat.le_of_ble_eq_true rfl, Nat.le_of_ble_eq_true rfl⟩ rfl rfl rfl (Nat.le_of_ble_eq_true rfl) dL_law_754 hf hP1 hS1 hl (fun r2 M2 H2 locs2 hw hP2 hS2 => ?_)
  obtain ⟨he, hI2⟩ := hw
  refine W.lcmp F.1 F.2.1 dL_law_757 ?_
  refine lv_if_eq (tgt := 1279) F.1 F.2.1 dL_law_758 (by decide) (fun _ => ?_) (fun h9 => absurd ((zcmp_eq _ _).mpr ((i6_eq r r2).mpr he)) h9)
  exact hgo M2 H2 locs2 hI2 hP2 hS2
set_option maxRecDepth 100000 in
set_option maxHeartbeats 4000000 in
theorem law_case_17 {p : Program} {l : Launch} {e : Env} {s : State} {m : MethodId} {below : List Frame} {meth : Method} {c : Code} {b L : Nat} {xs : Nat → Int32} {g : En} {Inv : Mem → Prop} (F : Fx g p s m #[Value.ref b] meth c code 4 RL) (hX : va_X b L xs s s.heap) (hbl : b < s.heap.size) (hbA : ¬ aR g b) (hL : L ≤ 3584) {k0 n0 : Nat} (hf : k0 ≤ room_1.cells ∧ n0 ≤ room_1.slots) {i : Nat} (hi : i + 7 ≤ L) {ls : Array Slot} (hl : lv_has ls 4 [(0, .ref b), (1, .ref (g.2.2.1 + 0)), (2, .ref (g.2.2.1 + 189)), (3, .int (i3 (i : Int)))]) (hst : Step_17 Inv)
    (hgo : ∀ (M : Mem) (H : Heap) (locs : List Loc), Inv M → va_P g.1 vwCl (wS g M) H → va_S (aR g) s.heap H locs → W p l e room_1 s m #[Value.ref b] below meth c H locs k0 n0 (lw_Z below #[Value.ref b] s) (F0 m 1279 ls []))
    {M : Mem} (hI : Inv M) {H : Heap} {locs : List Loc} (hP : va_P g.1 vwCl (wS g M) H) (hS : va_S (aR g) s.heap H locs) : W p l e room_1 s m #[Value.ref b] below meth c H locs k0 n0 (lw_Z below #[Value.ref b] s) (F0 m 763 ls []) := by
  have h0 := lv_at hl 0 rfl
  have h1 := lv_at hl 1 rfl
  have h2 := lv_at hl 2 rfl
  have h3 := lv_at hl 3 rfl
  have hw := hst M hI (sc xs (i + 1)) (sc xs (i + 2)) (sc xs (i + 3)) (sc_R xs (i + 1)) (sc_R xs (i + 2)) (sc_R xs (i + 3))
  refine lv_aload_n F.1 F.2.1 dL_law_763 rfl h1 ?_
  refine l_arg (k := 1) F hX hbl hbA hS h0 h3 (by omega) hL dL_law_764 dL_law_765 dL_law_766 dL_law_767 dL_law_768 ?_
  refine l_arg (k := 2) F hX hbl hbA hS h0 h3 (by omega) hL dL_law_769 dL_law_770 dL_law_771 dL_law_772 dL_law_773 ?_
  refine l_arg (k := 3) F hX hbl hbA hS h0 h3 (by omega) hL dL_law_774 dL_law_775 dL_law_776 dL_law_777 dL_law_778 ?_
  refine l_cl (h := 0) (As := [.int (i3 (sc xs (i + 1))), .int (i3 (sc xs (i + 2))), .int (i3 (sc xs (i + 3)))]) (st := []) F (c_X11_proof l g rfl hw) cv_X11_proof w_825 ⟨rfl, rfl, Nat.le_of_ble_eq_true rfl, Nat.le_of_ble_eq_true rfl⟩ rfl rfl rfl (Nat.le_of_ble_eq_true rfl) dL_law_779 hf hP hS hl (fun r M1 H1 locs1 hw hP1 hS1 => ?_)
  refine lv_aload_n F.1 F.2.1 dL_law_782 rfl h2 ?_
  refine l_arg (k := 1) F hX hbl hbA hS1 h0 h3 (by omega) hL dL_law_783 dL_law_784 dL_law_785 dL_law_786 dL_law_787 ?_
  refine l_arg (k := 2) F hX hbl hbA hS1 h0 h3 (by omega) hL dL_law_788 dL_law_789 dL_law_790 dL_law_791 dL_law_792 ?_
  refine l_arg (k := 3) F hX hbl hbA hS1 h0 h3 (by omega) hL dL_law_793 dL_law_794 dL_law_795 dL_law_796 dL_law_797 ?_
  refine l_cl (h := 189) (As := [.int (i3 (sc xs (i + 1))), .int (i3 (sc xs (i + 2))), .int (i3 (sc xs (i + 3)))]) (st := [.long (i6 r)]) F (c_X12_proof l g rfl hw) cv_X12_proof w_1339 ⟨rfl, rfl, Nat.le_of_ble_eq_true rfl, Nat.le_of_ble_eq_true rfl⟩ rfl rfl rfl (Nat.le_of_ble_eq_true rfl) dL_law_798 hf hP1 hS1 hl (fun r2 M2 H2 locs2 hw hP2 hS2 => ?_)
  obtain ⟨he, hI2⟩ := hw
  refine W.lcmp F.1 F.2.1 dL_law_801 ?_
  refine lv_if_eq (tgt := 1279) F.1 F.2.1 dL_law_802 (by decide) (fun _ => ?_) (fun h9 => absurd ((zcmp_eq _ _).mpr ((i6_eq r r2).mpr he)) h9)
  exact hgo M2 H2 locs2 hI2 hP2 hS2
set_option maxRecDepth 100000 in
set_option maxHeartbeats 4000000 in
theorem law_case_18 {p : Program} {l : Launch} {e : Env} {s : State} {m : MethodId} {below : List Frame} {meth : Method} {c : Code} {b L : Nat} {xs : Nat → Int32} {g : En} {Inv : Mem → Prop} (F : Fx g p s m #[Value.ref b] meth c code 4 RL) (hX : va_X b L xs s s.heap) (hbl : b < s.heap.size) (hbA : ¬ aR g b) (hL : L ≤ 3584) {k0 n0 : Nat} (hf : k0 ≤ room_1.cells ∧ n0 ≤ room_1.slots) {i : Nat} (hi : i + 7 ≤ L) {ls : Array Slot} (hl : lv_has ls 4 [(0, .ref b), (1, .ref (g.2.2.1 + 0)), (2, .ref (g.2.2.1 + 189)), (3, .int (i3 (i : Int)))]) (hst : Step_18 Inv)
    (hgo : ∀ (M : Mem) (H : Heap) (locs : List Loc), Inv M → va_P g.1 vwCl (wS g M) H → va_S (aR g) s.heap H locs → W p l e room_1 s m #[Value.ref b] below meth c H locs k0 n0 (lw_Z below #[Value.ref b] s) (F0 m 1279 ls []))
    {M : Mem} (hI : Inv M) {H : Heap} {locs : List Loc} (hP : va_P g.1 vwCl (wS g M) H) (hS : va_S (aR g) s.heap H locs) : W p l e room_1 s m #[Value.ref b] below meth c H locs k0 n0 (lw_Z below #[Value.ref b] s) (F0 m 807 ls []) := by
  have h0 := lv_at hl 0 rfl
  have h1 := lv_at hl 1 rfl
  have h2 := lv_at hl 2 rfl
  have h3 := lv_at hl 3 rfl
  have hw := hst M hI (sc xs (i + 1)) (sc xs (i + 2)) (sc_R xs (i + 1)) (sc_R xs (i + 2))
  refine lv_aload_n F.1 F.2.1 dL_law_807 rfl h1 ?_
  refine l_arg (k := 1) F hX hbl hbA hS h0 h3 (by omega) hL dL_law_808 dL_law_809 dL_law_810 dL_law_811 dL_law_812 ?_
  refine l_arg (k := 2) F hX hbl hbA hS h0 h3 (by omega) hL dL_law_813 dL_law_814 dL_law_815 dL_law_816 dL_law_817 ?_
  refine l_ci (h := 0) (As := [.int (i3 (sc xs (i + 1))), .int (i3 (sc xs (i + 2)))]) (st := []) F (c_X11_ladder l g rfl hw) cv_X11_ladder w_838 ⟨rfl, rfl, Nat.le_of_ble_eq_true rfl, Nat.le_of_ble_eq_true rfl⟩ rfl rfl rfl (Nat.le_of_ble_eq_true rfl) dL_law_818 hf hP hS hl (fun r M1 H1 locs1 hw hP1 hS1 => ?_)
  refine lv_aload_n F.1 F.2.1 dL_law_821 rfl h2 ?_
  refine l_arg (k := 1) F hX hbl hbA hS1 h0 h3 (by omega) hL dL_law_822 dL_law_823 dL_law_824 dL_law_825 dL_law_826 ?_
  refine l_arg (k := 2) F hX hbl hbA hS1 h0 h3 (by omega) hL dL_law_827 dL_law_828 dL_law_829 dL_law_830 dL_law_831 ?_
  refine l_ci (h := 189) (As := [.int (i3 (sc xs (i + 1))), .int (i3 (sc xs (i + 2)))]) (st := [.int (i3 r)]) F (c_X12_ladder l g rfl hw) cv_X12_ladder w_1351 ⟨rfl, rfl, Nat.le_of_ble_eq_true rfl, Nat.le_of_ble_eq_true rfl⟩ rfl rfl rfl (Nat.le_of_ble_eq_true rfl) dL_law_832 hf hP1 hS1 hl (fun r2 M2 H2 locs2 hw hP2 hS2 => ?_)
  obtain ⟨he, hI2⟩ := hw
  refine lv_icmp_eq (tgt := 1279) F.1 F.2.1 dL_law_835 (by decide) (fun _ => ?_) (fun h9 => absurd ((i3_eq r r2).mpr he) h9)
  exact hgo M2 H2 locs2 hI2 hP2 hS2
set_option maxRecDepth 100000 in
set_option maxHeartbeats 4000000 in
theorem law_case_19 {p : Program} {l : Launch} {e : Env} {s : State} {m : MethodId} {below : List Frame} {meth : Method} {c : Code} {b L : Nat} {xs : Nat → Int32} {g : En} {Inv : Mem → Prop} (F : Fx g p s m #[Value.ref b] meth c code 4 RL) (hX : va_X b L xs s s.heap) (hbl : b < s.heap.size) (hbA : ¬ aR g b) (hL : L ≤ 3584) {k0 n0 : Nat} (hf : k0 ≤ room_1.cells ∧ n0 ≤ room_1.slots) {i : Nat} (hi : i + 7 ≤ L) {ls : Array Slot} (hl : lv_has ls 4 [(0, .ref b), (1, .ref (g.2.2.1 + 0)), (2, .ref (g.2.2.1 + 189)), (3, .int (i3 (i : Int)))]) (hst : Step_19 Inv)
    (hgo : ∀ (M : Mem) (H : Heap) (locs : List Loc), Inv M → va_P g.1 vwCl (wS g M) H → va_S (aR g) s.heap H locs → W p l e room_1 s m #[Value.ref b] below meth c H locs k0 n0 (lw_Z below #[Value.ref b] s) (F0 m 1279 ls []))
    {M : Mem} (hI : Inv M) {H : Heap} {locs : List Loc} (hP : va_P g.1 vwCl (wS g M) H) (hS : va_S (aR g) s.heap H locs) : W p l e room_1 s m #[Value.ref b] below meth c H locs k0 n0 (lw_Z below #[Value.ref b] s) (F0 m 840 ls []) := by
  have h0 := lv_at hl 0 rfl
  have h1 := lv_at hl 1 rfl
  have h2 := lv_at hl 2 rfl
  have h3 := lv_at hl 3 rfl
  have hw := hst M hI (sc xs (i + 1)) (sc xs (i + 2)) (sc_R xs (i + 1)) (sc_R xs (i + 2))
  refine lv_aload_n F.1 F.2.1 dL_law_840 rfl h1 ?_
  refine l_arg (k := 1) F hX hbl hbA hS h0 h3 (by omega) hL dL_law_841 dL_law_842 dL_law_843 dL_law_844 dL_law_845 ?_
  refine l_arg (k := 2) F hX hbl hbA hS h0 h3 (by omega) hL dL_law_846 dL_law_847 dL_law_848 dL_law_849 dL_law_850 ?_
  refine l_ci (h := 0) (As := [.int (i3 (sc xs (i + 1))), .int (i3 (sc xs (i + 2)))]) (st := []) F (c_X11_replay l g rfl hw) cv_X11_replay w_852 ⟨rfl, rfl, Nat.le_of_ble_eq_true rfl, Nat.le_of_ble_eq_true rfl⟩ rfl rfl rfl (Nat.le_of_ble_eq_true rfl) dL_law_851 hf hP hS hl (fun r M1 H1 locs1 hw hP1 hS1 => ?_)
  refine lv_aload_n F.1 F.2.1 dL_law_854 rfl h2 ?_
  refine l_arg (k := 1) F hX hbl hbA hS1 h0 h3 (by omega) hL dL_law_855 dL_law_856 dL_law_857 dL_law_858 dL_law_859 ?_
  refine l_arg (k := 2) F hX hbl hbA hS1 h0 h3 (by omega) hL dL_law_860 dL_law_861 dL_law_862 dL_law_863 dL_law_864 ?_
  refine l_ci (h := 189) (As := [.int (i3 (sc xs (i + 1))), .int (i3 (sc xs (i + 2)))]) (st := [.int (i3 r)]) F (c_X12_replay l g rfl hw) cv_X12_replay w_1359 ⟨rfl, rfl, Nat.le_of_ble_eq_true rfl, Nat.le_of_ble_eq_true rfl⟩ rfl rfl rfl (Nat.le_of_ble_eq_true rfl) dL_law_865 hf hP1 hS1 hl (fun r2 M2 H2 locs2 hw hP2 hS2 => ?_)
  obtain ⟨he, hI2⟩ := hw
  refine lv_icmp_eq (tgt := 1279) F.1 F.2.1 dL_law_868 (by decide) (fun _ => ?_) (fun h9 => absurd ((i3_eq r r2).mpr he) h9)
  exact hgo M2 H2 locs2 hI2 hP2 hS2
set_option maxRecDepth 100000 in
set_option maxHeartbeats 4000000 in
theorem law_case_20 {p : Program} {l : Launch} {e : Env} {s : State} {m : MethodId} {below : List Frame} {meth : Method} {c : Code} {b L : Nat} {xs : Nat → Int32} {g : En} {Inv : Mem → Prop} (F : Fx g p s m #[Value.ref b] meth c code 4 RL) (hX : va_X b L xs s s.heap) (hbl : b < s.heap.size) (hbA : ¬ aR g b) (hL : L ≤ 3584) {k0 n0 : Nat} (hf : k0 ≤ room_1.cells ∧ n0 ≤ room_1.slots) {i : Nat} (hi : i + 7 ≤ L) {ls : Array Slot} (hl : lv_has ls 4 [(0, .ref b), (1, .ref (g.2.2.1 + 0)), (2, .ref (g.2.2.1 + 189)), (3, .int (i3 (i : Int)))]) (hst : Step_20 Inv)
    (hgo : ∀ (M : Mem) (H : Heap) (locs : List Loc), Inv M → va_P g.1 vwCl (wS g M) H → va_S (aR g) s.heap H locs → W p l e room_1 s m #[Value.ref b] below meth c H locs k0 n0 (lw_Z below #[Value.ref b] s) (F0 m 1279 ls []))
    {M : Mem} (hI : Inv M) {H : Heap} {locs : List Loc} (hP : va_P g.1 vwCl (wS g M) H) (hS : va_S (aR g) s.heap H locs) : W p l e room_1 s m #[Value.ref b] below meth c H locs k0 n0 (lw_Z below #[Value.ref b] s) (F0 m 873 ls []) := by
  have h0 := lv_at hl 0 rfl
  have h1 := lv_at hl 1 rfl
  have h2 := lv_at hl 2 rfl
  have h3 := lv_at hl 3 rfl
  have hw := hst M hI (sc xs (i + 1)) (sc_R xs (i + 1))
  refine lv_aload_n F.1 F.2.1 dL_law_873 rfl h1 ?_
  refine l_arg (k := 1) F hX hbl hbA hS h0 h3 (by omega) hL dL_law_874 dL_law_875 dL_law_876 dL_law_877 dL_law_878 ?_
  refine l_ci (h := 0) (As := [.int (i3 (sc xs (i + 1)))]) (st := []) F (c_X11_worst l g rfl hw) cv_X11_worst w_885 ⟨rfl, rfl, Nat.le_of_ble_eq_true rfl, Nat.le_of_ble_eq_true rfl⟩ rfl rfl rfl (Nat.le_of_ble_eq_true rfl) dL_law_879 hf hP hS hl (fun r M1 H1 locs1 hw hP1 hS1 => ?_)
  refine lv_aload_n F.1 F.2.1 dL_law_882 rfl h2 ?_
  refine l_arg (k := 1) F hX hbl hbA hS1 h0 h3 (by omega) hL dL_law_883 dL_law_884 dL_law_885 dL_law_886 dL_law_887 ?_
  refine l_ci (h := 189) (As := [.int (i3 (sc xs (i + 1)))]) (st := [.int (i3 r)]) F (c_X12_worst l g rfl hw) cv_X12_worst w_1377 ⟨rfl, rfl, Nat.le_of_ble_eq_true rfl, Nat.le_of_ble_eq_true rfl⟩ rfl rfl rfl (Nat.le_of_ble_eq_true rfl) dL_law_888 hf hP1 hS1 hl (fun r2 M2 H2 locs2 hw hP2 hS2 => ?_)
  obtain ⟨he, hI2⟩ := hw
  refine lv_icmp_eq (tgt := 1279) F.1 F.2.1 dL_law_891 (by decide) (fun _ => ?_) (fun h9 => absurd ((i3_eq r r2).mpr he) h9)
  exact hgo M2 H2 locs2 hI2 hP2 hS2
set_option maxRecDepth 100000 in
set_option maxHeartbeats 4000000 in
theorem law_case_21 {p : Program} {l : Launch} {e : Env} {s : State} {m : MethodId} {below : List Frame} {meth : Method} {c : Code} {b L : Nat} {xs : Nat → Int32} {g : En} {Inv : Mem → Prop} (F : Fx g p s m #[Value.ref b] meth c code 4 RL) (hX : va_X b L xs s s.heap) (hbl : b < s.heap.size) (hbA : ¬ aR g b) (hL : L ≤ 3584) {k0 n0 : Nat} (hf : k0 ≤ room_1.cells ∧ n0 ≤ room_1.slots) {i : Nat} (hi : i + 7 ≤ L) {ls : Array Slot} (hl : lv_has ls 4 [(0, .ref b), (1, .ref (g.2.2.1 + 0)), (2, .ref (g.2.2.1 + 189)), (3, .int (i3 (i : Int)))]) (hst : Step_21 Inv)
    (hgo : ∀ (M : Mem) (H : Heap) (locs : List Loc), Inv M → va_P g.1 vwCl (wS g M) H → va_S (aR g) s.heap H locs → W p l e room_1 s m #[Value.ref b] below meth c H locs k0 n0 (lw_Z below #[Value.ref b] s) (F0 m 1279 ls []))
    {M : Mem} (hI : Inv M) {H : Heap} {locs : List Loc} (hP : va_P g.1 vwCl (wS g M) H) (hS : va_S (aR g) s.heap H locs) : W p l e room_1 s m #[Value.ref b] below meth c H locs k0 n0 (lw_Z below #[Value.ref b] s) (F0 m 896 ls []) := by
  have h0 := lv_at hl 0 rfl
  have h1 := lv_at hl 1 rfl
  have h2 := lv_at hl 2 rfl
  have h3 := lv_at hl 3 rfl
  have hw := hst M hI (sc xs (i + 1)) (sc_R xs (i + 1))
  refine lv_aload_n F.1 F.2.1 dL_law_896 rfl h1 ?_
  refine l_arg (k := 1) F hX hbl hbA hS h0 h3 (by omega) hL dL_law_897 dL_law_898 dL_law_899 dL_law_900 dL_law_901 ?_
  refine l_ci (h := 0) (As := [.int (i3 (sc xs (i + 1)))]) (st := []) F (c_X11_drawn l g rfl hw) cv_X11_drawn w_889 ⟨rfl, rfl, Nat.le_of_ble_eq_true rfl, Nat.le_of_ble_eq_true rfl⟩ rfl rfl rfl (Nat.le_of_ble_eq_true rfl) dL_law_902 hf hP hS hl (fun r M1 H1 locs1 hw hP1 hS1 => ?_)
  refine lv_aload_n F.1 F.2.1 dL_law_905 rfl h2 ?_
  refine l_arg (k := 1) F hX hbl hbA hS1 h0 h3 (by omega) hL dL_law_906 dL_law_907 dL_law_908 dL_law_909 dL_law_910 ?_
  refine l_ci (h := 189) (As := [.int (i3 (sc xs (i + 1)))]) (st := [.int (i3 r)]) F (c_X12_drawn l g rfl hw) cv_X12_drawn w_1381 ⟨rfl, rfl, Nat.le_of_ble_eq_true rfl, Nat.le_of_ble_eq_true rfl⟩ rfl rfl rfl (Nat.le_of_ble_eq_true rfl) dL_law_911 hf hP1 hS1 hl (fun r2 M2 H2 locs2 hw hP2 hS2 => ?_)
  obtain ⟨he, hI2⟩ := hw
  refine lv_icmp_eq (tgt := 1279) F.1 F.2.1 dL_law_914 (by decide) (fun _ => ?_) (fun h9 => absurd ((i3_eq r r2).mpr he) h9)
  exact hgo M2 H2 locs2 hI2 hP2 hS2
set_option maxRecDepth 100000 in
set_option maxHeartbeats 4000000 in
theorem law_case_22 {p : Program} {l : Launch} {e : Env} {s : State} {m : MethodId} {below : List Frame} {meth : Method} {c : Code} {b L : Nat} {xs : Nat → Int32} {g : En} {Inv : Mem → Prop} (F : Fx g p s m #[Value.ref b] meth c code 4 RL) (hX : va_X b L xs s s.heap) (hbl : b < s.heap.size) (hbA : ¬ aR g b) (hL : L ≤ 3584) {k0 n0 : Nat} (hf : k0 ≤ room_1.cells ∧ n0 ≤ room_1.slots) {i : Nat} (hi : i + 7 ≤ L) {ls : Array Slot} (hl : lv_has ls 4 [(0, .ref b), (1, .ref (g.2.2.1 + 0)), (2, .ref (g.2.2.1 + 189)), (3, .int (i3 (i : Int)))]) (hst : Step_22 Inv)
    (hgo : ∀ (M : Mem) (H : Heap) (locs : List Loc), Inv M → va_P g.1 vwCl (wS g M) H → va_S (aR g) s.heap H locs → W p l e room_1 s m #[Value.ref b] below meth c H locs k0 n0 (lw_Z below #[Value.ref b] s) (F0 m 1279 ls []))
    {M : Mem} (hI : Inv M) {H : Heap} {locs : List Loc} (hP : va_P g.1 vwCl (wS g M) H) (hS : va_S (aR g) s.heap H locs) : W p l e room_1 s m #[Value.ref b] below meth c H locs k0 n0 (lw_Z below #[Value.ref b] s) (F0 m 919 ls []) := by
  have h0 := lv_at hl 0 rfl
  have h1 := lv_at hl 1 rfl
  have h2 := lv_at hl 2 rfl
  have h3 := lv_at hl 3 rfl
  have hw := hst M hI (sc xs (i + 1)) (sc xs (i + 2)) (sc xs (i + 3)) (sc_R xs (i + 1)) (sc_R xs (i + 2)) (sc_R xs (i + 3))
  refine lv_aload_n F.1 F.2.1 dL_law_919 rfl h1 ?_
  refine l_arg (k := 1) F hX hbl hbA hS h0 h3 (by omega) hL dL_law_920 dL_law_921 dL_law_922 dL_law_923 dL_law_924 ?_
  refine l_arg (k := 2) F hX hbl hbA hS h0 h3 (by omega) hL dL_law_925 dL_law_926 dL_law_927 dL_law_928 dL_law_929 ?_
  refine l_arg (k := 3) F hX hbl hbA hS h0 h3 (by omega) hL dL_law_930 dL_law_931 dL_law_932 dL_law_933 dL_law_934 ?_
  refine l_ci (h := 0) (As := [.int (i3 (sc xs (i + 1))), .int (i3 (sc xs (i + 2))), .int (i3 (sc xs (i + 3)))]) (st := []) F (c_X11_chance l g rfl hw) cv_X11_chance w_898 ⟨rfl, rfl, Nat.le_of_ble_eq_true rfl, Nat.le_of_ble_eq_true rfl⟩ rfl rfl rfl (Nat.le_of_ble_eq_true rfl) dL_law_935 hf hP hS hl (fun r M1 H1 locs1 hw hP1 hS1 => ?_)
  refine lv_aload_n F.1 F.2.1 dL_law_938 rfl h2 ?_
  refine l_arg (k := 1) F hX hbl hbA hS1 h0 h3 (by omega) hL dL_law_939 dL_law_940 dL_law_941 dL_law_942 dL_law_943 ?_
  refine l_arg (k := 2) F hX hbl hbA hS1 h0 h3 (by omega) hL dL_law_944 dL_law_945 dL_law_946 dL_law_947 dL_law_948 ?_
  refine l_arg (k := 3) F hX hbl hbA hS1 h0 h3 (by omega) hL dL_law_949 dL_law_950 dL_law_951 dL_law_952 dL_law_953 ?_
  refine l_ci (h := 189) (As := [.int (i3 (sc xs (i + 1))), .int (i3 (sc xs (i + 2))), .int (i3 (sc xs (i + 3)))]) (st := [.int (i3 r)]) F (c_X12_chance l g rfl hw) cv_X12_chance w_1390 ⟨rfl, rfl, Nat.le_of_ble_eq_true rfl, Nat.le_of_ble_eq_true rfl⟩ rfl rfl rfl (Nat.le_of_ble_eq_true rfl) dL_law_954 hf hP1 hS1 hl (fun r2 M2 H2 locs2 hw hP2 hS2 => ?_)
  obtain ⟨he, hI2⟩ := hw
  refine lv_icmp_eq (tgt := 1279) F.1 F.2.1 dL_law_957 (by decide) (fun _ => ?_) (fun h9 => absurd ((i3_eq r r2).mpr he) h9)
  exact hgo M2 H2 locs2 hI2 hP2 hS2
set_option maxRecDepth 100000 in
set_option maxHeartbeats 4000000 in
theorem law_case_23 {p : Program} {l : Launch} {e : Env} {s : State} {m : MethodId} {below : List Frame} {meth : Method} {c : Code} {b L : Nat} {xs : Nat → Int32} {g : En} {Inv : Mem → Prop} (F : Fx g p s m #[Value.ref b] meth c code 4 RL) (hX : va_X b L xs s s.heap) (hbl : b < s.heap.size) (hbA : ¬ aR g b) (hL : L ≤ 3584) {k0 n0 : Nat} (hf : k0 ≤ room_1.cells ∧ n0 ≤ room_1.slots) {i : Nat} (hi : i + 7 ≤ L) {ls : Array Slot} (hl : lv_has ls 4 [(0, .ref b), (1, .ref (g.2.2.1 + 0)), (2, .ref (g.2.2.1 + 189)), (3, .int (i3 (i : Int)))]) (hst : Step_23 Inv)
    (hgo : ∀ (M : Mem) (H : Heap) (locs : List Loc), Inv M → va_P g.1 vwCl (wS g M) H → va_S (aR g) s.heap H locs → W p l e room_1 s m #[Value.ref b] below meth c H locs k0 n0 (lw_Z below #[Value.ref b] s) (F0 m 1279 ls []))
    {M : Mem} (hI : Inv M) {H : Heap} {locs : List Loc} (hP : va_P g.1 vwCl (wS g M) H) (hS : va_S (aR g) s.heap H locs) : W p l e room_1 s m #[Value.ref b] below meth c H locs k0 n0 (lw_Z below #[Value.ref b] s) (F0 m 962 ls []) := by
  have h0 := lv_at hl 0 rfl
  have h1 := lv_at hl 1 rfl
  have h2 := lv_at hl 2 rfl
  have h3 := lv_at hl 3 rfl
  have hw := hst M hI (sc xs (i + 1)) (sc xs (i + 2)) (sc xs (i + 3)) (sc_R xs (i + 1)) (sc_R xs (i + 2)) (sc_R xs (i + 3))
  refine lv_aload_n F.1 F.2.1 dL_law_962 rfl h1 ?_
  refine l_arg (k := 1) F hX hbl hbA hS h0 h3 (by omega) hL dL_law_963 dL_law_964 dL_law_965 dL_law_966 dL_law_967 ?_
  refine l_arg (k := 2) F hX hbl hbA hS h0 h3 (by omega) hL dL_law_968 dL_law_969 dL_law_970 dL_law_971 dL_law_972 ?_
  refine l_arg (k := 3) F hX hbl hbA hS h0 h3 (by omega) hL dL_law_973 dL_law_974 dL_law_975 dL_law_976 dL_law_977 ?_
  refine l_ci (h := 0) (As := [.int (i3 (sc xs (i + 1))), .int (i3 (sc xs (i + 2))), .int (i3 (sc xs (i + 3)))]) (st := []) F (c_X11_tells l g rfl hw) cv_X11_tells w_903 ⟨rfl, rfl, Nat.le_of_ble_eq_true rfl, Nat.le_of_ble_eq_true rfl⟩ rfl rfl rfl (Nat.le_of_ble_eq_true rfl) dL_law_978 hf hP hS hl (fun r M1 H1 locs1 hw hP1 hS1 => ?_)
  refine lv_aload_n F.1 F.2.1 dL_law_981 rfl h2 ?_
  refine l_arg (k := 1) F hX hbl hbA hS1 h0 h3 (by omega) hL dL_law_982 dL_law_983 dL_law_984 dL_law_985 dL_law_986 ?_
  refine l_arg (k := 2) F hX hbl hbA hS1 h0 h3 (by omega) hL dL_law_987 dL_law_988 dL_law_989 dL_law_990 dL_law_991 ?_
  refine l_arg (k := 3) F hX hbl hbA hS1 h0 h3 (by omega) hL dL_law_992 dL_law_993 dL_law_994 dL_law_995 dL_law_996 ?_
  refine l_ci (h := 189) (As := [.int (i3 (sc xs (i + 1))), .int (i3 (sc xs (i + 2))), .int (i3 (sc xs (i + 3)))]) (st := [.int (i3 r)]) F (c_X12_tells l g rfl hw) cv_X12_tells w_1394 ⟨rfl, rfl, Nat.le_of_ble_eq_true rfl, Nat.le_of_ble_eq_true rfl⟩ rfl rfl rfl (Nat.le_of_ble_eq_true rfl) dL_law_997 hf hP1 hS1 hl (fun r2 M2 H2 locs2 hw hP2 hS2 => ?_)
  obtain ⟨he, hI2⟩ := hw
  refine lv_icmp_eq (tgt := 1279) F.1 F.2.1 dL_law_1000 (by decide) (fun _ => ?_) (fun h9 => absurd ((i3_eq r r2).mpr he) h9)
  exact hgo M2 H2 locs2 hI2 hP2 hS2
set_option maxRecDepth 100000 in
set_option maxHeartbeats 4000000 in
theorem law_case_24 {p : Program} {l : Launch} {e : Env} {s : State} {m : MethodId} {below : List Frame} {meth : Method} {c : Code} {b L : Nat} {xs : Nat → Int32} {g : En} {Inv : Mem → Prop} (F : Fx g p s m #[Value.ref b] meth c code 4 RL) (hX : va_X b L xs s s.heap) (hbl : b < s.heap.size) (hbA : ¬ aR g b) (hL : L ≤ 3584) {k0 n0 : Nat} (hf : k0 ≤ room_1.cells ∧ n0 ≤ room_1.slots) {i : Nat} (hi : i + 7 ≤ L) {ls : Array Slot} (hl : lv_has ls 4 [(0, .ref b), (1, .ref (g.2.2.1 + 0)), (2, .ref (g.2.2.1 + 189)), (3, .int (i3 (i : Int)))]) (hst : Step_24 Inv)
    (hgo : ∀ (M : Mem) (H : Heap) (locs : List Loc), Inv M → va_P g.1 vwCl (wS g M) H → va_S (aR g) s.heap H locs → W p l e room_1 s m #[Value.ref b] below meth c H locs k0 n0 (lw_Z below #[Value.ref b] s) (F0 m 1279 ls []))
    {M : Mem} (hI : Inv M) {H : Heap} {locs : List Loc} (hP : va_P g.1 vwCl (wS g M) H) (hS : va_S (aR g) s.heap H locs) : W p l e room_1 s m #[Value.ref b] below meth c H locs k0 n0 (lw_Z below #[Value.ref b] s) (F0 m 1005 ls []) := by
  have h0 := lv_at hl 0 rfl
  have h1 := lv_at hl 1 rfl
  have h2 := lv_at hl 2 rfl
  have h3 := lv_at hl 3 rfl
  have hw := hst M hI (sc xs (i + 1)) (sc_R xs (i + 1))
  refine lv_aload_n F.1 F.2.1 dL_law_1005 rfl h1 ?_
  refine l_arg (k := 1) F hX hbl hbA hS h0 h3 (by omega) hL dL_law_1006 dL_law_1007 dL_law_1008 dL_law_1009 dL_law_1010 ?_
  refine l_ci (h := 0) (As := [.int (i3 (sc xs (i + 1)))]) (st := []) F (c_X11_film l g rfl hw) cv_X11_film w_911 ⟨rfl, rfl, Nat.le_of_ble_eq_true rfl, Nat.le_of_ble_eq_true rfl⟩ rfl rfl rfl (Nat.le_of_ble_eq_true rfl) dL_law_1011 hf hP hS hl (fun r M1 H1 locs1 hw hP1 hS1 => ?_)
  refine lv_aload_n F.1 F.2.1 dL_law_1014 rfl h2 ?_
  refine l_arg (k := 1) F hX hbl hbA hS1 h0 h3 (by omega) hL dL_law_1015 dL_law_1016 dL_law_1017 dL_law_1018 dL_law_1019 ?_
  refine l_ci (h := 189) (As := [.int (i3 (sc xs (i + 1)))]) (st := [.int (i3 r)]) F (c_X12_film l g rfl hw) cv_X12_film w_1402 ⟨rfl, rfl, Nat.le_of_ble_eq_true rfl, Nat.le_of_ble_eq_true rfl⟩ rfl rfl rfl (Nat.le_of_ble_eq_true rfl) dL_law_1020 hf hP1 hS1 hl (fun r2 M2 H2 locs2 hw hP2 hS2 => ?_)
  obtain ⟨he, hI2⟩ := hw
  refine lv_icmp_eq (tgt := 1279) F.1 F.2.1 dL_law_1023 (by decide) (fun _ => ?_) (fun h9 => absurd ((i3_eq r r2).mpr he) h9)
  exact hgo M2 H2 locs2 hI2 hP2 hS2
set_option maxRecDepth 100000 in
set_option maxHeartbeats 4000000 in
theorem law_case_25 {p : Program} {l : Launch} {e : Env} {s : State} {m : MethodId} {below : List Frame} {meth : Method} {c : Code} {b L : Nat} {xs : Nat → Int32} {g : En} {Inv : Mem → Prop} (F : Fx g p s m #[Value.ref b] meth c code 4 RL) (hX : va_X b L xs s s.heap) (hbl : b < s.heap.size) (hbA : ¬ aR g b) (hL : L ≤ 3584) {k0 n0 : Nat} (hf : k0 ≤ room_1.cells ∧ n0 ≤ room_1.slots) {i : Nat} (hi : i + 7 ≤ L) {ls : Array Slot} (hl : lv_has ls 4 [(0, .ref b), (1, .ref (g.2.2.1 + 0)), (2, .ref (g.2.2.1 + 189)), (3, .int (i3 (i : Int)))]) (hst : Step_25 Inv)
    (hgo : ∀ (M : Mem) (H : Heap) (locs : List Loc), Inv M → va_P g.1 vwCl (wS g M) H → va_S (aR g) s.heap H locs → W p l e room_1 s m #[Value.ref b] below meth c H locs k0 n0 (lw_Z below #[Value.ref b] s) (F0 m 1279 ls []))
    {M : Mem} (hI : Inv M) {H : Heap} {locs : List Loc} (hP : va_P g.1 vwCl (wS g M) H) (hS : va_S (aR g) s.heap H locs) : W p l e room_1 s m #[Value.ref b] below meth c H locs k0 n0 (lw_Z below #[Value.ref b] s) (F0 m 1028 ls []) := by
  have h0 := lv_at hl 0 rfl
  have h1 := lv_at hl 1 rfl
  have h2 := lv_at hl 2 rfl
  have h3 := lv_at hl 3 rfl
  have hw := hst M hI
  refine lv_aload_n F.1 F.2.1 dL_law_1028 rfl h1 ?_
  refine l_ci (h := 0) (As := []) (st := []) F (c_X11_image l g rfl hw) cv_X11_image w_920 ⟨rfl, rfl, Nat.le_of_ble_eq_true rfl, Nat.le_of_ble_eq_true rfl⟩ rfl rfl rfl (Nat.le_of_ble_eq_true rfl) dL_law_1029 hf hP hS hl (fun r M1 H1 locs1 hw hP1 hS1 => ?_)
  refine lv_aload_n F.1 F.2.1 dL_law_1032 rfl h2 ?_
  refine l_ci (h := 189) (As := []) (st := [.int (i3 r)]) F (c_X12_image l g rfl hw) cv_X12_image w_1406 ⟨rfl, rfl, Nat.le_of_ble_eq_true rfl, Nat.le_of_ble_eq_true rfl⟩ rfl rfl rfl (Nat.le_of_ble_eq_true rfl) dL_law_1033 hf hP1 hS1 hl (fun r2 M2 H2 locs2 hw hP2 hS2 => ?_)
  obtain ⟨he, hI2⟩ := hw
  refine lv_icmp_eq (tgt := 1279) F.1 F.2.1 dL_law_1036 (by decide) (fun _ => ?_) (fun h9 => absurd ((i3_eq r r2).mpr he) h9)
  exact hgo M2 H2 locs2 hI2 hP2 hS2
set_option maxRecDepth 100000 in
set_option maxHeartbeats 4000000 in
theorem law_case_26 {p : Program} {l : Launch} {e : Env} {s : State} {m : MethodId} {below : List Frame} {meth : Method} {c : Code} {b L : Nat} {xs : Nat → Int32} {g : En} {Inv : Mem → Prop} (F : Fx g p s m #[Value.ref b] meth c code 4 RL) (hX : va_X b L xs s s.heap) (hbl : b < s.heap.size) (hbA : ¬ aR g b) (hL : L ≤ 3584) {k0 n0 : Nat} (hf : k0 ≤ room_1.cells ∧ n0 ≤ room_1.slots) {i : Nat} (hi : i + 7 ≤ L) {ls : Array Slot} (hl : lv_has ls 4 [(0, .ref b), (1, .ref (g.2.2.1 + 0)), (2, .ref (g.2.2.1 + 189)), (3, .int (i3 (i : Int)))]) (hst : Step_26 Inv)
    (hgo : ∀ (M : Mem) (H : Heap) (locs : List Loc), Inv M → va_P g.1 vwCl (wS g M) H → va_S (aR g) s.heap H locs → W p l e room_1 s m #[Value.ref b] below meth c H locs k0 n0 (lw_Z below #[Value.ref b] s) (F0 m 1279 ls []))
    {M : Mem} (hI : Inv M) {H : Heap} {locs : List Loc} (hP : va_P g.1 vwCl (wS g M) H) (hS : va_S (aR g) s.heap H locs) : W p l e room_1 s m #[Value.ref b] below meth c H locs k0 n0 (lw_Z below #[Value.ref b] s) (F0 m 1041 ls []) := by
  have h0 := lv_at hl 0 rfl
  have h1 := lv_at hl 1 rfl
  have h2 := lv_at hl 2 rfl
  have h3 := lv_at hl 3 rfl
  have hw := hst M hI
  refine lv_aload_n F.1 F.2.1 dL_law_1041 rfl h1 ?_
  refine l_ci (h := 0) (As := []) (st := []) F (c_X11_back l g rfl hw) cv_X11_back w_940 ⟨rfl, rfl, Nat.le_of_ble_eq_true rfl, Nat.le_of_ble_eq_true rfl⟩ rfl rfl rfl (Nat.le_of_ble_eq_true rfl) dL_law_1042 hf hP hS hl (fun r M1 H1 locs1 hw hP1 hS1 => ?_)
  refine lv_aload_n F.1 F.2.1 dL_law_1045 rfl h2 ?_
  refine l_ci (h := 189) (As := []) (st := [.int (i3 r)]) F (c_X12_back l g rfl hw) cv_X12_back w_1410 ⟨rfl, rfl, Nat.le_of_ble_eq_true rfl, Nat.le_of_ble_eq_true rfl⟩ rfl rfl rfl (Nat.le_of_ble_eq_true rfl) dL_law_1046 hf hP1 hS1 hl (fun r2 M2 H2 locs2 hw hP2 hS2 => ?_)
  obtain ⟨he, hI2⟩ := hw
  refine lv_icmp_eq (tgt := 1279) F.1 F.2.1 dL_law_1049 (by decide) (fun _ => ?_) (fun h9 => absurd ((i3_eq r r2).mpr he) h9)
  exact hgo M2 H2 locs2 hI2 hP2 hS2
set_option maxRecDepth 100000 in
set_option maxHeartbeats 4000000 in
theorem law_case_27 {p : Program} {l : Launch} {e : Env} {s : State} {m : MethodId} {below : List Frame} {meth : Method} {c : Code} {b L : Nat} {xs : Nat → Int32} {g : En} {Inv : Mem → Prop} (F : Fx g p s m #[Value.ref b] meth c code 4 RL) (hX : va_X b L xs s s.heap) (hbl : b < s.heap.size) (hbA : ¬ aR g b) (hL : L ≤ 3584) {k0 n0 : Nat} (hf : k0 ≤ room_1.cells ∧ n0 ≤ room_1.slots) {i : Nat} (hi : i + 7 ≤ L) {ls : Array Slot} (hl : lv_has ls 4 [(0, .ref b), (1, .ref (g.2.2.1 + 0)), (2, .ref (g.2.2.1 + 189)), (3, .int (i3 (i : Int)))]) (hst : Step_27 Inv)
    (hgo : ∀ (M : Mem) (H : Heap) (locs : List Loc), Inv M → va_P g.1 vwCl (wS g M) H → va_S (aR g) s.heap H locs → W p l e room_1 s m #[Value.ref b] below meth c H locs k0 n0 (lw_Z below #[Value.ref b] s) (F0 m 1279 ls []))
    {M : Mem} (hI : Inv M) {H : Heap} {locs : List Loc} (hP : va_P g.1 vwCl (wS g M) H) (hS : va_S (aR g) s.heap H locs) : W p l e room_1 s m #[Value.ref b] below meth c H locs k0 n0 (lw_Z below #[Value.ref b] s) (F0 m 1054 ls []) := by
  have h0 := lv_at hl 0 rfl
  have h1 := lv_at hl 1 rfl
  have h2 := lv_at hl 2 rfl
  have h3 := lv_at hl 3 rfl
  have hw := hst M hI (sc xs (i + 1)) (sc_R xs (i + 1))
  refine lv_aload_n F.1 F.2.1 dL_law_1054 rfl h1 ?_
  refine l_arg (k := 1) F hX hbl hbA hS h0 h3 (by omega) hL dL_law_1055 dL_law_1056 dL_law_1057 dL_law_1058 dL_law_1059 ?_
  refine l_cip (h := 0) (As := [.int (i3 (sc xs (i + 1)))]) (st := []) F (c_X11_count l g rfl hw) cv_X11_count w_944 ⟨rfl, rfl, Nat.le_of_ble_eq_true rfl, Nat.le_of_ble_eq_true rfl⟩ rfl rfl rfl (Nat.le_of_ble_eq_true rfl) dL_law_1060 hf hP hS hl (fun r H1 locs1 hw hP1 hS1 => ?_)
  refine lv_aload_n F.1 F.2.1 dL_law_1063 rfl h2 ?_
  refine l_arg (k := 1) F hX hbl hbA hS1 h0 h3 (by omega) hL dL_law_1064 dL_law_1065 dL_law_1066 dL_law_1067 dL_law_1068 ?_
  refine l_cip (h := 189) (As := [.int (i3 (sc xs (i + 1)))]) (st := [.int (i3 r)]) F (c_X12_count l g rfl hw) cv_X12_count w_1414 ⟨rfl, rfl, Nat.le_of_ble_eq_true rfl, Nat.le_of_ble_eq_true rfl⟩ rfl rfl rfl (Nat.le_of_ble_eq_true rfl) dL_law_1069 hf hP1 hS1 hl (fun r2 H2 locs2 hw hP2 hS2 => ?_)
  have he := hw
  have hI2 := hI
  refine lv_icmp_eq (tgt := 1279) F.1 F.2.1 dL_law_1072 (by decide) (fun _ => ?_) (fun h9 => absurd ((i3_eq r r2).mpr he) h9)
  exact hgo M H2 locs2 hI2 hP2 hS2
set_option maxRecDepth 100000 in
set_option maxHeartbeats 4000000 in
theorem law_case_28 {p : Program} {l : Launch} {e : Env} {s : State} {m : MethodId} {below : List Frame} {meth : Method} {c : Code} {b L : Nat} {xs : Nat → Int32} {g : En} {Inv : Mem → Prop} (F : Fx g p s m #[Value.ref b] meth c code 4 RL) (hX : va_X b L xs s s.heap) (hbl : b < s.heap.size) (hbA : ¬ aR g b) (hL : L ≤ 3584) {k0 n0 : Nat} (hf : k0 ≤ room_1.cells ∧ n0 ≤ room_1.slots) {i : Nat} (hi : i + 7 ≤ L) {ls : Array Slot} (hl : lv_has ls 4 [(0, .ref b), (1, .ref (g.2.2.1 + 0)), (2, .ref (g.2.2.1 + 189)), (3, .int (i3 (i : Int)))]) (hst : Step_28 Inv)
    (hgo : ∀ (M : Mem) (H : Heap) (locs : List Loc), Inv M → va_P g.1 vwCl (wS g M) H → va_S (aR g) s.heap H locs → W p l e room_1 s m #[Value.ref b] below meth c H locs k0 n0 (lw_Z below #[Value.ref b] s) (F0 m 1279 ls []))
    {M : Mem} (hI : Inv M) {H : Heap} {locs : List Loc} (hP : va_P g.1 vwCl (wS g M) H) (hS : va_S (aR g) s.heap H locs) : W p l e room_1 s m #[Value.ref b] below meth c H locs k0 n0 (lw_Z below #[Value.ref b] s) (F0 m 1077 ls []) := by
  have h0 := lv_at hl 0 rfl
  have h1 := lv_at hl 1 rfl
  have h2 := lv_at hl 2 rfl
  have h3 := lv_at hl 3 rfl
  have hw := hst M hI (sc xs (i + 1)) (sc xs (i + 2)) (sc xs (i + 3)) (sc_R xs (i + 1)) (sc_R xs (i + 2)) (sc_R xs (i + 3))
  refine lv_aload_n F.1 F.2.1 dL_law_1077 rfl h1 ?_
  refine l_arg (k := 1) F hX hbl hbA hS h0 h3 (by omega) hL dL_law_1078 dL_law_1079 dL_law_1080 dL_law_1081 dL_law_1082 ?_
  refine l_arg (k := 2) F hX hbl hbA hS h0 h3 (by omega) hL dL_law_1083 dL_law_1084 dL_law_1085 dL_law_1086 dL_law_1087 ?_
  refine l_arg (k := 3) F hX hbl hbA hS h0 h3 (by omega) hL dL_law_1088 dL_law_1089 dL_law_1090 dL_law_1091 dL_law_1092 ?_
  refine l_ci (h := 0) (As := [.int (i3 (sc xs (i + 1))), .int (i3 (sc xs (i + 2))), .int (i3 (sc xs (i + 3)))]) (st := []) F (c_X11_sheet l g rfl hw) cv_X11_sheet w_953 ⟨rfl, rfl, Nat.le_of_ble_eq_true rfl, Nat.le_of_ble_eq_true rfl⟩ rfl rfl rfl (Nat.le_of_ble_eq_true rfl) dL_law_1093 hf hP hS hl (fun r M1 H1 locs1 hw hP1 hS1 => ?_)
  refine lv_aload_n F.1 F.2.1 dL_law_1096 rfl h2 ?_
  refine l_arg (k := 1) F hX hbl hbA hS1 h0 h3 (by omega) hL dL_law_1097 dL_law_1098 dL_law_1099 dL_law_1100 dL_law_1101 ?_
  refine l_arg (k := 2) F hX hbl hbA hS1 h0 h3 (by omega) hL dL_law_1102 dL_law_1103 dL_law_1104 dL_law_1105 dL_law_1106 ?_
  refine l_arg (k := 3) F hX hbl hbA hS1 h0 h3 (by omega) hL dL_law_1107 dL_law_1108 dL_law_1109 dL_law_1110 dL_law_1111 ?_
  refine l_ci (h := 189) (As := [.int (i3 (sc xs (i + 1))), .int (i3 (sc xs (i + 2))), .int (i3 (sc xs (i + 3)))]) (st := [.int (i3 r)]) F (c_X12_sheet l g rfl hw) cv_X12_sheet w_1418 ⟨rfl, rfl, Nat.le_of_ble_eq_true rfl, Nat.le_of_ble_eq_true rfl⟩ rfl rfl rfl (Nat.le_of_ble_eq_true rfl) dL_law_1112 hf hP1 hS1 hl (fun r2 M2 H2 locs2 hw hP2 hS2 => ?_)
  obtain ⟨he, hI2⟩ := hw
  refine lv_icmp_eq (tgt := 1279) F.1 F.2.1 dL_law_1115 (by decide) (fun _ => ?_) (fun h9 => absurd ((i3_eq r r2).mpr he) h9)
  exact hgo M2 H2 locs2 hI2 hP2 hS2
set_option maxRecDepth 100000 in
set_option maxHeartbeats 4000000 in
theorem law_case_29 {p : Program} {l : Launch} {e : Env} {s : State} {m : MethodId} {below : List Frame} {meth : Method} {c : Code} {b L : Nat} {xs : Nat → Int32} {g : En} {Inv : Mem → Prop} (F : Fx g p s m #[Value.ref b] meth c code 4 RL) (hX : va_X b L xs s s.heap) (hbl : b < s.heap.size) (hbA : ¬ aR g b) (hL : L ≤ 3584) {k0 n0 : Nat} (hf : k0 ≤ room_1.cells ∧ n0 ≤ room_1.slots) {i : Nat} (hi : i + 7 ≤ L) {ls : Array Slot} (hl : lv_has ls 4 [(0, .ref b), (1, .ref (g.2.2.1 + 0)), (2, .ref (g.2.2.1 + 189)), (3, .int (i3 (i : Int)))]) (hst : Step_29 Inv)
    (hgo : ∀ (M : Mem) (H : Heap) (locs : List Loc), Inv M → va_P g.1 vwCl (wS g M) H → va_S (aR g) s.heap H locs → W p l e room_1 s m #[Value.ref b] below meth c H locs k0 n0 (lw_Z below #[Value.ref b] s) (F0 m 1279 ls []))
    {M : Mem} (hI : Inv M) {H : Heap} {locs : List Loc} (hP : va_P g.1 vwCl (wS g M) H) (hS : va_S (aR g) s.heap H locs) : W p l e room_1 s m #[Value.ref b] below meth c H locs k0 n0 (lw_Z below #[Value.ref b] s) (F0 m 1120 ls []) := by
  have h0 := lv_at hl 0 rfl
  have h1 := lv_at hl 1 rfl
  have h2 := lv_at hl 2 rfl
  have h3 := lv_at hl 3 rfl
  have hw := hst M hI (sc xs (i + 1)) (sc xs (i + 2)) (sc xs (i + 3)) (sc_R xs (i + 1)) (sc_R xs (i + 2)) (sc_R xs (i + 3))
  refine lv_aload_n F.1 F.2.1 dL_law_1120 rfl h1 ?_
  refine l_arg (k := 1) F hX hbl hbA hS h0 h3 (by omega) hL dL_law_1121 dL_law_1122 dL_law_1123 dL_law_1124 dL_law_1125 ?_
  refine l_arg (k := 2) F hX hbl hbA hS h0 h3 (by omega) hL dL_law_1126 dL_law_1127 dL_law_1128 dL_law_1129 dL_law_1130 ?_
  refine l_arg (k := 3) F hX hbl hbA hS h0 h3 (by omega) hL dL_law_1131 dL_law_1132 dL_law_1133 dL_law_1134 dL_law_1135 ?_
  refine l_ci (h := 0) (As := [.int (i3 (sc xs (i + 1))), .int (i3 (sc xs (i + 2))), .int (i3 (sc xs (i + 3)))]) (st := []) F (c_X11_put l g rfl hw) cv_X11_put w_960 ⟨rfl, rfl, Nat.le_of_ble_eq_true rfl, Nat.le_of_ble_eq_true rfl⟩ rfl rfl rfl (Nat.le_of_ble_eq_true rfl) dL_law_1136 hf hP hS hl (fun r M1 H1 locs1 hw hP1 hS1 => ?_)
  refine lv_aload_n F.1 F.2.1 dL_law_1139 rfl h2 ?_
  refine l_arg (k := 1) F hX hbl hbA hS1 h0 h3 (by omega) hL dL_law_1140 dL_law_1141 dL_law_1142 dL_law_1143 dL_law_1144 ?_
  refine l_arg (k := 2) F hX hbl hbA hS1 h0 h3 (by omega) hL dL_law_1145 dL_law_1146 dL_law_1147 dL_law_1148 dL_law_1149 ?_
  refine l_arg (k := 3) F hX hbl hbA hS1 h0 h3 (by omega) hL dL_law_1150 dL_law_1151 dL_law_1152 dL_law_1153 dL_law_1154 ?_
  refine l_ci (h := 189) (As := [.int (i3 (sc xs (i + 1))), .int (i3 (sc xs (i + 2))), .int (i3 (sc xs (i + 3)))]) (st := [.int (i3 r)]) F (c_X12_put l g rfl hw) cv_X12_put w_1422 ⟨rfl, rfl, Nat.le_of_ble_eq_true rfl, Nat.le_of_ble_eq_true rfl⟩ rfl rfl rfl (Nat.le_of_ble_eq_true rfl) dL_law_1155 hf hP1 hS1 hl (fun r2 M2 H2 locs2 hw hP2 hS2 => ?_)
  obtain ⟨he, hI2⟩ := hw
  refine lv_icmp_eq (tgt := 1279) F.1 F.2.1 dL_law_1158 (by decide) (fun _ => ?_) (fun h9 => absurd ((i3_eq r r2).mpr he) h9)
  exact hgo M2 H2 locs2 hI2 hP2 hS2
set_option maxRecDepth 100000 in
set_option maxHeartbeats 4000000 in
theorem law_case_30 {p : Program} {l : Launch} {e : Env} {s : State} {m : MethodId} {below : List Frame} {meth : Method} {c : Code} {b L : Nat} {xs : Nat → Int32} {g : En} {Inv : Mem → Prop} (F : Fx g p s m #[Value.ref b] meth c code 4 RL) (hX : va_X b L xs s s.heap) (hbl : b < s.heap.size) (hbA : ¬ aR g b) (hL : L ≤ 3584) {k0 n0 : Nat} (hf : k0 ≤ room_1.cells ∧ n0 ≤ room_1.slots) {i : Nat} (hi : i + 7 ≤ L) {ls : Array Slot} (hl : lv_has ls 4 [(0, .ref b), (1, .ref (g.2.2.1 + 0)), (2, .ref (g.2.2.1 + 189)), (3, .int (i3 (i : Int)))]) (hst : Step_30 Inv)
    (hgo : ∀ (M : Mem) (H : Heap) (locs : List Loc), Inv M → va_P g.1 vwCl (wS g M) H → va_S (aR g) s.heap H locs → W p l e room_1 s m #[Value.ref b] below meth c H locs k0 n0 (lw_Z below #[Value.ref b] s) (F0 m 1279 ls []))
    {M : Mem} (hI : Inv M) {H : Heap} {locs : List Loc} (hP : va_P g.1 vwCl (wS g M) H) (hS : va_S (aR g) s.heap H locs) : W p l e room_1 s m #[Value.ref b] below meth c H locs k0 n0 (lw_Z below #[Value.ref b] s) (F0 m 1163 ls []) := by
  have h0 := lv_at hl 0 rfl
  have h1 := lv_at hl 1 rfl
  have h2 := lv_at hl 2 rfl
  have h3 := lv_at hl 3 rfl
  have hw := hst M hI (sc xs (i + 1)) (sc xs (i + 2)) (sc xs (i + 3)) (sc xs (i + 4)) (sc xs (i + 5)) (sc_R xs (i + 1)) (sc_R xs (i + 2)) (sc_R xs (i + 3)) (sc_R xs (i + 4)) (sc_R xs (i + 5))
  refine lv_aload_n F.1 F.2.1 dL_law_1163 rfl h1 ?_
  refine l_arg (k := 1) F hX hbl hbA hS h0 h3 (by omega) hL dL_law_1164 dL_law_1165 dL_law_1166 dL_law_1167 dL_law_1168 ?_
  refine l_arg (k := 2) F hX hbl hbA hS h0 h3 (by omega) hL dL_law_1169 dL_law_1170 dL_law_1171 dL_law_1172 dL_law_1173 ?_
  refine l_arg (k := 3) F hX hbl hbA hS h0 h3 (by omega) hL dL_law_1174 dL_law_1175 dL_law_1176 dL_law_1177 dL_law_1178 ?_
  refine l_arg (k := 4) F hX hbl hbA hS h0 h3 (by omega) hL dL_law_1179 dL_law_1180 dL_law_1181 dL_law_1182 dL_law_1183 ?_
  refine l_arg (k := 5) F hX hbl hbA hS h0 h3 (by omega) hL dL_law_1184 dL_law_1185 dL_law_1186 dL_law_1187 dL_law_1188 ?_
  refine l_ci (h := 0) (As := [.int (i3 (sc xs (i + 1))), .int (i3 (sc xs (i + 2))), .int (i3 (sc xs (i + 3))), .int (i3 (sc xs (i + 4))), .int (i3 (sc xs (i + 5)))]) (st := []) F (c_X11_copy l g rfl hw) cv_X11_copy w_972 ⟨rfl, rfl, Nat.le_of_ble_eq_true rfl, Nat.le_of_ble_eq_true rfl⟩ rfl rfl rfl (Nat.le_of_ble_eq_true rfl) dL_law_1189 hf hP hS hl (fun r M1 H1 locs1 hw hP1 hS1 => ?_)
  refine lv_aload_n F.1 F.2.1 dL_law_1192 rfl h2 ?_
  refine l_arg (k := 1) F hX hbl hbA hS1 h0 h3 (by omega) hL dL_law_1193 dL_law_1194 dL_law_1195 dL_law_1196 dL_law_1197 ?_
  refine l_arg (k := 2) F hX hbl hbA hS1 h0 h3 (by omega) hL dL_law_1198 dL_law_1199 dL_law_1200 dL_law_1201 dL_law_1202 ?_
  refine l_arg (k := 3) F hX hbl hbA hS1 h0 h3 (by omega) hL dL_law_1203 dL_law_1204 dL_law_1205 dL_law_1206 dL_law_1207 ?_
  refine l_arg (k := 4) F hX hbl hbA hS1 h0 h3 (by omega) hL dL_law_1208 dL_law_1209 dL_law_1210 dL_law_1211 dL_law_1212 ?_
  refine l_arg (k := 5) F hX hbl hbA hS1 h0 h3 (by omega) hL dL_law_1213 dL_law_1214 dL_law_1215 dL_law_1216 dL_law_1217 ?_
  refine l_ci (h := 189) (As := [.int (i3 (sc xs (i + 1))), .int (i3 (sc xs (i + 2))), .int (i3 (sc xs (i + 3))), .int (i3 (sc xs (i + 4))), .int (i3 (sc xs (i + 5)))]) (st := [.int (i3 r)]) F (c_X12_copy l g rfl hw) cv_X12_copy w_1426 ⟨rfl, rfl, Nat.le_of_ble_eq_true rfl, Nat.le_of_ble_eq_true rfl⟩ rfl rfl rfl (Nat.le_of_ble_eq_true rfl) dL_law_1218 hf hP1 hS1 hl (fun r2 M2 H2 locs2 hw hP2 hS2 => ?_)
  obtain ⟨he, hI2⟩ := hw
  refine lv_icmp_eq (tgt := 1279) F.1 F.2.1 dL_law_1221 (by decide) (fun _ => ?_) (fun h9 => absurd ((i3_eq r r2).mpr he) h9)
  exact hgo M2 H2 locs2 hI2 hP2 hS2
set_option maxRecDepth 100000 in
set_option maxHeartbeats 4000000 in
theorem law_case_31 {p : Program} {l : Launch} {e : Env} {s : State} {m : MethodId} {below : List Frame} {meth : Method} {c : Code} {b L : Nat} {xs : Nat → Int32} {g : En} {Inv : Mem → Prop} (F : Fx g p s m #[Value.ref b] meth c code 4 RL) (hX : va_X b L xs s s.heap) (hbl : b < s.heap.size) (hbA : ¬ aR g b) (hL : L ≤ 3584) {k0 n0 : Nat} (hf : k0 ≤ room_1.cells ∧ n0 ≤ room_1.slots) {i : Nat} (hi : i + 7 ≤ L) {ls : Array Slot} (hl : lv_has ls 4 [(0, .ref b), (1, .ref (g.2.2.1 + 0)), (2, .ref (g.2.2.1 + 189)), (3, .int (i3 (i : Int)))]) (hst : Step_31 Inv)
    (hgo : ∀ (M : Mem) (H : Heap) (locs : List Loc), Inv M → va_P g.1 vwCl (wS g M) H → va_S (aR g) s.heap H locs → W p l e room_1 s m #[Value.ref b] below meth c H locs k0 n0 (lw_Z below #[Value.ref b] s) (F0 m 1279 ls []))
    {M : Mem} (hI : Inv M) {H : Heap} {locs : List Loc} (hP : va_P g.1 vwCl (wS g M) H) (hS : va_S (aR g) s.heap H locs) : W p l e room_1 s m #[Value.ref b] below meth c H locs k0 n0 (lw_Z below #[Value.ref b] s) (F0 m 1226 ls []) := by
  have h0 := lv_at hl 0 rfl
  have h1 := lv_at hl 1 rfl
  have h2 := lv_at hl 2 rfl
  have h3 := lv_at hl 3 rfl
  have hw := hst M hI (sc xs (i + 1)) (sc xs (i + 2)) (sc xs (i + 3)) (sc xs (i + 4)) (sc_R xs (i + 1)) (sc_R xs (i + 2)) (sc_R xs (i + 3)) (sc_R xs (i + 4))
  refine lv_aload_n F.1 F.2.1 dL_law_1226 rfl h1 ?_
  refine l_arg (k := 1) F hX hbl hbA hS h0 h3 (by omega) hL dL_law_1227 dL_law_1228 dL_law_1229 dL_law_1230 dL_law_1231 ?_
  refine l_arg (k := 2) F hX hbl hbA hS h0 h3 (by omega) hL dL_law_1232 dL_law_1233 dL_law_1234 dL_law_1235 dL_law_1236 ?_
  refine l_arg (k := 3) F hX hbl hbA hS h0 h3 (by omega) hL dL_law_1237 dL_law_1238 dL_law_1239 dL_law_1240 dL_law_1241 ?_
  refine l_arg (k := 4) F hX hbl hbA hS h0 h3 (by omega) hL dL_law_1242 dL_law_1243 dL_law_1244 dL_law_1245 dL_law_1246 ?_
  refine l_ci (h := 0) (As := [.int (i3 (sc xs (i + 1))), .int (i3 (sc xs (i + 2))), .int (i3 (sc xs (i + 3))), .int (i3 (sc xs (i + 4)))]) (st := []) F (c_X11_load l g rfl hw) cv_X11_load w_981 ⟨rfl, rfl, Nat.le_of_ble_eq_true rfl, Nat.le_of_ble_eq_true rfl⟩ rfl rfl rfl (Nat.le_of_ble_eq_true rfl) dL_law_1247 hf hP hS hl (fun r M1 H1 locs1 hw hP1 hS1 => ?_)
  refine lv_aload_n F.1 F.2.1 dL_law_1250 rfl h2 ?_
  refine l_arg (k := 1) F hX hbl hbA hS1 h0 h3 (by omega) hL dL_law_1251 dL_law_1252 dL_law_1253 dL_law_1254 dL_law_1255 ?_
  refine l_arg (k := 2) F hX hbl hbA hS1 h0 h3 (by omega) hL dL_law_1256 dL_law_1257 dL_law_1258 dL_law_1259 dL_law_1260 ?_
  refine l_arg (k := 3) F hX hbl hbA hS1 h0 h3 (by omega) hL dL_law_1261 dL_law_1262 dL_law_1263 dL_law_1264 dL_law_1265 ?_
  refine l_arg (k := 4) F hX hbl hbA hS1 h0 h3 (by omega) hL dL_law_1266 dL_law_1267 dL_law_1268 dL_law_1269 dL_law_1270 ?_
  refine l_ci (h := 189) (As := [.int (i3 (sc xs (i + 1))), .int (i3 (sc xs (i + 2))), .int (i3 (sc xs (i + 3))), .int (i3 (sc xs (i + 4)))]) (st := [.int (i3 r)]) F (c_X12_load l g rfl hw) cv_X12_load w_1430 ⟨rfl, rfl, Nat.le_of_ble_eq_true rfl, Nat.le_of_ble_eq_true rfl⟩ rfl rfl rfl (Nat.le_of_ble_eq_true rfl) dL_law_1271 hf hP1 hS1 hl (fun r2 M2 H2 locs2 hw hP2 hS2 => ?_)
  obtain ⟨he, hI2⟩ := hw
  refine lv_icmp_eq (tgt := 1279) F.1 F.2.1 dL_law_1274 (by decide) (fun _ => ?_) (fun h9 => absurd ((i3_eq r r2).mpr he) h9)
  exact hgo M2 H2 locs2 hI2 hP2 hS2
set_option maxRecDepth 100000 in
set_option maxHeartbeats 4000000 in
/-- from the loop's head on, whatever is left of the script -/
theorem law_loop {p : Program} {l : Launch} {e : Env} {s : State} {m : MethodId} {below : List Frame} {meth : Method} {c : Code} {b L : Nat} {xs : Nat → Int32} {g : En} {Inv : Mem → Prop} (F : Fx g p s m #[Value.ref b] meth c code 4 RL) (hX : va_X b L xs s s.heap) (hbl : b < s.heap.size) (hbA : ¬ aR g b) (hL : L ≤ 3584) {k0 n0 : Nat} (hf : k0 ≤ room_1.cells ∧ n0 ≤ room_1.slots) (hr : meth.sig.returnType = some .boolean) (hcells : k0 ≤ 600000) (hslots : n0 ≤ 7302250) (hge : ∀ q, aR g q → s.heap.size ≤ q) (hst : LawSteps Inv) : ∀ (n i : Nat), i ≤ L → L - i < n → ∀ (M : Mem), Inv M → ∀ (H : Heap) (locs : List Loc) (ls : Array Slot), va_P g.1 vwCl (wS g M) H → va_S (aR g) s.heap H locs → lv_has ls 4 [(0, .ref b), (1, .ref (g.2.2.1 + 0)), (2, .ref (g.2.2.1 + 189)), (3, .int (i3 (i : Int)))] → W p l e room_1 s m #[Value.ref b] below meth c H locs k0 n0 (lw_Z below #[Value.ref b] s) (F0 m 18 ls []) := by
  intro n
  induction n with
  | zero => exact fun i _ h => absurd h (Nat.not_lt_zero _)
  | succ n ih =>
    intro i hi hn M hI H locs ls hP hS hl
    refine lv_iload_n F.1 F.2.1 dL_law_18 rfl (lv_at hl 3 rfl) ?_
    refine lv_aload_n F.1 F.2.1 dL_law_19 rfl (lv_at hl 0 rfl) ?_
    refine va_slen F.1 F.2.1 hX hbl hbA hS dL_law_20 ?_
    rw [show Int32.ofNat L = i3 (L : Int) from rfl]
    refine lv_bipush (v := i3 7) F.1 F.2.1 dL_law_21 (by decide) ?_
    refine lv_isub F.1 F.2.1 dL_law_23 ?_
    rw [← i3_sub]
    refine lv_icmp_gt (tgt := 1285) F.1 F.2.1 dL_law_24 (by decide) (fun h => ?_) (fun h => ?_)
    · refine lv_iconst (v := 1) F.1 F.2.1 dL_law_1285 (by decide) ?_
      refine va_forget (fun q hq => hge _ (hS.2.2 q hq)) ?_
      refine W.widen (k := 600000) (n := 7302250) hcells hslots ?_
      exact lw_ret F.1 F.2.1 hr F.2.2.2.2.2.2.1 dL_law_1286
    · have hi7 : i + 7 ≤ L := by
        have h9 : ¬ w32 ((L : Int) - 7) < w32 (i : Int) := fun q => h ((i3_lt _ _).mpr q)
        unfold w32 at h9
        omega
      refine lv_aload_n F.1 F.2.1 dL_law_27 rfl (lv_at hl 0 rfl) ?_
      refine lv_iload_n F.1 F.2.1 dL_law_28 rfl (lv_at hl 3 rfl) ?_
      refine va_sld F.1 F.2.1 hX hbl hbA hS ((i3_in _ L).mpr (ix_in (by omega) hL)) dL_law_29 ?_
      rw [i3_cl, ix_nat (Nat.lt_of_lt_of_le (show i < L by omega) (Nat.le_trans hL (by decide)))]
      refine lv_bipush (v := i3 31) F.1 F.2.1 dL_law_30 (by decide) ?_
      refine lv_iand F.1 F.2.1 dL_law_32 ?_
      have e2 : xs i &&& i3 31 = i3 (sc xs i % 32) := and31 (xs i)
      rw [e2]
      have hgo : ∀ (M : Mem) (H : Heap) (locs : List Loc), Inv M → va_P g.1 vwCl (wS g M) H → va_S (aR g) s.heap H locs → W p l e room_1 s m #[Value.ref b] below meth c H locs k0 n0 (lw_Z below #[Value.ref b] s) (F0 m 1279 ls []) := by
        intro M H locs hI hP hS
        refine lv_iinc (v := i3 ((i + 7 : Nat) : Int)) (lv' := [(3, .int (i3 ((i + 7 : Nat) : Int))), (0, .ref b), (1, .ref (g.2.2.1 + 0)), (2, .ref (g.2.2.1 + 189))]) F.1 F.2.1 dL_law_1279 hl (k := 3) rfl ?_ (by decide) rfl (fun ls hl => ?_)
        · rw [show ((i + 7 : Nat) : Int) = (i : Int) + 7 by omega, i3_add]
          rfl
        · refine lv_goto (tgt := 18) F.1 F.2.1 dL_law_1282 (by decide) ?_
          exact ih (i + 7) hi7 (by omega) M hI H locs ls hP hS (lv_sub hl [1, 2, 3, 0] rfl)
      have hr0 : 0 ≤ sc xs i % 32 ∧ sc xs i % 32 < 32 := by omega
      have ew : w32 (sc xs i % 32) = sc xs i % 32 := by unfold w32; omega
      generalize sc xs i % 32 = z at hr0 ew ⊢
      have go : ∀ (j t : Nat) (o : Int), z = (j : Int) → (#[143, 176, 209, 242, 275, 308, 383, 416, 449, 482, 515, 548, 581, 615, 659, 683, 696, 730, 774, 807, 840, 863, 886, 929, 972, 995, 1008, 1021, 1044, 1087, 1130, 1193] : Array Int)[j]? = some o → ((33 : Nat) : Int) + o = (t : Int) → (hj : j < 32) → W p l e room_1 s m #[Value.ref b] below meth c H locs k0 n0 (lw_Z below #[Value.ref b] s) (F0 m t ls []) → W p l e room_1 s m #[Value.ref b] below meth c H locs k0 n0 (lw_Z below #[Value.ref b] s) (F0 m 33 ls [.int (i3 z)]) := by
        intro j t o hz ho ht hj k
        refine lv_tableIn F.1 F.2.1 dL_law_33 (by rw [i3_toInt, ew]; omega) (by rw [i3_toInt, ew]; omega) (off := o) ?_ ht k
        rw [i3_toInt, ew, hz]
        simpa using ho
      obtain ⟨hs0, hs1, hs2, hs3, hs4, hs5, hs6, hs7, hs8, hs9, hs10, hs11, hs12, hs13, hs14, hs15, hs16, hs17, hs18, hs19, hs20, hs21, hs22, hs23, hs24, hs25, hs26, hs27, hs28, hs29, hs30, hs31⟩ := hst
      obtain ⟨j, hj⟩ : ∃ j : Nat, z = (j : Int) := ⟨z.toNat, by omega⟩
      have hj2 : j < 32 := by omega
      match j, hj2, hj with
      | 0, _, hj => exact go 0 176 143 hj rfl rfl (by decide) (law_case_0 F hX hbl hbA hL hf hi7 hl hs0 hgo hI hP hS)
      | 1, _, hj => exact go 1 209 176 hj rfl rfl (by decide) (law_case_1 F hX hbl hbA hL hf hi7 hl hs1 hgo hI hP hS)
      | 2, _, hj => exact go 2 242 209 hj rfl rfl (by decide) (law_case_2 F hX hbl hbA hL hf hi7 hl hs2 hgo hI hP hS)
      | 3, _, hj => exact go 3 275 242 hj rfl rfl (by decide) (law_case_3 F hX hbl hbA hL hf hi7 hl hs3 hgo hI hP hS)
      | 4, _, hj => exact go 4 308 275 hj rfl rfl (by decide) (law_case_4 F hX hbl hbA hL hf hi7 hl hs4 hgo hI hP hS)
      | 5, _, hj => exact go 5 341 308 hj rfl rfl (by decide) (law_case_5 F hX hbl hbA hL hf hi7 hl hs5 hgo hI hP hS)
      | 6, _, hj => exact go 6 416 383 hj rfl rfl (by decide) (law_case_6 F hX hbl hbA hL hf hi7 hl hs6 hgo hI hP hS)
      | 7, _, hj => exact go 7 449 416 hj rfl rfl (by decide) (law_case_7 F hX hbl hbA hL hf hi7 hl hs7 hgo hI hP hS)
      | 8, _, hj => exact go 8 482 449 hj rfl rfl (by decide) (law_case_8 F hX hbl hbA hL hf hi7 hl hs8 hgo hI hP hS)
      | 9, _, hj => exact go 9 515 482 hj rfl rfl (by decide) (law_case_9 F hX hbl hbA hL hf hi7 hl hs9 hgo hI hP hS)
      | 10, _, hj => exact go 10 548 515 hj rfl rfl (by decide) (law_case_10 F hX hbl hbA hL hf hi7 hl hs10 hgo hI hP hS)
      | 11, _, hj => exact go 11 581 548 hj rfl rfl (by decide) (law_case_11 F hX hbl hbA hL hf hi7 hl hs11 hgo hI hP hS)
      | 12, _, hj => exact go 12 614 581 hj rfl rfl (by decide) (law_case_12 F hX hbl hbA hL hf hi7 hl hs12 hgo hI hP hS)
      | 13, _, hj => exact go 13 648 615 hj rfl rfl (by decide) (law_case_13 F hX hbl hbA hL hf hi7 hl hs13 hgo hI hP hS)
      | 14, _, hj => exact go 14 692 659 hj rfl rfl (by decide) (law_case_14 F hX hbl hbA hL hf hi7 hl hs14 hgo hI hP hS)
      | 15, _, hj => exact go 15 716 683 hj rfl rfl (by decide) (law_case_15 F hX hbl hbA hL hf hi7 hl hs15 hgo hI hP hS)
      | 16, _, hj => exact go 16 729 696 hj rfl rfl (by decide) (law_case_16 F hX hbl hbA hL hf hi7 hl hs16 hgo hI hP hS)
      | 17, _, hj => exact go 17 763 730 hj rfl rfl (by decide) (law_case_17 F hX hbl hbA hL hf hi7 hl hs17 hgo hI hP hS)
      | 18, _, hj => exact go 18 807 774 hj rfl rfl (by decide) (law_case_18 F hX hbl hbA hL hf hi7 hl hs18 hgo hI hP hS)
      | 19, _, hj => exact go 19 840 807 hj rfl rfl (by decide) (law_case_19 F hX hbl hbA hL hf hi7 hl hs19 hgo hI hP hS)
      | 20, _, hj => exact go 20 873 840 hj rfl rfl (by decide) (law_case_20 F hX hbl hbA hL hf hi7 hl hs20 hgo hI hP hS)
      | 21, _, hj => exact go 21 896 863 hj rfl rfl (by decide) (law_case_21 F hX hbl hbA hL hf hi7 hl hs21 hgo hI hP hS)
      | 22, _, hj => exact go 22 919 886 hj rfl rfl (by decide) (law_case_22 F hX hbl hbA hL hf hi7 hl hs22 hgo hI hP hS)
      | 23, _, hj => exact go 23 962 929 hj rfl rfl (by decide) (law_case_23 F hX hbl hbA hL hf hi7 hl hs23 hgo hI hP hS)
      | 24, _, hj => exact go 24 1005 972 hj rfl rfl (by decide) (law_case_24 F hX hbl hbA hL hf hi7 hl hs24 hgo hI hP hS)
      | 25, _, hj => exact go 25 1028 995 hj rfl rfl (by decide) (law_case_25 F hX hbl hbA hL hf hi7 hl hs25 hgo hI hP hS)
      | 26, _, hj => exact go 26 1041 1008 hj rfl rfl (by decide) (law_case_26 F hX hbl hbA hL hf hi7 hl hs26 hgo hI hP hS)
      | 27, _, hj => exact go 27 1054 1021 hj rfl rfl (by decide) (law_case_27 F hX hbl hbA hL hf hi7 hl hs27 hgo hI hP hS)
      | 28, _, hj => exact go 28 1077 1044 hj rfl rfl (by decide) (law_case_28 F hX hbl hbA hL hf hi7 hl hs28 hgo hI hP hS)
      | 29, _, hj => exact go 29 1120 1087 hj rfl rfl (by decide) (law_case_29 F hX hbl hbA hL hf hi7 hl hs29 hgo hI hP hS)
      | 30, _, hj => exact go 30 1163 1130 hj rfl rfl (by decide) (law_case_30 F hX hbl hbA hL hf hi7 hl hs30 hgo hI hP hS)
      | 31, _, hj => exact go 31 1226 1193 hj rfl rfl (by decide) (law_case_31 F hX hbl hbA hL hf hi7 hl hs31 hgo hI hP hS)
      | j + 32, hj2, _ => exact absurd hj2 (by omega)
