section ZC
variable {g : En} {p : Program} {l : Launch} {e : Env} {R : Room} {s : State} {m : MethodId} {args : Array Value} {below : List Frame} {meth : Method} {c : Code} {cc : ByteArray} {nL : Nat} {own : String} {Q : State → Prop} {M : Mem} {pc q : Nat} {lv : List (Nat × Value)} {st : List Value}
variable {h : Nat} {y : MethodName} {C : String} {bytes : ByteArray} {maxL n idx : Nat} {ret : Option FieldType} {rm : Room} {As : List Value} {Qc : Array Value → State → Outcome → State → Prop}
def okY (y : MethodName) (n : Nat) : Prop := y.cls ≠ "java/lang/invoke/MethodHandle" ∧ y.cls ≠ "java/lang/invoke/VarHandle" ∧ (parseMethodDescriptor y.desc).map (fun d => d.parameters.length) = some n
/-- a method that can be called on an object, a static one -/
def CV (y : MethodName) (C : String) (bytes : ByteArray) (maxL : Nat) (ret : Option FieldType) (n : Nat) : Prop := Cond.instanceMethod y ∈ LW ∧ Cond.selects C y y ∈ LW ∧ Cond.initialized C ∈ LW ∧ Cond.code y bytes maxL ret ∈ LW ∧ y.cls = C ∧ okY y n
def CS (y : MethodName) (bytes : ByteArray) (maxL : Nat) (ret : Option FieldType) (n : Nat) : Prop := Cond.static y ∈ LW ∧ Cond.initialized y.cls ∈ LW ∧ Cond.code y bytes maxL ret ∈ LW ∧ okY y n
def fitR (rm R : Room) (maxL : Nat) : Prop := rm.cells = 0 ∧ rm.slots = 0 ∧ rm.frames + 1 ≤ R.frames ∧ 8 + (maxL + 11) + rm.locals ≤ R.locals
theorem gw (w : Cond) (h : w ∈ LW) : w ∈ LW ∧ ((w.onTables && w.keeps) = true ∨ ∃ ty, w = .arrayClass ty) := ⟨h, good_of_word (LW_good w h)⟩
theorem gV (cv : CV y C bytes maxL ret n) (hlk : Cond.methodLink own idx y ∈ LW) : GoodIn LW (wsV own idx C y (WS y bytes maxL ret)) := by
  obtain ⟨h1, h2, h3, h4, h5, h6⟩ := cv
  intro w hw
  rcases List.mem_append.mp (show w ∈ ([.methodLink own idx y, .instanceMethod y, .selects C y y, .initialized C] : List Cond) ++ WS y bytes maxL ret from hw) with q | q
  · simp only [List.mem_cons, List.not_mem_nil, or_false] at q
    rcases q with q | q | q | q <;> subst q
    · exact gw _ hlk
    · exact gw _ h1
    · exact gw _ h2
    · exact gw _ h3
  · exact ws_good h4 w q
theorem gS (cs : CS y bytes maxL ret n) (hlk : Cond.methodLink own idx y ∈ LW) : GoodIn LW (va_wsS own idx y (WS y bytes maxL ret)) := by
  obtain ⟨h1, h2, h3, h4⟩ := cs
  intro w hw
  rcases List.mem_append.mp (show w ∈ ([.methodLink own idx y, .static y, .initialized y.cls] : List Cond) ++ WS y bytes maxL ret from hw) with q | q
  · simp only [List.mem_cons, List.not_mem_nil, or_false] at q
    rcases q with q | q | q <;> subst q
    · exact gw _ hlk
    · exact gw _ h1
    · exact gw _ h2
  · exact ws_good h3 w q
theorem z_rV (F : Fx g p s m args meth c cc nL own) (hM : Met l y (WS y bytes maxL ret) rm (va_Pc (.ref (g.2.2.1 + h) :: As) (Rp g M)) Qc 0 0 (aR g)) (cv : CV y C bytes maxL ret n) (hlk : Cond.methodLink own idx y ∈ LW) (hr : fitR rm R maxL)
    {ci : Nat} (kh : kd h = ci) {T : u_T} {N : Nat} (hc : vwCl[ci]? = some (C, T, N)) (hn : As.length = n) (hcat : (st.map fun v => v.category).sum ≤ 8) (d : decode cc pc = .ok (.invokevirtual idx, 3)) {k0 n0 : Nat} (hf : k0 ≤ R.cells ∧ n0 ≤ R.slots) {H : Heap} {locs : List Loc} {ls : Array Slot} (hP : va_P g.1 vwCl (wS g M) H) (hS : va_S (aR g) s.heap H locs) (hl : lv_has ls nL lv) :
    va_Run p l e R s m args below meth c H locs k0 n0 0 0 (F0 m pc ls (As.reverse ++ .ref (g.2.2.1 + h) :: st)) st (Qc (Value.ref (g.2.2.1 + h) :: As).toArray) (aR g) := by
  have hci : ci < 13 := (List.getElem?_eq_some_iff.mp hc).1
  refine va_runV (As := As) (rest := st) ⟨F.1, F.2.1, F.2.2.1, F.2.2.2.1, F.2.2.2.2.1⟩ hM (cwV n F.2.2.2.2.1 (gV cv hlk) rfl hr.1 hr.2.1 ⟨cv.2.2.2.2.1, cv.2.2.2.2.2⟩ ⟨hr.2.2.1, hr.2.2.2⟩) ⟨Rp_blind, ?_, fun U hU hW => ⟨rfl, Fx_Rp F (by rw [hU]; exact hP) hW (by rw [hU]; exact hS)⟩⟩ rfl hn hl.1 rfl (lv_room hcat) d hf
  exact va_recv F.2.2.2.2.2.1 hP hc (q0 := h) (fs := fso g.2.2.1 M h 0 (slt ci)) (by rw [wS_get (kd_lt kh (by omega)), cel_o kh hci])
theorem z_rS (F : Fx g p s m args meth c cc nL own) (hM : Met l y (WS y bytes maxL ret) rm (va_Pc As (Rp g M)) Qc 0 0 (aR g)) (cs : CS y bytes maxL ret n) (hlk : Cond.methodLink own idx y ∈ LW) (hr : fitR rm R maxL)
    (hn : As.length = n) (hcat : (st.map fun v => v.category).sum ≤ 8) (d : decode cc pc = .ok (.invokestatic idx, 3)) {k0 n0 : Nat} (hf : k0 ≤ R.cells ∧ n0 ≤ R.slots) {H : Heap} {locs : List Loc} {ls : Array Slot} (hP : va_P g.1 vwCl (wS g M) H) (hS : va_S (aR g) s.heap H locs) (hl : lv_has ls nL lv) :
    va_Run p l e R s m args below meth c H locs k0 n0 0 0 (F0 m pc ls (As.reverse ++ st)) st (Qc As.toArray) (aR g) := by
  exact va_runS (As := As) (rest := st) ⟨F.1, F.2.1, F.2.2.1, F.2.2.2.1, F.2.2.2.2.1⟩ hM (va_cwS n F.2.2.2.2.1 (gS cs hlk) rfl hr.1 hr.2.1 cs.2.2.2 ⟨hr.2.2.1, hr.2.2.2⟩) ⟨Rp_blind, fun U hU hW => ⟨rfl, Fx_Rp F (by rw [hU]; exact hP) hW (by rw [hU]; exact hS)⟩⟩ rfl hn hl.1 rfl (lv_room hcat) d hf
theorem z_cVi (F : Fx g p s m args meth c cc nL own) {Qp : Int → Mem → Prop} (hM : Met l y (WS y bytes maxL ret) rm (va_Pc (.ref (g.2.2.1 + h) :: As) (Rp g M)) (va_Qi (S := Int × Mem) (fun r u => r = i3 u.1 ∧ (Qp u.1 u.2)) (fun u => Rp g u.2) (aR g)) 0 0 (aR g)) (cv : CV y C bytes maxL ret n) (hlk : Cond.methodLink own idx y ∈ LW) (hr : fitR rm R maxL) {ci : Nat} (kh : kd h = ci) {T : u_T} {N : Nat} (hc : vwCl[ci]? = some (C, T, N)) (hn : As.length = n) (hcat : (st.map fun v => v.category).sum ≤ 8) (d : decode cc pc = .ok (.invokevirtual idx, 3)) (hq : pc + 3 = q) (kk : ∀ (r : Int) (M2 : Mem), Qp r M2 → Z g p l e R s m args below meth c nL Q M2 q lv (.int (i3 r) :: st)) : Z g p l e R s m args below meth c nL Q M pc lv (As.reverse ++ .ref (g.2.2.1 + h) :: st) := by
  subst hq
  intro H locs ls hP hS hl
  refine va_calli (z_rV F hM cv hlk hr kh hc hn hcat d ⟨Nat.zero_le _, Nat.zero_le _⟩ hP hS hl) hS (fun q _ h => h) (fun q h => h) ?_
  intro r u t H1 locs1 ht hvm hp hB _ _ hS1
  obtain ⟨u1, u2⟩ := u
  obtain ⟨hp1, hp2⟩ := hp
  dsimp only at hp1 hp2 hB
  subst hp1
  exact kk u1 u2 hp2 H1 locs1 ls (by rw [← ht]; exact hB.1) hS1 hl
theorem z_cVip (F : Fx g p s m args meth c cc nL own) {Qp : Int → Prop} (hM : Met l y (WS y bytes maxL ret) rm (va_Pc (.ref (g.2.2.1 + h) :: As) (Rp g M)) (va_Qi (S := Int × Mem) (fun r u => r = i3 u.1 ∧ (u.2 = M ∧ Qp u.1)) (fun u => Rp g u.2) (aR g)) 0 0 (aR g)) (cv : CV y C bytes maxL ret n) (hlk : Cond.methodLink own idx y ∈ LW) (hr : fitR rm R maxL) {ci : Nat} (kh : kd h = ci) {T : u_T} {N : Nat} (hc : vwCl[ci]? = some (C, T, N)) (hn : As.length = n) (hcat : (st.map fun v => v.category).sum ≤ 8) (d : decode cc pc = .ok (.invokevirtual idx, 3)) (hq : pc + 3 = q) (kk : ∀ r : Int, Qp r → Z g p l e R s m args below meth c nL Q M q lv (.int (i3 r) :: st)) : Z g p l e R s m args below meth c nL Q M pc lv (As.reverse ++ .ref (g.2.2.1 + h) :: st) := by
  subst hq
  intro H locs ls hP hS hl
  refine va_calli (z_rV F hM cv hlk hr kh hc hn hcat d ⟨Nat.zero_le _, Nat.zero_le _⟩ hP hS hl) hS (fun q _ h => h) (fun q h => h) ?_
  intro r u t H1 locs1 ht hvm hp hB _ _ hS1
  obtain ⟨u1, u2⟩ := u
  obtain ⟨hp1, hp2⟩ := hp
  dsimp only at hp1 hp2 hB
  subst hp1
  obtain ⟨hp3, hp2⟩ := hp2
  subst hp3
  exact kk u1 hp2 H1 locs1 ls (by rw [← ht]; exact hB.1) hS1 hl
theorem z_cVb (F : Fx g p s m args meth c cc nL own) {Qp : Bool → Mem → Prop} (hM : Met l y (WS y bytes maxL ret) rm (va_Pc (.ref (g.2.2.1 + h) :: As) (Rp g M)) (va_Qi (S := Bool × Mem) (fun r u => r = i3 (bz u.1) ∧ (Qp u.1 u.2)) (fun u => Rp g u.2) (aR g)) 0 0 (aR g)) (cv : CV y C bytes maxL ret n) (hlk : Cond.methodLink own idx y ∈ LW) (hr : fitR rm R maxL) {ci : Nat} (kh : kd h = ci) {T : u_T} {N : Nat} (hc : vwCl[ci]? = some (C, T, N)) (hn : As.length = n) (hcat : (st.map fun v => v.category).sum ≤ 8) (d : decode cc pc = .ok (.invokevirtual idx, 3)) (hq : pc + 3 = q) (kk : ∀ (r : Bool) (M2 : Mem), Qp r M2 → Z g p l e R s m args below meth c nL Q M2 q lv (.int (i3 (bz r)) :: st)) : Z g p l e R s m args below meth c nL Q M pc lv (As.reverse ++ .ref (g.2.2.1 + h) :: st) := by
  subst hq
  intro H locs ls hP hS hl
  refine va_calli (z_rV F hM cv hlk hr kh hc hn hcat d ⟨Nat.zero_le _, Nat.zero_le _⟩ hP hS hl) hS (fun q _ h => h) (fun q h => h) ?_
  intro r u t H1 locs1 ht hvm hp hB _ _ hS1
  obtain ⟨u1, u2⟩ := u
  obtain ⟨hp1, hp2⟩ := hp
  dsimp only at hp1 hp2 hB
  subst hp1
  exact kk u1 u2 hp2 H1 locs1 ls (by rw [← ht]; exact hB.1) hS1 hl
theorem z_cVbp (F : Fx g p s m args meth c cc nL own) {Qp : Bool → Prop} (hM : Met l y (WS y bytes maxL ret) rm (va_Pc (.ref (g.2.2.1 + h) :: As) (Rp g M)) (va_Qi (S := Bool × Mem) (fun r u => r = i3 (bz u.1) ∧ (u.2 = M ∧ Qp u.1)) (fun u => Rp g u.2) (aR g)) 0 0 (aR g)) (cv : CV y C bytes maxL ret n) (hlk : Cond.methodLink own idx y ∈ LW) (hr : fitR rm R maxL) {ci : Nat} (kh : kd h = ci) {T : u_T} {N : Nat} (hc : vwCl[ci]? = some (C, T, N)) (hn : As.length = n) (hcat : (st.map fun v => v.category).sum ≤ 8) (d : decode cc pc = .ok (.invokevirtual idx, 3)) (hq : pc + 3 = q) (kk : ∀ r : Bool, Qp r → Z g p l e R s m args below meth c nL Q M q lv (.int (i3 (bz r)) :: st)) : Z g p l e R s m args below meth c nL Q M pc lv (As.reverse ++ .ref (g.2.2.1 + h) :: st) := by
  subst hq
  intro H locs ls hP hS hl
  refine va_calli (z_rV F hM cv hlk hr kh hc hn hcat d ⟨Nat.zero_le _, Nat.zero_le _⟩ hP hS hl) hS (fun q _ h => h) (fun q h => h) ?_
  intro r u t H1 locs1 ht hvm hp hB _ _ hS1
  obtain ⟨u1, u2⟩ := u
  obtain ⟨hp1, hp2⟩ := hp
  dsimp only at hp1 hp2 hB
  subst hp1
  obtain ⟨hp3, hp2⟩ := hp2
  subst hp3
  exact kk u1 hp2 H1 locs1 ls (by rw [← ht]; exact hB.1) hS1 hl
theorem z_cVl (F : Fx g p s m args meth c cc nL own) {Qp : Int → Mem → Prop} (hM : Met l y (WS y bytes maxL ret) rm (va_Pc (.ref (g.2.2.1 + h) :: As) (Rp g M)) (va_Ql (S := Int × Mem) (fun r u => r = i6 u.1 ∧ (Qp u.1 u.2)) (fun u => Rp g u.2) (aR g)) 0 0 (aR g)) (cv : CV y C bytes maxL ret n) (hlk : Cond.methodLink own idx y ∈ LW) (hr : fitR rm R maxL) {ci : Nat} (kh : kd h = ci) {T : u_T} {N : Nat} (hc : vwCl[ci]? = some (C, T, N)) (hn : As.length = n) (hcat : (st.map fun v => v.category).sum ≤ 8) (d : decode cc pc = .ok (.invokevirtual idx, 3)) (hq : pc + 3 = q) (kk : ∀ (r : Int) (M2 : Mem), Qp r M2 → Z g p l e R s m args below meth c nL Q M2 q lv (.long (i6 r) :: st)) : Z g p l e R s m args below meth c nL Q M pc lv (As.reverse ++ .ref (g.2.2.1 + h) :: st) := by
  subst hq
  intro H locs ls hP hS hl
  refine va_calll (z_rV F hM cv hlk hr kh hc hn hcat d ⟨Nat.zero_le _, Nat.zero_le _⟩ hP hS hl) hS (fun q _ h => h) (fun q h => h) ?_
  intro r u t H1 locs1 ht hvm hp hB _ _ hS1
  obtain ⟨u1, u2⟩ := u
  obtain ⟨hp1, hp2⟩ := hp
  dsimp only at hp1 hp2 hB
  subst hp1
  exact kk u1 u2 hp2 H1 locs1 ls (by rw [← ht]; exact hB.1) hS1 hl
theorem z_cVlp (F : Fx g p s m args meth c cc nL own) {Qp : Int → Prop} (hM : Met l y (WS y bytes maxL ret) rm (va_Pc (.ref (g.2.2.1 + h) :: As) (Rp g M)) (va_Ql (S := Int × Mem) (fun r u => r = i6 u.1 ∧ (u.2 = M ∧ Qp u.1)) (fun u => Rp g u.2) (aR g)) 0 0 (aR g)) (cv : CV y C bytes maxL ret n) (hlk : Cond.methodLink own idx y ∈ LW) (hr : fitR rm R maxL) {ci : Nat} (kh : kd h = ci) {T : u_T} {N : Nat} (hc : vwCl[ci]? = some (C, T, N)) (hn : As.length = n) (hcat : (st.map fun v => v.category).sum ≤ 8) (d : decode cc pc = .ok (.invokevirtual idx, 3)) (hq : pc + 3 = q) (kk : ∀ r : Int, Qp r → Z g p l e R s m args below meth c nL Q M q lv (.long (i6 r) :: st)) : Z g p l e R s m args below meth c nL Q M pc lv (As.reverse ++ .ref (g.2.2.1 + h) :: st) := by
  subst hq
  intro H locs ls hP hS hl
  refine va_calll (z_rV F hM cv hlk hr kh hc hn hcat d ⟨Nat.zero_le _, Nat.zero_le _⟩ hP hS hl) hS (fun q _ h => h) (fun q h => h) ?_
  intro r u t H1 locs1 ht hvm hp hB _ _ hS1
  obtain ⟨u1, u2⟩ := u
  obtain ⟨hp1, hp2⟩ := hp
  dsimp only at hp1 hp2 hB
  subst hp1
  obtain ⟨hp3, hp2⟩ := hp2
  subst hp3
  exact kk u1 hp2 H1 locs1 ls (by rw [← ht]; exact hB.1) hS1 hl
theorem z_cVv (F : Fx g p s m args meth c cc nL own) {Qp : Mem → Prop} (hM : Met l y (WS y bytes maxL ret) rm (va_Pc (.ref (g.2.2.1 + h) :: As) (Rp g M)) (va_Qv (S := Mem) Qp (fun u => Rp g u) (aR g)) 0 0 (aR g)) (cv : CV y C bytes maxL ret n) (hlk : Cond.methodLink own idx y ∈ LW) (hr : fitR rm R maxL) {ci : Nat} (kh : kd h = ci) {T : u_T} {N : Nat} (hc : vwCl[ci]? = some (C, T, N)) (hn : As.length = n) (hcat : (st.map fun v => v.category).sum ≤ 8) (d : decode cc pc = .ok (.invokevirtual idx, 3)) (hq : pc + 3 = q) (kk : ∀ M2 : Mem, Qp M2 → Z g p l e R s m args below meth c nL Q M2 q lv (st)) : Z g p l e R s m args below meth c nL Q M pc lv (As.reverse ++ .ref (g.2.2.1 + h) :: st) := by
  subst hq
  intro H locs ls hP hS hl
  refine va_callv (z_rV F hM cv hlk hr kh hc hn hcat d ⟨Nat.zero_le _, Nat.zero_le _⟩ hP hS hl) hS (fun q _ h => h) (fun q h => h) ?_
  intro u t H1 locs1 ht hvm hp hB _ _ hS1
  exact kk u hp H1 locs1 ls (by rw [← ht]; exact hB.1) hS1 hl
theorem z_cSi (F : Fx g p s m args meth c cc nL own) {Qp : Int → Mem → Prop} (hM : Met l y (WS y bytes maxL ret) rm (va_Pc As (Rp g M)) (va_Qi (S := Int × Mem) (fun r u => r = i3 u.1 ∧ (Qp u.1 u.2)) (fun u => Rp g u.2) (aR g)) 0 0 (aR g)) (cs : CS y bytes maxL ret n) (hlk : Cond.methodLink own idx y ∈ LW) (hr : fitR rm R maxL) (hn : As.length = n) (hcat : (st.map fun v => v.category).sum ≤ 8) (d : decode cc pc = .ok (.invokestatic idx, 3)) (hq : pc + 3 = q) (kk : ∀ (r : Int) (M2 : Mem), Qp r M2 → Z g p l e R s m args below meth c nL Q M2 q lv (.int (i3 r) :: st)) : Z g p l e R s m args below meth c nL Q M pc lv (As.reverse ++ st) := by
  subst hq
  intro H locs ls hP hS hl
  refine va_calli (z_rS F hM cs hlk hr hn hcat d ⟨Nat.zero_le _, Nat.zero_le _⟩ hP hS hl) hS (fun q _ h => h) (fun q h => h) ?_
  intro r u t H1 locs1 ht hvm hp hB _ _ hS1
  obtain ⟨u1, u2⟩ := u
  obtain ⟨hp1, hp2⟩ := hp
  dsimp only at hp1 hp2 hB
  subst hp1
  exact kk u1 u2 hp2 H1 locs1 ls (by rw [← ht]; exact hB.1) hS1 hl
theorem z_cSip (F : Fx g p s m args meth c cc nL own) {Qp : Int → Prop} (hM : Met l y (WS y bytes maxL ret) rm (va_Pc As (Rp g M)) (va_Qi (S := Int × Mem) (fun r u => r = i3 u.1 ∧ (u.2 = M ∧ Qp u.1)) (fun u => Rp g u.2) (aR g)) 0 0 (aR g)) (cs : CS y bytes maxL ret n) (hlk : Cond.methodLink own idx y ∈ LW) (hr : fitR rm R maxL) (hn : As.length = n) (hcat : (st.map fun v => v.category).sum ≤ 8) (d : decode cc pc = .ok (.invokestatic idx, 3)) (hq : pc + 3 = q) (kk : ∀ r : Int, Qp r → Z g p l e R s m args below meth c nL Q M q lv (.int (i3 r) :: st)) : Z g p l e R s m args below meth c nL Q M pc lv (As.reverse ++ st) := by
  subst hq
  intro H locs ls hP hS hl
  refine va_calli (z_rS F hM cs hlk hr hn hcat d ⟨Nat.zero_le _, Nat.zero_le _⟩ hP hS hl) hS (fun q _ h => h) (fun q h => h) ?_
  intro r u t H1 locs1 ht hvm hp hB _ _ hS1
  obtain ⟨u1, u2⟩ := u
  obtain ⟨hp1, hp2⟩ := hp
  dsimp only at hp1 hp2 hB
  subst hp1
  obtain ⟨hp3, hp2⟩ := hp2
  subst hp3
  exact kk u1 hp2 H1 locs1 ls (by rw [← ht]; exact hB.1) hS1 hl
theorem z_cSb (F : Fx g p s m args meth c cc nL own) {Qp : Bool → Mem → Prop} (hM : Met l y (WS y bytes maxL ret) rm (va_Pc As (Rp g M)) (va_Qi (S := Bool × Mem) (fun r u => r = i3 (bz u.1) ∧ (Qp u.1 u.2)) (fun u => Rp g u.2) (aR g)) 0 0 (aR g)) (cs : CS y bytes maxL ret n) (hlk : Cond.methodLink own idx y ∈ LW) (hr : fitR rm R maxL) (hn : As.length = n) (hcat : (st.map fun v => v.category).sum ≤ 8) (d : decode cc pc = .ok (.invokestatic idx, 3)) (hq : pc + 3 = q) (kk : ∀ (r : Bool) (M2 : Mem), Qp r M2 → Z g p l e R s m args below meth c nL Q M2 q lv (.int (i3 (bz r)) :: st)) : Z g p l e R s m args below meth c nL Q M pc lv (As.reverse ++ st) := by
  subst hq
  intro H locs ls hP hS hl
  refine va_calli (z_rS F hM cs hlk hr hn hcat d ⟨Nat.zero_le _, Nat.zero_le _⟩ hP hS hl) hS (fun q _ h => h) (fun q h => h) ?_
  intro r u t H1 locs1 ht hvm hp hB _ _ hS1
  obtain ⟨u1, u2⟩ := u
  obtain ⟨hp1, hp2⟩ := hp
  dsimp only at hp1 hp2 hB
  subst hp1
  exact kk u1 u2 hp2 H1 locs1 ls (by rw [← ht]; exact hB.1) hS1 hl
theorem z_cSbp (F : Fx g p s m args meth c cc nL own) {Qp : Bool → Prop} (hM : Met l y (WS y bytes maxL ret) rm (va_Pc As (Rp g M)) (va_Qi (S := Bool × Mem) (fun r u => r = i3 (bz u.1) ∧ (u.2 = M ∧ Qp u.1)) (fun u => Rp g u.2) (aR g)) 0 0 (aR g)) (cs : CS y bytes maxL ret n) (hlk : Cond.methodLink own idx y ∈ LW) (hr : fitR rm R maxL) (hn : As.length = n) (hcat : (st.map fun v => v.category).sum ≤ 8) (d : decode cc pc = .ok (.invokestatic idx, 3)) (hq : pc + 3 = q) (kk : ∀ r : Bool, Qp r → Z g p l e R s m args below meth c nL Q M q lv (.int (i3 (bz r)) :: st)) : Z g p l e R s m args below meth c nL Q M pc lv (As.reverse ++ st) := by
  subst hq
  intro H locs ls hP hS hl
  refine va_calli (z_rS F hM cs hlk hr hn hcat d ⟨Nat.zero_le _, Nat.zero_le _⟩ hP hS hl) hS (fun q _ h => h) (fun q h => h) ?_
  intro r u t H1 locs1 ht hvm hp hB _ _ hS1
  obtain ⟨u1, u2⟩ := u
  obtain ⟨hp1, hp2⟩ := hp
  dsimp only at hp1 hp2 hB
  subst hp1
  obtain ⟨hp3, hp2⟩ := hp2
  subst hp3
  exact kk u1 hp2 H1 locs1 ls (by rw [← ht]; exact hB.1) hS1 hl
theorem z_cSl (F : Fx g p s m args meth c cc nL own) {Qp : Int → Mem → Prop} (hM : Met l y (WS y bytes maxL ret) rm (va_Pc As (Rp g M)) (va_Ql (S := Int × Mem) (fun r u => r = i6 u.1 ∧ (Qp u.1 u.2)) (fun u => Rp g u.2) (aR g)) 0 0 (aR g)) (cs : CS y bytes maxL ret n) (hlk : Cond.methodLink own idx y ∈ LW) (hr : fitR rm R maxL) (hn : As.length = n) (hcat : (st.map fun v => v.category).sum ≤ 8) (d : decode cc pc = .ok (.invokestatic idx, 3)) (hq : pc + 3 = q) (kk : ∀ (r : Int) (M2 : Mem), Qp r M2 → Z g p l e R s m args below meth c nL Q M2 q lv (.long (i6 r) :: st)) : Z g p l e R s m args below meth c nL Q M pc lv (As.reverse ++ st) := by
  subst hq
  intro H locs ls hP hS hl
  refine va_calll (z_rS F hM cs hlk hr hn hcat d ⟨Nat.zero_le _, Nat.zero_le _⟩ hP hS hl) hS (fun q _ h => h) (fun q h => h) ?_
  intro r u t H1 locs1 ht hvm hp hB _ _ hS1
  obtain ⟨u1, u2⟩ := u
  obtain ⟨hp1, hp2⟩ := hp
  dsimp only at hp1 hp2 hB
  subst hp1
  exact kk u1 u2 hp2 H1 locs1 ls (by rw [← ht]; exact hB.1) hS1 hl
theorem z_cSlp (F : Fx g p s m args meth c cc nL own) {Qp : Int → Prop} (hM : Met l y (WS y bytes maxL ret) rm (va_Pc As (Rp g M)) (va_Ql (S := Int × Mem) (fun r u => r = i6 u.1 ∧ (u.2 = M ∧ Qp u.1)) (fun u => Rp g u.2) (aR g)) 0 0 (aR g)) (cs : CS y bytes maxL ret n) (hlk : Cond.methodLink own idx y ∈ LW) (hr : fitR rm R maxL) (hn : As.length = n) (hcat : (st.map fun v => v.category).sum ≤ 8) (d : decode cc pc = .ok (.invokestatic idx, 3)) (hq : pc + 3 = q) (kk : ∀ r : Int, Qp r → Z g p l e R s m args below meth c nL Q M q lv (.long (i6 r) :: st)) : Z g p l e R s m args below meth c nL Q M pc lv (As.reverse ++ st) := by
  subst hq
  intro H locs ls hP hS hl
  refine va_calll (z_rS F hM cs hlk hr hn hcat d ⟨Nat.zero_le _, Nat.zero_le _⟩ hP hS hl) hS (fun q _ h => h) (fun q h => h) ?_
  intro r u t H1 locs1 ht hvm hp hB _ _ hS1
  obtain ⟨u1, u2⟩ := u
  obtain ⟨hp1, hp2⟩ := hp
  dsimp only at hp1 hp2 hB
  subst hp1
  obtain ⟨hp3, hp2⟩ := hp2
  subst hp3
  exact kk u1 hp2 H1 locs1 ls (by rw [← ht]; exact hB.1) hS1 hl
theorem z_cSv (F : Fx g p s m args meth c cc nL own) {Qp : Mem → Prop} (hM : Met l y (WS y bytes maxL ret) rm (va_Pc As (Rp g M)) (va_Qv (S := Mem) Qp (fun u => Rp g u) (aR g)) 0 0 (aR g)) (cs : CS y bytes maxL ret n) (hlk : Cond.methodLink own idx y ∈ LW) (hr : fitR rm R maxL) (hn : As.length = n) (hcat : (st.map fun v => v.category).sum ≤ 8) (d : decode cc pc = .ok (.invokestatic idx, 3)) (hq : pc + 3 = q) (kk : ∀ M2 : Mem, Qp M2 → Z g p l e R s m args below meth c nL Q M2 q lv (st)) : Z g p l e R s m args below meth c nL Q M pc lv (As.reverse ++ st) := by
  subst hq
  intro H locs ls hP hS hl
  refine va_callv (z_rS F hM cs hlk hr hn hcat d ⟨Nat.zero_le _, Nat.zero_le _⟩ hP hS hl) hS (fun q _ h => h) (fun q h => h) ?_
  intro u t H1 locs1 ht hvm hp hB _ _ hS1
  exact kk u hp H1 locs1 ls (by rw [← ht]; exact hB.1) hS1 hl
theorem z_nmM (kk : ∀ M2 : Mem, M2 = M → Z g p l e R s m args below meth c nL Q M2 pc lv st) : Z g p l e R s m args below meth c nL Q M pc lv st := kk M rfl
theorem z_nmI {x : Int} (kk : ∀ v : Int, v = x → Z g p l e R s m args below meth c nL Q M pc lv (.int (i3 v) :: st)) : Z g p l e R s m args below meth c nL Q M pc lv (.int (i3 x) :: st) := kk x rfl
theorem z_nmL {x : Int} (kk : ∀ v : Int, v = x → Z g p l e R s m args below meth c nL Q M pc lv (.long (i6 v) :: st)) : Z g p l e R s m args below meth c nL Q M pc lv (.long (i6 x) :: st) := kk x rfl
theorem z_at (h : pc = q) (kk : Z g p l e R s m args below meth c nL Q M q lv st) : Z g p l e R s m args below meth c nL Q M pc lv st := h ▸ kk
theorem z_swcase (F : Fx g p s m args meth c cc nL own) {dflt lo hi : Int} {offs : Array Int} {len : Nat} {x : Int} (v : Int) {o : Int} {t : Nat} (d : decode cc pc = .ok (.tableswitch dflt lo hi offs, len)) (hv : w32 x = v) (h1 : lo ≤ v) (h2 : v ≤ hi) (ho : offs[(v - lo).toNat]? = some o) (ht : (pc : Int) + o = (t : Int)) (kk : Z g p l e R s m args below meth c nL Q M t lv st) : Z g p l e R s m args below meth c nL Q M pc lv (.int (i3 x) :: st) := by
  intro H locs ls hP hS hl
  exact lv_tableIn F.1 F.2.1 d (by rw [i3_toInt]; omega) (by rw [i3_toInt]; omega) (by rw [i3_toInt, hv]; exact ho) ht (kk H locs ls hP hS hl)
theorem z_swout (F : Fx g p s m args meth c cc nL own) {dflt lo hi : Int} {offs : Array Int} {len : Nat} {x : Int} {t : Nat} (d : decode cc pc = .ok (.tableswitch dflt lo hi offs, len)) (h : w32 x < lo ∨ hi < w32 x) (ht : (pc : Int) + dflt = (t : Int)) (kk : Z g p l e R s m args below meth c nL Q M t lv st) : Z g p l e R s m args below meth c nL Q M pc lv (.int (i3 x) :: st) := by
  intro H locs ls hP hS hl
  exact lv_tableOut F.1 F.2.1 d (by rw [i3_toInt]; exact h) ht (kk H locs ls hP hS hl)
/-- a method's contract out of its walk -/
theorem ofWF {ws ws' : List Cond} {Pc : Array Value → State → Prop} {mc ms : Nat} {free : Addr → Prop} {cd : ByteArray}
    (hy : plainFor y = true) (hw : ws = Cond.code y cd maxL ret :: ws')
    (body : ∀ p e s m args below meth c s₁, BodyLoose p l y (headSpec ws rm) cd maxL ret e s m args below meth c s₁ → c.maxLocals = maxL → Pc args s →
      W p l e (headSpec ws rm).room s m args below meth c s.heap [] 0 0 (MQ below Qc args s mc ms free) (entryFrame m args maxL)) : Met l y ws rm Pc Qc mc ms free := by
  refine MetFree.of_bodySF (code := cd) (maxLocals := maxL) (ret := ret) hy ?_ ?_
  · intro args s m h hn
    obtain ⟨meth, c, h1, h2, h3, h4, h5, h6, -, -⟩ := Cond.code_spec hn (atoms_spec (ws := ws) h _ (by rw [hw]; exact List.mem_cons_self))
    exact ⟨meth, c, h1, h2, h3, h4, h5, h6⟩
  · intro p e s m args below meth c s₁ B hml hP _
    have hh0 : s₁.heap = s.heap := by rw [B.state]; rfl
    obtain ⟨t, a1, o, b1, b2, b3⟩ := body p e s m args below meth c s₁ B hml hP s₁ hh0 (Stand.of_body B)
    exact ⟨t, o, a1, b1, b2, ⟨b3.1, b3.2⟩⟩
theorem met_Z {av : List Value} (hplain : plainFor y = true) (hlen : (lg_sl av).length ≤ maxL) (hz : ∀ (p : Program) (e : Env) (s : State) (m : MethodId) (args : Array Value) (below : List Frame) (meth : Method) (c : Code), Fx g p s m args meth c bytes maxL y.cls → meth.sig.returnType = ret → args = av.toArray → Z g p l e rm s m args below meth c maxL (MQ below Qc args s 0 0 (aR g)) M 0 (lv_args 0 av) []) :
    Met l y (WS y bytes maxL ret) rm (va_Pc av (Rp g M)) Qc 0 0 (aR g) := by
  refine ofWF (cd := bytes) (maxL := maxL) (ret := ret) hplain rfl ?_
  intro p e s m args below meth c s₁ B hml hv
  obtain ⟨rfl, hP, hK, hZ, hT, hN⟩ := hv
  have hts : ∀ w ∈ WS y bytes maxL ret, w.before av.toArray s = true := atoms_spec (ws := WS y bytes maxL ret) B.pre
  have F : Fx g p s m av.toArray meth c bytes maxL y.cls := ⟨B.exec, B.bytes, hml, findClass_of_methodNamed B.named, fun w hw => hts w (List.mem_cons_of_mem _ hw), hK, B.notSynchronized, hZ, hT, hN⟩
  have hl := lv_entry av (n := maxL) hlen
  rw [lg_entry_eq]
  exact hz p e s m av.toArray below meth c F B.returns rfl s.heap [] _ hP va_S.rf hl
def cpy (M : Mem) (a0 sp a1 dp n : Nat) : Mem := fun a j => if a = a1 ∧ dp ≤ j ∧ j < dp + n then M a0 (sp + (j - dp)) else M a j
theorem z_copy (F : Fx g p s m args meth c cc nL own) {a0 a1 : Nat} {sp dp k : Int} {A : Prop} (k0 : kd a0 = 13) (k1 : kd a1 = 13) (hlk : Cond.methodLink own idx arraycopyName ∈ LW) (hna : Cond.native arraycopyName ∈ LW) (hst : Cond.static arraycopyName ∈ LW) (hin : Cond.initialized "java/lang/System" ∈ LW)
    (hfr : 1 ≤ R.frames) (hlo : (st.map fun v => v.category).sum + (nativeFrameWords "java/lang/System" "arraycopy" 5 + 11) ≤ R.locals) (d : decode cc pc = .ok (.invokestatic idx, 3)) (hq : pc + 3 = q)
    (hw : (0 ≤ w32 sp ∧ 0 ≤ w32 dp ∧ 0 ≤ w32 k ∧ w32 sp + w32 k ≤ ln a0 ∧ w32 dp + w32 k ≤ ln a1) ∧ A) (kk : A → Z g p l e R s m args below meth c nL Q (cpy M a0 (ix sp) a1 (ix dp) (ix k)) q lv st) : Z g p l e R s m args below meth c nL Q M pc lv (.int (i3 k) :: .int (i3 dp) :: .ref (g.2.2.1 + a1) :: .int (i3 sp) :: .ref (g.2.2.1 + a0) :: st) := by
  subst hq
  intro H locs ls hP hS hl
  obtain ⟨⟨h1, h2, h3, h4, h5⟩, hA⟩ := hw
  have nn : ∀ z : Int, 0 ≤ w32 z → ¬ i3 z < 0 := fun z h q => by
    have := (i3_lt z 0).mp q
    have e : w32 0 = 0 := rfl
    omega
  have lt0 : a0 < NN := kd_lt k0 (by omega)
  have lt1 : a1 < NN := kd_lt k1 (by omega)
  have ec : ∀ z : Int, 0 ≤ w32 z → ((ix z : Nat) : Int) = w32 z := fun z h => by unfold ix; omega
  refine va_copyi F.1 F.2.1 (F.2.2.1.trans hl.1.symm) F.2.2.2.1 (F.2.2.2.2.1 _ hlk) (F.2.2.2.2.1 _ hna) (F.2.2.2.2.1 _ hst) (F.2.2.2.2.1 _ hin) F.2.2.2.2.2.1 hP (wS_D g M) hS a0 a1 0 0 (c0 := g.2.1 0) (c1 := g.2.1 0) (n0 := ln a0) (n1 := ln a1) (f := fun j => i3 (M a0 j)) (g := fun j => i3 (M a1 j)) (ty := .int) ?_ ?_ rfl rfl rfl (nn sp h1) (nn dp h2) (nn k h3) ?_ ?_ (fun i _ => rfl) hfr hlo d (fun H1 locs1 hP1 _ hS1 => ?_)
  · rw [wS_get lt0, cel_i k0]
  · rw [wS_get lt1, cel_i k1]
  · rw [i3_cl, i3_cl]
    have := ec sp h1
    have := ec k h3
    omega
  · rw [i3_cl, i3_cl]
    have := ec dp h2
    have := ec k h3
    omega
  · have e : (wS g M).set a1 (g.2.2.1 + a1, .inl (g.2.1 0, ln a1, .inl (va_cpy (fun j => i3 (M a0 j)) (fun j => i3 (M a1 j)) (i3 sp).toNatClampNeg (i3 dp).toNatClampNeg (i3 k).toNatClampNeg))) = wS g (cpy M a0 (ix sp) a1 (ix dp) (ix k)) := by
      have e2 : va_cpy (fun j => i3 (M a0 j)) (fun j => i3 (M a1 j)) (i3 sp).toNatClampNeg (i3 dp).toNatClampNeg (i3 k).toNatClampNeg = fun j => i3 (cpy M a0 (ix sp) a1 (ix dp) (ix k) a1 j) := by
        funext j
        rw [i3_cl, i3_cl, i3_cl]
        by_cases hj : ix dp ≤ j ∧ j < ix dp + ix k <;> simp [va_cpy, cpy, hj]
      rw [e2, ← cel_i k1 (g := g) (M := cpy M a0 (ix sp) a1 (ix dp) (ix k))]
      exact wS_set (fun a ha => cel_congr (fun x => by simp [cpy, ha]))
    rw [e] at hP1
    exact kk hA H1 locs1 ls hP1 hS1 hl
end ZC
