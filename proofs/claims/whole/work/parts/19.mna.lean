theorem oc_eq (cc : ClassId) (N h0 : Nat) : ∀ i : Nat, Jvm.Free.Multi.outerC cc N h0 i = arrV cc N (fun j => if j < i then .ref (h0 + 1 + j) else .null)
  | 0 => by
    show ({ cls := cc, slots := Array.replicate N .null, vm := .none } : Cell) = _
    rw [arrV_new]
    exact congrArg (arrV cc N) (funext fun j => by simp)
  | i + 1 => by
    show (Jvm.Free.Multi.outerC cc N h0 i).setSlot i (.ref (h0 + 1 + i)) = _
    rw [oc_eq cc N h0 i, arrV_store]
    refine congrArg (arrV cc N) (funext fun j => ?_)
    by_cases e : j = i
    · subst e
      simp [updV]
    · by_cases h : j < i
      · simp [updV, e, h, Nat.lt_succ_of_lt h]
      · simp [updV, e, h, show ¬ j < i + 1 by omega]
section CM
variable {g : En} {p : Program} {l : Launch} {e : Env} {R : Room} {s : State} {m : MethodId} {args : Array Value} {below : List Frame} {meth : Method} {c : Code} {cc : ByteArray} {nL : Nat} {own : String} {Q : State → Prop} {N : Nat} {I : Nat → Nat → Bool} {M : Mem} {k n : Nat} {pc q : Nat} {lv : List (Nat × Value)} {st : List Value}
/-- new int[n1][k1] -/
theorem cz_mna (F : Fc g p s m args meth c cc nL own) {w1 w2 : Int} {n1 k1 idx : Nat} (h1 : w32 w1 = (n1 : Int)) (h2 : w32 w2 = (k1 : Int)) (s1 : n1 < 100) (s2 : k1 < 100) (hkd : kd N = 19) (hln : ln N = n1) (hin : ∀ j, j < n1 → kd (N + 1 + j) = 13 ∧ ln (N + 1 + j) = k1 ∧ rt N j = N + 1 + j) (hcl : Cond.classLink own idx "[[I" ∈ LW) (har : Cond.arrayClass .int ∈ LW)
    {k2 n2 N2 : Nat} (hN : N + (1 + n1) = N2) (hk2 : k + 1 + n1 = k2) (hn2 : n + n1 + n1 * k1 = n2) (hcells : k2 ≤ R.cells) (hslots : n2 ≤ R.slots) (d : decode cc pc = .ok (.multianewarray idx 2, 4)) (hq : pc + 4 = q)
    (kk : CZ g p l e R s m args below meth c nL Q N2 (gI I N) (gM M N (1 + n1)) k2 n2 q lv (.ref (g.2.2.1 + N) :: st)) : CZ g p l e R s m args below meth c nL Q N I M k n pc lv (.int (i3 w2) :: .int (i3 w1) :: st) := by
  subst hN
  subst hk2
  subst hn2
  subst hq
  intro H locs ls hP hS hl T hT Xs
  have e1 : (i3 w1).toNatClampNeg = n1 := by rw [i3_cl]; unfold ix; omega
  have e2 : (i3 w2).toNatClampNeg = k1 := by rw [i3_cl]; unfold ix; omega
  have nn : ∀ z : Int, 0 ≤ w32 z → ¬ i3 z < 0 := fun z h q => by
    have := (i3_lt z 0).mp q
    have e : w32 0 = 0 := rfl
    omega
  obtain ⟨vm₁, cA, comp, hW1, fA, fC, hO, -, X', step⟩ := Xs.multianewarray2F F.1 (ty := .int) F.2.2.2.1 (F.2.2.2.2.1 _ hcl) (show (Cond.arrayOver (.array .int)).before args s = true from F.2.2.2.2.2.1.2.2.2) (F.2.2.2.2.1 _ har) (g := F0 m pc ls (.int (i3 w2) :: .int (i3 w1) :: st)) rfl (by rw [F.2.1]; exact d) (n := i3 w1) (k := i3 w2) (rest := st) rfl (nn w1 (by omega)) (nn w2 (by omega)) (by rw [e1]; omega) (by rw [e2]; show k1 * 4 ≤ _; omega) (by rw [e2]; omega) rfl rfl (by rw [e1]; omega) (by rw [e1, e2]; omega)
  rw [e1, e2] at X' step
  have hcA : cA = g.2.1 6 := Option.some.inj (fA.symm.trans (F.2.2.2.2.2.1.1.2 6 _ rfl).2)
  have hco : comp = g.2.1 0 := Option.some.inj (fC.symm.trans (F.2.2.2.2.2.1.1.2 0 _ rfl).2)
  subst hcA
  subst hco
  have hTh : (T.setVm vm₁).heap = H := hT
  obtain ⟨f1, f2, -, -⟩ := Jvm.Free.Multi.fill_facts (T.setVm vm₁) (g.2.1 6) (g.2.1 0) n1 k1 (defaultValue .int) n1
  have hold : ∀ x : Nat, x < H.size → (Jvm.Free.Multi.fill (T.setVm vm₁) (g.2.1 6) (g.2.1 0) n1 k1 (defaultValue .int) n1).heap[x]? = H[x]? := fun x hx => by
    have := Jvm.Free.Multi.fill_old (T.setVm vm₁) (g.2.1 6) (g.2.1 0) n1 k1 (defaultValue .int) (a := x) (by rw [hTh]; exact hx) n1
    rw [hTh] at this
    exact this
  have hinn : ∀ j : Nat, j < n1 → (Jvm.Free.Multi.fill (T.setVm vm₁) (g.2.1 6) (g.2.1 0) n1 k1 (defaultValue .int) n1).heap[H.size + 1 + j]? = some (arrV (g.2.1 0) k1 (fun _ => .int 0)) := fun j hj => by
    have := Jvm.Free.Multi.fill_inner (T.setVm vm₁) (g.2.1 6) (g.2.1 0) n1 k1 (defaultValue .int) n1 j hj
    rw [hTh] at this
    rw [this]
    exact congrArg some (arrV_new _ _ _)
  rw [hTh] at f1 f2
  rw [oc_eq] at f2
  generalize hF : Jvm.Free.Multi.fill (T.setVm vm₁) (g.2.1 6) (g.2.1 0) n1 k1 (defaultValue .int) n1 = F9 at X' step f1 f2 hold hinn
  have hz : F9.heap.size = H.size + (1 + n1) := by rw [f1]; omega
  have hnew : ∀ a, N ≤ a → a < N + (1 + n1) → va_at g.1 vwCl (g.2.2.1 + a, celC g (gI I N) (gM M N (1 + n1)) a) F9.heap := by
    intro a g1 g2
    by_cases e9 : a = N
    · subst e9
      rw [celC_q (c := 4) hkd]
      show F9.heap[g.2.2.1 + a]? = some (vp_cell _ _)
      rw [← hP.1, f2, vp_cell_q, hln]
      refine congrArg some (arrV_congr (fun j hj => ?_))
      rw [if_pos hj, (hin j hj).2.2, hP.1, if_pos (by simp [gI])]
      exact congrArg Value.ref (show (g.2.2.1 + a + 1 + j : Nat) = g.2.2.1 + (a + 1 + j) by omega)
    · obtain ⟨j, hj, rfl⟩ : ∃ j, j < n1 ∧ a = N + 1 + j := ⟨a - N - 1, by omega, by omega⟩
      rw [celC_i (hin j hj).1]
      show F9.heap[g.2.2.1 + (N + 1 + j)]? = some (vp_cell _ _)
      rw [show g.2.2.1 + (N + 1 + j) = H.size + 1 + j by rw [hP.1]; omega, hinn j hj, vp_cell_i, (hin j hj).2.1]
      refine congrArg some (congrArg (arrV (g.2.1 0) k1) (funext fun x => ?_))
      unfold gM
      rw [if_pos (by omega)]
      rfl
  obtain ⟨t, a1, b1⟩ := kk F9.heap locs ls (hP.new hz hold (fun a ha => celC_congr (fun x => ⟨by simp [gI, Nat.ne_of_lt ha], by unfold gM; rw [if_neg (by omega)]⟩)) hnew) (aB_new F hS (by omega) hold) hl F9 rfl X'
  refine ⟨t, step t ?_, b1⟩
  have e : T.heap.size = g.2.2.1 + N := by rw [hT]; exact hP.1
  rw [e]
  exact a1
end CM
