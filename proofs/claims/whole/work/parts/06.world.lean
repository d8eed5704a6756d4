
/-! the fixed world: cells by their order of making; what each is; where its references lead -/
def KT : List (Nat × Nat) := [(11, 18), (1, 5), (2, 3), (13, 61), (2, 3), (13, 61), (2, 3), (13, 61), (15, 5), (0, 7), (0, 7), (0, 7), (0, 7), (0, 7), (1, 5), (2, 3), (13, 61), (2, 3), (13, 61), (2, 3), (13, 61), (15, 5), (0, 7), (0, 7), (0, 7), (0, 7), (0, 7), (8, 11), (13, 5), (13, 5), (13, 5), (13, 5), (13, 61), (13, 61), (19, 5), (13, 61), (13, 61), (13, 61), (13, 61), (13, 61), (19, 5), (13, 5), (13, 5), (13, 5), (13, 5), (13, 5), (13, 5), (13, 5), (8, 11), (13, 5), (13, 5), (13, 5), (13, 5), (13, 61), (13, 61), (19, 5), (13, 61), (13, 61), (13, 61), (13, 61), (13, 61), (19, 5), (13, 5), (13, 5), (13, 5), (13, 5), (13, 5), (13, 5), (13, 5), (13, 5), (13, 5), (13, 5), (13, 5), (10, 7), (4, 3), (4, 3), (4, 3), (16, 5), (4, 3), (4, 3), (4, 3), (4, 3), (4, 3), (4, 3), (4, 3), (4, 3), (4, 3), (3, 9), (7, 3), (4, 3), (16, 5), (4, 3), (4, 3), (4, 3), (4, 3), (4, 3), (17, 9), (13, 5), (4, 3), (4, 3), (4, 3), (4, 3), (7, 3), (4, 3), (16, 5), (4, 3), (4, 3), (4, 3), (4, 3), (4, 3), (7, 3), (4, 3), (16, 5), (4, 3), (4, 3), (4, 3), (4, 3), (4, 3), (7, 3), (4, 3), (16, 5), (4, 3), (4, 3), (4, 3), (4, 3), (4, 3), (7, 3), (4, 3), (16, 5), (4, 3), (4, 3), (4, 3), (4, 3), (4, 3), (7, 3), (4, 3), (16, 5), (4, 3), (4, 3), (4, 3), (4, 3), (4, 3), (7, 3), (4, 3), (16, 5), (4, 3), (4, 3), (4, 3), (4, 3), (4, 3), (7, 3), (4, 3), (16, 5), (4, 3), (4, 3), (4, 3), (4, 3), (4, 3), (7, 3), (4, 3), (16, 5), (4, 3), (4, 3), (4, 3), (4, 3), (4, 3), (7, 3), (4, 3), (16, 5), (4, 3), (4, 3), (4, 3), (4, 3), (4, 3), (5, 4), (13, 5), (13, 5), (6, 7), (14, 5), (14, 5), (18, 4), (9, 3), (13, 40), (9, 3), (13, 40), (9, 3), (13, 40), (9, 3), (13, 40), (12, 34), (13, 61), (13, 61), (13, 61), (13, 35), (13, 5), (13, 5), (13, 9), (13, 5), (14, 10), (14, 10), (14, 50), (14, 50), (14, 6), (14, 6), (13, 5), (13, 5), (14, 5), (14, 5), (13, 218), (13, 4), (13, 4), (13, 160)]
def RT : List (List Nat) := [[1, 14, 0, 27, 48, 0, 69, 70, 71, 72, 73, 86, 87, 0, 0, 174, 177, 180], [2, 4, 6, 8], [3], [], [5], [], [7], [], [9, 10, 11, 12, 13], [], [], [], [], [], [15, 17, 19, 21], [16], [], [18], [], [20], [], [22, 23, 24, 25, 26], [], [], [], [], [], [0, 28, 29, 30, 31, 32, 33, 34, 40, 46, 47], [], [], [], [], [], [], [35, 36, 37, 38, 39], [], [], [], [], [], [41, 42, 43, 44, 45], [], [], [], [], [], [], [], [0, 49, 50, 51, 52, 53, 54, 55, 61, 67, 68], [], [], [], [], [], [], [56, 57, 58, 59, 60], [], [], [], [], [], [62, 63, 64, 65, 66], [], [], [], [], [], [], [], [], [], [], [], [74, 75, 76, 77, 78, 79, 80], [], [], [], [81, 82, 83, 84, 85], [], [], [], [], [], [], [], [], [], [88, 96, 0, 97, 0, 98, 99, 100, 101], [0, 89, 90], [], [91, 92, 93, 94, 95], [], [], [], [], [], [102, 110, 118, 126, 134, 142, 150, 158, 166], [], [], [], [], [], [0, 103, 104], [], [105, 106, 107, 108, 109], [], [], [], [], [], [0, 111, 112], [], [113, 114, 115, 116, 117], [], [], [], [], [], [0, 119, 120], [], [121, 122, 123, 124, 125], [], [], [], [], [], [0, 127, 128], [], [129, 130, 131, 132, 133], [], [], [], [], [], [0, 135, 136], [], [137, 138, 139, 140, 141], [], [], [], [], [], [0, 143, 144], [], [145, 146, 147, 148, 149], [], [], [], [], [], [0, 151, 152], [], [153, 154, 155, 156, 157], [], [], [], [], [], [0, 159, 160], [], [161, 162, 163, 164, 165], [], [], [], [], [], [0, 167, 168], [], [169, 170, 171, 172, 173], [], [], [], [], [], [175, 176], [], [], [178, 0, 179], [], [], [181, 183, 185, 187], [182], [], [184], [], [186], [], [188], [], [190, 191, 192, 0, 193, 0, 194, 195, 0, 0, 0, 0, 196, 197, 198, 199, 200, 201, 202, 203, 204, 0, 205, 206, 207, 0, 0, 0, 0, 0, 208, 209, 210, 211], [], [], [], [], [], [], [], [], [], [], [], [], [], [], [], [], [], [], [], [], [], []]
def SLT : List (List Nat) := [[0, 0, 0, 0, 0, 0, 0], [2, 2, 2, 2, 0], [2, 0, 0], [2, 2, 0, 2, 0, 2, 2, 2, 2], [1, 1, 3], [2, 2, 0, 0], [2, 1, 2, 1, 1, 1, 0], [0, 2, 2], [0, 2, 2, 2, 2, 2, 2, 2, 2, 2, 2], [2, 0, 0], [2, 2, 2, 2, 2, 2, 2], [2, 2, 3, 2, 2, 3, 2, 2, 2, 2, 2, 2, 2, 3, 0, 2, 2, 2], [2, 2, 2, 0, 2, 0, 2, 2, 3, 1, 1, 0, 2, 2, 2, 2, 2, 2, 2, 2, 2, 0, 2, 2, 2, 1, 1, 1, 3, 0, 2, 2, 2, 2]]
def NN : Nat := 212
def kd (k : Nat) : Nat := (KT.getD k (99, 0)).1
def ln (k : Nat) : Nat := (KT.getD k (99, 0)).2
def rt (k j : Nat) : Nat := (RT.getD k []).getD j 0
def slt (c : Nat) : List Nat := SLT.getD c []
abbrev Mem : Type := Nat → Nat → Int
def st2 (M : Mem) (k j : Nat) (z : Int) : Mem := fun a b => if a = k ∧ b = j then z else M a b
def fb (M : Mem) (k j : Nat) : Bool := decide (M k j ≠ 0)
def und (j : Nat) : Int := ([-1, 0, 0, 1, 2, 2] : List Int).getD j 0
/-- the classes, array classes, the base of the world, the cell of the static table -/
abbrev En : Type := va_G × (Nat → ClassId) × Nat × Nat
def vof (b : Nat) (M : Mem) (k j : Nat) : Nat → Value
  | 0 => .int (i3 (M k j))
  | 1 => .long (i6 (M k j))
  | 2 => .ref (b + rt k j)
  | _ => .int (i3 (bz (fb M k j)))
def fso (b : Nat) (M : Mem) (k : Nat) : Nat → List Nat → List Value
  | _, [] => []
  | j, t :: ts => vof b M k j t :: fso b M k (j + 1) ts
def arv (b : Nat) (M : Mem) (k : Nat) : (Nat → Int32) ⊕ (Nat → Int64) ⊕ (Nat → UInt32) ⊕ (Nat → UInt64) ⊕ (Nat → Option Nat) :=
  if kd k = 13 then .inl (fun j => i3 (M k j)) else if kd k = 14 then .inr (.inl (fun j => i6 (M k j))) else .inr (.inr (.inr (.inr (fun j => some (b + rt k j)))))
def cel (g : En) (M : Mem) (k : Nat) : va_E :=
  if kd k < 13 then .inr (kd k, fso g.2.2.1 M k 0 (slt (kd k))) else .inl (g.2.1 (kd k - 13), ln k, arv g.2.2.1 M k)
def wS (g : En) (M : Mem) : va_W := (List.range NN).map (fun k => (g.2.2.1 + k, cel g M k))
def aR (g : En) : Nat → Prop := fun q => g.2.2.1 ≤ q ∧ q < g.2.2.1 + NN
def Tys (g : En) : List (ClassId × FieldType) := [(g.2.1 0, .int), (g.2.1 1, .long), (g.2.1 2, .object "DuesOnRungs$Bond"), (g.2.1 3, .object "DuesOnRungs$Fraction"), (g.2.1 4, .object "DuesOnRungs$Row"), (g.2.1 5, .object "DuesOnRungs$Sheet"), (g.2.1 6, .array .int)]
theorem kd_lt {k c : Nat} (h : kd k = c) (hc : c < 90) : k < NN := by
  rcases Nat.lt_or_ge k NN with q | q
  · exact q
  · have e : KT.length = NN := by decide +kernel
    unfold kd at h
    rw [List.getD_eq_getElem?_getD, List.getElem?_eq_none (by rw [e]; exact q)] at h
    simp at h
    omega
theorem wS_get {g : En} {M : Mem} {k : Nat} (h : k < NN) : (wS g M)[k]? = some (g.2.2.1 + k, cel g M k) := by
  unfold wS
  rw [List.getElem?_map, List.getElem?_range h]
  rfl
theorem wS_set {g : En} {M M' : Mem} {k : Nat} (ho : ∀ a, a ≠ k → cel g M' a = cel g M a) : (wS g M).set k (g.2.2.1 + k, cel g M' k) = wS g M' := by
  apply List.ext_getElem?
  intro i
  by_cases e : i = k
  · subst e
    by_cases h : i < NN
    · rw [List.getElem?_set_self (by simp [wS, h]), wS_get h]
    · rw [List.getElem?_eq_none (by simp [wS]; omega), List.getElem?_eq_none (by simp [wS]; omega)]
  · rw [List.getElem?_set_ne (by omega)]
    by_cases h : i < NN
    · rw [wS_get h, wS_get h, ho i e]
    · rw [List.getElem?_eq_none (by simp [wS]; omega), List.getElem?_eq_none (by simp [wS]; omega)]
theorem wS_D (g : En) (M : Mem) : va_D (aR g) (wS g M) := by
  have key : ∀ (i : Nat) (p : Nat × va_E), (wS g M)[i]? = some p → i < NN ∧ p.1 = g.2.2.1 + i := by
    intro i p h
    have hi : i < NN := by
      have := (List.getElem?_eq_some_iff.mp h).1
      simpa [wS] using this
    rw [wS_get hi] at h
    cases h
    exact ⟨hi, rfl⟩
  refine ⟨fun i j p q hp hq hpq => ?_, fun i p hp => ?_⟩
  · have := key i p hp
    have := key j q hq
    omega
  · have := key i p hp
    exact ⟨by omega, by omega⟩
theorem vof_congr {b : Nat} {M M' : Mem} {k j : Nat} (h : M' k j = M k j) (t : Nat) : vof b M' k j t = vof b M k j t := by
  unfold vof fb
  rw [h]
theorem fso_congr {b : Nat} {M M' : Mem} {k : Nat} : ∀ (ts : List Nat) (j0 : Nat), (∀ x, j0 ≤ x → M' k x = M k x) → fso b M' k j0 ts = fso b M k j0 ts
  | [], _, _ => rfl
  | t :: ts, j0, h => by
    unfold fso
    rw [vof_congr (h j0 (Nat.le_refl _)), fso_congr ts (j0 + 1) (fun x hx => h x (by omega))]
theorem fso_get {b : Nat} {M : Mem} {k : Nat} : ∀ (ts : List Nat) (j0 j : Nat), (fso b M k j0 ts)[j]? = (ts[j]?).map (fun t => vof b M k (j0 + j) t)
  | [], _, _ => by simp [fso]
  | t :: ts, j0, 0 => by simp [fso]
  | t :: ts, j0, j + 1 => by
    show (fso b M k (j0 + 1) ts)[j]? = _
    rw [fso_get ts (j0 + 1) j]
    simp only [List.getElem?_cons_succ]
    congr 1
    funext t
    rw [show j0 + 1 + j = j0 + (j + 1) by omega]
theorem fso_len {b : Nat} {M : Mem} {k : Nat} : ∀ (ts : List Nat) (j0 : Nat), (fso b M k j0 ts).length = ts.length
  | [], _ => rfl
  | t :: ts, j0 => by
    show (fso b M k (j0 + 1) ts).length + 1 = _
    rw [fso_len ts (j0 + 1)]
    rfl
theorem st2_s (M : Mem) (k j : Nat) (z : Int) : st2 M k j z k j = z := by simp [st2]
theorem st2_n (M : Mem) {k j a c : Nat} (z : Int) (h : ¬ (a = k ∧ c = j)) : st2 M k j z a c = M a c := by simp [st2, h]
theorem fso_set {b : Nat} {M : Mem} {k j t : Nat} {ts : List Nat} {z : Int} (h : ts[j]? = some t) : (fso b M k 0 ts).set j (vof b (st2 M k j z) k j t) = fso b (st2 M k j z) k 0 ts := by
  apply List.ext_getElem?
  intro i
  by_cases e : i = j
  · subst e
    have hl : i < ts.length := (List.getElem?_eq_some_iff.mp h).1
    rw [List.getElem?_set_self (by rw [fso_len]; exact hl), fso_get, h]
    simp
  · rw [List.getElem?_set_ne (by omega), fso_get, fso_get]
    congr 1
    funext t
    exact (vof_congr (st2_n M z (by omega)) t).symm
theorem arv_congr {b : Nat} {M M' : Mem} {k : Nat} (h : ∀ x, M' k x = M k x) : arv b M' k = arv b M k := by
  unfold arv
  simp only [h]
theorem cel_congr {g : En} {M M' : Mem} {k : Nat} (h : ∀ x, M' k x = M k x) : cel g M' k = cel g M k := by
  unfold cel
  rw [fso_congr _ _ (fun x _ => h x), arv_congr h]
theorem cel_st2 {g : En} {M : Mem} {k j a : Nat} {z : Int} (h : a ≠ k) : cel g (st2 M k j z) a = cel g M a := cel_congr (fun x => st2_n M z (by omega))
theorem cel_o {g : En} {M : Mem} {k c : Nat} (h : kd k = c) (hc : c < 13) : cel g M k = .inr (c, fso g.2.2.1 M k 0 (slt c)) := by
  subst h
  unfold cel
  rw [if_pos hc]
theorem cel_i {g : En} {M : Mem} {k : Nat} (h : kd k = 13) : cel g M k = .inl (g.2.1 0, ln k, .inl (fun j => i3 (M k j))) := by
  unfold cel arv
  rw [h]
  rfl
theorem cel_l {g : En} {M : Mem} {k : Nat} (h : kd k = 14) : cel g M k = .inl (g.2.1 1, ln k, .inr (.inl (fun j => i6 (M k j)))) := by
  unfold cel arv
  rw [h]
  rfl
theorem cel_q {g : En} {M : Mem} {k c : Nat} (h : kd k = c + 15) : cel g M k = .inl (g.2.1 (c + 2), ln k, .inr (.inr (.inr (.inr (fun j => some (g.2.2.1 + rt k j)))))) := by
  unfold cel arv
  rw [h, if_neg (by omega), if_neg (by omega), if_neg (by omega), show c + 15 - 13 = c + 2 by omega]
/-- the picture that every method keeps -/
def Rp (g : En) (M : Mem) (U : State) : Prop := va_P g.1 vwCl (wS g M) U.heap ∧ va_K g.1 vwCl (Tys g) U ∧ va_Z "DuesOnRungs" "UNDER" "[I" (.ref g.2.2.2) (aR g) U U.heap ∧ va_T .int g.2.2.2 6 (fun j => .int (i3 (und j))) (aR g) U U.heap ∧ va_Nw (.fieldLinkNest "DuesOnRungs$Bond" 37 "DuesOnRungs" "UNDER" "[I" "DuesOnRungs") U
theorem Rp_blind {g : En} {M : Mem} {av : List Value} : FrameBlind (va_Pc av (Rp g M)) := by
  intro a U f mk h
  obtain ⟨h0, h1, h2, h3, h4, h5⟩ := h
  exact ⟨h0, h1, va_K.moved (u := U) (U := U.calling f mk a) (Vm.Alike.refl U.vm) h2, va_Z.moved (u := U) (U := U.calling f mk a) (Vm.Alike.refl U.vm) h3, va_T.moved (u := U) (U := U.calling f mk a) (Vm.Alike.refl U.vm) h4, va_Nw.same (u := U) (U := U.calling f mk a) rfl rfl h5⟩
/-- the words of a method: its own code, and the tables whole -/
def WS (y : MethodName) (cc : ByteArray) (n : Nat) (ret : Option FieldType) : List Cond := Cond.code y cc n ret :: LW
theorem ws_good {y : MethodName} {cc : ByteArray} {n : Nat} {ret : Option FieldType} (h : Cond.code y cc n ret ∈ LW) : GoodIn LW (WS y cc n ret) := by
  intro w hw
  have hm : w ∈ LW := by
    rcases List.mem_cons.mp hw with e | e
    · rw [e]; exact h
    · exact e
  exact ⟨hm, good_of_word (LW_good w hm)⟩
