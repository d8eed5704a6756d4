/-! the world while it is being made: N cells stand; I tells which references are set -/
abbrev Msk : Type := Nat → Nat → Bool
def stI (I : Msk) (h j : Nat) : Msk := fun a c => if a = h ∧ c = j then true else I a c
def zI (I : Msk) (h : Nat) : Msk := fun a c => if a = h then false else I a c
def zM (M : Mem) (h : Nat) : Mem := fun a c => if a = h then 0 else M a c
def flM (M : Mem) (h n : Nat) (v : Int) : Mem := fun a c => if a = h ∧ c < n then v else M a c
def gI (I : Msk) (h : Nat) : Msk := fun a c => if a = h then true else I a c
def gM (M : Mem) (h n : Nat) : Mem := fun a c => if h ≤ a ∧ a < h + n then 0 else M a c
def vofC (b : Nat) (I : Msk) (M : Mem) (k j t : Nat) : Value := if t = 2 ∧ I k j = false then .null else vof b M k j t
def fsC (b : Nat) (I : Msk) (M : Mem) (k : Nat) : Nat → List Nat → List Value
  | _, [] => []
  | j, t :: ts => vofC b I M k j t :: fsC b I M k (j + 1) ts
def arvC (b : Nat) (I : Msk) (M : Mem) (k : Nat) : (Nat → Int32) ⊕ (Nat → Int64) ⊕ (Nat → UInt32) ⊕ (Nat → UInt64) ⊕ (Nat → Option Nat) :=
  if kd k = 13 then .inl (fun j => i3 (M k j)) else if kd k = 14 then .inr (.inl (fun j => i6 (M k j))) else .inr (.inr (.inr (.inr (fun j => if I k j = true then some (b + rt k j) else none))))
def celC (g : En) (I : Msk) (M : Mem) (k : Nat) : va_E :=
  if kd k < 13 then .inr (kd k, fsC g.2.2.1 I M k 0 (slt (kd k))) else .inl (g.2.1 (kd k - 13), ln k, arvC g.2.2.1 I M k)
def wC (g : En) (N : Nat) (I : Msk) (M : Mem) : va_W := (List.range N).map (fun k => (g.2.2.1 + k, celC g I M k))
def aB (g : En) : Nat → Prop := fun q => g.2.2.1 ≤ q
def PC (g : En) (N : Nat) (I : Msk) (M : Mem) (H : Heap) : Prop := H.size = g.2.2.1 + N ∧ va_P g.1 vwCl (wC g N I M) H
theorem wC_get {g : En} {N : Nat} {I : Msk} {M : Mem} {k : Nat} (h : k < N) : (wC g N I M)[k]? = some (g.2.2.1 + k, celC g I M k) := by
  unfold wC
  rw [List.getElem?_map, List.getElem?_range h]
  rfl
theorem wC_in {g : En} {N : Nat} {I : Msk} {M : Mem} {i : Nat} {q : Nat × va_E} (h : (wC g N I M)[i]? = some q) : i < N ∧ q = (g.2.2.1 + i, celC g I M i) := by
  have hi : i < N := by
    have := (List.getElem?_eq_some_iff.mp h).1
    simpa [wC] using this
  rw [wC_get hi] at h
  cases h
  exact ⟨hi, rfl⟩
theorem PC_of {g : En} {N : Nat} {I : Msk} {M : Mem} {H : Heap} (hs : H.size = g.2.2.1 + N) (h : ∀ k, k < N → va_at g.1 vwCl (g.2.2.1 + k, celC g I M k) H) : PC g N I M H := ⟨hs, fun i q hq => by
  obtain ⟨h1, h2⟩ := wC_in hq
  rw [h2]
  exact h i h1⟩
theorem PC.at {g : En} {N : Nat} {I : Msk} {M : Mem} {H : Heap} (hP : PC g N I M H) {k : Nat} (h : k < N) : va_at g.1 vwCl (g.2.2.1 + k, celC g I M k) H := hP.2 k _ (wC_get h)
/-- one cell is written -/
theorem PC.put {g : En} {N : Nat} {I I2 : Msk} {M M2 : Mem} {H H1 : Heap} {h : Nat} (hP : PC g N I M H) (hs : H1.size = H.size) (ho : ∀ q, q ≠ g.2.2.1 + h → H1[q]? = H[q]?) (hc : ∀ a, a ≠ h → celC g I2 M2 a = celC g I M a) (hh : va_at g.1 vwCl (g.2.2.1 + h, celC g I2 M2 h) H1) : PC g N I2 M2 H1 := by
  refine PC_of (hs.trans hP.1) (fun k hk => ?_)
  by_cases e : k = h
  · subst e
    exact hh
  · rw [hc k e]
    exact (hP.at hk).kept (ho _ (by show g.2.2.1 + k ≠ g.2.2.1 + h; omega))
/-- cells come -/
theorem PC.new {g : En} {N n : Nat} {I I2 : Msk} {M M2 : Mem} {H H1 : Heap} (hP : PC g N I M H) (hs : H1.size = H.size + n) (ho : ∀ q, q < H.size → H1[q]? = H[q]?) (hc : ∀ a, a < N → celC g I2 M2 a = celC g I M a) (hh : ∀ a, N ≤ a → a < N + n → va_at g.1 vwCl (g.2.2.1 + a, celC g I2 M2 a) H1) : PC g (N + n) I2 M2 H1 := by
  refine PC_of (by rw [hs, hP.1]; omega) (fun k hk => ?_)
  by_cases e : k < N
  · rw [hc k e]
    exact (hP.at e).kept (ho _ (by rw [hP.1]; show g.2.2.1 + k < _; omega))
  · exact hh k (by omega) hk
theorem vofC_congr {b : Nat} {I I2 : Msk} {M M2 : Mem} {k j : Nat} (h1 : I2 k j = I k j) (h2 : M2 k j = M k j) (t : Nat) : vofC b I2 M2 k j t = vofC b I M k j t := by
  unfold vofC
  rw [h1, vof_congr h2]
theorem fsC_congr {b : Nat} {I I2 : Msk} {M M2 : Mem} {k : Nat} (h : ∀ x, I2 k x = I k x ∧ M2 k x = M k x) : ∀ (ts : List Nat) (j0 : Nat), fsC b I2 M2 k j0 ts = fsC b I M k j0 ts
  | [], _ => rfl
  | t :: ts, j0 => by
    unfold fsC
    rw [vofC_congr (h j0).1 (h j0).2, fsC_congr h ts (j0 + 1)]
theorem celC_congr {g : En} {I I2 : Msk} {M M2 : Mem} {k : Nat} (h : ∀ x, I2 k x = I k x ∧ M2 k x = M k x) : celC g I2 M2 k = celC g I M k := by
  unfold celC arvC
  rw [fsC_congr h]
  simp only [(h _).1, (h _).2]
theorem fsC_get {b : Nat} {I : Msk} {M : Mem} {k : Nat} : ∀ (ts : List Nat) (j0 j : Nat), (fsC b I M k j0 ts)[j]? = (ts[j]?).map (fun t => vofC b I M k (j0 + j) t)
  | [], _, _ => by simp [fsC]
  | t :: ts, j0, 0 => by simp [fsC]
  | t :: ts, j0, j + 1 => by
    show (fsC b I M k (j0 + 1) ts)[j]? = _
    rw [fsC_get ts (j0 + 1) j]
    simp only [List.getElem?_cons_succ]
    congr 1
    funext t
    rw [show j0 + 1 + j = j0 + (j + 1) by omega]
theorem fsC_len {b : Nat} {I : Msk} {M : Mem} {k : Nat} : ∀ (ts : List Nat) (j0 : Nat), (fsC b I M k j0 ts).length = ts.length
  | [], _ => rfl
  | t :: ts, j0 => by
    show (fsC b I M k (j0 + 1) ts).length + 1 = _
    rw [fsC_len ts (j0 + 1)]
    rfl
theorem fsC_set {b : Nat} {I I2 : Msk} {M M2 : Mem} {k j : Nat} {ts : List Nat} {v : Value} (hj : j < ts.length) (hv : ∀ t, ts[j]? = some t → vofC b I2 M2 k j t = v) (ho : ∀ x, x ≠ j → I2 k x = I k x ∧ M2 k x = M k x) : (fsC b I M k 0 ts).set j v = fsC b I2 M2 k 0 ts := by
  apply List.ext_getElem?
  intro i
  by_cases e : i = j
  · subst e
    rw [List.getElem?_set_self (by rw [fsC_len]; exact hj), fsC_get]
    obtain ⟨t, ht⟩ : ∃ t, ts[i]? = some t := ⟨_, List.getElem?_eq_getElem hj⟩
    rw [ht]
    simp [hv t ht]
  · rw [List.getElem?_set_ne (by omega), fsC_get, fsC_get]
    congr 1
    funext t
    exact (vofC_congr (by simpa using (ho i e).1) (by simpa using (ho i e).2) t).symm
theorem celC_o {g : En} {I : Msk} {M : Mem} {k c : Nat} (h : kd k = c) (hc : c < 13) : celC g I M k = .inr (c, fsC g.2.2.1 I M k 0 (slt c)) := by
  subst h
  unfold celC
  rw [if_pos hc]
theorem celC_i {g : En} {I : Msk} {M : Mem} {k : Nat} (h : kd k = 13) : celC g I M k = .inl (g.2.1 0, ln k, .inl (fun j => i3 (M k j))) := by
  unfold celC arvC
  rw [h]
  rfl
theorem celC_l {g : En} {I : Msk} {M : Mem} {k : Nat} (h : kd k = 14) : celC g I M k = .inl (g.2.1 1, ln k, .inr (.inl (fun j => i6 (M k j)))) := by
  unfold celC arvC
  rw [h]
  rfl
theorem celC_q {g : En} {I : Msk} {M : Mem} {k c : Nat} (h : kd k = c + 15) : celC g I M k = .inl (g.2.1 (c + 2), ln k, .inr (.inr (.inr (.inr (fun j => if I k j = true then some (g.2.2.1 + rt k j) else none))))) := by
  unfold celC arvC
  rw [h, if_neg (by omega), if_neg (by omega), if_neg (by omega), show c + 15 - 13 = c + 2 by omega]
theorem arrV_congr {cI : ClassId} {N : Nat} {f f2 : Nat → Value} (h : ∀ j, j < N → f j = f2 j) : arrV cI N f = arrV cI N f2 := by
  have e : (fun j : Fin N => f j.val) = fun j : Fin N => f2 j.val := funext fun j => h j.val j.isLt
  unfold arrV
  rw [e]
def okI (I : Msk) : Bool := (List.range NN).all (fun k => if kd k < 13 then ((slt (kd k)).zipIdx).all (fun q => q.1 != 2 || I k q.2) else if 15 ≤ kd k then (List.range (ln k)).all (fun j => I k j) else true)
/-- when all stands, it is the fixed world -/
theorem PC_Rp {g : En} {I : Msk} {M : Mem} {H : Heap} (h : PC g NN I M H) (hI : okI I = true) : va_P g.1 vwCl (wS g M) H := by
  intro i q hq
  have hi : i < NN := by
    have := (List.getElem?_eq_some_iff.mp hq).1
    simpa [wS] using this
  rw [wS_get hi] at hq
  cases hq
  have h1 := h.at hi
  by_cases h13 : kd i < 13
  · rw [celC_o rfl h13] at h1
    rw [cel_o rfl h13]
    have e : fsC g.2.2.1 I M i 0 (slt (kd i)) = fso g.2.2.1 M i 0 (slt (kd i)) := by
      apply List.ext_getElem?
      intro j
      rw [fsC_get, fso_get]
      cases ht : (slt (kd i))[j]? with
      | none => rfl
      | some t =>
        show some _ = some _
        congr 1
        show (if t = 2 ∧ I i (0 + j) = false then Value.null else vof g.2.2.1 M i (0 + j) t) = vof g.2.2.1 M i (0 + j) t
        rw [if_neg]
        intro hh
        have h2 := List.all_eq_true.mp hI i (List.mem_range.mpr hi)
        rw [if_pos h13] at h2
        have h3 := List.all_eq_true.mp h2 (t, j) (List.mem_iff_getElem?.mpr ⟨j, by rw [List.getElem?_zipIdx, ht]; simp⟩)
        rw [hh.1] at h3
        simp at h3
        simp [h3] at hh
    rw [e] at h1
    exact h1
  · have hc : celC g I M i = .inl (g.2.1 (kd i - 13), ln i, arvC g.2.2.1 I M i) := by unfold celC; rw [if_neg h13]
    have hd : cel g M i = .inl (g.2.1 (kd i - 13), ln i, arv g.2.2.1 M i) := by unfold cel; rw [if_neg h13]
    rw [hc] at h1
    rw [hd]
    have e : vp_cell (g.2.1 (kd i - 13)) (ln i, arvC g.2.2.1 I M i) = vp_cell (g.2.1 (kd i - 13)) (ln i, arv g.2.2.1 M i) := by
      unfold arvC arv
      by_cases a1 : kd i = 13
      · rw [if_pos a1, if_pos a1]
      · rw [if_neg a1, if_neg a1]
        by_cases a2 : kd i = 14
        · rw [if_pos a2, if_pos a2]
        · rw [if_neg a2, if_neg a2, vp_cell_q, vp_cell_q]
          apply arrV_congr
          intro j hj
          have h2 := List.all_eq_true.mp hI i (List.mem_range.mpr hi)
          rw [if_neg h13, if_pos (by omega)] at h2
          rw [if_pos (List.all_eq_true.mp h2 j (List.mem_range.mpr hj))]
    show H[_]? = some _
    rw [← e]
    exact h1
