/-! the class's dictionary -/
def DicC (n H : Nat) (key : Nat → Nat) (M : Mem) (D : QD) : Prop :=
  M 87 4 = (n : Int) ∧ M 87 2 = (H : Int) ∧ (∀ r, r < H → M (102 + 8 * r) 0 = (D.num (key r) : Int) ∧ RQ M (102 + 8 * r) (D.B (key r)) (D.S (key r))) ∧ RQ M 88 (D.B 9) (D.S 9) ∧ ∀ j, j < n → M 97 j = (D.so j : Int)
/-- where the rows that are on lie -/
def KeyOK (n H : Nat) (on : Nat → Bool) (key : Nat → Nat) : Prop :=
  H ≤ 9 ∧ n ≤ 5 ∧ (∀ r, r < H → key r < 9 ∧ on (key r) = true) ∧ (∀ r r', r < H → r' < H → key r = key r' → r = r') ∧ (∀ k, k < 9 → on k = true → ∃ r, r < H ∧ key r = k) ∧ on 9 = true
def FrD (M M' : Mem) : Prop := ∀ k j, ¬ (88 ≤ k ∧ k < 174) → M' k j = M k j
theorem FrD_refl (M : Mem) : FrD M M := fun _ _ _ => rfl
theorem FrD_trans {M M2 M3 : Mem} (h : FrD M M2) (h2 : FrD M2 M3) : FrD M M3 := fun k j q => (h2 k j q).trans (h k j q)
theorem RQ_congr {M : Mem} {a : Nat} {b b' : Q2} {s s' : Nat → Q2} (h : RQ M a b s) (hb : b = b') (hs : ∀ j, j < 5 → s j = s' j) : RQ M a b' s' := by
  subst hb
  exact ⟨h.1, fun j hj => by rw [← hs j hj]; exact h.2 j hj⟩
theorem exchange_ok {n H : Nat} {on : Nat → Bool} {key : Nat → Nat} (K : KeyOK n H on key) {D : QD} (w : WFQ n on D) {r e : Nat} (hr : r < H) (he : e < n) (ha : above0 (D.S (key r) e) = true) {M : Mem} (hM : DicC n H key M D) {Q : Mem → Prop} (h : ∀ M' : Mem, DicC n H key M' (exchQ n D (key r) e) → FrD M M' → Q M') : wp_X3_exchange 87 (r : Int) (e : Int) M Q := by
  obtain ⟨k1, k2, k3, k4, -, k6⟩ := K
  obtain ⟨m1, m2, m3, m4, m5⟩ := hM
  have r9 : r < 9 := by omega
  have lo := (k3 r hr).2
  have l10 : key r < 10 := by have := (k3 r hr).1; omega
  unfold wp_X3_exchange
  rw [rt_87.2.1, rt_87.2.2.1, ixn (show r < 2147483648 by omega), ixn (show e < 2147483648 by omega), rt_96 r r9]
  refine ⟨inbn LN_96 r9, ?_⟩
  refine solveFor_ok (IsRw_p r9) (by omega) k2 he m1 (m3 r hr).2 (w _ l10 lo).1 (w _ l10 lo).2 (above_ne ha) (fun M10 s1 s2 => ?_)
  rintro v17 rfl
  refine ⟨inbn LN_97 (by omega), ?_⟩
  rintro M26 rfl
  refine ⟨inbn LN_97 (by omega), ?_⟩
  rintro M36 rfl
  -- the state behind the solved row
  obtain ⟨Mb, hMb⟩ : ∃ Mb, Mb = st2 (st2 M10 (102 + 8 * r) 0 (M10 97 e)) 97 e (M10 (102 + 8 * r) 0) := ⟨_, rfl⟩
  rw [← hMb]
  have nb : ∀ k j, k ≠ 97 → ¬ (k = 102 + 8 * r ∧ j = 0) → Mb k j = M10 k j := fun k j q1 q2 => by
    rw [hMb, st2_n _ _ (by omega), st2_n _ _ (by omega)]
  have b0 : Mb (102 + 8 * r) 0 = (D.so e : Int) := by
    rw [hMb, st2_n _ _ (by omega), st2_s, s2 97 e (by omega) (by decide) (by decide)]
    exact m5 e he
  have b97 : ∀ j, j < n → Mb 97 j = ((exchQ n D (key r) e).so j : Int) := fun j hj => by
    rw [hMb, exq_so]
    by_cases q : j = e
    · rw [q, st2_s, if_pos rfl, s2 _ 0 (by omega) (by omega) (by omega)]
      exact (m3 r hr).1
    · rw [st2_n _ _ (by omega), st2_n _ _ (by omega), if_neg q, s2 97 j (by omega) (by decide) (by decide)]
      exact m5 j hj
  obtain ⟨ps, hps⟩ : ∃ ps : Nat → Q2, ∀ j, ps j = if n ≤ j then D.S (key r) j else psQ D (key r) e j := ⟨_, fun _ => rfl⟩
  have bR : RQ Mb (102 + 8 * r) (pbQ D (key r) e) ps := by
    refine RQ_same (RQ_congr s1 rfl (fun j _ => ?_)) (fun k j q1 q2 => nb k j (by omega) (by omega))
    rw [hps]
    unfold psQ
    rfl
  have pF := pbQ_Fr w l10 lo he ha
  have sF : ∀ j, j < n → FrO (ps j) := fun j hj => by
    rw [hps, if_neg (by omega)]
    exact psQ_Fr w l10 lo ha hj
  have pe : ps e = psQ D (key r) e e := by rw [hps, if_neg (by omega)]
  have eqS : ∀ k, k ≠ key r → ∀ j, j < 5 → (if n ≤ j then D.S k j else if j = e then ob mulq (D.S k e) (ps e) else ob addq (D.S k j) (ob mulq (ps j) (D.S k e))) = (exchQ n D (key r) e).S k j := fun k hk j _ => by
    rw [exq_S, pe]
    by_cases q : n ≤ j
    · rw [if_pos q, if_pos q]
    · rw [if_neg q, if_neg q, if_neg hk, hps, if_neg q]
  have eqB : ∀ k, k ≠ key r → ob addq (D.B k) (ob mulq (pbQ D (key r) e) (D.S k e)) = (exchQ n D (key r) e).B k := fun k hk => by rw [exq_B, if_neg hk]
  have b4 : Mb 87 4 = (n : Int) := by rw [nb 87 4 (by decide) (by omega), s2 87 4 (by omega) (by decide) (by decide)]; exact m1
  have b2 : Mb 87 2 = (H : Int) := by rw [nb 87 2 (by decide) (by omega), s2 87 2 (by omega) (by decide) (by decide)]; exact m2
  have bfr : FrD M Mb := fun k j q => by rw [nb k j (by omega) (by omega), s2 k j (by omega) (by omega) (by omega)]
  refine ⟨fun M' x5 => ∃ k : Nat, x5 = (k : Int) ∧ k ≤ H ∧ M' 87 4 = (n : Int) ∧ M' 87 2 = (H : Int) ∧ (∀ j, j < n → M' 97 j = Mb 97 j) ∧ M' (102 + 8 * r) 0 = (D.so e : Int) ∧ RQ M' (102 + 8 * r) (pbQ D (key r) e) ps ∧ (∀ i, i < H → i ≠ r → M' (102 + 8 * i) 0 = (D.num (key i) : Int)) ∧ (∀ i, i < k → i ≠ r → RQ M' (102 + 8 * i) ((exchQ n D (key r) e).B (key i)) ((exchQ n D (key r) e).S (key i))) ∧ (∀ i, k ≤ i → i < H → i ≠ r → RQ M' (102 + 8 * i) (D.B (key i)) (D.S (key i))) ∧ RQ M' 88 (D.B 9) (D.S 9) ∧ FrD M M', fun _ x5 => ((H : Int) - x5).toNat, ⟨0, rfl, Nat.zero_le _, b4, b2, fun _ _ => rfl, b0, bR, fun i hi q => ?_, fun _ q => absurd q (Nat.not_lt_zero _), fun i _ hi q => ?_, ?_, bfr⟩, ?_⟩
  · rw [nb _ 0 (by omega) (by omega), s2 _ 0 (by omega) (by omega) (by omega)]
    exact (m3 i hi).1
  · exact RQ_same (m3 i hi).2 (fun k j q1 q2 => by rw [nb k j (by omega) (by omega), s2 k j (by omega) (by omega) (by omega)])
  · exact RQ_same m4 (fun k j q1 q2 => by rw [nb k j (by omega) (by omega), s2 k j (by omega) (by omega) (by omega)])
  rintro M5 x5 ⟨k, rfl, hk, f1, f2, f3, f4, f5, f6, f7, f8, f9, f10⟩
  unfold wp_X3_exchange_B40 wp_X3_exchange_b68
  dsimp only
  rw [f2, w32n (show k < 2147483648 by omega), w32n (show H < 2147483648 by omega), w32n (show r < 2147483648 by omega), ixn (show k < 2147483648 by omega), rt_87.1, rt_87.2.1]
  have k9 : (9 : Nat) ≠ key r := by have := (k3 r hr).1; omega
  refine ⟨fun u => ?_, fun u => ⟨fun v => ?_, fun v => ⟨inbn LN_96 (by omega), ?_⟩⟩⟩
  · have : k = H := by omega
    subst this
    refine replaceIn_ok IsRw_88 (IsRw_p r9) (Or.inl rfl) (Or.inr (by omega)) (Or.inl (by omega)) k2 he f1 f9 f5 (w 9 (by decide) k6).1 (w 9 (by decide) k6).2 pF sF (fun M6 q1 q2 => ?_)
    refine h M6 ⟨?_, ?_, fun i hi => ?_, ?_, fun j hj => ?_⟩ (fun a j q => by rw [q2 a j (by omega) (by omega) (by omega)]; exact f10 a j q)
    · rw [q2 87 4 (by omega) (by decide) (by decide)]; exact f1
    · rw [q2 87 2 (by omega) (by decide) (by decide)]; exact f2
    · by_cases q : i = r
      · subst q
        refine ⟨?_, RQ_same (RQ_congr f5 ?_ (fun j _ => ?_)) (fun a j p1 p2 => q2 a j (by omega) (by omega) (by omega))⟩
        · rw [q2 _ 0 (by omega) (by omega) (by omega), exq_num, if_pos rfl]
          exact f4
        · rw [exq_B, if_pos rfl]
        · rw [exq_S, hps, if_pos rfl]
      · have kn : key i ≠ key r := fun z => q (k4 i r hi hr z)
        refine ⟨?_, RQ_same (f7 i hi q) (fun a j p1 p2 => q2 a j (by omega) (by omega) (by omega))⟩
        rw [q2 _ 0 (by omega) (by omega) (by omega), exq_num, if_neg kn]
        exact f6 i hi q
    · exact RQ_congr q1 (eqB 9 k9) (eqS 9 k9)
    · rw [q2 97 j (by omega) (by decide) (by decide), f3 j hj]
      exact b97 j hj
  · exact ⟨⟨k + 1, rfl, by omega, f1, rfl, f3, f4, f5, f6, fun i hi q => f7 i (by omega) q, fun i hi => f8 i (by omega), f9, f10⟩, by omega⟩
  · rw [rt_96 k (by omega)]
    have kr : k ≠ r := by omega
    have kH : k < H := by omega
    have kn : key k ≠ key r := fun z => kr (k4 k r kH hr z)
    have ok := k3 k kH
    refine replaceIn_ok (IsRw_p (by omega)) (IsRw_p r9) (Or.inr (by omega)) (Or.inr (by omega)) (by omega) k2 he f1 (f8 k (Nat.le_refl _) kH kr) f5 (w _ (by omega) ok.2).1 (w _ (by omega) ok.2).2 pF sF (fun M6 q1 q2 => ?_)
    refine ⟨⟨k + 1, rfl, by omega, ?_, ?_, fun j hj => ?_, ?_, ?_, fun i hi q => ?_, fun i hi q => ?_, fun i hi hH q => ?_, ?_, fun a j q => ?_⟩, by omega⟩
    · rw [q2 87 4 (by omega) (by decide) (by decide)]; exact f1
    · rw [q2 87 2 (by omega) (by decide) (by decide)]; exact f2
    · rw [q2 97 j (by omega) (by decide) (by decide)]; exact f3 j hj
    · rw [q2 _ 0 (by omega) (by omega) (by omega)]; exact f4
    · exact RQ_same f5 (fun a j p1 p2 => q2 a j (by omega) (by omega) (by omega))
    · rw [q2 _ 0 (by omega) (by omega) (by omega)]; exact f6 i hi q
    · by_cases y : i = k
      · subst y
        exact RQ_congr q1 (eqB _ kn) (eqS _ kn)
      · exact RQ_same (f7 i (by omega) q) (fun a j p1 p2 => q2 a j (by omega) (by omega) (by omega))
    · exact RQ_same (f8 i (by omega) hH q) (fun a j p1 p2 => q2 a j (by omega) (by omega) (by omega))
    · exact RQ_same f9 (fun a j p1 p2 => q2 a j (by omega) (by omega) (by omega))
    · rw [q2 a j (by omega) (by omega) (by omega)]; exact f10 a j q
