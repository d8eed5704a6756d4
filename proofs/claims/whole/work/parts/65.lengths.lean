theorem bfalse {b : Bool} (h : ¬ b = true) : b = false := by
  cases b
  · rfl
  · exact absurd rfl h
theorem rproduct2_ok {M : Mem} {p q : Q2} {a b : Int} (hp : FrO p) (hq : FrO q) (hacc : ∀ x, p = some x → a = x.1 ∧ b = x.2) (hpq : p = none → fb M 189 8 = true) (ha : RF M q) {Q : Mem → Prop} (h : ∀ M' : Mem, RF M' (ob mulq p q) → FrF M M' → Q M') : wp_X12_product 189 a b (M 189 9) (M 189 10) M Q := by
  cases q with
  | none => exact rproduct_great ha (fun M' q1 q2 => h M' (by rw [ob_r]; exact q1) q2)
  | some y =>
    cases p with
    | none => exact rproduct_great (hpq rfl) (fun M' q1 q2 => h M' q1 q2)
    | some x =>
      obtain ⟨e1, e2⟩ := hacc x rfl
      obtain ⟨x1, x2, x3⟩ := Fr_in (hp x rfl)
      obtain ⟨y1, y2, y3⟩ := Fr_in (hq y rfl)
      rw [e1, e2, ha.2.1, ha.2.2]
      exact rproduct_ok ⟨x1, x2⟩ ⟨y1, y2⟩ (Int.mul_pos x3 y3) ha.1 h
/-- what is there, negated: times -1 by 1 -/
theorem rneg_ok {M : Mem} {p : Q2} {a b : Int} (hp : FrO p) (hacc : ∀ x, p = some x → a = x.1 ∧ b = x.2) (hf : fb M 189 8 = p.isNone) {Q : Mem → Prop} (h : ∀ M' : Mem, RF M' (p.map negq) → FrF M M' → Q M') : wp_X12_product 189 a b (-1) 1 M Q := by
  cases p with
  | none => exact rproduct_great hf h
  | some x =>
    obtain ⟨e1, e2⟩ := hacc x rfl
    obtain ⟨x1, x2, x3⟩ := Fr_in (hp x rfl)
    rw [e1, e2]
    refine rproduct_ok (y := (-1, 1)) ⟨x1, x2⟩ ⟨⟨by decide, by decide⟩, ⟨by decide, by decide⟩⟩ (by dsimp only; omega) hf (fun M' q1 q2 => h M' ?_ q2)
    rw [mulq_neg (hp x rfl)] at q1
    exact q1
theorem RF_acc {M : Mem} {q : Q2} (h : RF M q) : ∀ x, q = some x → M 189 9 = x.1 ∧ M 189 10 = x.2 := fun x e => by
  rw [e] at h
  exact h.2
theorem lengthOf_ok {M : Mem} (hR : RefOK M noY) {f : Bool} (hf : fb M 189 8 = f) {row : Int} {am : F1} (hA : AmtOK M row am) (hnz : ∀ y, whS (rrS (M 190) (M 191) noY) am (rungs (M 190)) = some y → y.1 ≠ 0) {tw : Bool} {a b : Int} {mid : Q2} (hm : tw = true → FrO mid ∧ (∀ x, mid = some x → a = x.1 ∧ b = x.2) ∧ f = mid.isNone) {Q : Mem → Prop}
    (h : ∀ M' : Mem, RF M' (rst f (ob divq (if tw then spS (rrS (M 190) (M 191) noY) am mid (rungs (M 190)) else ltS (rrS (M 190) (M 191) noY) am (rungs (M 190))) (whS (rrS (M 190) (M 191) noY) am (rungs (M 190))))) → FrF M M' → Q M') : wp_X12_lengthOf 189 row tw a b M Q := by
  have hN := hR.2.1
  have hrr : RR (rrS (M 190) (M 191) noY) (rungs (M 190)) := fun c hc => RefOK_rr hR hc
  have haL : ∀ i, i < rungs (M 190) → inL (am i) := fun i hi => inL_R (hA M (FrF_refl M) i hi).1
  have h05 := hR.2.2.1
  -- both sums at once
  obtain ⟨S, hS⟩ : ∃ S : Nat → Q2, S = fun i => if tw then spS (rrS (M 190) (M 191) noY) am mid i else ltS (rrS (M 190) (M 191) noY) am i := ⟨_, rfl⟩
  have hS0 : S 0 = some (0, 1) := by rw [hS]; cases tw <;> rfl
  have hSF : ∀ i, i ≤ rungs (M 190) → FrO (S i) := fun i hi => by
    rw [hS]
    cases tw
    · exact ltS_Fr hN hrr haL i hi
    · exact spS_Fr (hm rfl).1 hN hrr haL i hi
  have hSe : (if tw then spS (rrS (M 190) (M 191) noY) am mid (rungs (M 190)) else ltS (rrS (M 190) (M 191) noY) am (rungs (M 190))) = S (rungs (M 190)) := by rw [hS]
  rw [hSe] at h
  refine ⟨fun M' x7 x9 x11 => ∃ i : Nat, x11 = (i : Int) ∧ i ≤ rungs (M 190) ∧ fb M' 189 8 = (rst f (S i)).isNone ∧ (∀ x, rst f (S i) = some x → x7 = x.1 ∧ x9 = x.2) ∧ FrF M M', fun _ _ _ x11 => (5 - x11).toNat, ⟨0, rfl, Nat.zero_le _, ?_, fun x e => ?_, FrF_refl M⟩, ?_⟩
  · rw [hf, hS0]; cases f <;> rfl
  · rw [hS0] at e
    cases f
    · cases e; exact ⟨rfl, rfl⟩
    · cases e
  rintro M1 x7 x9 x11 ⟨i, rfl, hi, f1, f2, f3⟩
  unfold wp_X12_lengthOf_B9 wp_X12_lengthOf_b91
  dsimp only
  obtain ⟨r1, r2, r3, -, -, -, r5⟩ := FrF_ref hR f3
  have hw := hSF i hi
  have hNN : ∀ c, c < rungs (M 190) ↔ c < rungs (M1 190) := fun c => by rw [r2]
  have hWF := whS_Fr hrr haL (rungs (M 190)) (Nat.le_refl _)
  rw [r5, h05]
  generalize hN' : rungs (M 190) = N at *
  rw [w32n (show N < 2147483648 by omega), w32n (show i < 2147483648 by omega)]
  refine ⟨fun u => ?_, fun u => ?_⟩
  · have : i = N := by omega
    subst this
    refine worthOf_ok r1 f1 (AmtOK_F hA f3) (fun M2 p1 p2 => ?_)
    rw [r2, r3, hN'] at p1
    have e : rst f (ob divq (S i) (whS (rrS (M 190) (M 191) noY) am i)) = ob divq (rst f (S i)) (whS (rrS (M 190) (M 191) noY) am i) := rst_l _ _ _ _
    rw [e] at h
    cases q : rst f (S i) with
    | none =>
      rw [q] at p1 h
      exact rquotient_great p1 (fun M3 q1 q2 => h M3 q1 (FrF_trans (FrF_trans f3 p2) q2))
    | some x =>
      rw [q] at p1 h
      have p1 : RF M2 (whS (rrS (M 190) (M 191) noY) am i) := p1
      obtain ⟨e1, e2⟩ := f2 x q
      have xF := rst_Fr (f := f) hw x q
      cases q2 : whS (rrS (M 190) (M 191) noY) am i with
      | none =>
        rw [q2] at p1 h
        exact rquotient_great p1 (fun M3 y1 y2 => h M3 y1 (FrF_trans (FrF_trans f3 p2) y2))
      | some y =>
        rw [q2] at p1 h
        rw [e1, e2, p1.2.1, p1.2.2]
        exact rquotient_ok xF (hWF y q2) (hnz y q2) p1.1 (fun M3 y1 y2 => h M3 y1 (FrF_trans (FrF_trans f3 p2) y2))
  have hiN : i < N := by omega
  have wF := wAtS_Fr hrr (haL i hiN) (i + 1) (by omega)
  -- the end of a round: how far (t), times what it is worth, to the sum
  have b91 : ∀ (M2 : Mem) (t : Q2) (c d : Int), FrF M1 M2 → FrO t → (∀ x, t = some x → c = x.1 ∧ d = x.2) → fb M2 189 8 = ((rst f (S i)).isNone || t.isNone) → rst f (S (i + 1)) = ob addq (rst f (S i)) (ob mulq t (wAtS (rrS (M 190) (M 191) noY) (am i) (i + 1))) → wp_X12_worthAt 189 row (i : Int) M2 (fun M95 => wp_X12_product 189 c d (M95 189 9) (M95 189 10) M95 (fun M111 => wp_X12_sum 189 x7 x9 (M111 189 9) (M111 189 10) M111 (fun M127 => (∃ i' : Nat, (i : Int) + 1 = (i' : Int) ∧ i' ≤ N ∧ fb M127 189 8 = (rst f (S i')).isNone ∧ (∀ x, rst f (S i') = some x → M127 189 9 = x.1 ∧ M127 189 10 = x.2) ∧ FrF M M127) ∧ (5 - ((i : Int) + 1)).toNat < (5 - (i : Int)).toNat))) := by
    intro M2 t c d hF2 htF htv hfl he
    have fr2 : FrF M M2 := FrF_trans f3 hF2
    obtain ⟨s1, s2, s3, -⟩ := FrF_ref hR fr2
    refine worthAt_ok s1 hfl (AmtOK_F hA fr2) (by rw [s2, hN']; exact hiN) (fun M3 p1 p2 => ?_)
    rw [s2, s3] at p1
    have fin : ∀ M5 : Mem, RF M5 (rst f (S (i + 1))) → FrF M3 M5 → (∃ i' : Nat, (i : Int) + 1 = (i' : Int) ∧ i' ≤ N ∧ fb M5 189 8 = (rst f (S i')).isNone ∧ (∀ x, rst f (S i') = some x → M5 189 9 = x.1 ∧ M5 189 10 = x.2) ∧ FrF M M5) ∧ (5 - ((i : Int) + 1)).toNat < (5 - (i : Int)).toNat := fun M5 q1 q2 => ⟨⟨i + 1, by omega, by omega, RF_flag q1, RF_acc q1, FrF_trans fr2 (FrF_trans p2 q2)⟩, by omega⟩
    rw [he] at fin
    cases q : rst f (S i) with
    | none =>
      rw [q] at p1 fin
      have p1 : RF M3 none := p1
      exact rproduct_great p1 (fun M4 y1 y2 => rsum_great y1 (fun M5 z1 z2 => fin M5 z1 (FrF_trans y2 z2)))
    | some x =>
      rw [q] at p1 fin f2
      have p1 : RF M3 (rst t.isNone (wAtS (rrS (M 190) (M 191) noY) (am i) (i + 1))) := p1
      have hmul : ob mulq t (rst t.isNone (wAtS (rrS (M 190) (M 191) noY) (am i) (i + 1))) = ob mulq t (wAtS (rrS (M 190) (M 191) noY) (am i) (i + 1)) := by
        cases t with
        | none => rfl
        | some y => rfl
      refine rproduct2_ok htF (rst_Fr wF) htv (fun z => ?_) p1 (fun M4 y1 y2 => ?_)
      · rw [z] at p1; exact p1
      rw [hmul] at y1
      refine accSum (p := some x) (q := ob mulq t (wAtS (rrS (M 190) (M 191) noY) (am i) (i + 1))) (FrO_some (rst_Fr (f := f) hw x q)) (ob_mul_Fr htF wF) f2 (fun z => by cases z) y1 (fun M5 z1 z2 => fin M5 z1 (FrF_trans y2 z2))
  have o1 := one_Fr hiN hN
  refine ⟨fun z => ?_, fun z => ?_⟩
  · refine b91 M1 (some ((i : Int) + 1, 1)) ((i : Int) + 1) 1 (FrF_refl _) (FrO_some o1) (fun x e => by cases e; exact ⟨rfl, rfl⟩) (by rw [f1]; simp) ?_
    rw [hS]
    simp only [z]
    exact rst_l _ _ _ _
  · obtain ⟨m1, m2, m3⟩ := hm z
    have hd := distS_Fr m1 hiN hN
    have eS : rst f (S (i + 1)) = ob addq (rst f (S i)) (ob mulq (ob mulq (distS mid i) (distS mid i)) (wAtS (rrS (M 190) (M 191) noY) (am i) (i + 1))) := by
      rw [hS]
      simp only [z]
      exact rst_l _ _ _ _
    -- where a sum so far is GREAT, so is all
    by_cases g : (rst f (S i)).isNone = true
    · have gn : rst f (S i) = none := by
        cases q : rst f (S i) with
        | none => rfl
        | some x => rw [q] at g; cases g
      rw [g] at f1
      refine rproduct_great f1 (fun M2 p1 p2 => rsum_great p1 (fun M3 q1 q2 => rproduct_great q1 (fun M4 y1 y2 => ?_)))
      refine b91 M4 none _ _ (FrF_trans p2 (FrF_trans q2 y2)) FrO_none (fun x e => by cases e) (by rw [show fb M4 189 8 = true from y1]; simp) ?_
      rw [eS, gn]
      rfl
    · have fe : f = false := by
        cases f
        · rfl
        · exact absurd rfl g
      have f1' : fb M1 189 8 = false := by rw [f1]; exact bfalse g
      obtain ⟨mx, emx⟩ : ∃ x, mid = some x := by
        rw [fe] at m3
        cases mid with
        | none => cases m3
        | some x => exact ⟨x, rfl⟩
      refine rneg_ok m1 m2 (by rw [f1', ← m3, fe]) (fun M2 p1 p2 => ?_)
      have nF := map_neg_Fr m1
      rw [emx] at p1 nF
      have p1 : RF M2 (some (negq mx)) := p1
      have iR : w32 (i : Int) = (i : Int) := w32n (by omega)
      refine accSum (p := some ((i : Int) + 1, 1)) (q := some (negq mx)) (FrO_some o1) nF (fun x e => by cases e; exact ⟨rfl, rfl⟩) (fun z => by cases z) p1 (fun M3 q1 q2 => ?_)
      have eD : ob addq (some ((i : Int) + 1, 1)) (some (negq mx)) = distS mid i := by rw [emx]; rfl
      rw [eD] at q1
      refine rproduct2_ok hd hd (RF_acc q1) (fun z => by rw [z] at q1; exact q1) q1 (fun M4 y1 y2 => ?_)
      refine b91 M4 (ob mulq (distS mid i) (distS mid i)) _ _ (FrF_trans p2 (FrF_trans q2 y2)) (ob_mul_Fr hd hd) (RF_acc y1) ?_ eS
      rw [RF_flag y1]
      have : (rst f (S i)).isNone = false := bfalse g
      rw [this]
      rfl
