/-! the reference reckons worths -/
def rst (f : Bool) (q : Q2) : Q2 := if f then none else q
theorem rst_Fr {f : Bool} {q : Q2} (h : FrO q) : FrO (rst f q) := by
  cases f
  · exact h
  · exact FrO_none
theorem rst_none (f : Bool) : rst f none = none := by cases f <;> rfl
theorem rst_l (g : Int × Int → Int × Int → Q2) (f : Bool) (p q : Q2) : rst f (ob g p q) = ob g (rst f p) q := by cases f <;> rfl
theorem FrF_ref {M M' : Mem} {y : F1} (hR : RefOK M y) (h : FrF M M') : RefOK M' y ∧ M' 190 = M 190 ∧ M' 191 = M 191 ∧ M' 192 = M 192 ∧ M' 193 = M 193 ∧ M' 189 3 = M 189 3 ∧ M' 189 5 = M 189 5 := by
  have row : ∀ k, k ≠ 189 → M' k = M k := fun k a => funext fun j => h k j (by omega)
  have e3 := h 189 3 (by omega)
  have e5 := h 189 5 (by omega)
  exact ⟨RefOK_same hR (row 190 (by decide)) (row 191 (by decide)) (row 192 (by decide)) (row 193 (by decide)) (row 194 (by decide)) (row 195 (by decide)) e3 e5, row 190 (by decide), row 191 (by decide), row 192 (by decide), row 193 (by decide), e3, e5⟩
theorem RefOK_rr {M : Mem} (hR : RefOK M noY) {i : Nat} (hi : i < rungs (M 190)) : 0 ≤ rrS (M 190) (M 191) noY i ∧ rrS (M 190) (M 191) noY i ≤ 9 := RefOK_by hR (dayS_ok hi).2.1
theorem rfactor_ok {M : Mem} (hR : RefOK M noY) {i : Nat} (hi : i < rungs (M 190)) {Q : Int → Prop} (h : Q (4 + rrS (M 190) (M 191) noY i)) : wp_X12_factor 189 (i : Int) M Q := by
  have hN := hR.2.1
  have hd := dayS_ok hi
  unfold wp_X12_factor
  rw [rtv_189_6, ixn (show i < 2147483648 from Nat.lt_of_lt_of_le hi (Nat.le_trans hN (by decide))), hR.2.2.2.1 i hi]
  refine ⟨inbn LN_194 (Nat.lt_of_lt_of_le hi hN), rateOf_ok hd.2.1 (fun k hk => ⟨(hR.1 k hk).2.2.1, (hR.1 k hk).2.2.2.1⟩) ?_⟩
  unfold rrS at h
  rw [rateByS_noY] at h
  exact h
theorem byFactor_ok {M : Mem} (hR : RefOK M noY) {i : Nat} (hi : i < rungs (M 190)) {q : Q2} (hq : FrO q) (ha : RF M q) {dv : Bool} {Q : Mem → Prop} (h : ∀ M' : Mem, RF M' (if dv then ob divq q (fac (rrS (M 190) (M 191) noY i)) else ob mulq q (fac (rrS (M 190) (M 191) noY i))) → FrF M M' → Q M') : wp_X12_byFactor 189 (i : Int) dv M Q := by
  have rr := RefOK_rr hR hi
  obtain ⟨fF, y, ey, yF, y0⟩ := fac_ok rr
  refine rfactor_ok hR hi ?_
  rw [w32_id (z := 4 + rrS (M 190) (M 191) noY i) (by omega) (by omega)]
  cases q with
  | none =>
    refine lowest_great ha (fun M1 p1 p2 => ⟨fun z => ?_, fun z => ?_⟩)
    · exact rproduct_great p1 (fun M2 q1 q2 => h M2 (by rw [z]; exact q1) (FrF_trans p2 q2))
    · exact rquotient_great p1 (fun M2 q1 q2 => h M2 (by rw [z]; exact q1) (FrF_trans p2 q2))
  | some x =>
    have xF := hq x rfl
    refine lowest_ok ha.1 ⟨by omega, by omega⟩ ⟨by decide, by decide⟩ (fun M1 p1 p2 => ?_)
    have p1 : RF M1 (fac (rrS (M 190) (M 191) noY i)) := p1
    rw [ey] at p1 h
    rw [ha.2.1, ha.2.2, p1.2.1, p1.2.2]
    obtain ⟨x1, x2, x3⟩ := Fr_in xF
    obtain ⟨y1, y2, y3⟩ := Fr_in yF
    refine ⟨fun z => ?_, fun z => ?_⟩
    · exact rproduct_ok ⟨x1, x2⟩ ⟨y1, y2⟩ (Int.mul_pos x3 y3) p1.1 (fun M2 q1 q2 => h M2 (by rw [z]; exact q1) (FrF_trans p2 q2))
    · exact rquotient_ok xF yF (by omega) p1.1 (fun M2 q1 q2 => h M2 (by rw [z]; exact q1) (FrF_trans p2 q2))
theorem RF_st {M : Mem} {f : Bool} (hf : fb M 189 8 = f) (x : Int × Int) : RF (st2 (st2 M 189 9 x.1) 189 10 x.2) (rst f (some x)) := by
  have e : fb (st2 (st2 M 189 9 x.1) 189 10 x.2) 189 8 = f := by rw [fb_n _ _ (by omega), fb_n _ _ (by omega)]; exact hf
  cases f
  · exact ⟨e, by rw [st2_n _ _ (by omega), st2_s], st2_s _ _ _ _⟩
  · exact e
theorem FrF_st (M : Mem) (a b : Int) : FrF M (st2 (st2 M 189 9 a) 189 10 b) := fun k j q => by rw [st2_n _ _ (by omega), st2_n _ _ (by omega)]
/-- a row's amounts, as the reference tells them in a like state -/
def AmtOK (M : Mem) (row : Int) (am : F1) : Prop := ∀ M' : Mem, FrF M M' → ∀ i, i < rungs (M 190) → R32 (am i) ∧ ∀ P : Int → Prop, P (am i) → wp_X12_amountAt 189 row (i : Int) M' P
theorem AmtOK_F {M M' : Mem} {row : Int} {am : F1} (h : AmtOK M row am) (hF : FrF M M') : AmtOK M' row am := fun M2 h2 i hi => h M2 (FrF_trans hF h2) i (by
  have : M' 190 = M 190 := funext fun j => hF 190 j (by omega)
  rw [← this]; exact hi)
theorem inL_R {z : Int} (h : R32 z) : inL z := ⟨by have := h.1; omega, by have := h.2; omega⟩
theorem worthAt_ok {M : Mem} (hR : RefOK M noY) {f : Bool} (hf : fb M 189 8 = f) {row : Int} {am : F1} (hA : AmtOK M row am) {i : Nat} (hi : i < rungs (M 190)) {Q : Mem → Prop} (h : ∀ M' : Mem, RF M' (rst f (wAtS (rrS (M 190) (M 191) noY) (am i) (i + 1))) → FrF M M' → Q M') : wp_X12_worthAt 189 row (i : Int) M Q := by
  obtain ⟨a1, a2⟩ := hA M (FrF_refl M) i hi
  have hN := hR.2.1
  have hrr : RR (rrS (M 190) (M 191) noY) (rungs (M 190)) := fun c hc => RefOK_rr hR hc
  unfold wp_X12_worthAt
  refine a2 _ ?_
  rw [w32_R a1]
  rintro M8 rfl M13 rfl
  refine ⟨fun M' x3 => ∃ k : Nat, x3 = (k : Int) ∧ k ≤ i + 1 ∧ RF M' (rst f (wAtS (rrS (M 190) (M 191) noY) (am i) k)) ∧ FrF M M', fun _ x3 => ((i : Int) + 1 - x3).toNat, ⟨0, rfl, Nat.zero_le _, RF_st hf (am i, 1), FrF_st _ _ _⟩, ?_⟩
  rintro M1 x3 ⟨k, rfl, hk, f1, f2⟩
  unfold wp_X12_worthAt_B18
  dsimp only
  have hi5 : i < 5 := Nat.lt_of_lt_of_le hi hN
  rw [w32n (show i < 2147483648 by clear hrr; omega), w32n (show k < 2147483648 by clear hrr; omega)]
  obtain ⟨r1, r2, r3, -⟩ := FrF_ref hR f2
  refine ⟨fun u => ?_, fun u => ?_⟩
  · have : k = i + 1 := by clear hrr; omega
    subst this
    exact h M1 f1 f2
  · have hk2 : k < rungs (M1 190) := by rw [r2]; exact Nat.lt_of_le_of_lt (show k ≤ i by clear hrr; omega) hi
    refine byFactor_ok r1 hk2 (rst_Fr (wAtS_Fr hrr (inL_R a1) k (Nat.le_trans hk hi))) f1 (dv := true) (fun M2 p1 p2 => ⟨⟨k + 1, by omega, by clear hrr; omega, ?_, FrF_trans f2 p2⟩, by clear hrr; omega⟩)
    rw [r2, r3] at p1
    have e : rst f (wAtS (rrS (M 190) (M 191) noY) (am i) (k + 1)) = ob divq (rst f (wAtS (rrS (M 190) (M 191) noY) (am i) k)) (fac (rrS (M 190) (M 191) noY k)) := rst_l _ _ _ _
    rw [e]
    exact p1
/-- a sum's next step, with what is there by numbers apart -/
theorem accSum {M : Mem} {p q : Q2} {a b : Int} (hp : FrO p) (hq : FrO q) (hacc : ∀ x, p = some x → a = x.1 ∧ b = x.2) (hpq : p = none → q = none ∨ fb M 189 8 = true) (ha : RF M q) {Q : Mem → Prop} (h : ∀ M' : Mem, RF M' (ob addq p q) → FrF M M' → Q M') : wp_X12_sum 189 a b (M 189 9) (M 189 10) M Q := by
  cases q with
  | none => exact rsum_great ha (fun M' q1 q2 => h M' (by rw [ob_r]; exact q1) q2)
  | some y =>
    cases p with
    | none =>
      rcases hpq rfl with z | z
      · cases z
      · exact rsum_great z (fun M' q1 q2 => h M' q1 q2)
    | some x =>
      obtain ⟨e1, e2⟩ := hacc x rfl
      rw [e1, e2, ha.2.1, ha.2.2]
      exact rsum_ok (hp x rfl) (hq y rfl) ha.1 h
theorem worthOf_ok {M : Mem} (hR : RefOK M noY) {f : Bool} (hf : fb M 189 8 = f) {row : Int} {am : F1} (hA : AmtOK M row am) {Q : Mem → Prop} (h : ∀ M' : Mem, RF M' (rst f (whS (rrS (M 190) (M 191) noY) am (rungs (M 190)))) → FrF M M' → Q M') : wp_X12_worthOf 189 row M Q := by
  have hN := hR.2.1
  have hrr : RR (rrS (M 190) (M 191) noY) (rungs (M 190)) := fun c hc => RefOK_rr hR hc
  have haL : ∀ i, i < rungs (M 190) → inL (am i) := fun i hi => inL_R (hA M (FrF_refl M) i hi).1
  have h05 := hR.2.2.1
  refine ⟨fun M' x2 x4 x6 => ∃ i : Nat, x6 = (i : Int) ∧ i ≤ rungs (M 190) ∧ fb M' 189 8 = (rst f (whS (rrS (M 190) (M 191) noY) am i)).isNone ∧ (∀ x, rst f (whS (rrS (M 190) (M 191) noY) am i) = some x → x2 = x.1 ∧ x4 = x.2) ∧ FrF M M', fun _ _ _ x6 => (5 - x6).toNat, ⟨0, rfl, Nat.zero_le _, ?_, fun x e => ?_, FrF_refl M⟩, ?_⟩
  · rw [hf]; cases f <;> rfl
  · cases f
    · cases e; exact ⟨rfl, rfl⟩
    · cases e
  rintro M1 x2 x4 x6 ⟨i, rfl, hi, f1, f2, f3⟩
  unfold wp_X12_worthOf_B8
  dsimp only
  obtain ⟨r1, r2, r3, -, -, -, r5⟩ := FrF_ref hR f3
  have hw := whS_Fr hrr haL i hi
  have hNN : ∀ c, c < rungs (M 190) ↔ c < rungs (M1 190) := fun c => by rw [r2]
  rw [r5, h05]
  generalize hN' : rungs (M 190) = N at *
  rw [w32n (show N < 2147483648 by omega), w32n (show i < 2147483648 by omega)]
  refine ⟨fun u => ?_, fun u => ?_⟩
  · have : i = N := by omega
    subst this
    rintro M58 rfl M64 rfl
    refine h _ ?_ (FrF_trans f3 (FrF_st _ _ _))
    cases q : rst f (whS (rrS (M 190) (M 191) noY) am i) with
    | none =>
      rw [q] at f1
      show fb _ _ _ = true
      rw [fb_n _ _ (by omega), fb_n _ _ (by omega)]
      exact f1
    | some x =>
      obtain ⟨e1, e2⟩ := f2 x q
      rw [q] at f1
      rw [e1, e2]
      exact RF_st (f := false) f1 x
  have hiN : i < N := by omega
  refine worthAt_ok r1 f1 (AmtOK_F hA f3) ((hNN i).mp hiN) (fun M2 p1 p2 => ?_)
  rw [r2, r3] at p1
  have e : rst f (whS (rrS (M 190) (M 191) noY) am (i + 1)) = ob addq (rst f (whS (rrS (M 190) (M 191) noY) am i)) (wAtS (rrS (M 190) (M 191) noY) (am i) (i + 1)) := rst_l _ _ _ _
  have wF := wAtS_Fr hrr (haL i hiN) (i + 1) (by omega)
  have key : ∀ M3 : Mem, RF M3 (rst f (whS (rrS (M 190) (M 191) noY) am (i + 1))) → FrF M2 M3 → (∃ i' : Nat, (i : Int) + 1 = (i' : Int) ∧ i' ≤ N ∧ fb M3 189 8 = (rst f (whS (rrS (M 190) (M 191) noY) am i')).isNone ∧ (∀ x, rst f (whS (rrS (M 190) (M 191) noY) am i') = some x → M3 189 9 = x.1 ∧ M3 189 10 = x.2) ∧ FrF M M3) ∧ (5 - ((i : Int) + 1)).toNat < (5 - (i : Int)).toNat := fun M3 q1 q2 => by
    refine ⟨⟨i + 1, by omega, by omega, RF_flag q1, fun x hx => ?_, FrF_trans f3 (FrF_trans p2 q2)⟩, by omega⟩
    rw [hx] at q1
    exact q1.2
  rw [e] at key
  cases q : rst f (whS (rrS (M 190) (M 191) noY) am i) with
  | none =>
    rw [q] at p1 key
    exact rsum_great p1 (fun M3 q1 q2 => key M3 q1 q2)
  | some x =>
    rw [q] at p1 key f2
    refine accSum (p := some x) (q := wAtS (rrS (M 190) (M 191) noY) (am i) (i + 1)) ?_ wF f2 (fun z => by cases z) p1 (fun M3 q1 q2 => key M3 q1 q2)
    intro y hy
    cases hy
    exact rst_Fr (f := f) hw x q
