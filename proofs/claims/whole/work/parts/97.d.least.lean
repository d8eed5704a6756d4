/-! LEAST of the reference, and what is told of it -/
theorem stop_vals {n : Nat} {on : Nat → Bool} {D : QD} {c : Int} (h : stopS n on D = some c) : c = 0 ∨ c = -7 ∨ c = -8 := by
  unfold stopS at h
  split at h
  · cases z : lvS on D with
    | none =>
      rw [z] at h
      cases h
      exact Or.inl rfl
    | some l =>
      rw [z] at h
      dsimp only at h
      cases y : enUp D l n with
      | none =>
        rw [y] at h
        cases h
        exact Or.inr (Or.inl rfl)
      | some r =>
        rw [y] at h
        cases r with
        | none =>
          cases h
          exact Or.inr (Or.inr rfl)
        | some e => cases h
  · cases h
    exact Or.inr (Or.inl rfl)
theorem endS_R {n : Nat} {on : Nat → Bool} {D : QD} {m : Nat} {c : Int} (h : EndQ n on D m c) : -8 ≤ endS m c ∧ endS m c < 16384 := by
  have v := stop_vals h.2.1
  have := h.1
  unfold endS
  split <;> omega
theorem End_good {DK : Mem → Prop} {M : Mem} (hI : Inv DK M) {m : Nat} {c : Int} (hE : EndQ (nMq M) (onq M) (D0q M) m c) : GoodQ (nMq M) (onq M) (seqS (nMq M) (onq M) (D0q M) m) := by
  obtain ⟨g, t, -⟩ := start_ok (DatR_of hI)
  exact (seq_all g t hE.2.2 m (Nat.le_refl _)).1
theorem Dq_same {M M2 : Mem} (e : ∀ k, 189 ≤ k → M2 k = M k) : nMq M2 = nMq M ∧ onq M2 = onq M ∧ D0q M2 = D0q M ∧ rMq M2 = rMq M := by
  have e3 : tMq M2 = tMq M := by unfold tMq; rw [e 193 (by decide)]
  have e1 : nMq M2 = nMq M := by unfold nMq; rw [e 189 (by decide)]
  refine ⟨e1, ?_, ?_, ?_⟩
  · unfold onq lMq; rw [e 190 (by decide), e 192 (by decide)]
  · unfold D0q rMq vMq dMq lMq pMq; rw [e1, e3, e 190 (by decide), e 191 (by decide), e 192 (by decide)]
  · unfold rMq; rw [e 190 (by decide), e 191 (by decide)]
theorem RAq_RF {M : Mem} {q : Q2} (h : RAq M q) (hf : fb M 189 8 = false) : RF M q := by
  obtain ⟨x, rfl, a, b⟩ := h
  exact ⟨hf, a, b⟩
theorem DicR_F {n H : Nat} {key : Nat → Nat} {M M' : Mem} {D : QD} (h : DicR n H key M D) (f : FrF M M') : DicR n H key M' D := by
  obtain ⟨a1, a2, a3, a4, a5⟩ := h
  have row : ∀ r b s, RwR n M r b s → RwR n M' r b s := fun r b s q => ⟨CQ_same q.1 (f _ _ (by omega)) (f _ _ (by omega)), fun j hj => CQ_same (q.2 j hj) (f _ _ (by omega)) (f _ _ (by omega))⟩
  exact ⟨by rw [f 189 3 (by omega)]; exact a1, by rw [f 189 11 (by omega)]; exact a2, fun r hr => ⟨by rw [f 196 r (by omega)]; exact (a3 r hr).1, row _ _ _ (a3 r hr).2⟩, row _ _ _ a4, fun j hj => by rw [f 197 j (by omega)]; exact a5 j hj⟩
theorem X12_solved_ok {DK : Mem → Prop} {M : Mem} (hI : Inv DK M) {Q : Int → Mem → Prop} (h : ∀ (M' : Mem) (m : Nat) (c : Int), EndQ (nMq M) (onq M) (D0q M) m c → FrZ M M' → (0 ≤ endS m c → ∃ (H : Nat) (key : Nat → Nat), KeyOK (nMq M) H (onq M) key ∧ DicR (nMq M) H key M' (seqS (nMq M) (onq M) (D0q M) m) ∧ fb M' 189 8 = false) → Q (endS m c) M') : wp_X12_solved 189 M Q := by
  obtain ⟨n1, n2⟩ := Inv_n hI
  have hn : (nMq M : Int) = M 189 3 := by unfold nMq; omega
  have hg := DatR_of hI
  obtain ⟨g, t, -⟩ := start_ok hg
  obtain ⟨m, m1, m2, m3⟩ := ends_soon (onS_lt _ _) g
  obtain ⟨c, hc⟩ : ∃ c, stopS (nMq M) (onq M) (seqS (nMq M) (onq M) (D0q M) m) = some c := by
    cases q : stopS (nMq M) (onq M) (seqS (nMq M) (onq M) (D0q M) m) with
    | none => exact absurd q m2
    | some c => exact ⟨c, rfl⟩
  have hE : EndQ (nMq M) (onq M) (D0q M) m c := ⟨m1, hc, m3⟩
  unfold wp_X12_solved
  intro M2 hM2
  have f2 : FrZ M M2 := fun k c q1 _ => by rw [hM2]; exact st2_n _ _ (by omega)
  have hf2 : fb M2 189 8 = false := by rw [hM2]; exact fb_s _ _ _ _
  clear hM2
  obtain ⟨r1, r2, r3, r4, r5, r6, r7⟩ := FrZ_ref (Inv_RefOK hI) f2
  refine begins_ok r1 hf2 hg (by rw [r2]) (by rw [r6]; exact hn.symm) (by rw [r2, r3]; rfl) (fun j hj i hi => ?_) (fun i hi => by rw [r2]; rfl) (fun i hi => by rw [r2, r4]; rfl) (fun j hj => ?_) (fun M3 H key K hD hf3 f3 => ?_)
  · rw [r2, r3, r5]
    unfold vMq
    exact payAt_congr (t := M 193) (t' := tMq M) (fun j hj => by unfold tMq; rw [if_pos hj]) (by omega) _ _ _
  · rw [r5]
    unfold pMq tMq
    rw [if_pos (by omega)]
  · exact rsolve_ok K g t hE hf3 hD (fun M4 f4 z => h M4 m c hE (FrZ_trans f2 (FrZ_trans f3 f4)) (fun w => ⟨H, key, K, (z w).2, (z w).1⟩))
theorem step_15 : Step_15 (Inv DKs) := by
  intro M hI
  unfold wp_X11_least
  refine X11_solve_ok hI (fun M1 hI1 hD1 _ he => ?_)
  dsimp only
  unfold wp_X12_least
  obtain ⟨m, c, H, key, hE, h14, -⟩ := id hD1
  refine X12_solved_ok hI1 (fun M2 m' c' hE' hF _ => ?_)
  obtain ⟨rfl, rfl⟩ := EndQ_uni hE hE'
  exact ⟨by rw [h14], Inv_FrZ DKs_kept hI1 hF⟩
theorem ref_amount {M : Mem} (hI : Inv DKs M) {a1 a2 : Int} (h1 : R32 a1) (h2 : R32 a2) (hb : a1 = -1 ∨ (0 ≤ a1 ∧ a1 < M 189 3)) (hp : 0 ≤ a2 ∧ a2 ≤ 1) {m : Nat} {c : Int} (hE : EndQ (nMq M) (onq M) (D0q M) m c) {r : Int} (hr : 0 ≤ endS m c → ∃ q, r = partq q a2 ∧ (a1 = -1 → q = (seqS (nMq M) (onq M) (D0q M) m).B 9) ∧ ∀ v : Nat, a1 = (v : Int) → IsAmt (onq M) (seqS (nMq M) (onq M) (D0q M) m) v q) (hr2 : ¬ 0 ≤ endS m c → r = -9223372036854775808) : wp_X12_amount 189 a1 a2 M (fun r2 M2 => w64 r = w64 r2 ∧ Inv DKs M2) := by
  obtain ⟨n1, n2⟩ := Inv_n hI
  have N := GoodQ_num (End_good hI hE)
  have eb := endS_R hE
  have b13 : wp_X12_amount_b13 189 (fun r2 M2 => w64 r = w64 r2 ∧ Inv DKs M2) M a1 a2 := by
    unfold wp_X12_amount_b13
    rw [X12_within_iff, wl_0, wl_1, w32_R h2]
    refine dcf (fun _ => ?_) (fun z => absurd hp z)
    refine X12_solved_ok hI (fun M2 m' c' hE' hF hd => ?_)
    obtain ⟨rfl, rfl⟩ := EndQ_uni hE hE'
    have hI2 := Inv_FrZ DKs_kept hI hF
    rw [w32_id (z := endS m c) (by clear hr; omega) (by clear hr; omega)]
    refine ⟨fun u => ?_, fun u => ⟨by rw [hr2 u], hI2⟩⟩
    obtain ⟨H, key, K, hD, hf⟩ := hd u
    obtain ⟨q, rq, q1, q2⟩ := hr u
    refine rbare_ok K N hD h1 (fun M3 q' s1 s2 s3 => ?_)
    have hf3 : fb M3 189 8 = false := by rw [fb_eq (s3 189 8 (by clear hr; omega))]; exact hf
    have hI3 := Inv_FrZ DKs_kept hI2 (FrZ_F (FrA_F s3))
    rw [wm_1, w32_R h1]
    unfold wp_X12_amount_b65
    refine ⟨fun v => ?_, fun v => ?_⟩
    · obtain ⟨b, rfl⟩ : ∃ b : Nat, a1 = (b : Int) := ⟨a1.toNat, by clear hr; omega⟩
      have e := IsAmt_uni N (q2 b rfl) (s1 b rfl)
      subst e
      exact rpart_ok h2 (RAq_RF s2 hf3) ⟨by rw [rq], hI3⟩
    · have e := q1 (by clear hr; omega)
      have cq := CQ_same hD.2.2.2.1.1 (s3 198 9 (by clear hr; omega)) (s3 199 9 (by clear hr; omega))
      rw [← e] at cq
      obtain ⟨x, xe, x1, x2⟩ := cq
      have i9 : ix 9 = 9 := by decide
      rw [rt_189.2.2.1, rt_189.2.2.2.1, i9]
      refine ⟨inbz LN_198 (by decide) (by decide), ?_⟩
      rintro M4 rfl
      refine ⟨inbz LN_199 (by decide) (by decide), ?_⟩
      rintro M5 rfl
      obtain ⟨p1, p2⟩ := RF_set hf3 x1 (show st2 M3 189 9 (M3 198 9) 199 9 = x.2 by rw [st2_n _ _ (by clear hr; omega)]; exact x2)
      rw [← xe] at p1
      exact rpart_ok h2 p1 ⟨by rw [rq], Inv_FrZ DKs_kept hI3 (FrZ_F p2)⟩
  unfold wp_X12_amount
  rw [wm_1, w32_R h1]
  refine ⟨fun _ => b13, fun u => ?_⟩
  rw [isBond_iff rfl n2 h1]
  exact dcf (fun _ => b13) (fun z => absurd (by clear hr; omega) z)
theorem step_16 : Step_16 (Inv DKs) := by
  intro M hI a1 a2 h1 h2
  obtain ⟨n1, n2⟩ := Inv_n hI
  have bad : ¬ ((a1 = -1 ∨ (0 ≤ a1 ∧ a1 < M 189 3)) ∧ (0 ≤ a2 ∧ a2 ≤ 1)) → wp_X12_amount 189 a1 a2 M (fun r2 M2 => w64 (-9223372036854775808) = w64 r2 ∧ Inv DKs M2) := by
    intro nz
    have b13 : (a1 = -1 ∨ (0 ≤ a1 ∧ a1 < M 189 3)) → wp_X12_amount_b13 189 (fun r2 M2 => w64 (-9223372036854775808) = w64 r2 ∧ Inv DKs M2) M a1 a2 := fun z => by
      unfold wp_X12_amount_b13
      rw [X12_within_iff, wl_0, wl_1, w32_R h2]
      exact dcf (fun z2 => absurd ⟨z, z2⟩ nz) (fun _ => ⟨rfl, hI⟩)
    unfold wp_X12_amount
    rw [wm_1, w32_R h1]
    refine ⟨fun z => b13 (Or.inl z), fun _ => ?_⟩
    rw [isBond_iff rfl n2 h1]
    exact dcf (fun z => b13 (Or.inr z)) (fun _ => ⟨rfl, hI⟩)
  have b16 : (a1 = -1 ∨ (0 ≤ a1 ∧ a1 < M 189 3)) → wp_X11_amount_b16 0 (fun r M1 => wp_X12_amount 189 a1 a2 M1 (fun r2 M2 => w64 r = w64 r2 ∧ Inv DKs M2)) M a1 a2 := by
    intro hb
    unfold wp_X11_amount_b16 wp_X11_isPart
    rw [X11_within_iff, wl_0, wl_1, w32_R h2]
    refine dct (fun hp => ?_) (fun z => bad (fun w => z w.2))
    refine X11_solve_ok hI (fun M1 hI1 hD1 hS1 he => ?_)
    obtain ⟨m, c, H, key, hE, h14, hd⟩ := id hD1
    have eb := endS_R hE
    have N := GoodQ_num (End_good hI1 hE)
    have hb1 : a1 = -1 ∨ (0 ≤ a1 ∧ a1 < M1 189 3) := by rw [he 189 (by decide)]; exact hb
    have e0 : rt 0 12 = 87 ∧ rt 0 11 = 86 ∧ rt 88 1 = 89 := by decide +kernel
    rw [h14, w32_id (z := endS m c) (by omega) (by omega), wm_1, w32_R h1, e0.1, e0.2.1, rt_87.1, e0.2.2]
    refine ⟨fun u => ?_, fun u => ref_amount hI1 h1 h2 hb1 hp hE (fun z => absurd z u) (fun _ => rfl)⟩
    obtain ⟨K, hDc⟩ := hd u
    refine ⟨fun v => ?_, fun v => ?_⟩
    · obtain ⟨b, rfl⟩ : ∃ b : Nat, a1 = (b : Int) := ⟨a1.toNat, by omega⟩
      refine amountOf_ok K N hDc (by omega) (Or.inl (by decide)) (fun M2 q t1 t2 t3 => part_ok h2 t2 ?_)
      have row : ∀ k, 189 ≤ k → M2 k = M1 k := fun k hk => funext fun j => t3 k j (by omega)
      obtain ⟨d1, d2, d3, -⟩ := Dq_same row
      refine ref_amount (Inv_FrW DKs_kept hI1 (fun k j z => t3 k j (by omega))) h1 h2 (by rw [row 189 (by decide)]; exact hb1) hp (m := m) (c := c) (by rw [d1, d2, d3]; exact hE) (fun _ => ⟨q, rfl, fun z => absurd z (by omega), fun v hv => ?_⟩) (fun z => absurd u z)
      rw [d1, d2, d3]
      obtain rfl : b = v := by omega
      exact t1
    · have a1e : a1 = -1 := by omega
      subst a1e
      exact part_ok h2 hDc.2.2.2.1.1 (ref_amount hI1 h1 h2 hb1 hp hE (fun _ => ⟨_, rfl, fun _ => rfl, fun v hv => absurd hv (by omega)⟩) (fun z => absurd u z))
  unfold wp_X11_amount
  rw [wm_1, w32_R h1]
  refine ⟨fun z => b16 (Or.inl z), fun z0 => ?_⟩
  rw [rtv_0_0, hasBond_iff n1 n2 h1]
  exact dcf (fun z => b16 (Or.inr z)) (fun z => bad (fun w => w.1.elim z0 z))
