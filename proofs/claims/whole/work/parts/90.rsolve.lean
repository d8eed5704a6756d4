/-! the reference's exchanges to their end -/
theorem rsolve_ok {n H : Nat} {on : Nat → Bool} {key : Nat → Nat} (K : KeyOK n H on key) {D : QD} (g : GoodQ n on D) (t : TailQ n on D) {m : Nat} {c : Int} (hE : EndQ n on D m c) {M : Mem} (hf : fb M 189 8 = false) (hM : DicR n H key M D) {Q : Int → Mem → Prop} (h : ∀ M' : Mem, FrZ M M' → (0 ≤ endS m c → fb M' 189 8 = false ∧ DicR n H key M' (seqS n on D m)) → Q (endS m c) M') : wp_X12_solved_L11 189 Q M 0 := by
  obtain ⟨m16, hc, hm⟩ := hE
  refine ⟨fun M' x1 => ∃ i : Nat, x1 = (i : Int) ∧ i ≤ m ∧ FrZ M M' ∧ ((fb M' 189 8 = true ∧ ¬ okQ n on (seqS n on D i)) ∨ (fb M' 189 8 = false ∧ DicR n H key M' (seqS n on D i))), fun _ x1 => ((16384 : Int) - x1).toNat, ⟨0, rfl, Nat.zero_le _, FrZ_refl M, Or.inr ⟨hf, hM⟩⟩, ?_⟩
  rintro M1 x1 ⟨i, rfl, hi, f1, f2⟩
  obtain ⟨gi, ti⟩ := seq_all g t hm i hi
  have Ni := GoodQ_num gi
  have wi := gi.1
  have st : ∀ v, stopS n on (seqS n on D i) = some v → i = m ∧ v = c := fun v hv => by
    clear f2
    rcases Nat.lt_or_ge i m with q | q
    · rw [hm i q] at hv
      cases hv
    · have : i = m := by omega
      subst this
      rw [hc] at hv
      cases hv
      exact ⟨rfl, rfl⟩
  unfold wp_X12_solved_B11
  dsimp only
  rcases f2 with ⟨z1, z2⟩ | ⟨z1, hD⟩
  · refine ⟨fun _ => ?_, fun z => absurd (z1.symm.trans z) (fun q => by cases q)⟩
    obtain ⟨rfl, rfl⟩ := st (-7) (by unfold stopS; rw [if_neg (fun q => z2 (okB_iff.mp q))])
    exact h M1 f1 (fun z => absurd z (endS_7 _))
  refine ⟨fun z => absurd (z1.symm.trans z) (fun q => by cases q), fun _ => ?_⟩
  have so : stopS n on (seqS n on D i) = (match lvS on (seqS n on D i) with | none => some 0 | some l => match enUp (seqS n on D i) l n with | none => some (-7) | some none => some (-8) | some (some _) => none) := by
    unfold stopS
    rw [if_pos (okB_iff.mpr (DicR_ok K hD))]
    rfl
  refine leaves_ok K wi Ni hD (fun r hr => ?_)
  rcases hr with ⟨rfl, hr⟩ | ⟨p, rfl, hp, hr⟩
  · refine ⟨fun z => absurd rfl z, fun _ => ?_⟩
    obtain ⟨rfl, rfl⟩ := st 0 (by rw [so, hr])
    exact h M1 f1 (fun _ => ⟨z1, hD⟩)
  have p9 : p < 9 := by have := K.1; omega
  refine ⟨fun _ => ?_, fun z => absurd z (by rw [w32n (show p < 2147483648 by omega), wm_1]; omega)⟩
  refine enters_ok K wi Ni hp z1 hD (fun r M2 hF hr2 => ?_)
  have f2 : FrZ M M2 := FrZ_trans f1 (FrZ_F hF)
  rw [hr] at so
  dsimp only at so
  rcases hr2 with ⟨y1, y2⟩ | ⟨y1, ⟨y2, rfl⟩ | ⟨e, y2, rfl, he, ha⟩⟩
  · refine ⟨fun z => absurd (y1.symm.trans z) (fun q => by cases q), fun _ => ?_⟩
    obtain ⟨rfl, rfl⟩ := st (-7) (by rw [so, y2])
    exact h M2 f2 (fun z => absurd z (endS_7 _))
  · refine ⟨fun _ => ⟨fun z => absurd rfl z, fun _ => ?_⟩, fun z => absurd (y1.symm.trans z) (fun q => by cases q)⟩
    obtain ⟨rfl, rfl⟩ := st (-8) (by rw [so, y2])
    exact h M2 f2 (fun z => absurd z (endS_8 _))
  · have e5 : e < 5 := by have := K.2.1; omega
    refine ⟨fun _ => ⟨fun _ => ?_, fun z => absurd z (by rw [w32n (show e < 2147483648 by omega), wm_1]; omega)⟩, fun z => absurd (y1.symm.trans z) (fun q => by cases q)⟩
    rw [y2] at so
    have im : i < m := by
      rcases Nat.lt_or_ge i m with q | q
      · exact q
      · have : i = m := by omega
        subst this
        rw [hc] at so
        cases so
    have nx : seqS n on D (i + 1) = exchQ n (seqS n on D i) (key p) e := by
      show nxtS n on (seqS n on D i) = _
      unfold nxtS
      rw [hr]
      dsimp only
      rw [y2]
    have hD2 : DicR n H key M2 (seqS n on D i) := by
      obtain ⟨a1, a2, a3, a4, a5⟩ := hD
      have row : ∀ r b s, RwR n M1 r b s → RwR n M2 r b s := fun r b s q => ⟨CQ_same q.1 (hF _ _ (by omega)) (hF _ _ (by omega)), fun j hj => CQ_same (q.2 j hj) (hF _ _ (by omega)) (hF _ _ (by omega))⟩
      exact ⟨by rw [hF 189 3 (by omega)]; exact a1, by rw [hF 189 11 (by omega)]; exact a2, fun r hr => ⟨by rw [hF 196 r (by omega)]; exact (a3 r hr).1, row _ _ _ (a3 r hr).2⟩, row _ _ _ a4, fun j hj => by rw [hF 197 j (by omega)]; exact a5 j hj⟩
    refine rexch_ok K wi hp he ha y1 hD2 (fun M3 q1 q2 => ?_)
    rw [← nx] at q2
    exact ⟨⟨i + 1, rfl, im, FrZ_trans f2 q1, q2⟩, by omega⟩
