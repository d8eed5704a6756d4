/-! the reference's exchange -/
theorem rexch_ok {n H : Nat} {on : Nat → Bool} {key : Nat → Nat} (K : KeyOK n H on key) {D : QD} (w : WFQ n on D) {r e : Nat} (hr : r < H) (he : e < n) (ha : above0 (D.S (key r) e) = true) {M : Mem} (hf : fb M 189 8 = false) (hM : DicR n H key M D) {Q : Int → Mem → Prop} {K11 : Mem → Int → Prop} {x1 : Int} (h : ∀ M' : Mem, FrZ M M' → ((fb M' 189 8 = true ∧ ¬ okQ n on (exchQ n D (key r) e)) ∨ (fb M' 189 8 = false ∧ DicR n H key M' (exchQ n D (key r) e))) → K11 M' (x1 + 1)) : wp_X12_turns 189 (r : Int) (e : Int) M (fun M57 => wp_X12_solved_L63 189 Q K11 M57 x1 (r : Int) (e : Int) 0) := by
  obtain ⟨k1, k2, k3, k4, -, k6⟩ := K
  obtain ⟨m1, m2, m3, m4, m5⟩ := hM
  have lo := (k3 r hr).2
  have l9 := (k3 r hr).1
  have l10 : key r < 10 := by omega
  have r9 : r < 9 := by omega
  have pF := pbQ_Fr w l10 lo he ha
  have sF : ∀ j, j < n → FrO (psQ D (key r) e j) := fun j hj => psQ_Fr w l10 lo ha hj
  have eqB : ∀ k, k ≠ key r → newB (D.B k) (pbQ D (key r) e) (D.S k) e = (exchQ n D (key r) e).B k := fun k hk => by rw [exq_B, if_neg hk]; rfl
  have eqS : ∀ k, k ≠ key r → ∀ j, j < n → newS (D.S k) (psQ D (key r) e) e j = (exchQ n D (key r) e).S k j := fun k hk j hj => by rw [exq_S, if_neg (by omega), if_neg hk]; rfl
  have badB : ∀ k, k < 10 → on k = true → (exchQ n D (key r) e).B k = none → ¬ okQ n on (exchQ n D (key r) e) := fun k hk o z ok => (ok k hk o).1 z
  have badS : ∀ k, k < 10 → on k = true → (∃ j, j < n ∧ (exchQ n D (key r) e).S k j = none) → ¬ okQ n on (exchQ n D (key r) e) := fun k hk o ⟨j, hj, z⟩ ok => (ok k hk o).2 j hj z
  have lB : (exchQ n D (key r) e).B (key r) = pbQ D (key r) e := by rw [exq_B, if_pos rfl]
  have lS : ∀ j, j < n → (exchQ n D (key r) e).S (key r) j = psQ D (key r) e j := fun j hj => by rw [exq_S, if_neg (by omega), if_pos rfl]
  refine turns_ok k2 r9 he m1 (w _ l10 lo).1 (w _ l10 lo).2 ha hf (m3 r hr).2 (fun M1 t1 t2 t3 t4 => ?_)
  have s4 : (fb M1 189 8 = true ∧ ¬ okQ n on (exchQ n D (key r) e)) ∨ (fb M1 189 8 = false ∧ RwR n M1 r (pbQ D (key r) e) (psQ D (key r) e)) := by
    rcases t4 with ⟨z, y⟩ | z
    · refine Or.inl ⟨z, ?_⟩
      rcases y with y | ⟨j, hj, y⟩
      · exact badB _ l10 lo (by rw [lB]; exact y)
      · exact badS _ l10 lo ⟨j, hj, by rw [lS j hj]; exact y⟩
    · exact Or.inr z
  clear t4
  have h3 : M1 189 3 = (n : Int) := by rw [t1 189 3 (by omega) (by omega) (by omega) (by omega) (by omega) (by omega)]; exact m1
  have h11 : M1 189 11 = (H : Int) := by rw [t1 189 11 (by omega) (by omega) (by omega) (by omega) (by omega) (by omega)]; exact m2
  have old : ∀ i b s, i ≠ r → RwR n M i b s → RwR n M1 i b s := fun i b s q hd => ⟨CQ_same hd.1 (t1 _ _ (by omega) (by omega) (by omega) (by omega) (by omega) (by omega)) (t1 _ _ (by omega) (by omega) (by omega) (by omega) (by omega) (by omega)), fun j hj => CQ_same (hd.2 j hj) (t1 _ _ (by omega) (by omega) (by omega) (by omega) (by omega) (by omega)) (t1 _ _ (by omega) (by omega) (by omega) (by omega) (by omega) (by omega))⟩
  have n196 : ∀ i, i < H → M1 196 i = ((exchQ n D (key r) e).num (key i) : Int) := fun i hi => by
    rw [exq_num]
    by_cases q : i = r
    · subst q
      rw [if_pos rfl, t2]
      exact m5 e he
    · rw [if_neg (fun z => q (k4 i r hi hr z)), t1 196 i (by omega) (by omega) (by omega) (by omega) (by omega) (by omega)]
      exact (m3 i hi).1
  have n197 : ∀ j, j < n → M1 197 j = ((exchQ n D (key r) e).so j : Int) := fun j hj => by
    rw [exq_so]
    by_cases q : j = e
    · subst q
      rw [if_pos rfl, t3]
      exact (m3 r hr).1
    · rw [if_neg q, t1 197 j (by omega) (by omega) (by omega) (by omega) (by omega) (by omega)]
      exact m5 j hj
  refine ⟨fun M' x4 => ∃ k : Nat, x4 = (k : Int) ∧ k ≤ H ∧ FrZ M1 M' ∧ M' 189 11 = (H : Int) ∧ (∀ c, M' 196 c = M1 196 c) ∧ (∀ c, M' 197 c = M1 197 c) ∧ ((fb M' 189 8 = true ∧ ¬ okQ n on (exchQ n D (key r) e)) ∨ (fb M' 189 8 = false ∧ RwR n M' r (pbQ D (key r) e) (psQ D (key r) e) ∧ (∀ i, i < k → i ≠ r → RwR n M' i ((exchQ n D (key r) e).B (key i)) ((exchQ n D (key r) e).S (key i))) ∧ (∀ i, k ≤ i → i < H → i ≠ r → RwR n M' i (D.B (key i)) (D.S (key i))) ∧ RwR n M' 9 (D.B 9) (D.S 9))), fun _ x4 => ((H : Int) - x4).toNat, ⟨0, rfl, Nat.zero_le _, FrZ_refl M1, h11, fun _ => rfl, fun _ => rfl, ?_⟩, ?_⟩
  · rcases s4 with z | ⟨z, y⟩
    · exact Or.inl z
    · exact Or.inr ⟨z, y, fun _ q => absurd q (Nat.not_lt_zero _), fun i _ hi q => old i _ _ q (m3 i hi).2, old 9 _ _ (by omega) m4⟩
  clear s4
  rintro M2 x4 ⟨k, rfl, hk, f1, f2, f3, f4, f5⟩
  unfold wp_X12_solved_B63 wp_X12_solved_b86
  dsimp only
  have μk : k < H → ((H : Int) - ((k : Int) + 1)).toNat < ((H : Int) - (k : Int)).toNat := fun z => by clear f5; omega
  have h3' : M2 189 3 = (n : Int) := by rw [f1 189 3 (by clear f5; omega) (by clear f5; omega)]; exact h3
  rw [f2, w32n (show k < 2147483648 by clear f5; omega), w32n (show H < 2147483648 by clear f5; omega), w32n (show r < 2147483648 by clear f5; omega)]
  refine ⟨fun u => ?_, fun u => ⟨fun v => ?_, fun v => ?_⟩⟩
  · have : k = H := by clear f5; omega
    subst this
    have k9 : (9 : Nat) ≠ key r := by clear f5; omega
    refine fills_ok (i := 9) k2 (by decide) (by clear f5; omega) (by clear f5; omega) he h3' (w 9 (by decide) k6).1 pF (w 9 (by decide) k6).2 sF (f5.elim (fun z => Or.inl z.1) (fun z => Or.inr ⟨z.1, z.2.2.2.2, z.2.1⟩)) (fun M3 q1 q2 => ?_)
    refine h M3 (FrZ_trans (FrZ_trans (FrZ_Tu t1) f1) (FrZ_Fi q1)) ?_
    rcases q2 with ⟨a, c⟩ | ⟨a, b, c⟩
    · refine Or.inl ⟨a, ?_⟩
      rcases c with c | c | ⟨j, hj, c⟩
      · rcases f5 with z | z
        · exact z.2
        · rw [z.1] at c; cases c
      · exact badB 9 (by decide) k6 (by rw [← eqB 9 k9]; exact c)
      · exact badS 9 (by decide) k6 ⟨j, hj, by rw [← eqS 9 k9 j hj]; exact c⟩
    · rcases f5 with z | ⟨z1, z2, z3, z4, z5⟩
      · rw [z.1] at b; cases b
      · refine Or.inr ⟨a, ?_, ?_, fun i hi => ⟨?_, ?_⟩, RwR_congr c (eqB 9 k9) (eqS 9 k9), fun j hj => ?_⟩
        · rw [q1 189 3 (by omega) (by omega) (by omega)]; exact h3'
        · rw [q1 189 11 (by omega) (by omega) (by omega)]; exact f2
        · rw [q1 196 i (by omega) (by omega) (by omega), f3]; exact n196 i hi
        · by_cases q : i = r
          · subst q
            exact RwR_congr (RwR_off k2 (by omega) z2 q1) lB.symm (fun j hj => (lS j hj).symm)
          · exact RwR_off k2 (by omega) (z3 i hi q) q1
        · rw [q1 197 j (by omega) (by omega) (by omega), f4]; exact n197 j hj
  · have kH : k < H := by clear f5; omega
    refine ⟨⟨k + 1, rfl, kH, f1, rfl, f3, f4, ?_⟩, μk kH⟩
    rcases f5 with z | ⟨z1, z2, z3, z4, z5⟩
    · exact Or.inl z
    · exact Or.inr ⟨z1, z2, fun i hi q => z3 i (by omega) q, fun i hi => z4 i (by omega), z5⟩
  · have kH : k < H := by clear f5; omega
    have kr : k ≠ r := by clear f5; omega
    have kn : key k ≠ key r := fun z => kr (k4 k r kH hr z)
    have ok := k3 k kH
    have k10 : key k < 10 := by clear f5; omega
    refine fills_ok (i := k) k2 (by clear f5; omega) (by clear f5; omega) kr he h3' (w _ k10 ok.2).1 pF (w _ k10 ok.2).2 sF (f5.elim (fun z => Or.inl z.1) (fun z => Or.inr ⟨z.1, z.2.2.2.1 k (Nat.le_refl _) kH kr, z.2.1⟩)) (fun M3 q1 q2 => ?_)
    refine ⟨⟨k + 1, rfl, kH, FrZ_trans f1 (FrZ_Fi q1), ?_, fun c => ?_, fun c => ?_, ?_⟩, μk kH⟩
    · rw [q1 189 11 (by clear f5 q2; omega) (by clear f5 q2; omega) (by clear f5 q2; omega)]; exact f2
    · rw [q1 196 c (by clear f5 q2; omega) (by clear f5 q2; omega) (by clear f5 q2; omega)]; exact f3 c
    · rw [q1 197 c (by clear f5 q2; omega) (by clear f5 q2; omega) (by clear f5 q2; omega)]; exact f4 c
    · rcases q2 with ⟨a, c⟩ | ⟨a, b, c⟩
      · refine Or.inl ⟨a, ?_⟩
        rcases c with c | c | ⟨j, hj, c⟩
        · rcases f5 with z | z
          · exact z.2
          · rw [z.1] at c; cases c
        · exact badB _ k10 ok.2 (by rw [← eqB _ kn]; exact c)
        · exact badS _ k10 ok.2 ⟨j, hj, by rw [← eqS _ kn j hj]; exact c⟩
      · rcases f5 with z | ⟨z1, z2, z3, z4, z5⟩
        · rw [z.1] at b; cases b
        · refine Or.inr ⟨a, RwR_off k2 kr z2 q1, fun i hi q => ?_, fun i hi hH q => RwR_off k2 (by omega) (z4 i (by omega) hH q) q1, RwR_off k2 (by omega) z5 q1⟩
          by_cases y : i = k
          · subst y
            exact RwR_congr c (eqB _ kn) (eqS _ kn)
          · exact RwR_off k2 (by omega) (z3 i (by omega) q) q1
