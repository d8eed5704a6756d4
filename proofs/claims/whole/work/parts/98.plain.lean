theorem plain_end : ∃ Inv : Mem → Prop, Inv M_new ∧ LawSteps Inv := sorry
