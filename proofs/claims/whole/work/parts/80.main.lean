theorem pure_main : ∃ Rel : CS → MS → Prop, StepsOK Rel ∧ Rel S0 M0 := sorry
