theorem pure_ok : ∃ (N : Nat) (Sim : SS → SS → Prop), OpsOk N Sim ∧ Sim qC0 qM0 := sorry
