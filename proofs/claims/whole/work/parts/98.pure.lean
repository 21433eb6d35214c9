/-! all calls -/
def d0 : DB := (0, fun _ => 0, fun _ => 0, fun _ => 0, fun _ _ _ => 0, 2, 3, 0, fun _ => 0, 0)
theorem sim0 : Sim qC0 qM0 := by
  refine ⟨d0, ⟨Nat.zero_le _, fun t ht => absurd ht (Nat.not_lt_zero t), fun _ _ => rfl, fun _ _ _ => Nat.zero_le _, ?_, ?_, ?_, ?_, Nat.zero_le _, fun _ => Nat.zero_le _, Nat.zero_le _⟩, ⟨rfl, rfl, rfl, rfl, rfl, fun t ht => absurd ht (Nat.not_lt_zero t), fun _ _ => rfl, fun t _ ht => absurd ht (Nat.not_lt_zero t), fun k hk => absurd hk (Nat.not_lt_zero k)⟩, ⟨rfl, rfl, rfl, rfl, rfl, fun t ht => absurd ht (Nat.not_lt_zero t), fun _ _ => rfl, fun t _ _ ht => absurd ht (Nat.not_lt_zero t), fun k hk => absurd hk (Nat.not_lt_zero k)⟩, Or.inl rfl⟩
  · show 1 ≤ 2; decide
  · show 2 ≤ 8; decide
  · show 3 ≤ 3; decide
  · show 3 ≤ 9; decide
theorem pure_ok : ∃ (N : Nat) (Sim : SS → SS → Prop), OpsOk N Sim ∧ Sim qC0 qM0 := by
  obtain ⟨N, hN⟩ : ∃ N : Nat, 2 ^ 40 ≤ N := ⟨_, Nat.le_refl _⟩
  have h1 : 1000 ≤ N := Nat.le_trans (by decide) hN
  exact ⟨N, Sim, ⟨op_table h1, op_row h1, op_fill h1, op_drop h1, op_sort h1, op_get, op_about h1, op_unlike h1, op_rule, op_size hN, op_pages hN, op_joined hN, op_value hN, op_idle hN, op_letters h1, op_blank, op_good h1, op_plan hN, op_best hN, op_sign hN, op_regret hN, op_hangs h1, op_goes h1, op_on h1, op_left h1, op_steps h1, op_cover h1, op_count h1, op_digest hN⟩, sim0⟩
