theorem ops_ok : ∃ I : Nat → PH → PH → Prop, OpsOK I ∧ I 0 hX11 hX12 := sorry
