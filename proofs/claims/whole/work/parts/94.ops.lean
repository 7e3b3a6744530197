theorem ops_ok : ∃ I : Nat → PH → PH → Prop, OpsOK I ∧ I 0 hX11 hX12 := ⟨Iv, ops_Iv read_ok, init_Iv⟩
