def T0 : TX := TX.mk 0 0 0 0 0 0 50 0 (fun _ => 0) (fun _ => 0) (fun _ => 0) (fun _ => 0) (fun _ => 0) (fun _ => 0) (fun _ => 0) (fun _ => 0) (fun _ => 0) (fun _ => 0) (fun _ => 0) (fun _ => 0)
def S0 : ST := ST.mk 0 50 0 0 (fun _ => 0) (fun _ => -2) (fun _ => 0)
theorem no0 {P : Nat → Prop} : ∀ i, i < 0 → P i := fun i h => absurd h (by omega)
theorem T0_wf : T0.wf := by
  apply TX.wf.mk
  · show 0 ≤ 5; omega
  · show 0 ≤ 7; omega
  · show 0 ≤ 9; omega
  · show 0 ≤ 6; omega
  · show 0 ≤ 403; omega
  · show 0 ≤ 100; omega
  · show 50 ≤ 9999; omega
  all_goals exact no0
theorem S0_wf : ST.wf 0 T0 0 S0 := by
  apply ST.wf.mk
  · show 0 ≤ 0; omega
  · show 50 ≤ 0 + 9999; omega
  · show 0 < 128; omega
  · intro d hd; show 0 ≤ 3; omega
  · exact no0
  · intro d _ hd; rfl
  · intro d hd; exact Or.inl rfl
  · intro d hd h; have h : (0 : Nat) = 1 ∨ (0 : Nat) = 2 := h; omega
  · intro d hd; show 0 ≤ 99; omega
theorem z78 : (∀ k, k < 7 → hX11.1 78 k = if k = 1 then 50 else 0) ∧ (∀ k, k < 5 → hX11.1 79 k = 0) ∧ (∀ k, k < 9 → hX11.1 80 k = -2) := by decide +kernel
theorem z43 : ∀ k, k < 40 → hX12.1 43 k = if k = 1 then 50 else if (4 ≤ k ∧ k < 13) ∨ (22 ≤ k ∧ k < 31) then -2 else 0 := by decide +kernel
theorem zt : ∀ k, k < 8 → hX11.1 43 k = if k = 6 then 50 else 0 := by decide +kernel
theorem zl : hX11.1 44 1 = 2 ∧ hX11.1 45 0 = 50 ∧ hX11.1 45 1 = -1 ∧ hX11.1 47 1 = 2 ∧ hX11.1 48 0 = 10 ∧ hX11.1 48 1 = -1 ∧ hX11.2.2 0 4 = 43 ∧ hX11.2.2 2 1 = 8 ∧ hX11.1 0 1 = 0 ∧ hX11.1 0 2 = -1 ∧ hX11.1 84 1 = 0 ∧ hX11.1 84 2 = 0 ∧ hX11.1 229 4 = 0 ∧ hX11.1 234 4 = 0 := by decide +kernel
theorem zs : ∀ i, i < 3 → hX11.1 216 i = 0 ∧ hX12.1 54 i = 0 := by decide +kernel
theorem zr : hX12.1 0 18 = 0 ∧ hX12.1 11 0 = 0 ∧ hX12.1 15 0 = 0 ∧ hX12.1 21 0 = 0 ∧ hX12.1 26 0 = 0 ∧ hX12.1 25 0 = 0 ∧ hX12.1 28 0 = 0 ∧ hX12.1 29 0 = 50 ∧ hX12.1 30 0 = 0 ∧ hX12.1 31 0 = hX12.1 32 0 ∧ hX12.1 31 1 = hX12.1 32 1 ∧ hX12.1 0 2 = 0 ∧ hX12.1 0 17 = -1 ∧ hX12.1 0 63 = 0 ∧ hX12.1 0 67 = 0 ∧ hX12.1 0 72 = 0 := by decide +kernel
theorem m0 : outMask S0 1 = 0 ∧ outMask S0 2 = 0 ∧ outMask S0 3 = 0 := by decide
theorem init_lc : LawsC 43 (fun _ => 50) (fun _ => 10) hX11 := by
  obtain ⟨z1, z2, z3, z4, z5, z6, _⟩ := zl
  intro h' f
  have g : ∀ p k, 43 ≤ p → p < 78 → p ≠ 46 → p ≠ 49 → h'.1 p k = hX11.1 p k := fun p k a b c d => f.i ⟨a, b, c, d⟩
  obtain ⟨v, h2, e, q, k⟩ := always_ok (p := 44) (q := 218) (v := 50) (h := h') (by omega) (by rw [g _ _ (by omega) (by omega) (by omega) (by omega), z1]; rfl) (by rw [g _ _ (by omega) (by omega) (by omega) (by omega), z2]; rfl) (by rw [g _ _ (by omega) (by omega) (by omega) (by omega)]; exact z3)
  obtain ⟨v', h2', e', q', k'⟩ := always_ok (p := 47) (q := 218) (v := 10) (h := h') (by omega) (by rw [g _ _ (by omega) (by omega) (by omega) (by omega), z4]; rfl) (by rw [g _ _ (by omega) (by omega) (by omega) (by omega), z5]; rfl) (by rw [g _ _ (by omega) (by omega) (by omega) (by omega)]; exact z6)
  exact ⟨⟨v, h2, e, q, k⟩, ⟨v', h2', e', q', k'⟩⟩
theorem cl50 : (50 : Int32) = nI (clampN 100 50) := by decide
theorem cl10 : (10 : Int32) = nI (clampN 99 10) := by decide
theorem init_lr : LawsR 0 (fun _ => 50) (fun _ => 10) hX12 := by
  obtain ⟨z1, _, _, _, _, _, _, _, _, z2, z3, _⟩ := zr
  intro h' f l
  have g : ∀ p k, 31 ≤ p → p ≤ 32 → k < 2 → h'.1 p k = hX12.1 p k := fun p k a b c => f.i (by unfold FxRs; omega)
  refine ⟨⟨50, h', law_def (k := 0) (by omega) (by rw [l]; rfl) (by rw [g _ _ (by omega) (by omega) (by omega), g _ _ (by omega) (by omega) (by omega)]; exact z2), cl50, KP.rfl⟩, ⟨10, h', law_def (k := 1) (by omega) (by rw [l]; rfl) (by rw [g _ _ (by omega) (by omega) (by omega), g _ _ (by omega) (by omega) (by omega)]; exact z3), cl10, KP.rfl⟩⟩
theorem init_Iv : Iv 0 hX11 hX12 := by
  obtain ⟨a1, a2, a3⟩ := z78
  obtain ⟨c1, c2, c3, c4, c5, c6, c7, c8, c9, c10, c11, c12, c13, c14⟩ := zl
  obtain ⟨r1, r2, r3, r4, r5, r6, r7, r8, r9, r10, r11, r12, r13, r14, r15, r16⟩ := zr
  obtain ⟨m1, m2, m3⟩ := m0
  refine ⟨T0, S0, 0, 43, fun _ => 50, fun _ => 10, Iv1.mk (CL.mk (Cor.mk T0_wf (by omega) r1 (Or.inr rfl) c7 ?_ ?_ S0_wf ?_ ?_) init_lc init_lr (fun _ _ _ => rfl) (fun _ _ _ => rfl)) ⟨0, by omega, c9, r12, fun i hi => absurd hi (by omega)⟩ (c10.trans r13.symm) ⟨0, by omega, c13, r15, fun i hi => absurd hi (by omega)⟩ ⟨0, by omega, c14, r16, fun i hi => absurd hi (by omega)⟩ (iUndo_none (w := 0) (by omega) c12 r14 c11) (fun i hi => ⟨(zs i hi).1.trans (zs i hi).2.symm, fun h => absurd (zs i hi).2 h⟩) c8 ⟨fun k _ => rfl, fun k _ => rfl⟩⟩
  · apply TxC.mk
    · exact zt 0 (by omega)
    · exact zt 1 (by omega)
    · exact zt 2 (by omega)
    · exact zt 3 (by omega)
    · exact zt 4 (by omega)
    · exact zt 5 (by omega)
    · exact zt 6 (by omega)
    · exact zt 7 (by omega)
    all_goals exact no0
  · apply TxR.mk
    · exact r2
    · exact r3
    · exact r4
    · exact r5
    · exact r6
    · exact r7
    · exact r8
    · exact r9
    all_goals exact no0
  · apply StC.set
    · exact a1 0 (by omega)
    · exact a1 1 (by omega)
    · exact a1 2 (by omega)
    · exact a1 3 (by omega)
    · rw [m1]; exact a1 4 (by omega)
    · rw [m2]; exact a1 5 (by omega)
    · rw [m3]; exact a1 6 (by omega)
    · intro a ha; exact a2 a ha
    · intro d hd; exact a3 d hd
  · apply StR.mk
    · rw [Nat.zero_add, z43 _ (by omega), if_neg (by omega), if_neg (by omega)]; rfl
    · rw [Nat.zero_add, z43 _ (by omega), if_pos rfl]; rfl
    · rw [Nat.zero_add, z43 _ (by omega), if_neg (by omega), if_neg (by omega)]; rfl
    · rw [Nat.zero_add, z43 _ (by omega), if_neg (by omega), if_neg (by omega)]; rfl
    · intro d hd; rw [Nat.zero_add, z43 _ (by omega), if_neg (by omega), if_pos (by omega)]; rfl
    · intro d hd; rw [Nat.zero_add, z43 _ (by omega), if_neg (by omega), if_neg (by omega)]; rfl
    · intro d hd; rw [Nat.zero_add, z43 _ (by omega), if_neg (by omega), if_pos (by omega)]; rfl
    · intro d hd; rw [Nat.zero_add, z43 _ (by omega), if_neg (by omega), if_neg (by omega)]; rfl
