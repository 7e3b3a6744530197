theorem dJ6_bitCount_0f7a4_0 : decode cJ6_bitCount_0f7a4 0 = .ok (.iload_n 0, 1) := by decide +kernel
theorem dJ6_bitCount_0f7a4_1 : decode cJ6_bitCount_0f7a4 1 = .ok (.iload_n 0, 1) := by decide +kernel
theorem dJ6_bitCount_0f7a4_2 : decode cJ6_bitCount_0f7a4 2 = .ok (.iconst 1, 1) := by decide +kernel
theorem dJ6_bitCount_0f7a4_3 : decode cJ6_bitCount_0f7a4 3 = .ok (.iushr, 1) := by decide +kernel
theorem dJ6_bitCount_0f7a4_4 : decode cJ6_bitCount_0f7a4 4 = .ok (.ldc_w 265, 3) := by decide +kernel
theorem dJ6_bitCount_0f7a4_7 : decode cJ6_bitCount_0f7a4 7 = .ok (.iand, 1) := by decide +kernel
theorem dJ6_bitCount_0f7a4_8 : decode cJ6_bitCount_0f7a4 8 = .ok (.isub, 1) := by decide +kernel
theorem dJ6_bitCount_0f7a4_9 : decode cJ6_bitCount_0f7a4 9 = .ok (.istore_n 0, 1) := by decide +kernel
theorem dJ6_bitCount_0f7a4_10 : decode cJ6_bitCount_0f7a4 10 = .ok (.iload_n 0, 1) := by decide +kernel
theorem dJ6_bitCount_0f7a4_11 : decode cJ6_bitCount_0f7a4 11 = .ok (.ldc_w 266, 3) := by decide +kernel
theorem dJ6_bitCount_0f7a4_14 : decode cJ6_bitCount_0f7a4 14 = .ok (.iand, 1) := by decide +kernel
theorem dJ6_bitCount_0f7a4_15 : decode cJ6_bitCount_0f7a4 15 = .ok (.iload_n 0, 1) := by decide +kernel
theorem dJ6_bitCount_0f7a4_16 : decode cJ6_bitCount_0f7a4 16 = .ok (.iconst 2, 1) := by decide +kernel
theorem dJ6_bitCount_0f7a4_17 : decode cJ6_bitCount_0f7a4 17 = .ok (.iushr, 1) := by decide +kernel
theorem dJ6_bitCount_0f7a4_18 : decode cJ6_bitCount_0f7a4 18 = .ok (.ldc_w 266, 3) := by decide +kernel
theorem dJ6_bitCount_0f7a4_21 : decode cJ6_bitCount_0f7a4 21 = .ok (.iand, 1) := by decide +kernel
theorem dJ6_bitCount_0f7a4_22 : decode cJ6_bitCount_0f7a4 22 = .ok (.iadd, 1) := by decide +kernel
theorem dJ6_bitCount_0f7a4_23 : decode cJ6_bitCount_0f7a4 23 = .ok (.istore_n 0, 1) := by decide +kernel
theorem dJ6_bitCount_0f7a4_24 : decode cJ6_bitCount_0f7a4 24 = .ok (.iload_n 0, 1) := by decide +kernel
theorem dJ6_bitCount_0f7a4_25 : decode cJ6_bitCount_0f7a4 25 = .ok (.iload_n 0, 1) := by decide +kernel
theorem dJ6_bitCount_0f7a4_26 : decode cJ6_bitCount_0f7a4 26 = .ok (.iconst 4, 1) := by decide +kernel
theorem dJ6_bitCount_0f7a4_27 : decode cJ6_bitCount_0f7a4 27 = .ok (.iushr, 1) := by decide +kernel
theorem dJ6_bitCount_0f7a4_28 : decode cJ6_bitCount_0f7a4 28 = .ok (.iadd, 1) := by decide +kernel
theorem dJ6_bitCount_0f7a4_29 : decode cJ6_bitCount_0f7a4 29 = .ok (.ldc_w 267, 3) := by decide +kernel
theorem dJ6_bitCount_0f7a4_32 : decode cJ6_bitCount_0f7a4 32 = .ok (.iand, 1) := by decide +kernel
theorem dJ6_bitCount_0f7a4_33 : decode cJ6_bitCount_0f7a4 33 = .ok (.istore_n 0, 1) := by decide +kernel
theorem dJ6_bitCount_0f7a4_34 : decode cJ6_bitCount_0f7a4 34 = .ok (.iload_n 0, 1) := by decide +kernel
theorem dJ6_bitCount_0f7a4_35 : decode cJ6_bitCount_0f7a4 35 = .ok (.iload_n 0, 1) := by decide +kernel
theorem dJ6_bitCount_0f7a4_36 : decode cJ6_bitCount_0f7a4 36 = .ok (.bipush 8, 2) := by decide +kernel
theorem dJ6_bitCount_0f7a4_38 : decode cJ6_bitCount_0f7a4 38 = .ok (.iushr, 1) := by decide +kernel
theorem dJ6_bitCount_0f7a4_39 : decode cJ6_bitCount_0f7a4 39 = .ok (.iadd, 1) := by decide +kernel
theorem dJ6_bitCount_0f7a4_40 : decode cJ6_bitCount_0f7a4 40 = .ok (.istore_n 0, 1) := by decide +kernel
theorem dJ6_bitCount_0f7a4_41 : decode cJ6_bitCount_0f7a4 41 = .ok (.iload_n 0, 1) := by decide +kernel
theorem dJ6_bitCount_0f7a4_42 : decode cJ6_bitCount_0f7a4 42 = .ok (.iload_n 0, 1) := by decide +kernel
theorem dJ6_bitCount_0f7a4_43 : decode cJ6_bitCount_0f7a4 43 = .ok (.bipush 16, 2) := by decide +kernel
theorem dJ6_bitCount_0f7a4_45 : decode cJ6_bitCount_0f7a4 45 = .ok (.iushr, 1) := by decide +kernel
theorem dJ6_bitCount_0f7a4_46 : decode cJ6_bitCount_0f7a4 46 = .ok (.iadd, 1) := by decide +kernel
theorem dJ6_bitCount_0f7a4_47 : decode cJ6_bitCount_0f7a4 47 = .ok (.istore_n 0, 1) := by decide +kernel
theorem dJ6_bitCount_0f7a4_48 : decode cJ6_bitCount_0f7a4 48 = .ok (.iload_n 0, 1) := by decide +kernel
theorem dJ6_bitCount_0f7a4_49 : decode cJ6_bitCount_0f7a4 49 = .ok (.bipush 63, 2) := by decide +kernel
theorem dJ6_bitCount_0f7a4_51 : decode cJ6_bitCount_0f7a4 51 = .ok (.iand, 1) := by decide +kernel
theorem dJ6_bitCount_0f7a4_52 : decode cJ6_bitCount_0f7a4 52 = .ok (.ireturn, 1) := by decide +kernel
def c_J6_bitCount_0f7a4 (a0 : Int32) : Option (Int32) :=
  nm (a0 - ((jushr a0 1) &&& 1431655765)) fun v1 =>
  nm ((v1 &&& 858993459) + ((jushr v1 2) &&& 858993459)) fun v2 =>
  nm ((v2 + (jushr v2 4)) &&& 252645135) fun v3 =>
  nm (v3 + (jushr v3 8)) fun v4 =>
  nm (v4 + (jushr v4 16)) fun v5 =>
  some (v5 &&& 63)
set_option maxHeartbeats 4000000 in
set_option maxRecDepth 100000 in
theorem ct_J6_bitCount_0f7a4 (l : Launch) {lay : List KK} (a0 : Int32) : CtI l yJ6_bitCount_0f7a4 cJ6_bitCount_0f7a4 1 (some .int) 0 0 lay (rd (fun _ => c_J6_bitCount_0f7a4 a0)) (fun _ => [.int a0]) := by
  refine CtI.mk' RJ6 (by decide) rfl (fun _ => Nat.le_of_ble_eq_true rfl) ?_
  intro p0 e s m args below meth c D G A H0 ad X h r0 H ls Q hM hw hl hf hR
  have hl : lv_has ls 1 [(0, .int a0)] := hl
  obtain ⟨v0, hv0, hr0⟩ : ∃ v0, c_J6_bitCount_0f7a4 a0 = some v0 ∧ r0 = (v0, h) := rd_some hf
  subst hr0
  have hf := hv0
  unfold c_J6_bitCount_0f7a4 at hf
  refine lv_iload_n hM.1 hM.2.1 dJ6_bitCount_0f7a4_0 rfl (lv_at hl 0 rfl) ?_
  refine lv_iload_n hM.1 hM.2.1 dJ6_bitCount_0f7a4_1 rfl (lv_at hl 0 rfl) ?_
  refine lv_iconst (v := 1) hM.1 hM.2.1 dJ6_bitCount_0f7a4_2 ic_1 ?_
  refine x_iushr hM dJ6_bitCount_0f7a4_3 ?_
  refine lv_ldcw (v := 1431655765) hM.1 hM.2.1 hM.2.2.2.1 (hM.2.2.2.2 _ kn_J6_265) dJ6_bitCount_0f7a4_4 ?_
  refine lv_iand hM.1 hM.2.1 dJ6_bitCount_0f7a4_7 ?_
  refine lv_isub hM.1 hM.2.1 dJ6_bitCount_0f7a4_8 ?_
  refine x_istore_n hM hf dJ6_bitCount_0f7a4_9 rfl hl (by decide) (fun v1 => [(0, .int v1)]) (fun _ => rfl) (fun v1 ls hf hl => ?_)
  refine lv_iload_n hM.1 hM.2.1 dJ6_bitCount_0f7a4_10 rfl (lv_at hl 0 rfl) ?_
  refine lv_ldcw (v := 858993459) hM.1 hM.2.1 hM.2.2.2.1 (hM.2.2.2.2 _ kn_J6_266) dJ6_bitCount_0f7a4_11 ?_
  refine lv_iand hM.1 hM.2.1 dJ6_bitCount_0f7a4_14 ?_
  refine lv_iload_n hM.1 hM.2.1 dJ6_bitCount_0f7a4_15 rfl (lv_at hl 0 rfl) ?_
  refine lv_iconst (v := 2) hM.1 hM.2.1 dJ6_bitCount_0f7a4_16 ic_2 ?_
  refine x_iushr hM dJ6_bitCount_0f7a4_17 ?_
  refine lv_ldcw (v := 858993459) hM.1 hM.2.1 hM.2.2.2.1 (hM.2.2.2.2 _ kn_J6_266) dJ6_bitCount_0f7a4_18 ?_
  refine lv_iand hM.1 hM.2.1 dJ6_bitCount_0f7a4_21 ?_
  refine lv_iadd hM.1 hM.2.1 dJ6_bitCount_0f7a4_22 ?_
  refine x_istore_n hM hf dJ6_bitCount_0f7a4_23 rfl hl (by decide) (fun v2 => [(0, .int v2)]) (fun _ => rfl) (fun v2 ls hf hl => ?_)
  refine lv_iload_n hM.1 hM.2.1 dJ6_bitCount_0f7a4_24 rfl (lv_at hl 0 rfl) ?_
  refine lv_iload_n hM.1 hM.2.1 dJ6_bitCount_0f7a4_25 rfl (lv_at hl 0 rfl) ?_
  refine lv_iconst (v := 4) hM.1 hM.2.1 dJ6_bitCount_0f7a4_26 ic_4 ?_
  refine x_iushr hM dJ6_bitCount_0f7a4_27 ?_
  refine lv_iadd hM.1 hM.2.1 dJ6_bitCount_0f7a4_28 ?_
  refine lv_ldcw (v := 252645135) hM.1 hM.2.1 hM.2.2.2.1 (hM.2.2.2.2 _ kn_J6_267) dJ6_bitCount_0f7a4_29 ?_
  refine lv_iand hM.1 hM.2.1 dJ6_bitCount_0f7a4_32 ?_
  refine x_istore_n hM hf dJ6_bitCount_0f7a4_33 rfl hl (by decide) (fun v3 => [(0, .int v3)]) (fun _ => rfl) (fun v3 ls hf hl => ?_)
  refine lv_iload_n hM.1 hM.2.1 dJ6_bitCount_0f7a4_34 rfl (lv_at hl 0 rfl) ?_
  refine lv_iload_n hM.1 hM.2.1 dJ6_bitCount_0f7a4_35 rfl (lv_at hl 0 rfl) ?_
  refine lv_bipush (v := 8) hM.1 hM.2.1 dJ6_bitCount_0f7a4_36 (by decide) ?_
  refine x_iushr hM dJ6_bitCount_0f7a4_38 ?_
  refine lv_iadd hM.1 hM.2.1 dJ6_bitCount_0f7a4_39 ?_
  refine x_istore_n hM hf dJ6_bitCount_0f7a4_40 rfl hl (by decide) (fun v4 => [(0, .int v4)]) (fun _ => rfl) (fun v4 ls hf hl => ?_)
  refine lv_iload_n hM.1 hM.2.1 dJ6_bitCount_0f7a4_41 rfl (lv_at hl 0 rfl) ?_
  refine lv_iload_n hM.1 hM.2.1 dJ6_bitCount_0f7a4_42 rfl (lv_at hl 0 rfl) ?_
  refine lv_bipush (v := 16) hM.1 hM.2.1 dJ6_bitCount_0f7a4_43 (by decide) ?_
  refine x_iushr hM dJ6_bitCount_0f7a4_45 ?_
  refine lv_iadd hM.1 hM.2.1 dJ6_bitCount_0f7a4_46 ?_
  refine x_istore_n hM hf dJ6_bitCount_0f7a4_47 rfl hl (by decide) (fun v5 => [(0, .int v5)]) (fun _ => rfl) (fun v5 ls hf hl => ?_)
  refine lv_iload_n hM.1 hM.2.1 dJ6_bitCount_0f7a4_48 rfl (lv_at hl 0 rfl) ?_
  refine lv_bipush (v := 63) hM.1 hM.2.1 dJ6_bitCount_0f7a4_49 (by decide) ?_
  refine lv_iand hM.1 hM.2.1 dJ6_bitCount_0f7a4_51 ?_
  exact hR _ _ _ _ _ _ _ (congrArg (fun z => (z, _)) (Option.some.inj hf)) rfl rfl hw dJ6_bitCount_0f7a4_52
theorem hd_J6_bitCount_0f7a4 : yJ6_bitCount_0f7a4.cls ≠ "java/lang/invoke/MethodHandle" ∧ yJ6_bitCount_0f7a4.cls ≠ "java/lang/invoke/VarHandle" ∧ (parseMethodDescriptor yJ6_bitCount_0f7a4.desc).map (fun d => d.parameters.length) = some 1 := ⟨by decide, by decide, by decide +kernel⟩
