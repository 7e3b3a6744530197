theorem dX2_clear_0 : decode cX2_clear 0 = .ok (.aload_n 0, 1) := by decide +kernel
theorem dX2_clear_1 : decode cX2_clear 1 = .ok (.iconst 0, 1) := by decide +kernel
theorem dX2_clear_2 : decode cX2_clear 2 = .ok (.putfield 15, 3) := by decide +kernel
theorem dX2_clear_5 : decode cX2_clear 5 = .ok (.return_, 1) := by decide +kernel
def c_X2_clear (p : Nat) (h : PH) : Option (PH) :=
  nm (setI h p 1 0) fun h1 =>
  some h1
set_option maxHeartbeats 4000000 in
set_option maxRecDepth 100000 in
theorem ct_X2_clear (l : Launch) {lay : List KK} {p : Nat} (ho : okX2 lay p) : CtV l yX2_clear cX2_clear 1 (none) 0 0 lay (fun h => c_X2_clear p h) (fun ad => [.ref (ad p)]) := by
  refine CtV.mk' RX2 (by decide) rfl (fun _ => Nat.le_of_ble_eq_true rfl) ?_
  intro p0 e s m args below meth c D G A H0 ad X h r0 H ls Q hM hw hl hf hR
  have hl : lv_has ls 1 [(0, .ref (ad p))] := hl
  unfold c_X2_clear at hf
  refine lv_aload_n hM.1 hM.2.1 dX2_clear_0 rfl (lv_at hl 0 rfl) ?_
  refine lv_iconst (v := 0) hM.1 hM.2.1 dX2_clear_1 ic_0 ?_
  refine pf_X2_length hM hw (okX2.o ho) fl_X2_15 hf dX2_clear_2 (fun h1 H locs hf hw => ?_)
  exact hR _ _ _ _ _ (Option.some.inj hf) rfl hw dX2_clear_5
theorem hd_X2_clear : yX2_clear.cls = RX2 ∧ yX2_clear.cls ≠ "java/lang/invoke/MethodHandle" ∧ yX2_clear.cls ≠ "java/lang/invoke/VarHandle" ∧ (parseMethodDescriptor yX2_clear.desc).map (fun d => d.parameters.length) = some 0 := ⟨rfl, by decide, by decide, by decide +kernel⟩
theorem dX2_add_0 : decode cX2_add 0 = .ok (.aload_n 0, 1) := by decide +kernel
theorem dX2_add_1 : decode cX2_add 1 = .ok (.getfield 15, 3) := by decide +kernel
theorem dX2_add_4 : decode cX2_add 4 = .ok (.aload_n 0, 1) := by decide +kernel
theorem dX2_add_5 : decode cX2_add 5 = .ok (.getfield 9, 3) := by decide +kernel
theorem dX2_add_8 : decode cX2_add 8 = .ok (.arraylength, 1) := by decide +kernel
theorem dX2_add_9 : decode cX2_add 9 = .ok (.if_icmp .ge 23, 3) := by decide +kernel
theorem dX2_add_12 : decode cX2_add 12 = .ok (.aload_n 0, 1) := by decide +kernel
theorem dX2_add_13 : decode cX2_add 13 = .ok (.getfield 9, 3) := by decide +kernel
theorem dX2_add_16 : decode cX2_add 16 = .ok (.aload_n 0, 1) := by decide +kernel
theorem dX2_add_17 : decode cX2_add 17 = .ok (.getfield 15, 3) := by decide +kernel
theorem dX2_add_20 : decode cX2_add 20 = .ok (.iload_n 1, 1) := by decide +kernel
theorem dX2_add_21 : decode cX2_add 21 = .ok (.iastore, 1) := by decide +kernel
theorem dX2_add_22 : decode cX2_add 22 = .ok (.aload_n 0, 1) := by decide +kernel
theorem dX2_add_23 : decode cX2_add 23 = .ok (.dup, 1) := by decide +kernel
theorem dX2_add_24 : decode cX2_add 24 = .ok (.getfield 15, 3) := by decide +kernel
theorem dX2_add_27 : decode cX2_add 27 = .ok (.iconst 1, 1) := by decide +kernel
theorem dX2_add_28 : decode cX2_add 28 = .ok (.iadd, 1) := by decide +kernel
theorem dX2_add_29 : decode cX2_add 29 = .ok (.putfield 15, 3) := by decide +kernel
theorem dX2_add_32 : decode cX2_add 32 = .ok (.return_, 1) := by decide +kernel
def c_X2_add (p : Nat) (a1 : Int32) (h : PH) : Option (PH) :=
  if 408 ≤ (h.1 p 1) then
    some h
  else
    gd (ixOK (h.1 p 1) 408) <| nm (setI h (p + 1) (h.1 p 1).toNatClampNeg a1) fun h1 =>
    nm (setI h1 p 1 ((h1.1 p 1) + 1)) fun h2 =>
    some h2
set_option maxHeartbeats 4000000 in
set_option maxRecDepth 100000 in
theorem ct_X2_add (l : Launch) {lay : List KK} {p : Nat} (ho : okX2 lay p) (a1 : Int32) : CtV l yX2_add cX2_add 2 (none) 0 0 lay (fun h => c_X2_add p a1 h) (fun ad => [.ref (ad p), .int a1]) := by
  refine CtV.mk' RX2 (by decide) rfl (fun _ => Nat.le_of_ble_eq_true rfl) ?_
  intro p0 e s m args below meth c D G A H0 ad X h r0 H ls Q hM hw hl hf hR
  have hl : lv_has ls 2 [(0, .ref (ad p)), (1, .int a1)] := hl
  unfold c_X2_add at hf
  refine lv_aload_n hM.1 hM.2.1 dX2_add_0 rfl (lv_at hl 0 rfl) ?_
  refine gf_X2_length hM hw (okX2.o ho) fl_X2_15 dX2_add_1 ?_
  refine lv_aload_n hM.1 hM.2.1 dX2_add_4 rfl (lv_at hl 0 rfl) ?_
  refine gf_X2_steps hM hw (okX2.o ho) fl_X2_9 dX2_add_5 ?_
  refine x_alen (v := 408) hM hw (okX2.steps ho) (by decide) dX2_add_8 ?_
  refine x_ic_ge (tgt := 32) hM hf dX2_add_9 (by decide) (fun hf => ?_) (fun hf => ?_)
  · exact hR _ _ _ _ _ (Option.some.inj hf) rfl hw dX2_add_32
  refine lv_aload_n hM.1 hM.2.1 dX2_add_12 rfl (lv_at hl 0 rfl) ?_
  refine gf_X2_steps hM hw (okX2.o ho) fl_X2_9 dX2_add_13 ?_
  refine lv_aload_n hM.1 hM.2.1 dX2_add_16 rfl (lv_at hl 0 rfl) ?_
  refine gf_X2_length hM hw (okX2.o ho) fl_X2_15 dX2_add_17 ?_
  refine lv_iload_n hM.1 hM.2.1 dX2_add_20 rfl (lv_at hl 1 rfl) ?_
  refine x_iast hM hw (okX2.steps ho) hf dX2_add_21 (fun h1 H locs hf hw => ?_)
  refine lv_aload_n hM.1 hM.2.1 dX2_add_22 rfl (lv_at hl 0 rfl) ?_
  refine lv_dup hM.1 hM.2.1 dX2_add_23 rfl ?_
  refine gf_X2_length hM hw (okX2.o ho) fl_X2_15 dX2_add_24 ?_
  refine lv_iconst (v := 1) hM.1 hM.2.1 dX2_add_27 ic_1 ?_
  refine lv_iadd hM.1 hM.2.1 dX2_add_28 ?_
  refine pf_X2_length hM hw (okX2.o ho) fl_X2_15 hf dX2_add_29 (fun h2 H locs hf hw => ?_)
  exact hR _ _ _ _ _ (Option.some.inj hf) rfl hw dX2_add_32
theorem hd_X2_add : yX2_add.cls = RX2 ∧ yX2_add.cls ≠ "java/lang/invoke/MethodHandle" ∧ yX2_add.cls ≠ "java/lang/invoke/VarHandle" ∧ (parseMethodDescriptor yX2_add.desc).map (fun d => d.parameters.length) = some 1 := ⟨rfl, by decide, by decide, by decide +kernel⟩
theorem dX2_always_0 : decode cX2_always 0 = .ok (.aload_n 0, 1) := by decide +kernel
theorem dX2_always_1 : decode cX2_always 1 = .ok (.iconst 0, 1) := by decide +kernel
theorem dX2_always_2 : decode cX2_always 2 = .ok (.putfield 15, 3) := by decide +kernel
theorem dX2_always_5 : decode cX2_always 5 = .ok (.aload_n 0, 1) := by decide +kernel
theorem dX2_always_6 : decode cX2_always 6 = .ok (.iload_n 1, 1) := by decide +kernel
theorem dX2_always_7 : decode cX2_always 7 = .ok (.invokevirtual 22, 3) := by decide +kernel
theorem dX2_always_10 : decode cX2_always 10 = .ok (.aload_n 0, 1) := by decide +kernel
theorem dX2_always_11 : decode cX2_always 11 = .ok (.iconst (-1), 1) := by decide +kernel
theorem dX2_always_12 : decode cX2_always 12 = .ok (.invokevirtual 22, 3) := by decide +kernel
theorem dX2_always_15 : decode cX2_always 15 = .ok (.return_, 1) := by decide +kernel
def c_X2_always (p : Nat) (a1 : Int32) (h : PH) : Option (PH) :=
  nm (setI h p 1 0) fun h1 =>
  (c_X2_add p a1 h1).bind fun h2 =>
  (c_X2_add p (-1) h2).bind fun h3 =>
  some h3
set_option maxHeartbeats 4000000 in
set_option maxRecDepth 100000 in
theorem ct_X2_always (l : Launch) {lay : List KK} {p : Nat} (ho : okX2 lay p) (a1 : Int32) : CtV l yX2_always cX2_always 2 (none) 1 21 lay (fun h => c_X2_always p a1 h) (fun ad => [.ref (ad p), .int a1]) := by
  refine CtV.mk' RX2 (by decide) rfl (fun _ => Nat.le_of_ble_eq_true rfl) ?_
  intro p0 e s m args below meth c D G A H0 ad X h r0 H ls Q hM hw hl hf hR
  have hl : lv_has ls 2 [(0, .ref (ad p)), (1, .int a1)] := hl
  unfold c_X2_always at hf
  refine lv_aload_n hM.1 hM.2.1 dX2_always_0 rfl (lv_at hl 0 rfl) ?_
  refine lv_iconst (v := 0) hM.1 hM.2.1 dX2_always_1 ic_0 ?_
  refine pf_X2_length hM hw (okX2.o ho) fl_X2_15 hf dX2_always_2 (fun h1 H locs hf hw => ?_)
  refine lv_aload_n hM.1 hM.2.1 dX2_always_5 rfl (lv_at hl 0 rfl) ?_
  refine lv_iload_n hM.1 hM.2.1 dX2_always_6 rfl (lv_at hl 1 rfl) ?_
  refine x_callVV (rest := []) hM hw (ct_X2_add l ho a1) [.int a1] (okX2.o ho) rfl rfl rfl (gi_V ml_X2_22 im_X2_add sl_X2_add in_X2 kc_X2_add) hd_X2_add rfl ⟨Nat.le_of_ble_eq_true rfl, Nat.le_of_ble_eq_true rfl⟩ rfl (Nat.le_of_ble_eq_true rfl) hl.1 hcs0 hf dX2_always_7 (fun h2 H locs hf hw => ?_)
  refine lv_aload_n hM.1 hM.2.1 dX2_always_10 rfl (lv_at hl 0 rfl) ?_
  refine lv_iconst (v := (-1)) hM.1 hM.2.1 dX2_always_11 ic_m1 ?_
  refine x_callVV (rest := []) hM hw (ct_X2_add l ho (-1)) [.int (-1)] (okX2.o ho) rfl rfl rfl (gi_V ml_X2_22 im_X2_add sl_X2_add in_X2 kc_X2_add) hd_X2_add rfl ⟨Nat.le_of_ble_eq_true rfl, Nat.le_of_ble_eq_true rfl⟩ rfl (Nat.le_of_ble_eq_true rfl) hl.1 hcs0 hf dX2_always_12 (fun h3 H locs hf hw => ?_)
  exact hR _ _ _ _ _ (Option.some.inj hf) rfl hw dX2_always_15
theorem hd_X2_always : yX2_always.cls = RX2 ∧ yX2_always.cls ≠ "java/lang/invoke/MethodHandle" ∧ yX2_always.cls ≠ "java/lang/invoke/VarHandle" ∧ (parseMethodDescriptor yX2_always.desc).map (fun d => d.parameters.length) = some 1 := ⟨rfl, by decide, by decide, by decide +kernel⟩
theorem dX2_addUnlessLess_0 : decode cX2_addUnlessLess 0 = .ok (.aload_n 0, 1) := by decide +kernel
theorem dX2_addUnlessLess_1 : decode cX2_addUnlessLess 1 = .ok (.bipush (-2), 2) := by decide +kernel
theorem dX2_addUnlessLess_3 : decode cX2_addUnlessLess 3 = .ok (.invokevirtual 22, 3) := by decide +kernel
theorem dX2_addUnlessLess_6 : decode cX2_addUnlessLess 6 = .ok (.aload_n 0, 1) := by decide +kernel
theorem dX2_addUnlessLess_7 : decode cX2_addUnlessLess 7 = .ok (.iconst 0, 1) := by decide +kernel
theorem dX2_addUnlessLess_8 : decode cX2_addUnlessLess 8 = .ok (.invokevirtual 22, 3) := by decide +kernel
theorem dX2_addUnlessLess_11 : decode cX2_addUnlessLess 11 = .ok (.aload_n 0, 1) := by decide +kernel
theorem dX2_addUnlessLess_12 : decode cX2_addUnlessLess 12 = .ok (.getfield 15, 3) := by decide +kernel
theorem dX2_addUnlessLess_15 : decode cX2_addUnlessLess 15 = .ok (.iconst 1, 1) := by decide +kernel
theorem dX2_addUnlessLess_16 : decode cX2_addUnlessLess 16 = .ok (.isub, 1) := by decide +kernel
theorem dX2_addUnlessLess_17 : decode cX2_addUnlessLess 17 = .ok (.ireturn, 1) := by decide +kernel
def c_X2_addUnlessLess (p : Nat) (h : PH) : Option (Int32 × PH) :=
  (c_X2_add p (-2) h).bind fun h1 =>
  (c_X2_add p 0 h1).bind fun h2 =>
  some (((h2.1 p 1) - 1), h2)
set_option maxHeartbeats 4000000 in
set_option maxRecDepth 100000 in
theorem ct_X2_addUnlessLess (l : Launch) {lay : List KK} {p : Nat} (ho : okX2 lay p) : CtI l yX2_addUnlessLess cX2_addUnlessLess 1 (some .int) 1 21 lay (fun h => c_X2_addUnlessLess p h) (fun ad => [.ref (ad p)]) := by
  refine CtI.mk' RX2 (by decide) rfl (fun _ => Nat.le_of_ble_eq_true rfl) ?_
  intro p0 e s m args below meth c D G A H0 ad X h r0 H ls Q hM hw hl hf hR
  have hl : lv_has ls 1 [(0, .ref (ad p))] := hl
  unfold c_X2_addUnlessLess at hf
  refine lv_aload_n hM.1 hM.2.1 dX2_addUnlessLess_0 rfl (lv_at hl 0 rfl) ?_
  refine lv_bipush (v := (-2)) hM.1 hM.2.1 dX2_addUnlessLess_1 (by decide) ?_
  refine x_callVV (rest := []) hM hw (ct_X2_add l ho (-2)) [.int (-2)] (okX2.o ho) rfl rfl rfl (gi_V ml_X2_22 im_X2_add sl_X2_add in_X2 kc_X2_add) hd_X2_add rfl ⟨Nat.le_of_ble_eq_true rfl, Nat.le_of_ble_eq_true rfl⟩ rfl (Nat.le_of_ble_eq_true rfl) hl.1 hcs0 hf dX2_addUnlessLess_3 (fun h1 H locs hf hw => ?_)
  refine lv_aload_n hM.1 hM.2.1 dX2_addUnlessLess_6 rfl (lv_at hl 0 rfl) ?_
  refine lv_iconst (v := 0) hM.1 hM.2.1 dX2_addUnlessLess_7 ic_0 ?_
  refine x_callVV (rest := []) hM hw (ct_X2_add l ho 0) [.int 0] (okX2.o ho) rfl rfl rfl (gi_V ml_X2_22 im_X2_add sl_X2_add in_X2 kc_X2_add) hd_X2_add rfl ⟨Nat.le_of_ble_eq_true rfl, Nat.le_of_ble_eq_true rfl⟩ rfl (Nat.le_of_ble_eq_true rfl) hl.1 hcs0 hf dX2_addUnlessLess_8 (fun h2 H locs hf hw => ?_)
  refine lv_aload_n hM.1 hM.2.1 dX2_addUnlessLess_11 rfl (lv_at hl 0 rfl) ?_
  refine gf_X2_length hM hw (okX2.o ho) fl_X2_15 dX2_addUnlessLess_12 ?_
  refine lv_iconst (v := 1) hM.1 hM.2.1 dX2_addUnlessLess_15 ic_1 ?_
  refine lv_isub hM.1 hM.2.1 dX2_addUnlessLess_16 ?_
  exact hR _ _ _ _ _ _ _ (Option.some.inj hf) rfl rfl hw dX2_addUnlessLess_17
theorem hd_X2_addUnlessLess : yX2_addUnlessLess.cls = RX2 ∧ yX2_addUnlessLess.cls ≠ "java/lang/invoke/MethodHandle" ∧ yX2_addUnlessLess.cls ≠ "java/lang/invoke/VarHandle" ∧ (parseMethodDescriptor yX2_addUnlessLess.desc).map (fun d => d.parameters.length) = some 0 := ⟨rfl, by decide, by decide, by decide +kernel⟩
theorem dX2_landHere_0 : decode cX2_landHere 0 = .ok (.iload_n 1, 1) := by decide +kernel
theorem dX2_landHere_1 : decode cX2_landHere 1 = .ok (.ifCond .lt 21, 3) := by decide +kernel
theorem dX2_landHere_4 : decode cX2_landHere 4 = .ok (.iload_n 1, 1) := by decide +kernel
theorem dX2_landHere_5 : decode cX2_landHere 5 = .ok (.aload_n 0, 1) := by decide +kernel
theorem dX2_landHere_6 : decode cX2_landHere 6 = .ok (.getfield 15, 3) := by decide +kernel
theorem dX2_landHere_9 : decode cX2_landHere 9 = .ok (.if_icmp .ge 13, 3) := by decide +kernel
theorem dX2_landHere_12 : decode cX2_landHere 12 = .ok (.aload_n 0, 1) := by decide +kernel
theorem dX2_landHere_13 : decode cX2_landHere 13 = .ok (.getfield 9, 3) := by decide +kernel
theorem dX2_landHere_16 : decode cX2_landHere 16 = .ok (.iload_n 1, 1) := by decide +kernel
theorem dX2_landHere_17 : decode cX2_landHere 17 = .ok (.aload_n 0, 1) := by decide +kernel
theorem dX2_landHere_18 : decode cX2_landHere 18 = .ok (.getfield 15, 3) := by decide +kernel
theorem dX2_landHere_21 : decode cX2_landHere 21 = .ok (.iastore, 1) := by decide +kernel
theorem dX2_landHere_22 : decode cX2_landHere 22 = .ok (.return_, 1) := by decide +kernel
def c_X2_landHere (p : Nat) (a1 : Int32) (h : PH) : Option (PH) :=
  if a1 < 0 then
    some h
  else
    if (h.1 p 1) ≤ a1 then
      some h
    else
      gd (ixOK a1 408) <| nm (setI h (p + 1) a1.toNatClampNeg (h.1 p 1)) fun h1 =>
      some h1
set_option maxHeartbeats 4000000 in
set_option maxRecDepth 100000 in
theorem ct_X2_landHere (l : Launch) {lay : List KK} {p : Nat} (ho : okX2 lay p) (a1 : Int32) : CtV l yX2_landHere cX2_landHere 2 (none) 0 0 lay (fun h => c_X2_landHere p a1 h) (fun ad => [.ref (ad p), .int a1]) := by
  refine CtV.mk' RX2 (by decide) rfl (fun _ => Nat.le_of_ble_eq_true rfl) ?_
  intro p0 e s m args below meth c D G A H0 ad X h r0 H ls Q hM hw hl hf hR
  have hl : lv_has ls 2 [(0, .ref (ad p)), (1, .int a1)] := hl
  unfold c_X2_landHere at hf
  refine lv_iload_n hM.1 hM.2.1 dX2_landHere_0 rfl (lv_at hl 1 rfl) ?_
  refine x_if_lt (tgt := 22) hM hf dX2_landHere_1 (by decide) (fun hf => ?_) (fun hf => ?_)
  · exact hR _ _ _ _ _ (Option.some.inj hf) rfl hw dX2_landHere_22
  refine lv_iload_n hM.1 hM.2.1 dX2_landHere_4 rfl (lv_at hl 1 rfl) ?_
  refine lv_aload_n hM.1 hM.2.1 dX2_landHere_5 rfl (lv_at hl 0 rfl) ?_
  refine gf_X2_length hM hw (okX2.o ho) fl_X2_15 dX2_landHere_6 ?_
  refine x_ic_ge (tgt := 22) hM hf dX2_landHere_9 (by decide) (fun hf => ?_) (fun hf => ?_)
  · exact hR _ _ _ _ _ (Option.some.inj hf) rfl hw dX2_landHere_22
  refine lv_aload_n hM.1 hM.2.1 dX2_landHere_12 rfl (lv_at hl 0 rfl) ?_
  refine gf_X2_steps hM hw (okX2.o ho) fl_X2_9 dX2_landHere_13 ?_
  refine lv_iload_n hM.1 hM.2.1 dX2_landHere_16 rfl (lv_at hl 1 rfl) ?_
  refine lv_aload_n hM.1 hM.2.1 dX2_landHere_17 rfl (lv_at hl 0 rfl) ?_
  refine gf_X2_length hM hw (okX2.o ho) fl_X2_15 dX2_landHere_18 ?_
  refine x_iast hM hw (okX2.steps ho) hf dX2_landHere_21 (fun h1 H locs hf hw => ?_)
  exact hR _ _ _ _ _ (Option.some.inj hf) rfl hw dX2_landHere_22
theorem hd_X2_landHere : yX2_landHere.cls = RX2 ∧ yX2_landHere.cls ≠ "java/lang/invoke/MethodHandle" ∧ yX2_landHere.cls ≠ "java/lang/invoke/VarHandle" ∧ (parseMethodDescriptor yX2_landHere.desc).map (fun d => d.parameters.length) = some 1 := ⟨rfl, by decide, by decide, by decide +kernel⟩
theorem dX2_valueOf_0 : decode cX2_valueOf 0 = .ok (.iload_n 1, 1) := by decide +kernel
theorem dX2_valueOf_1 : decode cX2_valueOf 1 = .ok (.aload_n 0, 1) := by decide +kernel
theorem dX2_valueOf_2 : decode cX2_valueOf 2 = .ok (.arraylength, 1) := by decide +kernel
theorem dX2_valueOf_3 : decode cX2_valueOf 3 = .ok (.if_icmp .ge 9, 3) := by decide +kernel
theorem dX2_valueOf_6 : decode cX2_valueOf 6 = .ok (.aload_n 0, 1) := by decide +kernel
theorem dX2_valueOf_7 : decode cX2_valueOf 7 = .ok (.iload_n 1, 1) := by decide +kernel
theorem dX2_valueOf_8 : decode cX2_valueOf 8 = .ok (.iaload, 1) := by decide +kernel
theorem dX2_valueOf_9 : decode cX2_valueOf 9 = .ok (.goto 4, 3) := by decide +kernel
theorem dX2_valueOf_12 : decode cX2_valueOf 12 = .ok (.iconst 0, 1) := by decide +kernel
theorem dX2_valueOf_13 : decode cX2_valueOf 13 = .ok (.ireturn, 1) := by decide +kernel
def c_X2_valueOf (q0 : Nat) (a1 : Int32) (h : PH) : Option (Int32) :=
  if 9 ≤ a1 then
    some 0
  else
    gd (ixOK a1 9) <|
    some (h.1 q0 a1.toNatClampNeg)
set_option maxHeartbeats 4000000 in
set_option maxRecDepth 100000 in
theorem ct_X2_valueOf (l : Launch) {lay : List KK} {q0 : Nat} (ho0 : lay[q0]? = some (kI 9)) (a1 : Int32) : CtI l yX2_valueOf cX2_valueOf 2 (some .int) 0 0 lay (rd (fun h => c_X2_valueOf q0 a1 h)) (fun ad => [.ref (ad q0), .int a1]) := by
  refine CtI.mk' RX2 (by decide) rfl (fun _ => Nat.le_of_ble_eq_true rfl) ?_
  intro p0 e s m args below meth c D G A H0 ad X h r0 H ls Q hM hw hl hf hR
  have hl : lv_has ls 2 [(0, .ref (ad q0)), (1, .int a1)] := hl
  obtain ⟨v0, hv0, hr0⟩ : ∃ v0, c_X2_valueOf q0 a1 h = some v0 ∧ r0 = (v0, h) := rd_some hf
  subst hr0
  have hf := hv0
  unfold c_X2_valueOf at hf
  refine lv_iload_n hM.1 hM.2.1 dX2_valueOf_0 rfl (lv_at hl 1 rfl) ?_
  refine lv_aload_n hM.1 hM.2.1 dX2_valueOf_1 rfl (lv_at hl 0 rfl) ?_
  refine x_alen (v := 9) hM hw ho0 (by decide) dX2_valueOf_2 ?_
  refine x_ic_ge (tgt := 12) hM hf dX2_valueOf_3 (by decide) (fun hf => ?_) (fun hf => ?_)
  · refine lv_iconst (v := 0) hM.1 hM.2.1 dX2_valueOf_12 ic_0 ?_
    exact hR _ _ _ _ _ _ _ (congrArg (fun z => (z, _)) (Option.some.inj hf)) rfl rfl hw dX2_valueOf_13
  refine lv_aload_n hM.1 hM.2.1 dX2_valueOf_6 rfl (lv_at hl 0 rfl) ?_
  refine lv_iload_n hM.1 hM.2.1 dX2_valueOf_7 rfl (lv_at hl 1 rfl) ?_
  refine x_iald hM hw ho0 hf dX2_valueOf_8 (fun hf => ?_)
  refine lv_goto (tgt := 13) hM.1 hM.2.1 dX2_valueOf_9 (by decide) ?_
  exact hR _ _ _ _ _ _ _ (congrArg (fun z => (z, _)) (Option.some.inj hf)) rfl rfl hw dX2_valueOf_13
theorem hd_X2_valueOf : yX2_valueOf.cls ≠ "java/lang/invoke/MethodHandle" ∧ yX2_valueOf.cls ≠ "java/lang/invoke/VarHandle" ∧ (parseMethodDescriptor yX2_valueOf.desc).map (fun d => d.parameters.length) = some 2 := ⟨by decide, by decide, by decide +kernel⟩
theorem dX2_landing_0 : decode cX2_landing 0 = .ok (.iload_n 1, 1) := by decide +kernel
theorem dX2_landing_1 : decode cX2_landing 1 = .ok (.aload_n 0, 1) := by decide +kernel
theorem dX2_landing_2 : decode cX2_landing 2 = .ok (.getfield 15, 3) := by decide +kernel
theorem dX2_landing_5 : decode cX2_landing 5 = .ok (.if_icmp .ge 12, 3) := by decide +kernel
theorem dX2_landing_8 : decode cX2_landing 8 = .ok (.aload_n 0, 1) := by decide +kernel
theorem dX2_landing_9 : decode cX2_landing 9 = .ok (.getfield 9, 3) := by decide +kernel
theorem dX2_landing_12 : decode cX2_landing 12 = .ok (.iload_n 1, 1) := by decide +kernel
theorem dX2_landing_13 : decode cX2_landing 13 = .ok (.iaload, 1) := by decide +kernel
theorem dX2_landing_14 : decode cX2_landing 14 = .ok (.goto 7, 3) := by decide +kernel
theorem dX2_landing_17 : decode cX2_landing 17 = .ok (.aload_n 0, 1) := by decide +kernel
theorem dX2_landing_18 : decode cX2_landing 18 = .ok (.getfield 15, 3) := by decide +kernel
theorem dX2_landing_21 : decode cX2_landing 21 = .ok (.ireturn, 1) := by decide +kernel
def c_X2_landing (p : Nat) (a1 : Int32) (h : PH) : Option (Int32) :=
  if (h.1 p 1) ≤ a1 then
    some (h.1 p 1)
  else
    gd (ixOK a1 408) <|
    some (h.1 (p + 1) a1.toNatClampNeg)
set_option maxHeartbeats 4000000 in
set_option maxRecDepth 100000 in
theorem ct_X2_landing (l : Launch) {lay : List KK} {p : Nat} (ho : okX2 lay p) (a1 : Int32) : CtI l yX2_landing cX2_landing 2 (some .int) 0 0 lay (rd (fun h => c_X2_landing p a1 h)) (fun ad => [.ref (ad p), .int a1]) := by
  refine CtI.mk' RX2 (by decide) rfl (fun _ => Nat.le_of_ble_eq_true rfl) ?_
  intro p0 e s m args below meth c D G A H0 ad X h r0 H ls Q hM hw hl hf hR
  have hl : lv_has ls 2 [(0, .ref (ad p)), (1, .int a1)] := hl
  obtain ⟨v0, hv0, hr0⟩ : ∃ v0, c_X2_landing p a1 h = some v0 ∧ r0 = (v0, h) := rd_some hf
  subst hr0
  have hf := hv0
  unfold c_X2_landing at hf
  refine lv_iload_n hM.1 hM.2.1 dX2_landing_0 rfl (lv_at hl 1 rfl) ?_
  refine lv_aload_n hM.1 hM.2.1 dX2_landing_1 rfl (lv_at hl 0 rfl) ?_
  refine gf_X2_length hM hw (okX2.o ho) fl_X2_15 dX2_landing_2 ?_
  refine x_ic_ge (tgt := 17) hM hf dX2_landing_5 (by decide) (fun hf => ?_) (fun hf => ?_)
  · refine lv_aload_n hM.1 hM.2.1 dX2_landing_17 rfl (lv_at hl 0 rfl) ?_
    refine gf_X2_length hM hw (okX2.o ho) fl_X2_15 dX2_landing_18 ?_
    exact hR _ _ _ _ _ _ _ (congrArg (fun z => (z, _)) (Option.some.inj hf)) rfl rfl hw dX2_landing_21
  refine lv_aload_n hM.1 hM.2.1 dX2_landing_8 rfl (lv_at hl 0 rfl) ?_
  refine gf_X2_steps hM hw (okX2.o ho) fl_X2_9 dX2_landing_9 ?_
  refine lv_iload_n hM.1 hM.2.1 dX2_landing_12 rfl (lv_at hl 1 rfl) ?_
  refine x_iald hM hw (okX2.steps ho) hf dX2_landing_13 (fun hf => ?_)
  refine lv_goto (tgt := 21) hM.1 hM.2.1 dX2_landing_14 (by decide) ?_
  exact hR _ _ _ _ _ _ _ (congrArg (fun z => (z, _)) (Option.some.inj hf)) rfl rfl hw dX2_landing_21
theorem hd_X2_landing : yX2_landing.cls = RX2 ∧ yX2_landing.cls ≠ "java/lang/invoke/MethodHandle" ∧ yX2_landing.cls ≠ "java/lang/invoke/VarHandle" ∧ (parseMethodDescriptor yX2_landing.desc).map (fun d => d.parameters.length) = some 1 := ⟨rfl, by decide, by decide, by decide +kernel⟩
theorem dX2_joined_0 : decode cX2_joined 0 = .ok (.iload_n 0, 1) := by decide +kernel
theorem dX2_joined_1 : decode cX2_joined 1 = .ok (.tableswitch 43 (-45) (-42) #[35, 43, 31, 39], 31) := by decide +kernel
theorem dX2_joined_32 : decode cX2_joined 32 = .ok (.iload_n 1, 1) := by decide +kernel
theorem dX2_joined_33 : decode cX2_joined 33 = .ok (.iload_n 2, 1) := by decide +kernel
theorem dX2_joined_34 : decode cX2_joined 34 = .ok (.iadd, 1) := by decide +kernel
theorem dX2_joined_35 : decode cX2_joined 35 = .ok (.ireturn, 1) := by decide +kernel
theorem dX2_joined_36 : decode cX2_joined 36 = .ok (.iload_n 1, 1) := by decide +kernel
theorem dX2_joined_37 : decode cX2_joined 37 = .ok (.iload_n 2, 1) := by decide +kernel
theorem dX2_joined_38 : decode cX2_joined 38 = .ok (.isub, 1) := by decide +kernel
theorem dX2_joined_39 : decode cX2_joined 39 = .ok (.ireturn, 1) := by decide +kernel
theorem dX2_joined_40 : decode cX2_joined 40 = .ok (.iload_n 1, 1) := by decide +kernel
theorem dX2_joined_41 : decode cX2_joined 41 = .ok (.iload_n 2, 1) := by decide +kernel
theorem dX2_joined_42 : decode cX2_joined 42 = .ok (.imul, 1) := by decide +kernel
theorem dX2_joined_43 : decode cX2_joined 43 = .ok (.ireturn, 1) := by decide +kernel
theorem dX2_joined_44 : decode cX2_joined 44 = .ok (.iload_n 2, 1) := by decide +kernel
theorem dX2_joined_45 : decode cX2_joined 45 = .ok (.ifCond .ne 7, 3) := by decide +kernel
theorem dX2_joined_48 : decode cX2_joined 48 = .ok (.iconst 0, 1) := by decide +kernel
theorem dX2_joined_49 : decode cX2_joined 49 = .ok (.goto 6, 3) := by decide +kernel
theorem dX2_joined_52 : decode cX2_joined 52 = .ok (.iload_n 1, 1) := by decide +kernel
theorem dX2_joined_53 : decode cX2_joined 53 = .ok (.iload_n 2, 1) := by decide +kernel
theorem dX2_joined_54 : decode cX2_joined 54 = .ok (.idiv, 1) := by decide +kernel
theorem dX2_joined_55 : decode cX2_joined 55 = .ok (.ireturn, 1) := by decide +kernel
def c_X2_joined_j44  (x1 : Int32) (x2 : Int32) : Option (Int32) :=
  if x2 = 0 then
    some 0
  else
    if x2 = 0 then none else
    some (x1 / x2)
set_option maxHeartbeats 4000000 in
set_option maxRecDepth 100000 in
theorem w_X2_joined_j44 {p0 : Program} {l : Launch} {e : Env} {s : State} {m : MethodId} {args : Array Value} {below : List Frame} {meth : Method} {c : Code} {Q : State → Prop} {D : va_G} {G : GG} {A : Nat → Prop} {H0 : Heap} {ad : Nat → Nat} {lay : List KK} {X : va_W} {r0 : Int32} {x1 : Int32} {x2 : Int32} {h : PH} {H : Heap} {locs : List Loc} {ls : Array Slot} (hM : CallFix p0 m c cX2_joined 3 s args lw_g RX2) (hR : RtI p0 l e (rmN 0 0) s m args below meth c cX2_joined D G A H0 ad lay X (some .int) (r0, h) Q 0 0) (hw : Wd D G A H0 ad lay X h s H locs) (hl : lv_has ls 3 [(1, .int x1), (2, .int x2)]) (hf : c_X2_joined_j44 x1 x2 = some r0) : W p0 l e (rmN 0 0) s m args below meth c H locs 0 0 Q (F0 m 44 ls []) := by
  unfold c_X2_joined_j44 at hf
  refine lv_iload_n hM.1 hM.2.1 dX2_joined_44 rfl (lv_at hl 1 rfl) ?_
  refine x_if_ne (tgt := 52) hM hf dX2_joined_45 (by decide) (fun hf => ?_) (fun hf => ?_)
  · refine lv_iload_n hM.1 hM.2.1 dX2_joined_52 rfl (lv_at hl 0 rfl) ?_
    refine lv_iload_n hM.1 hM.2.1 dX2_joined_53 rfl (lv_at hl 1 rfl) ?_
    refine x_idiv hM hf dX2_joined_54 (fun hf => ?_)
    exact hR _ _ _ _ _ _ _ (congrArg (fun z => (z, _)) (Option.some.inj hf)) rfl rfl hw dX2_joined_55
  refine lv_iconst (v := 0) hM.1 hM.2.1 dX2_joined_48 ic_0 ?_
  refine lv_goto (tgt := 55) hM.1 hM.2.1 dX2_joined_49 (by decide) ?_
  exact hR _ _ _ _ _ _ _ (congrArg (fun z => (z, _)) (Option.some.inj hf)) rfl rfl hw dX2_joined_55
def c_X2_joined (a0 : Int32) (a1 : Int32) (a2 : Int32) : Option (Int32) :=
  if a0 = (-45) then
    some (a1 - a2)
  else
  if a0 = (-44) then
    c_X2_joined_j44 a1 a2
  else
  if a0 = (-43) then
    some (a1 + a2)
  else
  if a0 = (-42) then
    some (a1 * a2)
  else
    c_X2_joined_j44 a1 a2
set_option maxHeartbeats 4000000 in
set_option maxRecDepth 100000 in
theorem ct_X2_joined (l : Launch) {lay : List KK} (a0 : Int32) (a1 : Int32) (a2 : Int32) : CtI l yX2_joined cX2_joined 3 (some .int) 0 0 lay (rd (fun _ => c_X2_joined a0 a1 a2)) (fun _ => [.int a0, .int a1, .int a2]) := by
  refine CtI.mk' RX2 (by decide) rfl (fun _ => Nat.le_of_ble_eq_true rfl) ?_
  intro p0 e s m args below meth c D G A H0 ad X h r0 H ls Q hM hw hl hf hR
  have hl : lv_has ls 3 [(0, .int a0), (1, .int a1), (2, .int a2)] := hl
  obtain ⟨v0, hv0, hr0⟩ : ∃ v0, c_X2_joined a0 a1 a2 = some v0 ∧ r0 = (v0, h) := rd_some hf
  subst hr0
  have hf := hv0
  unfold c_X2_joined at hf
  refine lv_iload_n hM.1 hM.2.1 dX2_joined_0 rfl (lv_at hl 0 rfl) ?_
  refine x_sw hf (fun hx hf => ?_) (fun nm45 hf => ?_)
  · refine x_tabIn (tgt := 36) hM hx dX2_joined_1 (by decide) (by decide) rfl (by decide) ?_
    refine lv_iload_n hM.1 hM.2.1 dX2_joined_36 rfl (lv_at hl 1 rfl) ?_
    refine lv_iload_n hM.1 hM.2.1 dX2_joined_37 rfl (lv_at hl 2 rfl) ?_
    refine lv_isub hM.1 hM.2.1 dX2_joined_38 ?_
    exact hR _ _ _ _ _ _ _ (congrArg (fun z => (z, _)) (Option.some.inj hf)) rfl rfl hw dX2_joined_39
  refine x_sw hf (fun hx hf => ?_) (fun nm44 hf => ?_)
  · refine x_tabIn (tgt := 44) hM hx dX2_joined_1 (by decide) (by decide) rfl (by decide) ?_
    exact w_X2_joined_j44 hM hR hw (lv_sub hl [1, 2] rfl) hf
  refine x_sw hf (fun hx hf => ?_) (fun nm43 hf => ?_)
  · refine x_tabIn (tgt := 32) hM hx dX2_joined_1 (by decide) (by decide) rfl (by decide) ?_
    refine lv_iload_n hM.1 hM.2.1 dX2_joined_32 rfl (lv_at hl 1 rfl) ?_
    refine lv_iload_n hM.1 hM.2.1 dX2_joined_33 rfl (lv_at hl 2 rfl) ?_
    refine lv_iadd hM.1 hM.2.1 dX2_joined_34 ?_
    exact hR _ _ _ _ _ _ _ (congrArg (fun z => (z, _)) (Option.some.inj hf)) rfl rfl hw dX2_joined_35
  refine x_sw hf (fun hx hf => ?_) (fun nm42 hf => ?_)
  · refine x_tabIn (tgt := 40) hM hx dX2_joined_1 (by decide) (by decide) rfl (by decide) ?_
    refine lv_iload_n hM.1 hM.2.1 dX2_joined_40 rfl (lv_at hl 1 rfl) ?_
    refine lv_iload_n hM.1 hM.2.1 dX2_joined_41 rfl (lv_at hl 2 rfl) ?_
    refine lv_imul hM.1 hM.2.1 dX2_joined_42 ?_
    exact hR _ _ _ _ _ _ _ (congrArg (fun z => (z, _)) (Option.some.inj hf)) rfl rfl hw dX2_joined_43
  refine lv_tableOut (tgt := 44) hM.1 hM.2.1 dX2_joined_1 (by have := sw_ne nm45 (k := -45) (by decide); have := sw_ne nm44 (k := -44) (by decide); have := sw_ne nm43 (k := -43) (by decide); have := sw_ne nm42 (k := -42) (by decide); omega) (by decide) ?_
  exact w_X2_joined_j44 hM hR hw (lv_sub hl [1, 2] rfl) hf
theorem hd_X2_joined : yX2_joined.cls ≠ "java/lang/invoke/MethodHandle" ∧ yX2_joined.cls ≠ "java/lang/invoke/VarHandle" ∧ (parseMethodDescriptor yX2_joined.desc).map (fun d => d.parameters.length) = some 3 := ⟨by decide, by decide, by decide +kernel⟩
theorem dX2_answer_0 : decode cX2_answer 0 = .ok (.iconst 0, 1) := by decide +kernel
theorem dX2_answer_1 : decode cX2_answer 1 = .ok (.istore_n 2, 1) := by decide +kernel
theorem dX2_answer_2 : decode cX2_answer 2 = .ok (.iconst 0, 1) := by decide +kernel
theorem dX2_answer_3 : decode cX2_answer 3 = .ok (.istore_n 3, 1) := by decide +kernel
theorem dX2_answer_4 : decode cX2_answer 4 = .ok (.iconst 0, 1) := by decide +kernel
theorem dX2_answer_5 : decode cX2_answer 5 = .ok (.istore 4, 2) := by decide +kernel
theorem dX2_answer_7 : decode cX2_answer 7 = .ok (.iload 4, 2) := by decide +kernel
theorem dX2_answer_9 : decode cX2_answer 9 = .ok (.aload_n 0, 1) := by decide +kernel
theorem dX2_answer_10 : decode cX2_answer 10 = .ok (.getfield 15, 3) := by decide +kernel
theorem dX2_answer_13 : decode cX2_answer 13 = .ok (.if_icmp .ge 199, 3) := by decide +kernel
theorem dX2_answer_16 : decode cX2_answer 16 = .ok (.iload_n 3, 1) := by decide +kernel
theorem dX2_answer_17 : decode cX2_answer 17 = .ok (.aload_n 0, 1) := by decide +kernel
theorem dX2_answer_18 : decode cX2_answer 18 = .ok (.getfield 15, 3) := by decide +kernel
theorem dX2_answer_21 : decode cX2_answer 21 = .ok (.if_icmp .ge 191, 3) := by decide +kernel
theorem dX2_answer_24 : decode cX2_answer 24 = .ok (.aload_n 0, 1) := by decide +kernel
theorem dX2_answer_25 : decode cX2_answer 25 = .ok (.getfield 9, 3) := by decide +kernel
theorem dX2_answer_28 : decode cX2_answer 28 = .ok (.iload_n 3, 1) := by decide +kernel
theorem dX2_answer_29 : decode cX2_answer 29 = .ok (.iaload, 1) := by decide +kernel
theorem dX2_answer_30 : decode cX2_answer 30 = .ok (.istore 5, 2) := by decide +kernel
theorem dX2_answer_32 : decode cX2_answer 32 = .ok (.iinc 3 1, 3) := by decide +kernel
theorem dX2_answer_35 : decode cX2_answer 35 = .ok (.iload 5, 2) := by decide +kernel
theorem dX2_answer_37 : decode cX2_answer 37 = .ok (.ifCond .lt 49, 3) := by decide +kernel
theorem dX2_answer_40 : decode cX2_answer 40 = .ok (.iload_n 2, 1) := by decide +kernel
theorem dX2_answer_41 : decode cX2_answer 41 = .ok (.aload_n 0, 1) := by decide +kernel
theorem dX2_answer_42 : decode cX2_answer 42 = .ok (.getfield 19, 3) := by decide +kernel
theorem dX2_answer_45 : decode cX2_answer 45 = .ok (.arraylength, 1) := by decide +kernel
theorem dX2_answer_46 : decode cX2_answer 46 = .ok (.if_icmp .lt 5, 3) := by decide +kernel
theorem dX2_answer_49 : decode cX2_answer 49 = .ok (.iconst 0, 1) := by decide +kernel
theorem dX2_answer_50 : decode cX2_answer 50 = .ok (.ireturn, 1) := by decide +kernel
theorem dX2_answer_51 : decode cX2_answer 51 = .ok (.aload_n 0, 1) := by decide +kernel
theorem dX2_answer_52 : decode cX2_answer 52 = .ok (.getfield 19, 3) := by decide +kernel
theorem dX2_answer_55 : decode cX2_answer 55 = .ok (.iload_n 2, 1) := by decide +kernel
theorem dX2_answer_56 : decode cX2_answer 56 = .ok (.iload 5, 2) := by decide +kernel
theorem dX2_answer_58 : decode cX2_answer 58 = .ok (.sipush 10000, 3) := by decide +kernel
theorem dX2_answer_61 : decode cX2_answer 61 = .ok (.if_icmp .ge 8, 3) := by decide +kernel
theorem dX2_answer_64 : decode cX2_answer 64 = .ok (.iload 5, 2) := by decide +kernel
theorem dX2_answer_66 : decode cX2_answer 66 = .ok (.goto 13, 3) := by decide +kernel
theorem dX2_answer_69 : decode cX2_answer 69 = .ok (.aload_n 1, 1) := by decide +kernel
theorem dX2_answer_70 : decode cX2_answer 70 = .ok (.iload 5, 2) := by decide +kernel
theorem dX2_answer_72 : decode cX2_answer 72 = .ok (.sipush 10000, 3) := by decide +kernel
theorem dX2_answer_75 : decode cX2_answer 75 = .ok (.isub, 1) := by decide +kernel
theorem dX2_answer_76 : decode cX2_answer 76 = .ok (.invokestatic 26, 3) := by decide +kernel
theorem dX2_answer_79 : decode cX2_answer 79 = .ok (.iastore, 1) := by decide +kernel
theorem dX2_answer_80 : decode cX2_answer 80 = .ok (.iinc 2 1, 3) := by decide +kernel
theorem dX2_answer_83 : decode cX2_answer 83 = .ok (.goto 123, 3) := by decide +kernel
theorem dX2_answer_86 : decode cX2_answer 86 = .ok (.iload 5, 2) := by decide +kernel
theorem dX2_answer_88 : decode cX2_answer 88 = .ok (.iconst (-1), 1) := by decide +kernel
theorem dX2_answer_89 : decode cX2_answer 89 = .ok (.if_icmp .ne 20, 3) := by decide +kernel
theorem dX2_answer_92 : decode cX2_answer 92 = .ok (.iload_n 2, 1) := by decide +kernel
theorem dX2_answer_93 : decode cX2_answer 93 = .ok (.ifCond .le 14, 3) := by decide +kernel
theorem dX2_answer_96 : decode cX2_answer 96 = .ok (.aload_n 0, 1) := by decide +kernel
theorem dX2_answer_97 : decode cX2_answer 97 = .ok (.getfield 19, 3) := by decide +kernel
theorem dX2_answer_100 : decode cX2_answer 100 = .ok (.iload_n 2, 1) := by decide +kernel
theorem dX2_answer_101 : decode cX2_answer 101 = .ok (.iconst 1, 1) := by decide +kernel
theorem dX2_answer_102 : decode cX2_answer 102 = .ok (.isub, 1) := by decide +kernel
theorem dX2_answer_103 : decode cX2_answer 103 = .ok (.iaload, 1) := by decide +kernel
theorem dX2_answer_104 : decode cX2_answer 104 = .ok (.goto 4, 3) := by decide +kernel
theorem dX2_answer_107 : decode cX2_answer 107 = .ok (.iconst 0, 1) := by decide +kernel
theorem dX2_answer_108 : decode cX2_answer 108 = .ok (.ireturn, 1) := by decide +kernel
theorem dX2_answer_109 : decode cX2_answer 109 = .ok (.iload_n 2, 1) := by decide +kernel
theorem dX2_answer_110 : decode cX2_answer 110 = .ok (.iconst 2, 1) := by decide +kernel
theorem dX2_answer_111 : decode cX2_answer 111 = .ok (.if_icmp .ge 5, 3) := by decide +kernel
theorem dX2_answer_114 : decode cX2_answer 114 = .ok (.iconst 0, 1) := by decide +kernel
theorem dX2_answer_115 : decode cX2_answer 115 = .ok (.ireturn, 1) := by decide +kernel
theorem dX2_answer_116 : decode cX2_answer 116 = .ok (.aload_n 0, 1) := by decide +kernel
theorem dX2_answer_117 : decode cX2_answer 117 = .ok (.getfield 19, 3) := by decide +kernel
theorem dX2_answer_120 : decode cX2_answer 120 = .ok (.iload_n 2, 1) := by decide +kernel
theorem dX2_answer_121 : decode cX2_answer 121 = .ok (.iconst 2, 1) := by decide +kernel
theorem dX2_answer_122 : decode cX2_answer 122 = .ok (.isub, 1) := by decide +kernel
theorem dX2_answer_123 : decode cX2_answer 123 = .ok (.iaload, 1) := by decide +kernel
theorem dX2_answer_124 : decode cX2_answer 124 = .ok (.istore 6, 2) := by decide +kernel
theorem dX2_answer_126 : decode cX2_answer 126 = .ok (.aload_n 0, 1) := by decide +kernel
theorem dX2_answer_127 : decode cX2_answer 127 = .ok (.getfield 19, 3) := by decide +kernel
theorem dX2_answer_130 : decode cX2_answer 130 = .ok (.iload_n 2, 1) := by decide +kernel
theorem dX2_answer_131 : decode cX2_answer 131 = .ok (.iconst 1, 1) := by decide +kernel
theorem dX2_answer_132 : decode cX2_answer 132 = .ok (.isub, 1) := by decide +kernel
theorem dX2_answer_133 : decode cX2_answer 133 = .ok (.iaload, 1) := by decide +kernel
theorem dX2_answer_134 : decode cX2_answer 134 = .ok (.istore 7, 2) := by decide +kernel
theorem dX2_answer_136 : decode cX2_answer 136 = .ok (.iload 5, 2) := by decide +kernel
theorem dX2_answer_138 : decode cX2_answer 138 = .ok (.bipush (-2), 2) := by decide +kernel
theorem dX2_answer_140 : decode cX2_answer 140 = .ok (.if_icmp .ne 32, 3) := by decide +kernel
theorem dX2_answer_143 : decode cX2_answer 143 = .ok (.iinc 2 (-2), 3) := by decide +kernel
theorem dX2_answer_146 : decode cX2_answer 146 = .ok (.iload 6, 2) := by decide +kernel
theorem dX2_answer_148 : decode cX2_answer 148 = .ok (.iload 7, 2) := by decide +kernel
theorem dX2_answer_150 : decode cX2_answer 150 = .ok (.if_icmp .ge 9, 3) := by decide +kernel
theorem dX2_answer_153 : decode cX2_answer 153 = .ok (.iload_n 3, 1) := by decide +kernel
theorem dX2_answer_154 : decode cX2_answer 154 = .ok (.iconst 1, 1) := by decide +kernel
theorem dX2_answer_155 : decode cX2_answer 155 = .ok (.iadd, 1) := by decide +kernel
theorem dX2_answer_156 : decode cX2_answer 156 = .ok (.goto 12, 3) := by decide +kernel
theorem dX2_answer_159 : decode cX2_answer 159 = .ok (.iload_n 3, 1) := by decide +kernel
theorem dX2_answer_160 : decode cX2_answer 160 = .ok (.aload_n 0, 1) := by decide +kernel
theorem dX2_answer_161 : decode cX2_answer 161 = .ok (.iload_n 3, 1) := by decide +kernel
theorem dX2_answer_162 : decode cX2_answer 162 = .ok (.invokevirtual 30, 3) := by decide +kernel
theorem dX2_answer_165 : decode cX2_answer 165 = .ok (.invokestatic 34, 3) := by decide +kernel
theorem dX2_answer_168 : decode cX2_answer 168 = .ok (.istore_n 3, 1) := by decide +kernel
theorem dX2_answer_169 : decode cX2_answer 169 = .ok (.goto 37, 3) := by decide +kernel
theorem dX2_answer_172 : decode cX2_answer 172 = .ok (.iload 5, 2) := by decide +kernel
theorem dX2_answer_174 : decode cX2_answer 174 = .ok (.bipush (-47), 2) := by decide +kernel
theorem dX2_answer_176 : decode cX2_answer 176 = .ok (.if_icmp .ne 10, 3) := by decide +kernel
theorem dX2_answer_179 : decode cX2_answer 179 = .ok (.iload 7, 2) := by decide +kernel
theorem dX2_answer_181 : decode cX2_answer 181 = .ok (.ifCond .ne 5, 3) := by decide +kernel
theorem dX2_answer_184 : decode cX2_answer 184 = .ok (.iconst 0, 1) := by decide +kernel
theorem dX2_answer_185 : decode cX2_answer 185 = .ok (.ireturn, 1) := by decide +kernel
theorem dX2_answer_186 : decode cX2_answer 186 = .ok (.iinc 2 (-1), 3) := by decide +kernel
theorem dX2_answer_189 : decode cX2_answer 189 = .ok (.aload_n 0, 1) := by decide +kernel
theorem dX2_answer_190 : decode cX2_answer 190 = .ok (.getfield 19, 3) := by decide +kernel
theorem dX2_answer_193 : decode cX2_answer 193 = .ok (.iload_n 2, 1) := by decide +kernel
theorem dX2_answer_194 : decode cX2_answer 194 = .ok (.iconst 1, 1) := by decide +kernel
theorem dX2_answer_195 : decode cX2_answer 195 = .ok (.isub, 1) := by decide +kernel
theorem dX2_answer_196 : decode cX2_answer 196 = .ok (.iload 5, 2) := by decide +kernel
theorem dX2_answer_198 : decode cX2_answer 198 = .ok (.iload 6, 2) := by decide +kernel
theorem dX2_answer_200 : decode cX2_answer 200 = .ok (.iload 7, 2) := by decide +kernel
theorem dX2_answer_202 : decode cX2_answer 202 = .ok (.invokestatic 40, 3) := by decide +kernel
theorem dX2_answer_205 : decode cX2_answer 205 = .ok (.iastore, 1) := by decide +kernel
theorem dX2_answer_206 : decode cX2_answer 206 = .ok (.iinc 4 1, 3) := by decide +kernel
theorem dX2_answer_209 : decode cX2_answer 209 = .ok (.goto (-202), 3) := by decide +kernel
theorem dX2_answer_212 : decode cX2_answer 212 = .ok (.iconst 0, 1) := by decide +kernel
theorem dX2_answer_213 : decode cX2_answer 213 = .ok (.ireturn, 1) := by decide +kernel
def c_X2_answer_L7b {ρ : Type}  (p : Nat) (q1 : Nat) (K1 : PH → Option ρ) (K2 : Int32 → PH → Option ρ) (K3 : PH → Option ρ) (K4 : PH → Option ρ) (K5 : PH → Option ρ) (REC : Int32 → Int32 → Int32 → PH → Option ρ) (x2 : Int32) (x3 : Int32) (x4 : Int32) (h : PH) : Option ρ :=
  if (h.1 p 1) ≤ x4 then
    K5 h
  else
    if (h.1 p 1) ≤ x3 then
      K5 h
    else
      gd (ixOK x3 408) <|
      nm (h.1 (p + 1) x3.toNatClampNeg) fun v4 =>
      nm (x3 + 1) fun v5 =>
      if v4 < 0 then
        if v4 = (-1) then
          K2 x2 h
        else
          if 2 ≤ x2 then
            gd (ixOK (x2 - 2) 20) <|
            nm (h.1 (p + 2) (x2 - 2).toNatClampNeg) fun v6 =>
            gd (ixOK (x2 - 1) 20) <|
            nm (h.1 (p + 2) (x2 - 1).toNatClampNeg) fun v7 =>
            if v4 = (-2) then
              nm (x2 + (-2)) fun v16 =>
              if v7 ≤ v6 then
                (c_X2_landing p v5 h).bind fun r17 =>
                nm (jmax v5 r17) fun v18 =>
                nm (x4 + 1) fun v19 =>
                REC v16 v18 v19 h
              else
                nm (v5 + 1) fun v20 =>
                nm (x4 + 1) fun v21 =>
                REC v16 v20 v21 h
            else
              if v4 = (-47) then
                if v7 = 0 then
                  K4 h
                else
                  nm (x2 + (-1)) fun v12 =>
                  (c_X2_joined v4 v6 v7).bind fun r13 =>
                  gd (ixOK (v12 - 1) 20) <| nm (setI h (p + 2) (v12 - 1).toNatClampNeg r13) fun h14 =>
                  nm (x4 + 1) fun v15 =>
                  REC v12 v5 v15 h14
              else
                nm (x2 + (-1)) fun v8 =>
                (c_X2_joined v4 v6 v7).bind fun r9 =>
                gd (ixOK (v8 - 1) 20) <| nm (setI h (p + 2) (v8 - 1).toNatClampNeg r9) fun h10 =>
                nm (x4 + 1) fun v11 =>
                REC v8 v5 v11 h10
          else
            K3 h
      else
        if x2 < 20 then
          if 10000 ≤ v4 then
            (c_X2_valueOf q1 (v4 - 10000) h).bind fun r22 =>
            gd (ixOK x2 20) <| nm (setI h (p + 2) x2.toNatClampNeg r22) fun h23 =>
            nm (x2 + 1) fun v24 =>
            nm (x4 + 1) fun v25 =>
            REC v24 v5 v25 h23
          else
            gd (ixOK x2 20) <| nm (setI h (p + 2) x2.toNatClampNeg v4) fun h26 =>
            nm (x2 + 1) fun v27 =>
            nm (x4 + 1) fun v28 =>
            REC v27 v5 v28 h26
        else
          K1 h
set_option maxHeartbeats 4000000 in
set_option maxRecDepth 100000 in
theorem w_X2_answer_L7b {p0 : Program} {l : Launch} {e : Env} {s : State} {m : MethodId} {args : Array Value} {below : List Frame} {meth : Method} {c : Code} {Q : State → Prop} {D : va_G} {G : GG} {A : Nat → Prop} {H0 : Heap} {ad : Nat → Nat} {lay : List KK} {X : va_W} {ρ : Type} {p : Nat} {q1 : Nat} {r0 : ρ} {x2 : Int32} {x3 : Int32} {x4 : Int32} {h : PH} {H : Heap} {locs : List Loc} {ls : Array Slot} {K1 : PH → Option ρ} {K2 : Int32 → PH → Option ρ} {K3 : PH → Option ρ} {K4 : PH → Option ρ} {K5 : PH → Option ρ} {REC : Int32 → Int32 → Int32 → PH → Option ρ} (hM : CallFix p0 m c cX2_answer 8 s args lw_g RX2) (ho : okX2 lay p) (ho1 : lay[q1]? = some (kI 9)) (hk1 : ∀ (h : PH), ∀ (H : Heap) (locs : List Loc) (ls : Array Slot), K1 h = some r0 → Wd D G A H0 ad lay X h s H locs → lv_has ls 8 [] → W p0 l e (rmN 1 22) s m args below meth c H locs 0 0 Q (F0 m 49 ls [])) (hk2 : ∀ (x2 : Int32) (h : PH), ∀ (H : Heap) (locs : List Loc) (ls : Array Slot), K2 x2 h = some r0 → Wd D G A H0 ad lay X h s H locs → lv_has ls 8 [(0, .ref (ad p)), (2, .int x2)] → W p0 l e (rmN 1 22) s m args below meth c H locs 0 0 Q (F0 m 92 ls [])) (hk3 : ∀ (h : PH), ∀ (H : Heap) (locs : List Loc) (ls : Array Slot), K3 h = some r0 → Wd D G A H0 ad lay X h s H locs → lv_has ls 8 [] → W p0 l e (rmN 1 22) s m args below meth c H locs 0 0 Q (F0 m 114 ls [])) (hk4 : ∀ (h : PH), ∀ (H : Heap) (locs : List Loc) (ls : Array Slot), K4 h = some r0 → Wd D G A H0 ad lay X h s H locs → lv_has ls 8 [] → W p0 l e (rmN 1 22) s m args below meth c H locs 0 0 Q (F0 m 184 ls [])) (hk5 : ∀ (h : PH), ∀ (H : Heap) (locs : List Loc) (ls : Array Slot), K5 h = some r0 → Wd D G A H0 ad lay X h s H locs → lv_has ls 8 [] → W p0 l e (rmN 1 22) s m args below meth c H locs 0 0 Q (F0 m 212 ls [])) (hrec : ∀ (x2 : Int32) (x3 : Int32) (x4 : Int32) (h : PH), ∀ (H : Heap) (locs : List Loc) (ls : Array Slot), REC x2 x3 x4 h = some r0 → Wd D G A H0 ad lay X h s H locs → lv_has ls 8 [(0, .ref (ad p)), (1, .ref (ad q1)), (2, .int x2), (3, .int x3), (4, .int x4)] → W p0 l e (rmN 1 22) s m args below meth c H locs 0 0 Q (F0 m 7 ls [])) (hw : Wd D G A H0 ad lay X h s H locs) (hl : lv_has ls 8 [(0, .ref (ad p)), (1, .ref (ad q1)), (2, .int x2), (3, .int x3), (4, .int x4)]) (hf : c_X2_answer_L7b p q1 K1 K2 K3 K4 K5 REC x2 x3 x4 h = some r0) : W p0 l e (rmN 1 22) s m args below meth c H locs 0 0 Q (F0 m 7 ls []) := by
  unfold c_X2_answer_L7b at hf
  refine lv_iload hM.1 hM.2.1 dX2_answer_7 (lv_at hl 4 rfl) ?_
  refine lv_aload_n hM.1 hM.2.1 dX2_answer_9 rfl (lv_at hl 0 rfl) ?_
  refine gf_X2_length hM hw (okX2.o ho) fl_X2_15 dX2_answer_10 ?_
  refine x_ic_ge (tgt := 212) hM hf dX2_answer_13 (by decide) (fun hf => ?_) (fun hf => ?_)
  · exact hk5 _ _ _ _ hf hw (lv_sub hl [] rfl)
  refine lv_iload_n hM.1 hM.2.1 dX2_answer_16 rfl (lv_at hl 3 rfl) ?_
  refine lv_aload_n hM.1 hM.2.1 dX2_answer_17 rfl (lv_at hl 0 rfl) ?_
  refine gf_X2_length hM hw (okX2.o ho) fl_X2_15 dX2_answer_18 ?_
  refine x_ic_ge (tgt := 212) hM hf dX2_answer_21 (by decide) (fun hf => ?_) (fun hf => ?_)
  · exact hk5 _ _ _ _ hf hw (lv_sub hl [] rfl)
  refine lv_aload_n hM.1 hM.2.1 dX2_answer_24 rfl (lv_at hl 0 rfl) ?_
  refine gf_X2_steps hM hw (okX2.o ho) fl_X2_9 dX2_answer_25 ?_
  refine lv_iload_n hM.1 hM.2.1 dX2_answer_28 rfl (lv_at hl 3 rfl) ?_
  refine x_iald hM hw (okX2.steps ho) hf dX2_answer_29 (fun hf => ?_)
  refine x_istore hM hf dX2_answer_30 hl (by decide) (fun v4 => [(5, .int v4), (0, .ref (ad p)), (1, .ref (ad q1)), (2, .int x2), (3, .int x3), (4, .int x4)]) (fun _ => rfl) (fun v4 ls hf hl => ?_)
  refine x_iinc (k := 4) (d := 1) hM hf dX2_answer_32 hl rfl (by decide) (by decide) (fun v5 => [(3, .int v5), (5, .int v4), (0, .ref (ad p)), (1, .ref (ad q1)), (2, .int x2), (4, .int x4)]) (fun _ => rfl) (fun v5 ls hf hl => ?_)
  refine lv_iload hM.1 hM.2.1 dX2_answer_35 (lv_at hl 1 rfl) ?_
  refine x_if_lt (tgt := 86) hM hf dX2_answer_37 (by decide) (fun hf => ?_) (fun hf => ?_)
  · refine lv_iload hM.1 hM.2.1 dX2_answer_86 (lv_at hl 1 rfl) ?_
    refine lv_iconst (v := (-1)) hM.1 hM.2.1 dX2_answer_88 ic_m1 ?_
    refine x_ic_ne (tgt := 109) hM hf dX2_answer_89 (by decide) (fun hf => ?_) (fun hf => ?_)
    · refine lv_iload_n hM.1 hM.2.1 dX2_answer_109 rfl (lv_at hl 4 rfl) ?_
      refine lv_iconst (v := 2) hM.1 hM.2.1 dX2_answer_110 ic_2 ?_
      refine x_ic_ge (tgt := 116) hM hf dX2_answer_111 (by decide) (fun hf => ?_) (fun hf => ?_)
      · refine lv_aload_n hM.1 hM.2.1 dX2_answer_116 rfl (lv_at hl 2 rfl) ?_
        refine gf_X2_stack hM hw (okX2.o ho) fl_X2_19 dX2_answer_117 ?_
        refine lv_iload_n hM.1 hM.2.1 dX2_answer_120 rfl (lv_at hl 4 rfl) ?_
        refine lv_iconst (v := 2) hM.1 hM.2.1 dX2_answer_121 ic_2 ?_
        refine lv_isub hM.1 hM.2.1 dX2_answer_122 ?_
        refine x_iald hM hw (okX2.stack ho) hf dX2_answer_123 (fun hf => ?_)
        refine x_istore hM hf dX2_answer_124 hl (by decide) (fun v6 => [(6, .int v6), (3, .int v5), (5, .int v4), (0, .ref (ad p)), (1, .ref (ad q1)), (2, .int x2), (4, .int x4)]) (fun _ => rfl) (fun v6 ls hf hl => ?_)
        refine lv_aload_n hM.1 hM.2.1 dX2_answer_126 rfl (lv_at hl 3 rfl) ?_
        refine gf_X2_stack hM hw (okX2.o ho) fl_X2_19 dX2_answer_127 ?_
        refine lv_iload_n hM.1 hM.2.1 dX2_answer_130 rfl (lv_at hl 5 rfl) ?_
        refine lv_iconst (v := 1) hM.1 hM.2.1 dX2_answer_131 ic_1 ?_
        refine lv_isub hM.1 hM.2.1 dX2_answer_132 ?_
        refine x_iald hM hw (okX2.stack ho) hf dX2_answer_133 (fun hf => ?_)
        refine x_istore hM hf dX2_answer_134 hl (by decide) (fun v7 => [(7, .int v7), (6, .int v6), (3, .int v5), (5, .int v4), (0, .ref (ad p)), (1, .ref (ad q1)), (2, .int x2), (4, .int x4)]) (fun _ => rfl) (fun v7 ls hf hl => ?_)
        refine lv_iload hM.1 hM.2.1 dX2_answer_136 (lv_at hl 3 rfl) ?_
        refine lv_bipush (v := (-2)) hM.1 hM.2.1 dX2_answer_138 (by decide) ?_
        refine x_ic_ne (tgt := 172) hM hf dX2_answer_140 (by decide) (fun hf => ?_) (fun hf => ?_)
        · refine lv_iload hM.1 hM.2.1 dX2_answer_172 (lv_at hl 3 rfl) ?_
          refine lv_bipush (v := (-47)) hM.1 hM.2.1 dX2_answer_174 (by decide) ?_
          refine x_ic_ne (tgt := 186) hM hf dX2_answer_176 (by decide) (fun hf => ?_) (fun hf => ?_)
          · refine x_iinc (k := 6) (d := (-1)) hM hf dX2_answer_186 hl rfl (by decide) (by decide) (fun v8 => [(2, .int v8), (7, .int v7), (6, .int v6), (3, .int v5), (5, .int v4), (0, .ref (ad p)), (1, .ref (ad q1)), (4, .int x4)]) (fun _ => rfl) (fun v8 ls hf hl => ?_)
            refine lv_aload_n hM.1 hM.2.1 dX2_answer_189 rfl (lv_at hl 5 rfl) ?_
            refine gf_X2_stack hM hw (okX2.o ho) fl_X2_19 dX2_answer_190 ?_
            refine lv_iload_n hM.1 hM.2.1 dX2_answer_193 rfl (lv_at hl 0 rfl) ?_
            refine lv_iconst (v := 1) hM.1 hM.2.1 dX2_answer_194 ic_1 ?_
            refine lv_isub hM.1 hM.2.1 dX2_answer_195 ?_
            refine lv_iload hM.1 hM.2.1 dX2_answer_196 (lv_at hl 4 rfl) ?_
            refine lv_iload hM.1 hM.2.1 dX2_answer_198 (lv_at hl 2 rfl) ?_
            refine lv_iload hM.1 hM.2.1 dX2_answer_200 (lv_at hl 1 rfl) ?_
            refine x_callSIr (rest := [.int (v8 - 1), .ref (ad (p + 2))]) hM hw (ct_X2_joined l v4 v6 v7) [.int v4, .int v6, .int v7] rfl (gi_S ml_X2_40 sm_X2_joined in_X2 kc_X2_joined) hd_X2_joined rfl ⟨Nat.le_of_ble_eq_true rfl, Nat.le_of_ble_eq_true rfl⟩ rfl (Nat.le_of_ble_eq_true rfl) hl.1 hcs0 hf dX2_answer_202 (fun r9 H locs hf hw => ?_)
            refine x_iast hM hw (okX2.stack ho) hf dX2_answer_205 (fun h10 H locs hf hw => ?_)
            refine x_iinc (k := 7) (d := 1) hM hf dX2_answer_206 hl rfl (by decide) (by decide) (fun v11 => [(4, .int v11), (2, .int v8), (7, .int v7), (6, .int v6), (3, .int v5), (5, .int v4), (0, .ref (ad p)), (1, .ref (ad q1))]) (fun _ => rfl) (fun v11 ls hf hl => ?_)
            refine lv_goto (tgt := 7) hM.1 hM.2.1 dX2_answer_209 (by decide) ?_
            exact hrec _ _ _ _ _ _ _ hf hw (lv_sub hl [6, 7, 1, 4, 0] rfl)
          refine lv_iload hM.1 hM.2.1 dX2_answer_179 (lv_at hl 0 rfl) ?_
          refine x_if_ne (tgt := 186) hM hf dX2_answer_181 (by decide) (fun hf => ?_) (fun hf => ?_)
          · refine x_iinc (k := 6) (d := (-1)) hM hf dX2_answer_186 hl rfl (by decide) (by decide) (fun v12 => [(2, .int v12), (7, .int v7), (6, .int v6), (3, .int v5), (5, .int v4), (0, .ref (ad p)), (1, .ref (ad q1)), (4, .int x4)]) (fun _ => rfl) (fun v12 ls hf hl => ?_)
            refine lv_aload_n hM.1 hM.2.1 dX2_answer_189 rfl (lv_at hl 5 rfl) ?_
            refine gf_X2_stack hM hw (okX2.o ho) fl_X2_19 dX2_answer_190 ?_
            refine lv_iload_n hM.1 hM.2.1 dX2_answer_193 rfl (lv_at hl 0 rfl) ?_
            refine lv_iconst (v := 1) hM.1 hM.2.1 dX2_answer_194 ic_1 ?_
            refine lv_isub hM.1 hM.2.1 dX2_answer_195 ?_
            refine lv_iload hM.1 hM.2.1 dX2_answer_196 (lv_at hl 4 rfl) ?_
            refine lv_iload hM.1 hM.2.1 dX2_answer_198 (lv_at hl 2 rfl) ?_
            refine lv_iload hM.1 hM.2.1 dX2_answer_200 (lv_at hl 1 rfl) ?_
            refine x_callSIr (rest := [.int (v12 - 1), .ref (ad (p + 2))]) hM hw (ct_X2_joined l v4 v6 v7) [.int v4, .int v6, .int v7] rfl (gi_S ml_X2_40 sm_X2_joined in_X2 kc_X2_joined) hd_X2_joined rfl ⟨Nat.le_of_ble_eq_true rfl, Nat.le_of_ble_eq_true rfl⟩ rfl (Nat.le_of_ble_eq_true rfl) hl.1 hcs0 hf dX2_answer_202 (fun r13 H locs hf hw => ?_)
            refine x_iast hM hw (okX2.stack ho) hf dX2_answer_205 (fun h14 H locs hf hw => ?_)
            refine x_iinc (k := 7) (d := 1) hM hf dX2_answer_206 hl rfl (by decide) (by decide) (fun v15 => [(4, .int v15), (2, .int v12), (7, .int v7), (6, .int v6), (3, .int v5), (5, .int v4), (0, .ref (ad p)), (1, .ref (ad q1))]) (fun _ => rfl) (fun v15 ls hf hl => ?_)
            refine lv_goto (tgt := 7) hM.1 hM.2.1 dX2_answer_209 (by decide) ?_
            exact hrec _ _ _ _ _ _ _ hf hw (lv_sub hl [6, 7, 1, 4, 0] rfl)
          exact hk4 _ _ _ _ hf hw (lv_sub hl [] rfl)
        refine x_iinc (k := 6) (d := (-2)) hM hf dX2_answer_143 hl rfl (by decide) (by decide) (fun v16 => [(2, .int v16), (7, .int v7), (6, .int v6), (3, .int v5), (5, .int v4), (0, .ref (ad p)), (1, .ref (ad q1)), (4, .int x4)]) (fun _ => rfl) (fun v16 ls hf hl => ?_)
        refine lv_iload hM.1 hM.2.1 dX2_answer_146 (lv_at hl 2 rfl) ?_
        refine lv_iload hM.1 hM.2.1 dX2_answer_148 (lv_at hl 1 rfl) ?_
        refine x_ic_ge (tgt := 159) hM hf dX2_answer_150 (by decide) (fun hf => ?_) (fun hf => ?_)
        · refine lv_iload_n hM.1 hM.2.1 dX2_answer_159 rfl (lv_at hl 3 rfl) ?_
          refine lv_aload_n hM.1 hM.2.1 dX2_answer_160 rfl (lv_at hl 5 rfl) ?_
          refine lv_iload_n hM.1 hM.2.1 dX2_answer_161 rfl (lv_at hl 3 rfl) ?_
          refine x_callVIr (rest := [.int v5]) hM hw (ct_X2_landing l ho v5) [.int v5] (okX2.o ho) rfl rfl rfl (gi_V ml_X2_30 im_X2_landing sl_X2_landing in_X2 kc_X2_landing) hd_X2_landing rfl ⟨Nat.le_of_ble_eq_true rfl, Nat.le_of_ble_eq_true rfl⟩ rfl (Nat.le_of_ble_eq_true rfl) hl.1 hcs0 hf dX2_answer_162 (fun r17 H locs hf hw => ?_)
          refine x_mmax hM hl.1 hcs0 ml_X2_34 sm_J9_max_7cf53 in_J9 kc_J9_max_7cf53 (Nat.le_of_ble_eq_true rfl) (Nat.le_of_ble_eq_true rfl) dX2_answer_165 ?_
          refine x_istore_n hM hf dX2_answer_168 rfl hl (by decide) (fun v18 => [(3, .int v18), (2, .int v16), (7, .int v7), (6, .int v6), (5, .int v4), (0, .ref (ad p)), (1, .ref (ad q1)), (4, .int x4)]) (fun _ => rfl) (fun v18 ls hf hl => ?_)
          refine lv_goto (tgt := 206) hM.1 hM.2.1 dX2_answer_169 (by decide) ?_
          refine x_iinc (k := 7) (d := 1) hM hf dX2_answer_206 hl rfl (by decide) (by decide) (fun v19 => [(4, .int v19), (3, .int v18), (2, .int v16), (7, .int v7), (6, .int v6), (5, .int v4), (0, .ref (ad p)), (1, .ref (ad q1))]) (fun _ => rfl) (fun v19 ls hf hl => ?_)
          refine lv_goto (tgt := 7) hM.1 hM.2.1 dX2_answer_209 (by decide) ?_
          exact hrec _ _ _ _ _ _ _ hf hw (lv_sub hl [6, 7, 2, 1, 0] rfl)
        refine lv_iload_n hM.1 hM.2.1 dX2_answer_153 rfl (lv_at hl 3 rfl) ?_
        refine lv_iconst (v := 1) hM.1 hM.2.1 dX2_answer_154 ic_1 ?_
        refine lv_iadd hM.1 hM.2.1 dX2_answer_155 ?_
        refine lv_goto (tgt := 168) hM.1 hM.2.1 dX2_answer_156 (by decide) ?_
        refine x_istore_n hM hf dX2_answer_168 rfl hl (by decide) (fun v20 => [(3, .int v20), (2, .int v16), (7, .int v7), (6, .int v6), (5, .int v4), (0, .ref (ad p)), (1, .ref (ad q1)), (4, .int x4)]) (fun _ => rfl) (fun v20 ls hf hl => ?_)
        refine lv_goto (tgt := 206) hM.1 hM.2.1 dX2_answer_169 (by decide) ?_
        refine x_iinc (k := 7) (d := 1) hM hf dX2_answer_206 hl rfl (by decide) (by decide) (fun v21 => [(4, .int v21), (3, .int v20), (2, .int v16), (7, .int v7), (6, .int v6), (5, .int v4), (0, .ref (ad p)), (1, .ref (ad q1))]) (fun _ => rfl) (fun v21 ls hf hl => ?_)
        refine lv_goto (tgt := 7) hM.1 hM.2.1 dX2_answer_209 (by decide) ?_
        exact hrec _ _ _ _ _ _ _ hf hw (lv_sub hl [6, 7, 2, 1, 0] rfl)
      exact hk3 _ _ _ _ hf hw (lv_sub hl [] rfl)
    exact hk2 _ _ _ _ _ hf hw (lv_sub hl [2, 4] rfl)
  refine lv_iload_n hM.1 hM.2.1 dX2_answer_40 rfl (lv_at hl 4 rfl) ?_
  refine lv_aload_n hM.1 hM.2.1 dX2_answer_41 rfl (lv_at hl 2 rfl) ?_
  refine gf_X2_stack hM hw (okX2.o ho) fl_X2_19 dX2_answer_42 ?_
  refine x_alen (v := 20) hM hw (okX2.stack ho) (by decide) dX2_answer_45 ?_
  refine x_ic_lt (tgt := 51) hM hf dX2_answer_46 (by decide) (fun hf => ?_) (fun hf => ?_)
  · refine lv_aload_n hM.1 hM.2.1 dX2_answer_51 rfl (lv_at hl 2 rfl) ?_
    refine gf_X2_stack hM hw (okX2.o ho) fl_X2_19 dX2_answer_52 ?_
    refine lv_iload_n hM.1 hM.2.1 dX2_answer_55 rfl (lv_at hl 4 rfl) ?_
    refine lv_iload hM.1 hM.2.1 dX2_answer_56 (lv_at hl 1 rfl) ?_
    refine lv_sipush (v := 10000) hM.1 hM.2.1 dX2_answer_58 (by decide) ?_
    refine x_ic_ge (tgt := 69) hM hf dX2_answer_61 (by decide) (fun hf => ?_) (fun hf => ?_)
    · refine lv_aload_n hM.1 hM.2.1 dX2_answer_69 rfl (lv_at hl 3 rfl) ?_
      refine lv_iload hM.1 hM.2.1 dX2_answer_70 (lv_at hl 1 rfl) ?_
      refine lv_sipush (v := 10000) hM.1 hM.2.1 dX2_answer_72 (by decide) ?_
      refine lv_isub hM.1 hM.2.1 dX2_answer_75 ?_
      refine x_callSIr (rest := [.int x2, .ref (ad (p + 2))]) hM hw (ct_X2_valueOf l ho1 (v4 - 10000)) [.ref (ad q1), .int (v4 - 10000)] rfl (gi_S ml_X2_26 sm_X2_valueOf in_X2 kc_X2_valueOf) hd_X2_valueOf rfl ⟨Nat.le_of_ble_eq_true rfl, Nat.le_of_ble_eq_true rfl⟩ rfl (Nat.le_of_ble_eq_true rfl) hl.1 hcs0 hf dX2_answer_76 (fun r22 H locs hf hw => ?_)
      refine x_iast hM hw (okX2.stack ho) hf dX2_answer_79 (fun h23 H locs hf hw => ?_)
      refine x_iinc (k := 4) (d := 1) hM hf dX2_answer_80 hl rfl (by decide) (by decide) (fun v24 => [(2, .int v24), (3, .int v5), (5, .int v4), (0, .ref (ad p)), (1, .ref (ad q1)), (4, .int x4)]) (fun _ => rfl) (fun v24 ls hf hl => ?_)
      refine lv_goto (tgt := 206) hM.1 hM.2.1 dX2_answer_83 (by decide) ?_
      refine x_iinc (k := 5) (d := 1) hM hf dX2_answer_206 hl rfl (by decide) (by decide) (fun v25 => [(4, .int v25), (2, .int v24), (3, .int v5), (5, .int v4), (0, .ref (ad p)), (1, .ref (ad q1))]) (fun _ => rfl) (fun v25 ls hf hl => ?_)
      refine lv_goto (tgt := 7) hM.1 hM.2.1 dX2_answer_209 (by decide) ?_
      exact hrec _ _ _ _ _ _ _ hf hw (lv_sub hl [4, 5, 1, 2, 0] rfl)
    refine lv_iload hM.1 hM.2.1 dX2_answer_64 (lv_at hl 1 rfl) ?_
    refine lv_goto (tgt := 79) hM.1 hM.2.1 dX2_answer_66 (by decide) ?_
    refine x_iast hM hw (okX2.stack ho) hf dX2_answer_79 (fun h26 H locs hf hw => ?_)
    refine x_iinc (k := 4) (d := 1) hM hf dX2_answer_80 hl rfl (by decide) (by decide) (fun v27 => [(2, .int v27), (3, .int v5), (5, .int v4), (0, .ref (ad p)), (1, .ref (ad q1)), (4, .int x4)]) (fun _ => rfl) (fun v27 ls hf hl => ?_)
    refine lv_goto (tgt := 206) hM.1 hM.2.1 dX2_answer_83 (by decide) ?_
    refine x_iinc (k := 5) (d := 1) hM hf dX2_answer_206 hl rfl (by decide) (by decide) (fun v28 => [(4, .int v28), (2, .int v27), (3, .int v5), (5, .int v4), (0, .ref (ad p)), (1, .ref (ad q1))]) (fun _ => rfl) (fun v28 ls hf hl => ?_)
    refine lv_goto (tgt := 7) hM.1 hM.2.1 dX2_answer_209 (by decide) ?_
    exact hrec _ _ _ _ _ _ _ hf hw (lv_sub hl [4, 5, 1, 2, 0] rfl)
  exact hk1 _ _ _ _ hf hw (lv_sub hl [] rfl)
set_option maxHeartbeats 4000000 in
set_option maxRecDepth 100000 in
theorem w_X2_answer_L7 {p0 : Program} {l : Launch} {e : Env} {s : State} {m : MethodId} {args : Array Value} {below : List Frame} {meth : Method} {c : Code} {Q : State → Prop} {D : va_G} {G : GG} {A : Nat → Prop} {H0 : Heap} {ad : Nat → Nat} {lay : List KK} {X : va_W} {ρ : Type} {p : Nat} {q1 : Nat} {r0 : ρ} {K1 : PH → Option ρ} {K2 : Int32 → PH → Option ρ} {K3 : PH → Option ρ} {K4 : PH → Option ρ} {K5 : PH → Option ρ} (hM : CallFix p0 m c cX2_answer 8 s args lw_g RX2) (ho : okX2 lay p) (ho1 : lay[q1]? = some (kI 9)) (hk1 : ∀ (h : PH), ∀ (H : Heap) (locs : List Loc) (ls : Array Slot), K1 h = some r0 → Wd D G A H0 ad lay X h s H locs → lv_has ls 8 [] → W p0 l e (rmN 1 22) s m args below meth c H locs 0 0 Q (F0 m 49 ls [])) (hk2 : ∀ (x2 : Int32) (h : PH), ∀ (H : Heap) (locs : List Loc) (ls : Array Slot), K2 x2 h = some r0 → Wd D G A H0 ad lay X h s H locs → lv_has ls 8 [(0, .ref (ad p)), (2, .int x2)] → W p0 l e (rmN 1 22) s m args below meth c H locs 0 0 Q (F0 m 92 ls [])) (hk3 : ∀ (h : PH), ∀ (H : Heap) (locs : List Loc) (ls : Array Slot), K3 h = some r0 → Wd D G A H0 ad lay X h s H locs → lv_has ls 8 [] → W p0 l e (rmN 1 22) s m args below meth c H locs 0 0 Q (F0 m 114 ls [])) (hk4 : ∀ (h : PH), ∀ (H : Heap) (locs : List Loc) (ls : Array Slot), K4 h = some r0 → Wd D G A H0 ad lay X h s H locs → lv_has ls 8 [] → W p0 l e (rmN 1 22) s m args below meth c H locs 0 0 Q (F0 m 184 ls [])) (hk5 : ∀ (h : PH), ∀ (H : Heap) (locs : List Loc) (ls : Array Slot), K5 h = some r0 → Wd D G A H0 ad lay X h s H locs → lv_has ls 8 [] → W p0 l e (rmN 1 22) s m args below meth c H locs 0 0 Q (F0 m 212 ls [])) (n : Nat) (x2 : Int32) (x3 : Int32) (x4 : Int32) (h : PH) (hf : lq4 (c_X2_answer_L7b p q1 K1 K2 K3 K4 K5) n x2 x3 x4 h = some r0) : ∀ (H : Heap) (locs : List Loc) (ls : Array Slot), Wd D G A H0 ad lay X h s H locs → lv_has ls 8 [(0, .ref (ad p)), (1, .ref (ad q1)), (2, .int x2), (3, .int x3), (4, .int x4)] → W p0 l e (rmN 1 22) s m args below meth c H locs 0 0 Q (F0 m 7 ls []) := by
  exact lq4_i (fun (x2 : Int32) (x3 : Int32) (x4 : Int32) (h : PH) => ∀ (H : Heap) (locs : List Loc) (ls : Array Slot), Wd D G A H0 ad lay X h s H locs → lv_has ls 8 [(0, .ref (ad p)), (1, .ref (ad q1)), (2, .int x2), (3, .int x3), (4, .int x4)] → W p0 l e (rmN 1 22) s m args below meth c H locs 0 0 Q (F0 m 7 ls [])) (fun REC x2 x3 x4 h ih hf H locs ls hw hl => w_X2_answer_L7b hM ho ho1 hk1 hk2 hk3 hk4 hk5 (fun x2 x3 x4 h H locs ls hf hw hl => ih x2 x3 x4 h hf H locs ls hw hl) hw hl hf) n x2 x3 x4 h hf
def c_X2_answer (p : Nat) (q1 : Nat) (h : PH) : Option (Int32 × PH) :=
  nm (0 : Int32) fun v1 =>
  nm (0 : Int32) fun v2 =>
  nm (0 : Int32) fun v3 =>
  lq4 (c_X2_answer_L7b p q1
    (fun h29 =>
      some (0, h29))
    (fun w30 h31 =>
      if w30 ≤ 0 then
        some (0, h31)
      else
        gd (ixOK (w30 - 1) 20) <|
        some ((h31.1 (p + 2) (w30 - 1).toNatClampNeg), h31))
    (fun h32 =>
      some (0, h32))
    (fun h33 =>
      some (0, h33))
    (fun h34 =>
      some (0, h34))) fu v1 v2 v3 h
set_option maxHeartbeats 4000000 in
set_option maxRecDepth 100000 in
theorem ct_X2_answer (l : Launch) {lay : List KK} {p : Nat} {q1 : Nat} (ho : okX2 lay p) (ho1 : lay[q1]? = some (kI 9)) : CtI l yX2_answer cX2_answer 8 (some .int) 1 22 lay (fun h => c_X2_answer p q1 h) (fun ad => [.ref (ad p), .ref (ad q1)]) := by
  refine CtI.mk' RX2 (by decide) rfl (fun _ => Nat.le_of_ble_eq_true rfl) ?_
  intro p0 e s m args below meth c D G A H0 ad X h r0 H ls Q hM hw hl hf hR
  have hl : lv_has ls 8 [(0, .ref (ad p)), (1, .ref (ad q1))] := hl
  unfold c_X2_answer at hf
  refine lv_iconst (v := 0) hM.1 hM.2.1 dX2_answer_0 ic_0 ?_
  refine x_istore_n hM hf dX2_answer_1 rfl hl (by decide) (fun v1 => [(2, .int v1), (0, .ref (ad p)), (1, .ref (ad q1))]) (fun _ => rfl) (fun v1 ls hf hl => ?_)
  refine lv_iconst (v := 0) hM.1 hM.2.1 dX2_answer_2 ic_0 ?_
  refine x_istore_n hM hf dX2_answer_3 rfl hl (by decide) (fun v2 => [(3, .int v2), (2, .int v1), (0, .ref (ad p)), (1, .ref (ad q1))]) (fun _ => rfl) (fun v2 ls hf hl => ?_)
  refine lv_iconst (v := 0) hM.1 hM.2.1 dX2_answer_4 ic_0 ?_
  refine x_istore hM hf dX2_answer_5 hl (by decide) (fun v3 => [(4, .int v3), (3, .int v2), (2, .int v1), (0, .ref (ad p)), (1, .ref (ad q1))]) (fun _ => rfl) (fun v3 ls hf hl => ?_)
  refine w_X2_answer_L7 hM ho ho1 (fun h29 H locs ls hf hw hl => ?_) (fun w30 h31 H locs ls hf hw hl => ?_) (fun h32 H locs ls hf hw hl => ?_) (fun h33 H locs ls hf hw hl => ?_) (fun h34 H locs ls hf hw hl => ?_) fu _ _ _ _ hf _ _ _ hw (lv_sub hl [3, 4, 2, 1, 0] rfl)
  · refine lv_iconst (v := 0) hM.1 hM.2.1 dX2_answer_49 ic_0 ?_
    exact hR _ _ _ _ _ _ _ (Option.some.inj hf) rfl rfl hw dX2_answer_50
  · refine lv_iload_n hM.1 hM.2.1 dX2_answer_92 rfl (lv_at hl 1 rfl) ?_
    refine x_if_le (tgt := 107) hM hf dX2_answer_93 (by decide) (fun hf => ?_) (fun hf => ?_)
    · refine lv_iconst (v := 0) hM.1 hM.2.1 dX2_answer_107 ic_0 ?_
      exact hR _ _ _ _ _ _ _ (Option.some.inj hf) rfl rfl hw dX2_answer_108
    refine lv_aload_n hM.1 hM.2.1 dX2_answer_96 rfl (lv_at hl 0 rfl) ?_
    refine gf_X2_stack hM hw (okX2.o ho) fl_X2_19 dX2_answer_97 ?_
    refine lv_iload_n hM.1 hM.2.1 dX2_answer_100 rfl (lv_at hl 1 rfl) ?_
    refine lv_iconst (v := 1) hM.1 hM.2.1 dX2_answer_101 ic_1 ?_
    refine lv_isub hM.1 hM.2.1 dX2_answer_102 ?_
    refine x_iald hM hw (okX2.stack ho) hf dX2_answer_103 (fun hf => ?_)
    refine lv_goto (tgt := 108) hM.1 hM.2.1 dX2_answer_104 (by decide) ?_
    exact hR _ _ _ _ _ _ _ (Option.some.inj hf) rfl rfl hw dX2_answer_108
  · refine lv_iconst (v := 0) hM.1 hM.2.1 dX2_answer_114 ic_0 ?_
    exact hR _ _ _ _ _ _ _ (Option.some.inj hf) rfl rfl hw dX2_answer_115
  · refine lv_iconst (v := 0) hM.1 hM.2.1 dX2_answer_184 ic_0 ?_
    exact hR _ _ _ _ _ _ _ (Option.some.inj hf) rfl rfl hw dX2_answer_185
  · refine lv_iconst (v := 0) hM.1 hM.2.1 dX2_answer_212 ic_0 ?_
    exact hR _ _ _ _ _ _ _ (Option.some.inj hf) rfl rfl hw dX2_answer_213
theorem hd_X2_answer : yX2_answer.cls = RX2 ∧ yX2_answer.cls ≠ "java/lang/invoke/MethodHandle" ∧ yX2_answer.cls ≠ "java/lang/invoke/VarHandle" ∧ (parseMethodDescriptor yX2_answer.desc).map (fun d => d.parameters.length) = some 1 := ⟨rfl, by decide, by decide, by decide +kernel⟩
