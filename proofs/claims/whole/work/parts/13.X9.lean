theorem dX9_clear_0 : decode cX9_clear 0 = .ok (.aload_n 0, 1) := by decide +kernel
theorem dX9_clear_1 : decode cX9_clear 1 = .ok (.iconst 0, 1) := by decide +kernel
theorem dX9_clear_2 : decode cX9_clear 2 = .ok (.putfield 9, 3) := by decide +kernel
theorem dX9_clear_5 : decode cX9_clear 5 = .ok (.aload_n 0, 1) := by decide +kernel
theorem dX9_clear_6 : decode cX9_clear 6 = .ok (.iconst 0, 1) := by decide +kernel
theorem dX9_clear_7 : decode cX9_clear 7 = .ok (.putfield 15, 3) := by decide +kernel
theorem dX9_clear_10 : decode cX9_clear 10 = .ok (.aload_n 0, 1) := by decide +kernel
theorem dX9_clear_11 : decode cX9_clear 11 = .ok (.iconst 0, 1) := by decide +kernel
theorem dX9_clear_12 : decode cX9_clear 12 = .ok (.putfield 18, 3) := by decide +kernel
theorem dX9_clear_15 : decode cX9_clear 15 = .ok (.aload_n 0, 1) := by decide +kernel
theorem dX9_clear_16 : decode cX9_clear 16 = .ok (.iconst 0, 1) := by decide +kernel
theorem dX9_clear_17 : decode cX9_clear 17 = .ok (.putfield 21, 3) := by decide +kernel
theorem dX9_clear_20 : decode cX9_clear 20 = .ok (.aload_n 0, 1) := by decide +kernel
theorem dX9_clear_21 : decode cX9_clear 21 = .ok (.iconst 0, 1) := by decide +kernel
theorem dX9_clear_22 : decode cX9_clear 22 = .ok (.putfield 24, 3) := by decide +kernel
theorem dX9_clear_25 : decode cX9_clear 25 = .ok (.aload_n 0, 1) := by decide +kernel
theorem dX9_clear_26 : decode cX9_clear 26 = .ok (.iconst 0, 1) := by decide +kernel
theorem dX9_clear_27 : decode cX9_clear 27 = .ok (.putfield 27, 3) := by decide +kernel
theorem dX9_clear_30 : decode cX9_clear 30 = .ok (.aload_n 0, 1) := by decide +kernel
theorem dX9_clear_31 : decode cX9_clear 31 = .ok (.bipush 50, 2) := by decide +kernel
theorem dX9_clear_33 : decode cX9_clear 33 = .ok (.putfield 30, 3) := by decide +kernel
theorem dX9_clear_36 : decode cX9_clear 36 = .ok (.aload_n 0, 1) := by decide +kernel
theorem dX9_clear_37 : decode cX9_clear 37 = .ok (.iconst 0, 1) := by decide +kernel
theorem dX9_clear_38 : decode cX9_clear 38 = .ok (.putfield 33, 3) := by decide +kernel
theorem dX9_clear_41 : decode cX9_clear 41 = .ok (.aload_n 0, 1) := by decide +kernel
theorem dX9_clear_42 : decode cX9_clear 42 = .ok (.getfield 39, 3) := by decide +kernel
theorem dX9_clear_45 : decode cX9_clear 45 = .ok (.bipush 50, 2) := by decide +kernel
theorem dX9_clear_47 : decode cX9_clear 47 = .ok (.invokevirtual 77, 3) := by decide +kernel
theorem dX9_clear_50 : decode cX9_clear 50 = .ok (.aload_n 0, 1) := by decide +kernel
theorem dX9_clear_51 : decode cX9_clear 51 = .ok (.getfield 43, 3) := by decide +kernel
theorem dX9_clear_54 : decode cX9_clear 54 = .ok (.bipush 10, 2) := by decide +kernel
theorem dX9_clear_56 : decode cX9_clear 56 = .ok (.invokevirtual 77, 3) := by decide +kernel
theorem dX9_clear_59 : decode cX9_clear 59 = .ok (.aload_n 0, 1) := by decide +kernel
theorem dX9_clear_60 : decode cX9_clear 60 = .ok (.iconst 0, 1) := by decide +kernel
theorem dX9_clear_61 : decode cX9_clear 61 = .ok (.putfield 71, 3) := by decide +kernel
theorem dX9_clear_64 : decode cX9_clear 64 = .ok (.return_, 1) := by decide +kernel
def c_X9_clear (p : Nat) (h : PH) : Option (PH) :=
  nm (setI h p 0 0) fun h1 =>
  nm (setI h1 p 1 0) fun h2 =>
  nm (setI h2 p 2 0) fun h3 =>
  nm (setI h3 p 3 0) fun h4 =>
  nm (setI h4 p 4 0) fun h5 =>
  nm (setI h5 p 5 0) fun h6 =>
  nm (setI h6 p 6 50) fun h7 =>
  nm (setI h7 p 7 0) fun h8 =>
  (c_X2_always (p + 1) 50 h8).bind fun h9 =>
  (c_X2_always (p + 4) 10 h9).bind fun h10 =>
  nm (setI h10 p 17 0) fun h11 =>
  some h11
set_option maxHeartbeats 4000000 in
set_option maxRecDepth 100000 in
theorem ct_X9_clear (l : Launch) {lay : List KK} {p : Nat} (ho : okX9 lay p) : CtV l yX9_clear cX9_clear 1 (none) 2 42 lay (fun h => c_X9_clear p h) (fun ad => [.ref (ad p)]) := by
  refine CtV.mk' RX9 (by decide) rfl (fun _ => Nat.le_of_ble_eq_true rfl) ?_
  intro p0 e s m args below meth c D G A H0 ad X h r0 H ls Q hM hw hl hf hR
  have hl : lv_has ls 1 [(0, .ref (ad p))] := hl
  unfold c_X9_clear at hf
  refine lv_aload_n hM.1 hM.2.1 dX9_clear_0 rfl (lv_at hl 0 rfl) ?_
  refine lv_iconst (v := 0) hM.1 hM.2.1 dX9_clear_1 ic_0 ?_
  refine pf_X9_men hM hw (okX9.o ho) fl_X9_9 hf dX9_clear_2 (fun h1 H locs hf hw => ?_)
  refine lv_aload_n hM.1 hM.2.1 dX9_clear_5 rfl (lv_at hl 0 rfl) ?_
  refine lv_iconst (v := 0) hM.1 hM.2.1 dX9_clear_6 ic_0 ?_
  refine pf_X9_excuses hM hw (okX9.o ho) fl_X9_15 hf dX9_clear_7 (fun h2 H locs hf hw => ?_)
  refine lv_aload_n hM.1 hM.2.1 dX9_clear_10 rfl (lv_at hl 0 rfl) ?_
  refine lv_iconst (v := 0) hM.1 hM.2.1 dX9_clear_11 ic_0 ?_
  refine pf_X9_duties hM hw (okX9.o ho) fl_X9_18 hf dX9_clear_12 (fun h3 H locs hf hw => ?_)
  refine lv_aload_n hM.1 hM.2.1 dX9_clear_15 rfl (lv_at hl 0 rfl) ?_
  refine lv_iconst (v := 0) hM.1 hM.2.1 dX9_clear_16 ic_0 ?_
  refine pf_X9_tests hM hw (okX9.o ho) fl_X9_21 hf dX9_clear_17 (fun h4 H locs hf hw => ?_)
  refine lv_aload_n hM.1 hM.2.1 dX9_clear_20 rfl (lv_at hl 0 rfl) ?_
  refine lv_iconst (v := 0) hM.1 hM.2.1 dX9_clear_21 ic_0 ?_
  refine pf_X9_knows hM hw (okX9.o ho) fl_X9_24 hf dX9_clear_22 (fun h5 H locs hf hw => ?_)
  refine lv_aload_n hM.1 hM.2.1 dX9_clear_25 rfl (lv_at hl 0 rfl) ?_
  refine lv_iconst (v := 0) hM.1 hM.2.1 dX9_clear_26 ic_0 ?_
  refine pf_X9_rain hM hw (okX9.o ho) fl_X9_27 hf dX9_clear_27 (fun h6 H locs hf hw => ?_)
  refine lv_aload_n hM.1 hM.2.1 dX9_clear_30 rfl (lv_at hl 0 rfl) ?_
  refine lv_bipush (v := 50) hM.1 hM.2.1 dX9_clear_31 (by decide) ?_
  refine pf_X9_coins hM hw (okX9.o ho) fl_X9_30 hf dX9_clear_33 (fun h7 H locs hf hw => ?_)
  refine lv_aload_n hM.1 hM.2.1 dX9_clear_36 rfl (lv_at hl 0 rfl) ?_
  refine lv_iconst (v := 0) hM.1 hM.2.1 dX9_clear_37 ic_0 ?_
  refine pf_X9_seed hM hw (okX9.o ho) fl_X9_33 hf dX9_clear_38 (fun h8 H locs hf hw => ?_)
  refine lv_aload_n hM.1 hM.2.1 dX9_clear_41 rfl (lv_at hl 0 rfl) ?_
  refine gf_X9_passes hM hw (okX9.o ho) fl_X9_39 dX9_clear_42 ?_
  refine lv_bipush (v := 50) hM.1 hM.2.1 dX9_clear_45 (by decide) ?_
  refine x_callVV (rest := []) hM hw (ct_X2_always l (okX9.passes ho) 50) [.int 50] (okX2.o (okX9.passes ho)) rfl rfl rfl (gi_V ml_X9_77 im_X2_always sl_X2_always in_X2 kc_X2_always) hd_X2_always rfl ⟨Nat.le_of_ble_eq_true rfl, Nat.le_of_ble_eq_true rfl⟩ rfl (Nat.le_of_ble_eq_true rfl) hl.1 hcs0 hf dX9_clear_47 (fun h9 H locs hf hw => ?_)
  refine lv_aload_n hM.1 hM.2.1 dX9_clear_50 rfl (lv_at hl 0 rfl) ?_
  refine gf_X9_wears hM hw (okX9.o ho) fl_X9_43 dX9_clear_51 ?_
  refine lv_bipush (v := 10) hM.1 hM.2.1 dX9_clear_54 (by decide) ?_
  refine x_callVV (rest := []) hM hw (ct_X2_always l (okX9.wears ho) 10) [.int 10] (okX2.o (okX9.wears ho)) rfl rfl rfl (gi_V ml_X9_77 im_X2_always sl_X2_always in_X2 kc_X2_always) hd_X2_always rfl ⟨Nat.le_of_ble_eq_true rfl, Nat.le_of_ble_eq_true rfl⟩ rfl (Nat.le_of_ble_eq_true rfl) hl.1 hcs0 hf dX9_clear_56 (fun h10 H locs hf hw => ?_)
  refine lv_aload_n hM.1 hM.2.1 dX9_clear_59 rfl (lv_at hl 0 rfl) ?_
  refine lv_iconst (v := 0) hM.1 hM.2.1 dX9_clear_60 ic_0 ?_
  refine pf_X9_nameCount hM hw (okX9.o ho) fl_X9_71 hf dX9_clear_61 (fun h11 H locs hf hw => ?_)
  exact hR _ _ _ _ _ (Option.some.inj hf) rfl hw dX9_clear_64
theorem hd_X9_clear : yX9_clear.cls = RX9 ∧ yX9_clear.cls ≠ "java/lang/invoke/MethodHandle" ∧ yX9_clear.cls ≠ "java/lang/invoke/VarHandle" ∧ (parseMethodDescriptor yX9_clear.desc).map (fun d => d.parameters.length) = some 0 := ⟨rfl, by decide, by decide, by decide +kernel⟩
theorem dX9_isMan_0 : decode cX9_isMan 0 = .ok (.iload_n 1, 1) := by decide +kernel
theorem dX9_isMan_1 : decode cX9_isMan 1 = .ok (.ifCond .lt 15, 3) := by decide +kernel
theorem dX9_isMan_4 : decode cX9_isMan 4 = .ok (.iload_n 1, 1) := by decide +kernel
theorem dX9_isMan_5 : decode cX9_isMan 5 = .ok (.aload_n 0, 1) := by decide +kernel
theorem dX9_isMan_6 : decode cX9_isMan 6 = .ok (.getfield 9, 3) := by decide +kernel
theorem dX9_isMan_9 : decode cX9_isMan 9 = .ok (.if_icmp .ge 7, 3) := by decide +kernel
theorem dX9_isMan_12 : decode cX9_isMan 12 = .ok (.iconst 1, 1) := by decide +kernel
theorem dX9_isMan_13 : decode cX9_isMan 13 = .ok (.goto 4, 3) := by decide +kernel
theorem dX9_isMan_16 : decode cX9_isMan 16 = .ok (.iconst 0, 1) := by decide +kernel
theorem dX9_isMan_17 : decode cX9_isMan 17 = .ok (.ireturn, 1) := by decide +kernel
def c_X9_isMan (p : Nat) (a1 : Int32) (h : PH) : Option (Int32) :=
  if a1 < 0 then
    some 0
  else
    if (h.1 p 0) ≤ a1 then
      some 0
    else
      some 1
set_option maxHeartbeats 4000000 in
set_option maxRecDepth 100000 in
theorem ct_X9_isMan (l : Launch) {lay : List KK} {p : Nat} (ho : okX9 lay p) (a1 : Int32) : CtI l yX9_isMan cX9_isMan 2 (some .boolean) 0 0 lay (rd (fun h => c_X9_isMan p a1 h)) (fun ad => [.ref (ad p), .int a1]) := by
  refine CtI.mk' RX9 (by decide) rfl (fun _ => Nat.le_of_ble_eq_true rfl) ?_
  intro p0 e s m args below meth c D G A H0 ad X h r0 H ls Q hM hw hl hf hR
  have hl : lv_has ls 2 [(0, .ref (ad p)), (1, .int a1)] := hl
  obtain ⟨v0, hv0, hr0⟩ : ∃ v0, c_X9_isMan p a1 h = some v0 ∧ r0 = (v0, h) := rd_some hf
  subst hr0
  have hf := hv0
  unfold c_X9_isMan at hf
  refine lv_iload_n hM.1 hM.2.1 dX9_isMan_0 rfl (lv_at hl 1 rfl) ?_
  refine x_if_lt (tgt := 16) hM hf dX9_isMan_1 (by decide) (fun hf => ?_) (fun hf => ?_)
  · refine lv_iconst (v := 0) hM.1 hM.2.1 dX9_isMan_16 ic_0 ?_
    exact hR _ _ _ _ _ _ _ (congrArg (fun z => (z, _)) (Option.some.inj hf)) rfl (nar_z (by decide)) hw dX9_isMan_17
  refine lv_iload_n hM.1 hM.2.1 dX9_isMan_4 rfl (lv_at hl 1 rfl) ?_
  refine lv_aload_n hM.1 hM.2.1 dX9_isMan_5 rfl (lv_at hl 0 rfl) ?_
  refine gf_X9_men hM hw (okX9.o ho) fl_X9_9 dX9_isMan_6 ?_
  refine x_ic_ge (tgt := 16) hM hf dX9_isMan_9 (by decide) (fun hf => ?_) (fun hf => ?_)
  · refine lv_iconst (v := 0) hM.1 hM.2.1 dX9_isMan_16 ic_0 ?_
    exact hR _ _ _ _ _ _ _ (congrArg (fun z => (z, _)) (Option.some.inj hf)) rfl (nar_z (by decide)) hw dX9_isMan_17
  refine lv_iconst (v := 1) hM.1 hM.2.1 dX9_isMan_12 ic_1 ?_
  refine lv_goto (tgt := 17) hM.1 hM.2.1 dX9_isMan_13 (by decide) ?_
  exact hR _ _ _ _ _ _ _ (congrArg (fun z => (z, _)) (Option.some.inj hf)) rfl (nar_z (by decide)) hw dX9_isMan_17
theorem hd_X9_isMan : yX9_isMan.cls = RX9 ∧ yX9_isMan.cls ≠ "java/lang/invoke/MethodHandle" ∧ yX9_isMan.cls ≠ "java/lang/invoke/VarHandle" ∧ (parseMethodDescriptor yX9_isMan.desc).map (fun d => d.parameters.length) = some 1 := ⟨rfl, by decide, by decide, by decide +kernel⟩
theorem dX9_isExcuse_0 : decode cX9_isExcuse 0 = .ok (.iload_n 1, 1) := by decide +kernel
theorem dX9_isExcuse_1 : decode cX9_isExcuse 1 = .ok (.ifCond .lt 15, 3) := by decide +kernel
theorem dX9_isExcuse_4 : decode cX9_isExcuse 4 = .ok (.iload_n 1, 1) := by decide +kernel
theorem dX9_isExcuse_5 : decode cX9_isExcuse 5 = .ok (.aload_n 0, 1) := by decide +kernel
theorem dX9_isExcuse_6 : decode cX9_isExcuse 6 = .ok (.getfield 15, 3) := by decide +kernel
theorem dX9_isExcuse_9 : decode cX9_isExcuse 9 = .ok (.if_icmp .ge 7, 3) := by decide +kernel
theorem dX9_isExcuse_12 : decode cX9_isExcuse 12 = .ok (.iconst 1, 1) := by decide +kernel
theorem dX9_isExcuse_13 : decode cX9_isExcuse 13 = .ok (.goto 4, 3) := by decide +kernel
theorem dX9_isExcuse_16 : decode cX9_isExcuse 16 = .ok (.iconst 0, 1) := by decide +kernel
theorem dX9_isExcuse_17 : decode cX9_isExcuse 17 = .ok (.ireturn, 1) := by decide +kernel
def c_X9_isExcuse (p : Nat) (a1 : Int32) (h : PH) : Option (Int32) :=
  if a1 < 0 then
    some 0
  else
    if (h.1 p 1) ≤ a1 then
      some 0
    else
      some 1
set_option maxHeartbeats 4000000 in
set_option maxRecDepth 100000 in
theorem ct_X9_isExcuse (l : Launch) {lay : List KK} {p : Nat} (ho : okX9 lay p) (a1 : Int32) : CtI l yX9_isExcuse cX9_isExcuse 2 (some .boolean) 0 0 lay (rd (fun h => c_X9_isExcuse p a1 h)) (fun ad => [.ref (ad p), .int a1]) := by
  refine CtI.mk' RX9 (by decide) rfl (fun _ => Nat.le_of_ble_eq_true rfl) ?_
  intro p0 e s m args below meth c D G A H0 ad X h r0 H ls Q hM hw hl hf hR
  have hl : lv_has ls 2 [(0, .ref (ad p)), (1, .int a1)] := hl
  obtain ⟨v0, hv0, hr0⟩ : ∃ v0, c_X9_isExcuse p a1 h = some v0 ∧ r0 = (v0, h) := rd_some hf
  subst hr0
  have hf := hv0
  unfold c_X9_isExcuse at hf
  refine lv_iload_n hM.1 hM.2.1 dX9_isExcuse_0 rfl (lv_at hl 1 rfl) ?_
  refine x_if_lt (tgt := 16) hM hf dX9_isExcuse_1 (by decide) (fun hf => ?_) (fun hf => ?_)
  · refine lv_iconst (v := 0) hM.1 hM.2.1 dX9_isExcuse_16 ic_0 ?_
    exact hR _ _ _ _ _ _ _ (congrArg (fun z => (z, _)) (Option.some.inj hf)) rfl (nar_z (by decide)) hw dX9_isExcuse_17
  refine lv_iload_n hM.1 hM.2.1 dX9_isExcuse_4 rfl (lv_at hl 1 rfl) ?_
  refine lv_aload_n hM.1 hM.2.1 dX9_isExcuse_5 rfl (lv_at hl 0 rfl) ?_
  refine gf_X9_excuses hM hw (okX9.o ho) fl_X9_15 dX9_isExcuse_6 ?_
  refine x_ic_ge (tgt := 16) hM hf dX9_isExcuse_9 (by decide) (fun hf => ?_) (fun hf => ?_)
  · refine lv_iconst (v := 0) hM.1 hM.2.1 dX9_isExcuse_16 ic_0 ?_
    exact hR _ _ _ _ _ _ _ (congrArg (fun z => (z, _)) (Option.some.inj hf)) rfl (nar_z (by decide)) hw dX9_isExcuse_17
  refine lv_iconst (v := 1) hM.1 hM.2.1 dX9_isExcuse_12 ic_1 ?_
  refine lv_goto (tgt := 17) hM.1 hM.2.1 dX9_isExcuse_13 (by decide) ?_
  exact hR _ _ _ _ _ _ _ (congrArg (fun z => (z, _)) (Option.some.inj hf)) rfl (nar_z (by decide)) hw dX9_isExcuse_17
theorem hd_X9_isExcuse : yX9_isExcuse.cls = RX9 ∧ yX9_isExcuse.cls ≠ "java/lang/invoke/MethodHandle" ∧ yX9_isExcuse.cls ≠ "java/lang/invoke/VarHandle" ∧ (parseMethodDescriptor yX9_isExcuse.desc).map (fun d => d.parameters.length) = some 1 := ⟨rfl, by decide, by decide, by decide +kernel⟩
theorem dX9_isDuty_0 : decode cX9_isDuty 0 = .ok (.iload_n 1, 1) := by decide +kernel
theorem dX9_isDuty_1 : decode cX9_isDuty 1 = .ok (.ifCond .lt 15, 3) := by decide +kernel
theorem dX9_isDuty_4 : decode cX9_isDuty 4 = .ok (.iload_n 1, 1) := by decide +kernel
theorem dX9_isDuty_5 : decode cX9_isDuty 5 = .ok (.aload_n 0, 1) := by decide +kernel
theorem dX9_isDuty_6 : decode cX9_isDuty 6 = .ok (.getfield 18, 3) := by decide +kernel
theorem dX9_isDuty_9 : decode cX9_isDuty 9 = .ok (.if_icmp .ge 7, 3) := by decide +kernel
theorem dX9_isDuty_12 : decode cX9_isDuty 12 = .ok (.iconst 1, 1) := by decide +kernel
theorem dX9_isDuty_13 : decode cX9_isDuty 13 = .ok (.goto 4, 3) := by decide +kernel
theorem dX9_isDuty_16 : decode cX9_isDuty 16 = .ok (.iconst 0, 1) := by decide +kernel
theorem dX9_isDuty_17 : decode cX9_isDuty 17 = .ok (.ireturn, 1) := by decide +kernel
def c_X9_isDuty (p : Nat) (a1 : Int32) (h : PH) : Option (Int32) :=
  if a1 < 0 then
    some 0
  else
    if (h.1 p 2) ≤ a1 then
      some 0
    else
      some 1
set_option maxHeartbeats 4000000 in
set_option maxRecDepth 100000 in
theorem ct_X9_isDuty (l : Launch) {lay : List KK} {p : Nat} (ho : okX9 lay p) (a1 : Int32) : CtI l yX9_isDuty cX9_isDuty 2 (some .boolean) 0 0 lay (rd (fun h => c_X9_isDuty p a1 h)) (fun ad => [.ref (ad p), .int a1]) := by
  refine CtI.mk' RX9 (by decide) rfl (fun _ => Nat.le_of_ble_eq_true rfl) ?_
  intro p0 e s m args below meth c D G A H0 ad X h r0 H ls Q hM hw hl hf hR
  have hl : lv_has ls 2 [(0, .ref (ad p)), (1, .int a1)] := hl
  obtain ⟨v0, hv0, hr0⟩ : ∃ v0, c_X9_isDuty p a1 h = some v0 ∧ r0 = (v0, h) := rd_some hf
  subst hr0
  have hf := hv0
  unfold c_X9_isDuty at hf
  refine lv_iload_n hM.1 hM.2.1 dX9_isDuty_0 rfl (lv_at hl 1 rfl) ?_
  refine x_if_lt (tgt := 16) hM hf dX9_isDuty_1 (by decide) (fun hf => ?_) (fun hf => ?_)
  · refine lv_iconst (v := 0) hM.1 hM.2.1 dX9_isDuty_16 ic_0 ?_
    exact hR _ _ _ _ _ _ _ (congrArg (fun z => (z, _)) (Option.some.inj hf)) rfl (nar_z (by decide)) hw dX9_isDuty_17
  refine lv_iload_n hM.1 hM.2.1 dX9_isDuty_4 rfl (lv_at hl 1 rfl) ?_
  refine lv_aload_n hM.1 hM.2.1 dX9_isDuty_5 rfl (lv_at hl 0 rfl) ?_
  refine gf_X9_duties hM hw (okX9.o ho) fl_X9_18 dX9_isDuty_6 ?_
  refine x_ic_ge (tgt := 16) hM hf dX9_isDuty_9 (by decide) (fun hf => ?_) (fun hf => ?_)
  · refine lv_iconst (v := 0) hM.1 hM.2.1 dX9_isDuty_16 ic_0 ?_
    exact hR _ _ _ _ _ _ _ (congrArg (fun z => (z, _)) (Option.some.inj hf)) rfl (nar_z (by decide)) hw dX9_isDuty_17
  refine lv_iconst (v := 1) hM.1 hM.2.1 dX9_isDuty_12 ic_1 ?_
  refine lv_goto (tgt := 17) hM.1 hM.2.1 dX9_isDuty_13 (by decide) ?_
  exact hR _ _ _ _ _ _ _ (congrArg (fun z => (z, _)) (Option.some.inj hf)) rfl (nar_z (by decide)) hw dX9_isDuty_17
theorem hd_X9_isDuty : yX9_isDuty.cls = RX9 ∧ yX9_isDuty.cls ≠ "java/lang/invoke/MethodHandle" ∧ yX9_isDuty.cls ≠ "java/lang/invoke/VarHandle" ∧ (parseMethodDescriptor yX9_isDuty.desc).map (fun d => d.parameters.length) = some 1 := ⟨rfl, by decide, by decide, by decide +kernel⟩
theorem dX9_addName_0 : decode cX9_addName 0 = .ok (.aload_n 0, 1) := by decide +kernel
theorem dX9_addName_1 : decode cX9_addName 1 = .ok (.getfield 71, 3) := by decide +kernel
theorem dX9_addName_4 : decode cX9_addName 4 = .ok (.bipush 27, 2) := by decide +kernel
theorem dX9_addName_6 : decode cX9_addName 6 = .ok (.if_icmp .ge 44, 3) := by decide +kernel
theorem dX9_addName_9 : decode cX9_addName 9 = .ok (.aload_n 0, 1) := by decide +kernel
theorem dX9_addName_10 : decode cX9_addName 10 = .ok (.getfield 61, 3) := by decide +kernel
theorem dX9_addName_13 : decode cX9_addName 13 = .ok (.aload_n 0, 1) := by decide +kernel
theorem dX9_addName_14 : decode cX9_addName 14 = .ok (.getfield 71, 3) := by decide +kernel
theorem dX9_addName_17 : decode cX9_addName 17 = .ok (.lload_n 1, 1) := by decide +kernel
theorem dX9_addName_18 : decode cX9_addName 18 = .ok (.lastore, 1) := by decide +kernel
theorem dX9_addName_19 : decode cX9_addName 19 = .ok (.aload_n 0, 1) := by decide +kernel
theorem dX9_addName_20 : decode cX9_addName 20 = .ok (.getfield 65, 3) := by decide +kernel
theorem dX9_addName_23 : decode cX9_addName 23 = .ok (.aload_n 0, 1) := by decide +kernel
theorem dX9_addName_24 : decode cX9_addName 24 = .ok (.getfield 71, 3) := by decide +kernel
theorem dX9_addName_27 : decode cX9_addName 27 = .ok (.iload_n 3, 1) := by decide +kernel
theorem dX9_addName_28 : decode cX9_addName 28 = .ok (.iastore, 1) := by decide +kernel
theorem dX9_addName_29 : decode cX9_addName 29 = .ok (.aload_n 0, 1) := by decide +kernel
theorem dX9_addName_30 : decode cX9_addName 30 = .ok (.getfield 68, 3) := by decide +kernel
theorem dX9_addName_33 : decode cX9_addName 33 = .ok (.aload_n 0, 1) := by decide +kernel
theorem dX9_addName_34 : decode cX9_addName 34 = .ok (.getfield 71, 3) := by decide +kernel
theorem dX9_addName_37 : decode cX9_addName 37 = .ok (.iload 4, 2) := by decide +kernel
theorem dX9_addName_39 : decode cX9_addName 39 = .ok (.iastore, 1) := by decide +kernel
theorem dX9_addName_40 : decode cX9_addName 40 = .ok (.aload_n 0, 1) := by decide +kernel
theorem dX9_addName_41 : decode cX9_addName 41 = .ok (.dup, 1) := by decide +kernel
theorem dX9_addName_42 : decode cX9_addName 42 = .ok (.getfield 71, 3) := by decide +kernel
theorem dX9_addName_45 : decode cX9_addName 45 = .ok (.iconst 1, 1) := by decide +kernel
theorem dX9_addName_46 : decode cX9_addName 46 = .ok (.iadd, 1) := by decide +kernel
theorem dX9_addName_47 : decode cX9_addName 47 = .ok (.putfield 71, 3) := by decide +kernel
theorem dX9_addName_50 : decode cX9_addName 50 = .ok (.return_, 1) := by decide +kernel
def c_X9_addName (p : Nat) (a1 : Int64) (a3 : Int32) (a4 : Int32) (h : PH) : Option (PH) :=
  if 27 ≤ (h.1 p 17) then
    some h
  else
    gd (ixOK (h.1 p 17) 27) <| nm (setJ h (p + 32) (h.1 p 17).toNatClampNeg a1) fun h1 =>
    gd (ixOK (h1.1 p 17) 27) <| nm (setI h1 (p + 33) (h1.1 p 17).toNatClampNeg a3) fun h2 =>
    gd (ixOK (h2.1 p 17) 27) <| nm (setI h2 (p + 34) (h2.1 p 17).toNatClampNeg a4) fun h3 =>
    nm (setI h3 p 17 ((h3.1 p 17) + 1)) fun h4 =>
    some h4
set_option maxHeartbeats 4000000 in
set_option maxRecDepth 100000 in
theorem ct_X9_addName (l : Launch) {lay : List KK} {p : Nat} (ho : okX9 lay p) (a1 : Int64) (a3 : Int32) (a4 : Int32) : CtV l yX9_addName cX9_addName 5 (none) 0 0 lay (fun h => c_X9_addName p a1 a3 a4 h) (fun ad => [.ref (ad p), .long a1, .int a3, .int a4]) := by
  refine CtV.mk' RX9 (by decide) rfl (fun _ => Nat.le_of_ble_eq_true rfl) ?_
  intro p0 e s m args below meth c D G A H0 ad X h r0 H ls Q hM hw hl hf hR
  have hl : lv_has ls 5 [(0, .ref (ad p)), (1, .long a1), (3, .int a3), (4, .int a4)] := hl
  unfold c_X9_addName at hf
  refine lv_aload_n hM.1 hM.2.1 dX9_addName_0 rfl (lv_at hl 0 rfl) ?_
  refine gf_X9_nameCount hM hw (okX9.o ho) fl_X9_71 dX9_addName_1 ?_
  refine lv_bipush (v := 27) hM.1 hM.2.1 dX9_addName_4 (by decide) ?_
  refine x_ic_ge (tgt := 50) hM hf dX9_addName_6 (by decide) (fun hf => ?_) (fun hf => ?_)
  · exact hR _ _ _ _ _ (Option.some.inj hf) rfl hw dX9_addName_50
  refine lv_aload_n hM.1 hM.2.1 dX9_addName_9 rfl (lv_at hl 0 rfl) ?_
  refine gf_X9_names hM hw (okX9.o ho) fl_X9_61 dX9_addName_10 ?_
  refine lv_aload_n hM.1 hM.2.1 dX9_addName_13 rfl (lv_at hl 0 rfl) ?_
  refine gf_X9_nameCount hM hw (okX9.o ho) fl_X9_71 dX9_addName_14 ?_
  refine lv_lload_n hM.1 hM.2.1 dX9_addName_17 rfl (lv_at hl 1 rfl) ?_
  refine x_last hM hw (okX9.names ho) hf dX9_addName_18 (fun h1 H locs hf hw => ?_)
  refine lv_aload_n hM.1 hM.2.1 dX9_addName_19 rfl (lv_at hl 0 rfl) ?_
  refine gf_X9_nameSorts hM hw (okX9.o ho) fl_X9_65 dX9_addName_20 ?_
  refine lv_aload_n hM.1 hM.2.1 dX9_addName_23 rfl (lv_at hl 0 rfl) ?_
  refine gf_X9_nameCount hM hw (okX9.o ho) fl_X9_71 dX9_addName_24 ?_
  refine lv_iload_n hM.1 hM.2.1 dX9_addName_27 rfl (lv_at hl 2 rfl) ?_
  refine x_iast hM hw (okX9.nameSorts ho) hf dX9_addName_28 (fun h2 H locs hf hw => ?_)
  refine lv_aload_n hM.1 hM.2.1 dX9_addName_29 rfl (lv_at hl 0 rfl) ?_
  refine gf_X9_nameNumbers hM hw (okX9.o ho) fl_X9_68 dX9_addName_30 ?_
  refine lv_aload_n hM.1 hM.2.1 dX9_addName_33 rfl (lv_at hl 0 rfl) ?_
  refine gf_X9_nameCount hM hw (okX9.o ho) fl_X9_71 dX9_addName_34 ?_
  refine lv_iload hM.1 hM.2.1 dX9_addName_37 (lv_at hl 3 rfl) ?_
  refine x_iast hM hw (okX9.nameNumbers ho) hf dX9_addName_39 (fun h3 H locs hf hw => ?_)
  refine lv_aload_n hM.1 hM.2.1 dX9_addName_40 rfl (lv_at hl 0 rfl) ?_
  refine lv_dup hM.1 hM.2.1 dX9_addName_41 rfl ?_
  refine gf_X9_nameCount hM hw (okX9.o ho) fl_X9_71 dX9_addName_42 ?_
  refine lv_iconst (v := 1) hM.1 hM.2.1 dX9_addName_45 ic_1 ?_
  refine lv_iadd hM.1 hM.2.1 dX9_addName_46 ?_
  refine pf_X9_nameCount hM hw (okX9.o ho) fl_X9_71 hf dX9_addName_47 (fun h4 H locs hf hw => ?_)
  exact hR _ _ _ _ _ (Option.some.inj hf) rfl hw dX9_addName_50
theorem hd_X9_addName : yX9_addName.cls = RX9 ∧ yX9_addName.cls ≠ "java/lang/invoke/MethodHandle" ∧ yX9_addName.cls ≠ "java/lang/invoke/VarHandle" ∧ (parseMethodDescriptor yX9_addName.desc).map (fun d => d.parameters.length) = some 3 := ⟨rfl, by decide, by decide, by decide +kernel⟩
theorem dX9_findName_0 : decode cX9_findName 0 = .ok (.iconst 0, 1) := by decide +kernel
theorem dX9_findName_1 : decode cX9_findName 1 = .ok (.istore_n 3, 1) := by decide +kernel
theorem dX9_findName_2 : decode cX9_findName 2 = .ok (.iload_n 3, 1) := by decide +kernel
theorem dX9_findName_3 : decode cX9_findName 3 = .ok (.aload_n 0, 1) := by decide +kernel
theorem dX9_findName_4 : decode cX9_findName 4 = .ok (.getfield 71, 3) := by decide +kernel
theorem dX9_findName_7 : decode cX9_findName 7 = .ok (.if_icmp .ge 22, 3) := by decide +kernel
theorem dX9_findName_10 : decode cX9_findName 10 = .ok (.aload_n 0, 1) := by decide +kernel
theorem dX9_findName_11 : decode cX9_findName 11 = .ok (.getfield 61, 3) := by decide +kernel
theorem dX9_findName_14 : decode cX9_findName 14 = .ok (.iload_n 3, 1) := by decide +kernel
theorem dX9_findName_15 : decode cX9_findName 15 = .ok (.laload, 1) := by decide +kernel
theorem dX9_findName_16 : decode cX9_findName 16 = .ok (.lload_n 1, 1) := by decide +kernel
theorem dX9_findName_17 : decode cX9_findName 17 = .ok (.lcmp, 1) := by decide +kernel
theorem dX9_findName_18 : decode cX9_findName 18 = .ok (.ifCond .ne 5, 3) := by decide +kernel
theorem dX9_findName_21 : decode cX9_findName 21 = .ok (.iload_n 3, 1) := by decide +kernel
theorem dX9_findName_22 : decode cX9_findName 22 = .ok (.ireturn, 1) := by decide +kernel
theorem dX9_findName_23 : decode cX9_findName 23 = .ok (.iinc 3 1, 3) := by decide +kernel
theorem dX9_findName_26 : decode cX9_findName 26 = .ok (.goto (-24), 3) := by decide +kernel
theorem dX9_findName_29 : decode cX9_findName 29 = .ok (.iconst (-1), 1) := by decide +kernel
theorem dX9_findName_30 : decode cX9_findName 30 = .ok (.ireturn, 1) := by decide +kernel
def c_X9_findName_L2b {ρ : Type}  (p : Nat) (z1 : Int64) (h : PH) (K1 : Int32 → Option ρ) (K2 : Option ρ) (REC : Int32 → Option ρ) (x3 : Int32) : Option ρ :=
  if (h.1 p 17) ≤ x3 then
    K2
  else
    gd (ixOK x3 27) <|
    if (lg_cmp (h.2.1 (p + 32) x3.toNatClampNeg) z1) = 0 then
      K1 x3
    else
      nm (x3 + 1) fun v2 =>
      REC v2
set_option maxHeartbeats 4000000 in
set_option maxRecDepth 100000 in
theorem w_X9_findName_L2b {p0 : Program} {l : Launch} {e : Env} {s : State} {m : MethodId} {args : Array Value} {below : List Frame} {meth : Method} {c : Code} {Q : State → Prop} {D : va_G} {G : GG} {A : Nat → Prop} {H0 : Heap} {ad : Nat → Nat} {lay : List KK} {X : va_W} {ρ : Type} {p : Nat} {r0 : ρ} {z1 : Int64} {x3 : Int32} {h : PH} {H : Heap} {locs : List Loc} {ls : Array Slot} {K1 : Int32 → Option ρ} {K2 : Option ρ} {REC : Int32 → Option ρ} (hM : CallFix p0 m c cX9_findName 4 s args lw_g RX9) (ho : okX9 lay p) (hk1 : ∀ (x3 : Int32), ∀ (H : Heap) (locs : List Loc) (ls : Array Slot), K1 x3 = some r0 → Wd D G A H0 ad lay X h s H locs → lv_has ls 4 [(3, .int x3)] → W p0 l e (rmN 0 0) s m args below meth c H locs 0 0 Q (F0 m 21 ls [])) (hk2 : ∀ (H : Heap) (locs : List Loc) (ls : Array Slot), K2 = some r0 → Wd D G A H0 ad lay X h s H locs → lv_has ls 4 [] → W p0 l e (rmN 0 0) s m args below meth c H locs 0 0 Q (F0 m 29 ls [])) (hrec : ∀ (x3 : Int32), ∀ (H : Heap) (locs : List Loc) (ls : Array Slot), REC x3 = some r0 → Wd D G A H0 ad lay X h s H locs → lv_has ls 4 [(0, .ref (ad p)), (1, .long z1), (3, .int x3)] → W p0 l e (rmN 0 0) s m args below meth c H locs 0 0 Q (F0 m 2 ls [])) (hw : Wd D G A H0 ad lay X h s H locs) (hl : lv_has ls 4 [(0, .ref (ad p)), (1, .long z1), (3, .int x3)]) (hf : c_X9_findName_L2b p z1 h K1 K2 REC x3 = some r0) : W p0 l e (rmN 0 0) s m args below meth c H locs 0 0 Q (F0 m 2 ls []) := by
  unfold c_X9_findName_L2b at hf
  refine lv_iload_n hM.1 hM.2.1 dX9_findName_2 rfl (lv_at hl 2 rfl) ?_
  refine lv_aload_n hM.1 hM.2.1 dX9_findName_3 rfl (lv_at hl 0 rfl) ?_
  refine gf_X9_nameCount hM hw (okX9.o ho) fl_X9_71 dX9_findName_4 ?_
  refine x_ic_ge (tgt := 29) hM hf dX9_findName_7 (by decide) (fun hf => ?_) (fun hf => ?_)
  · exact hk2 _ _ _ hf hw (lv_sub hl [] rfl)
  refine lv_aload_n hM.1 hM.2.1 dX9_findName_10 rfl (lv_at hl 0 rfl) ?_
  refine gf_X9_names hM hw (okX9.o ho) fl_X9_61 dX9_findName_11 ?_
  refine lv_iload_n hM.1 hM.2.1 dX9_findName_14 rfl (lv_at hl 2 rfl) ?_
  refine x_lald hM hw (okX9.names ho) hf dX9_findName_15 (fun hf => ?_)
  refine lv_lload_n hM.1 hM.2.1 dX9_findName_16 rfl (lv_at hl 1 rfl) ?_
  refine W.lcmp hM.1 hM.2.1 dX9_findName_17 ?_
  refine x_if_ne (tgt := 23) hM hf dX9_findName_18 (by decide) (fun hf => ?_) (fun hf => ?_)
  · refine x_iinc (k := 2) (d := 1) hM hf dX9_findName_23 hl rfl (by decide) (by decide) (fun v2 => [(3, .int v2), (0, .ref (ad p)), (1, .long z1)]) (fun _ => rfl) (fun v2 ls hf hl => ?_)
    refine lv_goto (tgt := 2) hM.1 hM.2.1 dX9_findName_26 (by decide) ?_
    exact hrec _ _ _ _ hf hw (lv_sub hl [1, 2, 0] rfl)
  exact hk1 _ _ _ _ hf hw (lv_sub hl [2] rfl)
set_option maxHeartbeats 4000000 in
set_option maxRecDepth 100000 in
theorem w_X9_findName_L2 {p0 : Program} {l : Launch} {e : Env} {s : State} {m : MethodId} {args : Array Value} {below : List Frame} {meth : Method} {c : Code} {Q : State → Prop} {D : va_G} {G : GG} {A : Nat → Prop} {H0 : Heap} {ad : Nat → Nat} {lay : List KK} {X : va_W} {ρ : Type} {p : Nat} {r0 : ρ} {z1 : Int64} {h : PH} {K1 : Int32 → Option ρ} {K2 : Option ρ} (hM : CallFix p0 m c cX9_findName 4 s args lw_g RX9) (ho : okX9 lay p) (hk1 : ∀ (x3 : Int32), ∀ (H : Heap) (locs : List Loc) (ls : Array Slot), K1 x3 = some r0 → Wd D G A H0 ad lay X h s H locs → lv_has ls 4 [(3, .int x3)] → W p0 l e (rmN 0 0) s m args below meth c H locs 0 0 Q (F0 m 21 ls [])) (hk2 : ∀ (H : Heap) (locs : List Loc) (ls : Array Slot), K2 = some r0 → Wd D G A H0 ad lay X h s H locs → lv_has ls 4 [] → W p0 l e (rmN 0 0) s m args below meth c H locs 0 0 Q (F0 m 29 ls [])) (n : Nat) (x3 : Int32) (hf : lq1 (c_X9_findName_L2b p z1 h K1 K2) n x3 = some r0) : ∀ (H : Heap) (locs : List Loc) (ls : Array Slot), Wd D G A H0 ad lay X h s H locs → lv_has ls 4 [(0, .ref (ad p)), (1, .long z1), (3, .int x3)] → W p0 l e (rmN 0 0) s m args below meth c H locs 0 0 Q (F0 m 2 ls []) := by
  exact lq1_i (fun (x3 : Int32) => ∀ (H : Heap) (locs : List Loc) (ls : Array Slot), Wd D G A H0 ad lay X h s H locs → lv_has ls 4 [(0, .ref (ad p)), (1, .long z1), (3, .int x3)] → W p0 l e (rmN 0 0) s m args below meth c H locs 0 0 Q (F0 m 2 ls [])) (fun REC x3 ih hf H locs ls hw hl => w_X9_findName_L2b hM ho hk1 hk2 (fun x3 H locs ls hf hw hl => ih x3 hf H locs ls hw hl) hw hl hf) n x3 hf
def c_X9_findName (p : Nat) (a1 : Int64) (h : PH) : Option (Int32) :=
  nm (0 : Int32) fun v1 =>
  lq1 (c_X9_findName_L2b p a1 h
    (fun w3 =>
      some w3)
    (some (-1))) fu v1
set_option maxHeartbeats 4000000 in
set_option maxRecDepth 100000 in
theorem ct_X9_findName (l : Launch) {lay : List KK} {p : Nat} (ho : okX9 lay p) (a1 : Int64) : CtI l yX9_findName cX9_findName 4 (some .int) 0 0 lay (rd (fun h => c_X9_findName p a1 h)) (fun ad => [.ref (ad p), .long a1]) := by
  refine CtI.mk' RX9 (by decide) rfl (fun _ => Nat.le_of_ble_eq_true rfl) ?_
  intro p0 e s m args below meth c D G A H0 ad X h r0 H ls Q hM hw hl hf hR
  have hl : lv_has ls 4 [(0, .ref (ad p)), (1, .long a1)] := hl
  obtain ⟨v0, hv0, hr0⟩ : ∃ v0, c_X9_findName p a1 h = some v0 ∧ r0 = (v0, h) := rd_some hf
  subst hr0
  have hf := hv0
  unfold c_X9_findName at hf
  refine lv_iconst (v := 0) hM.1 hM.2.1 dX9_findName_0 ic_0 ?_
  refine x_istore_n hM hf dX9_findName_1 rfl hl (by decide) (fun v1 => [(3, .int v1), (0, .ref (ad p)), (1, .long a1)]) (fun _ => rfl) (fun v1 ls hf hl => ?_)
  refine w_X9_findName_L2 hM ho (fun w3 H locs ls hf hw hl => ?_) (fun H locs ls hf hw hl => ?_) fu _ hf _ _ _ hw (lv_sub hl [1, 2, 0] rfl)
  · refine lv_iload_n hM.1 hM.2.1 dX9_findName_21 rfl (lv_at hl 0 rfl) ?_
    exact hR _ _ _ _ _ _ _ (congrArg (fun z => (z, _)) (Option.some.inj hf)) rfl rfl hw dX9_findName_22
  · refine lv_iconst (v := (-1)) hM.1 hM.2.1 dX9_findName_29 ic_m1 ?_
    exact hR _ _ _ _ _ _ _ (congrArg (fun z => (z, _)) (Option.some.inj hf)) rfl rfl hw dX9_findName_30
theorem hd_X9_findName : yX9_findName.cls = RX9 ∧ yX9_findName.cls ≠ "java/lang/invoke/MethodHandle" ∧ yX9_findName.cls ≠ "java/lang/invoke/VarHandle" ∧ (parseMethodDescriptor yX9_findName.desc).map (fun d => d.parameters.length) = some 1 := ⟨rfl, by decide, by decide, by decide +kernel⟩
theorem dX9_numberOf_0 : decode cX9_numberOf 0 = .ok (.iload_n 1, 1) := by decide +kernel
theorem dX9_numberOf_1 : decode cX9_numberOf 1 = .ok (.ifCond .lt 30, 3) := by decide +kernel
theorem dX9_numberOf_4 : decode cX9_numberOf 4 = .ok (.iload_n 1, 1) := by decide +kernel
theorem dX9_numberOf_5 : decode cX9_numberOf 5 = .ok (.aload_n 0, 1) := by decide +kernel
theorem dX9_numberOf_6 : decode cX9_numberOf 6 = .ok (.getfield 71, 3) := by decide +kernel
theorem dX9_numberOf_9 : decode cX9_numberOf 9 = .ok (.if_icmp .ge 22, 3) := by decide +kernel
theorem dX9_numberOf_12 : decode cX9_numberOf 12 = .ok (.aload_n 0, 1) := by decide +kernel
theorem dX9_numberOf_13 : decode cX9_numberOf 13 = .ok (.getfield 65, 3) := by decide +kernel
theorem dX9_numberOf_16 : decode cX9_numberOf 16 = .ok (.iload_n 1, 1) := by decide +kernel
theorem dX9_numberOf_17 : decode cX9_numberOf 17 = .ok (.iaload, 1) := by decide +kernel
theorem dX9_numberOf_18 : decode cX9_numberOf 18 = .ok (.iload_n 2, 1) := by decide +kernel
theorem dX9_numberOf_19 : decode cX9_numberOf 19 = .ok (.if_icmp .ne 12, 3) := by decide +kernel
theorem dX9_numberOf_22 : decode cX9_numberOf 22 = .ok (.aload_n 0, 1) := by decide +kernel
theorem dX9_numberOf_23 : decode cX9_numberOf 23 = .ok (.getfield 68, 3) := by decide +kernel
theorem dX9_numberOf_26 : decode cX9_numberOf 26 = .ok (.iload_n 1, 1) := by decide +kernel
theorem dX9_numberOf_27 : decode cX9_numberOf 27 = .ok (.iaload, 1) := by decide +kernel
theorem dX9_numberOf_28 : decode cX9_numberOf 28 = .ok (.goto 4, 3) := by decide +kernel
theorem dX9_numberOf_31 : decode cX9_numberOf 31 = .ok (.iconst (-1), 1) := by decide +kernel
theorem dX9_numberOf_32 : decode cX9_numberOf 32 = .ok (.ireturn, 1) := by decide +kernel
def c_X9_numberOf (p : Nat) (a1 : Int32) (a2 : Int32) (h : PH) : Option (Int32) :=
  if a1 < 0 then
    some (-1)
  else
    if (h.1 p 17) ≤ a1 then
      some (-1)
    else
      gd (ixOK a1 27) <|
      if (h.1 (p + 33) a1.toNatClampNeg) = a2 then
        gd (ixOK a1 27) <|
        some (h.1 (p + 34) a1.toNatClampNeg)
      else
        some (-1)
set_option maxHeartbeats 4000000 in
set_option maxRecDepth 100000 in
theorem ct_X9_numberOf (l : Launch) {lay : List KK} {p : Nat} (ho : okX9 lay p) (a1 : Int32) (a2 : Int32) : CtI l yX9_numberOf cX9_numberOf 3 (some .int) 0 0 lay (rd (fun h => c_X9_numberOf p a1 a2 h)) (fun ad => [.ref (ad p), .int a1, .int a2]) := by
  refine CtI.mk' RX9 (by decide) rfl (fun _ => Nat.le_of_ble_eq_true rfl) ?_
  intro p0 e s m args below meth c D G A H0 ad X h r0 H ls Q hM hw hl hf hR
  have hl : lv_has ls 3 [(0, .ref (ad p)), (1, .int a1), (2, .int a2)] := hl
  obtain ⟨v0, hv0, hr0⟩ : ∃ v0, c_X9_numberOf p a1 a2 h = some v0 ∧ r0 = (v0, h) := rd_some hf
  subst hr0
  have hf := hv0
  unfold c_X9_numberOf at hf
  refine lv_iload_n hM.1 hM.2.1 dX9_numberOf_0 rfl (lv_at hl 1 rfl) ?_
  refine x_if_lt (tgt := 31) hM hf dX9_numberOf_1 (by decide) (fun hf => ?_) (fun hf => ?_)
  · refine lv_iconst (v := (-1)) hM.1 hM.2.1 dX9_numberOf_31 ic_m1 ?_
    exact hR _ _ _ _ _ _ _ (congrArg (fun z => (z, _)) (Option.some.inj hf)) rfl rfl hw dX9_numberOf_32
  refine lv_iload_n hM.1 hM.2.1 dX9_numberOf_4 rfl (lv_at hl 1 rfl) ?_
  refine lv_aload_n hM.1 hM.2.1 dX9_numberOf_5 rfl (lv_at hl 0 rfl) ?_
  refine gf_X9_nameCount hM hw (okX9.o ho) fl_X9_71 dX9_numberOf_6 ?_
  refine x_ic_ge (tgt := 31) hM hf dX9_numberOf_9 (by decide) (fun hf => ?_) (fun hf => ?_)
  · refine lv_iconst (v := (-1)) hM.1 hM.2.1 dX9_numberOf_31 ic_m1 ?_
    exact hR _ _ _ _ _ _ _ (congrArg (fun z => (z, _)) (Option.some.inj hf)) rfl rfl hw dX9_numberOf_32
  refine lv_aload_n hM.1 hM.2.1 dX9_numberOf_12 rfl (lv_at hl 0 rfl) ?_
  refine gf_X9_nameSorts hM hw (okX9.o ho) fl_X9_65 dX9_numberOf_13 ?_
  refine lv_iload_n hM.1 hM.2.1 dX9_numberOf_16 rfl (lv_at hl 1 rfl) ?_
  refine x_iald hM hw (okX9.nameSorts ho) hf dX9_numberOf_17 (fun hf => ?_)
  refine lv_iload_n hM.1 hM.2.1 dX9_numberOf_18 rfl (lv_at hl 2 rfl) ?_
  refine x_ic_ne (tgt := 31) hM hf dX9_numberOf_19 (by decide) (fun hf => ?_) (fun hf => ?_)
  · refine lv_iconst (v := (-1)) hM.1 hM.2.1 dX9_numberOf_31 ic_m1 ?_
    exact hR _ _ _ _ _ _ _ (congrArg (fun z => (z, _)) (Option.some.inj hf)) rfl rfl hw dX9_numberOf_32
  refine lv_aload_n hM.1 hM.2.1 dX9_numberOf_22 rfl (lv_at hl 0 rfl) ?_
  refine gf_X9_nameNumbers hM hw (okX9.o ho) fl_X9_68 dX9_numberOf_23 ?_
  refine lv_iload_n hM.1 hM.2.1 dX9_numberOf_26 rfl (lv_at hl 1 rfl) ?_
  refine x_iald hM hw (okX9.nameNumbers ho) hf dX9_numberOf_27 (fun hf => ?_)
  refine lv_goto (tgt := 32) hM.1 hM.2.1 dX9_numberOf_28 (by decide) ?_
  exact hR _ _ _ _ _ _ _ (congrArg (fun z => (z, _)) (Option.some.inj hf)) rfl rfl hw dX9_numberOf_32
theorem hd_X9_numberOf : yX9_numberOf.cls = RX9 ∧ yX9_numberOf.cls ≠ "java/lang/invoke/MethodHandle" ∧ yX9_numberOf.cls ≠ "java/lang/invoke/VarHandle" ∧ (parseMethodDescriptor yX9_numberOf.desc).map (fun d => d.parameters.length) = some 2 := ⟨rfl, by decide, by decide, by decide +kernel⟩
theorem dX9_addMan_0 : decode cX9_addMan 0 = .ok (.aload_n 0, 1) := by decide +kernel
theorem dX9_addMan_1 : decode cX9_addMan 1 = .ok (.getfield 9, 3) := by decide +kernel
theorem dX9_addMan_4 : decode cX9_addMan 4 = .ok (.iconst 5, 1) := by decide +kernel
theorem dX9_addMan_5 : decode cX9_addMan 5 = .ok (.if_icmp .ge 49, 3) := by decide +kernel
theorem dX9_addMan_8 : decode cX9_addMan 8 = .ok (.aload_n 0, 1) := by decide +kernel
theorem dX9_addMan_9 : decode cX9_addMan 9 = .ok (.getfield 48, 3) := by decide +kernel
theorem dX9_addMan_12 : decode cX9_addMan 12 = .ok (.aload_n 0, 1) := by decide +kernel
theorem dX9_addMan_13 : decode cX9_addMan 13 = .ok (.getfield 9, 3) := by decide +kernel
theorem dX9_addMan_16 : decode cX9_addMan 16 = .ok (.aaload, 1) := by decide +kernel
theorem dX9_addMan_17 : decode cX9_addMan 17 = .ok (.iconst 0, 1) := by decide +kernel
theorem dX9_addMan_18 : decode cX9_addMan 18 = .ok (.iload_n 1, 1) := by decide +kernel
theorem dX9_addMan_19 : decode cX9_addMan 19 = .ok (.iastore, 1) := by decide +kernel
theorem dX9_addMan_20 : decode cX9_addMan 20 = .ok (.aload_n 0, 1) := by decide +kernel
theorem dX9_addMan_21 : decode cX9_addMan 21 = .ok (.getfield 48, 3) := by decide +kernel
theorem dX9_addMan_24 : decode cX9_addMan 24 = .ok (.aload_n 0, 1) := by decide +kernel
theorem dX9_addMan_25 : decode cX9_addMan 25 = .ok (.getfield 9, 3) := by decide +kernel
theorem dX9_addMan_28 : decode cX9_addMan 28 = .ok (.aaload, 1) := by decide +kernel
theorem dX9_addMan_29 : decode cX9_addMan 29 = .ok (.iconst 1, 1) := by decide +kernel
theorem dX9_addMan_30 : decode cX9_addMan 30 = .ok (.iload_n 2, 1) := by decide +kernel
theorem dX9_addMan_31 : decode cX9_addMan 31 = .ok (.iastore, 1) := by decide +kernel
theorem dX9_addMan_32 : decode cX9_addMan 32 = .ok (.aload_n 0, 1) := by decide +kernel
theorem dX9_addMan_33 : decode cX9_addMan 33 = .ok (.getfield 48, 3) := by decide +kernel
theorem dX9_addMan_36 : decode cX9_addMan 36 = .ok (.aload_n 0, 1) := by decide +kernel
theorem dX9_addMan_37 : decode cX9_addMan 37 = .ok (.getfield 9, 3) := by decide +kernel
theorem dX9_addMan_40 : decode cX9_addMan 40 = .ok (.aaload, 1) := by decide +kernel
theorem dX9_addMan_41 : decode cX9_addMan 41 = .ok (.iconst 2, 1) := by decide +kernel
theorem dX9_addMan_42 : decode cX9_addMan 42 = .ok (.iconst 0, 1) := by decide +kernel
theorem dX9_addMan_43 : decode cX9_addMan 43 = .ok (.iastore, 1) := by decide +kernel
theorem dX9_addMan_44 : decode cX9_addMan 44 = .ok (.aload_n 0, 1) := by decide +kernel
theorem dX9_addMan_45 : decode cX9_addMan 45 = .ok (.dup, 1) := by decide +kernel
theorem dX9_addMan_46 : decode cX9_addMan 46 = .ok (.getfield 9, 3) := by decide +kernel
theorem dX9_addMan_49 : decode cX9_addMan 49 = .ok (.iconst 1, 1) := by decide +kernel
theorem dX9_addMan_50 : decode cX9_addMan 50 = .ok (.iadd, 1) := by decide +kernel
theorem dX9_addMan_51 : decode cX9_addMan 51 = .ok (.putfield 9, 3) := by decide +kernel
theorem dX9_addMan_54 : decode cX9_addMan 54 = .ok (.return_, 1) := by decide +kernel
def c_X9_addMan (p : Nat) (a1 : Int32) (a2 : Int32) (h : PH) : Option (PH) :=
  if 5 ≤ (h.1 p 0) then
    some h
  else
    gd (ixOK (h.1 p 0) 5) <|
    nm (setI h (p + 7 + 1 + (h.1 p 0).toNatClampNeg) 0 a1) fun h2 =>
    gd (ixOK (h2.1 p 0) 5) <|
    nm (setI h2 (p + 7 + 1 + (h2.1 p 0).toNatClampNeg) 1 a2) fun h4 =>
    gd (ixOK (h4.1 p 0) 5) <|
    nm (setI h4 (p + 7 + 1 + (h4.1 p 0).toNatClampNeg) 2 0) fun h6 =>
    nm (setI h6 p 0 ((h6.1 p 0) + 1)) fun h7 =>
    some h7
set_option maxHeartbeats 4000000 in
set_option maxRecDepth 100000 in
theorem ct_X9_addMan (l : Launch) {lay : List KK} {p : Nat} (ho : okX9 lay p) (a1 : Int32) (a2 : Int32) : CtV l yX9_addMan cX9_addMan 3 (none) 0 0 lay (fun h => c_X9_addMan p a1 a2 h) (fun ad => [.ref (ad p), .int a1, .int a2]) := by
  refine CtV.mk' RX9 (by decide) rfl (fun _ => Nat.le_of_ble_eq_true rfl) ?_
  intro p0 e s m args below meth c D G A H0 ad X h r0 H ls Q hM hw hl hf hR
  have hl : lv_has ls 3 [(0, .ref (ad p)), (1, .int a1), (2, .int a2)] := hl
  unfold c_X9_addMan at hf
  refine lv_aload_n hM.1 hM.2.1 dX9_addMan_0 rfl (lv_at hl 0 rfl) ?_
  refine gf_X9_men hM hw (okX9.o ho) fl_X9_9 dX9_addMan_1 ?_
  refine lv_iconst (v := 5) hM.1 hM.2.1 dX9_addMan_4 ic_5 ?_
  refine x_ic_ge (tgt := 54) hM hf dX9_addMan_5 (by decide) (fun hf => ?_) (fun hf => ?_)
  · exact hR _ _ _ _ _ (Option.some.inj hf) rfl hw dX9_addMan_54
  refine lv_aload_n hM.1 hM.2.1 dX9_addMan_8 rfl (lv_at hl 0 rfl) ?_
  refine gf_X9_manRows hM hw (okX9.o ho) fl_X9_48 dX9_addMan_9 ?_
  refine lv_aload_n hM.1 hM.2.1 dX9_addMan_12 rfl (lv_at hl 0 rfl) ?_
  refine gf_X9_men hM hw (okX9.o ho) fl_X9_9 dX9_addMan_13 ?_
  refine x_aaldI hM hw (okX9.manRows ho) hf dX9_addMan_16 (fun hi1 hf => ?_)
  refine lv_iconst (v := 0) hM.1 hM.2.1 dX9_addMan_17 ic_0 ?_
  refine lv_iload_n hM.1 hM.2.1 dX9_addMan_18 rfl (lv_at hl 1 rfl) ?_
  refine x_iastK hM hw (okX9.manRows_atI ho hi1) 0 (by decide) (by decide) hf dX9_addMan_19 (fun h2 H locs hf hw => ?_)
  refine lv_aload_n hM.1 hM.2.1 dX9_addMan_20 rfl (lv_at hl 0 rfl) ?_
  refine gf_X9_manRows hM hw (okX9.o ho) fl_X9_48 dX9_addMan_21 ?_
  refine lv_aload_n hM.1 hM.2.1 dX9_addMan_24 rfl (lv_at hl 0 rfl) ?_
  refine gf_X9_men hM hw (okX9.o ho) fl_X9_9 dX9_addMan_25 ?_
  refine x_aaldI hM hw (okX9.manRows ho) hf dX9_addMan_28 (fun hi3 hf => ?_)
  refine lv_iconst (v := 1) hM.1 hM.2.1 dX9_addMan_29 ic_1 ?_
  refine lv_iload_n hM.1 hM.2.1 dX9_addMan_30 rfl (lv_at hl 2 rfl) ?_
  refine x_iastK hM hw (okX9.manRows_atI ho hi3) 1 (by decide) (by decide) hf dX9_addMan_31 (fun h4 H locs hf hw => ?_)
  refine lv_aload_n hM.1 hM.2.1 dX9_addMan_32 rfl (lv_at hl 0 rfl) ?_
  refine gf_X9_manRows hM hw (okX9.o ho) fl_X9_48 dX9_addMan_33 ?_
  refine lv_aload_n hM.1 hM.2.1 dX9_addMan_36 rfl (lv_at hl 0 rfl) ?_
  refine gf_X9_men hM hw (okX9.o ho) fl_X9_9 dX9_addMan_37 ?_
  refine x_aaldI hM hw (okX9.manRows ho) hf dX9_addMan_40 (fun hi5 hf => ?_)
  refine lv_iconst (v := 2) hM.1 hM.2.1 dX9_addMan_41 ic_2 ?_
  refine lv_iconst (v := 0) hM.1 hM.2.1 dX9_addMan_42 ic_0 ?_
  refine x_iastK hM hw (okX9.manRows_atI ho hi5) 2 (by decide) (by decide) hf dX9_addMan_43 (fun h6 H locs hf hw => ?_)
  refine lv_aload_n hM.1 hM.2.1 dX9_addMan_44 rfl (lv_at hl 0 rfl) ?_
  refine lv_dup hM.1 hM.2.1 dX9_addMan_45 rfl ?_
  refine gf_X9_men hM hw (okX9.o ho) fl_X9_9 dX9_addMan_46 ?_
  refine lv_iconst (v := 1) hM.1 hM.2.1 dX9_addMan_49 ic_1 ?_
  refine lv_iadd hM.1 hM.2.1 dX9_addMan_50 ?_
  refine pf_X9_men hM hw (okX9.o ho) fl_X9_9 hf dX9_addMan_51 (fun h7 H locs hf hw => ?_)
  exact hR _ _ _ _ _ (Option.some.inj hf) rfl hw dX9_addMan_54
theorem hd_X9_addMan : yX9_addMan.cls = RX9 ∧ yX9_addMan.cls ≠ "java/lang/invoke/MethodHandle" ∧ yX9_addMan.cls ≠ "java/lang/invoke/VarHandle" ∧ (parseMethodDescriptor yX9_addMan.desc).map (fun d => d.parameters.length) = some 2 := ⟨rfl, by decide, by decide, by decide +kernel⟩
theorem dX9_addExcuse_0 : decode cX9_addExcuse 0 = .ok (.aload_n 0, 1) := by decide +kernel
theorem dX9_addExcuse_1 : decode cX9_addExcuse 1 = .ok (.getfield 15, 3) := by decide +kernel
theorem dX9_addExcuse_4 : decode cX9_addExcuse 4 = .ok (.bipush 7, 2) := by decide +kernel
theorem dX9_addExcuse_6 : decode cX9_addExcuse 6 = .ok (.if_icmp .ge 51, 3) := by decide +kernel
theorem dX9_addExcuse_9 : decode cX9_addExcuse 9 = .ok (.aload_n 0, 1) := by decide +kernel
theorem dX9_addExcuse_10 : decode cX9_addExcuse 10 = .ok (.getfield 51, 3) := by decide +kernel
theorem dX9_addExcuse_13 : decode cX9_addExcuse 13 = .ok (.aload_n 0, 1) := by decide +kernel
theorem dX9_addExcuse_14 : decode cX9_addExcuse 14 = .ok (.getfield 15, 3) := by decide +kernel
theorem dX9_addExcuse_17 : decode cX9_addExcuse 17 = .ok (.aaload, 1) := by decide +kernel
theorem dX9_addExcuse_18 : decode cX9_addExcuse 18 = .ok (.astore 6, 2) := by decide +kernel
theorem dX9_addExcuse_20 : decode cX9_addExcuse 20 = .ok (.aload 6, 2) := by decide +kernel
theorem dX9_addExcuse_22 : decode cX9_addExcuse 22 = .ok (.iconst 0, 1) := by decide +kernel
theorem dX9_addExcuse_23 : decode cX9_addExcuse 23 = .ok (.iload_n 1, 1) := by decide +kernel
theorem dX9_addExcuse_24 : decode cX9_addExcuse 24 = .ok (.iastore, 1) := by decide +kernel
theorem dX9_addExcuse_25 : decode cX9_addExcuse 25 = .ok (.aload 6, 2) := by decide +kernel
theorem dX9_addExcuse_27 : decode cX9_addExcuse 27 = .ok (.iconst 1, 1) := by decide +kernel
theorem dX9_addExcuse_28 : decode cX9_addExcuse 28 = .ok (.iload_n 2, 1) := by decide +kernel
theorem dX9_addExcuse_29 : decode cX9_addExcuse 29 = .ok (.iastore, 1) := by decide +kernel
theorem dX9_addExcuse_30 : decode cX9_addExcuse 30 = .ok (.aload 6, 2) := by decide +kernel
theorem dX9_addExcuse_32 : decode cX9_addExcuse 32 = .ok (.iconst 2, 1) := by decide +kernel
theorem dX9_addExcuse_33 : decode cX9_addExcuse 33 = .ok (.iload_n 3, 1) := by decide +kernel
theorem dX9_addExcuse_34 : decode cX9_addExcuse 34 = .ok (.iastore, 1) := by decide +kernel
theorem dX9_addExcuse_35 : decode cX9_addExcuse 35 = .ok (.aload 6, 2) := by decide +kernel
theorem dX9_addExcuse_37 : decode cX9_addExcuse 37 = .ok (.iconst 3, 1) := by decide +kernel
theorem dX9_addExcuse_38 : decode cX9_addExcuse 38 = .ok (.iload 4, 2) := by decide +kernel
theorem dX9_addExcuse_40 : decode cX9_addExcuse 40 = .ok (.iastore, 1) := by decide +kernel
theorem dX9_addExcuse_41 : decode cX9_addExcuse 41 = .ok (.aload 6, 2) := by decide +kernel
theorem dX9_addExcuse_43 : decode cX9_addExcuse 43 = .ok (.iconst 4, 1) := by decide +kernel
theorem dX9_addExcuse_44 : decode cX9_addExcuse 44 = .ok (.iload 5, 2) := by decide +kernel
theorem dX9_addExcuse_46 : decode cX9_addExcuse 46 = .ok (.iastore, 1) := by decide +kernel
theorem dX9_addExcuse_47 : decode cX9_addExcuse 47 = .ok (.aload_n 0, 1) := by decide +kernel
theorem dX9_addExcuse_48 : decode cX9_addExcuse 48 = .ok (.dup, 1) := by decide +kernel
theorem dX9_addExcuse_49 : decode cX9_addExcuse 49 = .ok (.getfield 15, 3) := by decide +kernel
theorem dX9_addExcuse_52 : decode cX9_addExcuse 52 = .ok (.iconst 1, 1) := by decide +kernel
theorem dX9_addExcuse_53 : decode cX9_addExcuse 53 = .ok (.iadd, 1) := by decide +kernel
theorem dX9_addExcuse_54 : decode cX9_addExcuse 54 = .ok (.putfield 15, 3) := by decide +kernel
theorem dX9_addExcuse_57 : decode cX9_addExcuse 57 = .ok (.return_, 1) := by decide +kernel
def c_X9_addExcuse (p : Nat) (a1 : Int32) (a2 : Int32) (a3 : Int32) (a4 : Int32) (a5 : Int32) (h : PH) : Option (PH) :=
  if 7 ≤ (h.1 p 1) then
    some h
  else
    gd (ixOK (h.1 p 1) 7) <|
    nm (setI h (p + 13 + 1 + (h.1 p 1).toNatClampNeg) 0 a1) fun h2 =>
    nm (setI h2 (p + 13 + 1 + (h.1 p 1).toNatClampNeg) 1 a2) fun h3 =>
    nm (setI h3 (p + 13 + 1 + (h.1 p 1).toNatClampNeg) 2 a3) fun h4 =>
    nm (setI h4 (p + 13 + 1 + (h.1 p 1).toNatClampNeg) 3 a4) fun h5 =>
    nm (setI h5 (p + 13 + 1 + (h.1 p 1).toNatClampNeg) 4 a5) fun h6 =>
    nm (setI h6 p 1 ((h6.1 p 1) + 1)) fun h7 =>
    some h7
set_option maxHeartbeats 4000000 in
set_option maxRecDepth 100000 in
theorem ct_X9_addExcuse (l : Launch) {lay : List KK} {p : Nat} (ho : okX9 lay p) (a1 : Int32) (a2 : Int32) (a3 : Int32) (a4 : Int32) (a5 : Int32) : CtV l yX9_addExcuse cX9_addExcuse 7 (none) 0 0 lay (fun h => c_X9_addExcuse p a1 a2 a3 a4 a5 h) (fun ad => [.ref (ad p), .int a1, .int a2, .int a3, .int a4, .int a5]) := by
  refine CtV.mk' RX9 (by decide) rfl (fun _ => Nat.le_of_ble_eq_true rfl) ?_
  intro p0 e s m args below meth c D G A H0 ad X h r0 H ls Q hM hw hl hf hR
  have hl : lv_has ls 7 [(0, .ref (ad p)), (1, .int a1), (2, .int a2), (3, .int a3), (4, .int a4), (5, .int a5)] := hl
  unfold c_X9_addExcuse at hf
  refine lv_aload_n hM.1 hM.2.1 dX9_addExcuse_0 rfl (lv_at hl 0 rfl) ?_
  refine gf_X9_excuses hM hw (okX9.o ho) fl_X9_15 dX9_addExcuse_1 ?_
  refine lv_bipush (v := 7) hM.1 hM.2.1 dX9_addExcuse_4 (by decide) ?_
  refine x_ic_ge (tgt := 57) hM hf dX9_addExcuse_6 (by decide) (fun hf => ?_) (fun hf => ?_)
  · exact hR _ _ _ _ _ (Option.some.inj hf) rfl hw dX9_addExcuse_57
  refine lv_aload_n hM.1 hM.2.1 dX9_addExcuse_9 rfl (lv_at hl 0 rfl) ?_
  refine gf_X9_excuseRows hM hw (okX9.o ho) fl_X9_51 dX9_addExcuse_10 ?_
  refine lv_aload_n hM.1 hM.2.1 dX9_addExcuse_13 rfl (lv_at hl 0 rfl) ?_
  refine gf_X9_excuses hM hw (okX9.o ho) fl_X9_15 dX9_addExcuse_14 ?_
  refine x_aaldI hM hw (okX9.excuseRows ho) hf dX9_addExcuse_17 (fun hi1 hf => ?_)
  refine lv_astore (lv' := [(6, .ref (ad (p + 13 + 1 + (h.1 p 1).toNatClampNeg))), (0, .ref (ad p)), (1, .int a1), (2, .int a2), (3, .int a3), (4, .int a4), (5, .int a5)]) hM.1 hM.2.1 dX9_addExcuse_18 hl (by decide) rfl (fun ls hl => ?_)
  refine lv_aload hM.1 hM.2.1 dX9_addExcuse_20 (lv_at hl 0 rfl) ?_
  refine lv_iconst (v := 0) hM.1 hM.2.1 dX9_addExcuse_22 ic_0 ?_
  refine lv_iload_n hM.1 hM.2.1 dX9_addExcuse_23 rfl (lv_at hl 2 rfl) ?_
  refine x_iastK hM hw (okX9.excuseRows_atI ho hi1) 0 (by decide) (by decide) hf dX9_addExcuse_24 (fun h2 H locs hf hw => ?_)
  refine lv_aload hM.1 hM.2.1 dX9_addExcuse_25 (lv_at hl 0 rfl) ?_
  refine lv_iconst (v := 1) hM.1 hM.2.1 dX9_addExcuse_27 ic_1 ?_
  refine lv_iload_n hM.1 hM.2.1 dX9_addExcuse_28 rfl (lv_at hl 3 rfl) ?_
  refine x_iastK hM hw (okX9.excuseRows_atI ho hi1) 1 (by decide) (by decide) hf dX9_addExcuse_29 (fun h3 H locs hf hw => ?_)
  refine lv_aload hM.1 hM.2.1 dX9_addExcuse_30 (lv_at hl 0 rfl) ?_
  refine lv_iconst (v := 2) hM.1 hM.2.1 dX9_addExcuse_32 ic_2 ?_
  refine lv_iload_n hM.1 hM.2.1 dX9_addExcuse_33 rfl (lv_at hl 4 rfl) ?_
  refine x_iastK hM hw (okX9.excuseRows_atI ho hi1) 2 (by decide) (by decide) hf dX9_addExcuse_34 (fun h4 H locs hf hw => ?_)
  refine lv_aload hM.1 hM.2.1 dX9_addExcuse_35 (lv_at hl 0 rfl) ?_
  refine lv_iconst (v := 3) hM.1 hM.2.1 dX9_addExcuse_37 ic_3 ?_
  refine lv_iload hM.1 hM.2.1 dX9_addExcuse_38 (lv_at hl 5 rfl) ?_
  refine x_iastK hM hw (okX9.excuseRows_atI ho hi1) 3 (by decide) (by decide) hf dX9_addExcuse_40 (fun h5 H locs hf hw => ?_)
  refine lv_aload hM.1 hM.2.1 dX9_addExcuse_41 (lv_at hl 0 rfl) ?_
  refine lv_iconst (v := 4) hM.1 hM.2.1 dX9_addExcuse_43 ic_4 ?_
  refine lv_iload hM.1 hM.2.1 dX9_addExcuse_44 (lv_at hl 6 rfl) ?_
  refine x_iastK hM hw (okX9.excuseRows_atI ho hi1) 4 (by decide) (by decide) hf dX9_addExcuse_46 (fun h6 H locs hf hw => ?_)
  refine lv_aload_n hM.1 hM.2.1 dX9_addExcuse_47 rfl (lv_at hl 1 rfl) ?_
  refine lv_dup hM.1 hM.2.1 dX9_addExcuse_48 rfl ?_
  refine gf_X9_excuses hM hw (okX9.o ho) fl_X9_15 dX9_addExcuse_49 ?_
  refine lv_iconst (v := 1) hM.1 hM.2.1 dX9_addExcuse_52 ic_1 ?_
  refine lv_iadd hM.1 hM.2.1 dX9_addExcuse_53 ?_
  refine pf_X9_excuses hM hw (okX9.o ho) fl_X9_15 hf dX9_addExcuse_54 (fun h7 H locs hf hw => ?_)
  exact hR _ _ _ _ _ (Option.some.inj hf) rfl hw dX9_addExcuse_57
theorem hd_X9_addExcuse : yX9_addExcuse.cls = RX9 ∧ yX9_addExcuse.cls ≠ "java/lang/invoke/MethodHandle" ∧ yX9_addExcuse.cls ≠ "java/lang/invoke/VarHandle" ∧ (parseMethodDescriptor yX9_addExcuse.desc).map (fun d => d.parameters.length) = some 5 := ⟨rfl, by decide, by decide, by decide +kernel⟩
theorem dX9_addDuty_0 : decode cX9_addDuty 0 = .ok (.aload_n 0, 1) := by decide +kernel
theorem dX9_addDuty_1 : decode cX9_addDuty 1 = .ok (.getfield 18, 3) := by decide +kernel
theorem dX9_addDuty_4 : decode cX9_addDuty 4 = .ok (.bipush 9, 2) := by decide +kernel
theorem dX9_addDuty_6 : decode cX9_addDuty 6 = .ok (.if_icmp .ge 49, 3) := by decide +kernel
theorem dX9_addDuty_9 : decode cX9_addDuty 9 = .ok (.aload_n 0, 1) := by decide +kernel
theorem dX9_addDuty_10 : decode cX9_addDuty 10 = .ok (.getfield 54, 3) := by decide +kernel
theorem dX9_addDuty_13 : decode cX9_addDuty 13 = .ok (.aload_n 0, 1) := by decide +kernel
theorem dX9_addDuty_14 : decode cX9_addDuty 14 = .ok (.getfield 18, 3) := by decide +kernel
theorem dX9_addDuty_17 : decode cX9_addDuty 17 = .ok (.aaload, 1) := by decide +kernel
theorem dX9_addDuty_18 : decode cX9_addDuty 18 = .ok (.iconst 0, 1) := by decide +kernel
theorem dX9_addDuty_19 : decode cX9_addDuty 19 = .ok (.iload_n 1, 1) := by decide +kernel
theorem dX9_addDuty_20 : decode cX9_addDuty 20 = .ok (.iastore, 1) := by decide +kernel
theorem dX9_addDuty_21 : decode cX9_addDuty 21 = .ok (.aload_n 0, 1) := by decide +kernel
theorem dX9_addDuty_22 : decode cX9_addDuty 22 = .ok (.getfield 54, 3) := by decide +kernel
theorem dX9_addDuty_25 : decode cX9_addDuty 25 = .ok (.aload_n 0, 1) := by decide +kernel
theorem dX9_addDuty_26 : decode cX9_addDuty 26 = .ok (.getfield 18, 3) := by decide +kernel
theorem dX9_addDuty_29 : decode cX9_addDuty 29 = .ok (.aaload, 1) := by decide +kernel
theorem dX9_addDuty_30 : decode cX9_addDuty 30 = .ok (.iconst 1, 1) := by decide +kernel
theorem dX9_addDuty_31 : decode cX9_addDuty 31 = .ok (.iload_n 2, 1) := by decide +kernel
theorem dX9_addDuty_32 : decode cX9_addDuty 32 = .ok (.iastore, 1) := by decide +kernel
theorem dX9_addDuty_33 : decode cX9_addDuty 33 = .ok (.aload_n 0, 1) := by decide +kernel
theorem dX9_addDuty_34 : decode cX9_addDuty 34 = .ok (.getfield 54, 3) := by decide +kernel
theorem dX9_addDuty_37 : decode cX9_addDuty 37 = .ok (.aload_n 0, 1) := by decide +kernel
theorem dX9_addDuty_38 : decode cX9_addDuty 38 = .ok (.getfield 18, 3) := by decide +kernel
theorem dX9_addDuty_41 : decode cX9_addDuty 41 = .ok (.aaload, 1) := by decide +kernel
theorem dX9_addDuty_42 : decode cX9_addDuty 42 = .ok (.iconst 2, 1) := by decide +kernel
theorem dX9_addDuty_43 : decode cX9_addDuty 43 = .ok (.iload_n 3, 1) := by decide +kernel
theorem dX9_addDuty_44 : decode cX9_addDuty 44 = .ok (.iastore, 1) := by decide +kernel
theorem dX9_addDuty_45 : decode cX9_addDuty 45 = .ok (.aload_n 0, 1) := by decide +kernel
theorem dX9_addDuty_46 : decode cX9_addDuty 46 = .ok (.dup, 1) := by decide +kernel
theorem dX9_addDuty_47 : decode cX9_addDuty 47 = .ok (.getfield 18, 3) := by decide +kernel
theorem dX9_addDuty_50 : decode cX9_addDuty 50 = .ok (.iconst 1, 1) := by decide +kernel
theorem dX9_addDuty_51 : decode cX9_addDuty 51 = .ok (.iadd, 1) := by decide +kernel
theorem dX9_addDuty_52 : decode cX9_addDuty 52 = .ok (.putfield 18, 3) := by decide +kernel
theorem dX9_addDuty_55 : decode cX9_addDuty 55 = .ok (.return_, 1) := by decide +kernel
def c_X9_addDuty (p : Nat) (a1 : Int32) (a2 : Int32) (a3 : Int32) (h : PH) : Option (PH) :=
  if 9 ≤ (h.1 p 2) then
    some h
  else
    gd (ixOK (h.1 p 2) 9) <|
    nm (setI h (p + 21 + 1 + (h.1 p 2).toNatClampNeg) 0 a1) fun h2 =>
    gd (ixOK (h2.1 p 2) 9) <|
    nm (setI h2 (p + 21 + 1 + (h2.1 p 2).toNatClampNeg) 1 a2) fun h4 =>
    gd (ixOK (h4.1 p 2) 9) <|
    nm (setI h4 (p + 21 + 1 + (h4.1 p 2).toNatClampNeg) 2 a3) fun h6 =>
    nm (setI h6 p 2 ((h6.1 p 2) + 1)) fun h7 =>
    some h7
set_option maxHeartbeats 4000000 in
set_option maxRecDepth 100000 in
theorem ct_X9_addDuty (l : Launch) {lay : List KK} {p : Nat} (ho : okX9 lay p) (a1 : Int32) (a2 : Int32) (a3 : Int32) : CtV l yX9_addDuty cX9_addDuty 4 (none) 0 0 lay (fun h => c_X9_addDuty p a1 a2 a3 h) (fun ad => [.ref (ad p), .int a1, .int a2, .int a3]) := by
  refine CtV.mk' RX9 (by decide) rfl (fun _ => Nat.le_of_ble_eq_true rfl) ?_
  intro p0 e s m args below meth c D G A H0 ad X h r0 H ls Q hM hw hl hf hR
  have hl : lv_has ls 4 [(0, .ref (ad p)), (1, .int a1), (2, .int a2), (3, .int a3)] := hl
  unfold c_X9_addDuty at hf
  refine lv_aload_n hM.1 hM.2.1 dX9_addDuty_0 rfl (lv_at hl 0 rfl) ?_
  refine gf_X9_duties hM hw (okX9.o ho) fl_X9_18 dX9_addDuty_1 ?_
  refine lv_bipush (v := 9) hM.1 hM.2.1 dX9_addDuty_4 (by decide) ?_
  refine x_ic_ge (tgt := 55) hM hf dX9_addDuty_6 (by decide) (fun hf => ?_) (fun hf => ?_)
  · exact hR _ _ _ _ _ (Option.some.inj hf) rfl hw dX9_addDuty_55
  refine lv_aload_n hM.1 hM.2.1 dX9_addDuty_9 rfl (lv_at hl 0 rfl) ?_
  refine gf_X9_dutyRows hM hw (okX9.o ho) fl_X9_54 dX9_addDuty_10 ?_
  refine lv_aload_n hM.1 hM.2.1 dX9_addDuty_13 rfl (lv_at hl 0 rfl) ?_
  refine gf_X9_duties hM hw (okX9.o ho) fl_X9_18 dX9_addDuty_14 ?_
  refine x_aaldI hM hw (okX9.dutyRows ho) hf dX9_addDuty_17 (fun hi1 hf => ?_)
  refine lv_iconst (v := 0) hM.1 hM.2.1 dX9_addDuty_18 ic_0 ?_
  refine lv_iload_n hM.1 hM.2.1 dX9_addDuty_19 rfl (lv_at hl 1 rfl) ?_
  refine x_iastK hM hw (okX9.dutyRows_atI ho hi1) 0 (by decide) (by decide) hf dX9_addDuty_20 (fun h2 H locs hf hw => ?_)
  refine lv_aload_n hM.1 hM.2.1 dX9_addDuty_21 rfl (lv_at hl 0 rfl) ?_
  refine gf_X9_dutyRows hM hw (okX9.o ho) fl_X9_54 dX9_addDuty_22 ?_
  refine lv_aload_n hM.1 hM.2.1 dX9_addDuty_25 rfl (lv_at hl 0 rfl) ?_
  refine gf_X9_duties hM hw (okX9.o ho) fl_X9_18 dX9_addDuty_26 ?_
  refine x_aaldI hM hw (okX9.dutyRows ho) hf dX9_addDuty_29 (fun hi3 hf => ?_)
  refine lv_iconst (v := 1) hM.1 hM.2.1 dX9_addDuty_30 ic_1 ?_
  refine lv_iload_n hM.1 hM.2.1 dX9_addDuty_31 rfl (lv_at hl 2 rfl) ?_
  refine x_iastK hM hw (okX9.dutyRows_atI ho hi3) 1 (by decide) (by decide) hf dX9_addDuty_32 (fun h4 H locs hf hw => ?_)
  refine lv_aload_n hM.1 hM.2.1 dX9_addDuty_33 rfl (lv_at hl 0 rfl) ?_
  refine gf_X9_dutyRows hM hw (okX9.o ho) fl_X9_54 dX9_addDuty_34 ?_
  refine lv_aload_n hM.1 hM.2.1 dX9_addDuty_37 rfl (lv_at hl 0 rfl) ?_
  refine gf_X9_duties hM hw (okX9.o ho) fl_X9_18 dX9_addDuty_38 ?_
  refine x_aaldI hM hw (okX9.dutyRows ho) hf dX9_addDuty_41 (fun hi5 hf => ?_)
  refine lv_iconst (v := 2) hM.1 hM.2.1 dX9_addDuty_42 ic_2 ?_
  refine lv_iload_n hM.1 hM.2.1 dX9_addDuty_43 rfl (lv_at hl 3 rfl) ?_
  refine x_iastK hM hw (okX9.dutyRows_atI ho hi5) 2 (by decide) (by decide) hf dX9_addDuty_44 (fun h6 H locs hf hw => ?_)
  refine lv_aload_n hM.1 hM.2.1 dX9_addDuty_45 rfl (lv_at hl 0 rfl) ?_
  refine lv_dup hM.1 hM.2.1 dX9_addDuty_46 rfl ?_
  refine gf_X9_duties hM hw (okX9.o ho) fl_X9_18 dX9_addDuty_47 ?_
  refine lv_iconst (v := 1) hM.1 hM.2.1 dX9_addDuty_50 ic_1 ?_
  refine lv_iadd hM.1 hM.2.1 dX9_addDuty_51 ?_
  refine pf_X9_duties hM hw (okX9.o ho) fl_X9_18 hf dX9_addDuty_52 (fun h7 H locs hf hw => ?_)
  exact hR _ _ _ _ _ (Option.some.inj hf) rfl hw dX9_addDuty_55
theorem hd_X9_addDuty : yX9_addDuty.cls = RX9 ∧ yX9_addDuty.cls ≠ "java/lang/invoke/MethodHandle" ∧ yX9_addDuty.cls ≠ "java/lang/invoke/VarHandle" ∧ (parseMethodDescriptor yX9_addDuty.desc).map (fun d => d.parameters.length) = some 3 := ⟨rfl, by decide, by decide, by decide +kernel⟩
theorem dX9_addKnows_0 : decode cX9_addKnows 0 = .ok (.aload_n 0, 1) := by decide +kernel
theorem dX9_addKnows_1 : decode cX9_addKnows 1 = .ok (.iload_n 1, 1) := by decide +kernel
theorem dX9_addKnows_2 : decode cX9_addKnows 2 = .ok (.invokevirtual 81, 3) := by decide +kernel
theorem dX9_addKnows_5 : decode cX9_addKnows 5 = .ok (.ifCond .eq 39, 3) := by decide +kernel
theorem dX9_addKnows_8 : decode cX9_addKnows 8 = .ok (.aload_n 0, 1) := by decide +kernel
theorem dX9_addKnows_9 : decode cX9_addKnows 9 = .ok (.iload_n 2, 1) := by decide +kernel
theorem dX9_addKnows_10 : decode cX9_addKnows 10 = .ok (.invokevirtual 81, 3) := by decide +kernel
theorem dX9_addKnows_13 : decode cX9_addKnows 13 = .ok (.ifCond .eq 31, 3) := by decide +kernel
theorem dX9_addKnows_16 : decode cX9_addKnows 16 = .ok (.aload_n 0, 1) := by decide +kernel
theorem dX9_addKnows_17 : decode cX9_addKnows 17 = .ok (.getfield 48, 3) := by decide +kernel
theorem dX9_addKnows_20 : decode cX9_addKnows 20 = .ok (.iload_n 1, 1) := by decide +kernel
theorem dX9_addKnows_21 : decode cX9_addKnows 21 = .ok (.aaload, 1) := by decide +kernel
theorem dX9_addKnows_22 : decode cX9_addKnows 22 = .ok (.iconst 2, 1) := by decide +kernel
theorem dX9_addKnows_23 : decode cX9_addKnows 23 = .ok (.dup2, 1) := by decide +kernel
theorem dX9_addKnows_24 : decode cX9_addKnows 24 = .ok (.iaload, 1) := by decide +kernel
theorem dX9_addKnows_25 : decode cX9_addKnows 25 = .ok (.iconst 1, 1) := by decide +kernel
theorem dX9_addKnows_26 : decode cX9_addKnows 26 = .ok (.iload_n 2, 1) := by decide +kernel
theorem dX9_addKnows_27 : decode cX9_addKnows 27 = .ok (.ishl, 1) := by decide +kernel
theorem dX9_addKnows_28 : decode cX9_addKnows 28 = .ok (.ior, 1) := by decide +kernel
theorem dX9_addKnows_29 : decode cX9_addKnows 29 = .ok (.iastore, 1) := by decide +kernel
theorem dX9_addKnows_30 : decode cX9_addKnows 30 = .ok (.aload_n 0, 1) := by decide +kernel
theorem dX9_addKnows_31 : decode cX9_addKnows 31 = .ok (.getfield 48, 3) := by decide +kernel
theorem dX9_addKnows_34 : decode cX9_addKnows 34 = .ok (.iload_n 2, 1) := by decide +kernel
theorem dX9_addKnows_35 : decode cX9_addKnows 35 = .ok (.aaload, 1) := by decide +kernel
theorem dX9_addKnows_36 : decode cX9_addKnows 36 = .ok (.iconst 2, 1) := by decide +kernel
theorem dX9_addKnows_37 : decode cX9_addKnows 37 = .ok (.dup2, 1) := by decide +kernel
theorem dX9_addKnows_38 : decode cX9_addKnows 38 = .ok (.iaload, 1) := by decide +kernel
theorem dX9_addKnows_39 : decode cX9_addKnows 39 = .ok (.iconst 1, 1) := by decide +kernel
theorem dX9_addKnows_40 : decode cX9_addKnows 40 = .ok (.iload_n 1, 1) := by decide +kernel
theorem dX9_addKnows_41 : decode cX9_addKnows 41 = .ok (.ishl, 1) := by decide +kernel
theorem dX9_addKnows_42 : decode cX9_addKnows 42 = .ok (.ior, 1) := by decide +kernel
theorem dX9_addKnows_43 : decode cX9_addKnows 43 = .ok (.iastore, 1) := by decide +kernel
theorem dX9_addKnows_44 : decode cX9_addKnows 44 = .ok (.aload_n 0, 1) := by decide +kernel
theorem dX9_addKnows_45 : decode cX9_addKnows 45 = .ok (.dup, 1) := by decide +kernel
theorem dX9_addKnows_46 : decode cX9_addKnows 46 = .ok (.getfield 24, 3) := by decide +kernel
theorem dX9_addKnows_49 : decode cX9_addKnows 49 = .ok (.iconst 1, 1) := by decide +kernel
theorem dX9_addKnows_50 : decode cX9_addKnows 50 = .ok (.iadd, 1) := by decide +kernel
theorem dX9_addKnows_51 : decode cX9_addKnows 51 = .ok (.putfield 24, 3) := by decide +kernel
theorem dX9_addKnows_54 : decode cX9_addKnows 54 = .ok (.return_, 1) := by decide +kernel
def c_X9_addKnows (p : Nat) (a1 : Int32) (a2 : Int32) (h : PH) : Option (PH) :=
  (c_X9_isMan p a1 h).bind fun r1 =>
  if r1 = 0 then
    nm (setI h p 4 ((h.1 p 4) + 1)) fun h2 =>
    some h2
  else
    (c_X9_isMan p a2 h).bind fun r3 =>
    if r3 = 0 then
      nm (setI h p 4 ((h.1 p 4) + 1)) fun h4 =>
      some h4
    else
      gd (ixOK a1 5) <|
      nm (setI h (p + 7 + 1 + a1.toNatClampNeg) 2 ((h.1 (p + 7 + 1 + a1.toNatClampNeg) 2) ||| ((1 : Int32) <<< (a2 &&& 31)))) fun h6 =>
      gd (ixOK a2 5) <|
      nm (setI h6 (p + 7 + 1 + a2.toNatClampNeg) 2 ((h6.1 (p + 7 + 1 + a2.toNatClampNeg) 2) ||| ((1 : Int32) <<< (a1 &&& 31)))) fun h8 =>
      nm (setI h8 p 4 ((h8.1 p 4) + 1)) fun h9 =>
      some h9
set_option maxHeartbeats 4000000 in
set_option maxRecDepth 100000 in
theorem ct_X9_addKnows (l : Launch) {lay : List KK} {p : Nat} (ho : okX9 lay p) (a1 : Int32) (a2 : Int32) : CtV l yX9_addKnows cX9_addKnows 3 (none) 1 21 lay (fun h => c_X9_addKnows p a1 a2 h) (fun ad => [.ref (ad p), .int a1, .int a2]) := by
  refine CtV.mk' RX9 (by decide) rfl (fun _ => Nat.le_of_ble_eq_true rfl) ?_
  intro p0 e s m args below meth c D G A H0 ad X h r0 H ls Q hM hw hl hf hR
  have hl : lv_has ls 3 [(0, .ref (ad p)), (1, .int a1), (2, .int a2)] := hl
  unfold c_X9_addKnows at hf
  refine lv_aload_n hM.1 hM.2.1 dX9_addKnows_0 rfl (lv_at hl 0 rfl) ?_
  refine lv_iload_n hM.1 hM.2.1 dX9_addKnows_1 rfl (lv_at hl 1 rfl) ?_
  refine x_callVIr (rest := []) hM hw (ct_X9_isMan l ho a1) [.int a1] (okX9.o ho) rfl rfl rfl (gi_V ml_X9_81 im_X9_isMan sl_X9_isMan in_X9 kc_X9_isMan) hd_X9_isMan rfl ⟨Nat.le_of_ble_eq_true rfl, Nat.le_of_ble_eq_true rfl⟩ rfl (Nat.le_of_ble_eq_true rfl) hl.1 hcs0 hf dX9_addKnows_2 (fun r1 H locs hf hw => ?_)
  refine x_if_eq (tgt := 44) hM hf dX9_addKnows_5 (by decide) (fun hf => ?_) (fun hf => ?_)
  · refine lv_aload_n hM.1 hM.2.1 dX9_addKnows_44 rfl (lv_at hl 0 rfl) ?_
    refine lv_dup hM.1 hM.2.1 dX9_addKnows_45 rfl ?_
    refine gf_X9_knows hM hw (okX9.o ho) fl_X9_24 dX9_addKnows_46 ?_
    refine lv_iconst (v := 1) hM.1 hM.2.1 dX9_addKnows_49 ic_1 ?_
    refine lv_iadd hM.1 hM.2.1 dX9_addKnows_50 ?_
    refine pf_X9_knows hM hw (okX9.o ho) fl_X9_24 hf dX9_addKnows_51 (fun h2 H locs hf hw => ?_)
    exact hR _ _ _ _ _ (Option.some.inj hf) rfl hw dX9_addKnows_54
  refine lv_aload_n hM.1 hM.2.1 dX9_addKnows_8 rfl (lv_at hl 0 rfl) ?_
  refine lv_iload_n hM.1 hM.2.1 dX9_addKnows_9 rfl (lv_at hl 2 rfl) ?_
  refine x_callVIr (rest := []) hM hw (ct_X9_isMan l ho a2) [.int a2] (okX9.o ho) rfl rfl rfl (gi_V ml_X9_81 im_X9_isMan sl_X9_isMan in_X9 kc_X9_isMan) hd_X9_isMan rfl ⟨Nat.le_of_ble_eq_true rfl, Nat.le_of_ble_eq_true rfl⟩ rfl (Nat.le_of_ble_eq_true rfl) hl.1 hcs0 hf dX9_addKnows_10 (fun r3 H locs hf hw => ?_)
  refine x_if_eq (tgt := 44) hM hf dX9_addKnows_13 (by decide) (fun hf => ?_) (fun hf => ?_)
  · refine lv_aload_n hM.1 hM.2.1 dX9_addKnows_44 rfl (lv_at hl 0 rfl) ?_
    refine lv_dup hM.1 hM.2.1 dX9_addKnows_45 rfl ?_
    refine gf_X9_knows hM hw (okX9.o ho) fl_X9_24 dX9_addKnows_46 ?_
    refine lv_iconst (v := 1) hM.1 hM.2.1 dX9_addKnows_49 ic_1 ?_
    refine lv_iadd hM.1 hM.2.1 dX9_addKnows_50 ?_
    refine pf_X9_knows hM hw (okX9.o ho) fl_X9_24 hf dX9_addKnows_51 (fun h4 H locs hf hw => ?_)
    exact hR _ _ _ _ _ (Option.some.inj hf) rfl hw dX9_addKnows_54
  refine lv_aload_n hM.1 hM.2.1 dX9_addKnows_16 rfl (lv_at hl 0 rfl) ?_
  refine gf_X9_manRows hM hw (okX9.o ho) fl_X9_48 dX9_addKnows_17 ?_
  refine lv_iload_n hM.1 hM.2.1 dX9_addKnows_20 rfl (lv_at hl 1 rfl) ?_
  refine x_aaldI hM hw (okX9.manRows ho) hf dX9_addKnows_21 (fun hi5 hf => ?_)
  refine lv_iconst (v := 2) hM.1 hM.2.1 dX9_addKnows_22 ic_2 ?_
  refine lv_dup2_11 hM.1 hM.2.1 dX9_addKnows_23 rfl rfl ?_
  refine x_ialdK hM hw (okX9.manRows_atI ho hi5) 2 (by decide) (by decide) dX9_addKnows_24 ?_
  refine lv_iconst (v := 1) hM.1 hM.2.1 dX9_addKnows_25 ic_1 ?_
  refine lv_iload_n hM.1 hM.2.1 dX9_addKnows_26 rfl (lv_at hl 2 rfl) ?_
  refine lv_ishl hM.1 hM.2.1 dX9_addKnows_27 ?_
  refine lv_ior hM.1 hM.2.1 dX9_addKnows_28 ?_
  refine x_iastK hM hw (okX9.manRows_atI ho hi5) 2 (by decide) (by decide) hf dX9_addKnows_29 (fun h6 H locs hf hw => ?_)
  refine lv_aload_n hM.1 hM.2.1 dX9_addKnows_30 rfl (lv_at hl 0 rfl) ?_
  refine gf_X9_manRows hM hw (okX9.o ho) fl_X9_48 dX9_addKnows_31 ?_
  refine lv_iload_n hM.1 hM.2.1 dX9_addKnows_34 rfl (lv_at hl 2 rfl) ?_
  refine x_aaldI hM hw (okX9.manRows ho) hf dX9_addKnows_35 (fun hi7 hf => ?_)
  refine lv_iconst (v := 2) hM.1 hM.2.1 dX9_addKnows_36 ic_2 ?_
  refine lv_dup2_11 hM.1 hM.2.1 dX9_addKnows_37 rfl rfl ?_
  refine x_ialdK hM hw (okX9.manRows_atI ho hi7) 2 (by decide) (by decide) dX9_addKnows_38 ?_
  refine lv_iconst (v := 1) hM.1 hM.2.1 dX9_addKnows_39 ic_1 ?_
  refine lv_iload_n hM.1 hM.2.1 dX9_addKnows_40 rfl (lv_at hl 1 rfl) ?_
  refine lv_ishl hM.1 hM.2.1 dX9_addKnows_41 ?_
  refine lv_ior hM.1 hM.2.1 dX9_addKnows_42 ?_
  refine x_iastK hM hw (okX9.manRows_atI ho hi7) 2 (by decide) (by decide) hf dX9_addKnows_43 (fun h8 H locs hf hw => ?_)
  refine lv_aload_n hM.1 hM.2.1 dX9_addKnows_44 rfl (lv_at hl 0 rfl) ?_
  refine lv_dup hM.1 hM.2.1 dX9_addKnows_45 rfl ?_
  refine gf_X9_knows hM hw (okX9.o ho) fl_X9_24 dX9_addKnows_46 ?_
  refine lv_iconst (v := 1) hM.1 hM.2.1 dX9_addKnows_49 ic_1 ?_
  refine lv_iadd hM.1 hM.2.1 dX9_addKnows_50 ?_
  refine pf_X9_knows hM hw (okX9.o ho) fl_X9_24 hf dX9_addKnows_51 (fun h9 H locs hf hw => ?_)
  exact hR _ _ _ _ _ (Option.some.inj hf) rfl hw dX9_addKnows_54
theorem hd_X9_addKnows : yX9_addKnows.cls = RX9 ∧ yX9_addKnows.cls ≠ "java/lang/invoke/MethodHandle" ∧ yX9_addKnows.cls ≠ "java/lang/invoke/VarHandle" ∧ (parseMethodDescriptor yX9_addKnows.desc).map (fun d => d.parameters.length) = some 2 := ⟨rfl, by decide, by decide, by decide +kernel⟩
theorem dX9_addTest_0 : decode cX9_addTest 0 = .ok (.aload_n 0, 1) := by decide +kernel
theorem dX9_addTest_1 : decode cX9_addTest 1 = .ok (.getfield 21, 3) := by decide +kernel
theorem dX9_addTest_4 : decode cX9_addTest 4 = .ok (.bipush 6, 2) := by decide +kernel
theorem dX9_addTest_6 : decode cX9_addTest 6 = .ok (.if_icmp .ge 23, 3) := by decide +kernel
theorem dX9_addTest_9 : decode cX9_addTest 9 = .ok (.aload_n 0, 1) := by decide +kernel
theorem dX9_addTest_10 : decode cX9_addTest 10 = .ok (.getfield 57, 3) := by decide +kernel
theorem dX9_addTest_13 : decode cX9_addTest 13 = .ok (.aload_n 0, 1) := by decide +kernel
theorem dX9_addTest_14 : decode cX9_addTest 14 = .ok (.getfield 21, 3) := by decide +kernel
theorem dX9_addTest_17 : decode cX9_addTest 17 = .ok (.iload_n 1, 1) := by decide +kernel
theorem dX9_addTest_18 : decode cX9_addTest 18 = .ok (.iastore, 1) := by decide +kernel
theorem dX9_addTest_19 : decode cX9_addTest 19 = .ok (.aload_n 0, 1) := by decide +kernel
theorem dX9_addTest_20 : decode cX9_addTest 20 = .ok (.dup, 1) := by decide +kernel
theorem dX9_addTest_21 : decode cX9_addTest 21 = .ok (.getfield 21, 3) := by decide +kernel
theorem dX9_addTest_24 : decode cX9_addTest 24 = .ok (.iconst 1, 1) := by decide +kernel
theorem dX9_addTest_25 : decode cX9_addTest 25 = .ok (.iadd, 1) := by decide +kernel
theorem dX9_addTest_26 : decode cX9_addTest 26 = .ok (.putfield 21, 3) := by decide +kernel
theorem dX9_addTest_29 : decode cX9_addTest 29 = .ok (.return_, 1) := by decide +kernel
def c_X9_addTest (p : Nat) (a1 : Int32) (h : PH) : Option (PH) :=
  if 6 ≤ (h.1 p 3) then
    some h
  else
    gd (ixOK (h.1 p 3) 6) <| nm (setI h (p + 31) (h.1 p 3).toNatClampNeg a1) fun h1 =>
    nm (setI h1 p 3 ((h1.1 p 3) + 1)) fun h2 =>
    some h2
set_option maxHeartbeats 4000000 in
set_option maxRecDepth 100000 in
theorem ct_X9_addTest (l : Launch) {lay : List KK} {p : Nat} (ho : okX9 lay p) (a1 : Int32) : CtV l yX9_addTest cX9_addTest 2 (none) 0 0 lay (fun h => c_X9_addTest p a1 h) (fun ad => [.ref (ad p), .int a1]) := by
  refine CtV.mk' RX9 (by decide) rfl (fun _ => Nat.le_of_ble_eq_true rfl) ?_
  intro p0 e s m args below meth c D G A H0 ad X h r0 H ls Q hM hw hl hf hR
  have hl : lv_has ls 2 [(0, .ref (ad p)), (1, .int a1)] := hl
  unfold c_X9_addTest at hf
  refine lv_aload_n hM.1 hM.2.1 dX9_addTest_0 rfl (lv_at hl 0 rfl) ?_
  refine gf_X9_tests hM hw (okX9.o ho) fl_X9_21 dX9_addTest_1 ?_
  refine lv_bipush (v := 6) hM.1 hM.2.1 dX9_addTest_4 (by decide) ?_
  refine x_ic_ge (tgt := 29) hM hf dX9_addTest_6 (by decide) (fun hf => ?_) (fun hf => ?_)
  · exact hR _ _ _ _ _ (Option.some.inj hf) rfl hw dX9_addTest_29
  refine lv_aload_n hM.1 hM.2.1 dX9_addTest_9 rfl (lv_at hl 0 rfl) ?_
  refine gf_X9_rings hM hw (okX9.o ho) fl_X9_57 dX9_addTest_10 ?_
  refine lv_aload_n hM.1 hM.2.1 dX9_addTest_13 rfl (lv_at hl 0 rfl) ?_
  refine gf_X9_tests hM hw (okX9.o ho) fl_X9_21 dX9_addTest_14 ?_
  refine lv_iload_n hM.1 hM.2.1 dX9_addTest_17 rfl (lv_at hl 1 rfl) ?_
  refine x_iast hM hw (okX9.rings ho) hf dX9_addTest_18 (fun h1 H locs hf hw => ?_)
  refine lv_aload_n hM.1 hM.2.1 dX9_addTest_19 rfl (lv_at hl 0 rfl) ?_
  refine lv_dup hM.1 hM.2.1 dX9_addTest_20 rfl ?_
  refine gf_X9_tests hM hw (okX9.o ho) fl_X9_21 dX9_addTest_21 ?_
  refine lv_iconst (v := 1) hM.1 hM.2.1 dX9_addTest_24 ic_1 ?_
  refine lv_iadd hM.1 hM.2.1 dX9_addTest_25 ?_
  refine pf_X9_tests hM hw (okX9.o ho) fl_X9_21 hf dX9_addTest_26 (fun h2 H locs hf hw => ?_)
  exact hR _ _ _ _ _ (Option.some.inj hf) rfl hw dX9_addTest_29
theorem hd_X9_addTest : yX9_addTest.cls = RX9 ∧ yX9_addTest.cls ≠ "java/lang/invoke/MethodHandle" ∧ yX9_addTest.cls ≠ "java/lang/invoke/VarHandle" ∧ (parseMethodDescriptor yX9_addTest.desc).map (fun d => d.parameters.length) = some 1 := ⟨rfl, by decide, by decide, by decide +kernel⟩
theorem dX9_knowEachOther_0 : decode cX9_knowEachOther 0 = .ok (.aload_n 0, 1) := by decide +kernel
theorem dX9_knowEachOther_1 : decode cX9_knowEachOther 1 = .ok (.iload_n 1, 1) := by decide +kernel
theorem dX9_knowEachOther_2 : decode cX9_knowEachOther 2 = .ok (.invokevirtual 81, 3) := by decide +kernel
theorem dX9_knowEachOther_5 : decode cX9_knowEachOther 5 = .ok (.ifCond .eq 30, 3) := by decide +kernel
theorem dX9_knowEachOther_8 : decode cX9_knowEachOther 8 = .ok (.aload_n 0, 1) := by decide +kernel
theorem dX9_knowEachOther_9 : decode cX9_knowEachOther 9 = .ok (.iload_n 2, 1) := by decide +kernel
theorem dX9_knowEachOther_10 : decode cX9_knowEachOther 10 = .ok (.invokevirtual 81, 3) := by decide +kernel
theorem dX9_knowEachOther_13 : decode cX9_knowEachOther 13 = .ok (.ifCond .eq 22, 3) := by decide +kernel
theorem dX9_knowEachOther_16 : decode cX9_knowEachOther 16 = .ok (.aload_n 0, 1) := by decide +kernel
theorem dX9_knowEachOther_17 : decode cX9_knowEachOther 17 = .ok (.getfield 48, 3) := by decide +kernel
theorem dX9_knowEachOther_20 : decode cX9_knowEachOther 20 = .ok (.iload_n 1, 1) := by decide +kernel
theorem dX9_knowEachOther_21 : decode cX9_knowEachOther 21 = .ok (.aaload, 1) := by decide +kernel
theorem dX9_knowEachOther_22 : decode cX9_knowEachOther 22 = .ok (.iconst 2, 1) := by decide +kernel
theorem dX9_knowEachOther_23 : decode cX9_knowEachOther 23 = .ok (.iaload, 1) := by decide +kernel
theorem dX9_knowEachOther_24 : decode cX9_knowEachOther 24 = .ok (.iload_n 2, 1) := by decide +kernel
theorem dX9_knowEachOther_25 : decode cX9_knowEachOther 25 = .ok (.ishr, 1) := by decide +kernel
theorem dX9_knowEachOther_26 : decode cX9_knowEachOther 26 = .ok (.iconst 1, 1) := by decide +kernel
theorem dX9_knowEachOther_27 : decode cX9_knowEachOther 27 = .ok (.iand, 1) := by decide +kernel
theorem dX9_knowEachOther_28 : decode cX9_knowEachOther 28 = .ok (.ifCond .eq 7, 3) := by decide +kernel
theorem dX9_knowEachOther_31 : decode cX9_knowEachOther 31 = .ok (.iconst 1, 1) := by decide +kernel
theorem dX9_knowEachOther_32 : decode cX9_knowEachOther 32 = .ok (.goto 4, 3) := by decide +kernel
theorem dX9_knowEachOther_35 : decode cX9_knowEachOther 35 = .ok (.iconst 0, 1) := by decide +kernel
theorem dX9_knowEachOther_36 : decode cX9_knowEachOther 36 = .ok (.ireturn, 1) := by decide +kernel
def c_X9_knowEachOther (p : Nat) (a1 : Int32) (a2 : Int32) (h : PH) : Option (Int32) :=
  (c_X9_isMan p a1 h).bind fun r1 =>
  if r1 = 0 then
    some 0
  else
    (c_X9_isMan p a2 h).bind fun r2 =>
    if r2 = 0 then
      some 0
    else
      gd (ixOK a1 5) <|
      if (((h.1 (p + 7 + 1 + a1.toNatClampNeg) 2) >>> (a2 &&& 31)) &&& 1) = 0 then
        some 0
      else
        some 1
set_option maxHeartbeats 4000000 in
set_option maxRecDepth 100000 in
theorem ct_X9_knowEachOther (l : Launch) {lay : List KK} {p : Nat} (ho : okX9 lay p) (a1 : Int32) (a2 : Int32) : CtI l yX9_knowEachOther cX9_knowEachOther 3 (some .boolean) 1 21 lay (rd (fun h => c_X9_knowEachOther p a1 a2 h)) (fun ad => [.ref (ad p), .int a1, .int a2]) := by
  refine CtI.mk' RX9 (by decide) rfl (fun _ => Nat.le_of_ble_eq_true rfl) ?_
  intro p0 e s m args below meth c D G A H0 ad X h r0 H ls Q hM hw hl hf hR
  have hl : lv_has ls 3 [(0, .ref (ad p)), (1, .int a1), (2, .int a2)] := hl
  obtain ⟨v0, hv0, hr0⟩ : ∃ v0, c_X9_knowEachOther p a1 a2 h = some v0 ∧ r0 = (v0, h) := rd_some hf
  subst hr0
  have hf := hv0
  unfold c_X9_knowEachOther at hf
  refine lv_aload_n hM.1 hM.2.1 dX9_knowEachOther_0 rfl (lv_at hl 0 rfl) ?_
  refine lv_iload_n hM.1 hM.2.1 dX9_knowEachOther_1 rfl (lv_at hl 1 rfl) ?_
  refine x_callVIr (rest := []) hM hw (ct_X9_isMan l ho a1) [.int a1] (okX9.o ho) rfl rfl rfl (gi_V ml_X9_81 im_X9_isMan sl_X9_isMan in_X9 kc_X9_isMan) hd_X9_isMan rfl ⟨Nat.le_of_ble_eq_true rfl, Nat.le_of_ble_eq_true rfl⟩ rfl (Nat.le_of_ble_eq_true rfl) hl.1 hcs0 hf dX9_knowEachOther_2 (fun r1 H locs hf hw => ?_)
  refine x_if_eq (tgt := 35) hM hf dX9_knowEachOther_5 (by decide) (fun hf => ?_) (fun hf => ?_)
  · refine lv_iconst (v := 0) hM.1 hM.2.1 dX9_knowEachOther_35 ic_0 ?_
    exact hR _ _ _ _ _ _ _ (congrArg (fun z => (z, _)) (Option.some.inj hf)) rfl (nar_z (by decide)) hw dX9_knowEachOther_36
  refine lv_aload_n hM.1 hM.2.1 dX9_knowEachOther_8 rfl (lv_at hl 0 rfl) ?_
  refine lv_iload_n hM.1 hM.2.1 dX9_knowEachOther_9 rfl (lv_at hl 2 rfl) ?_
  refine x_callVIr (rest := []) hM hw (ct_X9_isMan l ho a2) [.int a2] (okX9.o ho) rfl rfl rfl (gi_V ml_X9_81 im_X9_isMan sl_X9_isMan in_X9 kc_X9_isMan) hd_X9_isMan rfl ⟨Nat.le_of_ble_eq_true rfl, Nat.le_of_ble_eq_true rfl⟩ rfl (Nat.le_of_ble_eq_true rfl) hl.1 hcs0 hf dX9_knowEachOther_10 (fun r2 H locs hf hw => ?_)
  refine x_if_eq (tgt := 35) hM hf dX9_knowEachOther_13 (by decide) (fun hf => ?_) (fun hf => ?_)
  · refine lv_iconst (v := 0) hM.1 hM.2.1 dX9_knowEachOther_35 ic_0 ?_
    exact hR _ _ _ _ _ _ _ (congrArg (fun z => (z, _)) (Option.some.inj hf)) rfl (nar_z (by decide)) hw dX9_knowEachOther_36
  refine lv_aload_n hM.1 hM.2.1 dX9_knowEachOther_16 rfl (lv_at hl 0 rfl) ?_
  refine gf_X9_manRows hM hw (okX9.o ho) fl_X9_48 dX9_knowEachOther_17 ?_
  refine lv_iload_n hM.1 hM.2.1 dX9_knowEachOther_20 rfl (lv_at hl 1 rfl) ?_
  refine x_aaldI hM hw (okX9.manRows ho) hf dX9_knowEachOther_21 (fun hi3 hf => ?_)
  refine lv_iconst (v := 2) hM.1 hM.2.1 dX9_knowEachOther_22 ic_2 ?_
  refine x_ialdK hM hw (okX9.manRows_atI ho hi3) 2 (by decide) (by decide) dX9_knowEachOther_23 ?_
  refine lv_iload_n hM.1 hM.2.1 dX9_knowEachOther_24 rfl (lv_at hl 2 rfl) ?_
  refine lv_ishr hM.1 hM.2.1 dX9_knowEachOther_25 ?_
  refine lv_iconst (v := 1) hM.1 hM.2.1 dX9_knowEachOther_26 ic_1 ?_
  refine lv_iand hM.1 hM.2.1 dX9_knowEachOther_27 ?_
  refine x_if_eq (tgt := 35) hM hf dX9_knowEachOther_28 (by decide) (fun hf => ?_) (fun hf => ?_)
  · refine lv_iconst (v := 0) hM.1 hM.2.1 dX9_knowEachOther_35 ic_0 ?_
    exact hR _ _ _ _ _ _ _ (congrArg (fun z => (z, _)) (Option.some.inj hf)) rfl (nar_z (by decide)) hw dX9_knowEachOther_36
  refine lv_iconst (v := 1) hM.1 hM.2.1 dX9_knowEachOther_31 ic_1 ?_
  refine lv_goto (tgt := 36) hM.1 hM.2.1 dX9_knowEachOther_32 (by decide) ?_
  exact hR _ _ _ _ _ _ _ (congrArg (fun z => (z, _)) (Option.some.inj hf)) rfl (nar_z (by decide)) hw dX9_knowEachOther_36
theorem hd_X9_knowEachOther : yX9_knowEachOther.cls = RX9 ∧ yX9_knowEachOther.cls ≠ "java/lang/invoke/MethodHandle" ∧ yX9_knowEachOther.cls ≠ "java/lang/invoke/VarHandle" ∧ (parseMethodDescriptor yX9_knowEachOther.desc).map (fun d => d.parameters.length) = some 2 := ⟨rfl, by decide, by decide, by decide +kernel⟩
theorem dX9_friendsOf_0 : decode cX9_friendsOf 0 = .ok (.iconst 0, 1) := by decide +kernel
theorem dX9_friendsOf_1 : decode cX9_friendsOf 1 = .ok (.istore_n 2, 1) := by decide +kernel
theorem dX9_friendsOf_2 : decode cX9_friendsOf 2 = .ok (.iconst 0, 1) := by decide +kernel
theorem dX9_friendsOf_3 : decode cX9_friendsOf 3 = .ok (.istore_n 3, 1) := by decide +kernel
theorem dX9_friendsOf_4 : decode cX9_friendsOf 4 = .ok (.iload_n 3, 1) := by decide +kernel
theorem dX9_friendsOf_5 : decode cX9_friendsOf 5 = .ok (.aload_n 0, 1) := by decide +kernel
theorem dX9_friendsOf_6 : decode cX9_friendsOf 6 = .ok (.getfield 9, 3) := by decide +kernel
theorem dX9_friendsOf_9 : decode cX9_friendsOf 9 = .ok (.if_icmp .ge 32, 3) := by decide +kernel
theorem dX9_friendsOf_12 : decode cX9_friendsOf 12 = .ok (.iload_n 2, 1) := by decide +kernel
theorem dX9_friendsOf_13 : decode cX9_friendsOf 13 = .ok (.iload_n 1, 1) := by decide +kernel
theorem dX9_friendsOf_14 : decode cX9_friendsOf 14 = .ok (.iload_n 3, 1) := by decide +kernel
theorem dX9_friendsOf_15 : decode cX9_friendsOf 15 = .ok (.ishr, 1) := by decide +kernel
theorem dX9_friendsOf_16 : decode cX9_friendsOf 16 = .ok (.iconst 1, 1) := by decide +kernel
theorem dX9_friendsOf_17 : decode cX9_friendsOf 17 = .ok (.iand, 1) := by decide +kernel
theorem dX9_friendsOf_18 : decode cX9_friendsOf 18 = .ok (.ifCond .eq 14, 3) := by decide +kernel
theorem dX9_friendsOf_21 : decode cX9_friendsOf 21 = .ok (.aload_n 0, 1) := by decide +kernel
theorem dX9_friendsOf_22 : decode cX9_friendsOf 22 = .ok (.getfield 48, 3) := by decide +kernel
theorem dX9_friendsOf_25 : decode cX9_friendsOf 25 = .ok (.iload_n 3, 1) := by decide +kernel
theorem dX9_friendsOf_26 : decode cX9_friendsOf 26 = .ok (.aaload, 1) := by decide +kernel
theorem dX9_friendsOf_27 : decode cX9_friendsOf 27 = .ok (.iconst 2, 1) := by decide +kernel
theorem dX9_friendsOf_28 : decode cX9_friendsOf 28 = .ok (.iaload, 1) := by decide +kernel
theorem dX9_friendsOf_29 : decode cX9_friendsOf 29 = .ok (.goto 4, 3) := by decide +kernel
theorem dX9_friendsOf_32 : decode cX9_friendsOf 32 = .ok (.iconst 0, 1) := by decide +kernel
theorem dX9_friendsOf_33 : decode cX9_friendsOf 33 = .ok (.ior, 1) := by decide +kernel
theorem dX9_friendsOf_34 : decode cX9_friendsOf 34 = .ok (.istore_n 2, 1) := by decide +kernel
theorem dX9_friendsOf_35 : decode cX9_friendsOf 35 = .ok (.iinc 3 1, 3) := by decide +kernel
theorem dX9_friendsOf_38 : decode cX9_friendsOf 38 = .ok (.goto (-34), 3) := by decide +kernel
theorem dX9_friendsOf_41 : decode cX9_friendsOf 41 = .ok (.iload_n 2, 1) := by decide +kernel
theorem dX9_friendsOf_42 : decode cX9_friendsOf 42 = .ok (.ireturn, 1) := by decide +kernel
def c_X9_friendsOf_L4b {ρ : Type}  (p : Nat) (z1 : Int32) (h : PH) (K1 : Int32 → Option ρ) (REC : Int32 → Int32 → Option ρ) (x2 : Int32) (x3 : Int32) : Option ρ :=
  if (h.1 p 0) ≤ x3 then
    K1 x2
  else
    if ((z1 >>> (x3 &&& 31)) &&& 1) = 0 then
      nm (x2 ||| 0) fun v3 =>
      nm (x3 + 1) fun v4 =>
      REC v3 v4
    else
      gd (ixOK x3 5) <|
      nm (x2 ||| (h.1 (p + 7 + 1 + x3.toNatClampNeg) 2)) fun v6 =>
      nm (x3 + 1) fun v7 =>
      REC v6 v7
set_option maxHeartbeats 4000000 in
set_option maxRecDepth 100000 in
theorem w_X9_friendsOf_L4b {p0 : Program} {l : Launch} {e : Env} {s : State} {m : MethodId} {args : Array Value} {below : List Frame} {meth : Method} {c : Code} {Q : State → Prop} {D : va_G} {G : GG} {A : Nat → Prop} {H0 : Heap} {ad : Nat → Nat} {lay : List KK} {X : va_W} {ρ : Type} {p : Nat} {r0 : ρ} {z1 : Int32} {x2 : Int32} {x3 : Int32} {h : PH} {H : Heap} {locs : List Loc} {ls : Array Slot} {K1 : Int32 → Option ρ} {REC : Int32 → Int32 → Option ρ} (hM : CallFix p0 m c cX9_friendsOf 4 s args lw_g RX9) (ho : okX9 lay p) (hk1 : ∀ (x2 : Int32), ∀ (H : Heap) (locs : List Loc) (ls : Array Slot), K1 x2 = some r0 → Wd D G A H0 ad lay X h s H locs → lv_has ls 4 [(2, .int x2)] → W p0 l e (rmN 0 0) s m args below meth c H locs 0 0 Q (F0 m 41 ls [])) (hrec : ∀ (x2 : Int32) (x3 : Int32), ∀ (H : Heap) (locs : List Loc) (ls : Array Slot), REC x2 x3 = some r0 → Wd D G A H0 ad lay X h s H locs → lv_has ls 4 [(0, .ref (ad p)), (1, .int z1), (2, .int x2), (3, .int x3)] → W p0 l e (rmN 0 0) s m args below meth c H locs 0 0 Q (F0 m 4 ls [])) (hw : Wd D G A H0 ad lay X h s H locs) (hl : lv_has ls 4 [(0, .ref (ad p)), (1, .int z1), (2, .int x2), (3, .int x3)]) (hf : c_X9_friendsOf_L4b p z1 h K1 REC x2 x3 = some r0) : W p0 l e (rmN 0 0) s m args below meth c H locs 0 0 Q (F0 m 4 ls []) := by
  unfold c_X9_friendsOf_L4b at hf
  refine lv_iload_n hM.1 hM.2.1 dX9_friendsOf_4 rfl (lv_at hl 3 rfl) ?_
  refine lv_aload_n hM.1 hM.2.1 dX9_friendsOf_5 rfl (lv_at hl 0 rfl) ?_
  refine gf_X9_men hM hw (okX9.o ho) fl_X9_9 dX9_friendsOf_6 ?_
  refine x_ic_ge (tgt := 41) hM hf dX9_friendsOf_9 (by decide) (fun hf => ?_) (fun hf => ?_)
  · exact hk1 _ _ _ _ hf hw (lv_sub hl [2] rfl)
  refine lv_iload_n hM.1 hM.2.1 dX9_friendsOf_12 rfl (lv_at hl 2 rfl) ?_
  refine lv_iload_n hM.1 hM.2.1 dX9_friendsOf_13 rfl (lv_at hl 1 rfl) ?_
  refine lv_iload_n hM.1 hM.2.1 dX9_friendsOf_14 rfl (lv_at hl 3 rfl) ?_
  refine lv_ishr hM.1 hM.2.1 dX9_friendsOf_15 ?_
  refine lv_iconst (v := 1) hM.1 hM.2.1 dX9_friendsOf_16 ic_1 ?_
  refine lv_iand hM.1 hM.2.1 dX9_friendsOf_17 ?_
  refine x_if_eq (tgt := 32) hM hf dX9_friendsOf_18 (by decide) (fun hf => ?_) (fun hf => ?_)
  · refine lv_iconst (v := 0) hM.1 hM.2.1 dX9_friendsOf_32 ic_0 ?_
    refine lv_ior hM.1 hM.2.1 dX9_friendsOf_33 ?_
    refine x_istore_n hM hf dX9_friendsOf_34 rfl hl (by decide) (fun v3 => [(2, .int v3), (0, .ref (ad p)), (1, .int z1), (3, .int x3)]) (fun _ => rfl) (fun v3 ls hf hl => ?_)
    refine x_iinc (k := 3) (d := 1) hM hf dX9_friendsOf_35 hl rfl (by decide) (by decide) (fun v4 => [(3, .int v4), (2, .int v3), (0, .ref (ad p)), (1, .int z1)]) (fun _ => rfl) (fun v4 ls hf hl => ?_)
    refine lv_goto (tgt := 4) hM.1 hM.2.1 dX9_friendsOf_38 (by decide) ?_
    exact hrec _ _ _ _ _ hf hw (lv_sub hl [2, 3, 1, 0] rfl)
  refine lv_aload_n hM.1 hM.2.1 dX9_friendsOf_21 rfl (lv_at hl 0 rfl) ?_
  refine gf_X9_manRows hM hw (okX9.o ho) fl_X9_48 dX9_friendsOf_22 ?_
  refine lv_iload_n hM.1 hM.2.1 dX9_friendsOf_25 rfl (lv_at hl 3 rfl) ?_
  refine x_aaldI hM hw (okX9.manRows ho) hf dX9_friendsOf_26 (fun hi5 hf => ?_)
  refine lv_iconst (v := 2) hM.1 hM.2.1 dX9_friendsOf_27 ic_2 ?_
  refine x_ialdK hM hw (okX9.manRows_atI ho hi5) 2 (by decide) (by decide) dX9_friendsOf_28 ?_
  refine lv_goto (tgt := 33) hM.1 hM.2.1 dX9_friendsOf_29 (by decide) ?_
  refine lv_ior hM.1 hM.2.1 dX9_friendsOf_33 ?_
  refine x_istore_n hM hf dX9_friendsOf_34 rfl hl (by decide) (fun v6 => [(2, .int v6), (0, .ref (ad p)), (1, .int z1), (3, .int x3)]) (fun _ => rfl) (fun v6 ls hf hl => ?_)
  refine x_iinc (k := 3) (d := 1) hM hf dX9_friendsOf_35 hl rfl (by decide) (by decide) (fun v7 => [(3, .int v7), (2, .int v6), (0, .ref (ad p)), (1, .int z1)]) (fun _ => rfl) (fun v7 ls hf hl => ?_)
  refine lv_goto (tgt := 4) hM.1 hM.2.1 dX9_friendsOf_38 (by decide) ?_
  exact hrec _ _ _ _ _ hf hw (lv_sub hl [2, 3, 1, 0] rfl)
set_option maxHeartbeats 4000000 in
set_option maxRecDepth 100000 in
theorem w_X9_friendsOf_L4 {p0 : Program} {l : Launch} {e : Env} {s : State} {m : MethodId} {args : Array Value} {below : List Frame} {meth : Method} {c : Code} {Q : State → Prop} {D : va_G} {G : GG} {A : Nat → Prop} {H0 : Heap} {ad : Nat → Nat} {lay : List KK} {X : va_W} {ρ : Type} {p : Nat} {r0 : ρ} {z1 : Int32} {h : PH} {K1 : Int32 → Option ρ} (hM : CallFix p0 m c cX9_friendsOf 4 s args lw_g RX9) (ho : okX9 lay p) (hk1 : ∀ (x2 : Int32), ∀ (H : Heap) (locs : List Loc) (ls : Array Slot), K1 x2 = some r0 → Wd D G A H0 ad lay X h s H locs → lv_has ls 4 [(2, .int x2)] → W p0 l e (rmN 0 0) s m args below meth c H locs 0 0 Q (F0 m 41 ls [])) (n : Nat) (x2 : Int32) (x3 : Int32) (hf : lq2 (c_X9_friendsOf_L4b p z1 h K1) n x2 x3 = some r0) : ∀ (H : Heap) (locs : List Loc) (ls : Array Slot), Wd D G A H0 ad lay X h s H locs → lv_has ls 4 [(0, .ref (ad p)), (1, .int z1), (2, .int x2), (3, .int x3)] → W p0 l e (rmN 0 0) s m args below meth c H locs 0 0 Q (F0 m 4 ls []) := by
  exact lq2_i (fun (x2 : Int32) (x3 : Int32) => ∀ (H : Heap) (locs : List Loc) (ls : Array Slot), Wd D G A H0 ad lay X h s H locs → lv_has ls 4 [(0, .ref (ad p)), (1, .int z1), (2, .int x2), (3, .int x3)] → W p0 l e (rmN 0 0) s m args below meth c H locs 0 0 Q (F0 m 4 ls [])) (fun REC x2 x3 ih hf H locs ls hw hl => w_X9_friendsOf_L4b hM ho hk1 (fun x2 x3 H locs ls hf hw hl => ih x2 x3 hf H locs ls hw hl) hw hl hf) n x2 x3 hf
def c_X9_friendsOf (p : Nat) (a1 : Int32) (h : PH) : Option (Int32) :=
  nm (0 : Int32) fun v1 =>
  nm (0 : Int32) fun v2 =>
  lq2 (c_X9_friendsOf_L4b p a1 h
    (fun w8 =>
      some w8)) fu v1 v2
set_option maxHeartbeats 4000000 in
set_option maxRecDepth 100000 in
theorem ct_X9_friendsOf (l : Launch) {lay : List KK} {p : Nat} (ho : okX9 lay p) (a1 : Int32) : CtI l yX9_friendsOf cX9_friendsOf 4 (some .int) 0 0 lay (rd (fun h => c_X9_friendsOf p a1 h)) (fun ad => [.ref (ad p), .int a1]) := by
  refine CtI.mk' RX9 (by decide) rfl (fun _ => Nat.le_of_ble_eq_true rfl) ?_
  intro p0 e s m args below meth c D G A H0 ad X h r0 H ls Q hM hw hl hf hR
  have hl : lv_has ls 4 [(0, .ref (ad p)), (1, .int a1)] := hl
  obtain ⟨v0, hv0, hr0⟩ : ∃ v0, c_X9_friendsOf p a1 h = some v0 ∧ r0 = (v0, h) := rd_some hf
  subst hr0
  have hf := hv0
  unfold c_X9_friendsOf at hf
  refine lv_iconst (v := 0) hM.1 hM.2.1 dX9_friendsOf_0 ic_0 ?_
  refine x_istore_n hM hf dX9_friendsOf_1 rfl hl (by decide) (fun v1 => [(2, .int v1), (0, .ref (ad p)), (1, .int a1)]) (fun _ => rfl) (fun v1 ls hf hl => ?_)
  refine lv_iconst (v := 0) hM.1 hM.2.1 dX9_friendsOf_2 ic_0 ?_
  refine x_istore_n hM hf dX9_friendsOf_3 rfl hl (by decide) (fun v2 => [(3, .int v2), (2, .int v1), (0, .ref (ad p)), (1, .int a1)]) (fun _ => rfl) (fun v2 ls hf hl => ?_)
  refine w_X9_friendsOf_L4 hM ho (fun w8 H locs ls hf hw hl => ?_) fu _ _ hf _ _ _ hw (lv_sub hl [2, 3, 1, 0] rfl)
  refine lv_iload_n hM.1 hM.2.1 dX9_friendsOf_41 rfl (lv_at hl 0 rfl) ?_
  exact hR _ _ _ _ _ _ _ (congrArg (fun z => (z, _)) (Option.some.inj hf)) rfl rfl hw dX9_friendsOf_42
theorem hd_X9_friendsOf : yX9_friendsOf.cls = RX9 ∧ yX9_friendsOf.cls ≠ "java/lang/invoke/MethodHandle" ∧ yX9_friendsOf.cls ≠ "java/lang/invoke/VarHandle" ∧ (parseMethodDescriptor yX9_friendsOf.desc).map (fun d => d.parameters.length) = some 1 := ⟨rfl, by decide, by decide, by decide +kernel⟩
theorem dX9_rumourFrom_0 : decode cX9_rumourFrom 0 = .ok (.iconst 1, 1) := by decide +kernel
theorem dX9_rumourFrom_1 : decode cX9_rumourFrom 1 = .ok (.iload_n 1, 1) := by decide +kernel
theorem dX9_rumourFrom_2 : decode cX9_rumourFrom 2 = .ok (.ishl, 1) := by decide +kernel
theorem dX9_rumourFrom_3 : decode cX9_rumourFrom 3 = .ok (.istore_n 3, 1) := by decide +kernel
theorem dX9_rumourFrom_4 : decode cX9_rumourFrom 4 = .ok (.iconst 0, 1) := by decide +kernel
theorem dX9_rumourFrom_5 : decode cX9_rumourFrom 5 = .ok (.istore 4, 2) := by decide +kernel
theorem dX9_rumourFrom_7 : decode cX9_rumourFrom 7 = .ok (.iload_n 2, 1) := by decide +kernel
theorem dX9_rumourFrom_8 : decode cX9_rumourFrom 8 = .ok (.iconst (-1), 1) := by decide +kernel
theorem dX9_rumourFrom_9 : decode cX9_rumourFrom 9 = .ok (.if_icmp .ne 7, 3) := by decide +kernel
theorem dX9_rumourFrom_12 : decode cX9_rumourFrom 12 = .ok (.iconst 5, 1) := by decide +kernel
theorem dX9_rumourFrom_13 : decode cX9_rumourFrom 13 = .ok (.goto 4, 3) := by decide +kernel
theorem dX9_rumourFrom_16 : decode cX9_rumourFrom 16 = .ok (.iload_n 2, 1) := by decide +kernel
theorem dX9_rumourFrom_17 : decode cX9_rumourFrom 17 = .ok (.istore 5, 2) := by decide +kernel
theorem dX9_rumourFrom_19 : decode cX9_rumourFrom 19 = .ok (.iconst 0, 1) := by decide +kernel
theorem dX9_rumourFrom_20 : decode cX9_rumourFrom 20 = .ok (.istore 6, 2) := by decide +kernel
theorem dX9_rumourFrom_22 : decode cX9_rumourFrom 22 = .ok (.iload 6, 2) := by decide +kernel
theorem dX9_rumourFrom_24 : decode cX9_rumourFrom 24 = .ok (.iload 5, 2) := by decide +kernel
theorem dX9_rumourFrom_26 : decode cX9_rumourFrom 26 = .ok (.if_icmp .ge 37, 3) := by decide +kernel
theorem dX9_rumourFrom_29 : decode cX9_rumourFrom 29 = .ok (.iload_n 3, 1) := by decide +kernel
theorem dX9_rumourFrom_30 : decode cX9_rumourFrom 30 = .ok (.aload_n 0, 1) := by decide +kernel
theorem dX9_rumourFrom_31 : decode cX9_rumourFrom 31 = .ok (.iload_n 3, 1) := by decide +kernel
theorem dX9_rumourFrom_32 : decode cX9_rumourFrom 32 = .ok (.invokevirtual 85, 3) := by decide +kernel
theorem dX9_rumourFrom_35 : decode cX9_rumourFrom 35 = .ok (.ior, 1) := by decide +kernel
theorem dX9_rumourFrom_36 : decode cX9_rumourFrom 36 = .ok (.istore 7, 2) := by decide +kernel
theorem dX9_rumourFrom_38 : decode cX9_rumourFrom 38 = .ok (.iload 4, 2) := by decide +kernel
theorem dX9_rumourFrom_40 : decode cX9_rumourFrom 40 = .ok (.iload 7, 2) := by decide +kernel
theorem dX9_rumourFrom_42 : decode cX9_rumourFrom 42 = .ok (.iload_n 3, 1) := by decide +kernel
theorem dX9_rumourFrom_43 : decode cX9_rumourFrom 43 = .ok (.if_icmp .eq 7, 3) := by decide +kernel
theorem dX9_rumourFrom_46 : decode cX9_rumourFrom 46 = .ok (.iconst 1, 1) := by decide +kernel
theorem dX9_rumourFrom_47 : decode cX9_rumourFrom 47 = .ok (.goto 4, 3) := by decide +kernel
theorem dX9_rumourFrom_50 : decode cX9_rumourFrom 50 = .ok (.iconst 0, 1) := by decide +kernel
theorem dX9_rumourFrom_51 : decode cX9_rumourFrom 51 = .ok (.iadd, 1) := by decide +kernel
theorem dX9_rumourFrom_52 : decode cX9_rumourFrom 52 = .ok (.istore 4, 2) := by decide +kernel
theorem dX9_rumourFrom_54 : decode cX9_rumourFrom 54 = .ok (.iload 7, 2) := by decide +kernel
theorem dX9_rumourFrom_56 : decode cX9_rumourFrom 56 = .ok (.istore_n 3, 1) := by decide +kernel
theorem dX9_rumourFrom_57 : decode cX9_rumourFrom 57 = .ok (.iinc 6 1, 3) := by decide +kernel
theorem dX9_rumourFrom_60 : decode cX9_rumourFrom 60 = .ok (.goto (-38), 3) := by decide +kernel
theorem dX9_rumourFrom_63 : decode cX9_rumourFrom 63 = .ok (.iload_n 2, 1) := by decide +kernel
theorem dX9_rumourFrom_64 : decode cX9_rumourFrom 64 = .ok (.iconst (-1), 1) := by decide +kernel
theorem dX9_rumourFrom_65 : decode cX9_rumourFrom 65 = .ok (.if_icmp .ne 8, 3) := by decide +kernel
theorem dX9_rumourFrom_68 : decode cX9_rumourFrom 68 = .ok (.iload 4, 2) := by decide +kernel
theorem dX9_rumourFrom_70 : decode cX9_rumourFrom 70 = .ok (.goto 4, 3) := by decide +kernel
theorem dX9_rumourFrom_73 : decode cX9_rumourFrom 73 = .ok (.iload_n 3, 1) := by decide +kernel
theorem dX9_rumourFrom_74 : decode cX9_rumourFrom 74 = .ok (.ireturn, 1) := by decide +kernel
def c_X9_rumourFrom_L22b {ρ : Type}  (p : Nat) (z2 : Int32) (z5 : Int32) (h : PH) (K1 : Int32 → Int32 → Option ρ) (REC : Int32 → Int32 → Int32 → Option ρ) (x3 : Int32) (x4 : Int32) (x6 : Int32) : Option ρ :=
  if z5 ≤ x6 then
    K1 x3 x4
  else
    (c_X9_friendsOf p x3 h).bind fun r5 =>
    nm (x3 ||| r5) fun v6 =>
    if v6 = x3 then
      nm (x4 + 0) fun v7 =>
      nm v6 fun v8 =>
      nm (x6 + 1) fun v9 =>
      REC v8 v7 v9
    else
      nm (x4 + 1) fun v10 =>
      nm v6 fun v11 =>
      nm (x6 + 1) fun v12 =>
      REC v11 v10 v12
set_option maxHeartbeats 4000000 in
set_option maxRecDepth 100000 in
theorem w_X9_rumourFrom_L22b {p0 : Program} {l : Launch} {e : Env} {s : State} {m : MethodId} {args : Array Value} {below : List Frame} {meth : Method} {c : Code} {Q : State → Prop} {D : va_G} {G : GG} {A : Nat → Prop} {H0 : Heap} {ad : Nat → Nat} {lay : List KK} {X : va_W} {ρ : Type} {p : Nat} {r0 : ρ} {z2 : Int32} {z5 : Int32} {x3 : Int32} {x4 : Int32} {x6 : Int32} {h : PH} {H : Heap} {locs : List Loc} {ls : Array Slot} {K1 : Int32 → Int32 → Option ρ} {REC : Int32 → Int32 → Int32 → Option ρ} (hM : CallFix p0 m c cX9_rumourFrom 8 s args lw_g RX9) (ho : okX9 lay p) (hk1 : ∀ (x3 : Int32) (x4 : Int32), ∀ (H : Heap) (locs : List Loc) (ls : Array Slot), K1 x3 x4 = some r0 → Wd D G A H0 ad lay X h s H locs → lv_has ls 8 [(2, .int z2), (3, .int x3), (4, .int x4)] → W p0 l e (rmN 1 23) s m args below meth c H locs 0 0 Q (F0 m 63 ls [])) (hrec : ∀ (x3 : Int32) (x4 : Int32) (x6 : Int32), ∀ (H : Heap) (locs : List Loc) (ls : Array Slot), REC x3 x4 x6 = some r0 → Wd D G A H0 ad lay X h s H locs → lv_has ls 8 [(0, .ref (ad p)), (2, .int z2), (3, .int x3), (4, .int x4), (5, .int z5), (6, .int x6)] → W p0 l e (rmN 1 23) s m args below meth c H locs 0 0 Q (F0 m 22 ls [])) (hw : Wd D G A H0 ad lay X h s H locs) (hl : lv_has ls 8 [(0, .ref (ad p)), (2, .int z2), (3, .int x3), (4, .int x4), (5, .int z5), (6, .int x6)]) (hf : c_X9_rumourFrom_L22b p z2 z5 h K1 REC x3 x4 x6 = some r0) : W p0 l e (rmN 1 23) s m args below meth c H locs 0 0 Q (F0 m 22 ls []) := by
  unfold c_X9_rumourFrom_L22b at hf
  refine lv_iload hM.1 hM.2.1 dX9_rumourFrom_22 (lv_at hl 5 rfl) ?_
  refine lv_iload hM.1 hM.2.1 dX9_rumourFrom_24 (lv_at hl 4 rfl) ?_
  refine x_ic_ge (tgt := 63) hM hf dX9_rumourFrom_26 (by decide) (fun hf => ?_) (fun hf => ?_)
  · exact hk1 _ _ _ _ _ hf hw (lv_sub hl [1, 2, 3] rfl)
  refine lv_iload_n hM.1 hM.2.1 dX9_rumourFrom_29 rfl (lv_at hl 2 rfl) ?_
  refine lv_aload_n hM.1 hM.2.1 dX9_rumourFrom_30 rfl (lv_at hl 0 rfl) ?_
  refine lv_iload_n hM.1 hM.2.1 dX9_rumourFrom_31 rfl (lv_at hl 2 rfl) ?_
  refine x_callVIr (rest := [.int x3]) hM hw (ct_X9_friendsOf l ho x3) [.int x3] (okX9.o ho) rfl rfl rfl (gi_V ml_X9_85 im_X9_friendsOf sl_X9_friendsOf in_X9 kc_X9_friendsOf) hd_X9_friendsOf rfl ⟨Nat.le_of_ble_eq_true rfl, Nat.le_of_ble_eq_true rfl⟩ rfl (Nat.le_of_ble_eq_true rfl) hl.1 hcs0 hf dX9_rumourFrom_32 (fun r5 H locs hf hw => ?_)
  refine lv_ior hM.1 hM.2.1 dX9_rumourFrom_35 ?_
  refine x_istore hM hf dX9_rumourFrom_36 hl (by decide) (fun v6 => [(7, .int v6), (0, .ref (ad p)), (2, .int z2), (3, .int x3), (4, .int x4), (5, .int z5), (6, .int x6)]) (fun _ => rfl) (fun v6 ls hf hl => ?_)
  refine lv_iload hM.1 hM.2.1 dX9_rumourFrom_38 (lv_at hl 4 rfl) ?_
  refine lv_iload hM.1 hM.2.1 dX9_rumourFrom_40 (lv_at hl 0 rfl) ?_
  refine lv_iload_n hM.1 hM.2.1 dX9_rumourFrom_42 rfl (lv_at hl 3 rfl) ?_
  refine x_ic_eq (tgt := 50) hM hf dX9_rumourFrom_43 (by decide) (fun hf => ?_) (fun hf => ?_)
  · refine lv_iconst (v := 0) hM.1 hM.2.1 dX9_rumourFrom_50 ic_0 ?_
    refine lv_iadd hM.1 hM.2.1 dX9_rumourFrom_51 ?_
    refine x_istore hM hf dX9_rumourFrom_52 hl (by decide) (fun v7 => [(4, .int v7), (7, .int v6), (0, .ref (ad p)), (2, .int z2), (3, .int x3), (5, .int z5), (6, .int x6)]) (fun _ => rfl) (fun v7 ls hf hl => ?_)
    refine lv_iload hM.1 hM.2.1 dX9_rumourFrom_54 (lv_at hl 1 rfl) ?_
    refine x_istore_n hM hf dX9_rumourFrom_56 rfl hl (by decide) (fun v8 => [(3, .int v8), (4, .int v7), (7, .int v6), (0, .ref (ad p)), (2, .int z2), (5, .int z5), (6, .int x6)]) (fun _ => rfl) (fun v8 ls hf hl => ?_)
    refine x_iinc (k := 6) (d := 1) hM hf dX9_rumourFrom_57 hl rfl (by decide) (by decide) (fun v9 => [(6, .int v9), (3, .int v8), (4, .int v7), (7, .int v6), (0, .ref (ad p)), (2, .int z2), (5, .int z5)]) (fun _ => rfl) (fun v9 ls hf hl => ?_)
    refine lv_goto (tgt := 22) hM.1 hM.2.1 dX9_rumourFrom_60 (by decide) ?_
    exact hrec _ _ _ _ _ _ hf hw (lv_sub hl [4, 5, 1, 2, 6, 0] rfl)
  refine lv_iconst (v := 1) hM.1 hM.2.1 dX9_rumourFrom_46 ic_1 ?_
  refine lv_goto (tgt := 51) hM.1 hM.2.1 dX9_rumourFrom_47 (by decide) ?_
  refine lv_iadd hM.1 hM.2.1 dX9_rumourFrom_51 ?_
  refine x_istore hM hf dX9_rumourFrom_52 hl (by decide) (fun v10 => [(4, .int v10), (7, .int v6), (0, .ref (ad p)), (2, .int z2), (3, .int x3), (5, .int z5), (6, .int x6)]) (fun _ => rfl) (fun v10 ls hf hl => ?_)
  refine lv_iload hM.1 hM.2.1 dX9_rumourFrom_54 (lv_at hl 1 rfl) ?_
  refine x_istore_n hM hf dX9_rumourFrom_56 rfl hl (by decide) (fun v11 => [(3, .int v11), (4, .int v10), (7, .int v6), (0, .ref (ad p)), (2, .int z2), (5, .int z5), (6, .int x6)]) (fun _ => rfl) (fun v11 ls hf hl => ?_)
  refine x_iinc (k := 6) (d := 1) hM hf dX9_rumourFrom_57 hl rfl (by decide) (by decide) (fun v12 => [(6, .int v12), (3, .int v11), (4, .int v10), (7, .int v6), (0, .ref (ad p)), (2, .int z2), (5, .int z5)]) (fun _ => rfl) (fun v12 ls hf hl => ?_)
  refine lv_goto (tgt := 22) hM.1 hM.2.1 dX9_rumourFrom_60 (by decide) ?_
  exact hrec _ _ _ _ _ _ hf hw (lv_sub hl [4, 5, 1, 2, 6, 0] rfl)
set_option maxHeartbeats 4000000 in
set_option maxRecDepth 100000 in
theorem w_X9_rumourFrom_L22 {p0 : Program} {l : Launch} {e : Env} {s : State} {m : MethodId} {args : Array Value} {below : List Frame} {meth : Method} {c : Code} {Q : State → Prop} {D : va_G} {G : GG} {A : Nat → Prop} {H0 : Heap} {ad : Nat → Nat} {lay : List KK} {X : va_W} {ρ : Type} {p : Nat} {r0 : ρ} {z2 : Int32} {z5 : Int32} {h : PH} {K1 : Int32 → Int32 → Option ρ} (hM : CallFix p0 m c cX9_rumourFrom 8 s args lw_g RX9) (ho : okX9 lay p) (hk1 : ∀ (x3 : Int32) (x4 : Int32), ∀ (H : Heap) (locs : List Loc) (ls : Array Slot), K1 x3 x4 = some r0 → Wd D G A H0 ad lay X h s H locs → lv_has ls 8 [(2, .int z2), (3, .int x3), (4, .int x4)] → W p0 l e (rmN 1 23) s m args below meth c H locs 0 0 Q (F0 m 63 ls [])) (n : Nat) (x3 : Int32) (x4 : Int32) (x6 : Int32) (hf : lq3 (c_X9_rumourFrom_L22b p z2 z5 h K1) n x3 x4 x6 = some r0) : ∀ (H : Heap) (locs : List Loc) (ls : Array Slot), Wd D G A H0 ad lay X h s H locs → lv_has ls 8 [(0, .ref (ad p)), (2, .int z2), (3, .int x3), (4, .int x4), (5, .int z5), (6, .int x6)] → W p0 l e (rmN 1 23) s m args below meth c H locs 0 0 Q (F0 m 22 ls []) := by
  exact lq3_i (fun (x3 : Int32) (x4 : Int32) (x6 : Int32) => ∀ (H : Heap) (locs : List Loc) (ls : Array Slot), Wd D G A H0 ad lay X h s H locs → lv_has ls 8 [(0, .ref (ad p)), (2, .int z2), (3, .int x3), (4, .int x4), (5, .int z5), (6, .int x6)] → W p0 l e (rmN 1 23) s m args below meth c H locs 0 0 Q (F0 m 22 ls [])) (fun REC x3 x4 x6 ih hf H locs ls hw hl => w_X9_rumourFrom_L22b hM ho hk1 (fun x3 x4 x6 H locs ls hf hw hl => ih x3 x4 x6 hf H locs ls hw hl) hw hl hf) n x3 x4 x6 hf
def c_X9_rumourFrom (p : Nat) (a1 : Int32) (a2 : Int32) (h : PH) : Option (Int32) :=
  nm ((1 : Int32) <<< (a1 &&& 31)) fun v1 =>
  nm (0 : Int32) fun v2 =>
  if a2 = (-1) then
    nm (5 : Int32) fun v15 =>
    nm (0 : Int32) fun v16 =>
    lq3 (c_X9_rumourFrom_L22b p a2 v15 h
      (fun w17 w18 =>
        if a2 = (-1) then
          some w18
        else
          some w17)) fu v1 v2 v16
  else
    nm a2 fun v3 =>
    nm (0 : Int32) fun v4 =>
    lq3 (c_X9_rumourFrom_L22b p a2 v3 h
      (fun w13 w14 =>
        if a2 = (-1) then
          some w14
        else
          some w13)) fu v1 v2 v4
set_option maxHeartbeats 4000000 in
set_option maxRecDepth 100000 in
theorem ct_X9_rumourFrom (l : Launch) {lay : List KK} {p : Nat} (ho : okX9 lay p) (a1 : Int32) (a2 : Int32) : CtI l yX9_rumourFrom cX9_rumourFrom 8 (some .int) 1 23 lay (rd (fun h => c_X9_rumourFrom p a1 a2 h)) (fun ad => [.ref (ad p), .int a1, .int a2]) := by
  refine CtI.mk' RX9 (by decide) rfl (fun _ => Nat.le_of_ble_eq_true rfl) ?_
  intro p0 e s m args below meth c D G A H0 ad X h r0 H ls Q hM hw hl hf hR
  have hl : lv_has ls 8 [(0, .ref (ad p)), (1, .int a1), (2, .int a2)] := hl
  obtain ⟨v0, hv0, hr0⟩ : ∃ v0, c_X9_rumourFrom p a1 a2 h = some v0 ∧ r0 = (v0, h) := rd_some hf
  subst hr0
  have hf := hv0
  unfold c_X9_rumourFrom at hf
  refine lv_iconst (v := 1) hM.1 hM.2.1 dX9_rumourFrom_0 ic_1 ?_
  refine lv_iload_n hM.1 hM.2.1 dX9_rumourFrom_1 rfl (lv_at hl 1 rfl) ?_
  refine lv_ishl hM.1 hM.2.1 dX9_rumourFrom_2 ?_
  refine x_istore_n hM hf dX9_rumourFrom_3 rfl hl (by decide) (fun v1 => [(3, .int v1), (0, .ref (ad p)), (1, .int a1), (2, .int a2)]) (fun _ => rfl) (fun v1 ls hf hl => ?_)
  refine lv_iconst (v := 0) hM.1 hM.2.1 dX9_rumourFrom_4 ic_0 ?_
  refine x_istore hM hf dX9_rumourFrom_5 hl (by decide) (fun v2 => [(4, .int v2), (3, .int v1), (0, .ref (ad p)), (1, .int a1), (2, .int a2)]) (fun _ => rfl) (fun v2 ls hf hl => ?_)
  refine lv_iload_n hM.1 hM.2.1 dX9_rumourFrom_7 rfl (lv_at hl 4 rfl) ?_
  refine lv_iconst (v := (-1)) hM.1 hM.2.1 dX9_rumourFrom_8 ic_m1 ?_
  refine x_ic_ne (tgt := 16) hM hf dX9_rumourFrom_9 (by decide) (fun hf => ?_) (fun hf => ?_)
  · refine lv_iload_n hM.1 hM.2.1 dX9_rumourFrom_16 rfl (lv_at hl 4 rfl) ?_
    refine x_istore hM hf dX9_rumourFrom_17 hl (by decide) (fun v3 => [(5, .int v3), (4, .int v2), (3, .int v1), (0, .ref (ad p)), (1, .int a1), (2, .int a2)]) (fun _ => rfl) (fun v3 ls hf hl => ?_)
    refine lv_iconst (v := 0) hM.1 hM.2.1 dX9_rumourFrom_19 ic_0 ?_
    refine x_istore hM hf dX9_rumourFrom_20 hl (by decide) (fun v4 => [(6, .int v4), (5, .int v3), (4, .int v2), (3, .int v1), (0, .ref (ad p)), (1, .int a1), (2, .int a2)]) (fun _ => rfl) (fun v4 ls hf hl => ?_)
    refine w_X9_rumourFrom_L22 hM ho (fun w13 w14 H locs ls hf hw hl => ?_) fu _ _ _ hf _ _ _ hw (lv_sub hl [4, 6, 3, 2, 1, 0] rfl)
    refine lv_iload_n hM.1 hM.2.1 dX9_rumourFrom_63 rfl (lv_at hl 0 rfl) ?_
    refine lv_iconst (v := (-1)) hM.1 hM.2.1 dX9_rumourFrom_64 ic_m1 ?_
    refine x_ic_ne (tgt := 73) hM hf dX9_rumourFrom_65 (by decide) (fun hf => ?_) (fun hf => ?_)
    · refine lv_iload_n hM.1 hM.2.1 dX9_rumourFrom_73 rfl (lv_at hl 1 rfl) ?_
      exact hR _ _ _ _ _ _ _ (congrArg (fun z => (z, _)) (Option.some.inj hf)) rfl rfl hw dX9_rumourFrom_74
    refine lv_iload hM.1 hM.2.1 dX9_rumourFrom_68 (lv_at hl 2 rfl) ?_
    refine lv_goto (tgt := 74) hM.1 hM.2.1 dX9_rumourFrom_70 (by decide) ?_
    exact hR _ _ _ _ _ _ _ (congrArg (fun z => (z, _)) (Option.some.inj hf)) rfl rfl hw dX9_rumourFrom_74
  refine lv_iconst (v := 5) hM.1 hM.2.1 dX9_rumourFrom_12 ic_5 ?_
  refine lv_goto (tgt := 17) hM.1 hM.2.1 dX9_rumourFrom_13 (by decide) ?_
  refine x_istore hM hf dX9_rumourFrom_17 hl (by decide) (fun v15 => [(5, .int v15), (4, .int v2), (3, .int v1), (0, .ref (ad p)), (1, .int a1), (2, .int a2)]) (fun _ => rfl) (fun v15 ls hf hl => ?_)
  refine lv_iconst (v := 0) hM.1 hM.2.1 dX9_rumourFrom_19 ic_0 ?_
  refine x_istore hM hf dX9_rumourFrom_20 hl (by decide) (fun v16 => [(6, .int v16), (5, .int v15), (4, .int v2), (3, .int v1), (0, .ref (ad p)), (1, .int a1), (2, .int a2)]) (fun _ => rfl) (fun v16 ls hf hl => ?_)
  refine w_X9_rumourFrom_L22 hM ho (fun w17 w18 H locs ls hf hw hl => ?_) fu _ _ _ hf _ _ _ hw (lv_sub hl [4, 6, 3, 2, 1, 0] rfl)
  refine lv_iload_n hM.1 hM.2.1 dX9_rumourFrom_63 rfl (lv_at hl 0 rfl) ?_
  refine lv_iconst (v := (-1)) hM.1 hM.2.1 dX9_rumourFrom_64 ic_m1 ?_
  refine x_ic_ne (tgt := 73) hM hf dX9_rumourFrom_65 (by decide) (fun hf => ?_) (fun hf => ?_)
  · refine lv_iload_n hM.1 hM.2.1 dX9_rumourFrom_73 rfl (lv_at hl 1 rfl) ?_
    exact hR _ _ _ _ _ _ _ (congrArg (fun z => (z, _)) (Option.some.inj hf)) rfl rfl hw dX9_rumourFrom_74
  refine lv_iload hM.1 hM.2.1 dX9_rumourFrom_68 (lv_at hl 2 rfl) ?_
  refine lv_goto (tgt := 74) hM.1 hM.2.1 dX9_rumourFrom_70 (by decide) ?_
  exact hR _ _ _ _ _ _ _ (congrArg (fun z => (z, _)) (Option.some.inj hf)) rfl rfl hw dX9_rumourFrom_74
theorem hd_X9_rumourFrom : yX9_rumourFrom.cls = RX9 ∧ yX9_rumourFrom.cls ≠ "java/lang/invoke/MethodHandle" ∧ yX9_rumourFrom.cls ≠ "java/lang/invoke/VarHandle" ∧ (parseMethodDescriptor yX9_rumourFrom.desc).map (fun d => d.parameters.length) = some 2 := ⟨rfl, by decide, by decide, by decide +kernel⟩
theorem dX9_tellsApart_0 : decode cX9_tellsApart 0 = .ok (.iconst 0, 1) := by decide +kernel
theorem dX9_tellsApart_1 : decode cX9_tellsApart 1 = .ok (.istore 4, 2) := by decide +kernel
theorem dX9_tellsApart_3 : decode cX9_tellsApart 3 = .ok (.iload 4, 2) := by decide +kernel
theorem dX9_tellsApart_5 : decode cX9_tellsApart 5 = .ok (.aload_n 0, 1) := by decide +kernel
theorem dX9_tellsApart_6 : decode cX9_tellsApart 6 = .ok (.getfield 21, 3) := by decide +kernel
theorem dX9_tellsApart_9 : decode cX9_tellsApart 9 = .ok (.if_icmp .ge 44, 3) := by decide +kernel
theorem dX9_tellsApart_12 : decode cX9_tellsApart 12 = .ok (.iload_n 1, 1) := by decide +kernel
theorem dX9_tellsApart_13 : decode cX9_tellsApart 13 = .ok (.iload 4, 2) := by decide +kernel
theorem dX9_tellsApart_15 : decode cX9_tellsApart 15 = .ok (.ishr, 1) := by decide +kernel
theorem dX9_tellsApart_16 : decode cX9_tellsApart 16 = .ok (.iconst 1, 1) := by decide +kernel
theorem dX9_tellsApart_17 : decode cX9_tellsApart 17 = .ok (.iand, 1) := by decide +kernel
theorem dX9_tellsApart_18 : decode cX9_tellsApart 18 = .ok (.ifCond .eq 29, 3) := by decide +kernel
theorem dX9_tellsApart_21 : decode cX9_tellsApart 21 = .ok (.aload_n 0, 1) := by decide +kernel
theorem dX9_tellsApart_22 : decode cX9_tellsApart 22 = .ok (.getfield 57, 3) := by decide +kernel
theorem dX9_tellsApart_25 : decode cX9_tellsApart 25 = .ok (.iload 4, 2) := by decide +kernel
theorem dX9_tellsApart_27 : decode cX9_tellsApart 27 = .ok (.iaload, 1) := by decide +kernel
theorem dX9_tellsApart_28 : decode cX9_tellsApart 28 = .ok (.iload_n 2, 1) := by decide +kernel
theorem dX9_tellsApart_29 : decode cX9_tellsApart 29 = .ok (.ishr, 1) := by decide +kernel
theorem dX9_tellsApart_30 : decode cX9_tellsApart 30 = .ok (.aload_n 0, 1) := by decide +kernel
theorem dX9_tellsApart_31 : decode cX9_tellsApart 31 = .ok (.getfield 57, 3) := by decide +kernel
theorem dX9_tellsApart_34 : decode cX9_tellsApart 34 = .ok (.iload 4, 2) := by decide +kernel
theorem dX9_tellsApart_36 : decode cX9_tellsApart 36 = .ok (.iaload, 1) := by decide +kernel
theorem dX9_tellsApart_37 : decode cX9_tellsApart 37 = .ok (.iload_n 3, 1) := by decide +kernel
theorem dX9_tellsApart_38 : decode cX9_tellsApart 38 = .ok (.ishr, 1) := by decide +kernel
theorem dX9_tellsApart_39 : decode cX9_tellsApart 39 = .ok (.ixor, 1) := by decide +kernel
theorem dX9_tellsApart_40 : decode cX9_tellsApart 40 = .ok (.iconst 1, 1) := by decide +kernel
theorem dX9_tellsApart_41 : decode cX9_tellsApart 41 = .ok (.iand, 1) := by decide +kernel
theorem dX9_tellsApart_42 : decode cX9_tellsApart 42 = .ok (.ifCond .eq 5, 3) := by decide +kernel
theorem dX9_tellsApart_45 : decode cX9_tellsApart 45 = .ok (.iconst 1, 1) := by decide +kernel
theorem dX9_tellsApart_46 : decode cX9_tellsApart 46 = .ok (.ireturn, 1) := by decide +kernel
theorem dX9_tellsApart_47 : decode cX9_tellsApart 47 = .ok (.iinc 4 1, 3) := by decide +kernel
theorem dX9_tellsApart_50 : decode cX9_tellsApart 50 = .ok (.goto (-47), 3) := by decide +kernel
theorem dX9_tellsApart_53 : decode cX9_tellsApart 53 = .ok (.iconst 0, 1) := by decide +kernel
theorem dX9_tellsApart_54 : decode cX9_tellsApart 54 = .ok (.ireturn, 1) := by decide +kernel
def c_X9_tellsApart_L3b {ρ : Type}  (p : Nat) (z1 : Int32) (z2 : Int32) (z3 : Int32) (h : PH) (K1 : Option ρ) (K2 : Option ρ) (REC : Int32 → Option ρ) (x4 : Int32) : Option ρ :=
  if (h.1 p 3) ≤ x4 then
    K2
  else
    if ((z1 >>> (x4 &&& 31)) &&& 1) = 0 then
      nm (x4 + 1) fun v2 =>
      REC v2
    else
      gd (ixOK x4 6) <|
      gd (ixOK x4 6) <|
      if ((((h.1 (p + 31) x4.toNatClampNeg) >>> (z2 &&& 31)) ^^^ ((h.1 (p + 31) x4.toNatClampNeg) >>> (z3 &&& 31))) &&& 1) = 0 then
        nm (x4 + 1) fun v3 =>
        REC v3
      else
        K1
set_option maxHeartbeats 4000000 in
set_option maxRecDepth 100000 in
theorem w_X9_tellsApart_L3b {p0 : Program} {l : Launch} {e : Env} {s : State} {m : MethodId} {args : Array Value} {below : List Frame} {meth : Method} {c : Code} {Q : State → Prop} {D : va_G} {G : GG} {A : Nat → Prop} {H0 : Heap} {ad : Nat → Nat} {lay : List KK} {X : va_W} {ρ : Type} {p : Nat} {r0 : ρ} {z1 : Int32} {z2 : Int32} {z3 : Int32} {x4 : Int32} {h : PH} {H : Heap} {locs : List Loc} {ls : Array Slot} {K1 : Option ρ} {K2 : Option ρ} {REC : Int32 → Option ρ} (hM : CallFix p0 m c cX9_tellsApart 5 s args lw_g RX9) (ho : okX9 lay p) (hk1 : ∀ (H : Heap) (locs : List Loc) (ls : Array Slot), K1 = some r0 → Wd D G A H0 ad lay X h s H locs → lv_has ls 5 [] → W p0 l e (rmN 0 0) s m args below meth c H locs 0 0 Q (F0 m 45 ls [])) (hk2 : ∀ (H : Heap) (locs : List Loc) (ls : Array Slot), K2 = some r0 → Wd D G A H0 ad lay X h s H locs → lv_has ls 5 [] → W p0 l e (rmN 0 0) s m args below meth c H locs 0 0 Q (F0 m 53 ls [])) (hrec : ∀ (x4 : Int32), ∀ (H : Heap) (locs : List Loc) (ls : Array Slot), REC x4 = some r0 → Wd D G A H0 ad lay X h s H locs → lv_has ls 5 [(0, .ref (ad p)), (1, .int z1), (2, .int z2), (3, .int z3), (4, .int x4)] → W p0 l e (rmN 0 0) s m args below meth c H locs 0 0 Q (F0 m 3 ls [])) (hw : Wd D G A H0 ad lay X h s H locs) (hl : lv_has ls 5 [(0, .ref (ad p)), (1, .int z1), (2, .int z2), (3, .int z3), (4, .int x4)]) (hf : c_X9_tellsApart_L3b p z1 z2 z3 h K1 K2 REC x4 = some r0) : W p0 l e (rmN 0 0) s m args below meth c H locs 0 0 Q (F0 m 3 ls []) := by
  unfold c_X9_tellsApart_L3b at hf
  refine lv_iload hM.1 hM.2.1 dX9_tellsApart_3 (lv_at hl 4 rfl) ?_
  refine lv_aload_n hM.1 hM.2.1 dX9_tellsApart_5 rfl (lv_at hl 0 rfl) ?_
  refine gf_X9_tests hM hw (okX9.o ho) fl_X9_21 dX9_tellsApart_6 ?_
  refine x_ic_ge (tgt := 53) hM hf dX9_tellsApart_9 (by decide) (fun hf => ?_) (fun hf => ?_)
  · exact hk2 _ _ _ hf hw (lv_sub hl [] rfl)
  refine lv_iload_n hM.1 hM.2.1 dX9_tellsApart_12 rfl (lv_at hl 1 rfl) ?_
  refine lv_iload hM.1 hM.2.1 dX9_tellsApart_13 (lv_at hl 4 rfl) ?_
  refine lv_ishr hM.1 hM.2.1 dX9_tellsApart_15 ?_
  refine lv_iconst (v := 1) hM.1 hM.2.1 dX9_tellsApart_16 ic_1 ?_
  refine lv_iand hM.1 hM.2.1 dX9_tellsApart_17 ?_
  refine x_if_eq (tgt := 47) hM hf dX9_tellsApart_18 (by decide) (fun hf => ?_) (fun hf => ?_)
  · refine x_iinc (k := 4) (d := 1) hM hf dX9_tellsApart_47 hl rfl (by decide) (by decide) (fun v2 => [(4, .int v2), (0, .ref (ad p)), (1, .int z1), (2, .int z2), (3, .int z3)]) (fun _ => rfl) (fun v2 ls hf hl => ?_)
    refine lv_goto (tgt := 3) hM.1 hM.2.1 dX9_tellsApart_50 (by decide) ?_
    exact hrec _ _ _ _ hf hw (lv_sub hl [1, 2, 3, 4, 0] rfl)
  refine lv_aload_n hM.1 hM.2.1 dX9_tellsApart_21 rfl (lv_at hl 0 rfl) ?_
  refine gf_X9_rings hM hw (okX9.o ho) fl_X9_57 dX9_tellsApart_22 ?_
  refine lv_iload hM.1 hM.2.1 dX9_tellsApart_25 (lv_at hl 4 rfl) ?_
  refine x_iald hM hw (okX9.rings ho) hf dX9_tellsApart_27 (fun hf => ?_)
  refine lv_iload_n hM.1 hM.2.1 dX9_tellsApart_28 rfl (lv_at hl 2 rfl) ?_
  refine lv_ishr hM.1 hM.2.1 dX9_tellsApart_29 ?_
  refine lv_aload_n hM.1 hM.2.1 dX9_tellsApart_30 rfl (lv_at hl 0 rfl) ?_
  refine gf_X9_rings hM hw (okX9.o ho) fl_X9_57 dX9_tellsApart_31 ?_
  refine lv_iload hM.1 hM.2.1 dX9_tellsApart_34 (lv_at hl 4 rfl) ?_
  refine x_iald hM hw (okX9.rings ho) hf dX9_tellsApart_36 (fun hf => ?_)
  refine lv_iload_n hM.1 hM.2.1 dX9_tellsApart_37 rfl (lv_at hl 3 rfl) ?_
  refine lv_ishr hM.1 hM.2.1 dX9_tellsApart_38 ?_
  refine lv_ixor hM.1 hM.2.1 dX9_tellsApart_39 ?_
  refine lv_iconst (v := 1) hM.1 hM.2.1 dX9_tellsApart_40 ic_1 ?_
  refine lv_iand hM.1 hM.2.1 dX9_tellsApart_41 ?_
  refine x_if_eq (tgt := 47) hM hf dX9_tellsApart_42 (by decide) (fun hf => ?_) (fun hf => ?_)
  · refine x_iinc (k := 4) (d := 1) hM hf dX9_tellsApart_47 hl rfl (by decide) (by decide) (fun v3 => [(4, .int v3), (0, .ref (ad p)), (1, .int z1), (2, .int z2), (3, .int z3)]) (fun _ => rfl) (fun v3 ls hf hl => ?_)
    refine lv_goto (tgt := 3) hM.1 hM.2.1 dX9_tellsApart_50 (by decide) ?_
    exact hrec _ _ _ _ hf hw (lv_sub hl [1, 2, 3, 4, 0] rfl)
  exact hk1 _ _ _ hf hw (lv_sub hl [] rfl)
set_option maxHeartbeats 4000000 in
set_option maxRecDepth 100000 in
theorem w_X9_tellsApart_L3 {p0 : Program} {l : Launch} {e : Env} {s : State} {m : MethodId} {args : Array Value} {below : List Frame} {meth : Method} {c : Code} {Q : State → Prop} {D : va_G} {G : GG} {A : Nat → Prop} {H0 : Heap} {ad : Nat → Nat} {lay : List KK} {X : va_W} {ρ : Type} {p : Nat} {r0 : ρ} {z1 : Int32} {z2 : Int32} {z3 : Int32} {h : PH} {K1 : Option ρ} {K2 : Option ρ} (hM : CallFix p0 m c cX9_tellsApart 5 s args lw_g RX9) (ho : okX9 lay p) (hk1 : ∀ (H : Heap) (locs : List Loc) (ls : Array Slot), K1 = some r0 → Wd D G A H0 ad lay X h s H locs → lv_has ls 5 [] → W p0 l e (rmN 0 0) s m args below meth c H locs 0 0 Q (F0 m 45 ls [])) (hk2 : ∀ (H : Heap) (locs : List Loc) (ls : Array Slot), K2 = some r0 → Wd D G A H0 ad lay X h s H locs → lv_has ls 5 [] → W p0 l e (rmN 0 0) s m args below meth c H locs 0 0 Q (F0 m 53 ls [])) (n : Nat) (x4 : Int32) (hf : lq1 (c_X9_tellsApart_L3b p z1 z2 z3 h K1 K2) n x4 = some r0) : ∀ (H : Heap) (locs : List Loc) (ls : Array Slot), Wd D G A H0 ad lay X h s H locs → lv_has ls 5 [(0, .ref (ad p)), (1, .int z1), (2, .int z2), (3, .int z3), (4, .int x4)] → W p0 l e (rmN 0 0) s m args below meth c H locs 0 0 Q (F0 m 3 ls []) := by
  exact lq1_i (fun (x4 : Int32) => ∀ (H : Heap) (locs : List Loc) (ls : Array Slot), Wd D G A H0 ad lay X h s H locs → lv_has ls 5 [(0, .ref (ad p)), (1, .int z1), (2, .int z2), (3, .int z3), (4, .int x4)] → W p0 l e (rmN 0 0) s m args below meth c H locs 0 0 Q (F0 m 3 ls [])) (fun REC x4 ih hf H locs ls hw hl => w_X9_tellsApart_L3b hM ho hk1 hk2 (fun x4 H locs ls hf hw hl => ih x4 hf H locs ls hw hl) hw hl hf) n x4 hf
def c_X9_tellsApart (p : Nat) (a1 : Int32) (a2 : Int32) (a3 : Int32) (h : PH) : Option (Int32) :=
  nm (0 : Int32) fun v1 =>
  lq1 (c_X9_tellsApart_L3b p a1 a2 a3 h
    (some 1)
    (some 0)) fu v1
set_option maxHeartbeats 4000000 in
set_option maxRecDepth 100000 in
theorem ct_X9_tellsApart (l : Launch) {lay : List KK} {p : Nat} (ho : okX9 lay p) (a1 : Int32) (a2 : Int32) (a3 : Int32) : CtI l yX9_tellsApart cX9_tellsApart 5 (some .boolean) 0 0 lay (rd (fun h => c_X9_tellsApart p a1 a2 a3 h)) (fun ad => [.ref (ad p), .int a1, .int a2, .int a3]) := by
  refine CtI.mk' RX9 (by decide) rfl (fun _ => Nat.le_of_ble_eq_true rfl) ?_
  intro p0 e s m args below meth c D G A H0 ad X h r0 H ls Q hM hw hl hf hR
  have hl : lv_has ls 5 [(0, .ref (ad p)), (1, .int a1), (2, .int a2), (3, .int a3)] := hl
  obtain ⟨v0, hv0, hr0⟩ : ∃ v0, c_X9_tellsApart p a1 a2 a3 h = some v0 ∧ r0 = (v0, h) := rd_some hf
  subst hr0
  have hf := hv0
  unfold c_X9_tellsApart at hf
  refine lv_iconst (v := 0) hM.1 hM.2.1 dX9_tellsApart_0 ic_0 ?_
  refine x_istore hM hf dX9_tellsApart_1 hl (by decide) (fun v1 => [(4, .int v1), (0, .ref (ad p)), (1, .int a1), (2, .int a2), (3, .int a3)]) (fun _ => rfl) (fun v1 ls hf hl => ?_)
  refine w_X9_tellsApart_L3 hM ho (fun H locs ls hf hw hl => ?_) (fun H locs ls hf hw hl => ?_) fu _ hf _ _ _ hw (lv_sub hl [1, 2, 3, 4, 0] rfl)
  · refine lv_iconst (v := 1) hM.1 hM.2.1 dX9_tellsApart_45 ic_1 ?_
    exact hR _ _ _ _ _ _ _ (congrArg (fun z => (z, _)) (Option.some.inj hf)) rfl (nar_z (by decide)) hw dX9_tellsApart_46
  · refine lv_iconst (v := 0) hM.1 hM.2.1 dX9_tellsApart_53 ic_0 ?_
    exact hR _ _ _ _ _ _ _ (congrArg (fun z => (z, _)) (Option.some.inj hf)) rfl (nar_z (by decide)) hw dX9_tellsApart_54
theorem hd_X9_tellsApart : yX9_tellsApart.cls = RX9 ∧ yX9_tellsApart.cls ≠ "java/lang/invoke/MethodHandle" ∧ yX9_tellsApart.cls ≠ "java/lang/invoke/VarHandle" ∧ (parseMethodDescriptor yX9_tellsApart.desc).map (fun d => d.parameters.length) = some 3 := ⟨rfl, by decide, by decide, by decide +kernel⟩
theorem dX9_tellsAllApart_0 : decode cX9_tellsAllApart 0 = .ok (.iconst 0, 1) := by decide +kernel
theorem dX9_tellsAllApart_1 : decode cX9_tellsAllApart 1 = .ok (.istore_n 2, 1) := by decide +kernel
theorem dX9_tellsAllApart_2 : decode cX9_tellsAllApart 2 = .ok (.iload_n 2, 1) := by decide +kernel
theorem dX9_tellsAllApart_3 : decode cX9_tellsAllApart 3 = .ok (.aload_n 0, 1) := by decide +kernel
theorem dX9_tellsAllApart_4 : decode cX9_tellsAllApart 4 = .ok (.getfield 15, 3) := by decide +kernel
theorem dX9_tellsAllApart_7 : decode cX9_tellsAllApart 7 = .ok (.if_icmp .ge 39, 3) := by decide +kernel
theorem dX9_tellsAllApart_10 : decode cX9_tellsAllApart 10 = .ok (.iload_n 2, 1) := by decide +kernel
theorem dX9_tellsAllApart_11 : decode cX9_tellsAllApart 11 = .ok (.iconst 1, 1) := by decide +kernel
theorem dX9_tellsAllApart_12 : decode cX9_tellsAllApart 12 = .ok (.iadd, 1) := by decide +kernel
theorem dX9_tellsAllApart_13 : decode cX9_tellsAllApart 13 = .ok (.istore_n 3, 1) := by decide +kernel
theorem dX9_tellsAllApart_14 : decode cX9_tellsAllApart 14 = .ok (.iload_n 3, 1) := by decide +kernel
theorem dX9_tellsAllApart_15 : decode cX9_tellsAllApart 15 = .ok (.aload_n 0, 1) := by decide +kernel
theorem dX9_tellsAllApart_16 : decode cX9_tellsAllApart 16 = .ok (.getfield 15, 3) := by decide +kernel
theorem dX9_tellsAllApart_19 : decode cX9_tellsAllApart 19 = .ok (.if_icmp .ge 21, 3) := by decide +kernel
theorem dX9_tellsAllApart_22 : decode cX9_tellsAllApart 22 = .ok (.aload_n 0, 1) := by decide +kernel
theorem dX9_tellsAllApart_23 : decode cX9_tellsAllApart 23 = .ok (.iload_n 1, 1) := by decide +kernel
theorem dX9_tellsAllApart_24 : decode cX9_tellsAllApart 24 = .ok (.iload_n 2, 1) := by decide +kernel
theorem dX9_tellsAllApart_25 : decode cX9_tellsAllApart 25 = .ok (.iload_n 3, 1) := by decide +kernel
theorem dX9_tellsAllApart_26 : decode cX9_tellsAllApart 26 = .ok (.invokevirtual 97, 3) := by decide +kernel
theorem dX9_tellsAllApart_29 : decode cX9_tellsAllApart 29 = .ok (.ifCond .ne 5, 3) := by decide +kernel
theorem dX9_tellsAllApart_32 : decode cX9_tellsAllApart 32 = .ok (.iconst 0, 1) := by decide +kernel
theorem dX9_tellsAllApart_33 : decode cX9_tellsAllApart 33 = .ok (.ireturn, 1) := by decide +kernel
theorem dX9_tellsAllApart_34 : decode cX9_tellsAllApart 34 = .ok (.iinc 3 1, 3) := by decide +kernel
theorem dX9_tellsAllApart_37 : decode cX9_tellsAllApart 37 = .ok (.goto (-23), 3) := by decide +kernel
theorem dX9_tellsAllApart_40 : decode cX9_tellsAllApart 40 = .ok (.iinc 2 1, 3) := by decide +kernel
theorem dX9_tellsAllApart_43 : decode cX9_tellsAllApart 43 = .ok (.goto (-41), 3) := by decide +kernel
theorem dX9_tellsAllApart_46 : decode cX9_tellsAllApart 46 = .ok (.iconst 1, 1) := by decide +kernel
theorem dX9_tellsAllApart_47 : decode cX9_tellsAllApart 47 = .ok (.ireturn, 1) := by decide +kernel
def c_X9_tellsAllApart_L14b {ρ : Type}  (p : Nat) (z1 : Int32) (z2 : Int32) (h : PH) (K1 : Option ρ) (K2 : Option ρ) (REC : Int32 → Option ρ) (x3 : Int32) : Option ρ :=
  if (h.1 p 1) ≤ x3 then
    K2
  else
    (c_X9_tellsApart p z1 z2 x3 h).bind fun r3 =>
    if r3 = 0 then
      K1
    else
      nm (x3 + 1) fun v4 =>
      REC v4
set_option maxHeartbeats 4000000 in
set_option maxRecDepth 100000 in
theorem w_X9_tellsAllApart_L14b {p0 : Program} {l : Launch} {e : Env} {s : State} {m : MethodId} {args : Array Value} {below : List Frame} {meth : Method} {c : Code} {Q : State → Prop} {D : va_G} {G : GG} {A : Nat → Prop} {H0 : Heap} {ad : Nat → Nat} {lay : List KK} {X : va_W} {ρ : Type} {p : Nat} {r0 : ρ} {z1 : Int32} {z2 : Int32} {x3 : Int32} {h : PH} {H : Heap} {locs : List Loc} {ls : Array Slot} {K1 : Option ρ} {K2 : Option ρ} {REC : Int32 → Option ρ} (hM : CallFix p0 m c cX9_tellsAllApart 4 s args lw_g RX9) (ho : okX9 lay p) (hk1 : ∀ (H : Heap) (locs : List Loc) (ls : Array Slot), K1 = some r0 → Wd D G A H0 ad lay X h s H locs → lv_has ls 4 [] → W p0 l e (rmN 1 24) s m args below meth c H locs 0 0 Q (F0 m 32 ls [])) (hk2 : ∀ (H : Heap) (locs : List Loc) (ls : Array Slot), K2 = some r0 → Wd D G A H0 ad lay X h s H locs → lv_has ls 4 [(0, .ref (ad p)), (1, .int z1), (2, .int z2)] → W p0 l e (rmN 1 24) s m args below meth c H locs 0 0 Q (F0 m 40 ls [])) (hrec : ∀ (x3 : Int32), ∀ (H : Heap) (locs : List Loc) (ls : Array Slot), REC x3 = some r0 → Wd D G A H0 ad lay X h s H locs → lv_has ls 4 [(0, .ref (ad p)), (1, .int z1), (2, .int z2), (3, .int x3)] → W p0 l e (rmN 1 24) s m args below meth c H locs 0 0 Q (F0 m 14 ls [])) (hw : Wd D G A H0 ad lay X h s H locs) (hl : lv_has ls 4 [(0, .ref (ad p)), (1, .int z1), (2, .int z2), (3, .int x3)]) (hf : c_X9_tellsAllApart_L14b p z1 z2 h K1 K2 REC x3 = some r0) : W p0 l e (rmN 1 24) s m args below meth c H locs 0 0 Q (F0 m 14 ls []) := by
  unfold c_X9_tellsAllApart_L14b at hf
  refine lv_iload_n hM.1 hM.2.1 dX9_tellsAllApart_14 rfl (lv_at hl 3 rfl) ?_
  refine lv_aload_n hM.1 hM.2.1 dX9_tellsAllApart_15 rfl (lv_at hl 0 rfl) ?_
  refine gf_X9_excuses hM hw (okX9.o ho) fl_X9_15 dX9_tellsAllApart_16 ?_
  refine x_ic_ge (tgt := 40) hM hf dX9_tellsAllApart_19 (by decide) (fun hf => ?_) (fun hf => ?_)
  · exact hk2 _ _ _ hf hw (lv_sub hl [0, 1, 2] rfl)
  refine lv_aload_n hM.1 hM.2.1 dX9_tellsAllApart_22 rfl (lv_at hl 0 rfl) ?_
  refine lv_iload_n hM.1 hM.2.1 dX9_tellsAllApart_23 rfl (lv_at hl 1 rfl) ?_
  refine lv_iload_n hM.1 hM.2.1 dX9_tellsAllApart_24 rfl (lv_at hl 2 rfl) ?_
  refine lv_iload_n hM.1 hM.2.1 dX9_tellsAllApart_25 rfl (lv_at hl 3 rfl) ?_
  refine x_callVIr (rest := []) hM hw (ct_X9_tellsApart l ho z1 z2 x3) [.int z1, .int z2, .int x3] (okX9.o ho) rfl rfl rfl (gi_V ml_X9_97 im_X9_tellsApart sl_X9_tellsApart in_X9 kc_X9_tellsApart) hd_X9_tellsApart rfl ⟨Nat.le_of_ble_eq_true rfl, Nat.le_of_ble_eq_true rfl⟩ rfl (Nat.le_of_ble_eq_true rfl) hl.1 hcs0 hf dX9_tellsAllApart_26 (fun r3 H locs hf hw => ?_)
  refine x_if_ne (tgt := 34) hM hf dX9_tellsAllApart_29 (by decide) (fun hf => ?_) (fun hf => ?_)
  · refine x_iinc (k := 3) (d := 1) hM hf dX9_tellsAllApart_34 hl rfl (by decide) (by decide) (fun v4 => [(3, .int v4), (0, .ref (ad p)), (1, .int z1), (2, .int z2)]) (fun _ => rfl) (fun v4 ls hf hl => ?_)
    refine lv_goto (tgt := 14) hM.1 hM.2.1 dX9_tellsAllApart_37 (by decide) ?_
    exact hrec _ _ _ _ hf hw (lv_sub hl [1, 2, 3, 0] rfl)
  exact hk1 _ _ _ hf hw (lv_sub hl [] rfl)
set_option maxHeartbeats 4000000 in
set_option maxRecDepth 100000 in
theorem w_X9_tellsAllApart_L14 {p0 : Program} {l : Launch} {e : Env} {s : State} {m : MethodId} {args : Array Value} {below : List Frame} {meth : Method} {c : Code} {Q : State → Prop} {D : va_G} {G : GG} {A : Nat → Prop} {H0 : Heap} {ad : Nat → Nat} {lay : List KK} {X : va_W} {ρ : Type} {p : Nat} {r0 : ρ} {z1 : Int32} {z2 : Int32} {h : PH} {K1 : Option ρ} {K2 : Option ρ} (hM : CallFix p0 m c cX9_tellsAllApart 4 s args lw_g RX9) (ho : okX9 lay p) (hk1 : ∀ (H : Heap) (locs : List Loc) (ls : Array Slot), K1 = some r0 → Wd D G A H0 ad lay X h s H locs → lv_has ls 4 [] → W p0 l e (rmN 1 24) s m args below meth c H locs 0 0 Q (F0 m 32 ls [])) (hk2 : ∀ (H : Heap) (locs : List Loc) (ls : Array Slot), K2 = some r0 → Wd D G A H0 ad lay X h s H locs → lv_has ls 4 [(0, .ref (ad p)), (1, .int z1), (2, .int z2)] → W p0 l e (rmN 1 24) s m args below meth c H locs 0 0 Q (F0 m 40 ls [])) (n : Nat) (x3 : Int32) (hf : lq1 (c_X9_tellsAllApart_L14b p z1 z2 h K1 K2) n x3 = some r0) : ∀ (H : Heap) (locs : List Loc) (ls : Array Slot), Wd D G A H0 ad lay X h s H locs → lv_has ls 4 [(0, .ref (ad p)), (1, .int z1), (2, .int z2), (3, .int x3)] → W p0 l e (rmN 1 24) s m args below meth c H locs 0 0 Q (F0 m 14 ls []) := by
  exact lq1_i (fun (x3 : Int32) => ∀ (H : Heap) (locs : List Loc) (ls : Array Slot), Wd D G A H0 ad lay X h s H locs → lv_has ls 4 [(0, .ref (ad p)), (1, .int z1), (2, .int z2), (3, .int x3)] → W p0 l e (rmN 1 24) s m args below meth c H locs 0 0 Q (F0 m 14 ls [])) (fun REC x3 ih hf H locs ls hw hl => w_X9_tellsAllApart_L14b hM ho hk1 hk2 (fun x3 H locs ls hf hw hl => ih x3 hf H locs ls hw hl) hw hl hf) n x3 hf
def c_X9_tellsAllApart_L2b {ρ : Type}  (p : Nat) (z1 : Int32) (h : PH) (K1 : Option ρ) (K2 : Option ρ) (REC : Int32 → Option ρ) (x2 : Int32) : Option ρ :=
  if (h.1 p 1) ≤ x2 then
    K2
  else
    nm (x2 + 1) fun v2 =>
    lq1 (c_X9_tellsAllApart_L14b p z1 x2 h
      (K1)
      (nm (x2 + 1) fun v5 =>
      REC v5)) fu v2
set_option maxHeartbeats 4000000 in
set_option maxRecDepth 100000 in
theorem w_X9_tellsAllApart_L2b {p0 : Program} {l : Launch} {e : Env} {s : State} {m : MethodId} {args : Array Value} {below : List Frame} {meth : Method} {c : Code} {Q : State → Prop} {D : va_G} {G : GG} {A : Nat → Prop} {H0 : Heap} {ad : Nat → Nat} {lay : List KK} {X : va_W} {ρ : Type} {p : Nat} {r0 : ρ} {z1 : Int32} {x2 : Int32} {h : PH} {H : Heap} {locs : List Loc} {ls : Array Slot} {K1 : Option ρ} {K2 : Option ρ} {REC : Int32 → Option ρ} (hM : CallFix p0 m c cX9_tellsAllApart 4 s args lw_g RX9) (ho : okX9 lay p) (hk1 : ∀ (H : Heap) (locs : List Loc) (ls : Array Slot), K1 = some r0 → Wd D G A H0 ad lay X h s H locs → lv_has ls 4 [] → W p0 l e (rmN 1 24) s m args below meth c H locs 0 0 Q (F0 m 32 ls [])) (hk2 : ∀ (H : Heap) (locs : List Loc) (ls : Array Slot), K2 = some r0 → Wd D G A H0 ad lay X h s H locs → lv_has ls 4 [] → W p0 l e (rmN 1 24) s m args below meth c H locs 0 0 Q (F0 m 46 ls [])) (hrec : ∀ (x2 : Int32), ∀ (H : Heap) (locs : List Loc) (ls : Array Slot), REC x2 = some r0 → Wd D G A H0 ad lay X h s H locs → lv_has ls 4 [(0, .ref (ad p)), (1, .int z1), (2, .int x2)] → W p0 l e (rmN 1 24) s m args below meth c H locs 0 0 Q (F0 m 2 ls [])) (hw : Wd D G A H0 ad lay X h s H locs) (hl : lv_has ls 4 [(0, .ref (ad p)), (1, .int z1), (2, .int x2)]) (hf : c_X9_tellsAllApart_L2b p z1 h K1 K2 REC x2 = some r0) : W p0 l e (rmN 1 24) s m args below meth c H locs 0 0 Q (F0 m 2 ls []) := by
  unfold c_X9_tellsAllApart_L2b at hf
  refine lv_iload_n hM.1 hM.2.1 dX9_tellsAllApart_2 rfl (lv_at hl 2 rfl) ?_
  refine lv_aload_n hM.1 hM.2.1 dX9_tellsAllApart_3 rfl (lv_at hl 0 rfl) ?_
  refine gf_X9_excuses hM hw (okX9.o ho) fl_X9_15 dX9_tellsAllApart_4 ?_
  refine x_ic_ge (tgt := 46) hM hf dX9_tellsAllApart_7 (by decide) (fun hf => ?_) (fun hf => ?_)
  · exact hk2 _ _ _ hf hw (lv_sub hl [] rfl)
  refine lv_iload_n hM.1 hM.2.1 dX9_tellsAllApart_10 rfl (lv_at hl 2 rfl) ?_
  refine lv_iconst (v := 1) hM.1 hM.2.1 dX9_tellsAllApart_11 ic_1 ?_
  refine lv_iadd hM.1 hM.2.1 dX9_tellsAllApart_12 ?_
  refine x_istore_n hM hf dX9_tellsAllApart_13 rfl hl (by decide) (fun v2 => [(3, .int v2), (0, .ref (ad p)), (1, .int z1), (2, .int x2)]) (fun _ => rfl) (fun v2 ls hf hl => ?_)
  refine w_X9_tellsAllApart_L14 hM ho (fun H locs ls hf hw hl => ?_) (fun H locs ls hf hw hl => ?_) fu _ hf _ _ _ hw (lv_sub hl [1, 2, 3, 0] rfl)
  · exact hk1 _ _ _ hf hw hl
  · refine x_iinc (k := 2) (d := 1) hM hf dX9_tellsAllApart_40 hl rfl (by decide) (by decide) (fun v5 => [(2, .int v5), (0, .ref (ad p)), (1, .int z1)]) (fun _ => rfl) (fun v5 ls hf hl => ?_)
    refine lv_goto (tgt := 2) hM.1 hM.2.1 dX9_tellsAllApart_43 (by decide) ?_
    exact hrec _ _ _ _ hf hw (lv_sub hl [1, 2, 0] rfl)
set_option maxHeartbeats 4000000 in
set_option maxRecDepth 100000 in
theorem w_X9_tellsAllApart_L2 {p0 : Program} {l : Launch} {e : Env} {s : State} {m : MethodId} {args : Array Value} {below : List Frame} {meth : Method} {c : Code} {Q : State → Prop} {D : va_G} {G : GG} {A : Nat → Prop} {H0 : Heap} {ad : Nat → Nat} {lay : List KK} {X : va_W} {ρ : Type} {p : Nat} {r0 : ρ} {z1 : Int32} {h : PH} {K1 : Option ρ} {K2 : Option ρ} (hM : CallFix p0 m c cX9_tellsAllApart 4 s args lw_g RX9) (ho : okX9 lay p) (hk1 : ∀ (H : Heap) (locs : List Loc) (ls : Array Slot), K1 = some r0 → Wd D G A H0 ad lay X h s H locs → lv_has ls 4 [] → W p0 l e (rmN 1 24) s m args below meth c H locs 0 0 Q (F0 m 32 ls [])) (hk2 : ∀ (H : Heap) (locs : List Loc) (ls : Array Slot), K2 = some r0 → Wd D G A H0 ad lay X h s H locs → lv_has ls 4 [] → W p0 l e (rmN 1 24) s m args below meth c H locs 0 0 Q (F0 m 46 ls [])) (n : Nat) (x2 : Int32) (hf : lq1 (c_X9_tellsAllApart_L2b p z1 h K1 K2) n x2 = some r0) : ∀ (H : Heap) (locs : List Loc) (ls : Array Slot), Wd D G A H0 ad lay X h s H locs → lv_has ls 4 [(0, .ref (ad p)), (1, .int z1), (2, .int x2)] → W p0 l e (rmN 1 24) s m args below meth c H locs 0 0 Q (F0 m 2 ls []) := by
  exact lq1_i (fun (x2 : Int32) => ∀ (H : Heap) (locs : List Loc) (ls : Array Slot), Wd D G A H0 ad lay X h s H locs → lv_has ls 4 [(0, .ref (ad p)), (1, .int z1), (2, .int x2)] → W p0 l e (rmN 1 24) s m args below meth c H locs 0 0 Q (F0 m 2 ls [])) (fun REC x2 ih hf H locs ls hw hl => w_X9_tellsAllApart_L2b hM ho hk1 hk2 (fun x2 H locs ls hf hw hl => ih x2 hf H locs ls hw hl) hw hl hf) n x2 hf
def c_X9_tellsAllApart (p : Nat) (a1 : Int32) (h : PH) : Option (Int32) :=
  nm (0 : Int32) fun v1 =>
  lq1 (c_X9_tellsAllApart_L2b p a1 h
    (some 0)
    (some 1)) fu v1
set_option maxHeartbeats 4000000 in
set_option maxRecDepth 100000 in
theorem ct_X9_tellsAllApart (l : Launch) {lay : List KK} {p : Nat} (ho : okX9 lay p) (a1 : Int32) : CtI l yX9_tellsAllApart cX9_tellsAllApart 4 (some .boolean) 1 24 lay (rd (fun h => c_X9_tellsAllApart p a1 h)) (fun ad => [.ref (ad p), .int a1]) := by
  refine CtI.mk' RX9 (by decide) rfl (fun _ => Nat.le_of_ble_eq_true rfl) ?_
  intro p0 e s m args below meth c D G A H0 ad X h r0 H ls Q hM hw hl hf hR
  have hl : lv_has ls 4 [(0, .ref (ad p)), (1, .int a1)] := hl
  obtain ⟨v0, hv0, hr0⟩ : ∃ v0, c_X9_tellsAllApart p a1 h = some v0 ∧ r0 = (v0, h) := rd_some hf
  subst hr0
  have hf := hv0
  unfold c_X9_tellsAllApart at hf
  refine lv_iconst (v := 0) hM.1 hM.2.1 dX9_tellsAllApart_0 ic_0 ?_
  refine x_istore_n hM hf dX9_tellsAllApart_1 rfl hl (by decide) (fun v1 => [(2, .int v1), (0, .ref (ad p)), (1, .int a1)]) (fun _ => rfl) (fun v1 ls hf hl => ?_)
  refine w_X9_tellsAllApart_L2 hM ho (fun H locs ls hf hw hl => ?_) (fun H locs ls hf hw hl => ?_) fu _ hf _ _ _ hw (lv_sub hl [1, 2, 0] rfl)
  · refine lv_iconst (v := 0) hM.1 hM.2.1 dX9_tellsAllApart_32 ic_0 ?_
    exact hR _ _ _ _ _ _ _ (congrArg (fun z => (z, _)) (Option.some.inj hf)) rfl (nar_z (by decide)) hw dX9_tellsAllApart_33
  · refine lv_iconst (v := 1) hM.1 hM.2.1 dX9_tellsAllApart_46 ic_1 ?_
    exact hR _ _ _ _ _ _ _ (congrArg (fun z => (z, _)) (Option.some.inj hf)) rfl (nar_z (by decide)) hw dX9_tellsAllApart_47
theorem hd_X9_tellsAllApart : yX9_tellsAllApart.cls = RX9 ∧ yX9_tellsAllApart.cls ≠ "java/lang/invoke/MethodHandle" ∧ yX9_tellsAllApart.cls ≠ "java/lang/invoke/VarHandle" ∧ (parseMethodDescriptor yX9_tellsAllApart.desc).map (fun d => d.parameters.length) = some 1 := ⟨rfl, by decide, by decide, by decide +kernel⟩
theorem dX9_fewestTests_0 : decode cX9_fewestTests 0 = .ok (.bipush (-2), 2) := by decide +kernel
theorem dX9_fewestTests_2 : decode cX9_fewestTests 2 = .ok (.istore_n 1, 1) := by decide +kernel
theorem dX9_fewestTests_3 : decode cX9_fewestTests 3 = .ok (.iconst 0, 1) := by decide +kernel
theorem dX9_fewestTests_4 : decode cX9_fewestTests 4 = .ok (.istore_n 2, 1) := by decide +kernel
theorem dX9_fewestTests_5 : decode cX9_fewestTests 5 = .ok (.iload_n 2, 1) := by decide +kernel
theorem dX9_fewestTests_6 : decode cX9_fewestTests 6 = .ok (.iconst 1, 1) := by decide +kernel
theorem dX9_fewestTests_7 : decode cX9_fewestTests 7 = .ok (.aload_n 0, 1) := by decide +kernel
theorem dX9_fewestTests_8 : decode cX9_fewestTests 8 = .ok (.getfield 21, 3) := by decide +kernel
theorem dX9_fewestTests_11 : decode cX9_fewestTests 11 = .ok (.ishl, 1) := by decide +kernel
theorem dX9_fewestTests_12 : decode cX9_fewestTests 12 = .ok (.if_icmp .ge 46, 3) := by decide +kernel
theorem dX9_fewestTests_15 : decode cX9_fewestTests 15 = .ok (.iload_n 1, 1) := by decide +kernel
theorem dX9_fewestTests_16 : decode cX9_fewestTests 16 = .ok (.bipush (-2), 2) := by decide +kernel
theorem dX9_fewestTests_18 : decode cX9_fewestTests 18 = .ok (.if_icmp .eq 14, 3) := by decide +kernel
theorem dX9_fewestTests_21 : decode cX9_fewestTests 21 = .ok (.iload_n 2, 1) := by decide +kernel
theorem dX9_fewestTests_22 : decode cX9_fewestTests 22 = .ok (.invokestatic 89, 3) := by decide +kernel
theorem dX9_fewestTests_25 : decode cX9_fewestTests 25 = .ok (.iload_n 1, 1) := by decide +kernel
theorem dX9_fewestTests_26 : decode cX9_fewestTests 26 = .ok (.invokestatic 89, 3) := by decide +kernel
theorem dX9_fewestTests_29 : decode cX9_fewestTests 29 = .ok (.if_icmp .ge 7, 3) := by decide +kernel
theorem dX9_fewestTests_32 : decode cX9_fewestTests 32 = .ok (.iconst 1, 1) := by decide +kernel
theorem dX9_fewestTests_33 : decode cX9_fewestTests 33 = .ok (.goto 4, 3) := by decide +kernel
theorem dX9_fewestTests_36 : decode cX9_fewestTests 36 = .ok (.iconst 0, 1) := by decide +kernel
theorem dX9_fewestTests_37 : decode cX9_fewestTests 37 = .ok (.istore_n 3, 1) := by decide +kernel
theorem dX9_fewestTests_38 : decode cX9_fewestTests 38 = .ok (.iload_n 3, 1) := by decide +kernel
theorem dX9_fewestTests_39 : decode cX9_fewestTests 39 = .ok (.ifCond .eq 13, 3) := by decide +kernel
theorem dX9_fewestTests_42 : decode cX9_fewestTests 42 = .ok (.aload_n 0, 1) := by decide +kernel
theorem dX9_fewestTests_43 : decode cX9_fewestTests 43 = .ok (.iload_n 2, 1) := by decide +kernel
theorem dX9_fewestTests_44 : decode cX9_fewestTests 44 = .ok (.invokevirtual 94, 3) := by decide +kernel
theorem dX9_fewestTests_47 : decode cX9_fewestTests 47 = .ok (.ifCond .eq 5, 3) := by decide +kernel
theorem dX9_fewestTests_50 : decode cX9_fewestTests 50 = .ok (.iload_n 2, 1) := by decide +kernel
theorem dX9_fewestTests_51 : decode cX9_fewestTests 51 = .ok (.istore_n 1, 1) := by decide +kernel
theorem dX9_fewestTests_52 : decode cX9_fewestTests 52 = .ok (.iinc 2 1, 3) := by decide +kernel
theorem dX9_fewestTests_55 : decode cX9_fewestTests 55 = .ok (.goto (-50), 3) := by decide +kernel
theorem dX9_fewestTests_58 : decode cX9_fewestTests 58 = .ok (.iload_n 1, 1) := by decide +kernel
theorem dX9_fewestTests_59 : decode cX9_fewestTests 59 = .ok (.ireturn, 1) := by decide +kernel
def c_X9_fewestTests_j37 {ρ : Type}  (p : Nat) (K1 : Int32 → Option ρ) (REC : Int32 → Int32 → Option ρ) (x1 : Int32) (x2 : Int32) (y0 : Int32) (h : PH) : Option (ρ) :=
  nm y0 fun v3 =>
  if v3 = 0 then
    nm (x2 + 1) fun v4 =>
    REC x1 v4
  else
    (c_X9_tellsAllApart p x2 h).bind fun r5 =>
    if r5 = 0 then
      nm (x2 + 1) fun v6 =>
      REC x1 v6
    else
      nm x2 fun v7 =>
      nm (x2 + 1) fun v8 =>
      REC v7 v8
set_option maxHeartbeats 4000000 in
set_option maxRecDepth 100000 in
theorem w_X9_fewestTests_j37 {p0 : Program} {l : Launch} {e : Env} {s : State} {m : MethodId} {args : Array Value} {below : List Frame} {meth : Method} {c : Code} {Q : State → Prop} {D : va_G} {G : GG} {A : Nat → Prop} {H0 : Heap} {ad : Nat → Nat} {lay : List KK} {X : va_W} {ρ : Type} {p : Nat} {r0 : ρ} {x1 : Int32} {x2 : Int32} {y0 : Int32} {h : PH} {H : Heap} {locs : List Loc} {ls : Array Slot} {K1 : Int32 → Option ρ} {REC : Int32 → Int32 → Option ρ} (hM : CallFix p0 m c cX9_fewestTests 4 s args lw_g RX9) (ho : okX9 lay p) (hk1 : ∀ (x1 : Int32), ∀ (H : Heap) (locs : List Loc) (ls : Array Slot), K1 x1 = some r0 → Wd D G A H0 ad lay X h s H locs → lv_has ls 4 [(1, .int x1)] → W p0 l e (rmN 2 47) s m args below meth c H locs 0 0 Q (F0 m 58 ls [])) (hrec : ∀ (x1 : Int32) (x2 : Int32), ∀ (H : Heap) (locs : List Loc) (ls : Array Slot), REC x1 x2 = some r0 → Wd D G A H0 ad lay X h s H locs → lv_has ls 4 [(0, .ref (ad p)), (1, .int x1), (2, .int x2)] → W p0 l e (rmN 2 47) s m args below meth c H locs 0 0 Q (F0 m 5 ls [])) (hw : Wd D G A H0 ad lay X h s H locs) (hl : lv_has ls 4 [(0, .ref (ad p)), (1, .int x1), (2, .int x2)]) (hf : c_X9_fewestTests_j37 p K1 REC x1 x2 y0 h = some r0) : W p0 l e (rmN 2 47) s m args below meth c H locs 0 0 Q (F0 m 37 ls [.int y0]) := by
  unfold c_X9_fewestTests_j37 at hf
  refine x_istore_n hM hf dX9_fewestTests_37 rfl hl (by decide) (fun v3 => [(3, .int v3), (0, .ref (ad p)), (1, .int x1), (2, .int x2)]) (fun _ => rfl) (fun v3 ls hf hl => ?_)
  refine lv_iload_n hM.1 hM.2.1 dX9_fewestTests_38 rfl (lv_at hl 0 rfl) ?_
  refine x_if_eq (tgt := 52) hM hf dX9_fewestTests_39 (by decide) (fun hf => ?_) (fun hf => ?_)
  · refine x_iinc (k := 3) (d := 1) hM hf dX9_fewestTests_52 hl rfl (by decide) (by decide) (fun v4 => [(2, .int v4), (3, .int v3), (0, .ref (ad p)), (1, .int x1)]) (fun _ => rfl) (fun v4 ls hf hl => ?_)
    refine lv_goto (tgt := 5) hM.1 hM.2.1 dX9_fewestTests_55 (by decide) ?_
    exact hrec _ _ _ _ _ hf hw (lv_sub hl [2, 3, 0] rfl)
  refine lv_aload_n hM.1 hM.2.1 dX9_fewestTests_42 rfl (lv_at hl 1 rfl) ?_
  refine lv_iload_n hM.1 hM.2.1 dX9_fewestTests_43 rfl (lv_at hl 3 rfl) ?_
  refine x_callVIr (rest := []) hM hw (ct_X9_tellsAllApart l ho x2) [.int x2] (okX9.o ho) rfl rfl rfl (gi_V ml_X9_94 im_X9_tellsAllApart sl_X9_tellsAllApart in_X9 kc_X9_tellsAllApart) hd_X9_tellsAllApart rfl ⟨Nat.le_of_ble_eq_true rfl, Nat.le_of_ble_eq_true rfl⟩ rfl (Nat.le_of_ble_eq_true rfl) hl.1 hcs0 hf dX9_fewestTests_44 (fun r5 H locs hf hw => ?_)
  refine x_if_eq (tgt := 52) hM hf dX9_fewestTests_47 (by decide) (fun hf => ?_) (fun hf => ?_)
  · refine x_iinc (k := 3) (d := 1) hM hf dX9_fewestTests_52 hl rfl (by decide) (by decide) (fun v6 => [(2, .int v6), (3, .int v3), (0, .ref (ad p)), (1, .int x1)]) (fun _ => rfl) (fun v6 ls hf hl => ?_)
    refine lv_goto (tgt := 5) hM.1 hM.2.1 dX9_fewestTests_55 (by decide) ?_
    exact hrec _ _ _ _ _ hf hw (lv_sub hl [2, 3, 0] rfl)
  refine lv_iload_n hM.1 hM.2.1 dX9_fewestTests_50 rfl (lv_at hl 3 rfl) ?_
  refine x_istore_n hM hf dX9_fewestTests_51 rfl hl (by decide) (fun v7 => [(1, .int v7), (3, .int v3), (0, .ref (ad p)), (2, .int x2)]) (fun _ => rfl) (fun v7 ls hf hl => ?_)
  refine x_iinc (k := 3) (d := 1) hM hf dX9_fewestTests_52 hl rfl (by decide) (by decide) (fun v8 => [(2, .int v8), (1, .int v7), (3, .int v3), (0, .ref (ad p))]) (fun _ => rfl) (fun v8 ls hf hl => ?_)
  refine lv_goto (tgt := 5) hM.1 hM.2.1 dX9_fewestTests_55 (by decide) ?_
  exact hrec _ _ _ _ _ hf hw (lv_sub hl [3, 1, 0] rfl)
def c_X9_fewestTests_L5b {ρ : Type}  (p : Nat) (h : PH) (K1 : Int32 → Option ρ) (REC : Int32 → Int32 → Option ρ) (x1 : Int32) (x2 : Int32) : Option ρ :=
  if ((1 : Int32) <<< ((h.1 p 3) &&& 31)) ≤ x2 then
    K1 x1
  else
    if x1 = (-2) then
      c_X9_fewestTests_j37 p K1 REC x1 x2 1 h
    else
      (c_J6_bitCount_0f7a4 x2).bind fun r9 =>
      (c_J6_bitCount_0f7a4 x1).bind fun r10 =>
      if r10 ≤ r9 then
        c_X9_fewestTests_j37 p K1 REC x1 x2 0 h
      else
        c_X9_fewestTests_j37 p K1 REC x1 x2 1 h
set_option maxHeartbeats 4000000 in
set_option maxRecDepth 100000 in
theorem w_X9_fewestTests_L5b {p0 : Program} {l : Launch} {e : Env} {s : State} {m : MethodId} {args : Array Value} {below : List Frame} {meth : Method} {c : Code} {Q : State → Prop} {D : va_G} {G : GG} {A : Nat → Prop} {H0 : Heap} {ad : Nat → Nat} {lay : List KK} {X : va_W} {ρ : Type} {p : Nat} {r0 : ρ} {x1 : Int32} {x2 : Int32} {h : PH} {H : Heap} {locs : List Loc} {ls : Array Slot} {K1 : Int32 → Option ρ} {REC : Int32 → Int32 → Option ρ} (hM : CallFix p0 m c cX9_fewestTests 4 s args lw_g RX9) (ho : okX9 lay p) (hk1 : ∀ (x1 : Int32), ∀ (H : Heap) (locs : List Loc) (ls : Array Slot), K1 x1 = some r0 → Wd D G A H0 ad lay X h s H locs → lv_has ls 4 [(1, .int x1)] → W p0 l e (rmN 2 47) s m args below meth c H locs 0 0 Q (F0 m 58 ls [])) (hrec : ∀ (x1 : Int32) (x2 : Int32), ∀ (H : Heap) (locs : List Loc) (ls : Array Slot), REC x1 x2 = some r0 → Wd D G A H0 ad lay X h s H locs → lv_has ls 4 [(0, .ref (ad p)), (1, .int x1), (2, .int x2)] → W p0 l e (rmN 2 47) s m args below meth c H locs 0 0 Q (F0 m 5 ls [])) (hw : Wd D G A H0 ad lay X h s H locs) (hl : lv_has ls 4 [(0, .ref (ad p)), (1, .int x1), (2, .int x2)]) (hf : c_X9_fewestTests_L5b p h K1 REC x1 x2 = some r0) : W p0 l e (rmN 2 47) s m args below meth c H locs 0 0 Q (F0 m 5 ls []) := by
  unfold c_X9_fewestTests_L5b at hf
  refine lv_iload_n hM.1 hM.2.1 dX9_fewestTests_5 rfl (lv_at hl 2 rfl) ?_
  refine lv_iconst (v := 1) hM.1 hM.2.1 dX9_fewestTests_6 ic_1 ?_
  refine lv_aload_n hM.1 hM.2.1 dX9_fewestTests_7 rfl (lv_at hl 0 rfl) ?_
  refine gf_X9_tests hM hw (okX9.o ho) fl_X9_21 dX9_fewestTests_8 ?_
  refine lv_ishl hM.1 hM.2.1 dX9_fewestTests_11 ?_
  refine x_ic_ge (tgt := 58) hM hf dX9_fewestTests_12 (by decide) (fun hf => ?_) (fun hf => ?_)
  · exact hk1 _ _ _ _ hf hw (lv_sub hl [1] rfl)
  refine lv_iload_n hM.1 hM.2.1 dX9_fewestTests_15 rfl (lv_at hl 1 rfl) ?_
  refine lv_bipush (v := (-2)) hM.1 hM.2.1 dX9_fewestTests_16 (by decide) ?_
  refine x_ic_eq (tgt := 32) hM hf dX9_fewestTests_18 (by decide) (fun hf => ?_) (fun hf => ?_)
  · refine lv_iconst (v := 1) hM.1 hM.2.1 dX9_fewestTests_32 ic_1 ?_
    refine lv_goto (tgt := 37) hM.1 hM.2.1 dX9_fewestTests_33 (by decide) ?_
    exact w_X9_fewestTests_j37 hM ho hk1 hrec hw hl hf
  refine lv_iload_n hM.1 hM.2.1 dX9_fewestTests_21 rfl (lv_at hl 2 rfl) ?_
  refine x_callSIr (rest := []) hM hw (ct_J6_bitCount_0f7a4 l x2) [.int x2] rfl (gi_S ml_X9_89 sm_J6_bitCount_0f7a4 in_J6 kc_J6_bitCount_0f7a4) hd_J6_bitCount_0f7a4 rfl ⟨Nat.le_of_ble_eq_true rfl, Nat.le_of_ble_eq_true rfl⟩ rfl (Nat.le_of_ble_eq_true rfl) hl.1 hcs0 hf dX9_fewestTests_22 (fun r9 H locs hf hw => ?_)
  refine lv_iload_n hM.1 hM.2.1 dX9_fewestTests_25 rfl (lv_at hl 1 rfl) ?_
  refine x_callSIr (rest := [.int r9]) hM hw (ct_J6_bitCount_0f7a4 l x1) [.int x1] rfl (gi_S ml_X9_89 sm_J6_bitCount_0f7a4 in_J6 kc_J6_bitCount_0f7a4) hd_J6_bitCount_0f7a4 rfl ⟨Nat.le_of_ble_eq_true rfl, Nat.le_of_ble_eq_true rfl⟩ rfl (Nat.le_of_ble_eq_true rfl) hl.1 hcs0 hf dX9_fewestTests_26 (fun r10 H locs hf hw => ?_)
  refine x_ic_ge (tgt := 36) hM hf dX9_fewestTests_29 (by decide) (fun hf => ?_) (fun hf => ?_)
  · refine lv_iconst (v := 0) hM.1 hM.2.1 dX9_fewestTests_36 ic_0 ?_
    exact w_X9_fewestTests_j37 hM ho hk1 hrec hw hl hf
  refine lv_iconst (v := 1) hM.1 hM.2.1 dX9_fewestTests_32 ic_1 ?_
  refine lv_goto (tgt := 37) hM.1 hM.2.1 dX9_fewestTests_33 (by decide) ?_
  exact w_X9_fewestTests_j37 hM ho hk1 hrec hw hl hf
set_option maxHeartbeats 4000000 in
set_option maxRecDepth 100000 in
theorem w_X9_fewestTests_L5 {p0 : Program} {l : Launch} {e : Env} {s : State} {m : MethodId} {args : Array Value} {below : List Frame} {meth : Method} {c : Code} {Q : State → Prop} {D : va_G} {G : GG} {A : Nat → Prop} {H0 : Heap} {ad : Nat → Nat} {lay : List KK} {X : va_W} {ρ : Type} {p : Nat} {r0 : ρ} {h : PH} {K1 : Int32 → Option ρ} (hM : CallFix p0 m c cX9_fewestTests 4 s args lw_g RX9) (ho : okX9 lay p) (hk1 : ∀ (x1 : Int32), ∀ (H : Heap) (locs : List Loc) (ls : Array Slot), K1 x1 = some r0 → Wd D G A H0 ad lay X h s H locs → lv_has ls 4 [(1, .int x1)] → W p0 l e (rmN 2 47) s m args below meth c H locs 0 0 Q (F0 m 58 ls [])) (n : Nat) (x1 : Int32) (x2 : Int32) (hf : lq2 (c_X9_fewestTests_L5b p h K1) n x1 x2 = some r0) : ∀ (H : Heap) (locs : List Loc) (ls : Array Slot), Wd D G A H0 ad lay X h s H locs → lv_has ls 4 [(0, .ref (ad p)), (1, .int x1), (2, .int x2)] → W p0 l e (rmN 2 47) s m args below meth c H locs 0 0 Q (F0 m 5 ls []) := by
  exact lq2_i (fun (x1 : Int32) (x2 : Int32) => ∀ (H : Heap) (locs : List Loc) (ls : Array Slot), Wd D G A H0 ad lay X h s H locs → lv_has ls 4 [(0, .ref (ad p)), (1, .int x1), (2, .int x2)] → W p0 l e (rmN 2 47) s m args below meth c H locs 0 0 Q (F0 m 5 ls [])) (fun REC x1 x2 ih hf H locs ls hw hl => w_X9_fewestTests_L5b hM ho hk1 (fun x1 x2 H locs ls hf hw hl => ih x1 x2 hf H locs ls hw hl) hw hl hf) n x1 x2 hf
def c_X9_fewestTests (p : Nat) (h : PH) : Option (Int32) :=
  nm ((-2) : Int32) fun v1 =>
  nm (0 : Int32) fun v2 =>
  lq2 (c_X9_fewestTests_L5b p h
    (fun w11 =>
      some w11)) fu v1 v2
set_option maxHeartbeats 4000000 in
set_option maxRecDepth 100000 in
theorem ct_X9_fewestTests (l : Launch) {lay : List KK} {p : Nat} (ho : okX9 lay p) : CtI l yX9_fewestTests cX9_fewestTests 4 (some .int) 2 47 lay (rd (fun h => c_X9_fewestTests p h)) (fun ad => [.ref (ad p)]) := by
  refine CtI.mk' RX9 (by decide) rfl (fun _ => Nat.le_of_ble_eq_true rfl) ?_
  intro p0 e s m args below meth c D G A H0 ad X h r0 H ls Q hM hw hl hf hR
  have hl : lv_has ls 4 [(0, .ref (ad p))] := hl
  obtain ⟨v0, hv0, hr0⟩ : ∃ v0, c_X9_fewestTests p h = some v0 ∧ r0 = (v0, h) := rd_some hf
  subst hr0
  have hf := hv0
  unfold c_X9_fewestTests at hf
  refine lv_bipush (v := (-2)) hM.1 hM.2.1 dX9_fewestTests_0 (by decide) ?_
  refine x_istore_n hM hf dX9_fewestTests_2 rfl hl (by decide) (fun v1 => [(1, .int v1), (0, .ref (ad p))]) (fun _ => rfl) (fun v1 ls hf hl => ?_)
  refine lv_iconst (v := 0) hM.1 hM.2.1 dX9_fewestTests_3 ic_0 ?_
  refine x_istore_n hM hf dX9_fewestTests_4 rfl hl (by decide) (fun v2 => [(2, .int v2), (1, .int v1), (0, .ref (ad p))]) (fun _ => rfl) (fun v2 ls hf hl => ?_)
  refine w_X9_fewestTests_L5 hM ho (fun w11 H locs ls hf hw hl => ?_) fu _ _ hf _ _ _ hw (lv_sub hl [2, 1, 0] rfl)
  refine lv_iload_n hM.1 hM.2.1 dX9_fewestTests_58 rfl (lv_at hl 0 rfl) ?_
  exact hR _ _ _ _ _ _ _ (congrArg (fun z => (z, _)) (Option.some.inj hf)) rfl rfl hw dX9_fewestTests_59
theorem hd_X9_fewestTests : yX9_fewestTests.cls = RX9 ∧ yX9_fewestTests.cls ≠ "java/lang/invoke/MethodHandle" ∧ yX9_fewestTests.cls ≠ "java/lang/invoke/VarHandle" ∧ (parseMethodDescriptor yX9_fewestTests.desc).map (fun d => d.parameters.length) = some 0 := ⟨rfl, by decide, by decide, by decide +kernel⟩
