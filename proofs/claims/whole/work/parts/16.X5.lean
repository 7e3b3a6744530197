theorem dX5_clear_0 : decode cX5_clear 0 = .ok (.aload_n 0, 1) := by decide +kernel
theorem dX5_clear_1 : decode cX5_clear 1 = .ok (.iconst 0, 1) := by decide +kernel
theorem dX5_clear_2 : decode cX5_clear 2 = .ok (.putfield 21, 3) := by decide +kernel
theorem dX5_clear_5 : decode cX5_clear 5 = .ok (.return_, 1) := by decide +kernel
def c_X5_clear (p : Nat) (h : PH) : Option (PH) :=
  nm (setI h p 2 0) fun h1 =>
  some h1
set_option maxHeartbeats 4000000 in
set_option maxRecDepth 100000 in
theorem ct_X5_clear (l : Launch) {lay : List KK} {p : Nat} (ho : okX5 lay p) : CtV l yX5_clear cX5_clear 1 (none) 0 0 lay (fun h => c_X5_clear p h) (fun ad => [.ref (ad p)]) := by
  refine CtV.mk' RX5 (by decide) rfl (fun _ => Nat.le_of_ble_eq_true rfl) ?_
  intro p0 e s m args below meth c D G A H0 ad X h r0 H ls Q hM hw hl hf hR
  have hl : lv_has ls 1 [(0, .ref (ad p))] := hl
  unfold c_X5_clear at hf
  refine lv_aload_n hM.1 hM.2.1 dX5_clear_0 rfl (lv_at hl 0 rfl) ?_
  refine lv_iconst (v := 0) hM.1 hM.2.1 dX5_clear_1 ic_0 ?_
  refine pf_X5_count hM hw (okX5.o ho) fl_X5_21 hf dX5_clear_2 (fun h1 H locs hf hw => ?_)
  exact hR _ _ _ _ _ (Option.some.inj hf) rfl hw dX5_clear_5
theorem hd_X5_clear : yX5_clear.cls = RX5 ∧ yX5_clear.cls ≠ "java/lang/invoke/MethodHandle" ∧ yX5_clear.cls ≠ "java/lang/invoke/VarHandle" ∧ (parseMethodDescriptor yX5_clear.desc).map (fun d => d.parameters.length) = some 0 := ⟨rfl, by decide, by decide, by decide +kernel⟩
theorem dX5_keep_0 : decode cX5_keep 0 = .ok (.aload_n 0, 1) := by decide +kernel
theorem dX5_keep_1 : decode cX5_keep 1 = .ok (.getfield 11, 3) := by decide +kernel
theorem dX5_keep_4 : decode cX5_keep 4 = .ok (.aload_n 0, 1) := by decide +kernel
theorem dX5_keep_5 : decode cX5_keep 5 = .ok (.getfield 17, 3) := by decide +kernel
theorem dX5_keep_8 : decode cX5_keep 8 = .ok (.aaload, 1) := by decide +kernel
theorem dX5_keep_9 : decode cX5_keep 9 = .ok (.aload_n 1, 1) := by decide +kernel
theorem dX5_keep_10 : decode cX5_keep 10 = .ok (.invokevirtual 25, 3) := by decide +kernel
theorem dX5_keep_13 : decode cX5_keep 13 = .ok (.aload_n 0, 1) := by decide +kernel
theorem dX5_keep_14 : decode cX5_keep 14 = .ok (.aload_n 0, 1) := by decide +kernel
theorem dX5_keep_15 : decode cX5_keep 15 = .ok (.getfield 17, 3) := by decide +kernel
theorem dX5_keep_18 : decode cX5_keep 18 = .ok (.iconst 1, 1) := by decide +kernel
theorem dX5_keep_19 : decode cX5_keep 19 = .ok (.iadd, 1) := by decide +kernel
theorem dX5_keep_20 : decode cX5_keep 20 = .ok (.bipush 40, 2) := by decide +kernel
theorem dX5_keep_22 : decode cX5_keep 22 = .ok (.if_icmp .ge 12, 3) := by decide +kernel
theorem dX5_keep_25 : decode cX5_keep 25 = .ok (.aload_n 0, 1) := by decide +kernel
theorem dX5_keep_26 : decode cX5_keep 26 = .ok (.getfield 17, 3) := by decide +kernel
theorem dX5_keep_29 : decode cX5_keep 29 = .ok (.iconst 1, 1) := by decide +kernel
theorem dX5_keep_30 : decode cX5_keep 30 = .ok (.iadd, 1) := by decide +kernel
theorem dX5_keep_31 : decode cX5_keep 31 = .ok (.goto 4, 3) := by decide +kernel
theorem dX5_keep_34 : decode cX5_keep 34 = .ok (.iconst 0, 1) := by decide +kernel
theorem dX5_keep_35 : decode cX5_keep 35 = .ok (.putfield 17, 3) := by decide +kernel
theorem dX5_keep_38 : decode cX5_keep 38 = .ok (.aload_n 0, 1) := by decide +kernel
theorem dX5_keep_39 : decode cX5_keep 39 = .ok (.aload_n 0, 1) := by decide +kernel
theorem dX5_keep_40 : decode cX5_keep 40 = .ok (.getfield 21, 3) := by decide +kernel
theorem dX5_keep_43 : decode cX5_keep 43 = .ok (.iconst 1, 1) := by decide +kernel
theorem dX5_keep_44 : decode cX5_keep 44 = .ok (.iadd, 1) := by decide +kernel
theorem dX5_keep_45 : decode cX5_keep 45 = .ok (.bipush 40, 2) := by decide +kernel
theorem dX5_keep_47 : decode cX5_keep 47 = .ok (.invokestatic 29, 3) := by decide +kernel
theorem dX5_keep_50 : decode cX5_keep 50 = .ok (.putfield 21, 3) := by decide +kernel
theorem dX5_keep_53 : decode cX5_keep 53 = .ok (.return_, 1) := by decide +kernel
def c_X5_keep (p : Nat) (q1 : Nat) (h : PH) : Option (PH) :=
  gd (ixOK (h.1 p 1) 40) <|
  (c_X8_copy (p + 1 + 1 + 3 * (h.1 p 1).toNatClampNeg) q1 h).bind fun h2 =>
  if 40 ≤ ((h2.1 p 1) + 1) then
    nm (setI h2 p 1 0) fun h3 =>
    nm (setI h3 p 2 (jmin ((h3.1 p 2) + 1) 40)) fun h4 =>
    some h4
  else
    nm (setI h2 p 1 ((h2.1 p 1) + 1)) fun h5 =>
    nm (setI h5 p 2 (jmin ((h5.1 p 2) + 1) 40)) fun h6 =>
    some h6
set_option maxHeartbeats 4000000 in
set_option maxRecDepth 100000 in
theorem ct_X5_keep (l : Launch) {lay : List KK} {p : Nat} {q1 : Nat} (ho : okX5 lay p) (ho1 : okX8 lay q1) : CtV l yX5_keep cX5_keep 2 (none) 1 22 lay (fun h => c_X5_keep p q1 h) (fun ad => [.ref (ad p), .ref (ad q1)]) := by
  refine CtV.mk' RX5 (by decide) rfl (fun _ => Nat.le_of_ble_eq_true rfl) ?_
  intro p0 e s m args below meth c D G A H0 ad X h r0 H ls Q hM hw hl hf hR
  have hl : lv_has ls 2 [(0, .ref (ad p)), (1, .ref (ad q1))] := hl
  unfold c_X5_keep at hf
  refine lv_aload_n hM.1 hM.2.1 dX5_keep_0 rfl (lv_at hl 0 rfl) ?_
  refine gf_X5_ring hM hw (okX5.o ho) fl_X5_11 dX5_keep_1 ?_
  refine lv_aload_n hM.1 hM.2.1 dX5_keep_4 rfl (lv_at hl 0 rfl) ?_
  refine gf_X5_next hM hw (okX5.o ho) fl_X5_17 dX5_keep_5 ?_
  refine x_aaldS hM hw (okX5.ring ho) hf dX5_keep_8 (fun hi1 hf => ?_)
  refine lv_aload_n hM.1 hM.2.1 dX5_keep_9 rfl (lv_at hl 1 rfl) ?_
  refine x_callVV (rest := []) hM hw (ct_X8_copy l (okX5.ring_atI ho hi1) ho1) [.ref (ad q1)] (okX8.o (okX5.ring_atI ho hi1)) rfl rfl rfl (gi_V ml_X5_25 im_X8_copy sl_X8_copy in_X8 kc_X8_copy) hd_X8_copy rfl ⟨Nat.le_of_ble_eq_true rfl, Nat.le_of_ble_eq_true rfl⟩ rfl (Nat.le_of_ble_eq_true rfl) hl.1 hcs0 hf dX5_keep_10 (fun h2 H locs hf hw => ?_)
  refine lv_aload_n hM.1 hM.2.1 dX5_keep_13 rfl (lv_at hl 0 rfl) ?_
  refine lv_aload_n hM.1 hM.2.1 dX5_keep_14 rfl (lv_at hl 0 rfl) ?_
  refine gf_X5_next hM hw (okX5.o ho) fl_X5_17 dX5_keep_15 ?_
  refine lv_iconst (v := 1) hM.1 hM.2.1 dX5_keep_18 ic_1 ?_
  refine lv_iadd hM.1 hM.2.1 dX5_keep_19 ?_
  refine lv_bipush (v := 40) hM.1 hM.2.1 dX5_keep_20 (by decide) ?_
  refine x_ic_ge (tgt := 34) hM hf dX5_keep_22 (by decide) (fun hf => ?_) (fun hf => ?_)
  · refine lv_iconst (v := 0) hM.1 hM.2.1 dX5_keep_34 ic_0 ?_
    refine pf_X5_next hM hw (okX5.o ho) fl_X5_17 hf dX5_keep_35 (fun h3 H locs hf hw => ?_)
    refine lv_aload_n hM.1 hM.2.1 dX5_keep_38 rfl (lv_at hl 0 rfl) ?_
    refine lv_aload_n hM.1 hM.2.1 dX5_keep_39 rfl (lv_at hl 0 rfl) ?_
    refine gf_X5_count hM hw (okX5.o ho) fl_X5_21 dX5_keep_40 ?_
    refine lv_iconst (v := 1) hM.1 hM.2.1 dX5_keep_43 ic_1 ?_
    refine lv_iadd hM.1 hM.2.1 dX5_keep_44 ?_
    refine lv_bipush (v := 40) hM.1 hM.2.1 dX5_keep_45 (by decide) ?_
    refine x_mmin hM hl.1 hcs0 ml_X5_29 sm_J9_min_7cf53 in_J9 kc_J9_min_7cf53 (Nat.le_of_ble_eq_true rfl) (Nat.le_of_ble_eq_true rfl) dX5_keep_47 ?_
    refine pf_X5_count hM hw (okX5.o ho) fl_X5_21 hf dX5_keep_50 (fun h4 H locs hf hw => ?_)
    exact hR _ _ _ _ _ (Option.some.inj hf) rfl hw dX5_keep_53
  refine lv_aload_n hM.1 hM.2.1 dX5_keep_25 rfl (lv_at hl 0 rfl) ?_
  refine gf_X5_next hM hw (okX5.o ho) fl_X5_17 dX5_keep_26 ?_
  refine lv_iconst (v := 1) hM.1 hM.2.1 dX5_keep_29 ic_1 ?_
  refine lv_iadd hM.1 hM.2.1 dX5_keep_30 ?_
  refine lv_goto (tgt := 35) hM.1 hM.2.1 dX5_keep_31 (by decide) ?_
  refine pf_X5_next hM hw (okX5.o ho) fl_X5_17 hf dX5_keep_35 (fun h5 H locs hf hw => ?_)
  refine lv_aload_n hM.1 hM.2.1 dX5_keep_38 rfl (lv_at hl 0 rfl) ?_
  refine lv_aload_n hM.1 hM.2.1 dX5_keep_39 rfl (lv_at hl 0 rfl) ?_
  refine gf_X5_count hM hw (okX5.o ho) fl_X5_21 dX5_keep_40 ?_
  refine lv_iconst (v := 1) hM.1 hM.2.1 dX5_keep_43 ic_1 ?_
  refine lv_iadd hM.1 hM.2.1 dX5_keep_44 ?_
  refine lv_bipush (v := 40) hM.1 hM.2.1 dX5_keep_45 (by decide) ?_
  refine x_mmin hM hl.1 hcs0 ml_X5_29 sm_J9_min_7cf53 in_J9 kc_J9_min_7cf53 (Nat.le_of_ble_eq_true rfl) (Nat.le_of_ble_eq_true rfl) dX5_keep_47 ?_
  refine pf_X5_count hM hw (okX5.o ho) fl_X5_21 hf dX5_keep_50 (fun h6 H locs hf hw => ?_)
  exact hR _ _ _ _ _ (Option.some.inj hf) rfl hw dX5_keep_53
theorem hd_X5_keep : yX5_keep.cls = RX5 ∧ yX5_keep.cls ≠ "java/lang/invoke/MethodHandle" ∧ yX5_keep.cls ≠ "java/lang/invoke/VarHandle" ∧ (parseMethodDescriptor yX5_keep.desc).map (fun d => d.parameters.length) = some 1 := ⟨rfl, by decide, by decide, by decide +kernel⟩
theorem dX5_takeBack_0 : decode cX5_takeBack 0 = .ok (.aload_n 0, 1) := by decide +kernel
theorem dX5_takeBack_1 : decode cX5_takeBack 1 = .ok (.getfield 21, 3) := by decide +kernel
theorem dX5_takeBack_4 : decode cX5_takeBack 4 = .ok (.ifCond .ne 5, 3) := by decide +kernel
theorem dX5_takeBack_7 : decode cX5_takeBack 7 = .ok (.iconst 0, 1) := by decide +kernel
theorem dX5_takeBack_8 : decode cX5_takeBack 8 = .ok (.ireturn, 1) := by decide +kernel
theorem dX5_takeBack_9 : decode cX5_takeBack 9 = .ok (.aload_n 0, 1) := by decide +kernel
theorem dX5_takeBack_10 : decode cX5_takeBack 10 = .ok (.aload_n 0, 1) := by decide +kernel
theorem dX5_takeBack_11 : decode cX5_takeBack 11 = .ok (.getfield 17, 3) := by decide +kernel
theorem dX5_takeBack_14 : decode cX5_takeBack 14 = .ok (.ifCond .le 12, 3) := by decide +kernel
theorem dX5_takeBack_17 : decode cX5_takeBack 17 = .ok (.aload_n 0, 1) := by decide +kernel
theorem dX5_takeBack_18 : decode cX5_takeBack 18 = .ok (.getfield 17, 3) := by decide +kernel
theorem dX5_takeBack_21 : decode cX5_takeBack 21 = .ok (.iconst 1, 1) := by decide +kernel
theorem dX5_takeBack_22 : decode cX5_takeBack 22 = .ok (.isub, 1) := by decide +kernel
theorem dX5_takeBack_23 : decode cX5_takeBack 23 = .ok (.goto 5, 3) := by decide +kernel
theorem dX5_takeBack_26 : decode cX5_takeBack 26 = .ok (.bipush 39, 2) := by decide +kernel
theorem dX5_takeBack_28 : decode cX5_takeBack 28 = .ok (.putfield 17, 3) := by decide +kernel
theorem dX5_takeBack_31 : decode cX5_takeBack 31 = .ok (.aload_n 0, 1) := by decide +kernel
theorem dX5_takeBack_32 : decode cX5_takeBack 32 = .ok (.dup, 1) := by decide +kernel
theorem dX5_takeBack_33 : decode cX5_takeBack 33 = .ok (.getfield 21, 3) := by decide +kernel
theorem dX5_takeBack_36 : decode cX5_takeBack 36 = .ok (.iconst 1, 1) := by decide +kernel
theorem dX5_takeBack_37 : decode cX5_takeBack 37 = .ok (.isub, 1) := by decide +kernel
theorem dX5_takeBack_38 : decode cX5_takeBack 38 = .ok (.putfield 21, 3) := by decide +kernel
theorem dX5_takeBack_41 : decode cX5_takeBack 41 = .ok (.aload_n 1, 1) := by decide +kernel
theorem dX5_takeBack_42 : decode cX5_takeBack 42 = .ok (.aload_n 0, 1) := by decide +kernel
theorem dX5_takeBack_43 : decode cX5_takeBack 43 = .ok (.getfield 11, 3) := by decide +kernel
theorem dX5_takeBack_46 : decode cX5_takeBack 46 = .ok (.aload_n 0, 1) := by decide +kernel
theorem dX5_takeBack_47 : decode cX5_takeBack 47 = .ok (.getfield 17, 3) := by decide +kernel
theorem dX5_takeBack_50 : decode cX5_takeBack 50 = .ok (.aaload, 1) := by decide +kernel
theorem dX5_takeBack_51 : decode cX5_takeBack 51 = .ok (.invokevirtual 25, 3) := by decide +kernel
theorem dX5_takeBack_54 : decode cX5_takeBack 54 = .ok (.iconst 1, 1) := by decide +kernel
theorem dX5_takeBack_55 : decode cX5_takeBack 55 = .ok (.ireturn, 1) := by decide +kernel
def c_X5_takeBack_j28  (p : Nat) (q1 : Nat) (y0 : Int32) (h : PH) : Option (Int32 × PH) :=
  nm (setI h p 1 y0) fun h1 =>
  nm (setI h1 p 2 ((h1.1 p 2) - 1)) fun h2 =>
  gd (ixOK (h2.1 p 1) 40) <|
  (c_X8_copy q1 (p + 1 + 1 + 3 * (h2.1 p 1).toNatClampNeg) h2).bind fun h4 =>
  some (1, h4)
set_option maxHeartbeats 4000000 in
set_option maxRecDepth 100000 in
theorem w_X5_takeBack_j28 {p0 : Program} {l : Launch} {e : Env} {s : State} {m : MethodId} {args : Array Value} {below : List Frame} {meth : Method} {c : Code} {Q : State → Prop} {D : va_G} {G : GG} {A : Nat → Prop} {H0 : Heap} {ad : Nat → Nat} {lay : List KK} {X : va_W} {p : Nat} {q1 : Nat} {r0 : Int32 × PH} {y0 : Int32} {h : PH} {H : Heap} {locs : List Loc} {ls : Array Slot} (hM : CallFix p0 m c cX5_takeBack 2 s args lw_g RX5) (ho : okX5 lay p) (ho1 : okX8 lay q1) (hR : RtI p0 l e (rmN 1 22) s m args below meth c cX5_takeBack D G A H0 ad lay X (some .boolean) r0 Q 0 0) (hw : Wd D G A H0 ad lay X h s H locs) (hl : lv_has ls 2 [(0, .ref (ad p)), (1, .ref (ad q1))]) (hf : c_X5_takeBack_j28 p q1 y0 h = some r0) : W p0 l e (rmN 1 22) s m args below meth c H locs 0 0 Q (F0 m 28 ls [.int y0, .ref (ad p)]) := by
  unfold c_X5_takeBack_j28 at hf
  refine pf_X5_next hM hw (okX5.o ho) fl_X5_17 hf dX5_takeBack_28 (fun h1 H locs hf hw => ?_)
  refine lv_aload_n hM.1 hM.2.1 dX5_takeBack_31 rfl (lv_at hl 0 rfl) ?_
  refine lv_dup hM.1 hM.2.1 dX5_takeBack_32 rfl ?_
  refine gf_X5_count hM hw (okX5.o ho) fl_X5_21 dX5_takeBack_33 ?_
  refine lv_iconst (v := 1) hM.1 hM.2.1 dX5_takeBack_36 ic_1 ?_
  refine lv_isub hM.1 hM.2.1 dX5_takeBack_37 ?_
  refine pf_X5_count hM hw (okX5.o ho) fl_X5_21 hf dX5_takeBack_38 (fun h2 H locs hf hw => ?_)
  refine lv_aload_n hM.1 hM.2.1 dX5_takeBack_41 rfl (lv_at hl 1 rfl) ?_
  refine lv_aload_n hM.1 hM.2.1 dX5_takeBack_42 rfl (lv_at hl 0 rfl) ?_
  refine gf_X5_ring hM hw (okX5.o ho) fl_X5_11 dX5_takeBack_43 ?_
  refine lv_aload_n hM.1 hM.2.1 dX5_takeBack_46 rfl (lv_at hl 0 rfl) ?_
  refine gf_X5_next hM hw (okX5.o ho) fl_X5_17 dX5_takeBack_47 ?_
  refine x_aaldS hM hw (okX5.ring ho) hf dX5_takeBack_50 (fun hi3 hf => ?_)
  refine x_callVV (rest := []) hM hw (ct_X8_copy l ho1 (okX5.ring_atI ho hi3)) [.ref (ad (p + 1 + 1 + 3 * (h2.1 p 1).toNatClampNeg))] (okX8.o ho1) rfl rfl rfl (gi_V ml_X5_25 im_X8_copy sl_X8_copy in_X8 kc_X8_copy) hd_X8_copy rfl ⟨Nat.le_of_ble_eq_true rfl, Nat.le_of_ble_eq_true rfl⟩ rfl (Nat.le_of_ble_eq_true rfl) hl.1 hcs0 hf dX5_takeBack_51 (fun h4 H locs hf hw => ?_)
  refine lv_iconst (v := 1) hM.1 hM.2.1 dX5_takeBack_54 ic_1 ?_
  exact hR _ _ _ _ _ _ _ (Option.some.inj hf) rfl (nar_z (by decide)) hw dX5_takeBack_55
def c_X5_takeBack (p : Nat) (q1 : Nat) (h : PH) : Option (Int32 × PH) :=
  if (h.1 p 2) = 0 then
    some (0, h)
  else
    if (h.1 p 1) ≤ 0 then
      c_X5_takeBack_j28 p q1 39 h
    else
      c_X5_takeBack_j28 p q1 ((h.1 p 1) - 1) h
set_option maxHeartbeats 4000000 in
set_option maxRecDepth 100000 in
theorem ct_X5_takeBack (l : Launch) {lay : List KK} {p : Nat} {q1 : Nat} (ho : okX5 lay p) (ho1 : okX8 lay q1) : CtI l yX5_takeBack cX5_takeBack 2 (some .boolean) 1 22 lay (fun h => c_X5_takeBack p q1 h) (fun ad => [.ref (ad p), .ref (ad q1)]) := by
  refine CtI.mk' RX5 (by decide) rfl (fun _ => Nat.le_of_ble_eq_true rfl) ?_
  intro p0 e s m args below meth c D G A H0 ad X h r0 H ls Q hM hw hl hf hR
  have hl : lv_has ls 2 [(0, .ref (ad p)), (1, .ref (ad q1))] := hl
  unfold c_X5_takeBack at hf
  refine lv_aload_n hM.1 hM.2.1 dX5_takeBack_0 rfl (lv_at hl 0 rfl) ?_
  refine gf_X5_count hM hw (okX5.o ho) fl_X5_21 dX5_takeBack_1 ?_
  refine x_if_ne (tgt := 9) hM hf dX5_takeBack_4 (by decide) (fun hf => ?_) (fun hf => ?_)
  · refine lv_aload_n hM.1 hM.2.1 dX5_takeBack_9 rfl (lv_at hl 0 rfl) ?_
    refine lv_aload_n hM.1 hM.2.1 dX5_takeBack_10 rfl (lv_at hl 0 rfl) ?_
    refine gf_X5_next hM hw (okX5.o ho) fl_X5_17 dX5_takeBack_11 ?_
    refine x_if_le (tgt := 26) hM hf dX5_takeBack_14 (by decide) (fun hf => ?_) (fun hf => ?_)
    · refine lv_bipush (v := 39) hM.1 hM.2.1 dX5_takeBack_26 (by decide) ?_
      exact w_X5_takeBack_j28 hM ho ho1 hR hw hl hf
    refine lv_aload_n hM.1 hM.2.1 dX5_takeBack_17 rfl (lv_at hl 0 rfl) ?_
    refine gf_X5_next hM hw (okX5.o ho) fl_X5_17 dX5_takeBack_18 ?_
    refine lv_iconst (v := 1) hM.1 hM.2.1 dX5_takeBack_21 ic_1 ?_
    refine lv_isub hM.1 hM.2.1 dX5_takeBack_22 ?_
    refine lv_goto (tgt := 28) hM.1 hM.2.1 dX5_takeBack_23 (by decide) ?_
    exact w_X5_takeBack_j28 hM ho ho1 hR hw hl hf
  refine lv_iconst (v := 0) hM.1 hM.2.1 dX5_takeBack_7 ic_0 ?_
  exact hR _ _ _ _ _ _ _ (Option.some.inj hf) rfl (nar_z (by decide)) hw dX5_takeBack_8
theorem hd_X5_takeBack : yX5_takeBack.cls = RX5 ∧ yX5_takeBack.cls ≠ "java/lang/invoke/MethodHandle" ∧ yX5_takeBack.cls ≠ "java/lang/invoke/VarHandle" ∧ (parseMethodDescriptor yX5_takeBack.desc).map (fun d => d.parameters.length) = some 1 := ⟨rfl, by decide, by decide, by decide +kernel⟩
