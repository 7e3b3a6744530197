theorem dX12_put_0 : decode cX12_put 0 = .ok (.bipush 24, 2) := by decide +kernel
theorem dX12_put_2 : decode cX12_put 2 = .ok (.istore_n 2, 1) := by decide +kernel
theorem dX12_put_3 : decode cX12_put 3 = .ok (.iload_n 2, 1) := by decide +kernel
theorem dX12_put_4 : decode cX12_put 4 = .ok (.ifCond .lt 32, 3) := by decide +kernel
theorem dX12_put_7 : decode cX12_put 7 = .ok (.aload_n 0, 1) := by decide +kernel
theorem dX12_put_8 : decode cX12_put 8 = .ok (.getfield 13, 3) := by decide +kernel
theorem dX12_put_11 : decode cX12_put 11 = .ok (.aload_n 0, 1) := by decide +kernel
theorem dX12_put_12 : decode cX12_put 12 = .ok (.getfield 199, 3) := by decide +kernel
theorem dX12_put_15 : decode cX12_put 15 = .ok (.iload_n 1, 1) := by decide +kernel
theorem dX12_put_16 : decode cX12_put 16 = .ok (.iload_n 2, 1) := by decide +kernel
theorem dX12_put_17 : decode cX12_put 17 = .ok (.ishr, 1) := by decide +kernel
theorem dX12_put_18 : decode cX12_put 18 = .ok (.i2b, 1) := by decide +kernel
theorem dX12_put_19 : decode cX12_put 19 = .ok (.bastore, 1) := by decide +kernel
theorem dX12_put_20 : decode cX12_put 20 = .ok (.aload_n 0, 1) := by decide +kernel
theorem dX12_put_21 : decode cX12_put 21 = .ok (.dup, 1) := by decide +kernel
theorem dX12_put_22 : decode cX12_put 22 = .ok (.getfield 199, 3) := by decide +kernel
theorem dX12_put_25 : decode cX12_put 25 = .ok (.iconst 1, 1) := by decide +kernel
theorem dX12_put_26 : decode cX12_put 26 = .ok (.iadd, 1) := by decide +kernel
theorem dX12_put_27 : decode cX12_put 27 = .ok (.putfield 199, 3) := by decide +kernel
theorem dX12_put_30 : decode cX12_put 30 = .ok (.iinc 2 (-8), 3) := by decide +kernel
theorem dX12_put_33 : decode cX12_put 33 = .ok (.goto (-30), 3) := by decide +kernel
theorem dX12_put_36 : decode cX12_put 36 = .ok (.return_, 1) := by decide +kernel
def c_X12_put_L3b {ρ : Type}  (z1 : Int32) (K1 : PH → Option ρ) (REC : Int32 → PH → Option ρ) (x2 : Int32) (h : PH) : Option ρ :=
  if x2 < 0 then
    K1 h
  else
    gd (ixOK (h.1 0 2) 2000) <| nm (setI h 1 (h.1 0 2).toNatClampNeg (vp_nar .byte ((z1 >>> (x2 &&& 31)).toInt8.toInt32))) fun h2 =>
    nm (setI h2 0 2 ((h2.1 0 2) + 1)) fun h3 =>
    nm (x2 + (-8)) fun v4 =>
    REC v4 h3
set_option maxHeartbeats 4000000 in
set_option maxRecDepth 100000 in
theorem w_X12_put_L3b {p0 : Program} {l : Launch} {e : Env} {s : State} {m : MethodId} {args : Array Value} {below : List Frame} {meth : Method} {c : Code} {Q : State → Prop} {D : va_G} {G : GG} {A : Nat → Prop} {H0 : Heap} {ad : Nat → Nat} {lay : List KK} {X : va_W} {ρ : Type} {r0 : ρ} {z1 : Int32} {x2 : Int32} {h : PH} {H : Heap} {locs : List Loc} {ls : Array Slot} {K1 : PH → Option ρ} {REC : Int32 → PH → Option ρ} (hM : CallFix p0 m c cX12_put 3 s args lw_g RX12) (ho : okX12 lay) (hk1 : ∀ (h : PH), ∀ (H : Heap) (locs : List Loc) (ls : Array Slot), K1 h = some r0 → Wd D G A H0 ad lay X h s H locs → lv_has ls 3 [] → W p0 l e (rmN 0 0) s m args below meth c H locs 0 0 Q (F0 m 36 ls [])) (hrec : ∀ (x2 : Int32) (h : PH), ∀ (H : Heap) (locs : List Loc) (ls : Array Slot), REC x2 h = some r0 → Wd D G A H0 ad lay X h s H locs → lv_has ls 3 [(0, .ref (ad 0)), (1, .int z1), (2, .int x2)] → W p0 l e (rmN 0 0) s m args below meth c H locs 0 0 Q (F0 m 3 ls [])) (hw : Wd D G A H0 ad lay X h s H locs) (hl : lv_has ls 3 [(0, .ref (ad 0)), (1, .int z1), (2, .int x2)]) (hf : c_X12_put_L3b z1 K1 REC x2 h = some r0) : W p0 l e (rmN 0 0) s m args below meth c H locs 0 0 Q (F0 m 3 ls []) := by
  unfold c_X12_put_L3b at hf
  refine lv_iload_n hM.1 hM.2.1 dX12_put_3 rfl (lv_at hl 2 rfl) ?_
  refine x_if_lt (tgt := 36) hM hf dX12_put_4 (by decide) (fun hf => ?_) (fun hf => ?_)
  · exact hk1 _ _ _ _ hf hw (lv_sub hl [] rfl)
  refine lv_aload_n hM.1 hM.2.1 dX12_put_7 rfl (lv_at hl 0 rfl) ?_
  refine gf_X12_tape hM hw (okX12.o ho) fl_X12_13 dX12_put_8 ?_
  refine lv_aload_n hM.1 hM.2.1 dX12_put_11 rfl (lv_at hl 0 rfl) ?_
  refine gf_X12_taped hM hw (okX12.o ho) fl_X12_199 dX12_put_12 ?_
  refine lv_iload_n hM.1 hM.2.1 dX12_put_15 rfl (lv_at hl 1 rfl) ?_
  refine lv_iload_n hM.1 hM.2.1 dX12_put_16 rfl (lv_at hl 2 rfl) ?_
  refine lv_ishr hM.1 hM.2.1 dX12_put_17 ?_
  refine lv_i2b hM.1 hM.2.1 dX12_put_18 rfl ?_
  refine x_bast hM hw (okX12.tape ho) hf dX12_put_19 (fun h2 H locs hf hw => ?_)
  refine lv_aload_n hM.1 hM.2.1 dX12_put_20 rfl (lv_at hl 0 rfl) ?_
  refine lv_dup hM.1 hM.2.1 dX12_put_21 rfl ?_
  refine gf_X12_taped hM hw (okX12.o ho) fl_X12_199 dX12_put_22 ?_
  refine lv_iconst (v := 1) hM.1 hM.2.1 dX12_put_25 ic_1 ?_
  refine lv_iadd hM.1 hM.2.1 dX12_put_26 ?_
  refine pf_X12_taped hM hw (okX12.o ho) fl_X12_199 hf dX12_put_27 (fun h3 H locs hf hw => ?_)
  refine x_iinc (k := 2) (d := (-8)) hM hf dX12_put_30 hl rfl (by decide) (by decide) (fun v4 => [(2, .int v4), (0, .ref (ad 0)), (1, .int z1)]) (fun _ => rfl) (fun v4 ls hf hl => ?_)
  refine lv_goto (tgt := 3) hM.1 hM.2.1 dX12_put_33 (by decide) ?_
  exact hrec _ _ _ _ _ hf hw (lv_sub hl [1, 2, 0] rfl)
set_option maxHeartbeats 4000000 in
set_option maxRecDepth 100000 in
theorem w_X12_put_L3 {p0 : Program} {l : Launch} {e : Env} {s : State} {m : MethodId} {args : Array Value} {below : List Frame} {meth : Method} {c : Code} {Q : State → Prop} {D : va_G} {G : GG} {A : Nat → Prop} {H0 : Heap} {ad : Nat → Nat} {lay : List KK} {X : va_W} {ρ : Type} {r0 : ρ} {z1 : Int32} {K1 : PH → Option ρ} (hM : CallFix p0 m c cX12_put 3 s args lw_g RX12) (ho : okX12 lay) (hk1 : ∀ (h : PH), ∀ (H : Heap) (locs : List Loc) (ls : Array Slot), K1 h = some r0 → Wd D G A H0 ad lay X h s H locs → lv_has ls 3 [] → W p0 l e (rmN 0 0) s m args below meth c H locs 0 0 Q (F0 m 36 ls [])) (n : Nat) (x2 : Int32) (h : PH) (hf : lq2 (c_X12_put_L3b z1 K1) n x2 h = some r0) : ∀ (H : Heap) (locs : List Loc) (ls : Array Slot), Wd D G A H0 ad lay X h s H locs → lv_has ls 3 [(0, .ref (ad 0)), (1, .int z1), (2, .int x2)] → W p0 l e (rmN 0 0) s m args below meth c H locs 0 0 Q (F0 m 3 ls []) := by
  exact lq2_i (fun (x2 : Int32) (h : PH) => ∀ (H : Heap) (locs : List Loc) (ls : Array Slot), Wd D G A H0 ad lay X h s H locs → lv_has ls 3 [(0, .ref (ad 0)), (1, .int z1), (2, .int x2)] → W p0 l e (rmN 0 0) s m args below meth c H locs 0 0 Q (F0 m 3 ls [])) (fun REC x2 h ih hf H locs ls hw hl => w_X12_put_L3b hM ho hk1 (fun x2 h H locs ls hf hw hl => ih x2 h hf H locs ls hw hl) hw hl hf) n x2 h hf
def c_X12_put (a1 : Int32) (h : PH) : Option (PH) :=
  nm (24 : Int32) fun v1 =>
  lq2 (c_X12_put_L3b a1
    (fun h5 =>
      some h5)) fu v1 h
set_option maxHeartbeats 4000000 in
set_option maxRecDepth 100000 in
theorem ct_X12_put (l : Launch) {lay : List KK} (ho : okX12 lay) (a1 : Int32) : CtV l yX12_put cX12_put 3 (none) 0 0 lay (fun h => c_X12_put a1 h) (fun ad => [.ref (ad 0), .int a1]) := by
  refine CtV.mk' RX12 (by decide) rfl (fun _ => Nat.le_of_ble_eq_true rfl) ?_
  intro p0 e s m args below meth c D G A H0 ad X h r0 H ls Q hM hw hl hf hR
  have hl : lv_has ls 3 [(0, .ref (ad 0)), (1, .int a1)] := hl
  unfold c_X12_put at hf
  refine lv_bipush (v := 24) hM.1 hM.2.1 dX12_put_0 (by decide) ?_
  refine x_istore_n hM hf dX12_put_2 rfl hl (by decide) (fun v1 => [(2, .int v1), (0, .ref (ad 0)), (1, .int a1)]) (fun _ => rfl) (fun v1 ls hf hl => ?_)
  refine w_X12_put_L3 hM ho (fun h5 H locs ls hf hw hl => ?_) fu _ _ hf _ _ _ hw (lv_sub hl [1, 2, 0] rfl)
  exact hR _ _ _ _ _ (Option.some.inj hf) rfl hw dX12_put_36
theorem hd_X12_put : yX12_put.cls = RX12 ∧ yX12_put.cls ≠ "java/lang/invoke/MethodHandle" ∧ yX12_put.cls ≠ "java/lang/invoke/VarHandle" ∧ (parseMethodDescriptor yX12_put.desc).map (fun d => d.parameters.length) = some 1 := ⟨rfl, by decide, by decide, by decide +kernel⟩
theorem dX12_feed_0 : decode cX12_feed 0 = .ok (.aload_n 0, 1) := by decide +kernel
theorem dX12_feed_1 : decode cX12_feed 1 = .ok (.getfield 199, 3) := by decide +kernel
theorem dX12_feed_4 : decode cX12_feed 4 = .ok (.bipush 20, 2) := by decide +kernel
theorem dX12_feed_6 : decode cX12_feed 6 = .ok (.iadd, 1) := by decide +kernel
theorem dX12_feed_7 : decode cX12_feed 7 = .ok (.sipush 2000, 3) := by decide +kernel
theorem dX12_feed_10 : decode cX12_feed 10 = .ok (.if_icmp .le 5, 3) := by decide +kernel
theorem dX12_feed_13 : decode cX12_feed 13 = .ok (.iconst (-1), 1) := by decide +kernel
theorem dX12_feed_14 : decode cX12_feed 14 = .ok (.ireturn, 1) := by decide +kernel
theorem dX12_feed_15 : decode cX12_feed 15 = .ok (.aload_n 0, 1) := by decide +kernel
theorem dX12_feed_16 : decode cX12_feed 16 = .ok (.iload_n 1, 1) := by decide +kernel
theorem dX12_feed_17 : decode cX12_feed 17 = .ok (.invokevirtual 202, 3) := by decide +kernel
theorem dX12_feed_20 : decode cX12_feed 20 = .ok (.aload_n 0, 1) := by decide +kernel
theorem dX12_feed_21 : decode cX12_feed 21 = .ok (.iload_n 2, 1) := by decide +kernel
theorem dX12_feed_22 : decode cX12_feed 22 = .ok (.invokevirtual 202, 3) := by decide +kernel
theorem dX12_feed_25 : decode cX12_feed 25 = .ok (.aload_n 0, 1) := by decide +kernel
theorem dX12_feed_26 : decode cX12_feed 26 = .ok (.iload_n 3, 1) := by decide +kernel
theorem dX12_feed_27 : decode cX12_feed 27 = .ok (.invokevirtual 202, 3) := by decide +kernel
theorem dX12_feed_30 : decode cX12_feed 30 = .ok (.aload_n 0, 1) := by decide +kernel
theorem dX12_feed_31 : decode cX12_feed 31 = .ok (.iload 4, 2) := by decide +kernel
theorem dX12_feed_33 : decode cX12_feed 33 = .ok (.invokevirtual 202, 3) := by decide +kernel
theorem dX12_feed_36 : decode cX12_feed 36 = .ok (.aload_n 0, 1) := by decide +kernel
theorem dX12_feed_37 : decode cX12_feed 37 = .ok (.iload 5, 2) := by decide +kernel
theorem dX12_feed_39 : decode cX12_feed 39 = .ok (.invokevirtual 202, 3) := by decide +kernel
theorem dX12_feed_42 : decode cX12_feed 42 = .ok (.aload_n 0, 1) := by decide +kernel
theorem dX12_feed_43 : decode cX12_feed 43 = .ok (.getfield 199, 3) := by decide +kernel
theorem dX12_feed_46 : decode cX12_feed 46 = .ok (.ireturn, 1) := by decide +kernel
def c_X12_feed (a1 : Int32) (a2 : Int32) (a3 : Int32) (a4 : Int32) (a5 : Int32) (h : PH) : Option (Int32 × PH) :=
  if ((h.1 0 2) + 20) ≤ 2000 then
    (c_X12_put a1 h).bind fun h1 =>
    (c_X12_put a2 h1).bind fun h2 =>
    (c_X12_put a3 h2).bind fun h3 =>
    (c_X12_put a4 h3).bind fun h4 =>
    (c_X12_put a5 h4).bind fun h5 =>
    some ((h5.1 0 2), h5)
  else
    some ((-1), h)
set_option maxHeartbeats 4000000 in
set_option maxRecDepth 100000 in
theorem ct_X12_feed (l : Launch) {lay : List KK} (ho : okX12 lay) (a1 : Int32) (a2 : Int32) (a3 : Int32) (a4 : Int32) (a5 : Int32) : CtI l yX12_feed cX12_feed 6 (some .int) 1 22 lay (fun h => c_X12_feed a1 a2 a3 a4 a5 h) (fun ad => [.ref (ad 0), .int a1, .int a2, .int a3, .int a4, .int a5]) := by
  refine CtI.mk' RX12 (by decide) rfl (fun _ => Nat.le_of_ble_eq_true rfl) ?_
  intro p0 e s m args below meth c D G A H0 ad X h r0 H ls Q hM hw hl hf hR
  have hl : lv_has ls 6 [(0, .ref (ad 0)), (1, .int a1), (2, .int a2), (3, .int a3), (4, .int a4), (5, .int a5)] := hl
  unfold c_X12_feed at hf
  refine lv_aload_n hM.1 hM.2.1 dX12_feed_0 rfl (lv_at hl 0 rfl) ?_
  refine gf_X12_taped hM hw (okX12.o ho) fl_X12_199 dX12_feed_1 ?_
  refine lv_bipush (v := 20) hM.1 hM.2.1 dX12_feed_4 (by decide) ?_
  refine lv_iadd hM.1 hM.2.1 dX12_feed_6 ?_
  refine lv_sipush (v := 2000) hM.1 hM.2.1 dX12_feed_7 (by decide) ?_
  refine x_ic_le (tgt := 15) hM hf dX12_feed_10 (by decide) (fun hf => ?_) (fun hf => ?_)
  · refine lv_aload_n hM.1 hM.2.1 dX12_feed_15 rfl (lv_at hl 0 rfl) ?_
    refine lv_iload_n hM.1 hM.2.1 dX12_feed_16 rfl (lv_at hl 1 rfl) ?_
    refine x_callVV (rest := []) hM hw (ct_X12_put l ho a1) [.int a1] (okX12.o ho) rfl rfl rfl (gi_V ml_X12_202 im_X12_put sl_X12_put in_X12 kc_X12_put) hd_X12_put rfl ⟨Nat.le_of_ble_eq_true rfl, Nat.le_of_ble_eq_true rfl⟩ rfl (Nat.le_of_ble_eq_true rfl) hl.1 hcs0 hf dX12_feed_17 (fun h1 H locs hf hw => ?_)
    refine lv_aload_n hM.1 hM.2.1 dX12_feed_20 rfl (lv_at hl 0 rfl) ?_
    refine lv_iload_n hM.1 hM.2.1 dX12_feed_21 rfl (lv_at hl 2 rfl) ?_
    refine x_callVV (rest := []) hM hw (ct_X12_put l ho a2) [.int a2] (okX12.o ho) rfl rfl rfl (gi_V ml_X12_202 im_X12_put sl_X12_put in_X12 kc_X12_put) hd_X12_put rfl ⟨Nat.le_of_ble_eq_true rfl, Nat.le_of_ble_eq_true rfl⟩ rfl (Nat.le_of_ble_eq_true rfl) hl.1 hcs0 hf dX12_feed_22 (fun h2 H locs hf hw => ?_)
    refine lv_aload_n hM.1 hM.2.1 dX12_feed_25 rfl (lv_at hl 0 rfl) ?_
    refine lv_iload_n hM.1 hM.2.1 dX12_feed_26 rfl (lv_at hl 3 rfl) ?_
    refine x_callVV (rest := []) hM hw (ct_X12_put l ho a3) [.int a3] (okX12.o ho) rfl rfl rfl (gi_V ml_X12_202 im_X12_put sl_X12_put in_X12 kc_X12_put) hd_X12_put rfl ⟨Nat.le_of_ble_eq_true rfl, Nat.le_of_ble_eq_true rfl⟩ rfl (Nat.le_of_ble_eq_true rfl) hl.1 hcs0 hf dX12_feed_27 (fun h3 H locs hf hw => ?_)
    refine lv_aload_n hM.1 hM.2.1 dX12_feed_30 rfl (lv_at hl 0 rfl) ?_
    refine lv_iload hM.1 hM.2.1 dX12_feed_31 (lv_at hl 4 rfl) ?_
    refine x_callVV (rest := []) hM hw (ct_X12_put l ho a4) [.int a4] (okX12.o ho) rfl rfl rfl (gi_V ml_X12_202 im_X12_put sl_X12_put in_X12 kc_X12_put) hd_X12_put rfl ⟨Nat.le_of_ble_eq_true rfl, Nat.le_of_ble_eq_true rfl⟩ rfl (Nat.le_of_ble_eq_true rfl) hl.1 hcs0 hf dX12_feed_33 (fun h4 H locs hf hw => ?_)
    refine lv_aload_n hM.1 hM.2.1 dX12_feed_36 rfl (lv_at hl 0 rfl) ?_
    refine lv_iload hM.1 hM.2.1 dX12_feed_37 (lv_at hl 5 rfl) ?_
    refine x_callVV (rest := []) hM hw (ct_X12_put l ho a5) [.int a5] (okX12.o ho) rfl rfl rfl (gi_V ml_X12_202 im_X12_put sl_X12_put in_X12 kc_X12_put) hd_X12_put rfl ⟨Nat.le_of_ble_eq_true rfl, Nat.le_of_ble_eq_true rfl⟩ rfl (Nat.le_of_ble_eq_true rfl) hl.1 hcs0 hf dX12_feed_39 (fun h5 H locs hf hw => ?_)
    refine lv_aload_n hM.1 hM.2.1 dX12_feed_42 rfl (lv_at hl 0 rfl) ?_
    refine gf_X12_taped hM hw (okX12.o ho) fl_X12_199 dX12_feed_43 ?_
    exact hR _ _ _ _ _ _ _ (Option.some.inj hf) rfl rfl hw dX12_feed_46
  refine lv_iconst (v := (-1)) hM.1 hM.2.1 dX12_feed_13 ic_m1 ?_
  exact hR _ _ _ _ _ _ _ (Option.some.inj hf) rfl rfl hw dX12_feed_14
theorem hd_X12_feed : yX12_feed.cls = RX12 ∧ yX12_feed.cls ≠ "java/lang/invoke/MethodHandle" ∧ yX12_feed.cls ≠ "java/lang/invoke/VarHandle" ∧ (parseMethodDescriptor yX12_feed.desc).map (fun d => d.parameters.length) = some 5 := ⟨rfl, by decide, by decide, by decide +kernel⟩
theorem dX12_back_0 : decode cX12_back 0 = .ok (.iload_n 1, 1) := by decide +kernel
theorem dX12_back_1 : decode cX12_back 1 = .ok (.ifCond .lt 11, 3) := by decide +kernel
theorem dX12_back_4 : decode cX12_back 4 = .ok (.iload_n 1, 1) := by decide +kernel
theorem dX12_back_5 : decode cX12_back 5 = .ok (.aload_n 0, 1) := by decide +kernel
theorem dX12_back_6 : decode cX12_back 6 = .ok (.getfield 199, 3) := by decide +kernel
theorem dX12_back_9 : decode cX12_back 9 = .ok (.if_icmp .le 5, 3) := by decide +kernel
theorem dX12_back_12 : decode cX12_back 12 = .ok (.iconst (-1), 1) := by decide +kernel
theorem dX12_back_13 : decode cX12_back 13 = .ok (.ireturn, 1) := by decide +kernel
theorem dX12_back_14 : decode cX12_back 14 = .ok (.aload_n 0, 1) := by decide +kernel
theorem dX12_back_15 : decode cX12_back 15 = .ok (.dup, 1) := by decide +kernel
theorem dX12_back_16 : decode cX12_back 16 = .ok (.getfield 199, 3) := by decide +kernel
theorem dX12_back_19 : decode cX12_back 19 = .ok (.iload_n 1, 1) := by decide +kernel
theorem dX12_back_20 : decode cX12_back 20 = .ok (.isub, 1) := by decide +kernel
theorem dX12_back_21 : decode cX12_back 21 = .ok (.putfield 199, 3) := by decide +kernel
theorem dX12_back_24 : decode cX12_back 24 = .ok (.aload_n 0, 1) := by decide +kernel
theorem dX12_back_25 : decode cX12_back 25 = .ok (.getfield 199, 3) := by decide +kernel
theorem dX12_back_28 : decode cX12_back 28 = .ok (.ireturn, 1) := by decide +kernel
def c_X12_back (a1 : Int32) (h : PH) : Option (Int32 × PH) :=
  if a1 < 0 then
    some ((-1), h)
  else
    if a1 ≤ (h.1 0 2) then
      nm (setI h 0 2 ((h.1 0 2) - a1)) fun h1 =>
      some ((h1.1 0 2), h1)
    else
      some ((-1), h)
set_option maxHeartbeats 4000000 in
set_option maxRecDepth 100000 in
theorem ct_X12_back (l : Launch) {lay : List KK} (ho : okX12 lay) (a1 : Int32) : CtI l yX12_back cX12_back 2 (some .int) 0 0 lay (fun h => c_X12_back a1 h) (fun ad => [.ref (ad 0), .int a1]) := by
  refine CtI.mk' RX12 (by decide) rfl (fun _ => Nat.le_of_ble_eq_true rfl) ?_
  intro p0 e s m args below meth c D G A H0 ad X h r0 H ls Q hM hw hl hf hR
  have hl : lv_has ls 2 [(0, .ref (ad 0)), (1, .int a1)] := hl
  unfold c_X12_back at hf
  refine lv_iload_n hM.1 hM.2.1 dX12_back_0 rfl (lv_at hl 1 rfl) ?_
  refine x_if_lt (tgt := 12) hM hf dX12_back_1 (by decide) (fun hf => ?_) (fun hf => ?_)
  · refine lv_iconst (v := (-1)) hM.1 hM.2.1 dX12_back_12 ic_m1 ?_
    exact hR _ _ _ _ _ _ _ (Option.some.inj hf) rfl rfl hw dX12_back_13
  refine lv_iload_n hM.1 hM.2.1 dX12_back_4 rfl (lv_at hl 1 rfl) ?_
  refine lv_aload_n hM.1 hM.2.1 dX12_back_5 rfl (lv_at hl 0 rfl) ?_
  refine gf_X12_taped hM hw (okX12.o ho) fl_X12_199 dX12_back_6 ?_
  refine x_ic_le (tgt := 14) hM hf dX12_back_9 (by decide) (fun hf => ?_) (fun hf => ?_)
  · refine lv_aload_n hM.1 hM.2.1 dX12_back_14 rfl (lv_at hl 0 rfl) ?_
    refine lv_dup hM.1 hM.2.1 dX12_back_15 rfl ?_
    refine gf_X12_taped hM hw (okX12.o ho) fl_X12_199 dX12_back_16 ?_
    refine lv_iload_n hM.1 hM.2.1 dX12_back_19 rfl (lv_at hl 1 rfl) ?_
    refine lv_isub hM.1 hM.2.1 dX12_back_20 ?_
    refine pf_X12_taped hM hw (okX12.o ho) fl_X12_199 hf dX12_back_21 (fun h1 H locs hf hw => ?_)
    refine lv_aload_n hM.1 hM.2.1 dX12_back_24 rfl (lv_at hl 0 rfl) ?_
    refine gf_X12_taped hM hw (okX12.o ho) fl_X12_199 dX12_back_25 ?_
    exact hR _ _ _ _ _ _ _ (Option.some.inj hf) rfl rfl hw dX12_back_28
  refine lv_iconst (v := (-1)) hM.1 hM.2.1 dX12_back_12 ic_m1 ?_
  exact hR _ _ _ _ _ _ _ (Option.some.inj hf) rfl rfl hw dX12_back_13
theorem hd_X12_back : yX12_back.cls = RX12 ∧ yX12_back.cls ≠ "java/lang/invoke/MethodHandle" ∧ yX12_back.cls ≠ "java/lang/invoke/VarHandle" ∧ (parseMethodDescriptor yX12_back.desc).map (fun d => d.parameters.length) = some 1 := ⟨rfl, by decide, by decide, by decide +kernel⟩
theorem dX12_byteAt_0 : decode cX12_byteAt 0 = .ok (.iload_n 1, 1) := by decide +kernel
theorem dX12_byteAt_1 : decode cX12_byteAt 1 = .ok (.aload_n 0, 1) := by decide +kernel
theorem dX12_byteAt_2 : decode cX12_byteAt 2 = .ok (.getfield 205, 3) := by decide +kernel
theorem dX12_byteAt_5 : decode cX12_byteAt 5 = .ok (.if_icmp .ge 16, 3) := by decide +kernel
theorem dX12_byteAt_8 : decode cX12_byteAt 8 = .ok (.aload_n 0, 1) := by decide +kernel
theorem dX12_byteAt_9 : decode cX12_byteAt 9 = .ok (.getfield 17, 3) := by decide +kernel
theorem dX12_byteAt_12 : decode cX12_byteAt 12 = .ok (.iload_n 1, 1) := by decide +kernel
theorem dX12_byteAt_13 : decode cX12_byteAt 13 = .ok (.baload, 1) := by decide +kernel
theorem dX12_byteAt_14 : decode cX12_byteAt 14 = .ok (.sipush 255, 3) := by decide +kernel
theorem dX12_byteAt_17 : decode cX12_byteAt 17 = .ok (.iand, 1) := by decide +kernel
theorem dX12_byteAt_18 : decode cX12_byteAt 18 = .ok (.goto 4, 3) := by decide +kernel
theorem dX12_byteAt_21 : decode cX12_byteAt 21 = .ok (.iconst 0, 1) := by decide +kernel
theorem dX12_byteAt_22 : decode cX12_byteAt 22 = .ok (.ireturn, 1) := by decide +kernel
def c_X12_byteAt (a1 : Int32) (h : PH) : Option (Int32) :=
  if (h.1 0 4) ≤ a1 then
    some 0
  else
    gd (ixOK a1 2000) <|
    some ((h.1 2 a1.toNatClampNeg) &&& 255)
set_option maxHeartbeats 4000000 in
set_option maxRecDepth 100000 in
theorem ct_X12_byteAt (l : Launch) {lay : List KK} (ho : okX12 lay) (a1 : Int32) : CtI l yX12_byteAt cX12_byteAt 2 (some .int) 0 0 lay (rd (fun h => c_X12_byteAt a1 h)) (fun ad => [.ref (ad 0), .int a1]) := by
  refine CtI.mk' RX12 (by decide) rfl (fun _ => Nat.le_of_ble_eq_true rfl) ?_
  intro p0 e s m args below meth c D G A H0 ad X h r0 H ls Q hM hw hl hf hR
  have hl : lv_has ls 2 [(0, .ref (ad 0)), (1, .int a1)] := hl
  obtain ⟨v0, hv0, hr0⟩ : ∃ v0, c_X12_byteAt a1 h = some v0 ∧ r0 = (v0, h) := rd_some hf
  subst hr0
  have hf := hv0
  unfold c_X12_byteAt at hf
  refine lv_iload_n hM.1 hM.2.1 dX12_byteAt_0 rfl (lv_at hl 1 rfl) ?_
  refine lv_aload_n hM.1 hM.2.1 dX12_byteAt_1 rfl (lv_at hl 0 rfl) ?_
  refine gf_X12_size hM hw (okX12.o ho) fl_X12_205 dX12_byteAt_2 ?_
  refine x_ic_ge (tgt := 21) hM hf dX12_byteAt_5 (by decide) (fun hf => ?_) (fun hf => ?_)
  · refine lv_iconst (v := 0) hM.1 hM.2.1 dX12_byteAt_21 ic_0 ?_
    exact hR _ _ _ _ _ _ _ (congrArg (fun z => (z, _)) (Option.some.inj hf)) rfl rfl hw dX12_byteAt_22
  refine lv_aload_n hM.1 hM.2.1 dX12_byteAt_8 rfl (lv_at hl 0 rfl) ?_
  refine gf_X12_text hM hw (okX12.o ho) fl_X12_17 dX12_byteAt_9 ?_
  refine lv_iload_n hM.1 hM.2.1 dX12_byteAt_12 rfl (lv_at hl 1 rfl) ?_
  refine x_bald hM hw (okX12.text ho) hf dX12_byteAt_13 (fun hf => ?_)
  refine lv_sipush (v := 255) hM.1 hM.2.1 dX12_byteAt_14 (by decide) ?_
  refine lv_iand hM.1 hM.2.1 dX12_byteAt_17 ?_
  refine lv_goto (tgt := 22) hM.1 hM.2.1 dX12_byteAt_18 (by decide) ?_
  exact hR _ _ _ _ _ _ _ (congrArg (fun z => (z, _)) (Option.some.inj hf)) rfl rfl hw dX12_byteAt_22
theorem hd_X12_byteAt : yX12_byteAt.cls = RX12 ∧ yX12_byteAt.cls ≠ "java/lang/invoke/MethodHandle" ∧ yX12_byteAt.cls ≠ "java/lang/invoke/VarHandle" ∧ (parseMethodDescriptor yX12_byteAt.desc).map (fun d => d.parameters.length) = some 1 := ⟨rfl, by decide, by decide, by decide +kernel⟩
theorem dX12_isDigit_0 : decode cX12_isDigit 0 = .ok (.iload_n 0, 1) := by decide +kernel
theorem dX12_isDigit_1 : decode cX12_isDigit 1 = .ok (.bipush 48, 2) := by decide +kernel
theorem dX12_isDigit_3 : decode cX12_isDigit 3 = .ok (.if_icmp .lt 13, 3) := by decide +kernel
theorem dX12_isDigit_6 : decode cX12_isDigit 6 = .ok (.iload_n 0, 1) := by decide +kernel
theorem dX12_isDigit_7 : decode cX12_isDigit 7 = .ok (.bipush 57, 2) := by decide +kernel
theorem dX12_isDigit_9 : decode cX12_isDigit 9 = .ok (.if_icmp .gt 7, 3) := by decide +kernel
theorem dX12_isDigit_12 : decode cX12_isDigit 12 = .ok (.iconst 1, 1) := by decide +kernel
theorem dX12_isDigit_13 : decode cX12_isDigit 13 = .ok (.goto 4, 3) := by decide +kernel
theorem dX12_isDigit_16 : decode cX12_isDigit 16 = .ok (.iconst 0, 1) := by decide +kernel
theorem dX12_isDigit_17 : decode cX12_isDigit 17 = .ok (.ireturn, 1) := by decide +kernel
def c_X12_isDigit (a0 : Int32) : Option (Int32) :=
  if a0 < 48 then
    some 0
  else
    if 57 < a0 then
      some 0
    else
      some 1
set_option maxHeartbeats 4000000 in
set_option maxRecDepth 100000 in
theorem ct_X12_isDigit (l : Launch) {lay : List KK} (a0 : Int32) : CtI l yX12_isDigit cX12_isDigit 1 (some .boolean) 0 0 lay (rd (fun _ => c_X12_isDigit a0)) (fun _ => [.int a0]) := by
  refine CtI.mk' RX12 (by decide) rfl (fun _ => Nat.le_of_ble_eq_true rfl) ?_
  intro p0 e s m args below meth c D G A H0 ad X h r0 H ls Q hM hw hl hf hR
  have hl : lv_has ls 1 [(0, .int a0)] := hl
  obtain ⟨v0, hv0, hr0⟩ : ∃ v0, c_X12_isDigit a0 = some v0 ∧ r0 = (v0, h) := rd_some hf
  subst hr0
  have hf := hv0
  unfold c_X12_isDigit at hf
  refine lv_iload_n hM.1 hM.2.1 dX12_isDigit_0 rfl (lv_at hl 0 rfl) ?_
  refine lv_bipush (v := 48) hM.1 hM.2.1 dX12_isDigit_1 (by decide) ?_
  refine x_ic_lt (tgt := 16) hM hf dX12_isDigit_3 (by decide) (fun hf => ?_) (fun hf => ?_)
  · refine lv_iconst (v := 0) hM.1 hM.2.1 dX12_isDigit_16 ic_0 ?_
    exact hR _ _ _ _ _ _ _ (congrArg (fun z => (z, _)) (Option.some.inj hf)) rfl (nar_z (by decide)) hw dX12_isDigit_17
  refine lv_iload_n hM.1 hM.2.1 dX12_isDigit_6 rfl (lv_at hl 0 rfl) ?_
  refine lv_bipush (v := 57) hM.1 hM.2.1 dX12_isDigit_7 (by decide) ?_
  refine x_ic_gt (tgt := 16) hM hf dX12_isDigit_9 (by decide) (fun hf => ?_) (fun hf => ?_)
  · refine lv_iconst (v := 0) hM.1 hM.2.1 dX12_isDigit_16 ic_0 ?_
    exact hR _ _ _ _ _ _ _ (congrArg (fun z => (z, _)) (Option.some.inj hf)) rfl (nar_z (by decide)) hw dX12_isDigit_17
  refine lv_iconst (v := 1) hM.1 hM.2.1 dX12_isDigit_12 ic_1 ?_
  refine lv_goto (tgt := 17) hM.1 hM.2.1 dX12_isDigit_13 (by decide) ?_
  exact hR _ _ _ _ _ _ _ (congrArg (fun z => (z, _)) (Option.some.inj hf)) rfl (nar_z (by decide)) hw dX12_isDigit_17
theorem hd_X12_isDigit : yX12_isDigit.cls ≠ "java/lang/invoke/MethodHandle" ∧ yX12_isDigit.cls ≠ "java/lang/invoke/VarHandle" ∧ (parseMethodDescriptor yX12_isDigit.desc).map (fun d => d.parameters.length) = some 1 := ⟨by decide, by decide, by decide +kernel⟩
theorem dX12_isLetter_0 : decode cX12_isLetter 0 = .ok (.iload_n 0, 1) := by decide +kernel
theorem dX12_isLetter_1 : decode cX12_isLetter 1 = .ok (.bipush 97, 2) := by decide +kernel
theorem dX12_isLetter_3 : decode cX12_isLetter 3 = .ok (.if_icmp .lt 13, 3) := by decide +kernel
theorem dX12_isLetter_6 : decode cX12_isLetter 6 = .ok (.iload_n 0, 1) := by decide +kernel
theorem dX12_isLetter_7 : decode cX12_isLetter 7 = .ok (.bipush 122, 2) := by decide +kernel
theorem dX12_isLetter_9 : decode cX12_isLetter 9 = .ok (.if_icmp .gt 7, 3) := by decide +kernel
theorem dX12_isLetter_12 : decode cX12_isLetter 12 = .ok (.iconst 1, 1) := by decide +kernel
theorem dX12_isLetter_13 : decode cX12_isLetter 13 = .ok (.goto 4, 3) := by decide +kernel
theorem dX12_isLetter_16 : decode cX12_isLetter 16 = .ok (.iconst 0, 1) := by decide +kernel
theorem dX12_isLetter_17 : decode cX12_isLetter 17 = .ok (.ireturn, 1) := by decide +kernel
def c_X12_isLetter (a0 : Int32) : Option (Int32) :=
  if a0 < 97 then
    some 0
  else
    if 122 < a0 then
      some 0
    else
      some 1
set_option maxHeartbeats 4000000 in
set_option maxRecDepth 100000 in
theorem ct_X12_isLetter (l : Launch) {lay : List KK} (a0 : Int32) : CtI l yX12_isLetter cX12_isLetter 1 (some .boolean) 0 0 lay (rd (fun _ => c_X12_isLetter a0)) (fun _ => [.int a0]) := by
  refine CtI.mk' RX12 (by decide) rfl (fun _ => Nat.le_of_ble_eq_true rfl) ?_
  intro p0 e s m args below meth c D G A H0 ad X h r0 H ls Q hM hw hl hf hR
  have hl : lv_has ls 1 [(0, .int a0)] := hl
  obtain ⟨v0, hv0, hr0⟩ : ∃ v0, c_X12_isLetter a0 = some v0 ∧ r0 = (v0, h) := rd_some hf
  subst hr0
  have hf := hv0
  unfold c_X12_isLetter at hf
  refine lv_iload_n hM.1 hM.2.1 dX12_isLetter_0 rfl (lv_at hl 0 rfl) ?_
  refine lv_bipush (v := 97) hM.1 hM.2.1 dX12_isLetter_1 (by decide) ?_
  refine x_ic_lt (tgt := 16) hM hf dX12_isLetter_3 (by decide) (fun hf => ?_) (fun hf => ?_)
  · refine lv_iconst (v := 0) hM.1 hM.2.1 dX12_isLetter_16 ic_0 ?_
    exact hR _ _ _ _ _ _ _ (congrArg (fun z => (z, _)) (Option.some.inj hf)) rfl (nar_z (by decide)) hw dX12_isLetter_17
  refine lv_iload_n hM.1 hM.2.1 dX12_isLetter_6 rfl (lv_at hl 0 rfl) ?_
  refine lv_bipush (v := 122) hM.1 hM.2.1 dX12_isLetter_7 (by decide) ?_
  refine x_ic_gt (tgt := 16) hM hf dX12_isLetter_9 (by decide) (fun hf => ?_) (fun hf => ?_)
  · refine lv_iconst (v := 0) hM.1 hM.2.1 dX12_isLetter_16 ic_0 ?_
    exact hR _ _ _ _ _ _ _ (congrArg (fun z => (z, _)) (Option.some.inj hf)) rfl (nar_z (by decide)) hw dX12_isLetter_17
  refine lv_iconst (v := 1) hM.1 hM.2.1 dX12_isLetter_12 ic_1 ?_
  refine lv_goto (tgt := 17) hM.1 hM.2.1 dX12_isLetter_13 (by decide) ?_
  exact hR _ _ _ _ _ _ _ (congrArg (fun z => (z, _)) (Option.some.inj hf)) rfl (nar_z (by decide)) hw dX12_isLetter_17
theorem hd_X12_isLetter : yX12_isLetter.cls ≠ "java/lang/invoke/MethodHandle" ∧ yX12_isLetter.cls ≠ "java/lang/invoke/VarHandle" ∧ (parseMethodDescriptor yX12_isLetter.desc).map (fun d => d.parameters.length) = some 1 := ⟨by decide, by decide, by decide +kernel⟩
theorem dX12_appends_0 : decode cX12_appends 0 = .ok (.iload_n 2, 1) := by decide +kernel
theorem dX12_appends_1 : decode cX12_appends 1 = .ok (.ifCond .ne 7, 3) := by decide +kernel
theorem dX12_appends_4 : decode cX12_appends 4 = .ok (.lload_n 0, 1) := by decide +kernel
theorem dX12_appends_5 : decode cX12_appends 5 = .ok (.goto 16, 3) := by decide +kernel
theorem dX12_appends_8 : decode cX12_appends 8 = .ok (.ldc2_w 208, 3) := by decide +kernel
theorem dX12_appends_11 : decode cX12_appends 11 = .ok (.lload_n 0, 1) := by decide +kernel
theorem dX12_appends_12 : decode cX12_appends 12 = .ok (.lmul, 1) := by decide +kernel
theorem dX12_appends_13 : decode cX12_appends 13 = .ok (.iload_n 2, 1) := by decide +kernel
theorem dX12_appends_14 : decode cX12_appends 14 = .ok (.bipush 97, 2) := by decide +kernel
theorem dX12_appends_16 : decode cX12_appends 16 = .ok (.isub, 1) := by decide +kernel
theorem dX12_appends_17 : decode cX12_appends 17 = .ok (.iconst 1, 1) := by decide +kernel
theorem dX12_appends_18 : decode cX12_appends 18 = .ok (.iadd, 1) := by decide +kernel
theorem dX12_appends_19 : decode cX12_appends 19 = .ok (.i2l, 1) := by decide +kernel
theorem dX12_appends_20 : decode cX12_appends 20 = .ok (.ladd, 1) := by decide +kernel
theorem dX12_appends_21 : decode cX12_appends 21 = .ok (.lreturn, 1) := by decide +kernel
def c_X12_appends (a0 : Int64) (a2 : Int32) : Option (Int64) :=
  if a2 = 0 then
    some a0
  else
    some (((27 : Int64) * a0) + (((a2 - 97) + 1).toInt64))
set_option maxHeartbeats 4000000 in
set_option maxRecDepth 100000 in
theorem ct_X12_appends (l : Launch) {lay : List KK} (a0 : Int64) (a2 : Int32) : CtL l yX12_appends cX12_appends 3 (some .long) 0 0 lay (rd (fun _ => c_X12_appends a0 a2)) (fun _ => [.long a0, .int a2]) := by
  refine CtL.mk' RX12 (by decide) rfl rfl (fun _ => Nat.le_of_ble_eq_true rfl) ?_
  intro p0 e s m args below meth c D G A H0 ad X h r0 H ls Q hM hw hl hf hR
  have hl : lv_has ls 3 [(0, .long a0), (2, .int a2)] := hl
  obtain ⟨v0, hv0, hr0⟩ : ∃ v0, c_X12_appends a0 a2 = some v0 ∧ r0 = (v0, h) := rd_some hf
  subst hr0
  have hf := hv0
  unfold c_X12_appends at hf
  refine lv_iload_n hM.1 hM.2.1 dX12_appends_0 rfl (lv_at hl 1 rfl) ?_
  refine x_if_ne (tgt := 8) hM hf dX12_appends_1 (by decide) (fun hf => ?_) (fun hf => ?_)
  · refine lv_ldc2 (v := 27) hM.1 hM.2.1 hM.2.2.2.1 (hM.2.2.2.2 _ kn_X12_208) dX12_appends_8 ?_
    refine lv_lload_n hM.1 hM.2.1 dX12_appends_11 rfl (lv_at hl 0 rfl) ?_
    refine lv_lmul hM.1 hM.2.1 dX12_appends_12 ?_
    refine lv_iload_n hM.1 hM.2.1 dX12_appends_13 rfl (lv_at hl 1 rfl) ?_
    refine lv_bipush (v := 97) hM.1 hM.2.1 dX12_appends_14 (by decide) ?_
    refine lv_isub hM.1 hM.2.1 dX12_appends_16 ?_
    refine lv_iconst (v := 1) hM.1 hM.2.1 dX12_appends_17 ic_1 ?_
    refine lv_iadd hM.1 hM.2.1 dX12_appends_18 ?_
    refine lv_i2l hM.1 hM.2.1 dX12_appends_19 rfl ?_
    refine lv_ladd hM.1 hM.2.1 dX12_appends_20 ?_
    exact hR _ _ _ _ _ _ _ (congrArg (fun z => (z, _)) (Option.some.inj hf)) rfl rfl hw dX12_appends_21
  refine lv_lload_n hM.1 hM.2.1 dX12_appends_4 rfl (lv_at hl 0 rfl) ?_
  refine lv_goto (tgt := 21) hM.1 hM.2.1 dX12_appends_5 (by decide) ?_
  exact hR _ _ _ _ _ _ _ (congrArg (fun z => (z, _)) (Option.some.inj hf)) rfl rfl hw dX12_appends_21
theorem hd_X12_appends : yX12_appends.cls ≠ "java/lang/invoke/MethodHandle" ∧ yX12_appends.cls ≠ "java/lang/invoke/VarHandle" ∧ (parseMethodDescriptor yX12_appends.desc).map (fun d => d.parameters.length) = some 2 := ⟨by decide, by decide, by decide +kernel⟩
theorem dX12_word_0 : decode cX12_word 0 = .ok (.lconst 0, 1) := by decide +kernel
theorem dX12_word_1 : decode cX12_word 1 = .ok (.iload_n 0, 1) := by decide +kernel
theorem dX12_word_2 : decode cX12_word 2 = .ok (.invokestatic 210, 3) := by decide +kernel
theorem dX12_word_5 : decode cX12_word 5 = .ok (.iload_n 1, 1) := by decide +kernel
theorem dX12_word_6 : decode cX12_word 6 = .ok (.invokestatic 210, 3) := by decide +kernel
theorem dX12_word_9 : decode cX12_word 9 = .ok (.iload_n 2, 1) := by decide +kernel
theorem dX12_word_10 : decode cX12_word 10 = .ok (.invokestatic 210, 3) := by decide +kernel
theorem dX12_word_13 : decode cX12_word 13 = .ok (.iload_n 3, 1) := by decide +kernel
theorem dX12_word_14 : decode cX12_word 14 = .ok (.invokestatic 210, 3) := by decide +kernel
theorem dX12_word_17 : decode cX12_word 17 = .ok (.iload 4, 2) := by decide +kernel
theorem dX12_word_19 : decode cX12_word 19 = .ok (.invokestatic 210, 3) := by decide +kernel
theorem dX12_word_22 : decode cX12_word 22 = .ok (.iload 5, 2) := by decide +kernel
theorem dX12_word_24 : decode cX12_word 24 = .ok (.invokestatic 210, 3) := by decide +kernel
theorem dX12_word_27 : decode cX12_word 27 = .ok (.iload 6, 2) := by decide +kernel
theorem dX12_word_29 : decode cX12_word 29 = .ok (.invokestatic 210, 3) := by decide +kernel
theorem dX12_word_32 : decode cX12_word 32 = .ok (.lreturn, 1) := by decide +kernel
def c_X12_word (a0 : Int32) (a1 : Int32) (a2 : Int32) (a3 : Int32) (a4 : Int32) (a5 : Int32) (a6 : Int32) : Option (Int64) :=
  (c_X12_appends (0 : Int64) a0).bind fun r1 =>
  (c_X12_appends r1 a1).bind fun r2 =>
  (c_X12_appends r2 a2).bind fun r3 =>
  (c_X12_appends r3 a3).bind fun r4 =>
  (c_X12_appends r4 a4).bind fun r5 =>
  (c_X12_appends r5 a5).bind fun r6 =>
  (c_X12_appends r6 a6).bind fun r7 =>
  some r7
set_option maxHeartbeats 4000000 in
set_option maxRecDepth 100000 in
theorem ct_X12_word (l : Launch) {lay : List KK} (a0 : Int32) (a1 : Int32) (a2 : Int32) (a3 : Int32) (a4 : Int32) (a5 : Int32) (a6 : Int32) : CtL l yX12_word cX12_word 7 (some .long) 1 22 lay (rd (fun _ => c_X12_word a0 a1 a2 a3 a4 a5 a6)) (fun _ => [.int a0, .int a1, .int a2, .int a3, .int a4, .int a5, .int a6]) := by
  refine CtL.mk' RX12 (by decide) rfl rfl (fun _ => Nat.le_of_ble_eq_true rfl) ?_
  intro p0 e s m args below meth c D G A H0 ad X h r0 H ls Q hM hw hl hf hR
  have hl : lv_has ls 7 [(0, .int a0), (1, .int a1), (2, .int a2), (3, .int a3), (4, .int a4), (5, .int a5), (6, .int a6)] := hl
  obtain ⟨v0, hv0, hr0⟩ : ∃ v0, c_X12_word a0 a1 a2 a3 a4 a5 a6 = some v0 ∧ r0 = (v0, h) := rd_some hf
  subst hr0
  have hf := hv0
  unfold c_X12_word at hf
  refine lv_lconst (v := 0) hM.1 hM.2.1 dX12_word_0 (by decide) ?_
  refine lv_iload_n hM.1 hM.2.1 dX12_word_1 rfl (lv_at hl 0 rfl) ?_
  refine x_callSLr (rest := []) hM hw (ct_X12_appends l (0 : Int64) a0) [.long (0 : Int64), .int a0] rfl (gi_S ml_X12_210 sm_X12_appends in_X12 kc_X12_appends) hd_X12_appends rfl ⟨Nat.le_of_ble_eq_true rfl, Nat.le_of_ble_eq_true rfl⟩ rfl (Nat.le_of_ble_eq_true rfl) hl.1 hcs0 hf dX12_word_2 (fun r1 H locs hf hw => ?_)
  refine lv_iload_n hM.1 hM.2.1 dX12_word_5 rfl (lv_at hl 1 rfl) ?_
  refine x_callSLr (rest := []) hM hw (ct_X12_appends l r1 a1) [.long r1, .int a1] rfl (gi_S ml_X12_210 sm_X12_appends in_X12 kc_X12_appends) hd_X12_appends rfl ⟨Nat.le_of_ble_eq_true rfl, Nat.le_of_ble_eq_true rfl⟩ rfl (Nat.le_of_ble_eq_true rfl) hl.1 hcs0 hf dX12_word_6 (fun r2 H locs hf hw => ?_)
  refine lv_iload_n hM.1 hM.2.1 dX12_word_9 rfl (lv_at hl 2 rfl) ?_
  refine x_callSLr (rest := []) hM hw (ct_X12_appends l r2 a2) [.long r2, .int a2] rfl (gi_S ml_X12_210 sm_X12_appends in_X12 kc_X12_appends) hd_X12_appends rfl ⟨Nat.le_of_ble_eq_true rfl, Nat.le_of_ble_eq_true rfl⟩ rfl (Nat.le_of_ble_eq_true rfl) hl.1 hcs0 hf dX12_word_10 (fun r3 H locs hf hw => ?_)
  refine lv_iload_n hM.1 hM.2.1 dX12_word_13 rfl (lv_at hl 3 rfl) ?_
  refine x_callSLr (rest := []) hM hw (ct_X12_appends l r3 a3) [.long r3, .int a3] rfl (gi_S ml_X12_210 sm_X12_appends in_X12 kc_X12_appends) hd_X12_appends rfl ⟨Nat.le_of_ble_eq_true rfl, Nat.le_of_ble_eq_true rfl⟩ rfl (Nat.le_of_ble_eq_true rfl) hl.1 hcs0 hf dX12_word_14 (fun r4 H locs hf hw => ?_)
  refine lv_iload hM.1 hM.2.1 dX12_word_17 (lv_at hl 4 rfl) ?_
  refine x_callSLr (rest := []) hM hw (ct_X12_appends l r4 a4) [.long r4, .int a4] rfl (gi_S ml_X12_210 sm_X12_appends in_X12 kc_X12_appends) hd_X12_appends rfl ⟨Nat.le_of_ble_eq_true rfl, Nat.le_of_ble_eq_true rfl⟩ rfl (Nat.le_of_ble_eq_true rfl) hl.1 hcs0 hf dX12_word_19 (fun r5 H locs hf hw => ?_)
  refine lv_iload hM.1 hM.2.1 dX12_word_22 (lv_at hl 5 rfl) ?_
  refine x_callSLr (rest := []) hM hw (ct_X12_appends l r5 a5) [.long r5, .int a5] rfl (gi_S ml_X12_210 sm_X12_appends in_X12 kc_X12_appends) hd_X12_appends rfl ⟨Nat.le_of_ble_eq_true rfl, Nat.le_of_ble_eq_true rfl⟩ rfl (Nat.le_of_ble_eq_true rfl) hl.1 hcs0 hf dX12_word_24 (fun r6 H locs hf hw => ?_)
  refine lv_iload hM.1 hM.2.1 dX12_word_27 (lv_at hl 6 rfl) ?_
  refine x_callSLr (rest := []) hM hw (ct_X12_appends l r6 a6) [.long r6, .int a6] rfl (gi_S ml_X12_210 sm_X12_appends in_X12 kc_X12_appends) hd_X12_appends rfl ⟨Nat.le_of_ble_eq_true rfl, Nat.le_of_ble_eq_true rfl⟩ rfl (Nat.le_of_ble_eq_true rfl) hl.1 hcs0 hf dX12_word_29 (fun r7 H locs hf hw => ?_)
  exact hR _ _ _ _ _ _ _ (congrArg (fun z => (z, _)) (Option.some.inj hf)) rfl rfl hw dX12_word_32
theorem hd_X12_word : yX12_word.cls ≠ "java/lang/invoke/MethodHandle" ∧ yX12_word.cls ≠ "java/lang/invoke/VarHandle" ∧ (parseMethodDescriptor yX12_word.desc).map (fun d => d.parameters.length) = some 7 := ⟨by decide, by decide, by decide +kernel⟩
theorem dX12_token_0 : decode cX12_token 0 = .ok (.aload_n 0, 1) := by decide +kernel
theorem dX12_token_1 : decode cX12_token 1 = .ok (.getfield 20, 3) := by decide +kernel
theorem dX12_token_4 : decode cX12_token 4 = .ok (.aload_n 0, 1) := by decide +kernel
theorem dX12_token_5 : decode cX12_token 5 = .ok (.getfield 214, 3) := by decide +kernel
theorem dX12_token_8 : decode cX12_token 8 = .ok (.iload_n 1, 1) := by decide +kernel
theorem dX12_token_9 : decode cX12_token 9 = .ok (.iastore, 1) := by decide +kernel
theorem dX12_token_10 : decode cX12_token 10 = .ok (.aload_n 0, 1) := by decide +kernel
theorem dX12_token_11 : decode cX12_token 11 = .ok (.getfield 24, 3) := by decide +kernel
theorem dX12_token_14 : decode cX12_token 14 = .ok (.aload_n 0, 1) := by decide +kernel
theorem dX12_token_15 : decode cX12_token 15 = .ok (.getfield 214, 3) := by decide +kernel
theorem dX12_token_18 : decode cX12_token 18 = .ok (.iload_n 2, 1) := by decide +kernel
theorem dX12_token_19 : decode cX12_token 19 = .ok (.iastore, 1) := by decide +kernel
theorem dX12_token_20 : decode cX12_token 20 = .ok (.aload_n 0, 1) := by decide +kernel
theorem dX12_token_21 : decode cX12_token 21 = .ok (.getfield 27, 3) := by decide +kernel
theorem dX12_token_24 : decode cX12_token 24 = .ok (.aload_n 0, 1) := by decide +kernel
theorem dX12_token_25 : decode cX12_token 25 = .ok (.getfield 214, 3) := by decide +kernel
theorem dX12_token_28 : decode cX12_token 28 = .ok (.iload_n 3, 1) := by decide +kernel
theorem dX12_token_29 : decode cX12_token 29 = .ok (.iastore, 1) := by decide +kernel
theorem dX12_token_30 : decode cX12_token 30 = .ok (.aload_n 0, 1) := by decide +kernel
theorem dX12_token_31 : decode cX12_token 31 = .ok (.getfield 30, 3) := by decide +kernel
theorem dX12_token_34 : decode cX12_token 34 = .ok (.aload_n 0, 1) := by decide +kernel
theorem dX12_token_35 : decode cX12_token 35 = .ok (.getfield 214, 3) := by decide +kernel
theorem dX12_token_38 : decode cX12_token 38 = .ok (.lload 4, 2) := by decide +kernel
theorem dX12_token_40 : decode cX12_token 40 = .ok (.lastore, 1) := by decide +kernel
theorem dX12_token_41 : decode cX12_token 41 = .ok (.aload_n 0, 1) := by decide +kernel
theorem dX12_token_42 : decode cX12_token 42 = .ok (.dup, 1) := by decide +kernel
theorem dX12_token_43 : decode cX12_token 43 = .ok (.getfield 214, 3) := by decide +kernel
theorem dX12_token_46 : decode cX12_token 46 = .ok (.iconst 1, 1) := by decide +kernel
theorem dX12_token_47 : decode cX12_token 47 = .ok (.iadd, 1) := by decide +kernel
theorem dX12_token_48 : decode cX12_token 48 = .ok (.putfield 214, 3) := by decide +kernel
theorem dX12_token_51 : decode cX12_token 51 = .ok (.return_, 1) := by decide +kernel
def c_X12_token (a1 : Int32) (a2 : Int32) (a3 : Int32) (a4 : Int64) (h : PH) : Option (PH) :=
  gd (ixOK (h.1 0 10) 403) <| nm (setI h 3 (h.1 0 10).toNatClampNeg a1) fun h1 =>
  gd (ixOK (h1.1 0 10) 403) <| nm (setI h1 4 (h1.1 0 10).toNatClampNeg a2) fun h2 =>
  gd (ixOK (h2.1 0 10) 403) <| nm (setI h2 5 (h2.1 0 10).toNatClampNeg a3) fun h3 =>
  gd (ixOK (h3.1 0 10) 403) <| nm (setJ h3 6 (h3.1 0 10).toNatClampNeg a4) fun h4 =>
  nm (setI h4 0 10 ((h4.1 0 10) + 1)) fun h5 =>
  some h5
set_option maxHeartbeats 4000000 in
set_option maxRecDepth 100000 in
theorem ct_X12_token (l : Launch) {lay : List KK} (ho : okX12 lay) (a1 : Int32) (a2 : Int32) (a3 : Int32) (a4 : Int64) : CtV l yX12_token cX12_token 6 (none) 0 0 lay (fun h => c_X12_token a1 a2 a3 a4 h) (fun ad => [.ref (ad 0), .int a1, .int a2, .int a3, .long a4]) := by
  refine CtV.mk' RX12 (by decide) rfl (fun _ => Nat.le_of_ble_eq_true rfl) ?_
  intro p0 e s m args below meth c D G A H0 ad X h r0 H ls Q hM hw hl hf hR
  have hl : lv_has ls 6 [(0, .ref (ad 0)), (1, .int a1), (2, .int a2), (3, .int a3), (4, .long a4)] := hl
  unfold c_X12_token at hf
  refine lv_aload_n hM.1 hM.2.1 dX12_token_0 rfl (lv_at hl 0 rfl) ?_
  refine gf_X12_tKind hM hw (okX12.o ho) fl_X12_20 dX12_token_1 ?_
  refine lv_aload_n hM.1 hM.2.1 dX12_token_4 rfl (lv_at hl 0 rfl) ?_
  refine gf_X12_tokens hM hw (okX12.o ho) fl_X12_214 dX12_token_5 ?_
  refine lv_iload_n hM.1 hM.2.1 dX12_token_8 rfl (lv_at hl 1 rfl) ?_
  refine x_iast hM hw (okX12.tKind ho) hf dX12_token_9 (fun h1 H locs hf hw => ?_)
  refine lv_aload_n hM.1 hM.2.1 dX12_token_10 rfl (lv_at hl 0 rfl) ?_
  refine gf_X12_tPlace hM hw (okX12.o ho) fl_X12_24 dX12_token_11 ?_
  refine lv_aload_n hM.1 hM.2.1 dX12_token_14 rfl (lv_at hl 0 rfl) ?_
  refine gf_X12_tokens hM hw (okX12.o ho) fl_X12_214 dX12_token_15 ?_
  refine lv_iload_n hM.1 hM.2.1 dX12_token_18 rfl (lv_at hl 2 rfl) ?_
  refine x_iast hM hw (okX12.tPlace ho) hf dX12_token_19 (fun h2 H locs hf hw => ?_)
  refine lv_aload_n hM.1 hM.2.1 dX12_token_20 rfl (lv_at hl 0 rfl) ?_
  refine gf_X12_tValue hM hw (okX12.o ho) fl_X12_27 dX12_token_21 ?_
  refine lv_aload_n hM.1 hM.2.1 dX12_token_24 rfl (lv_at hl 0 rfl) ?_
  refine gf_X12_tokens hM hw (okX12.o ho) fl_X12_214 dX12_token_25 ?_
  refine lv_iload_n hM.1 hM.2.1 dX12_token_28 rfl (lv_at hl 3 rfl) ?_
  refine x_iast hM hw (okX12.tValue ho) hf dX12_token_29 (fun h3 H locs hf hw => ?_)
  refine lv_aload_n hM.1 hM.2.1 dX12_token_30 rfl (lv_at hl 0 rfl) ?_
  refine gf_X12_tName hM hw (okX12.o ho) fl_X12_30 dX12_token_31 ?_
  refine lv_aload_n hM.1 hM.2.1 dX12_token_34 rfl (lv_at hl 0 rfl) ?_
  refine gf_X12_tokens hM hw (okX12.o ho) fl_X12_214 dX12_token_35 ?_
  refine lv_lload hM.1 hM.2.1 dX12_token_38 (lv_at hl 4 rfl) ?_
  refine x_last hM hw (okX12.tName ho) hf dX12_token_40 (fun h4 H locs hf hw => ?_)
  refine lv_aload_n hM.1 hM.2.1 dX12_token_41 rfl (lv_at hl 0 rfl) ?_
  refine lv_dup hM.1 hM.2.1 dX12_token_42 rfl ?_
  refine gf_X12_tokens hM hw (okX12.o ho) fl_X12_214 dX12_token_43 ?_
  refine lv_iconst (v := 1) hM.1 hM.2.1 dX12_token_46 ic_1 ?_
  refine lv_iadd hM.1 hM.2.1 dX12_token_47 ?_
  refine pf_X12_tokens hM hw (okX12.o ho) fl_X12_214 hf dX12_token_48 (fun h5 H locs hf hw => ?_)
  exact hR _ _ _ _ _ (Option.some.inj hf) rfl hw dX12_token_51
theorem hd_X12_token : yX12_token.cls = RX12 ∧ yX12_token.cls ≠ "java/lang/invoke/MethodHandle" ∧ yX12_token.cls ≠ "java/lang/invoke/VarHandle" ∧ (parseMethodDescriptor yX12_token.desc).map (fun d => d.parameters.length) = some 4 := ⟨rfl, by decide, by decide, by decide +kernel⟩
theorem dX12_sign_0 : decode cX12_sign 0 = .ok (.iload_n 2, 1) := by decide +kernel
theorem dX12_sign_1 : decode cX12_sign 1 = .ok (.bipush 59, 2) := by decide +kernel
theorem dX12_sign_3 : decode cX12_sign 3 = .ok (.if_icmp .ne 7, 3) := by decide +kernel
theorem dX12_sign_6 : decode cX12_sign 6 = .ok (.iconst 4, 1) := by decide +kernel
theorem dX12_sign_7 : decode cX12_sign 7 = .ok (.goto 36, 3) := by decide +kernel
theorem dX12_sign_10 : decode cX12_sign 10 = .ok (.iload_n 2, 1) := by decide +kernel
theorem dX12_sign_11 : decode cX12_sign 11 = .ok (.bipush 61, 2) := by decide +kernel
theorem dX12_sign_13 : decode cX12_sign 13 = .ok (.if_icmp .ne 7, 3) := by decide +kernel
theorem dX12_sign_16 : decode cX12_sign 16 = .ok (.iconst 5, 1) := by decide +kernel
theorem dX12_sign_17 : decode cX12_sign 17 = .ok (.goto 26, 3) := by decide +kernel
theorem dX12_sign_20 : decode cX12_sign 20 = .ok (.iload_n 2, 1) := by decide +kernel
theorem dX12_sign_21 : decode cX12_sign 21 = .ok (.bipush 40, 2) := by decide +kernel
theorem dX12_sign_23 : decode cX12_sign 23 = .ok (.if_icmp .ne 8, 3) := by decide +kernel
theorem dX12_sign_26 : decode cX12_sign 26 = .ok (.bipush 6, 2) := by decide +kernel
theorem dX12_sign_28 : decode cX12_sign 28 = .ok (.goto 15, 3) := by decide +kernel
theorem dX12_sign_31 : decode cX12_sign 31 = .ok (.iload_n 2, 1) := by decide +kernel
theorem dX12_sign_32 : decode cX12_sign 32 = .ok (.bipush 41, 2) := by decide +kernel
theorem dX12_sign_34 : decode cX12_sign 34 = .ok (.if_icmp .ne 8, 3) := by decide +kernel
theorem dX12_sign_37 : decode cX12_sign 37 = .ok (.bipush 7, 2) := by decide +kernel
theorem dX12_sign_39 : decode cX12_sign 39 = .ok (.goto 4, 3) := by decide +kernel
theorem dX12_sign_42 : decode cX12_sign 42 = .ok (.iconst 3, 1) := by decide +kernel
theorem dX12_sign_43 : decode cX12_sign 43 = .ok (.istore 4, 2) := by decide +kernel
theorem dX12_sign_45 : decode cX12_sign 45 = .ok (.iload_n 2, 1) := by decide +kernel
theorem dX12_sign_46 : decode cX12_sign 46 = .ok (.bipush 43, 2) := by decide +kernel
theorem dX12_sign_48 : decode cX12_sign 48 = .ok (.if_icmp .ne 7, 3) := by decide +kernel
theorem dX12_sign_51 : decode cX12_sign 51 = .ok (.bipush 8, 2) := by decide +kernel
theorem dX12_sign_53 : decode cX12_sign 53 = .ok (.istore 4, 2) := by decide +kernel
theorem dX12_sign_55 : decode cX12_sign 55 = .ok (.iload_n 2, 1) := by decide +kernel
theorem dX12_sign_56 : decode cX12_sign 56 = .ok (.bipush 45, 2) := by decide +kernel
theorem dX12_sign_58 : decode cX12_sign 58 = .ok (.if_icmp .ne 7, 3) := by decide +kernel
theorem dX12_sign_61 : decode cX12_sign 61 = .ok (.bipush 9, 2) := by decide +kernel
theorem dX12_sign_63 : decode cX12_sign 63 = .ok (.istore 4, 2) := by decide +kernel
theorem dX12_sign_65 : decode cX12_sign 65 = .ok (.iload_n 2, 1) := by decide +kernel
theorem dX12_sign_66 : decode cX12_sign 66 = .ok (.bipush 42, 2) := by decide +kernel
theorem dX12_sign_68 : decode cX12_sign 68 = .ok (.if_icmp .ne 7, 3) := by decide +kernel
theorem dX12_sign_71 : decode cX12_sign 71 = .ok (.bipush 10, 2) := by decide +kernel
theorem dX12_sign_73 : decode cX12_sign 73 = .ok (.istore 4, 2) := by decide +kernel
theorem dX12_sign_75 : decode cX12_sign 75 = .ok (.iload_n 2, 1) := by decide +kernel
theorem dX12_sign_76 : decode cX12_sign 76 = .ok (.bipush 47, 2) := by decide +kernel
theorem dX12_sign_78 : decode cX12_sign 78 = .ok (.if_icmp .ne 7, 3) := by decide +kernel
theorem dX12_sign_81 : decode cX12_sign 81 = .ok (.bipush 15, 2) := by decide +kernel
theorem dX12_sign_83 : decode cX12_sign 83 = .ok (.istore 4, 2) := by decide +kernel
theorem dX12_sign_85 : decode cX12_sign 85 = .ok (.iload_n 2, 1) := by decide +kernel
theorem dX12_sign_86 : decode cX12_sign 86 = .ok (.bipush 60, 2) := by decide +kernel
theorem dX12_sign_88 : decode cX12_sign 88 = .ok (.if_icmp .ne 7, 3) := by decide +kernel
theorem dX12_sign_91 : decode cX12_sign 91 = .ok (.bipush 13, 2) := by decide +kernel
theorem dX12_sign_93 : decode cX12_sign 93 = .ok (.istore 4, 2) := by decide +kernel
theorem dX12_sign_95 : decode cX12_sign 95 = .ok (.aload_n 0, 1) := by decide +kernel
theorem dX12_sign_96 : decode cX12_sign 96 = .ok (.iload 4, 2) := by decide +kernel
theorem dX12_sign_98 : decode cX12_sign 98 = .ok (.iload_n 1, 1) := by decide +kernel
theorem dX12_sign_99 : decode cX12_sign 99 = .ok (.iconst 0, 1) := by decide +kernel
theorem dX12_sign_100 : decode cX12_sign 100 = .ok (.lconst 0, 1) := by decide +kernel
theorem dX12_sign_101 : decode cX12_sign 101 = .ok (.invokevirtual 221, 3) := by decide +kernel
theorem dX12_sign_104 : decode cX12_sign 104 = .ok (.iconst 1, 1) := by decide +kernel
theorem dX12_sign_105 : decode cX12_sign 105 = .ok (.ireturn, 1) := by decide +kernel
def c_X12_sign_j85  (x1 : Int32) (x2 : Int32) (x4 : Int32) (h : PH) : Option (Int32 × PH) :=
  if x2 = 60 then
    nm (13 : Int32) fun v3 =>
    (c_X12_token v3 x1 0 (0 : Int64) h).bind fun h4 =>
    some (1, h4)
  else
    (c_X12_token x4 x1 0 (0 : Int64) h).bind fun h2 =>
    some (1, h2)
set_option maxHeartbeats 4000000 in
set_option maxRecDepth 100000 in
theorem w_X12_sign_j85 {p0 : Program} {l : Launch} {e : Env} {s : State} {m : MethodId} {args : Array Value} {below : List Frame} {meth : Method} {c : Code} {Q : State → Prop} {D : va_G} {G : GG} {A : Nat → Prop} {H0 : Heap} {ad : Nat → Nat} {lay : List KK} {X : va_W} {r0 : Int32 × PH} {x1 : Int32} {x2 : Int32} {x4 : Int32} {h : PH} {H : Heap} {locs : List Loc} {ls : Array Slot} (hM : CallFix p0 m c cX12_sign 5 s args lw_g RX12) (ho : okX12 lay) (hR : RtI p0 l e (rmN 1 25) s m args below meth c cX12_sign D G A H0 ad lay X (some .int) r0 Q 0 0) (hw : Wd D G A H0 ad lay X h s H locs) (hl : lv_has ls 5 [(0, .ref (ad 0)), (1, .int x1), (2, .int x2), (4, .int x4)]) (hf : c_X12_sign_j85 x1 x2 x4 h = some r0) : W p0 l e (rmN 1 25) s m args below meth c H locs 0 0 Q (F0 m 85 ls []) := by
  unfold c_X12_sign_j85 at hf
  refine lv_iload_n hM.1 hM.2.1 dX12_sign_85 rfl (lv_at hl 2 rfl) ?_
  refine lv_bipush (v := 60) hM.1 hM.2.1 dX12_sign_86 (by decide) ?_
  refine x_ic_ne (tgt := 95) hM hf dX12_sign_88 (by decide) (fun hf => ?_) (fun hf => ?_)
  · refine lv_aload_n hM.1 hM.2.1 dX12_sign_95 rfl (lv_at hl 0 rfl) ?_
    refine lv_iload hM.1 hM.2.1 dX12_sign_96 (lv_at hl 3 rfl) ?_
    refine lv_iload_n hM.1 hM.2.1 dX12_sign_98 rfl (lv_at hl 1 rfl) ?_
    refine lv_iconst (v := 0) hM.1 hM.2.1 dX12_sign_99 ic_0 ?_
    refine lv_lconst (v := 0) hM.1 hM.2.1 dX12_sign_100 (by decide) ?_
    refine x_callVV (rest := []) hM hw (ct_X12_token l ho x4 x1 0 (0 : Int64)) [.int x4, .int x1, .int 0, .long (0 : Int64)] (okX12.o ho) rfl rfl rfl (gi_V ml_X12_221 im_X12_token sl_X12_token in_X12 kc_X12_token) hd_X12_token rfl ⟨Nat.le_of_ble_eq_true rfl, Nat.le_of_ble_eq_true rfl⟩ rfl (Nat.le_of_ble_eq_true rfl) hl.1 hcs0 hf dX12_sign_101 (fun h2 H locs hf hw => ?_)
    refine lv_iconst (v := 1) hM.1 hM.2.1 dX12_sign_104 ic_1 ?_
    exact hR _ _ _ _ _ _ _ (Option.some.inj hf) rfl rfl hw dX12_sign_105
  refine lv_bipush (v := 13) hM.1 hM.2.1 dX12_sign_91 (by decide) ?_
  refine x_istore hM hf dX12_sign_93 hl (by decide) (fun v3 => [(4, .int v3), (0, .ref (ad 0)), (1, .int x1), (2, .int x2)]) (fun _ => rfl) (fun v3 ls hf hl => ?_)
  refine lv_aload_n hM.1 hM.2.1 dX12_sign_95 rfl (lv_at hl 1 rfl) ?_
  refine lv_iload hM.1 hM.2.1 dX12_sign_96 (lv_at hl 0 rfl) ?_
  refine lv_iload_n hM.1 hM.2.1 dX12_sign_98 rfl (lv_at hl 2 rfl) ?_
  refine lv_iconst (v := 0) hM.1 hM.2.1 dX12_sign_99 ic_0 ?_
  refine lv_lconst (v := 0) hM.1 hM.2.1 dX12_sign_100 (by decide) ?_
  refine x_callVV (rest := []) hM hw (ct_X12_token l ho v3 x1 0 (0 : Int64)) [.int v3, .int x1, .int 0, .long (0 : Int64)] (okX12.o ho) rfl rfl rfl (gi_V ml_X12_221 im_X12_token sl_X12_token in_X12 kc_X12_token) hd_X12_token rfl ⟨Nat.le_of_ble_eq_true rfl, Nat.le_of_ble_eq_true rfl⟩ rfl (Nat.le_of_ble_eq_true rfl) hl.1 hcs0 hf dX12_sign_101 (fun h4 H locs hf hw => ?_)
  refine lv_iconst (v := 1) hM.1 hM.2.1 dX12_sign_104 ic_1 ?_
  exact hR _ _ _ _ _ _ _ (Option.some.inj hf) rfl rfl hw dX12_sign_105
def c_X12_sign_j65  (x1 : Int32) (x2 : Int32) (x4 : Int32) (h : PH) : Option (Int32 × PH) :=
  if x2 = 42 then
    nm (10 : Int32) fun v6 =>
    if x2 = 47 then
      nm (15 : Int32) fun v7 =>
      c_X12_sign_j85 x1 x2 v7 h
    else
      c_X12_sign_j85 x1 x2 v6 h
  else
    if x2 = 47 then
      nm (15 : Int32) fun v5 =>
      c_X12_sign_j85 x1 x2 v5 h
    else
      c_X12_sign_j85 x1 x2 x4 h
set_option maxHeartbeats 4000000 in
set_option maxRecDepth 100000 in
theorem w_X12_sign_j65 {p0 : Program} {l : Launch} {e : Env} {s : State} {m : MethodId} {args : Array Value} {below : List Frame} {meth : Method} {c : Code} {Q : State → Prop} {D : va_G} {G : GG} {A : Nat → Prop} {H0 : Heap} {ad : Nat → Nat} {lay : List KK} {X : va_W} {r0 : Int32 × PH} {x1 : Int32} {x2 : Int32} {x4 : Int32} {h : PH} {H : Heap} {locs : List Loc} {ls : Array Slot} (hM : CallFix p0 m c cX12_sign 5 s args lw_g RX12) (ho : okX12 lay) (hR : RtI p0 l e (rmN 1 25) s m args below meth c cX12_sign D G A H0 ad lay X (some .int) r0 Q 0 0) (hw : Wd D G A H0 ad lay X h s H locs) (hl : lv_has ls 5 [(0, .ref (ad 0)), (1, .int x1), (2, .int x2), (4, .int x4)]) (hf : c_X12_sign_j65 x1 x2 x4 h = some r0) : W p0 l e (rmN 1 25) s m args below meth c H locs 0 0 Q (F0 m 65 ls []) := by
  unfold c_X12_sign_j65 at hf
  refine lv_iload_n hM.1 hM.2.1 dX12_sign_65 rfl (lv_at hl 2 rfl) ?_
  refine lv_bipush (v := 42) hM.1 hM.2.1 dX12_sign_66 (by decide) ?_
  refine x_ic_ne (tgt := 75) hM hf dX12_sign_68 (by decide) (fun hf => ?_) (fun hf => ?_)
  · refine lv_iload_n hM.1 hM.2.1 dX12_sign_75 rfl (lv_at hl 2 rfl) ?_
    refine lv_bipush (v := 47) hM.1 hM.2.1 dX12_sign_76 (by decide) ?_
    refine x_ic_ne (tgt := 85) hM hf dX12_sign_78 (by decide) (fun hf => ?_) (fun hf => ?_)
    · exact w_X12_sign_j85 hM ho hR hw hl hf
    refine lv_bipush (v := 15) hM.1 hM.2.1 dX12_sign_81 (by decide) ?_
    refine x_istore hM hf dX12_sign_83 hl (by decide) (fun v5 => [(4, .int v5), (0, .ref (ad 0)), (1, .int x1), (2, .int x2)]) (fun _ => rfl) (fun v5 ls hf hl => ?_)
    exact w_X12_sign_j85 hM ho hR hw (lv_sub hl [1, 2, 3, 0] rfl) hf
  refine lv_bipush (v := 10) hM.1 hM.2.1 dX12_sign_71 (by decide) ?_
  refine x_istore hM hf dX12_sign_73 hl (by decide) (fun v6 => [(4, .int v6), (0, .ref (ad 0)), (1, .int x1), (2, .int x2)]) (fun _ => rfl) (fun v6 ls hf hl => ?_)
  refine lv_iload_n hM.1 hM.2.1 dX12_sign_75 rfl (lv_at hl 3 rfl) ?_
  refine lv_bipush (v := 47) hM.1 hM.2.1 dX12_sign_76 (by decide) ?_
  refine x_ic_ne (tgt := 85) hM hf dX12_sign_78 (by decide) (fun hf => ?_) (fun hf => ?_)
  · exact w_X12_sign_j85 hM ho hR hw (lv_sub hl [1, 2, 3, 0] rfl) hf
  refine lv_bipush (v := 15) hM.1 hM.2.1 dX12_sign_81 (by decide) ?_
  refine x_istore hM hf dX12_sign_83 hl (by decide) (fun v7 => [(4, .int v7), (0, .ref (ad 0)), (1, .int x1), (2, .int x2)]) (fun _ => rfl) (fun v7 ls hf hl => ?_)
  exact w_X12_sign_j85 hM ho hR hw (lv_sub hl [1, 2, 3, 0] rfl) hf
def c_X12_sign_j43  (x1 : Int32) (x2 : Int32) (y0 : Int32) (h : PH) : Option (Int32 × PH) :=
  nm y0 fun v1 =>
  if x2 = 43 then
    nm (8 : Int32) fun v9 =>
    if x2 = 45 then
      nm (9 : Int32) fun v10 =>
      c_X12_sign_j65 x1 x2 v10 h
    else
      c_X12_sign_j65 x1 x2 v9 h
  else
    if x2 = 45 then
      nm (9 : Int32) fun v8 =>
      c_X12_sign_j65 x1 x2 v8 h
    else
      c_X12_sign_j65 x1 x2 v1 h
set_option maxHeartbeats 4000000 in
set_option maxRecDepth 100000 in
theorem w_X12_sign_j43 {p0 : Program} {l : Launch} {e : Env} {s : State} {m : MethodId} {args : Array Value} {below : List Frame} {meth : Method} {c : Code} {Q : State → Prop} {D : va_G} {G : GG} {A : Nat → Prop} {H0 : Heap} {ad : Nat → Nat} {lay : List KK} {X : va_W} {r0 : Int32 × PH} {x1 : Int32} {x2 : Int32} {y0 : Int32} {h : PH} {H : Heap} {locs : List Loc} {ls : Array Slot} (hM : CallFix p0 m c cX12_sign 5 s args lw_g RX12) (ho : okX12 lay) (hR : RtI p0 l e (rmN 1 25) s m args below meth c cX12_sign D G A H0 ad lay X (some .int) r0 Q 0 0) (hw : Wd D G A H0 ad lay X h s H locs) (hl : lv_has ls 5 [(0, .ref (ad 0)), (1, .int x1), (2, .int x2)]) (hf : c_X12_sign_j43 x1 x2 y0 h = some r0) : W p0 l e (rmN 1 25) s m args below meth c H locs 0 0 Q (F0 m 43 ls [.int y0]) := by
  unfold c_X12_sign_j43 at hf
  refine x_istore hM hf dX12_sign_43 hl (by decide) (fun v1 => [(4, .int v1), (0, .ref (ad 0)), (1, .int x1), (2, .int x2)]) (fun _ => rfl) (fun v1 ls hf hl => ?_)
  refine lv_iload_n hM.1 hM.2.1 dX12_sign_45 rfl (lv_at hl 3 rfl) ?_
  refine lv_bipush (v := 43) hM.1 hM.2.1 dX12_sign_46 (by decide) ?_
  refine x_ic_ne (tgt := 55) hM hf dX12_sign_48 (by decide) (fun hf => ?_) (fun hf => ?_)
  · refine lv_iload_n hM.1 hM.2.1 dX12_sign_55 rfl (lv_at hl 3 rfl) ?_
    refine lv_bipush (v := 45) hM.1 hM.2.1 dX12_sign_56 (by decide) ?_
    refine x_ic_ne (tgt := 65) hM hf dX12_sign_58 (by decide) (fun hf => ?_) (fun hf => ?_)
    · exact w_X12_sign_j65 hM ho hR hw (lv_sub hl [1, 2, 3, 0] rfl) hf
    refine lv_bipush (v := 9) hM.1 hM.2.1 dX12_sign_61 (by decide) ?_
    refine x_istore hM hf dX12_sign_63 hl (by decide) (fun v8 => [(4, .int v8), (0, .ref (ad 0)), (1, .int x1), (2, .int x2)]) (fun _ => rfl) (fun v8 ls hf hl => ?_)
    exact w_X12_sign_j65 hM ho hR hw (lv_sub hl [1, 2, 3, 0] rfl) hf
  refine lv_bipush (v := 8) hM.1 hM.2.1 dX12_sign_51 (by decide) ?_
  refine x_istore hM hf dX12_sign_53 hl (by decide) (fun v9 => [(4, .int v9), (0, .ref (ad 0)), (1, .int x1), (2, .int x2)]) (fun _ => rfl) (fun v9 ls hf hl => ?_)
  refine lv_iload_n hM.1 hM.2.1 dX12_sign_55 rfl (lv_at hl 3 rfl) ?_
  refine lv_bipush (v := 45) hM.1 hM.2.1 dX12_sign_56 (by decide) ?_
  refine x_ic_ne (tgt := 65) hM hf dX12_sign_58 (by decide) (fun hf => ?_) (fun hf => ?_)
  · exact w_X12_sign_j65 hM ho hR hw (lv_sub hl [1, 2, 3, 0] rfl) hf
  refine lv_bipush (v := 9) hM.1 hM.2.1 dX12_sign_61 (by decide) ?_
  refine x_istore hM hf dX12_sign_63 hl (by decide) (fun v10 => [(4, .int v10), (0, .ref (ad 0)), (1, .int x1), (2, .int x2)]) (fun _ => rfl) (fun v10 ls hf hl => ?_)
  exact w_X12_sign_j65 hM ho hR hw (lv_sub hl [1, 2, 3, 0] rfl) hf
def c_X12_sign (a1 : Int32) (a2 : Int32) (a3 : Int32) (h : PH) : Option (Int32 × PH) :=
  if a2 = 59 then
    c_X12_sign_j43 a1 a2 4 h
  else
    if a2 = 61 then
      c_X12_sign_j43 a1 a2 5 h
    else
      if a2 = 40 then
        c_X12_sign_j43 a1 a2 6 h
      else
        if a2 = 41 then
          c_X12_sign_j43 a1 a2 7 h
        else
          c_X12_sign_j43 a1 a2 3 h
set_option maxHeartbeats 4000000 in
set_option maxRecDepth 100000 in
theorem ct_X12_sign (l : Launch) {lay : List KK} (ho : okX12 lay) (a1 : Int32) (a2 : Int32) (a3 : Int32) : CtI l yX12_sign cX12_sign 5 (some .int) 1 25 lay (fun h => c_X12_sign a1 a2 a3 h) (fun ad => [.ref (ad 0), .int a1, .int a2, .int a3]) := by
  refine CtI.mk' RX12 (by decide) rfl (fun _ => Nat.le_of_ble_eq_true rfl) ?_
  intro p0 e s m args below meth c D G A H0 ad X h r0 H ls Q hM hw hl hf hR
  have hl : lv_has ls 5 [(0, .ref (ad 0)), (1, .int a1), (2, .int a2), (3, .int a3)] := hl
  unfold c_X12_sign at hf
  refine lv_iload_n hM.1 hM.2.1 dX12_sign_0 rfl (lv_at hl 2 rfl) ?_
  refine lv_bipush (v := 59) hM.1 hM.2.1 dX12_sign_1 (by decide) ?_
  refine x_ic_ne (tgt := 10) hM hf dX12_sign_3 (by decide) (fun hf => ?_) (fun hf => ?_)
  · refine lv_iload_n hM.1 hM.2.1 dX12_sign_10 rfl (lv_at hl 2 rfl) ?_
    refine lv_bipush (v := 61) hM.1 hM.2.1 dX12_sign_11 (by decide) ?_
    refine x_ic_ne (tgt := 20) hM hf dX12_sign_13 (by decide) (fun hf => ?_) (fun hf => ?_)
    · refine lv_iload_n hM.1 hM.2.1 dX12_sign_20 rfl (lv_at hl 2 rfl) ?_
      refine lv_bipush (v := 40) hM.1 hM.2.1 dX12_sign_21 (by decide) ?_
      refine x_ic_ne (tgt := 31) hM hf dX12_sign_23 (by decide) (fun hf => ?_) (fun hf => ?_)
      · refine lv_iload_n hM.1 hM.2.1 dX12_sign_31 rfl (lv_at hl 2 rfl) ?_
        refine lv_bipush (v := 41) hM.1 hM.2.1 dX12_sign_32 (by decide) ?_
        refine x_ic_ne (tgt := 42) hM hf dX12_sign_34 (by decide) (fun hf => ?_) (fun hf => ?_)
        · refine lv_iconst (v := 3) hM.1 hM.2.1 dX12_sign_42 ic_3 ?_
          exact w_X12_sign_j43 hM ho hR hw (lv_sub hl [0, 1, 2] rfl) hf
        refine lv_bipush (v := 7) hM.1 hM.2.1 dX12_sign_37 (by decide) ?_
        refine lv_goto (tgt := 43) hM.1 hM.2.1 dX12_sign_39 (by decide) ?_
        exact w_X12_sign_j43 hM ho hR hw (lv_sub hl [0, 1, 2] rfl) hf
      refine lv_bipush (v := 6) hM.1 hM.2.1 dX12_sign_26 (by decide) ?_
      refine lv_goto (tgt := 43) hM.1 hM.2.1 dX12_sign_28 (by decide) ?_
      exact w_X12_sign_j43 hM ho hR hw (lv_sub hl [0, 1, 2] rfl) hf
    refine lv_iconst (v := 5) hM.1 hM.2.1 dX12_sign_16 ic_5 ?_
    refine lv_goto (tgt := 43) hM.1 hM.2.1 dX12_sign_17 (by decide) ?_
    exact w_X12_sign_j43 hM ho hR hw (lv_sub hl [0, 1, 2] rfl) hf
  refine lv_iconst (v := 4) hM.1 hM.2.1 dX12_sign_6 ic_4 ?_
  refine lv_goto (tgt := 43) hM.1 hM.2.1 dX12_sign_7 (by decide) ?_
  exact w_X12_sign_j43 hM ho hR hw (lv_sub hl [0, 1, 2] rfl) hf
theorem hd_X12_sign : yX12_sign.cls = RX12 ∧ yX12_sign.cls ≠ "java/lang/invoke/MethodHandle" ∧ yX12_sign.cls ≠ "java/lang/invoke/VarHandle" ∧ (parseMethodDescriptor yX12_sign.desc).map (fun d => d.parameters.length) = some 3 := ⟨rfl, by decide, by decide, by decide +kernel⟩
theorem dX12_cut_0 : decode cX12_cut 0 = .ok (.aload_n 0, 1) := by decide +kernel
theorem dX12_cut_1 : decode cX12_cut 1 = .ok (.iconst 0, 1) := by decide +kernel
theorem dX12_cut_2 : decode cX12_cut 2 = .ok (.putfield 214, 3) := by decide +kernel
theorem dX12_cut_5 : decode cX12_cut 5 = .ok (.iconst 0, 1) := by decide +kernel
theorem dX12_cut_6 : decode cX12_cut 6 = .ok (.istore_n 1, 1) := by decide +kernel
theorem dX12_cut_7 : decode cX12_cut 7 = .ok (.aload_n 0, 1) := by decide +kernel
theorem dX12_cut_8 : decode cX12_cut 8 = .ok (.getfield 214, 3) := by decide +kernel
theorem dX12_cut_11 : decode cX12_cut 11 = .ok (.sipush 400, 3) := by decide +kernel
theorem dX12_cut_14 : decode cX12_cut 14 = .ok (.if_icmp .gt 280, 3) := by decide +kernel
theorem dX12_cut_17 : decode cX12_cut 17 = .ok (.aload_n 0, 1) := by decide +kernel
theorem dX12_cut_18 : decode cX12_cut 18 = .ok (.iload_n 1, 1) := by decide +kernel
theorem dX12_cut_19 : decode cX12_cut 19 = .ok (.invokevirtual 217, 3) := by decide +kernel
theorem dX12_cut_22 : decode cX12_cut 22 = .ok (.istore_n 2, 1) := by decide +kernel
theorem dX12_cut_23 : decode cX12_cut 23 = .ok (.iload_n 1, 1) := by decide +kernel
theorem dX12_cut_24 : decode cX12_cut 24 = .ok (.aload_n 0, 1) := by decide +kernel
theorem dX12_cut_25 : decode cX12_cut 25 = .ok (.getfield 205, 3) := by decide +kernel
theorem dX12_cut_28 : decode cX12_cut 28 = .ok (.if_icmp .lt 15, 3) := by decide +kernel
theorem dX12_cut_31 : decode cX12_cut 31 = .ok (.aload_n 0, 1) := by decide +kernel
theorem dX12_cut_32 : decode cX12_cut 32 = .ok (.iconst 0, 1) := by decide +kernel
theorem dX12_cut_33 : decode cX12_cut 33 = .ok (.aload_n 0, 1) := by decide +kernel
theorem dX12_cut_34 : decode cX12_cut 34 = .ok (.getfield 205, 3) := by decide +kernel
theorem dX12_cut_37 : decode cX12_cut 37 = .ok (.iconst 0, 1) := by decide +kernel
theorem dX12_cut_38 : decode cX12_cut 38 = .ok (.lconst 0, 1) := by decide +kernel
theorem dX12_cut_39 : decode cX12_cut 39 = .ok (.invokevirtual 221, 3) := by decide +kernel
theorem dX12_cut_42 : decode cX12_cut 42 = .ok (.return_, 1) := by decide +kernel
theorem dX12_cut_43 : decode cX12_cut 43 = .ok (.iload_n 2, 1) := by decide +kernel
theorem dX12_cut_44 : decode cX12_cut 44 = .ok (.bipush 9, 2) := by decide +kernel
theorem dX12_cut_46 : decode cX12_cut 46 = .ok (.if_icmp .eq 21, 3) := by decide +kernel
theorem dX12_cut_49 : decode cX12_cut 49 = .ok (.iload_n 2, 1) := by decide +kernel
theorem dX12_cut_50 : decode cX12_cut 50 = .ok (.bipush 10, 2) := by decide +kernel
theorem dX12_cut_52 : decode cX12_cut 52 = .ok (.if_icmp .eq 15, 3) := by decide +kernel
theorem dX12_cut_55 : decode cX12_cut 55 = .ok (.iload_n 2, 1) := by decide +kernel
theorem dX12_cut_56 : decode cX12_cut 56 = .ok (.bipush 13, 2) := by decide +kernel
theorem dX12_cut_58 : decode cX12_cut 58 = .ok (.if_icmp .eq 9, 3) := by decide +kernel
theorem dX12_cut_61 : decode cX12_cut 61 = .ok (.iload_n 2, 1) := by decide +kernel
theorem dX12_cut_62 : decode cX12_cut 62 = .ok (.bipush 32, 2) := by decide +kernel
theorem dX12_cut_64 : decode cX12_cut 64 = .ok (.if_icmp .ne 9, 3) := by decide +kernel
theorem dX12_cut_67 : decode cX12_cut 67 = .ok (.iinc 1 1, 3) := by decide +kernel
theorem dX12_cut_70 : decode cX12_cut 70 = .ok (.goto 221, 3) := by decide +kernel
theorem dX12_cut_73 : decode cX12_cut 73 = .ok (.iload_n 2, 1) := by decide +kernel
theorem dX12_cut_74 : decode cX12_cut 74 = .ok (.invokestatic 225, 3) := by decide +kernel
theorem dX12_cut_77 : decode cX12_cut 77 = .ok (.ifCond .eq 119, 3) := by decide +kernel
theorem dX12_cut_80 : decode cX12_cut 80 = .ok (.iconst 0, 1) := by decide +kernel
theorem dX12_cut_81 : decode cX12_cut 81 = .ok (.istore_n 3, 1) := by decide +kernel
theorem dX12_cut_82 : decode cX12_cut 82 = .ok (.lconst 0, 1) := by decide +kernel
theorem dX12_cut_83 : decode cX12_cut 83 = .ok (.lstore 4, 2) := by decide +kernel
theorem dX12_cut_85 : decode cX12_cut 85 = .ok (.aload_n 0, 1) := by decide +kernel
theorem dX12_cut_86 : decode cX12_cut 86 = .ok (.iload_n 1, 1) := by decide +kernel
theorem dX12_cut_87 : decode cX12_cut 87 = .ok (.iload_n 3, 1) := by decide +kernel
theorem dX12_cut_88 : decode cX12_cut 88 = .ok (.iadd, 1) := by decide +kernel
theorem dX12_cut_89 : decode cX12_cut 89 = .ok (.invokevirtual 217, 3) := by decide +kernel
theorem dX12_cut_92 : decode cX12_cut 92 = .ok (.invokestatic 225, 3) := by decide +kernel
theorem dX12_cut_95 : decode cX12_cut 95 = .ok (.ifCond .eq 29, 3) := by decide +kernel
theorem dX12_cut_98 : decode cX12_cut 98 = .ok (.iload_n 3, 1) := by decide +kernel
theorem dX12_cut_99 : decode cX12_cut 99 = .ok (.bipush 8, 2) := by decide +kernel
theorem dX12_cut_101 : decode cX12_cut 101 = .ok (.if_icmp .ge 17, 3) := by decide +kernel
theorem dX12_cut_104 : decode cX12_cut 104 = .ok (.lload 4, 2) := by decide +kernel
theorem dX12_cut_106 : decode cX12_cut 106 = .ok (.aload_n 0, 1) := by decide +kernel
theorem dX12_cut_107 : decode cX12_cut 107 = .ok (.iload_n 1, 1) := by decide +kernel
theorem dX12_cut_108 : decode cX12_cut 108 = .ok (.iload_n 3, 1) := by decide +kernel
theorem dX12_cut_109 : decode cX12_cut 109 = .ok (.iadd, 1) := by decide +kernel
theorem dX12_cut_110 : decode cX12_cut 110 = .ok (.invokevirtual 217, 3) := by decide +kernel
theorem dX12_cut_113 : decode cX12_cut 113 = .ok (.invokestatic 210, 3) := by decide +kernel
theorem dX12_cut_116 : decode cX12_cut 116 = .ok (.lstore 4, 2) := by decide +kernel
theorem dX12_cut_118 : decode cX12_cut 118 = .ok (.iinc 3 1, 3) := by decide +kernel
theorem dX12_cut_121 : decode cX12_cut 121 = .ok (.goto (-36), 3) := by decide +kernel
theorem dX12_cut_124 : decode cX12_cut 124 = .ok (.iload_n 3, 1) := by decide +kernel
theorem dX12_cut_125 : decode cX12_cut 125 = .ok (.bipush 8, 2) := by decide +kernel
theorem dX12_cut_127 : decode cX12_cut 127 = .ok (.if_icmp .le 7, 3) := by decide +kernel
theorem dX12_cut_130 : decode cX12_cut 130 = .ok (.iconst 3, 1) := by decide +kernel
theorem dX12_cut_131 : decode cX12_cut 131 = .ok (.goto 4, 3) := by decide +kernel
theorem dX12_cut_134 : decode cX12_cut 134 = .ok (.iconst 1, 1) := by decide +kernel
theorem dX12_cut_135 : decode cX12_cut 135 = .ok (.istore 6, 2) := by decide +kernel
theorem dX12_cut_137 : decode cX12_cut 137 = .ok (.iload_n 3, 1) := by decide +kernel
theorem dX12_cut_138 : decode cX12_cut 138 = .ok (.bipush 7, 2) := by decide +kernel
theorem dX12_cut_140 : decode cX12_cut 140 = .ok (.if_icmp .gt 39, 3) := by decide +kernel
theorem dX12_cut_143 : decode cX12_cut 143 = .ok (.iconst 0, 1) := by decide +kernel
theorem dX12_cut_144 : decode cX12_cut 144 = .ok (.istore 7, 2) := by decide +kernel
theorem dX12_cut_146 : decode cX12_cut 146 = .ok (.iload 7, 2) := by decide +kernel
theorem dX12_cut_148 : decode cX12_cut 148 = .ok (.bipush 23, 2) := by decide +kernel
theorem dX12_cut_150 : decode cX12_cut 150 = .ok (.if_icmp .ge 29, 3) := by decide +kernel
theorem dX12_cut_153 : decode cX12_cut 153 = .ok (.aload_n 0, 1) := by decide +kernel
theorem dX12_cut_154 : decode cX12_cut 154 = .ok (.getfield 34, 3) := by decide +kernel
theorem dX12_cut_157 : decode cX12_cut 157 = .ok (.iload 7, 2) := by decide +kernel
theorem dX12_cut_159 : decode cX12_cut 159 = .ok (.laload, 1) := by decide +kernel
theorem dX12_cut_160 : decode cX12_cut 160 = .ok (.lload 4, 2) := by decide +kernel
theorem dX12_cut_162 : decode cX12_cut 162 = .ok (.lcmp, 1) := by decide +kernel
theorem dX12_cut_163 : decode cX12_cut 163 = .ok (.ifCond .ne 10, 3) := by decide +kernel
theorem dX12_cut_166 : decode cX12_cut 166 = .ok (.bipush 20, 2) := by decide +kernel
theorem dX12_cut_168 : decode cX12_cut 168 = .ok (.iload 7, 2) := by decide +kernel
theorem dX12_cut_170 : decode cX12_cut 170 = .ok (.iadd, 1) := by decide +kernel
theorem dX12_cut_171 : decode cX12_cut 171 = .ok (.istore 6, 2) := by decide +kernel
theorem dX12_cut_173 : decode cX12_cut 173 = .ok (.iinc 7 1, 3) := by decide +kernel
theorem dX12_cut_176 : decode cX12_cut 176 = .ok (.goto (-30), 3) := by decide +kernel
theorem dX12_cut_179 : decode cX12_cut 179 = .ok (.aload_n 0, 1) := by decide +kernel
theorem dX12_cut_180 : decode cX12_cut 180 = .ok (.iload 6, 2) := by decide +kernel
theorem dX12_cut_182 : decode cX12_cut 182 = .ok (.iload_n 1, 1) := by decide +kernel
theorem dX12_cut_183 : decode cX12_cut 183 = .ok (.iconst 0, 1) := by decide +kernel
theorem dX12_cut_184 : decode cX12_cut 184 = .ok (.lload 4, 2) := by decide +kernel
theorem dX12_cut_186 : decode cX12_cut 186 = .ok (.invokevirtual 221, 3) := by decide +kernel
theorem dX12_cut_189 : decode cX12_cut 189 = .ok (.iload_n 1, 1) := by decide +kernel
theorem dX12_cut_190 : decode cX12_cut 190 = .ok (.iload_n 3, 1) := by decide +kernel
theorem dX12_cut_191 : decode cX12_cut 191 = .ok (.iadd, 1) := by decide +kernel
theorem dX12_cut_192 : decode cX12_cut 192 = .ok (.istore_n 1, 1) := by decide +kernel
theorem dX12_cut_193 : decode cX12_cut 193 = .ok (.goto 98, 3) := by decide +kernel
theorem dX12_cut_196 : decode cX12_cut 196 = .ok (.iload_n 2, 1) := by decide +kernel
theorem dX12_cut_197 : decode cX12_cut 197 = .ok (.invokestatic 229, 3) := by decide +kernel
theorem dX12_cut_200 : decode cX12_cut 200 = .ok (.ifCond .eq 75, 3) := by decide +kernel
theorem dX12_cut_203 : decode cX12_cut 203 = .ok (.iconst 0, 1) := by decide +kernel
theorem dX12_cut_204 : decode cX12_cut 204 = .ok (.istore_n 3, 1) := by decide +kernel
theorem dX12_cut_205 : decode cX12_cut 205 = .ok (.iconst 0, 1) := by decide +kernel
theorem dX12_cut_206 : decode cX12_cut 206 = .ok (.istore 4, 2) := by decide +kernel
theorem dX12_cut_208 : decode cX12_cut 208 = .ok (.aload_n 0, 1) := by decide +kernel
theorem dX12_cut_209 : decode cX12_cut 209 = .ok (.iload_n 1, 1) := by decide +kernel
theorem dX12_cut_210 : decode cX12_cut 210 = .ok (.iload_n 3, 1) := by decide +kernel
theorem dX12_cut_211 : decode cX12_cut 211 = .ok (.iadd, 1) := by decide +kernel
theorem dX12_cut_212 : decode cX12_cut 212 = .ok (.invokevirtual 217, 3) := by decide +kernel
theorem dX12_cut_215 : decode cX12_cut 215 = .ok (.invokestatic 229, 3) := by decide +kernel
theorem dX12_cut_218 : decode cX12_cut 218 = .ok (.ifCond .eq 32, 3) := by decide +kernel
theorem dX12_cut_221 : decode cX12_cut 221 = .ok (.iload_n 3, 1) := by decide +kernel
theorem dX12_cut_222 : decode cX12_cut 222 = .ok (.iconst 4, 1) := by decide +kernel
theorem dX12_cut_223 : decode cX12_cut 223 = .ok (.if_icmp .ge 21, 3) := by decide +kernel
theorem dX12_cut_226 : decode cX12_cut 226 = .ok (.bipush 10, 2) := by decide +kernel
theorem dX12_cut_228 : decode cX12_cut 228 = .ok (.iload 4, 2) := by decide +kernel
theorem dX12_cut_230 : decode cX12_cut 230 = .ok (.imul, 1) := by decide +kernel
theorem dX12_cut_231 : decode cX12_cut 231 = .ok (.aload_n 0, 1) := by decide +kernel
theorem dX12_cut_232 : decode cX12_cut 232 = .ok (.iload_n 1, 1) := by decide +kernel
theorem dX12_cut_233 : decode cX12_cut 233 = .ok (.iload_n 3, 1) := by decide +kernel
theorem dX12_cut_234 : decode cX12_cut 234 = .ok (.iadd, 1) := by decide +kernel
theorem dX12_cut_235 : decode cX12_cut 235 = .ok (.invokevirtual 217, 3) := by decide +kernel
theorem dX12_cut_238 : decode cX12_cut 238 = .ok (.iadd, 1) := by decide +kernel
theorem dX12_cut_239 : decode cX12_cut 239 = .ok (.bipush 48, 2) := by decide +kernel
theorem dX12_cut_241 : decode cX12_cut 241 = .ok (.isub, 1) := by decide +kernel
theorem dX12_cut_242 : decode cX12_cut 242 = .ok (.istore 4, 2) := by decide +kernel
theorem dX12_cut_244 : decode cX12_cut 244 = .ok (.iinc 3 1, 3) := by decide +kernel
theorem dX12_cut_247 : decode cX12_cut 247 = .ok (.goto (-39), 3) := by decide +kernel
theorem dX12_cut_250 : decode cX12_cut 250 = .ok (.aload_n 0, 1) := by decide +kernel
theorem dX12_cut_251 : decode cX12_cut 251 = .ok (.iload_n 3, 1) := by decide +kernel
theorem dX12_cut_252 : decode cX12_cut 252 = .ok (.iconst 4, 1) := by decide +kernel
theorem dX12_cut_253 : decode cX12_cut 253 = .ok (.if_icmp .le 7, 3) := by decide +kernel
theorem dX12_cut_256 : decode cX12_cut 256 = .ok (.iconst 3, 1) := by decide +kernel
theorem dX12_cut_257 : decode cX12_cut 257 = .ok (.goto 4, 3) := by decide +kernel
theorem dX12_cut_260 : decode cX12_cut 260 = .ok (.iconst 2, 1) := by decide +kernel
theorem dX12_cut_261 : decode cX12_cut 261 = .ok (.iload_n 1, 1) := by decide +kernel
theorem dX12_cut_262 : decode cX12_cut 262 = .ok (.iload 4, 2) := by decide +kernel
theorem dX12_cut_264 : decode cX12_cut 264 = .ok (.lconst 0, 1) := by decide +kernel
theorem dX12_cut_265 : decode cX12_cut 265 = .ok (.invokevirtual 221, 3) := by decide +kernel
theorem dX12_cut_268 : decode cX12_cut 268 = .ok (.iload_n 1, 1) := by decide +kernel
theorem dX12_cut_269 : decode cX12_cut 269 = .ok (.iload_n 3, 1) := by decide +kernel
theorem dX12_cut_270 : decode cX12_cut 270 = .ok (.iadd, 1) := by decide +kernel
theorem dX12_cut_271 : decode cX12_cut 271 = .ok (.istore_n 1, 1) := by decide +kernel
theorem dX12_cut_272 : decode cX12_cut 272 = .ok (.goto 19, 3) := by decide +kernel
theorem dX12_cut_275 : decode cX12_cut 275 = .ok (.iload_n 1, 1) := by decide +kernel
theorem dX12_cut_276 : decode cX12_cut 276 = .ok (.aload_n 0, 1) := by decide +kernel
theorem dX12_cut_277 : decode cX12_cut 277 = .ok (.iload_n 1, 1) := by decide +kernel
theorem dX12_cut_278 : decode cX12_cut 278 = .ok (.iload_n 2, 1) := by decide +kernel
theorem dX12_cut_279 : decode cX12_cut 279 = .ok (.aload_n 0, 1) := by decide +kernel
theorem dX12_cut_280 : decode cX12_cut 280 = .ok (.iload_n 1, 1) := by decide +kernel
theorem dX12_cut_281 : decode cX12_cut 281 = .ok (.iconst 1, 1) := by decide +kernel
theorem dX12_cut_282 : decode cX12_cut 282 = .ok (.iadd, 1) := by decide +kernel
theorem dX12_cut_283 : decode cX12_cut 283 = .ok (.invokevirtual 217, 3) := by decide +kernel
theorem dX12_cut_286 : decode cX12_cut 286 = .ok (.invokevirtual 232, 3) := by decide +kernel
theorem dX12_cut_289 : decode cX12_cut 289 = .ok (.iadd, 1) := by decide +kernel
theorem dX12_cut_290 : decode cX12_cut 290 = .ok (.istore_n 1, 1) := by decide +kernel
theorem dX12_cut_291 : decode cX12_cut 291 = .ok (.goto (-284), 3) := by decide +kernel
theorem dX12_cut_294 : decode cX12_cut 294 = .ok (.return_, 1) := by decide +kernel
def c_X12_cut_L208b {ρ : Type}  (z1 : Int32) (h : PH) (K1 : Int32 → Int32 → Option ρ) (REC : Int32 → Int32 → Option ρ) (x3 : Int32) (x4 : Int32) : Option ρ :=
  (c_X12_byteAt (z1 + x3) h).bind fun r16 =>
  (c_X12_isDigit r16).bind fun r17 =>
  if r17 = 0 then
    K1 x3 x4
  else
    if 4 ≤ x3 then
      nm (x3 + 1) fun v18 =>
      REC v18 x4
    else
      (c_X12_byteAt (z1 + x3) h).bind fun r19 =>
      nm (((10 * x4) + r19) - 48) fun v20 =>
      nm (x3 + 1) fun v21 =>
      REC v21 v20
set_option maxHeartbeats 4000000 in
set_option maxRecDepth 100000 in
theorem w_X12_cut_L208b {p0 : Program} {l : Launch} {e : Env} {s : State} {m : MethodId} {args : Array Value} {below : List Frame} {meth : Method} {c : Code} {Q : State → Prop} {D : va_G} {G : GG} {A : Nat → Prop} {H0 : Heap} {ad : Nat → Nat} {lay : List KK} {X : va_W} {ρ : Type} {r0 : ρ} {z1 : Int32} {x3 : Int32} {x4 : Int32} {h : PH} {H : Heap} {locs : List Loc} {ls : Array Slot} {K1 : Int32 → Int32 → Option ρ} {REC : Int32 → Int32 → Option ρ} (hM : CallFix p0 m c cX12_cut 8 s args lw_g RX12) (ho : okX12 lay) (hk1 : ∀ (x3 : Int32) (x4 : Int32), ∀ (H : Heap) (locs : List Loc) (ls : Array Slot), K1 x3 x4 = some r0 → Wd D G A H0 ad lay X h s H locs → lv_has ls 8 [(0, .ref (ad 0)), (1, .int z1), (3, .int x3), (4, .int x4)] → W p0 l e (rmN 2 49) s m args below meth c H locs 0 0 Q (F0 m 250 ls [])) (hrec : ∀ (x3 : Int32) (x4 : Int32), ∀ (H : Heap) (locs : List Loc) (ls : Array Slot), REC x3 x4 = some r0 → Wd D G A H0 ad lay X h s H locs → lv_has ls 8 [(0, .ref (ad 0)), (1, .int z1), (3, .int x3), (4, .int x4)] → W p0 l e (rmN 2 49) s m args below meth c H locs 0 0 Q (F0 m 208 ls [])) (hw : Wd D G A H0 ad lay X h s H locs) (hl : lv_has ls 8 [(0, .ref (ad 0)), (1, .int z1), (3, .int x3), (4, .int x4)]) (hf : c_X12_cut_L208b z1 h K1 REC x3 x4 = some r0) : W p0 l e (rmN 2 49) s m args below meth c H locs 0 0 Q (F0 m 208 ls []) := by
  unfold c_X12_cut_L208b at hf
  refine lv_aload_n hM.1 hM.2.1 dX12_cut_208 rfl (lv_at hl 0 rfl) ?_
  refine lv_iload_n hM.1 hM.2.1 dX12_cut_209 rfl (lv_at hl 1 rfl) ?_
  refine lv_iload_n hM.1 hM.2.1 dX12_cut_210 rfl (lv_at hl 2 rfl) ?_
  refine lv_iadd hM.1 hM.2.1 dX12_cut_211 ?_
  refine x_callVIr (rest := []) hM hw (ct_X12_byteAt l ho (z1 + x3)) [.int (z1 + x3)] (okX12.o ho) rfl rfl rfl (gi_V ml_X12_217 im_X12_byteAt sl_X12_byteAt in_X12 kc_X12_byteAt) hd_X12_byteAt rfl ⟨Nat.le_of_ble_eq_true rfl, Nat.le_of_ble_eq_true rfl⟩ rfl (Nat.le_of_ble_eq_true rfl) hl.1 hcs0 hf dX12_cut_212 (fun r16 H locs hf hw => ?_)
  refine x_callSIr (rest := []) hM hw (ct_X12_isDigit l r16) [.int r16] rfl (gi_S ml_X12_229 sm_X12_isDigit in_X12 kc_X12_isDigit) hd_X12_isDigit rfl ⟨Nat.le_of_ble_eq_true rfl, Nat.le_of_ble_eq_true rfl⟩ rfl (Nat.le_of_ble_eq_true rfl) hl.1 hcs0 hf dX12_cut_215 (fun r17 H locs hf hw => ?_)
  refine x_if_eq (tgt := 250) hM hf dX12_cut_218 (by decide) (fun hf => ?_) (fun hf => ?_)
  · exact hk1 _ _ _ _ _ hf hw hl
  refine lv_iload_n hM.1 hM.2.1 dX12_cut_221 rfl (lv_at hl 2 rfl) ?_
  refine lv_iconst (v := 4) hM.1 hM.2.1 dX12_cut_222 ic_4 ?_
  refine x_ic_ge (tgt := 244) hM hf dX12_cut_223 (by decide) (fun hf => ?_) (fun hf => ?_)
  · refine x_iinc (k := 2) (d := 1) hM hf dX12_cut_244 hl rfl (by decide) (by decide) (fun v18 => [(3, .int v18), (0, .ref (ad 0)), (1, .int z1), (4, .int x4)]) (fun _ => rfl) (fun v18 ls hf hl => ?_)
    refine lv_goto (tgt := 208) hM.1 hM.2.1 dX12_cut_247 (by decide) ?_
    exact hrec _ _ _ _ _ hf hw (lv_sub hl [1, 2, 0, 3] rfl)
  refine lv_bipush (v := 10) hM.1 hM.2.1 dX12_cut_226 (by decide) ?_
  refine lv_iload hM.1 hM.2.1 dX12_cut_228 (lv_at hl 3 rfl) ?_
  refine lv_imul hM.1 hM.2.1 dX12_cut_230 ?_
  refine lv_aload_n hM.1 hM.2.1 dX12_cut_231 rfl (lv_at hl 0 rfl) ?_
  refine lv_iload_n hM.1 hM.2.1 dX12_cut_232 rfl (lv_at hl 1 rfl) ?_
  refine lv_iload_n hM.1 hM.2.1 dX12_cut_233 rfl (lv_at hl 2 rfl) ?_
  refine lv_iadd hM.1 hM.2.1 dX12_cut_234 ?_
  refine x_callVIr (rest := [.int (10 * x4)]) hM hw (ct_X12_byteAt l ho (z1 + x3)) [.int (z1 + x3)] (okX12.o ho) rfl rfl rfl (gi_V ml_X12_217 im_X12_byteAt sl_X12_byteAt in_X12 kc_X12_byteAt) hd_X12_byteAt rfl ⟨Nat.le_of_ble_eq_true rfl, Nat.le_of_ble_eq_true rfl⟩ rfl (Nat.le_of_ble_eq_true rfl) hl.1 hcs0 hf dX12_cut_235 (fun r19 H locs hf hw => ?_)
  refine lv_iadd hM.1 hM.2.1 dX12_cut_238 ?_
  refine lv_bipush (v := 48) hM.1 hM.2.1 dX12_cut_239 (by decide) ?_
  refine lv_isub hM.1 hM.2.1 dX12_cut_241 ?_
  refine x_istore hM hf dX12_cut_242 hl (by decide) (fun v20 => [(4, .int v20), (0, .ref (ad 0)), (1, .int z1), (3, .int x3)]) (fun _ => rfl) (fun v20 ls hf hl => ?_)
  refine x_iinc (k := 3) (d := 1) hM hf dX12_cut_244 hl rfl (by decide) (by decide) (fun v21 => [(3, .int v21), (4, .int v20), (0, .ref (ad 0)), (1, .int z1)]) (fun _ => rfl) (fun v21 ls hf hl => ?_)
  refine lv_goto (tgt := 208) hM.1 hM.2.1 dX12_cut_247 (by decide) ?_
  exact hrec _ _ _ _ _ hf hw (lv_sub hl [2, 3, 0, 1] rfl)
set_option maxHeartbeats 4000000 in
set_option maxRecDepth 100000 in
theorem w_X12_cut_L208 {p0 : Program} {l : Launch} {e : Env} {s : State} {m : MethodId} {args : Array Value} {below : List Frame} {meth : Method} {c : Code} {Q : State → Prop} {D : va_G} {G : GG} {A : Nat → Prop} {H0 : Heap} {ad : Nat → Nat} {lay : List KK} {X : va_W} {ρ : Type} {r0 : ρ} {z1 : Int32} {h : PH} {K1 : Int32 → Int32 → Option ρ} (hM : CallFix p0 m c cX12_cut 8 s args lw_g RX12) (ho : okX12 lay) (hk1 : ∀ (x3 : Int32) (x4 : Int32), ∀ (H : Heap) (locs : List Loc) (ls : Array Slot), K1 x3 x4 = some r0 → Wd D G A H0 ad lay X h s H locs → lv_has ls 8 [(0, .ref (ad 0)), (1, .int z1), (3, .int x3), (4, .int x4)] → W p0 l e (rmN 2 49) s m args below meth c H locs 0 0 Q (F0 m 250 ls [])) (n : Nat) (x3 : Int32) (x4 : Int32) (hf : lq2 (c_X12_cut_L208b z1 h K1) n x3 x4 = some r0) : ∀ (H : Heap) (locs : List Loc) (ls : Array Slot), Wd D G A H0 ad lay X h s H locs → lv_has ls 8 [(0, .ref (ad 0)), (1, .int z1), (3, .int x3), (4, .int x4)] → W p0 l e (rmN 2 49) s m args below meth c H locs 0 0 Q (F0 m 208 ls []) := by
  exact lq2_i (fun (x3 : Int32) (x4 : Int32) => ∀ (H : Heap) (locs : List Loc) (ls : Array Slot), Wd D G A H0 ad lay X h s H locs → lv_has ls 8 [(0, .ref (ad 0)), (1, .int z1), (3, .int x3), (4, .int x4)] → W p0 l e (rmN 2 49) s m args below meth c H locs 0 0 Q (F0 m 208 ls [])) (fun REC x3 x4 ih hf H locs ls hw hl => w_X12_cut_L208b hM ho hk1 (fun x3 x4 H locs ls hf hw hl => ih x3 x4 hf H locs ls hw hl) hw hl hf) n x3 x4 hf
def c_X12_cut_L85b {ρ : Type}  (z1 : Int32) (h : PH) (K1 : Int32 → Int64 → Option ρ) (REC : Int32 → Int64 → Option ρ) (x3 : Int32) (x4 : Int64) : Option ρ :=
  (c_X12_byteAt (z1 + x3) h).bind fun r30 =>
  (c_X12_isLetter r30).bind fun r31 =>
  if r31 = 0 then
    K1 x3 x4
  else
    if 8 ≤ x3 then
      nm (x3 + 1) fun v32 =>
      REC v32 x4
    else
      (c_X12_byteAt (z1 + x3) h).bind fun r33 =>
      (c_X12_appends x4 r33).bind fun r34 =>
      nm r34 fun v35 =>
      nm (x3 + 1) fun v36 =>
      REC v36 v35
set_option maxHeartbeats 4000000 in
set_option maxRecDepth 100000 in
theorem w_X12_cut_L85b {p0 : Program} {l : Launch} {e : Env} {s : State} {m : MethodId} {args : Array Value} {below : List Frame} {meth : Method} {c : Code} {Q : State → Prop} {D : va_G} {G : GG} {A : Nat → Prop} {H0 : Heap} {ad : Nat → Nat} {lay : List KK} {X : va_W} {ρ : Type} {r0 : ρ} {z1 : Int32} {x3 : Int32} {x4 : Int64} {h : PH} {H : Heap} {locs : List Loc} {ls : Array Slot} {K1 : Int32 → Int64 → Option ρ} {REC : Int32 → Int64 → Option ρ} (hM : CallFix p0 m c cX12_cut 8 s args lw_g RX12) (ho : okX12 lay) (hk1 : ∀ (x3 : Int32) (x4 : Int64), ∀ (H : Heap) (locs : List Loc) (ls : Array Slot), K1 x3 x4 = some r0 → Wd D G A H0 ad lay X h s H locs → lv_has ls 8 [(0, .ref (ad 0)), (1, .int z1), (3, .int x3), (4, .long x4)] → W p0 l e (rmN 2 49) s m args below meth c H locs 0 0 Q (F0 m 124 ls [])) (hrec : ∀ (x3 : Int32) (x4 : Int64), ∀ (H : Heap) (locs : List Loc) (ls : Array Slot), REC x3 x4 = some r0 → Wd D G A H0 ad lay X h s H locs → lv_has ls 8 [(0, .ref (ad 0)), (1, .int z1), (3, .int x3), (4, .long x4)] → W p0 l e (rmN 2 49) s m args below meth c H locs 0 0 Q (F0 m 85 ls [])) (hw : Wd D G A H0 ad lay X h s H locs) (hl : lv_has ls 8 [(0, .ref (ad 0)), (1, .int z1), (3, .int x3), (4, .long x4)]) (hf : c_X12_cut_L85b z1 h K1 REC x3 x4 = some r0) : W p0 l e (rmN 2 49) s m args below meth c H locs 0 0 Q (F0 m 85 ls []) := by
  unfold c_X12_cut_L85b at hf
  refine lv_aload_n hM.1 hM.2.1 dX12_cut_85 rfl (lv_at hl 0 rfl) ?_
  refine lv_iload_n hM.1 hM.2.1 dX12_cut_86 rfl (lv_at hl 1 rfl) ?_
  refine lv_iload_n hM.1 hM.2.1 dX12_cut_87 rfl (lv_at hl 2 rfl) ?_
  refine lv_iadd hM.1 hM.2.1 dX12_cut_88 ?_
  refine x_callVIr (rest := []) hM hw (ct_X12_byteAt l ho (z1 + x3)) [.int (z1 + x3)] (okX12.o ho) rfl rfl rfl (gi_V ml_X12_217 im_X12_byteAt sl_X12_byteAt in_X12 kc_X12_byteAt) hd_X12_byteAt rfl ⟨Nat.le_of_ble_eq_true rfl, Nat.le_of_ble_eq_true rfl⟩ rfl (Nat.le_of_ble_eq_true rfl) hl.1 hcs0 hf dX12_cut_89 (fun r30 H locs hf hw => ?_)
  refine x_callSIr (rest := []) hM hw (ct_X12_isLetter l r30) [.int r30] rfl (gi_S ml_X12_225 sm_X12_isLetter in_X12 kc_X12_isLetter) hd_X12_isLetter rfl ⟨Nat.le_of_ble_eq_true rfl, Nat.le_of_ble_eq_true rfl⟩ rfl (Nat.le_of_ble_eq_true rfl) hl.1 hcs0 hf dX12_cut_92 (fun r31 H locs hf hw => ?_)
  refine x_if_eq (tgt := 124) hM hf dX12_cut_95 (by decide) (fun hf => ?_) (fun hf => ?_)
  · exact hk1 _ _ _ _ _ hf hw hl
  refine lv_iload_n hM.1 hM.2.1 dX12_cut_98 rfl (lv_at hl 2 rfl) ?_
  refine lv_bipush (v := 8) hM.1 hM.2.1 dX12_cut_99 (by decide) ?_
  refine x_ic_ge (tgt := 118) hM hf dX12_cut_101 (by decide) (fun hf => ?_) (fun hf => ?_)
  · refine x_iinc (k := 2) (d := 1) hM hf dX12_cut_118 hl rfl (by decide) (by decide) (fun v32 => [(3, .int v32), (0, .ref (ad 0)), (1, .int z1), (4, .long x4)]) (fun _ => rfl) (fun v32 ls hf hl => ?_)
    refine lv_goto (tgt := 85) hM.1 hM.2.1 dX12_cut_121 (by decide) ?_
    exact hrec _ _ _ _ _ hf hw (lv_sub hl [1, 2, 0, 3] rfl)
  refine lv_lload hM.1 hM.2.1 dX12_cut_104 (lv_at hl 3 rfl) ?_
  refine lv_aload_n hM.1 hM.2.1 dX12_cut_106 rfl (lv_at hl 0 rfl) ?_
  refine lv_iload_n hM.1 hM.2.1 dX12_cut_107 rfl (lv_at hl 1 rfl) ?_
  refine lv_iload_n hM.1 hM.2.1 dX12_cut_108 rfl (lv_at hl 2 rfl) ?_
  refine lv_iadd hM.1 hM.2.1 dX12_cut_109 ?_
  refine x_callVIr (rest := [.long x4]) hM hw (ct_X12_byteAt l ho (z1 + x3)) [.int (z1 + x3)] (okX12.o ho) rfl rfl rfl (gi_V ml_X12_217 im_X12_byteAt sl_X12_byteAt in_X12 kc_X12_byteAt) hd_X12_byteAt rfl ⟨Nat.le_of_ble_eq_true rfl, Nat.le_of_ble_eq_true rfl⟩ rfl (Nat.le_of_ble_eq_true rfl) hl.1 hcs0 hf dX12_cut_110 (fun r33 H locs hf hw => ?_)
  refine x_callSLr (rest := []) hM hw (ct_X12_appends l x4 r33) [.long x4, .int r33] rfl (gi_S ml_X12_210 sm_X12_appends in_X12 kc_X12_appends) hd_X12_appends rfl ⟨Nat.le_of_ble_eq_true rfl, Nat.le_of_ble_eq_true rfl⟩ rfl (Nat.le_of_ble_eq_true rfl) hl.1 hcs0 hf dX12_cut_113 (fun r34 H locs hf hw => ?_)
  refine x_lstore hM hf dX12_cut_116 hl (by decide) (fun v35 => [(4, .long v35), (0, .ref (ad 0)), (1, .int z1), (3, .int x3)]) (fun _ => rfl) (fun v35 ls hf hl => ?_)
  refine x_iinc (k := 3) (d := 1) hM hf dX12_cut_118 hl rfl (by decide) (by decide) (fun v36 => [(3, .int v36), (4, .long v35), (0, .ref (ad 0)), (1, .int z1)]) (fun _ => rfl) (fun v36 ls hf hl => ?_)
  refine lv_goto (tgt := 85) hM.1 hM.2.1 dX12_cut_121 (by decide) ?_
  exact hrec _ _ _ _ _ hf hw (lv_sub hl [2, 3, 0, 1] rfl)
set_option maxHeartbeats 4000000 in
set_option maxRecDepth 100000 in
theorem w_X12_cut_L85 {p0 : Program} {l : Launch} {e : Env} {s : State} {m : MethodId} {args : Array Value} {below : List Frame} {meth : Method} {c : Code} {Q : State → Prop} {D : va_G} {G : GG} {A : Nat → Prop} {H0 : Heap} {ad : Nat → Nat} {lay : List KK} {X : va_W} {ρ : Type} {r0 : ρ} {z1 : Int32} {h : PH} {K1 : Int32 → Int64 → Option ρ} (hM : CallFix p0 m c cX12_cut 8 s args lw_g RX12) (ho : okX12 lay) (hk1 : ∀ (x3 : Int32) (x4 : Int64), ∀ (H : Heap) (locs : List Loc) (ls : Array Slot), K1 x3 x4 = some r0 → Wd D G A H0 ad lay X h s H locs → lv_has ls 8 [(0, .ref (ad 0)), (1, .int z1), (3, .int x3), (4, .long x4)] → W p0 l e (rmN 2 49) s m args below meth c H locs 0 0 Q (F0 m 124 ls [])) (n : Nat) (x3 : Int32) (x4 : Int64) (hf : lq2 (c_X12_cut_L85b z1 h K1) n x3 x4 = some r0) : ∀ (H : Heap) (locs : List Loc) (ls : Array Slot), Wd D G A H0 ad lay X h s H locs → lv_has ls 8 [(0, .ref (ad 0)), (1, .int z1), (3, .int x3), (4, .long x4)] → W p0 l e (rmN 2 49) s m args below meth c H locs 0 0 Q (F0 m 85 ls []) := by
  exact lq2_i (fun (x3 : Int32) (x4 : Int64) => ∀ (H : Heap) (locs : List Loc) (ls : Array Slot), Wd D G A H0 ad lay X h s H locs → lv_has ls 8 [(0, .ref (ad 0)), (1, .int z1), (3, .int x3), (4, .long x4)] → W p0 l e (rmN 2 49) s m args below meth c H locs 0 0 Q (F0 m 85 ls [])) (fun REC x3 x4 ih hf H locs ls hw hl => w_X12_cut_L85b hM ho hk1 (fun x3 x4 H locs ls hf hw hl => ih x3 x4 hf H locs ls hw hl) hw hl hf) n x3 x4 hf
def c_X12_cut_L146b {ρ : Type}  (z1 : Int32) (z3 : Int32) (z4 : Int64) (h : PH) (K1 : Int32 → Option ρ) (REC : Int32 → Int32 → Option ρ) (x6 : Int32) (x7 : Int32) : Option ρ :=
  if 23 ≤ x7 then
    K1 x6
  else
    gd (ixOK x7 23) <|
    if (lg_cmp (h.2.1 7 x7.toNatClampNeg) z4) = 0 then
      nm (20 + x7) fun v44 =>
      nm (x7 + 1) fun v45 =>
      REC v44 v45
    else
      nm (x7 + 1) fun v43 =>
      REC x6 v43
set_option maxHeartbeats 4000000 in
set_option maxRecDepth 100000 in
theorem w_X12_cut_L146b {p0 : Program} {l : Launch} {e : Env} {s : State} {m : MethodId} {args : Array Value} {below : List Frame} {meth : Method} {c : Code} {Q : State → Prop} {D : va_G} {G : GG} {A : Nat → Prop} {H0 : Heap} {ad : Nat → Nat} {lay : List KK} {X : va_W} {ρ : Type} {r0 : ρ} {z1 : Int32} {z3 : Int32} {z4 : Int64} {x6 : Int32} {x7 : Int32} {h : PH} {H : Heap} {locs : List Loc} {ls : Array Slot} {K1 : Int32 → Option ρ} {REC : Int32 → Int32 → Option ρ} (hM : CallFix p0 m c cX12_cut 8 s args lw_g RX12) (ho : okX12 lay) (hk1 : ∀ (x6 : Int32), ∀ (H : Heap) (locs : List Loc) (ls : Array Slot), K1 x6 = some r0 → Wd D G A H0 ad lay X h s H locs → lv_has ls 8 [(0, .ref (ad 0)), (1, .int z1), (3, .int z3), (4, .long z4), (6, .int x6)] → W p0 l e (rmN 2 49) s m args below meth c H locs 0 0 Q (F0 m 179 ls [])) (hrec : ∀ (x6 : Int32) (x7 : Int32), ∀ (H : Heap) (locs : List Loc) (ls : Array Slot), REC x6 x7 = some r0 → Wd D G A H0 ad lay X h s H locs → lv_has ls 8 [(0, .ref (ad 0)), (1, .int z1), (3, .int z3), (4, .long z4), (6, .int x6), (7, .int x7)] → W p0 l e (rmN 2 49) s m args below meth c H locs 0 0 Q (F0 m 146 ls [])) (hw : Wd D G A H0 ad lay X h s H locs) (hl : lv_has ls 8 [(0, .ref (ad 0)), (1, .int z1), (3, .int z3), (4, .long z4), (6, .int x6), (7, .int x7)]) (hf : c_X12_cut_L146b z1 z3 z4 h K1 REC x6 x7 = some r0) : W p0 l e (rmN 2 49) s m args below meth c H locs 0 0 Q (F0 m 146 ls []) := by
  unfold c_X12_cut_L146b at hf
  refine lv_iload hM.1 hM.2.1 dX12_cut_146 (lv_at hl 5 rfl) ?_
  refine lv_bipush (v := 23) hM.1 hM.2.1 dX12_cut_148 (by decide) ?_
  refine x_ic_ge (tgt := 179) hM hf dX12_cut_150 (by decide) (fun hf => ?_) (fun hf => ?_)
  · exact hk1 _ _ _ _ hf hw (lv_sub hl [0, 1, 2, 3, 4] rfl)
  refine lv_aload_n hM.1 hM.2.1 dX12_cut_153 rfl (lv_at hl 0 rfl) ?_
  refine gf_X12_keys hM hw (okX12.o ho) fl_X12_34 dX12_cut_154 ?_
  refine lv_iload hM.1 hM.2.1 dX12_cut_157 (lv_at hl 5 rfl) ?_
  refine x_lald hM hw (okX12.keys ho) hf dX12_cut_159 (fun hf => ?_)
  refine lv_lload hM.1 hM.2.1 dX12_cut_160 (lv_at hl 3 rfl) ?_
  refine W.lcmp hM.1 hM.2.1 dX12_cut_162 ?_
  refine x_if_ne (tgt := 173) hM hf dX12_cut_163 (by decide) (fun hf => ?_) (fun hf => ?_)
  · refine x_iinc (k := 5) (d := 1) hM hf dX12_cut_173 hl rfl (by decide) (by decide) (fun v43 => [(7, .int v43), (0, .ref (ad 0)), (1, .int z1), (3, .int z3), (4, .long z4), (6, .int x6)]) (fun _ => rfl) (fun v43 ls hf hl => ?_)
    refine lv_goto (tgt := 146) hM.1 hM.2.1 dX12_cut_176 (by decide) ?_
    exact hrec _ _ _ _ _ hf hw (lv_sub hl [1, 2, 3, 4, 5, 0] rfl)
  refine lv_bipush (v := 20) hM.1 hM.2.1 dX12_cut_166 (by decide) ?_
  refine lv_iload hM.1 hM.2.1 dX12_cut_168 (lv_at hl 5 rfl) ?_
  refine lv_iadd hM.1 hM.2.1 dX12_cut_170 ?_
  refine x_istore hM hf dX12_cut_171 hl (by decide) (fun v44 => [(6, .int v44), (0, .ref (ad 0)), (1, .int z1), (3, .int z3), (4, .long z4), (7, .int x7)]) (fun _ => rfl) (fun v44 ls hf hl => ?_)
  refine x_iinc (k := 5) (d := 1) hM hf dX12_cut_173 hl rfl (by decide) (by decide) (fun v45 => [(7, .int v45), (6, .int v44), (0, .ref (ad 0)), (1, .int z1), (3, .int z3), (4, .long z4)]) (fun _ => rfl) (fun v45 ls hf hl => ?_)
  refine lv_goto (tgt := 146) hM.1 hM.2.1 dX12_cut_176 (by decide) ?_
  exact hrec _ _ _ _ _ hf hw (lv_sub hl [2, 3, 4, 5, 1, 0] rfl)
set_option maxHeartbeats 4000000 in
set_option maxRecDepth 100000 in
theorem w_X12_cut_L146 {p0 : Program} {l : Launch} {e : Env} {s : State} {m : MethodId} {args : Array Value} {below : List Frame} {meth : Method} {c : Code} {Q : State → Prop} {D : va_G} {G : GG} {A : Nat → Prop} {H0 : Heap} {ad : Nat → Nat} {lay : List KK} {X : va_W} {ρ : Type} {r0 : ρ} {z1 : Int32} {z3 : Int32} {z4 : Int64} {h : PH} {K1 : Int32 → Option ρ} (hM : CallFix p0 m c cX12_cut 8 s args lw_g RX12) (ho : okX12 lay) (hk1 : ∀ (x6 : Int32), ∀ (H : Heap) (locs : List Loc) (ls : Array Slot), K1 x6 = some r0 → Wd D G A H0 ad lay X h s H locs → lv_has ls 8 [(0, .ref (ad 0)), (1, .int z1), (3, .int z3), (4, .long z4), (6, .int x6)] → W p0 l e (rmN 2 49) s m args below meth c H locs 0 0 Q (F0 m 179 ls [])) (n : Nat) (x6 : Int32) (x7 : Int32) (hf : lq2 (c_X12_cut_L146b z1 z3 z4 h K1) n x6 x7 = some r0) : ∀ (H : Heap) (locs : List Loc) (ls : Array Slot), Wd D G A H0 ad lay X h s H locs → lv_has ls 8 [(0, .ref (ad 0)), (1, .int z1), (3, .int z3), (4, .long z4), (6, .int x6), (7, .int x7)] → W p0 l e (rmN 2 49) s m args below meth c H locs 0 0 Q (F0 m 146 ls []) := by
  exact lq2_i (fun (x6 : Int32) (x7 : Int32) => ∀ (H : Heap) (locs : List Loc) (ls : Array Slot), Wd D G A H0 ad lay X h s H locs → lv_has ls 8 [(0, .ref (ad 0)), (1, .int z1), (3, .int z3), (4, .long z4), (6, .int x6), (7, .int x7)] → W p0 l e (rmN 2 49) s m args below meth c H locs 0 0 Q (F0 m 146 ls [])) (fun REC x6 x7 ih hf H locs ls hw hl => w_X12_cut_L146b hM ho hk1 (fun x6 x7 H locs ls hf hw hl => ih x6 x7 hf H locs ls hw hl) hw hl hf) n x6 x7 hf
def c_X12_cut_j135 {ρ : Type}  (K1 : PH → Option ρ) (K2 : PH → Option ρ) (REC : Int32 → PH → Option ρ) (x1 : Int32) (x3 : Int32) (x4 : Int64) (y0 : Int32) (h : PH) : Option (ρ) :=
  nm y0 fun v39 =>
  if 7 < x3 then
    (c_X12_token v39 x1 0 x4 h).bind fun h40 =>
    nm (x1 + x3) fun v41 =>
    REC v41 h40
  else
    nm (0 : Int32) fun v42 =>
    lq2 (c_X12_cut_L146b x1 x3 x4 h
      (fun w46 =>
        (c_X12_token w46 x1 0 x4 h).bind fun h47 =>
        nm (x1 + x3) fun v48 =>
        REC v48 h47)) fu v39 v42
set_option maxHeartbeats 4000000 in
set_option maxRecDepth 100000 in
theorem w_X12_cut_j135 {p0 : Program} {l : Launch} {e : Env} {s : State} {m : MethodId} {args : Array Value} {below : List Frame} {meth : Method} {c : Code} {Q : State → Prop} {D : va_G} {G : GG} {A : Nat → Prop} {H0 : Heap} {ad : Nat → Nat} {lay : List KK} {X : va_W} {ρ : Type} {r0 : ρ} {x1 : Int32} {x3 : Int32} {x4 : Int64} {y0 : Int32} {h : PH} {H : Heap} {locs : List Loc} {ls : Array Slot} {K1 : PH → Option ρ} {K2 : PH → Option ρ} {REC : Int32 → PH → Option ρ} (hM : CallFix p0 m c cX12_cut 8 s args lw_g RX12) (ho : okX12 lay) (hk1 : ∀ (h : PH), ∀ (H : Heap) (locs : List Loc) (ls : Array Slot), K1 h = some r0 → Wd D G A H0 ad lay X h s H locs → lv_has ls 8 [(0, .ref (ad 0))] → W p0 l e (rmN 2 49) s m args below meth c H locs 0 0 Q (F0 m 31 ls [])) (hk2 : ∀ (h : PH), ∀ (H : Heap) (locs : List Loc) (ls : Array Slot), K2 h = some r0 → Wd D G A H0 ad lay X h s H locs → lv_has ls 8 [] → W p0 l e (rmN 2 49) s m args below meth c H locs 0 0 Q (F0 m 294 ls [])) (hrec : ∀ (x1 : Int32) (h : PH), ∀ (H : Heap) (locs : List Loc) (ls : Array Slot), REC x1 h = some r0 → Wd D G A H0 ad lay X h s H locs → lv_has ls 8 [(0, .ref (ad 0)), (1, .int x1)] → W p0 l e (rmN 2 49) s m args below meth c H locs 0 0 Q (F0 m 7 ls [])) (hw : Wd D G A H0 ad lay X h s H locs) (hl : lv_has ls 8 [(0, .ref (ad 0)), (1, .int x1), (3, .int x3), (4, .long x4)]) (hf : c_X12_cut_j135 K1 K2 REC x1 x3 x4 y0 h = some r0) : W p0 l e (rmN 2 49) s m args below meth c H locs 0 0 Q (F0 m 135 ls [.int y0]) := by
  unfold c_X12_cut_j135 at hf
  refine x_istore hM hf dX12_cut_135 hl (by decide) (fun v39 => [(6, .int v39), (0, .ref (ad 0)), (1, .int x1), (3, .int x3), (4, .long x4)]) (fun _ => rfl) (fun v39 ls hf hl => ?_)
  refine lv_iload_n hM.1 hM.2.1 dX12_cut_137 rfl (lv_at hl 3 rfl) ?_
  refine lv_bipush (v := 7) hM.1 hM.2.1 dX12_cut_138 (by decide) ?_
  refine x_ic_gt (tgt := 179) hM hf dX12_cut_140 (by decide) (fun hf => ?_) (fun hf => ?_)
  · refine lv_aload_n hM.1 hM.2.1 dX12_cut_179 rfl (lv_at hl 1 rfl) ?_
    refine lv_iload hM.1 hM.2.1 dX12_cut_180 (lv_at hl 0 rfl) ?_
    refine lv_iload_n hM.1 hM.2.1 dX12_cut_182 rfl (lv_at hl 2 rfl) ?_
    refine lv_iconst (v := 0) hM.1 hM.2.1 dX12_cut_183 ic_0 ?_
    refine lv_lload hM.1 hM.2.1 dX12_cut_184 (lv_at hl 4 rfl) ?_
    refine x_callVV (rest := []) hM hw (ct_X12_token l ho v39 x1 0 x4) [.int v39, .int x1, .int 0, .long x4] (okX12.o ho) rfl rfl rfl (gi_V ml_X12_221 im_X12_token sl_X12_token in_X12 kc_X12_token) hd_X12_token rfl ⟨Nat.le_of_ble_eq_true rfl, Nat.le_of_ble_eq_true rfl⟩ rfl (Nat.le_of_ble_eq_true rfl) hl.1 hcs0 hf dX12_cut_186 (fun h40 H locs hf hw => ?_)
    refine lv_iload_n hM.1 hM.2.1 dX12_cut_189 rfl (lv_at hl 2 rfl) ?_
    refine lv_iload_n hM.1 hM.2.1 dX12_cut_190 rfl (lv_at hl 3 rfl) ?_
    refine lv_iadd hM.1 hM.2.1 dX12_cut_191 ?_
    refine x_istore_n hM hf dX12_cut_192 rfl hl (by decide) (fun v41 => [(1, .int v41), (6, .int v39), (0, .ref (ad 0)), (3, .int x3), (4, .long x4)]) (fun _ => rfl) (fun v41 ls hf hl => ?_)
    refine lv_goto (tgt := 291) hM.1 hM.2.1 dX12_cut_193 (by decide) ?_
    refine lv_goto (tgt := 7) hM.1 hM.2.1 dX12_cut_291 (by decide) ?_
    exact hrec _ _ _ _ _ hf hw (lv_sub hl [2, 0] rfl)
  refine lv_iconst (v := 0) hM.1 hM.2.1 dX12_cut_143 ic_0 ?_
  refine x_istore hM hf dX12_cut_144 hl (by decide) (fun v42 => [(7, .int v42), (6, .int v39), (0, .ref (ad 0)), (1, .int x1), (3, .int x3), (4, .long x4)]) (fun _ => rfl) (fun v42 ls hf hl => ?_)
  refine w_X12_cut_L146 hM ho (fun w46 H locs ls hf hw hl => ?_) fu _ _ hf _ _ _ hw (lv_sub hl [2, 3, 4, 5, 1, 0] rfl)
  refine lv_aload_n hM.1 hM.2.1 dX12_cut_179 rfl (lv_at hl 0 rfl) ?_
  refine lv_iload hM.1 hM.2.1 dX12_cut_180 (lv_at hl 4 rfl) ?_
  refine lv_iload_n hM.1 hM.2.1 dX12_cut_182 rfl (lv_at hl 1 rfl) ?_
  refine lv_iconst (v := 0) hM.1 hM.2.1 dX12_cut_183 ic_0 ?_
  refine lv_lload hM.1 hM.2.1 dX12_cut_184 (lv_at hl 3 rfl) ?_
  refine x_callVV (rest := []) hM hw (ct_X12_token l ho w46 x1 0 x4) [.int w46, .int x1, .int 0, .long x4] (okX12.o ho) rfl rfl rfl (gi_V ml_X12_221 im_X12_token sl_X12_token in_X12 kc_X12_token) hd_X12_token rfl ⟨Nat.le_of_ble_eq_true rfl, Nat.le_of_ble_eq_true rfl⟩ rfl (Nat.le_of_ble_eq_true rfl) hl.1 hcs0 hf dX12_cut_186 (fun h47 H locs hf hw => ?_)
  refine lv_iload_n hM.1 hM.2.1 dX12_cut_189 rfl (lv_at hl 1 rfl) ?_
  refine lv_iload_n hM.1 hM.2.1 dX12_cut_190 rfl (lv_at hl 2 rfl) ?_
  refine lv_iadd hM.1 hM.2.1 dX12_cut_191 ?_
  refine x_istore_n hM hf dX12_cut_192 rfl hl (by decide) (fun v48 => [(1, .int v48), (0, .ref (ad 0)), (3, .int x3), (4, .long x4), (6, .int w46)]) (fun _ => rfl) (fun v48 ls hf hl => ?_)
  refine lv_goto (tgt := 291) hM.1 hM.2.1 dX12_cut_193 (by decide) ?_
  refine lv_goto (tgt := 7) hM.1 hM.2.1 dX12_cut_291 (by decide) ?_
  exact hrec _ _ _ _ _ hf hw (lv_sub hl [1, 0] rfl)
def c_X12_cut_L7b {ρ : Type}  (K1 : PH → Option ρ) (K2 : PH → Option ρ) (REC : Int32 → PH → Option ρ) (x1 : Int32) (h : PH) : Option ρ :=
  if 400 < (h.1 0 10) then
    K2 h
  else
    (c_X12_byteAt x1 h).bind fun r3 =>
    nm r3 fun v4 =>
    if x1 < (h.1 0 4) then
      if v4 = 9 then
        nm (x1 + 1) fun v5 =>
        REC v5 h
      else
        if v4 = 10 then
          nm (x1 + 1) fun v6 =>
          REC v6 h
        else
          if v4 = 13 then
            nm (x1 + 1) fun v7 =>
            REC v7 h
          else
            if v4 = 32 then
              nm (x1 + 1) fun v49 =>
              REC v49 h
            else
              (c_X12_isLetter v4).bind fun r8 =>
              if r8 = 0 then
                (c_X12_isDigit v4).bind fun r9 =>
                if r9 = 0 then
                  (c_X12_byteAt (x1 + 1) h).bind fun r10 =>
                  bind2 (c_X12_sign x1 v4 r10 h) fun r11 h12 =>
                  nm (x1 + r11) fun v13 =>
                  REC v13 h12
                else
                  nm (0 : Int32) fun v14 =>
                  nm (0 : Int32) fun v15 =>
                  lq2 (c_X12_cut_L208b x1 h
                    (fun w22 w23 =>
                      if w22 ≤ 4 then
                        (c_X12_token 2 x1 w23 (0 : Int64) h).bind fun h24 =>
                        nm (x1 + w22) fun v25 =>
                        REC v25 h24
                      else
                        (c_X12_token 3 x1 w23 (0 : Int64) h).bind fun h26 =>
                        nm (x1 + w22) fun v27 =>
                        REC v27 h26)) fu v14 v15
              else
                nm (0 : Int32) fun v28 =>
                nm (0 : Int64) fun v29 =>
                lq2 (c_X12_cut_L85b x1 h
                  (fun w37 w38 =>
                    if w37 ≤ 8 then
                      c_X12_cut_j135 K1 K2 REC x1 w37 w38 1 h
                    else
                      c_X12_cut_j135 K1 K2 REC x1 w37 w38 3 h)) fu v28 v29
    else
      K1 h
set_option maxHeartbeats 4000000 in
set_option maxRecDepth 100000 in
theorem w_X12_cut_L7b {p0 : Program} {l : Launch} {e : Env} {s : State} {m : MethodId} {args : Array Value} {below : List Frame} {meth : Method} {c : Code} {Q : State → Prop} {D : va_G} {G : GG} {A : Nat → Prop} {H0 : Heap} {ad : Nat → Nat} {lay : List KK} {X : va_W} {ρ : Type} {r0 : ρ} {x1 : Int32} {h : PH} {H : Heap} {locs : List Loc} {ls : Array Slot} {K1 : PH → Option ρ} {K2 : PH → Option ρ} {REC : Int32 → PH → Option ρ} (hM : CallFix p0 m c cX12_cut 8 s args lw_g RX12) (ho : okX12 lay) (hk1 : ∀ (h : PH), ∀ (H : Heap) (locs : List Loc) (ls : Array Slot), K1 h = some r0 → Wd D G A H0 ad lay X h s H locs → lv_has ls 8 [(0, .ref (ad 0))] → W p0 l e (rmN 2 49) s m args below meth c H locs 0 0 Q (F0 m 31 ls [])) (hk2 : ∀ (h : PH), ∀ (H : Heap) (locs : List Loc) (ls : Array Slot), K2 h = some r0 → Wd D G A H0 ad lay X h s H locs → lv_has ls 8 [] → W p0 l e (rmN 2 49) s m args below meth c H locs 0 0 Q (F0 m 294 ls [])) (hrec : ∀ (x1 : Int32) (h : PH), ∀ (H : Heap) (locs : List Loc) (ls : Array Slot), REC x1 h = some r0 → Wd D G A H0 ad lay X h s H locs → lv_has ls 8 [(0, .ref (ad 0)), (1, .int x1)] → W p0 l e (rmN 2 49) s m args below meth c H locs 0 0 Q (F0 m 7 ls [])) (hw : Wd D G A H0 ad lay X h s H locs) (hl : lv_has ls 8 [(0, .ref (ad 0)), (1, .int x1)]) (hf : c_X12_cut_L7b K1 K2 REC x1 h = some r0) : W p0 l e (rmN 2 49) s m args below meth c H locs 0 0 Q (F0 m 7 ls []) := by
  unfold c_X12_cut_L7b at hf
  refine lv_aload_n hM.1 hM.2.1 dX12_cut_7 rfl (lv_at hl 0 rfl) ?_
  refine gf_X12_tokens hM hw (okX12.o ho) fl_X12_214 dX12_cut_8 ?_
  refine lv_sipush (v := 400) hM.1 hM.2.1 dX12_cut_11 (by decide) ?_
  refine x_ic_gt (tgt := 294) hM hf dX12_cut_14 (by decide) (fun hf => ?_) (fun hf => ?_)
  · exact hk2 _ _ _ _ hf hw (lv_sub hl [] rfl)
  refine lv_aload_n hM.1 hM.2.1 dX12_cut_17 rfl (lv_at hl 0 rfl) ?_
  refine lv_iload_n hM.1 hM.2.1 dX12_cut_18 rfl (lv_at hl 1 rfl) ?_
  refine x_callVIr (rest := []) hM hw (ct_X12_byteAt l ho x1) [.int x1] (okX12.o ho) rfl rfl rfl (gi_V ml_X12_217 im_X12_byteAt sl_X12_byteAt in_X12 kc_X12_byteAt) hd_X12_byteAt rfl ⟨Nat.le_of_ble_eq_true rfl, Nat.le_of_ble_eq_true rfl⟩ rfl (Nat.le_of_ble_eq_true rfl) hl.1 hcs0 hf dX12_cut_19 (fun r3 H locs hf hw => ?_)
  refine x_istore_n hM hf dX12_cut_22 rfl hl (by decide) (fun v4 => [(2, .int v4), (0, .ref (ad 0)), (1, .int x1)]) (fun _ => rfl) (fun v4 ls hf hl => ?_)
  refine lv_iload_n hM.1 hM.2.1 dX12_cut_23 rfl (lv_at hl 2 rfl) ?_
  refine lv_aload_n hM.1 hM.2.1 dX12_cut_24 rfl (lv_at hl 1 rfl) ?_
  refine gf_X12_size hM hw (okX12.o ho) fl_X12_205 dX12_cut_25 ?_
  refine x_ic_lt (tgt := 43) hM hf dX12_cut_28 (by decide) (fun hf => ?_) (fun hf => ?_)
  · refine lv_iload_n hM.1 hM.2.1 dX12_cut_43 rfl (lv_at hl 0 rfl) ?_
    refine lv_bipush (v := 9) hM.1 hM.2.1 dX12_cut_44 (by decide) ?_
    refine x_ic_eq (tgt := 67) hM hf dX12_cut_46 (by decide) (fun hf => ?_) (fun hf => ?_)
    · refine x_iinc (k := 2) (d := 1) hM hf dX12_cut_67 hl rfl (by decide) (by decide) (fun v5 => [(1, .int v5), (2, .int v4), (0, .ref (ad 0))]) (fun _ => rfl) (fun v5 ls hf hl => ?_)
      refine lv_goto (tgt := 291) hM.1 hM.2.1 dX12_cut_70 (by decide) ?_
      refine lv_goto (tgt := 7) hM.1 hM.2.1 dX12_cut_291 (by decide) ?_
      exact hrec _ _ _ _ _ hf hw (lv_sub hl [2, 0] rfl)
    refine lv_iload_n hM.1 hM.2.1 dX12_cut_49 rfl (lv_at hl 0 rfl) ?_
    refine lv_bipush (v := 10) hM.1 hM.2.1 dX12_cut_50 (by decide) ?_
    refine x_ic_eq (tgt := 67) hM hf dX12_cut_52 (by decide) (fun hf => ?_) (fun hf => ?_)
    · refine x_iinc (k := 2) (d := 1) hM hf dX12_cut_67 hl rfl (by decide) (by decide) (fun v6 => [(1, .int v6), (2, .int v4), (0, .ref (ad 0))]) (fun _ => rfl) (fun v6 ls hf hl => ?_)
      refine lv_goto (tgt := 291) hM.1 hM.2.1 dX12_cut_70 (by decide) ?_
      refine lv_goto (tgt := 7) hM.1 hM.2.1 dX12_cut_291 (by decide) ?_
      exact hrec _ _ _ _ _ hf hw (lv_sub hl [2, 0] rfl)
    refine lv_iload_n hM.1 hM.2.1 dX12_cut_55 rfl (lv_at hl 0 rfl) ?_
    refine lv_bipush (v := 13) hM.1 hM.2.1 dX12_cut_56 (by decide) ?_
    refine x_ic_eq (tgt := 67) hM hf dX12_cut_58 (by decide) (fun hf => ?_) (fun hf => ?_)
    · refine x_iinc (k := 2) (d := 1) hM hf dX12_cut_67 hl rfl (by decide) (by decide) (fun v7 => [(1, .int v7), (2, .int v4), (0, .ref (ad 0))]) (fun _ => rfl) (fun v7 ls hf hl => ?_)
      refine lv_goto (tgt := 291) hM.1 hM.2.1 dX12_cut_70 (by decide) ?_
      refine lv_goto (tgt := 7) hM.1 hM.2.1 dX12_cut_291 (by decide) ?_
      exact hrec _ _ _ _ _ hf hw (lv_sub hl [2, 0] rfl)
    refine lv_iload_n hM.1 hM.2.1 dX12_cut_61 rfl (lv_at hl 0 rfl) ?_
    refine lv_bipush (v := 32) hM.1 hM.2.1 dX12_cut_62 (by decide) ?_
    refine x_ic_ne (tgt := 73) hM hf dX12_cut_64 (by decide) (fun hf => ?_) (fun hf => ?_)
    · refine lv_iload_n hM.1 hM.2.1 dX12_cut_73 rfl (lv_at hl 0 rfl) ?_
      refine x_callSIr (rest := []) hM hw (ct_X12_isLetter l v4) [.int v4] rfl (gi_S ml_X12_225 sm_X12_isLetter in_X12 kc_X12_isLetter) hd_X12_isLetter rfl ⟨Nat.le_of_ble_eq_true rfl, Nat.le_of_ble_eq_true rfl⟩ rfl (Nat.le_of_ble_eq_true rfl) hl.1 hcs0 hf dX12_cut_74 (fun r8 H locs hf hw => ?_)
      refine x_if_eq (tgt := 196) hM hf dX12_cut_77 (by decide) (fun hf => ?_) (fun hf => ?_)
      · refine lv_iload_n hM.1 hM.2.1 dX12_cut_196 rfl (lv_at hl 0 rfl) ?_
        refine x_callSIr (rest := []) hM hw (ct_X12_isDigit l v4) [.int v4] rfl (gi_S ml_X12_229 sm_X12_isDigit in_X12 kc_X12_isDigit) hd_X12_isDigit rfl ⟨Nat.le_of_ble_eq_true rfl, Nat.le_of_ble_eq_true rfl⟩ rfl (Nat.le_of_ble_eq_true rfl) hl.1 hcs0 hf dX12_cut_197 (fun r9 H locs hf hw => ?_)
        refine x_if_eq (tgt := 275) hM hf dX12_cut_200 (by decide) (fun hf => ?_) (fun hf => ?_)
        · refine lv_iload_n hM.1 hM.2.1 dX12_cut_275 rfl (lv_at hl 2 rfl) ?_
          refine lv_aload_n hM.1 hM.2.1 dX12_cut_276 rfl (lv_at hl 1 rfl) ?_
          refine lv_iload_n hM.1 hM.2.1 dX12_cut_277 rfl (lv_at hl 2 rfl) ?_
          refine lv_iload_n hM.1 hM.2.1 dX12_cut_278 rfl (lv_at hl 0 rfl) ?_
          refine lv_aload_n hM.1 hM.2.1 dX12_cut_279 rfl (lv_at hl 1 rfl) ?_
          refine lv_iload_n hM.1 hM.2.1 dX12_cut_280 rfl (lv_at hl 2 rfl) ?_
          refine lv_iconst (v := 1) hM.1 hM.2.1 dX12_cut_281 ic_1 ?_
          refine lv_iadd hM.1 hM.2.1 dX12_cut_282 ?_
          refine x_callVIr (rest := [.int v4, .int x1, .ref (ad 0), .int x1]) hM hw (ct_X12_byteAt l ho (x1 + 1)) [.int (x1 + 1)] (okX12.o ho) rfl rfl rfl (gi_V ml_X12_217 im_X12_byteAt sl_X12_byteAt in_X12 kc_X12_byteAt) hd_X12_byteAt rfl ⟨Nat.le_of_ble_eq_true rfl, Nat.le_of_ble_eq_true rfl⟩ rfl (Nat.le_of_ble_eq_true rfl) hl.1 hcs0 hf dX12_cut_283 (fun r10 H locs hf hw => ?_)
          refine x_callVI (rest := [.int x1]) hM hw (ct_X12_sign l ho x1 v4 r10) [.int x1, .int v4, .int r10] (okX12.o ho) rfl rfl rfl (gi_V ml_X12_232 im_X12_sign sl_X12_sign in_X12 kc_X12_sign) hd_X12_sign rfl ⟨Nat.le_of_ble_eq_true rfl, Nat.le_of_ble_eq_true rfl⟩ rfl (Nat.le_of_ble_eq_true rfl) hl.1 hcs0 hf dX12_cut_286 (fun r11 h12 H locs hf hw => ?_)
          refine lv_iadd hM.1 hM.2.1 dX12_cut_289 ?_
          refine x_istore_n hM hf dX12_cut_290 rfl hl (by decide) (fun v13 => [(1, .int v13), (2, .int v4), (0, .ref (ad 0))]) (fun _ => rfl) (fun v13 ls hf hl => ?_)
          refine lv_goto (tgt := 7) hM.1 hM.2.1 dX12_cut_291 (by decide) ?_
          exact hrec _ _ _ _ _ hf hw (lv_sub hl [2, 0] rfl)
        refine lv_iconst (v := 0) hM.1 hM.2.1 dX12_cut_203 ic_0 ?_
        refine x_istore_n hM hf dX12_cut_204 rfl hl (by decide) (fun v14 => [(3, .int v14), (2, .int v4), (0, .ref (ad 0)), (1, .int x1)]) (fun _ => rfl) (fun v14 ls hf hl => ?_)
        refine lv_iconst (v := 0) hM.1 hM.2.1 dX12_cut_205 ic_0 ?_
        refine x_istore hM hf dX12_cut_206 hl (by decide) (fun v15 => [(4, .int v15), (3, .int v14), (2, .int v4), (0, .ref (ad 0)), (1, .int x1)]) (fun _ => rfl) (fun v15 ls hf hl => ?_)
        refine w_X12_cut_L208 hM ho (fun w22 w23 H locs ls hf hw hl => ?_) fu _ _ hf _ _ _ hw (lv_sub hl [3, 4, 1, 0] rfl)
        refine lv_aload_n hM.1 hM.2.1 dX12_cut_250 rfl (lv_at hl 0 rfl) ?_
        refine lv_iload_n hM.1 hM.2.1 dX12_cut_251 rfl (lv_at hl 2 rfl) ?_
        refine lv_iconst (v := 4) hM.1 hM.2.1 dX12_cut_252 ic_4 ?_
        refine x_ic_le (tgt := 260) hM hf dX12_cut_253 (by decide) (fun hf => ?_) (fun hf => ?_)
        · refine lv_iconst (v := 2) hM.1 hM.2.1 dX12_cut_260 ic_2 ?_
          refine lv_iload_n hM.1 hM.2.1 dX12_cut_261 rfl (lv_at hl 1 rfl) ?_
          refine lv_iload hM.1 hM.2.1 dX12_cut_262 (lv_at hl 3 rfl) ?_
          refine lv_lconst (v := 0) hM.1 hM.2.1 dX12_cut_264 (by decide) ?_
          refine x_callVV (rest := []) hM hw (ct_X12_token l ho 2 x1 w23 (0 : Int64)) [.int 2, .int x1, .int w23, .long (0 : Int64)] (okX12.o ho) rfl rfl rfl (gi_V ml_X12_221 im_X12_token sl_X12_token in_X12 kc_X12_token) hd_X12_token rfl ⟨Nat.le_of_ble_eq_true rfl, Nat.le_of_ble_eq_true rfl⟩ rfl (Nat.le_of_ble_eq_true rfl) hl.1 hcs0 hf dX12_cut_265 (fun h24 H locs hf hw => ?_)
          refine lv_iload_n hM.1 hM.2.1 dX12_cut_268 rfl (lv_at hl 1 rfl) ?_
          refine lv_iload_n hM.1 hM.2.1 dX12_cut_269 rfl (lv_at hl 2 rfl) ?_
          refine lv_iadd hM.1 hM.2.1 dX12_cut_270 ?_
          refine x_istore_n hM hf dX12_cut_271 rfl hl (by decide) (fun v25 => [(1, .int v25), (0, .ref (ad 0)), (3, .int w22), (4, .int w23)]) (fun _ => rfl) (fun v25 ls hf hl => ?_)
          refine lv_goto (tgt := 291) hM.1 hM.2.1 dX12_cut_272 (by decide) ?_
          refine lv_goto (tgt := 7) hM.1 hM.2.1 dX12_cut_291 (by decide) ?_
          exact hrec _ _ _ _ _ hf hw (lv_sub hl [1, 0] rfl)
        refine lv_iconst (v := 3) hM.1 hM.2.1 dX12_cut_256 ic_3 ?_
        refine lv_goto (tgt := 261) hM.1 hM.2.1 dX12_cut_257 (by decide) ?_
        refine lv_iload_n hM.1 hM.2.1 dX12_cut_261 rfl (lv_at hl 1 rfl) ?_
        refine lv_iload hM.1 hM.2.1 dX12_cut_262 (lv_at hl 3 rfl) ?_
        refine lv_lconst (v := 0) hM.1 hM.2.1 dX12_cut_264 (by decide) ?_
        refine x_callVV (rest := []) hM hw (ct_X12_token l ho 3 x1 w23 (0 : Int64)) [.int 3, .int x1, .int w23, .long (0 : Int64)] (okX12.o ho) rfl rfl rfl (gi_V ml_X12_221 im_X12_token sl_X12_token in_X12 kc_X12_token) hd_X12_token rfl ⟨Nat.le_of_ble_eq_true rfl, Nat.le_of_ble_eq_true rfl⟩ rfl (Nat.le_of_ble_eq_true rfl) hl.1 hcs0 hf dX12_cut_265 (fun h26 H locs hf hw => ?_)
        refine lv_iload_n hM.1 hM.2.1 dX12_cut_268 rfl (lv_at hl 1 rfl) ?_
        refine lv_iload_n hM.1 hM.2.1 dX12_cut_269 rfl (lv_at hl 2 rfl) ?_
        refine lv_iadd hM.1 hM.2.1 dX12_cut_270 ?_
        refine x_istore_n hM hf dX12_cut_271 rfl hl (by decide) (fun v27 => [(1, .int v27), (0, .ref (ad 0)), (3, .int w22), (4, .int w23)]) (fun _ => rfl) (fun v27 ls hf hl => ?_)
        refine lv_goto (tgt := 291) hM.1 hM.2.1 dX12_cut_272 (by decide) ?_
        refine lv_goto (tgt := 7) hM.1 hM.2.1 dX12_cut_291 (by decide) ?_
        exact hrec _ _ _ _ _ hf hw (lv_sub hl [1, 0] rfl)
      refine lv_iconst (v := 0) hM.1 hM.2.1 dX12_cut_80 ic_0 ?_
      refine x_istore_n hM hf dX12_cut_81 rfl hl (by decide) (fun v28 => [(3, .int v28), (2, .int v4), (0, .ref (ad 0)), (1, .int x1)]) (fun _ => rfl) (fun v28 ls hf hl => ?_)
      refine lv_lconst (v := 0) hM.1 hM.2.1 dX12_cut_82 (by decide) ?_
      refine x_lstore hM hf dX12_cut_83 hl (by decide) (fun v29 => [(4, .long v29), (3, .int v28), (2, .int v4), (0, .ref (ad 0)), (1, .int x1)]) (fun _ => rfl) (fun v29 ls hf hl => ?_)
      refine w_X12_cut_L85 hM ho (fun w37 w38 H locs ls hf hw hl => ?_) fu _ _ hf _ _ _ hw (lv_sub hl [3, 4, 1, 0] rfl)
      refine lv_iload_n hM.1 hM.2.1 dX12_cut_124 rfl (lv_at hl 2 rfl) ?_
      refine lv_bipush (v := 8) hM.1 hM.2.1 dX12_cut_125 (by decide) ?_
      refine x_ic_le (tgt := 134) hM hf dX12_cut_127 (by decide) (fun hf => ?_) (fun hf => ?_)
      · refine lv_iconst (v := 1) hM.1 hM.2.1 dX12_cut_134 ic_1 ?_
        exact w_X12_cut_j135 hM ho hk1 hk2 hrec hw hl hf
      refine lv_iconst (v := 3) hM.1 hM.2.1 dX12_cut_130 ic_3 ?_
      refine lv_goto (tgt := 135) hM.1 hM.2.1 dX12_cut_131 (by decide) ?_
      exact w_X12_cut_j135 hM ho hk1 hk2 hrec hw hl hf
    refine x_iinc (k := 2) (d := 1) hM hf dX12_cut_67 hl rfl (by decide) (by decide) (fun v49 => [(1, .int v49), (2, .int v4), (0, .ref (ad 0))]) (fun _ => rfl) (fun v49 ls hf hl => ?_)
    refine lv_goto (tgt := 291) hM.1 hM.2.1 dX12_cut_70 (by decide) ?_
    refine lv_goto (tgt := 7) hM.1 hM.2.1 dX12_cut_291 (by decide) ?_
    exact hrec _ _ _ _ _ hf hw (lv_sub hl [2, 0] rfl)
  exact hk1 _ _ _ _ hf hw (lv_sub hl [1] rfl)
set_option maxHeartbeats 4000000 in
set_option maxRecDepth 100000 in
theorem w_X12_cut_L7 {p0 : Program} {l : Launch} {e : Env} {s : State} {m : MethodId} {args : Array Value} {below : List Frame} {meth : Method} {c : Code} {Q : State → Prop} {D : va_G} {G : GG} {A : Nat → Prop} {H0 : Heap} {ad : Nat → Nat} {lay : List KK} {X : va_W} {ρ : Type} {r0 : ρ} {K1 : PH → Option ρ} {K2 : PH → Option ρ} (hM : CallFix p0 m c cX12_cut 8 s args lw_g RX12) (ho : okX12 lay) (hk1 : ∀ (h : PH), ∀ (H : Heap) (locs : List Loc) (ls : Array Slot), K1 h = some r0 → Wd D G A H0 ad lay X h s H locs → lv_has ls 8 [(0, .ref (ad 0))] → W p0 l e (rmN 2 49) s m args below meth c H locs 0 0 Q (F0 m 31 ls [])) (hk2 : ∀ (h : PH), ∀ (H : Heap) (locs : List Loc) (ls : Array Slot), K2 h = some r0 → Wd D G A H0 ad lay X h s H locs → lv_has ls 8 [] → W p0 l e (rmN 2 49) s m args below meth c H locs 0 0 Q (F0 m 294 ls [])) (n : Nat) (x1 : Int32) (h : PH) (hf : lq2 (c_X12_cut_L7b K1 K2) n x1 h = some r0) : ∀ (H : Heap) (locs : List Loc) (ls : Array Slot), Wd D G A H0 ad lay X h s H locs → lv_has ls 8 [(0, .ref (ad 0)), (1, .int x1)] → W p0 l e (rmN 2 49) s m args below meth c H locs 0 0 Q (F0 m 7 ls []) := by
  exact lq2_i (fun (x1 : Int32) (h : PH) => ∀ (H : Heap) (locs : List Loc) (ls : Array Slot), Wd D G A H0 ad lay X h s H locs → lv_has ls 8 [(0, .ref (ad 0)), (1, .int x1)] → W p0 l e (rmN 2 49) s m args below meth c H locs 0 0 Q (F0 m 7 ls [])) (fun REC x1 h ih hf H locs ls hw hl => w_X12_cut_L7b hM ho hk1 hk2 (fun x1 h H locs ls hf hw hl => ih x1 h hf H locs ls hw hl) hw hl hf) n x1 h hf
def c_X12_cut (h : PH) : Option (PH) :=
  nm (setI h 0 10 0) fun h1 =>
  nm (0 : Int32) fun v2 =>
  lq2 (c_X12_cut_L7b
    (fun h50 =>
      (c_X12_token 0 (h50.1 0 4) 0 (0 : Int64) h50).bind fun h51 =>
      some h51)
    (fun h52 =>
      some h52)) fu v2 h1
set_option maxHeartbeats 4000000 in
set_option maxRecDepth 100000 in
theorem ct_X12_cut (l : Launch) {lay : List KK} (ho : okX12 lay) : CtV l yX12_cut cX12_cut 8 (none) 2 49 lay (fun h => c_X12_cut h) (fun ad => [.ref (ad 0)]) := by
  refine CtV.mk' RX12 (by decide) rfl (fun _ => Nat.le_of_ble_eq_true rfl) ?_
  intro p0 e s m args below meth c D G A H0 ad X h r0 H ls Q hM hw hl hf hR
  have hl : lv_has ls 8 [(0, .ref (ad 0))] := hl
  unfold c_X12_cut at hf
  refine lv_aload_n hM.1 hM.2.1 dX12_cut_0 rfl (lv_at hl 0 rfl) ?_
  refine lv_iconst (v := 0) hM.1 hM.2.1 dX12_cut_1 ic_0 ?_
  refine pf_X12_tokens hM hw (okX12.o ho) fl_X12_214 hf dX12_cut_2 (fun h1 H locs hf hw => ?_)
  refine lv_iconst (v := 0) hM.1 hM.2.1 dX12_cut_5 ic_0 ?_
  refine x_istore_n hM hf dX12_cut_6 rfl hl (by decide) (fun v2 => [(1, .int v2), (0, .ref (ad 0))]) (fun _ => rfl) (fun v2 ls hf hl => ?_)
  refine w_X12_cut_L7 hM ho (fun h50 H locs ls hf hw hl => ?_) (fun h52 H locs ls hf hw hl => ?_) fu _ _ hf _ _ _ hw (lv_sub hl [1, 0] rfl)
  · refine lv_aload_n hM.1 hM.2.1 dX12_cut_31 rfl (lv_at hl 0 rfl) ?_
    refine lv_iconst (v := 0) hM.1 hM.2.1 dX12_cut_32 ic_0 ?_
    refine lv_aload_n hM.1 hM.2.1 dX12_cut_33 rfl (lv_at hl 0 rfl) ?_
    refine gf_X12_size hM hw (okX12.o ho) fl_X12_205 dX12_cut_34 ?_
    refine lv_iconst (v := 0) hM.1 hM.2.1 dX12_cut_37 ic_0 ?_
    refine lv_lconst (v := 0) hM.1 hM.2.1 dX12_cut_38 (by decide) ?_
    refine x_callVV (rest := []) hM hw (ct_X12_token l ho 0 (h50.1 0 4) 0 (0 : Int64)) [.int 0, .int (h50.1 0 4), .int 0, .long (0 : Int64)] (okX12.o ho) rfl rfl rfl (gi_V ml_X12_221 im_X12_token sl_X12_token in_X12 kc_X12_token) hd_X12_token rfl ⟨Nat.le_of_ble_eq_true rfl, Nat.le_of_ble_eq_true rfl⟩ rfl (Nat.le_of_ble_eq_true rfl) hl.1 hcs0 hf dX12_cut_39 (fun h51 H locs hf hw => ?_)
    exact hR _ _ _ _ _ (Option.some.inj hf) rfl hw dX12_cut_42
  · exact hR _ _ _ _ _ (Option.some.inj hf) rfl hw dX12_cut_294
theorem hd_X12_cut : yX12_cut.cls = RX12 ∧ yX12_cut.cls ≠ "java/lang/invoke/MethodHandle" ∧ yX12_cut.cls ≠ "java/lang/invoke/VarHandle" ∧ (parseMethodDescriptor yX12_cut.desc).map (fun d => d.parameters.length) = some 0 := ⟨rfl, by decide, by decide, by decide +kernel⟩
theorem dX12_is_0 : decode cX12_is 0 = .ok (.aload_n 0, 1) := by decide +kernel
theorem dX12_is_1 : decode cX12_is 1 = .ok (.getfield 236, 3) := by decide +kernel
theorem dX12_is_4 : decode cX12_is 4 = .ok (.ifCond .ne 20, 3) := by decide +kernel
theorem dX12_is_7 : decode cX12_is 7 = .ok (.aload_n 0, 1) := by decide +kernel
theorem dX12_is_8 : decode cX12_is 8 = .ok (.getfield 20, 3) := by decide +kernel
theorem dX12_is_11 : decode cX12_is 11 = .ok (.aload_n 0, 1) := by decide +kernel
theorem dX12_is_12 : decode cX12_is 12 = .ok (.getfield 239, 3) := by decide +kernel
theorem dX12_is_15 : decode cX12_is 15 = .ok (.iaload, 1) := by decide +kernel
theorem dX12_is_16 : decode cX12_is 16 = .ok (.iload_n 1, 1) := by decide +kernel
theorem dX12_is_17 : decode cX12_is 17 = .ok (.if_icmp .ne 7, 3) := by decide +kernel
theorem dX12_is_20 : decode cX12_is 20 = .ok (.iconst 1, 1) := by decide +kernel
theorem dX12_is_21 : decode cX12_is 21 = .ok (.goto 4, 3) := by decide +kernel
theorem dX12_is_24 : decode cX12_is 24 = .ok (.iconst 0, 1) := by decide +kernel
theorem dX12_is_25 : decode cX12_is 25 = .ok (.ireturn, 1) := by decide +kernel
def c_X12_is (a1 : Int32) (h : PH) : Option (Int32) :=
  if (h.1 0 13) = 0 then
    gd (ixOK (h.1 0 11) 403) <|
    if (h.1 3 (h.1 0 11).toNatClampNeg) = a1 then
      some 1
    else
      some 0
  else
    some 0
set_option maxHeartbeats 4000000 in
set_option maxRecDepth 100000 in
theorem ct_X12_is (l : Launch) {lay : List KK} (ho : okX12 lay) (a1 : Int32) : CtI l yX12_is cX12_is 2 (some .boolean) 0 0 lay (rd (fun h => c_X12_is a1 h)) (fun ad => [.ref (ad 0), .int a1]) := by
  refine CtI.mk' RX12 (by decide) rfl (fun _ => Nat.le_of_ble_eq_true rfl) ?_
  intro p0 e s m args below meth c D G A H0 ad X h r0 H ls Q hM hw hl hf hR
  have hl : lv_has ls 2 [(0, .ref (ad 0)), (1, .int a1)] := hl
  obtain ⟨v0, hv0, hr0⟩ : ∃ v0, c_X12_is a1 h = some v0 ∧ r0 = (v0, h) := rd_some hf
  subst hr0
  have hf := hv0
  unfold c_X12_is at hf
  refine lv_aload_n hM.1 hM.2.1 dX12_is_0 rfl (lv_at hl 0 rfl) ?_
  refine gf_X12_fault hM hw (okX12.o ho) fl_X12_236 dX12_is_1 ?_
  refine x_if_ne (tgt := 24) hM hf dX12_is_4 (by decide) (fun hf => ?_) (fun hf => ?_)
  · refine lv_iconst (v := 0) hM.1 hM.2.1 dX12_is_24 ic_0 ?_
    exact hR _ _ _ _ _ _ _ (congrArg (fun z => (z, _)) (Option.some.inj hf)) rfl (nar_z (by decide)) hw dX12_is_25
  refine lv_aload_n hM.1 hM.2.1 dX12_is_7 rfl (lv_at hl 0 rfl) ?_
  refine gf_X12_tKind hM hw (okX12.o ho) fl_X12_20 dX12_is_8 ?_
  refine lv_aload_n hM.1 hM.2.1 dX12_is_11 rfl (lv_at hl 0 rfl) ?_
  refine gf_X12_t hM hw (okX12.o ho) fl_X12_239 dX12_is_12 ?_
  refine x_iald hM hw (okX12.tKind ho) hf dX12_is_15 (fun hf => ?_)
  refine lv_iload_n hM.1 hM.2.1 dX12_is_16 rfl (lv_at hl 1 rfl) ?_
  refine x_ic_ne (tgt := 24) hM hf dX12_is_17 (by decide) (fun hf => ?_) (fun hf => ?_)
  · refine lv_iconst (v := 0) hM.1 hM.2.1 dX12_is_24 ic_0 ?_
    exact hR _ _ _ _ _ _ _ (congrArg (fun z => (z, _)) (Option.some.inj hf)) rfl (nar_z (by decide)) hw dX12_is_25
  refine lv_iconst (v := 1) hM.1 hM.2.1 dX12_is_20 ic_1 ?_
  refine lv_goto (tgt := 25) hM.1 hM.2.1 dX12_is_21 (by decide) ?_
  exact hR _ _ _ _ _ _ _ (congrArg (fun z => (z, _)) (Option.some.inj hf)) rfl (nar_z (by decide)) hw dX12_is_25
theorem hd_X12_is : yX12_is.cls = RX12 ∧ yX12_is.cls ≠ "java/lang/invoke/MethodHandle" ∧ yX12_is.cls ≠ "java/lang/invoke/VarHandle" ∧ (parseMethodDescriptor yX12_is.desc).map (fun d => d.parameters.length) = some 1 := ⟨rfl, by decide, by decide, by decide +kernel⟩
theorem dX12_fail_0 : decode cX12_fail 0 = .ok (.aload_n 0, 1) := by decide +kernel
theorem dX12_fail_1 : decode cX12_fail 1 = .ok (.getfield 236, 3) := by decide +kernel
theorem dX12_fail_4 : decode cX12_fail 4 = .ok (.ifCond .le 4, 3) := by decide +kernel
theorem dX12_fail_7 : decode cX12_fail 7 = .ok (.return_, 1) := by decide +kernel
theorem dX12_fail_8 : decode cX12_fail 8 = .ok (.aload_n 0, 1) := by decide +kernel
theorem dX12_fail_9 : decode cX12_fail 9 = .ok (.iload_n 1, 1) := by decide +kernel
theorem dX12_fail_10 : decode cX12_fail 10 = .ok (.putfield 236, 3) := by decide +kernel
theorem dX12_fail_13 : decode cX12_fail 13 = .ok (.aload_n 0, 1) := by decide +kernel
theorem dX12_fail_14 : decode cX12_fail 14 = .ok (.aload_n 0, 1) := by decide +kernel
theorem dX12_fail_15 : decode cX12_fail 15 = .ok (.getfield 24, 3) := by decide +kernel
theorem dX12_fail_18 : decode cX12_fail 18 = .ok (.aload_n 0, 1) := by decide +kernel
theorem dX12_fail_19 : decode cX12_fail 19 = .ok (.getfield 239, 3) := by decide +kernel
theorem dX12_fail_22 : decode cX12_fail 22 = .ok (.iaload, 1) := by decide +kernel
theorem dX12_fail_23 : decode cX12_fail 23 = .ok (.putfield 242, 3) := by decide +kernel
theorem dX12_fail_26 : decode cX12_fail 26 = .ok (.return_, 1) := by decide +kernel
def c_X12_fail (a1 : Int32) (h : PH) : Option (PH) :=
  if (h.1 0 13) ≤ 0 then
    nm (setI h 0 13 a1) fun h1 =>
    gd (ixOK (h1.1 0 11) 403) <|
    nm (setI h1 0 14 (h1.1 4 (h1.1 0 11).toNatClampNeg)) fun h2 =>
    some h2
  else
    some h
set_option maxHeartbeats 4000000 in
set_option maxRecDepth 100000 in
theorem ct_X12_fail (l : Launch) {lay : List KK} (ho : okX12 lay) (a1 : Int32) : CtV l yX12_fail cX12_fail 2 (none) 0 0 lay (fun h => c_X12_fail a1 h) (fun ad => [.ref (ad 0), .int a1]) := by
  refine CtV.mk' RX12 (by decide) rfl (fun _ => Nat.le_of_ble_eq_true rfl) ?_
  intro p0 e s m args below meth c D G A H0 ad X h r0 H ls Q hM hw hl hf hR
  have hl : lv_has ls 2 [(0, .ref (ad 0)), (1, .int a1)] := hl
  unfold c_X12_fail at hf
  refine lv_aload_n hM.1 hM.2.1 dX12_fail_0 rfl (lv_at hl 0 rfl) ?_
  refine gf_X12_fault hM hw (okX12.o ho) fl_X12_236 dX12_fail_1 ?_
  refine x_if_le (tgt := 8) hM hf dX12_fail_4 (by decide) (fun hf => ?_) (fun hf => ?_)
  · refine lv_aload_n hM.1 hM.2.1 dX12_fail_8 rfl (lv_at hl 0 rfl) ?_
    refine lv_iload_n hM.1 hM.2.1 dX12_fail_9 rfl (lv_at hl 1 rfl) ?_
    refine pf_X12_fault hM hw (okX12.o ho) fl_X12_236 hf dX12_fail_10 (fun h1 H locs hf hw => ?_)
    refine lv_aload_n hM.1 hM.2.1 dX12_fail_13 rfl (lv_at hl 0 rfl) ?_
    refine lv_aload_n hM.1 hM.2.1 dX12_fail_14 rfl (lv_at hl 0 rfl) ?_
    refine gf_X12_tPlace hM hw (okX12.o ho) fl_X12_24 dX12_fail_15 ?_
    refine lv_aload_n hM.1 hM.2.1 dX12_fail_18 rfl (lv_at hl 0 rfl) ?_
    refine gf_X12_t hM hw (okX12.o ho) fl_X12_239 dX12_fail_19 ?_
    refine x_iald hM hw (okX12.tPlace ho) hf dX12_fail_22 (fun hf => ?_)
    refine pf_X12_faultPlace hM hw (okX12.o ho) fl_X12_242 hf dX12_fail_23 (fun h2 H locs hf hw => ?_)
    exact hR _ _ _ _ _ (Option.some.inj hf) rfl hw dX12_fail_26
  exact hR _ _ _ _ _ (Option.some.inj hf) rfl hw dX12_fail_7
theorem hd_X12_fail : yX12_fail.cls = RX12 ∧ yX12_fail.cls ≠ "java/lang/invoke/MethodHandle" ∧ yX12_fail.cls ≠ "java/lang/invoke/VarHandle" ∧ (parseMethodDescriptor yX12_fail.desc).map (fun d => d.parameters.length) = some 1 := ⟨rfl, by decide, by decide, by decide +kernel⟩
theorem dX12_wrong_0 : decode cX12_wrong 0 = .ok (.aload_n 0, 1) := by decide +kernel
theorem dX12_wrong_1 : decode cX12_wrong 1 = .ok (.getfield 24, 3) := by decide +kernel
theorem dX12_wrong_4 : decode cX12_wrong 4 = .ok (.iload_n 2, 1) := by decide +kernel
theorem dX12_wrong_5 : decode cX12_wrong 5 = .ok (.iaload, 1) := by decide +kernel
theorem dX12_wrong_6 : decode cX12_wrong 6 = .ok (.istore_n 3, 1) := by decide +kernel
theorem dX12_wrong_7 : decode cX12_wrong 7 = .ok (.aload_n 0, 1) := by decide +kernel
theorem dX12_wrong_8 : decode cX12_wrong 8 = .ok (.getfield 236, 3) := by decide +kernel
theorem dX12_wrong_11 : decode cX12_wrong 11 = .ok (.ifCond .gt 34, 3) := by decide +kernel
theorem dX12_wrong_14 : decode cX12_wrong 14 = .ok (.aload_n 0, 1) := by decide +kernel
theorem dX12_wrong_15 : decode cX12_wrong 15 = .ok (.getfield 245, 3) := by decide +kernel
theorem dX12_wrong_18 : decode cX12_wrong 18 = .ok (.ifCond .eq 28, 3) := by decide +kernel
theorem dX12_wrong_21 : decode cX12_wrong 21 = .ok (.iload_n 3, 1) := by decide +kernel
theorem dX12_wrong_22 : decode cX12_wrong 22 = .ok (.aload_n 0, 1) := by decide +kernel
theorem dX12_wrong_23 : decode cX12_wrong 23 = .ok (.getfield 248, 3) := by decide +kernel
theorem dX12_wrong_26 : decode cX12_wrong 26 = .ok (.if_icmp .gt 19, 3) := by decide +kernel
theorem dX12_wrong_29 : decode cX12_wrong 29 = .ok (.iload_n 3, 1) := by decide +kernel
theorem dX12_wrong_30 : decode cX12_wrong 30 = .ok (.aload_n 0, 1) := by decide +kernel
theorem dX12_wrong_31 : decode cX12_wrong 31 = .ok (.getfield 248, 3) := by decide +kernel
theorem dX12_wrong_34 : decode cX12_wrong 34 = .ok (.if_icmp .ne 12, 3) := by decide +kernel
theorem dX12_wrong_37 : decode cX12_wrong 37 = .ok (.iload_n 1, 1) := by decide +kernel
theorem dX12_wrong_38 : decode cX12_wrong 38 = .ok (.aload_n 0, 1) := by decide +kernel
theorem dX12_wrong_39 : decode cX12_wrong 39 = .ok (.getfield 245, 3) := by decide +kernel
theorem dX12_wrong_42 : decode cX12_wrong 42 = .ok (.if_icmp .lt 4, 3) := by decide +kernel
theorem dX12_wrong_45 : decode cX12_wrong 45 = .ok (.return_, 1) := by decide +kernel
theorem dX12_wrong_46 : decode cX12_wrong 46 = .ok (.aload_n 0, 1) := by decide +kernel
theorem dX12_wrong_47 : decode cX12_wrong 47 = .ok (.iload_n 1, 1) := by decide +kernel
theorem dX12_wrong_48 : decode cX12_wrong 48 = .ok (.putfield 245, 3) := by decide +kernel
theorem dX12_wrong_51 : decode cX12_wrong 51 = .ok (.aload_n 0, 1) := by decide +kernel
theorem dX12_wrong_52 : decode cX12_wrong 52 = .ok (.iload_n 3, 1) := by decide +kernel
theorem dX12_wrong_53 : decode cX12_wrong 53 = .ok (.putfield 248, 3) := by decide +kernel
theorem dX12_wrong_56 : decode cX12_wrong 56 = .ok (.return_, 1) := by decide +kernel
def c_X12_wrong (a1 : Int32) (a2 : Int32) (h : PH) : Option (PH) :=
  gd (ixOK a2 403) <|
  nm (h.1 4 a2.toNatClampNeg) fun v1 =>
  if 0 < (h.1 0 13) then
    some h
  else
    if (h.1 0 15) = 0 then
      nm (setI h 0 15 a1) fun h2 =>
      nm (setI h2 0 16 v1) fun h3 =>
      some h3
    else
      if (h.1 0 16) < v1 then
        some h
      else
        if v1 = (h.1 0 16) then
          if a1 < (h.1 0 15) then
            nm (setI h 0 15 a1) fun h6 =>
            nm (setI h6 0 16 v1) fun h7 =>
            some h7
          else
            some h
        else
          nm (setI h 0 15 a1) fun h4 =>
          nm (setI h4 0 16 v1) fun h5 =>
          some h5
set_option maxHeartbeats 4000000 in
set_option maxRecDepth 100000 in
theorem ct_X12_wrong (l : Launch) {lay : List KK} (ho : okX12 lay) (a1 : Int32) (a2 : Int32) : CtV l yX12_wrong cX12_wrong 4 (none) 0 0 lay (fun h => c_X12_wrong a1 a2 h) (fun ad => [.ref (ad 0), .int a1, .int a2]) := by
  refine CtV.mk' RX12 (by decide) rfl (fun _ => Nat.le_of_ble_eq_true rfl) ?_
  intro p0 e s m args below meth c D G A H0 ad X h r0 H ls Q hM hw hl hf hR
  have hl : lv_has ls 4 [(0, .ref (ad 0)), (1, .int a1), (2, .int a2)] := hl
  unfold c_X12_wrong at hf
  refine lv_aload_n hM.1 hM.2.1 dX12_wrong_0 rfl (lv_at hl 0 rfl) ?_
  refine gf_X12_tPlace hM hw (okX12.o ho) fl_X12_24 dX12_wrong_1 ?_
  refine lv_iload_n hM.1 hM.2.1 dX12_wrong_4 rfl (lv_at hl 2 rfl) ?_
  refine x_iald hM hw (okX12.tPlace ho) hf dX12_wrong_5 (fun hf => ?_)
  refine x_istore_n hM hf dX12_wrong_6 rfl hl (by decide) (fun v1 => [(3, .int v1), (0, .ref (ad 0)), (1, .int a1), (2, .int a2)]) (fun _ => rfl) (fun v1 ls hf hl => ?_)
  refine lv_aload_n hM.1 hM.2.1 dX12_wrong_7 rfl (lv_at hl 1 rfl) ?_
  refine gf_X12_fault hM hw (okX12.o ho) fl_X12_236 dX12_wrong_8 ?_
  refine x_if_gt (tgt := 45) hM hf dX12_wrong_11 (by decide) (fun hf => ?_) (fun hf => ?_)
  · exact hR _ _ _ _ _ (Option.some.inj hf) rfl hw dX12_wrong_45
  refine lv_aload_n hM.1 hM.2.1 dX12_wrong_14 rfl (lv_at hl 1 rfl) ?_
  refine gf_X12_worst hM hw (okX12.o ho) fl_X12_245 dX12_wrong_15 ?_
  refine x_if_eq (tgt := 46) hM hf dX12_wrong_18 (by decide) (fun hf => ?_) (fun hf => ?_)
  · refine lv_aload_n hM.1 hM.2.1 dX12_wrong_46 rfl (lv_at hl 1 rfl) ?_
    refine lv_iload_n hM.1 hM.2.1 dX12_wrong_47 rfl (lv_at hl 2 rfl) ?_
    refine pf_X12_worst hM hw (okX12.o ho) fl_X12_245 hf dX12_wrong_48 (fun h2 H locs hf hw => ?_)
    refine lv_aload_n hM.1 hM.2.1 dX12_wrong_51 rfl (lv_at hl 1 rfl) ?_
    refine lv_iload_n hM.1 hM.2.1 dX12_wrong_52 rfl (lv_at hl 0 rfl) ?_
    refine pf_X12_worstPlace hM hw (okX12.o ho) fl_X12_248 hf dX12_wrong_53 (fun h3 H locs hf hw => ?_)
    exact hR _ _ _ _ _ (Option.some.inj hf) rfl hw dX12_wrong_56
  refine lv_iload_n hM.1 hM.2.1 dX12_wrong_21 rfl (lv_at hl 0 rfl) ?_
  refine lv_aload_n hM.1 hM.2.1 dX12_wrong_22 rfl (lv_at hl 1 rfl) ?_
  refine gf_X12_worstPlace hM hw (okX12.o ho) fl_X12_248 dX12_wrong_23 ?_
  refine x_ic_gt (tgt := 45) hM hf dX12_wrong_26 (by decide) (fun hf => ?_) (fun hf => ?_)
  · exact hR _ _ _ _ _ (Option.some.inj hf) rfl hw dX12_wrong_45
  refine lv_iload_n hM.1 hM.2.1 dX12_wrong_29 rfl (lv_at hl 0 rfl) ?_
  refine lv_aload_n hM.1 hM.2.1 dX12_wrong_30 rfl (lv_at hl 1 rfl) ?_
  refine gf_X12_worstPlace hM hw (okX12.o ho) fl_X12_248 dX12_wrong_31 ?_
  refine x_ic_ne (tgt := 46) hM hf dX12_wrong_34 (by decide) (fun hf => ?_) (fun hf => ?_)
  · refine lv_aload_n hM.1 hM.2.1 dX12_wrong_46 rfl (lv_at hl 1 rfl) ?_
    refine lv_iload_n hM.1 hM.2.1 dX12_wrong_47 rfl (lv_at hl 2 rfl) ?_
    refine pf_X12_worst hM hw (okX12.o ho) fl_X12_245 hf dX12_wrong_48 (fun h4 H locs hf hw => ?_)
    refine lv_aload_n hM.1 hM.2.1 dX12_wrong_51 rfl (lv_at hl 1 rfl) ?_
    refine lv_iload_n hM.1 hM.2.1 dX12_wrong_52 rfl (lv_at hl 0 rfl) ?_
    refine pf_X12_worstPlace hM hw (okX12.o ho) fl_X12_248 hf dX12_wrong_53 (fun h5 H locs hf hw => ?_)
    exact hR _ _ _ _ _ (Option.some.inj hf) rfl hw dX12_wrong_56
  refine lv_iload_n hM.1 hM.2.1 dX12_wrong_37 rfl (lv_at hl 2 rfl) ?_
  refine lv_aload_n hM.1 hM.2.1 dX12_wrong_38 rfl (lv_at hl 1 rfl) ?_
  refine gf_X12_worst hM hw (okX12.o ho) fl_X12_245 dX12_wrong_39 ?_
  refine x_ic_lt (tgt := 46) hM hf dX12_wrong_42 (by decide) (fun hf => ?_) (fun hf => ?_)
  · refine lv_aload_n hM.1 hM.2.1 dX12_wrong_46 rfl (lv_at hl 1 rfl) ?_
    refine lv_iload_n hM.1 hM.2.1 dX12_wrong_47 rfl (lv_at hl 2 rfl) ?_
    refine pf_X12_worst hM hw (okX12.o ho) fl_X12_245 hf dX12_wrong_48 (fun h6 H locs hf hw => ?_)
    refine lv_aload_n hM.1 hM.2.1 dX12_wrong_51 rfl (lv_at hl 1 rfl) ?_
    refine lv_iload_n hM.1 hM.2.1 dX12_wrong_52 rfl (lv_at hl 0 rfl) ?_
    refine pf_X12_worstPlace hM hw (okX12.o ho) fl_X12_248 hf dX12_wrong_53 (fun h7 H locs hf hw => ?_)
    exact hR _ _ _ _ _ (Option.some.inj hf) rfl hw dX12_wrong_56
  exact hR _ _ _ _ _ (Option.some.inj hf) rfl hw dX12_wrong_45
theorem hd_X12_wrong : yX12_wrong.cls = RX12 ∧ yX12_wrong.cls ≠ "java/lang/invoke/MethodHandle" ∧ yX12_wrong.cls ≠ "java/lang/invoke/VarHandle" ∧ (parseMethodDescriptor yX12_wrong.desc).map (fun d => d.parameters.length) = some 2 := ⟨rfl, by decide, by decide, by decide +kernel⟩
theorem dX12_goesOn_0 : decode cX12_goesOn 0 = .ok (.aload_n 0, 1) := by decide +kernel
theorem dX12_goesOn_1 : decode cX12_goesOn 1 = .ok (.getfield 239, 3) := by decide +kernel
theorem dX12_goesOn_4 : decode cX12_goesOn 4 = .ok (.sipush 400, 3) := by decide +kernel
theorem dX12_goesOn_7 : decode cX12_goesOn 7 = .ok (.if_icmp .ne 11, 3) := by decide +kernel
theorem dX12_goesOn_10 : decode cX12_goesOn 10 = .ok (.aload_n 0, 1) := by decide +kernel
theorem dX12_goesOn_11 : decode cX12_goesOn 11 = .ok (.iconst 2, 1) := by decide +kernel
theorem dX12_goesOn_12 : decode cX12_goesOn 12 = .ok (.invokevirtual 251, 3) := by decide +kernel
theorem dX12_goesOn_15 : decode cX12_goesOn 15 = .ok (.goto 13, 3) := by decide +kernel
theorem dX12_goesOn_18 : decode cX12_goesOn 18 = .ok (.aload_n 0, 1) := by decide +kernel
theorem dX12_goesOn_19 : decode cX12_goesOn 19 = .ok (.dup, 1) := by decide +kernel
theorem dX12_goesOn_20 : decode cX12_goesOn 20 = .ok (.getfield 239, 3) := by decide +kernel
theorem dX12_goesOn_23 : decode cX12_goesOn 23 = .ok (.iconst 1, 1) := by decide +kernel
theorem dX12_goesOn_24 : decode cX12_goesOn 24 = .ok (.iadd, 1) := by decide +kernel
theorem dX12_goesOn_25 : decode cX12_goesOn 25 = .ok (.putfield 239, 3) := by decide +kernel
theorem dX12_goesOn_28 : decode cX12_goesOn 28 = .ok (.return_, 1) := by decide +kernel
def c_X12_goesOn (h : PH) : Option (PH) :=
  if (h.1 0 11) = 400 then
    (c_X12_fail 2 h).bind fun h2 =>
    some h2
  else
    nm (setI h 0 11 ((h.1 0 11) + 1)) fun h1 =>
    some h1
set_option maxHeartbeats 4000000 in
set_option maxRecDepth 100000 in
theorem ct_X12_goesOn (l : Launch) {lay : List KK} (ho : okX12 lay) : CtV l yX12_goesOn cX12_goesOn 1 (none) 1 21 lay (fun h => c_X12_goesOn h) (fun ad => [.ref (ad 0)]) := by
  refine CtV.mk' RX12 (by decide) rfl (fun _ => Nat.le_of_ble_eq_true rfl) ?_
  intro p0 e s m args below meth c D G A H0 ad X h r0 H ls Q hM hw hl hf hR
  have hl : lv_has ls 1 [(0, .ref (ad 0))] := hl
  unfold c_X12_goesOn at hf
  refine lv_aload_n hM.1 hM.2.1 dX12_goesOn_0 rfl (lv_at hl 0 rfl) ?_
  refine gf_X12_t hM hw (okX12.o ho) fl_X12_239 dX12_goesOn_1 ?_
  refine lv_sipush (v := 400) hM.1 hM.2.1 dX12_goesOn_4 (by decide) ?_
  refine x_ic_ne (tgt := 18) hM hf dX12_goesOn_7 (by decide) (fun hf => ?_) (fun hf => ?_)
  · refine lv_aload_n hM.1 hM.2.1 dX12_goesOn_18 rfl (lv_at hl 0 rfl) ?_
    refine lv_dup hM.1 hM.2.1 dX12_goesOn_19 rfl ?_
    refine gf_X12_t hM hw (okX12.o ho) fl_X12_239 dX12_goesOn_20 ?_
    refine lv_iconst (v := 1) hM.1 hM.2.1 dX12_goesOn_23 ic_1 ?_
    refine lv_iadd hM.1 hM.2.1 dX12_goesOn_24 ?_
    refine pf_X12_t hM hw (okX12.o ho) fl_X12_239 hf dX12_goesOn_25 (fun h1 H locs hf hw => ?_)
    exact hR _ _ _ _ _ (Option.some.inj hf) rfl hw dX12_goesOn_28
  refine lv_aload_n hM.1 hM.2.1 dX12_goesOn_10 rfl (lv_at hl 0 rfl) ?_
  refine lv_iconst (v := 2) hM.1 hM.2.1 dX12_goesOn_11 ic_2 ?_
  refine x_callVV (rest := []) hM hw (ct_X12_fail l ho 2) [.int 2] (okX12.o ho) rfl rfl rfl (gi_V ml_X12_251 im_X12_fail sl_X12_fail in_X12 kc_X12_fail) hd_X12_fail rfl ⟨Nat.le_of_ble_eq_true rfl, Nat.le_of_ble_eq_true rfl⟩ rfl (Nat.le_of_ble_eq_true rfl) hl.1 hcs0 hf dX12_goesOn_12 (fun h2 H locs hf hw => ?_)
  refine lv_goto (tgt := 28) hM.1 hM.2.1 dX12_goesOn_15 (by decide) ?_
  exact hR _ _ _ _ _ (Option.some.inj hf) rfl hw dX12_goesOn_28
theorem hd_X12_goesOn : yX12_goesOn.cls = RX12 ∧ yX12_goesOn.cls ≠ "java/lang/invoke/MethodHandle" ∧ yX12_goesOn.cls ≠ "java/lang/invoke/VarHandle" ∧ (parseMethodDescriptor yX12_goesOn.desc).map (fun d => d.parameters.length) = some 0 := ⟨rfl, by decide, by decide, by decide +kernel⟩
theorem dX12_must_0 : decode cX12_must 0 = .ok (.aload_n 0, 1) := by decide +kernel
theorem dX12_must_1 : decode cX12_must 1 = .ok (.iload_n 1, 1) := by decide +kernel
theorem dX12_must_2 : decode cX12_must 2 = .ok (.invokevirtual 254, 3) := by decide +kernel
theorem dX12_must_5 : decode cX12_must 5 = .ok (.ifCond .eq 10, 3) := by decide +kernel
theorem dX12_must_8 : decode cX12_must 8 = .ok (.aload_n 0, 1) := by decide +kernel
theorem dX12_must_9 : decode cX12_must 9 = .ok (.invokevirtual 257, 3) := by decide +kernel
theorem dX12_must_12 : decode cX12_must 12 = .ok (.goto 8, 3) := by decide +kernel
theorem dX12_must_15 : decode cX12_must 15 = .ok (.aload_n 0, 1) := by decide +kernel
theorem dX12_must_16 : decode cX12_must 16 = .ok (.iconst 1, 1) := by decide +kernel
theorem dX12_must_17 : decode cX12_must 17 = .ok (.invokevirtual 251, 3) := by decide +kernel
theorem dX12_must_20 : decode cX12_must 20 = .ok (.return_, 1) := by decide +kernel
def c_X12_must (a1 : Int32) (h : PH) : Option (PH) :=
  (c_X12_is a1 h).bind fun r1 =>
  if r1 = 0 then
    (c_X12_fail 1 h).bind fun h2 =>
    some h2
  else
    (c_X12_goesOn h).bind fun h3 =>
    some h3
set_option maxHeartbeats 4000000 in
set_option maxRecDepth 100000 in
theorem ct_X12_must (l : Launch) {lay : List KK} (ho : okX12 lay) (a1 : Int32) : CtV l yX12_must cX12_must 2 (none) 2 41 lay (fun h => c_X12_must a1 h) (fun ad => [.ref (ad 0), .int a1]) := by
  refine CtV.mk' RX12 (by decide) rfl (fun _ => Nat.le_of_ble_eq_true rfl) ?_
  intro p0 e s m args below meth c D G A H0 ad X h r0 H ls Q hM hw hl hf hR
  have hl : lv_has ls 2 [(0, .ref (ad 0)), (1, .int a1)] := hl
  unfold c_X12_must at hf
  refine lv_aload_n hM.1 hM.2.1 dX12_must_0 rfl (lv_at hl 0 rfl) ?_
  refine lv_iload_n hM.1 hM.2.1 dX12_must_1 rfl (lv_at hl 1 rfl) ?_
  refine x_callVIr (rest := []) hM hw (ct_X12_is l ho a1) [.int a1] (okX12.o ho) rfl rfl rfl (gi_V ml_X12_254 im_X12_is sl_X12_is in_X12 kc_X12_is) hd_X12_is rfl ⟨Nat.le_of_ble_eq_true rfl, Nat.le_of_ble_eq_true rfl⟩ rfl (Nat.le_of_ble_eq_true rfl) hl.1 hcs0 hf dX12_must_2 (fun r1 H locs hf hw => ?_)
  refine x_if_eq (tgt := 15) hM hf dX12_must_5 (by decide) (fun hf => ?_) (fun hf => ?_)
  · refine lv_aload_n hM.1 hM.2.1 dX12_must_15 rfl (lv_at hl 0 rfl) ?_
    refine lv_iconst (v := 1) hM.1 hM.2.1 dX12_must_16 ic_1 ?_
    refine x_callVV (rest := []) hM hw (ct_X12_fail l ho 1) [.int 1] (okX12.o ho) rfl rfl rfl (gi_V ml_X12_251 im_X12_fail sl_X12_fail in_X12 kc_X12_fail) hd_X12_fail rfl ⟨Nat.le_of_ble_eq_true rfl, Nat.le_of_ble_eq_true rfl⟩ rfl (Nat.le_of_ble_eq_true rfl) hl.1 hcs0 hf dX12_must_17 (fun h2 H locs hf hw => ?_)
    exact hR _ _ _ _ _ (Option.some.inj hf) rfl hw dX12_must_20
  refine lv_aload_n hM.1 hM.2.1 dX12_must_8 rfl (lv_at hl 0 rfl) ?_
  refine x_callVV (rest := []) hM hw (ct_X12_goesOn l ho) [] (okX12.o ho) rfl rfl rfl (gi_V ml_X12_257 im_X12_goesOn sl_X12_goesOn in_X12 kc_X12_goesOn) hd_X12_goesOn rfl ⟨Nat.le_of_ble_eq_true rfl, Nat.le_of_ble_eq_true rfl⟩ rfl (Nat.le_of_ble_eq_true rfl) hl.1 hcs0 hf dX12_must_9 (fun h3 H locs hf hw => ?_)
  refine lv_goto (tgt := 20) hM.1 hM.2.1 dX12_must_12 (by decide) ?_
  exact hR _ _ _ _ _ (Option.some.inj hf) rfl hw dX12_must_20
theorem hd_X12_must : yX12_must.cls = RX12 ∧ yX12_must.cls ≠ "java/lang/invoke/MethodHandle" ∧ yX12_must.cls ≠ "java/lang/invoke/VarHandle" ∧ (parseMethodDescriptor yX12_must.desc).map (fun d => d.parameters.length) = some 1 := ⟨rfl, by decide, by decide, by decide +kernel⟩
theorem dX12_plain_0 : decode cX12_plain 0 = .ok (.aload_n 0, 1) := by decide +kernel
theorem dX12_plain_1 : decode cX12_plain 1 = .ok (.getfield 49, 3) := by decide +kernel
theorem dX12_plain_4 : decode cX12_plain 4 = .ok (.iload_n 1, 1) := by decide +kernel
theorem dX12_plain_5 : decode cX12_plain 5 = .ok (.iconst 0, 1) := by decide +kernel
theorem dX12_plain_6 : decode cX12_plain 6 = .ok (.iastore, 1) := by decide +kernel
theorem dX12_plain_7 : decode cX12_plain 7 = .ok (.aload_n 0, 1) := by decide +kernel
theorem dX12_plain_8 : decode cX12_plain 8 = .ok (.getfield 61, 3) := by decide +kernel
theorem dX12_plain_11 : decode cX12_plain 11 = .ok (.iload_n 1, 1) := by decide +kernel
theorem dX12_plain_12 : decode cX12_plain 12 = .ok (.iconst 0, 1) := by decide +kernel
theorem dX12_plain_13 : decode cX12_plain 13 = .ok (.iastore, 1) := by decide +kernel
theorem dX12_plain_14 : decode cX12_plain 14 = .ok (.aload_n 0, 1) := by decide +kernel
theorem dX12_plain_15 : decode cX12_plain 15 = .ok (.getfield 80, 3) := by decide +kernel
theorem dX12_plain_18 : decode cX12_plain 18 = .ok (.iload_n 1, 1) := by decide +kernel
theorem dX12_plain_19 : decode cX12_plain 19 = .ok (.iconst 0, 1) := by decide +kernel
theorem dX12_plain_20 : decode cX12_plain 20 = .ok (.iastore, 1) := by decide +kernel
theorem dX12_plain_21 : decode cX12_plain 21 = .ok (.aload_n 0, 1) := by decide +kernel
theorem dX12_plain_22 : decode cX12_plain 22 = .ok (.getfield 92, 3) := by decide +kernel
theorem dX12_plain_25 : decode cX12_plain 25 = .ok (.iload_n 1, 1) := by decide +kernel
theorem dX12_plain_26 : decode cX12_plain 26 = .ok (.iconst 0, 1) := by decide +kernel
theorem dX12_plain_27 : decode cX12_plain 27 = .ok (.iastore, 1) := by decide +kernel
theorem dX12_plain_28 : decode cX12_plain 28 = .ok (.aload_n 0, 1) := by decide +kernel
theorem dX12_plain_29 : decode cX12_plain 29 = .ok (.getfield 95, 3) := by decide +kernel
theorem dX12_plain_32 : decode cX12_plain 32 = .ok (.iload_n 1, 1) := by decide +kernel
theorem dX12_plain_33 : decode cX12_plain 33 = .ok (.iconst 0, 1) := by decide +kernel
theorem dX12_plain_34 : decode cX12_plain 34 = .ok (.iastore, 1) := by decide +kernel
theorem dX12_plain_35 : decode cX12_plain 35 = .ok (.aload_n 0, 1) := by decide +kernel
theorem dX12_plain_36 : decode cX12_plain 36 = .ok (.getfield 101, 3) := by decide +kernel
theorem dX12_plain_39 : decode cX12_plain 39 = .ok (.iload_n 1, 1) := by decide +kernel
theorem dX12_plain_40 : decode cX12_plain 40 = .ok (.iconst 0, 1) := by decide +kernel
theorem dX12_plain_41 : decode cX12_plain 41 = .ok (.iastore, 1) := by decide +kernel
theorem dX12_plain_42 : decode cX12_plain 42 = .ok (.aload_n 0, 1) := by decide +kernel
theorem dX12_plain_43 : decode cX12_plain 43 = .ok (.getfield 104, 3) := by decide +kernel
theorem dX12_plain_46 : decode cX12_plain 46 = .ok (.iload_n 1, 1) := by decide +kernel
theorem dX12_plain_47 : decode cX12_plain 47 = .ok (.bipush 50, 2) := by decide +kernel
theorem dX12_plain_49 : decode cX12_plain 49 = .ok (.iastore, 1) := by decide +kernel
theorem dX12_plain_50 : decode cX12_plain 50 = .ok (.aload_n 0, 1) := by decide +kernel
theorem dX12_plain_51 : decode cX12_plain 51 = .ok (.getfield 107, 3) := by decide +kernel
theorem dX12_plain_54 : decode cX12_plain 54 = .ok (.iload_n 1, 1) := by decide +kernel
theorem dX12_plain_55 : decode cX12_plain 55 = .ok (.iconst 0, 1) := by decide +kernel
theorem dX12_plain_56 : decode cX12_plain 56 = .ok (.iastore, 1) := by decide +kernel
theorem dX12_plain_57 : decode cX12_plain 57 = .ok (.iconst 0, 1) := by decide +kernel
theorem dX12_plain_58 : decode cX12_plain 58 = .ok (.istore_n 2, 1) := by decide +kernel
theorem dX12_plain_59 : decode cX12_plain 59 = .ok (.iload_n 2, 1) := by decide +kernel
theorem dX12_plain_60 : decode cX12_plain 60 = .ok (.iconst 5, 1) := by decide +kernel
theorem dX12_plain_61 : decode cX12_plain 61 = .ok (.if_icmp .ge 20, 3) := by decide +kernel
theorem dX12_plain_64 : decode cX12_plain 64 = .ok (.aload_n 0, 1) := by decide +kernel
theorem dX12_plain_65 : decode cX12_plain 65 = .ok (.getfield 58, 3) := by decide +kernel
theorem dX12_plain_68 : decode cX12_plain 68 = .ok (.iconst 5, 1) := by decide +kernel
theorem dX12_plain_69 : decode cX12_plain 69 = .ok (.iload_n 1, 1) := by decide +kernel
theorem dX12_plain_70 : decode cX12_plain 70 = .ok (.imul, 1) := by decide +kernel
theorem dX12_plain_71 : decode cX12_plain 71 = .ok (.iload_n 2, 1) := by decide +kernel
theorem dX12_plain_72 : decode cX12_plain 72 = .ok (.iadd, 1) := by decide +kernel
theorem dX12_plain_73 : decode cX12_plain 73 = .ok (.iconst 0, 1) := by decide +kernel
theorem dX12_plain_74 : decode cX12_plain 74 = .ok (.iastore, 1) := by decide +kernel
theorem dX12_plain_75 : decode cX12_plain 75 = .ok (.iinc 2 1, 3) := by decide +kernel
theorem dX12_plain_78 : decode cX12_plain 78 = .ok (.goto (-19), 3) := by decide +kernel
theorem dX12_plain_81 : decode cX12_plain 81 = .ok (.iconst 0, 1) := by decide +kernel
theorem dX12_plain_82 : decode cX12_plain 82 = .ok (.istore_n 2, 1) := by decide +kernel
theorem dX12_plain_83 : decode cX12_plain 83 = .ok (.iload_n 2, 1) := by decide +kernel
theorem dX12_plain_84 : decode cX12_plain 84 = .ok (.iconst 2, 1) := by decide +kernel
theorem dX12_plain_85 : decode cX12_plain 85 = .ok (.if_icmp .ge 31, 3) := by decide +kernel
theorem dX12_plain_88 : decode cX12_plain 88 = .ok (.aload_n 0, 1) := by decide +kernel
theorem dX12_plain_89 : decode cX12_plain 89 = .ok (.getfield 110, 3) := by decide +kernel
theorem dX12_plain_92 : decode cX12_plain 92 = .ok (.iconst 2, 1) := by decide +kernel
theorem dX12_plain_93 : decode cX12_plain 93 = .ok (.iload_n 1, 1) := by decide +kernel
theorem dX12_plain_94 : decode cX12_plain 94 = .ok (.imul, 1) := by decide +kernel
theorem dX12_plain_95 : decode cX12_plain 95 = .ok (.iload_n 2, 1) := by decide +kernel
theorem dX12_plain_96 : decode cX12_plain 96 = .ok (.iadd, 1) := by decide +kernel
theorem dX12_plain_97 : decode cX12_plain 97 = .ok (.iconst 0, 1) := by decide +kernel
theorem dX12_plain_98 : decode cX12_plain 98 = .ok (.iastore, 1) := by decide +kernel
theorem dX12_plain_99 : decode cX12_plain 99 = .ok (.aload_n 0, 1) := by decide +kernel
theorem dX12_plain_100 : decode cX12_plain 100 = .ok (.getfield 113, 3) := by decide +kernel
theorem dX12_plain_103 : decode cX12_plain 103 = .ok (.iconst 2, 1) := by decide +kernel
theorem dX12_plain_104 : decode cX12_plain 104 = .ok (.iload_n 1, 1) := by decide +kernel
theorem dX12_plain_105 : decode cX12_plain 105 = .ok (.imul, 1) := by decide +kernel
theorem dX12_plain_106 : decode cX12_plain 106 = .ok (.iload_n 2, 1) := by decide +kernel
theorem dX12_plain_107 : decode cX12_plain 107 = .ok (.iadd, 1) := by decide +kernel
theorem dX12_plain_108 : decode cX12_plain 108 = .ok (.iconst 0, 1) := by decide +kernel
theorem dX12_plain_109 : decode cX12_plain 109 = .ok (.iastore, 1) := by decide +kernel
theorem dX12_plain_110 : decode cX12_plain 110 = .ok (.iinc 2 1, 3) := by decide +kernel
theorem dX12_plain_113 : decode cX12_plain 113 = .ok (.goto (-30), 3) := by decide +kernel
theorem dX12_plain_116 : decode cX12_plain 116 = .ok (.return_, 1) := by decide +kernel
def c_X12_plain_L59b {ρ : Type}  (z1 : Int32) (K1 : PH → Option ρ) (REC : Int32 → PH → Option ρ) (x2 : Int32) (h : PH) : Option ρ :=
  if 5 ≤ x2 then
    K1 h
  else
    gd (ixOK ((5 * z1) + x2) 10) <| nm (setI h 14 ((5 * z1) + x2).toNatClampNeg 0) fun h10 =>
    nm (x2 + 1) fun v11 =>
    REC v11 h10
set_option maxHeartbeats 4000000 in
set_option maxRecDepth 100000 in
theorem w_X12_plain_L59b {p0 : Program} {l : Launch} {e : Env} {s : State} {m : MethodId} {args : Array Value} {below : List Frame} {meth : Method} {c : Code} {Q : State → Prop} {D : va_G} {G : GG} {A : Nat → Prop} {H0 : Heap} {ad : Nat → Nat} {lay : List KK} {X : va_W} {ρ : Type} {r0 : ρ} {z1 : Int32} {x2 : Int32} {h : PH} {H : Heap} {locs : List Loc} {ls : Array Slot} {K1 : PH → Option ρ} {REC : Int32 → PH → Option ρ} (hM : CallFix p0 m c cX12_plain 3 s args lw_g RX12) (ho : okX12 lay) (hk1 : ∀ (h : PH), ∀ (H : Heap) (locs : List Loc) (ls : Array Slot), K1 h = some r0 → Wd D G A H0 ad lay X h s H locs → lv_has ls 3 [(0, .ref (ad 0)), (1, .int z1)] → W p0 l e (rmN 0 0) s m args below meth c H locs 0 0 Q (F0 m 81 ls [])) (hrec : ∀ (x2 : Int32) (h : PH), ∀ (H : Heap) (locs : List Loc) (ls : Array Slot), REC x2 h = some r0 → Wd D G A H0 ad lay X h s H locs → lv_has ls 3 [(0, .ref (ad 0)), (1, .int z1), (2, .int x2)] → W p0 l e (rmN 0 0) s m args below meth c H locs 0 0 Q (F0 m 59 ls [])) (hw : Wd D G A H0 ad lay X h s H locs) (hl : lv_has ls 3 [(0, .ref (ad 0)), (1, .int z1), (2, .int x2)]) (hf : c_X12_plain_L59b z1 K1 REC x2 h = some r0) : W p0 l e (rmN 0 0) s m args below meth c H locs 0 0 Q (F0 m 59 ls []) := by
  unfold c_X12_plain_L59b at hf
  refine lv_iload_n hM.1 hM.2.1 dX12_plain_59 rfl (lv_at hl 2 rfl) ?_
  refine lv_iconst (v := 5) hM.1 hM.2.1 dX12_plain_60 ic_5 ?_
  refine x_ic_ge (tgt := 81) hM hf dX12_plain_61 (by decide) (fun hf => ?_) (fun hf => ?_)
  · exact hk1 _ _ _ _ hf hw (lv_sub hl [0, 1] rfl)
  refine lv_aload_n hM.1 hM.2.1 dX12_plain_64 rfl (lv_at hl 0 rfl) ?_
  refine gf_X12_knowing hM hw (okX12.o ho) fl_X12_58 dX12_plain_65 ?_
  refine lv_iconst (v := 5) hM.1 hM.2.1 dX12_plain_68 ic_5 ?_
  refine lv_iload_n hM.1 hM.2.1 dX12_plain_69 rfl (lv_at hl 1 rfl) ?_
  refine lv_imul hM.1 hM.2.1 dX12_plain_70 ?_
  refine lv_iload_n hM.1 hM.2.1 dX12_plain_71 rfl (lv_at hl 2 rfl) ?_
  refine lv_iadd hM.1 hM.2.1 dX12_plain_72 ?_
  refine lv_iconst (v := 0) hM.1 hM.2.1 dX12_plain_73 ic_0 ?_
  refine x_iast hM hw (okX12.knowing ho) hf dX12_plain_74 (fun h10 H locs hf hw => ?_)
  refine x_iinc (k := 2) (d := 1) hM hf dX12_plain_75 hl rfl (by decide) (by decide) (fun v11 => [(2, .int v11), (0, .ref (ad 0)), (1, .int z1)]) (fun _ => rfl) (fun v11 ls hf hl => ?_)
  refine lv_goto (tgt := 59) hM.1 hM.2.1 dX12_plain_78 (by decide) ?_
  exact hrec _ _ _ _ _ hf hw (lv_sub hl [1, 2, 0] rfl)
set_option maxHeartbeats 4000000 in
set_option maxRecDepth 100000 in
theorem w_X12_plain_L59 {p0 : Program} {l : Launch} {e : Env} {s : State} {m : MethodId} {args : Array Value} {below : List Frame} {meth : Method} {c : Code} {Q : State → Prop} {D : va_G} {G : GG} {A : Nat → Prop} {H0 : Heap} {ad : Nat → Nat} {lay : List KK} {X : va_W} {ρ : Type} {r0 : ρ} {z1 : Int32} {K1 : PH → Option ρ} (hM : CallFix p0 m c cX12_plain 3 s args lw_g RX12) (ho : okX12 lay) (hk1 : ∀ (h : PH), ∀ (H : Heap) (locs : List Loc) (ls : Array Slot), K1 h = some r0 → Wd D G A H0 ad lay X h s H locs → lv_has ls 3 [(0, .ref (ad 0)), (1, .int z1)] → W p0 l e (rmN 0 0) s m args below meth c H locs 0 0 Q (F0 m 81 ls [])) (n : Nat) (x2 : Int32) (h : PH) (hf : lq2 (c_X12_plain_L59b z1 K1) n x2 h = some r0) : ∀ (H : Heap) (locs : List Loc) (ls : Array Slot), Wd D G A H0 ad lay X h s H locs → lv_has ls 3 [(0, .ref (ad 0)), (1, .int z1), (2, .int x2)] → W p0 l e (rmN 0 0) s m args below meth c H locs 0 0 Q (F0 m 59 ls []) := by
  exact lq2_i (fun (x2 : Int32) (h : PH) => ∀ (H : Heap) (locs : List Loc) (ls : Array Slot), Wd D G A H0 ad lay X h s H locs → lv_has ls 3 [(0, .ref (ad 0)), (1, .int z1), (2, .int x2)] → W p0 l e (rmN 0 0) s m args below meth c H locs 0 0 Q (F0 m 59 ls [])) (fun REC x2 h ih hf H locs ls hw hl => w_X12_plain_L59b hM ho hk1 (fun x2 h H locs ls hf hw hl => ih x2 h hf H locs ls hw hl) hw hl hf) n x2 h hf
def c_X12_plain_L83b {ρ : Type}  (z1 : Int32) (K1 : PH → Option ρ) (REC : Int32 → PH → Option ρ) (x2 : Int32) (h : PH) : Option ρ :=
  if 2 ≤ x2 then
    K1 h
  else
    gd (ixOK ((2 * z1) + x2) 4) <| nm (setI h 31 ((2 * z1) + x2).toNatClampNeg 0) fun h14 =>
    gd (ixOK ((2 * z1) + x2) 4) <| nm (setI h14 32 ((2 * z1) + x2).toNatClampNeg 0) fun h15 =>
    nm (x2 + 1) fun v16 =>
    REC v16 h15
set_option maxHeartbeats 4000000 in
set_option maxRecDepth 100000 in
theorem w_X12_plain_L83b {p0 : Program} {l : Launch} {e : Env} {s : State} {m : MethodId} {args : Array Value} {below : List Frame} {meth : Method} {c : Code} {Q : State → Prop} {D : va_G} {G : GG} {A : Nat → Prop} {H0 : Heap} {ad : Nat → Nat} {lay : List KK} {X : va_W} {ρ : Type} {r0 : ρ} {z1 : Int32} {x2 : Int32} {h : PH} {H : Heap} {locs : List Loc} {ls : Array Slot} {K1 : PH → Option ρ} {REC : Int32 → PH → Option ρ} (hM : CallFix p0 m c cX12_plain 3 s args lw_g RX12) (ho : okX12 lay) (hk1 : ∀ (h : PH), ∀ (H : Heap) (locs : List Loc) (ls : Array Slot), K1 h = some r0 → Wd D G A H0 ad lay X h s H locs → lv_has ls 3 [] → W p0 l e (rmN 0 0) s m args below meth c H locs 0 0 Q (F0 m 116 ls [])) (hrec : ∀ (x2 : Int32) (h : PH), ∀ (H : Heap) (locs : List Loc) (ls : Array Slot), REC x2 h = some r0 → Wd D G A H0 ad lay X h s H locs → lv_has ls 3 [(0, .ref (ad 0)), (1, .int z1), (2, .int x2)] → W p0 l e (rmN 0 0) s m args below meth c H locs 0 0 Q (F0 m 83 ls [])) (hw : Wd D G A H0 ad lay X h s H locs) (hl : lv_has ls 3 [(0, .ref (ad 0)), (1, .int z1), (2, .int x2)]) (hf : c_X12_plain_L83b z1 K1 REC x2 h = some r0) : W p0 l e (rmN 0 0) s m args below meth c H locs 0 0 Q (F0 m 83 ls []) := by
  unfold c_X12_plain_L83b at hf
  refine lv_iload_n hM.1 hM.2.1 dX12_plain_83 rfl (lv_at hl 2 rfl) ?_
  refine lv_iconst (v := 2) hM.1 hM.2.1 dX12_plain_84 ic_2 ?_
  refine x_ic_ge (tgt := 116) hM hf dX12_plain_85 (by decide) (fun hf => ?_) (fun hf => ?_)
  · exact hk1 _ _ _ _ hf hw (lv_sub hl [] rfl)
  refine lv_aload_n hM.1 hM.2.1 dX12_plain_88 rfl (lv_at hl 0 rfl) ?_
  refine gf_X12_lawFirst hM hw (okX12.o ho) fl_X12_110 dX12_plain_89 ?_
  refine lv_iconst (v := 2) hM.1 hM.2.1 dX12_plain_92 ic_2 ?_
  refine lv_iload_n hM.1 hM.2.1 dX12_plain_93 rfl (lv_at hl 1 rfl) ?_
  refine lv_imul hM.1 hM.2.1 dX12_plain_94 ?_
  refine lv_iload_n hM.1 hM.2.1 dX12_plain_95 rfl (lv_at hl 2 rfl) ?_
  refine lv_iadd hM.1 hM.2.1 dX12_plain_96 ?_
  refine lv_iconst (v := 0) hM.1 hM.2.1 dX12_plain_97 ic_0 ?_
  refine x_iast hM hw (okX12.lawFirst ho) hf dX12_plain_98 (fun h14 H locs hf hw => ?_)
  refine lv_aload_n hM.1 hM.2.1 dX12_plain_99 rfl (lv_at hl 0 rfl) ?_
  refine gf_X12_lawLast hM hw (okX12.o ho) fl_X12_113 dX12_plain_100 ?_
  refine lv_iconst (v := 2) hM.1 hM.2.1 dX12_plain_103 ic_2 ?_
  refine lv_iload_n hM.1 hM.2.1 dX12_plain_104 rfl (lv_at hl 1 rfl) ?_
  refine lv_imul hM.1 hM.2.1 dX12_plain_105 ?_
  refine lv_iload_n hM.1 hM.2.1 dX12_plain_106 rfl (lv_at hl 2 rfl) ?_
  refine lv_iadd hM.1 hM.2.1 dX12_plain_107 ?_
  refine lv_iconst (v := 0) hM.1 hM.2.1 dX12_plain_108 ic_0 ?_
  refine x_iast hM hw (okX12.lawLast ho) hf dX12_plain_109 (fun h15 H locs hf hw => ?_)
  refine x_iinc (k := 2) (d := 1) hM hf dX12_plain_110 hl rfl (by decide) (by decide) (fun v16 => [(2, .int v16), (0, .ref (ad 0)), (1, .int z1)]) (fun _ => rfl) (fun v16 ls hf hl => ?_)
  refine lv_goto (tgt := 83) hM.1 hM.2.1 dX12_plain_113 (by decide) ?_
  exact hrec _ _ _ _ _ hf hw (lv_sub hl [1, 2, 0] rfl)
set_option maxHeartbeats 4000000 in
set_option maxRecDepth 100000 in
theorem w_X12_plain_L83 {p0 : Program} {l : Launch} {e : Env} {s : State} {m : MethodId} {args : Array Value} {below : List Frame} {meth : Method} {c : Code} {Q : State → Prop} {D : va_G} {G : GG} {A : Nat → Prop} {H0 : Heap} {ad : Nat → Nat} {lay : List KK} {X : va_W} {ρ : Type} {r0 : ρ} {z1 : Int32} {K1 : PH → Option ρ} (hM : CallFix p0 m c cX12_plain 3 s args lw_g RX12) (ho : okX12 lay) (hk1 : ∀ (h : PH), ∀ (H : Heap) (locs : List Loc) (ls : Array Slot), K1 h = some r0 → Wd D G A H0 ad lay X h s H locs → lv_has ls 3 [] → W p0 l e (rmN 0 0) s m args below meth c H locs 0 0 Q (F0 m 116 ls [])) (n : Nat) (x2 : Int32) (h : PH) (hf : lq2 (c_X12_plain_L83b z1 K1) n x2 h = some r0) : ∀ (H : Heap) (locs : List Loc) (ls : Array Slot), Wd D G A H0 ad lay X h s H locs → lv_has ls 3 [(0, .ref (ad 0)), (1, .int z1), (2, .int x2)] → W p0 l e (rmN 0 0) s m args below meth c H locs 0 0 Q (F0 m 83 ls []) := by
  exact lq2_i (fun (x2 : Int32) (h : PH) => ∀ (H : Heap) (locs : List Loc) (ls : Array Slot), Wd D G A H0 ad lay X h s H locs → lv_has ls 3 [(0, .ref (ad 0)), (1, .int z1), (2, .int x2)] → W p0 l e (rmN 0 0) s m args below meth c H locs 0 0 Q (F0 m 83 ls [])) (fun REC x2 h ih hf H locs ls hw hl => w_X12_plain_L83b hM ho hk1 (fun x2 h H locs ls hf hw hl => ih x2 h hf H locs ls hw hl) hw hl hf) n x2 h hf
def c_X12_plain (a1 : Int32) (h : PH) : Option (PH) :=
  gd (ixOK a1 2) <| nm (setI h 11 a1.toNatClampNeg 0) fun h1 =>
  gd (ixOK a1 2) <| nm (setI h1 15 a1.toNatClampNeg 0) fun h2 =>
  gd (ixOK a1 2) <| nm (setI h2 21 a1.toNatClampNeg 0) fun h3 =>
  gd (ixOK a1 2) <| nm (setI h3 25 a1.toNatClampNeg 0) fun h4 =>
  gd (ixOK a1 2) <| nm (setI h4 26 a1.toNatClampNeg 0) fun h5 =>
  gd (ixOK a1 2) <| nm (setI h5 28 a1.toNatClampNeg 0) fun h6 =>
  gd (ixOK a1 2) <| nm (setI h6 29 a1.toNatClampNeg 50) fun h7 =>
  gd (ixOK a1 2) <| nm (setI h7 30 a1.toNatClampNeg 0) fun h8 =>
  nm (0 : Int32) fun v9 =>
  lq2 (c_X12_plain_L59b a1
    (fun h12 =>
      nm (0 : Int32) fun v13 =>
      lq2 (c_X12_plain_L83b a1
        (fun h17 =>
          some h17)) fu v13 h12)) fu v9 h8
set_option maxHeartbeats 4000000 in
set_option maxRecDepth 100000 in
theorem ct_X12_plain (l : Launch) {lay : List KK} (ho : okX12 lay) (a1 : Int32) : CtV l yX12_plain cX12_plain 3 (none) 0 0 lay (fun h => c_X12_plain a1 h) (fun ad => [.ref (ad 0), .int a1]) := by
  refine CtV.mk' RX12 (by decide) rfl (fun _ => Nat.le_of_ble_eq_true rfl) ?_
  intro p0 e s m args below meth c D G A H0 ad X h r0 H ls Q hM hw hl hf hR
  have hl : lv_has ls 3 [(0, .ref (ad 0)), (1, .int a1)] := hl
  unfold c_X12_plain at hf
  refine lv_aload_n hM.1 hM.2.1 dX12_plain_0 rfl (lv_at hl 0 rfl) ?_
  refine gf_X12_men hM hw (okX12.o ho) fl_X12_49 dX12_plain_1 ?_
  refine lv_iload_n hM.1 hM.2.1 dX12_plain_4 rfl (lv_at hl 1 rfl) ?_
  refine lv_iconst (v := 0) hM.1 hM.2.1 dX12_plain_5 ic_0 ?_
  refine x_iast hM hw (okX12.men ho) hf dX12_plain_6 (fun h1 H locs hf hw => ?_)
  refine lv_aload_n hM.1 hM.2.1 dX12_plain_7 rfl (lv_at hl 0 rfl) ?_
  refine gf_X12_excuses hM hw (okX12.o ho) fl_X12_61 dX12_plain_8 ?_
  refine lv_iload_n hM.1 hM.2.1 dX12_plain_11 rfl (lv_at hl 1 rfl) ?_
  refine lv_iconst (v := 0) hM.1 hM.2.1 dX12_plain_12 ic_0 ?_
  refine x_iast hM hw (okX12.excuses ho) hf dX12_plain_13 (fun h2 H locs hf hw => ?_)
  refine lv_aload_n hM.1 hM.2.1 dX12_plain_14 rfl (lv_at hl 0 rfl) ?_
  refine gf_X12_duties hM hw (okX12.o ho) fl_X12_80 dX12_plain_15 ?_
  refine lv_iload_n hM.1 hM.2.1 dX12_plain_18 rfl (lv_at hl 1 rfl) ?_
  refine lv_iconst (v := 0) hM.1 hM.2.1 dX12_plain_19 ic_0 ?_
  refine x_iast hM hw (okX12.duties ho) hf dX12_plain_20 (fun h3 H locs hf hw => ?_)
  refine lv_aload_n hM.1 hM.2.1 dX12_plain_21 rfl (lv_at hl 0 rfl) ?_
  refine gf_X12_pairs hM hw (okX12.o ho) fl_X12_92 dX12_plain_22 ?_
  refine lv_iload_n hM.1 hM.2.1 dX12_plain_25 rfl (lv_at hl 1 rfl) ?_
  refine lv_iconst (v := 0) hM.1 hM.2.1 dX12_plain_26 ic_0 ?_
  refine x_iast hM hw (okX12.pairs ho) hf dX12_plain_27 (fun h4 H locs hf hw => ?_)
  refine lv_aload_n hM.1 hM.2.1 dX12_plain_28 rfl (lv_at hl 0 rfl) ?_
  refine gf_X12_tests hM hw (okX12.o ho) fl_X12_95 dX12_plain_29 ?_
  refine lv_iload_n hM.1 hM.2.1 dX12_plain_32 rfl (lv_at hl 1 rfl) ?_
  refine lv_iconst (v := 0) hM.1 hM.2.1 dX12_plain_33 ic_0 ?_
  refine x_iast hM hw (okX12.tests ho) hf dX12_plain_34 (fun h5 H locs hf hw => ?_)
  refine lv_aload_n hM.1 hM.2.1 dX12_plain_35 rfl (lv_at hl 0 rfl) ?_
  refine gf_X12_rain hM hw (okX12.o ho) fl_X12_101 dX12_plain_36 ?_
  refine lv_iload_n hM.1 hM.2.1 dX12_plain_39 rfl (lv_at hl 1 rfl) ?_
  refine lv_iconst (v := 0) hM.1 hM.2.1 dX12_plain_40 ic_0 ?_
  refine x_iast hM hw (okX12.rain ho) hf dX12_plain_41 (fun h6 H locs hf hw => ?_)
  refine lv_aload_n hM.1 hM.2.1 dX12_plain_42 rfl (lv_at hl 0 rfl) ?_
  refine gf_X12_coinsTold hM hw (okX12.o ho) fl_X12_104 dX12_plain_43 ?_
  refine lv_iload_n hM.1 hM.2.1 dX12_plain_46 rfl (lv_at hl 1 rfl) ?_
  refine lv_bipush (v := 50) hM.1 hM.2.1 dX12_plain_47 (by decide) ?_
  refine x_iast hM hw (okX12.coinsTold ho) hf dX12_plain_49 (fun h7 H locs hf hw => ?_)
  refine lv_aload_n hM.1 hM.2.1 dX12_plain_50 rfl (lv_at hl 0 rfl) ?_
  refine gf_X12_seed hM hw (okX12.o ho) fl_X12_107 dX12_plain_51 ?_
  refine lv_iload_n hM.1 hM.2.1 dX12_plain_54 rfl (lv_at hl 1 rfl) ?_
  refine lv_iconst (v := 0) hM.1 hM.2.1 dX12_plain_55 ic_0 ?_
  refine x_iast hM hw (okX12.seed ho) hf dX12_plain_56 (fun h8 H locs hf hw => ?_)
  refine lv_iconst (v := 0) hM.1 hM.2.1 dX12_plain_57 ic_0 ?_
  refine x_istore_n hM hf dX12_plain_58 rfl hl (by decide) (fun v9 => [(2, .int v9), (0, .ref (ad 0)), (1, .int a1)]) (fun _ => rfl) (fun v9 ls hf hl => ?_)
  refine w_X12_plain_L59 hM ho (fun h12 H locs ls hf hw hl => ?_) fu _ _ hf _ _ _ hw (lv_sub hl [1, 2, 0] rfl)
  refine lv_iconst (v := 0) hM.1 hM.2.1 dX12_plain_81 ic_0 ?_
  refine x_istore_n hM hf dX12_plain_82 rfl hl (by decide) (fun v13 => [(2, .int v13), (0, .ref (ad 0)), (1, .int a1)]) (fun _ => rfl) (fun v13 ls hf hl => ?_)
  refine w_X12_plain_L83 hM ho (fun h17 H locs ls hf hw hl => ?_) fu _ _ hf _ _ _ hw (lv_sub hl [1, 2, 0] rfl)
  exact hR _ _ _ _ _ (Option.some.inj hf) rfl hw dX12_plain_116
theorem hd_X12_plain : yX12_plain.cls = RX12 ∧ yX12_plain.cls ≠ "java/lang/invoke/MethodHandle" ∧ yX12_plain.cls ≠ "java/lang/invoke/VarHandle" ∧ (parseMethodDescriptor yX12_plain.desc).map (fun d => d.parameters.length) = some 1 := ⟨rfl, by decide, by decide, by decide +kernel⟩
theorem dX12_roomFor_0 : decode cX12_roomFor 0 = .ok (.iload_n 1, 1) := by decide +kernel
theorem dX12_roomFor_1 : decode cX12_roomFor 1 = .ok (.iload_n 2, 1) := by decide +kernel
theorem dX12_roomFor_2 : decode cX12_roomFor 2 = .ok (.if_icmp .ne 8, 3) := by decide +kernel
theorem dX12_roomFor_5 : decode cX12_roomFor 5 = .ok (.aload_n 0, 1) := by decide +kernel
theorem dX12_roomFor_6 : decode cX12_roomFor 6 = .ok (.iconst 2, 1) := by decide +kernel
theorem dX12_roomFor_7 : decode cX12_roomFor 7 = .ok (.invokevirtual 251, 3) := by decide +kernel
theorem dX12_roomFor_10 : decode cX12_roomFor 10 = .ok (.aload_n 0, 1) := by decide +kernel
theorem dX12_roomFor_11 : decode cX12_roomFor 11 = .ok (.getfield 236, 3) := by decide +kernel
theorem dX12_roomFor_14 : decode cX12_roomFor 14 = .ok (.ifCond .ne 7, 3) := by decide +kernel
theorem dX12_roomFor_17 : decode cX12_roomFor 17 = .ok (.aload_n 0, 1) := by decide +kernel
theorem dX12_roomFor_18 : decode cX12_roomFor 18 = .ok (.invokevirtual 257, 3) := by decide +kernel
theorem dX12_roomFor_21 : decode cX12_roomFor 21 = .ok (.return_, 1) := by decide +kernel
def c_X12_roomFor (a1 : Int32) (a2 : Int32) (h : PH) : Option (PH) :=
  if a1 = a2 then
    (c_X12_fail 2 h).bind fun h2 =>
    if (h2.1 0 13) = 0 then
      (c_X12_goesOn h2).bind fun h3 =>
      some h3
    else
      some h2
  else
    if (h.1 0 13) = 0 then
      (c_X12_goesOn h).bind fun h1 =>
      some h1
    else
      some h
set_option maxHeartbeats 4000000 in
set_option maxRecDepth 100000 in
theorem ct_X12_roomFor (l : Launch) {lay : List KK} (ho : okX12 lay) (a1 : Int32) (a2 : Int32) : CtV l yX12_roomFor cX12_roomFor 3 (none) 2 41 lay (fun h => c_X12_roomFor a1 a2 h) (fun ad => [.ref (ad 0), .int a1, .int a2]) := by
  refine CtV.mk' RX12 (by decide) rfl (fun _ => Nat.le_of_ble_eq_true rfl) ?_
  intro p0 e s m args below meth c D G A H0 ad X h r0 H ls Q hM hw hl hf hR
  have hl : lv_has ls 3 [(0, .ref (ad 0)), (1, .int a1), (2, .int a2)] := hl
  unfold c_X12_roomFor at hf
  refine lv_iload_n hM.1 hM.2.1 dX12_roomFor_0 rfl (lv_at hl 1 rfl) ?_
  refine lv_iload_n hM.1 hM.2.1 dX12_roomFor_1 rfl (lv_at hl 2 rfl) ?_
  refine x_ic_ne (tgt := 10) hM hf dX12_roomFor_2 (by decide) (fun hf => ?_) (fun hf => ?_)
  · refine lv_aload_n hM.1 hM.2.1 dX12_roomFor_10 rfl (lv_at hl 0 rfl) ?_
    refine gf_X12_fault hM hw (okX12.o ho) fl_X12_236 dX12_roomFor_11 ?_
    refine x_if_ne (tgt := 21) hM hf dX12_roomFor_14 (by decide) (fun hf => ?_) (fun hf => ?_)
    · exact hR _ _ _ _ _ (Option.some.inj hf) rfl hw dX12_roomFor_21
    refine lv_aload_n hM.1 hM.2.1 dX12_roomFor_17 rfl (lv_at hl 0 rfl) ?_
    refine x_callVV (rest := []) hM hw (ct_X12_goesOn l ho) [] (okX12.o ho) rfl rfl rfl (gi_V ml_X12_257 im_X12_goesOn sl_X12_goesOn in_X12 kc_X12_goesOn) hd_X12_goesOn rfl ⟨Nat.le_of_ble_eq_true rfl, Nat.le_of_ble_eq_true rfl⟩ rfl (Nat.le_of_ble_eq_true rfl) hl.1 hcs0 hf dX12_roomFor_18 (fun h1 H locs hf hw => ?_)
    exact hR _ _ _ _ _ (Option.some.inj hf) rfl hw dX12_roomFor_21
  refine lv_aload_n hM.1 hM.2.1 dX12_roomFor_5 rfl (lv_at hl 0 rfl) ?_
  refine lv_iconst (v := 2) hM.1 hM.2.1 dX12_roomFor_6 ic_2 ?_
  refine x_callVV (rest := []) hM hw (ct_X12_fail l ho 2) [.int 2] (okX12.o ho) rfl rfl rfl (gi_V ml_X12_251 im_X12_fail sl_X12_fail in_X12 kc_X12_fail) hd_X12_fail rfl ⟨Nat.le_of_ble_eq_true rfl, Nat.le_of_ble_eq_true rfl⟩ rfl (Nat.le_of_ble_eq_true rfl) hl.1 hcs0 hf dX12_roomFor_7 (fun h2 H locs hf hw => ?_)
  refine lv_aload_n hM.1 hM.2.1 dX12_roomFor_10 rfl (lv_at hl 0 rfl) ?_
  refine gf_X12_fault hM hw (okX12.o ho) fl_X12_236 dX12_roomFor_11 ?_
  refine x_if_ne (tgt := 21) hM hf dX12_roomFor_14 (by decide) (fun hf => ?_) (fun hf => ?_)
  · exact hR _ _ _ _ _ (Option.some.inj hf) rfl hw dX12_roomFor_21
  refine lv_aload_n hM.1 hM.2.1 dX12_roomFor_17 rfl (lv_at hl 0 rfl) ?_
  refine x_callVV (rest := []) hM hw (ct_X12_goesOn l ho) [] (okX12.o ho) rfl rfl rfl (gi_V ml_X12_257 im_X12_goesOn sl_X12_goesOn in_X12 kc_X12_goesOn) hd_X12_goesOn rfl ⟨Nat.le_of_ble_eq_true rfl, Nat.le_of_ble_eq_true rfl⟩ rfl (Nat.le_of_ble_eq_true rfl) hl.1 hcs0 hf dX12_roomFor_18 (fun h3 H locs hf hw => ?_)
  exact hR _ _ _ _ _ (Option.some.inj hf) rfl hw dX12_roomFor_21
theorem hd_X12_roomFor : yX12_roomFor.cls = RX12 ∧ yX12_roomFor.cls ≠ "java/lang/invoke/MethodHandle" ∧ yX12_roomFor.cls ≠ "java/lang/invoke/VarHandle" ∧ (parseMethodDescriptor yX12_roomFor.desc).map (fun d => d.parameters.length) = some 2 := ⟨rfl, by decide, by decide, by decide +kernel⟩
theorem dX12_named_0 : decode cX12_named 0 = .ok (.aload_n 0, 1) := by decide +kernel
theorem dX12_named_1 : decode cX12_named 1 = .ok (.getfield 239, 3) := by decide +kernel
theorem dX12_named_4 : decode cX12_named 4 = .ok (.istore_n 1, 1) := by decide +kernel
theorem dX12_named_5 : decode cX12_named 5 = .ok (.aload_n 0, 1) := by decide +kernel
theorem dX12_named_6 : decode cX12_named 6 = .ok (.iconst 1, 1) := by decide +kernel
theorem dX12_named_7 : decode cX12_named 7 = .ok (.invokevirtual 316, 3) := by decide +kernel
theorem dX12_named_10 : decode cX12_named 10 = .ok (.iconst 0, 1) := by decide +kernel
theorem dX12_named_11 : decode cX12_named 11 = .ok (.istore_n 2, 1) := by decide +kernel
theorem dX12_named_12 : decode cX12_named 12 = .ok (.iload_n 2, 1) := by decide +kernel
theorem dX12_named_13 : decode cX12_named 13 = .ok (.aload_n 0, 1) := by decide +kernel
theorem dX12_named_14 : decode cX12_named 14 = .ok (.getfield 272, 3) := by decide +kernel
theorem dX12_named_17 : decode cX12_named 17 = .ok (.if_icmp .ge 38, 3) := by decide +kernel
theorem dX12_named_20 : decode cX12_named 20 = .ok (.aload_n 0, 1) := by decide +kernel
theorem dX12_named_21 : decode cX12_named 21 = .ok (.getfield 236, 3) := by decide +kernel
theorem dX12_named_24 : decode cX12_named 24 = .ok (.ifCond .ne 31, 3) := by decide +kernel
theorem dX12_named_27 : decode cX12_named 27 = .ok (.aload_n 0, 1) := by decide +kernel
theorem dX12_named_28 : decode cX12_named 28 = .ok (.getfield 40, 3) := by decide +kernel
theorem dX12_named_31 : decode cX12_named 31 = .ok (.iload_n 2, 1) := by decide +kernel
theorem dX12_named_32 : decode cX12_named 32 = .ok (.laload, 1) := by decide +kernel
theorem dX12_named_33 : decode cX12_named 33 = .ok (.aload_n 0, 1) := by decide +kernel
theorem dX12_named_34 : decode cX12_named 34 = .ok (.getfield 30, 3) := by decide +kernel
theorem dX12_named_37 : decode cX12_named 37 = .ok (.iload_n 1, 1) := by decide +kernel
theorem dX12_named_38 : decode cX12_named 38 = .ok (.laload, 1) := by decide +kernel
theorem dX12_named_39 : decode cX12_named 39 = .ok (.lcmp, 1) := by decide +kernel
theorem dX12_named_40 : decode cX12_named 40 = .ok (.ifCond .ne 9, 3) := by decide +kernel
theorem dX12_named_43 : decode cX12_named 43 = .ok (.aload_n 0, 1) := by decide +kernel
theorem dX12_named_44 : decode cX12_named 44 = .ok (.iconst 3, 1) := by decide +kernel
theorem dX12_named_45 : decode cX12_named 45 = .ok (.iload_n 1, 1) := by decide +kernel
theorem dX12_named_46 : decode cX12_named 46 = .ok (.invokevirtual 322, 3) := by decide +kernel
theorem dX12_named_49 : decode cX12_named 49 = .ok (.iinc 2 1, 3) := by decide +kernel
theorem dX12_named_52 : decode cX12_named 52 = .ok (.goto (-40), 3) := by decide +kernel
theorem dX12_named_55 : decode cX12_named 55 = .ok (.iload_n 1, 1) := by decide +kernel
theorem dX12_named_56 : decode cX12_named 56 = .ok (.ireturn, 1) := by decide +kernel
def c_X12_named_L12b {ρ : Type}  (z1 : Int32) (K1 : PH → Option ρ) (REC : Int32 → PH → Option ρ) (x2 : Int32) (h : PH) : Option ρ :=
  if (h.1 0 20) ≤ x2 then
    K1 h
  else
    if (h.1 0 13) = 0 then
      gd (ixOK x2 27) <|
      gd (ixOK z1 403) <|
      if (lg_cmp (h.2.1 8 x2.toNatClampNeg) (h.2.1 6 z1.toNatClampNeg)) = 0 then
        (c_X12_wrong 3 z1 h).bind fun h5 =>
        nm (x2 + 1) fun v6 =>
        REC v6 h5
      else
        nm (x2 + 1) fun v4 =>
        REC v4 h
    else
      K1 h
set_option maxHeartbeats 4000000 in
set_option maxRecDepth 100000 in
theorem w_X12_named_L12b {p0 : Program} {l : Launch} {e : Env} {s : State} {m : MethodId} {args : Array Value} {below : List Frame} {meth : Method} {c : Code} {Q : State → Prop} {D : va_G} {G : GG} {A : Nat → Prop} {H0 : Heap} {ad : Nat → Nat} {lay : List KK} {X : va_W} {ρ : Type} {r0 : ρ} {z1 : Int32} {x2 : Int32} {h : PH} {H : Heap} {locs : List Loc} {ls : Array Slot} {K1 : PH → Option ρ} {REC : Int32 → PH → Option ρ} (hM : CallFix p0 m c cX12_named 3 s args lw_g RX12) (ho : okX12 lay) (hk1 : ∀ (h : PH), ∀ (H : Heap) (locs : List Loc) (ls : Array Slot), K1 h = some r0 → Wd D G A H0 ad lay X h s H locs → lv_has ls 3 [(1, .int z1)] → W p0 l e (rmN 3 62) s m args below meth c H locs 0 0 Q (F0 m 55 ls [])) (hrec : ∀ (x2 : Int32) (h : PH), ∀ (H : Heap) (locs : List Loc) (ls : Array Slot), REC x2 h = some r0 → Wd D G A H0 ad lay X h s H locs → lv_has ls 3 [(0, .ref (ad 0)), (1, .int z1), (2, .int x2)] → W p0 l e (rmN 3 62) s m args below meth c H locs 0 0 Q (F0 m 12 ls [])) (hw : Wd D G A H0 ad lay X h s H locs) (hl : lv_has ls 3 [(0, .ref (ad 0)), (1, .int z1), (2, .int x2)]) (hf : c_X12_named_L12b z1 K1 REC x2 h = some r0) : W p0 l e (rmN 3 62) s m args below meth c H locs 0 0 Q (F0 m 12 ls []) := by
  unfold c_X12_named_L12b at hf
  refine lv_iload_n hM.1 hM.2.1 dX12_named_12 rfl (lv_at hl 2 rfl) ?_
  refine lv_aload_n hM.1 hM.2.1 dX12_named_13 rfl (lv_at hl 0 rfl) ?_
  refine gf_X12_names hM hw (okX12.o ho) fl_X12_272 dX12_named_14 ?_
  refine x_ic_ge (tgt := 55) hM hf dX12_named_17 (by decide) (fun hf => ?_) (fun hf => ?_)
  · exact hk1 _ _ _ _ hf hw (lv_sub hl [1] rfl)
  refine lv_aload_n hM.1 hM.2.1 dX12_named_20 rfl (lv_at hl 0 rfl) ?_
  refine gf_X12_fault hM hw (okX12.o ho) fl_X12_236 dX12_named_21 ?_
  refine x_if_ne (tgt := 55) hM hf dX12_named_24 (by decide) (fun hf => ?_) (fun hf => ?_)
  · exact hk1 _ _ _ _ hf hw (lv_sub hl [1] rfl)
  refine lv_aload_n hM.1 hM.2.1 dX12_named_27 rfl (lv_at hl 0 rfl) ?_
  refine gf_X12_nameOf hM hw (okX12.o ho) fl_X12_40 dX12_named_28 ?_
  refine lv_iload_n hM.1 hM.2.1 dX12_named_31 rfl (lv_at hl 2 rfl) ?_
  refine x_lald hM hw (okX12.nameOf ho) hf dX12_named_32 (fun hf => ?_)
  refine lv_aload_n hM.1 hM.2.1 dX12_named_33 rfl (lv_at hl 0 rfl) ?_
  refine gf_X12_tName hM hw (okX12.o ho) fl_X12_30 dX12_named_34 ?_
  refine lv_iload_n hM.1 hM.2.1 dX12_named_37 rfl (lv_at hl 1 rfl) ?_
  refine x_lald hM hw (okX12.tName ho) hf dX12_named_38 (fun hf => ?_)
  refine W.lcmp hM.1 hM.2.1 dX12_named_39 ?_
  refine x_if_ne (tgt := 49) hM hf dX12_named_40 (by decide) (fun hf => ?_) (fun hf => ?_)
  · refine x_iinc (k := 2) (d := 1) hM hf dX12_named_49 hl rfl (by decide) (by decide) (fun v4 => [(2, .int v4), (0, .ref (ad 0)), (1, .int z1)]) (fun _ => rfl) (fun v4 ls hf hl => ?_)
    refine lv_goto (tgt := 12) hM.1 hM.2.1 dX12_named_52 (by decide) ?_
    exact hrec _ _ _ _ _ hf hw (lv_sub hl [1, 2, 0] rfl)
  refine lv_aload_n hM.1 hM.2.1 dX12_named_43 rfl (lv_at hl 0 rfl) ?_
  refine lv_iconst (v := 3) hM.1 hM.2.1 dX12_named_44 ic_3 ?_
  refine lv_iload_n hM.1 hM.2.1 dX12_named_45 rfl (lv_at hl 1 rfl) ?_
  refine x_callVV (rest := []) hM hw (ct_X12_wrong l ho 3 z1) [.int 3, .int z1] (okX12.o ho) rfl rfl rfl (gi_V ml_X12_322 im_X12_wrong sl_X12_wrong in_X12 kc_X12_wrong) hd_X12_wrong rfl ⟨Nat.le_of_ble_eq_true rfl, Nat.le_of_ble_eq_true rfl⟩ rfl (Nat.le_of_ble_eq_true rfl) hl.1 hcs0 hf dX12_named_46 (fun h5 H locs hf hw => ?_)
  refine x_iinc (k := 2) (d := 1) hM hf dX12_named_49 hl rfl (by decide) (by decide) (fun v6 => [(2, .int v6), (0, .ref (ad 0)), (1, .int z1)]) (fun _ => rfl) (fun v6 ls hf hl => ?_)
  refine lv_goto (tgt := 12) hM.1 hM.2.1 dX12_named_52 (by decide) ?_
  exact hrec _ _ _ _ _ hf hw (lv_sub hl [1, 2, 0] rfl)
set_option maxHeartbeats 4000000 in
set_option maxRecDepth 100000 in
theorem w_X12_named_L12 {p0 : Program} {l : Launch} {e : Env} {s : State} {m : MethodId} {args : Array Value} {below : List Frame} {meth : Method} {c : Code} {Q : State → Prop} {D : va_G} {G : GG} {A : Nat → Prop} {H0 : Heap} {ad : Nat → Nat} {lay : List KK} {X : va_W} {ρ : Type} {r0 : ρ} {z1 : Int32} {K1 : PH → Option ρ} (hM : CallFix p0 m c cX12_named 3 s args lw_g RX12) (ho : okX12 lay) (hk1 : ∀ (h : PH), ∀ (H : Heap) (locs : List Loc) (ls : Array Slot), K1 h = some r0 → Wd D G A H0 ad lay X h s H locs → lv_has ls 3 [(1, .int z1)] → W p0 l e (rmN 3 62) s m args below meth c H locs 0 0 Q (F0 m 55 ls [])) (n : Nat) (x2 : Int32) (h : PH) (hf : lq2 (c_X12_named_L12b z1 K1) n x2 h = some r0) : ∀ (H : Heap) (locs : List Loc) (ls : Array Slot), Wd D G A H0 ad lay X h s H locs → lv_has ls 3 [(0, .ref (ad 0)), (1, .int z1), (2, .int x2)] → W p0 l e (rmN 3 62) s m args below meth c H locs 0 0 Q (F0 m 12 ls []) := by
  exact lq2_i (fun (x2 : Int32) (h : PH) => ∀ (H : Heap) (locs : List Loc) (ls : Array Slot), Wd D G A H0 ad lay X h s H locs → lv_has ls 3 [(0, .ref (ad 0)), (1, .int z1), (2, .int x2)] → W p0 l e (rmN 3 62) s m args below meth c H locs 0 0 Q (F0 m 12 ls [])) (fun REC x2 h ih hf H locs ls hw hl => w_X12_named_L12b hM ho hk1 (fun x2 h H locs ls hf hw hl => ih x2 h hf H locs ls hw hl) hw hl hf) n x2 h hf
def c_X12_named (h : PH) : Option (Int32 × PH) :=
  nm (h.1 0 11) fun v1 =>
  (c_X12_must 1 h).bind fun h2 =>
  nm (0 : Int32) fun v3 =>
  lq2 (c_X12_named_L12b v1
    (fun h7 =>
      some (v1, h7))) fu v3 h2
set_option maxHeartbeats 4000000 in
set_option maxRecDepth 100000 in
theorem ct_X12_named (l : Launch) {lay : List KK} (ho : okX12 lay) : CtI l yX12_named cX12_named 3 (some .int) 3 62 lay (fun h => c_X12_named h) (fun ad => [.ref (ad 0)]) := by
  refine CtI.mk' RX12 (by decide) rfl (fun _ => Nat.le_of_ble_eq_true rfl) ?_
  intro p0 e s m args below meth c D G A H0 ad X h r0 H ls Q hM hw hl hf hR
  have hl : lv_has ls 3 [(0, .ref (ad 0))] := hl
  unfold c_X12_named at hf
  refine lv_aload_n hM.1 hM.2.1 dX12_named_0 rfl (lv_at hl 0 rfl) ?_
  refine gf_X12_t hM hw (okX12.o ho) fl_X12_239 dX12_named_1 ?_
  refine x_istore_n hM hf dX12_named_4 rfl hl (by decide) (fun v1 => [(1, .int v1), (0, .ref (ad 0))]) (fun _ => rfl) (fun v1 ls hf hl => ?_)
  refine lv_aload_n hM.1 hM.2.1 dX12_named_5 rfl (lv_at hl 1 rfl) ?_
  refine lv_iconst (v := 1) hM.1 hM.2.1 dX12_named_6 ic_1 ?_
  refine x_callVV (rest := []) hM hw (ct_X12_must l ho 1) [.int 1] (okX12.o ho) rfl rfl rfl (gi_V ml_X12_316 im_X12_must sl_X12_must in_X12 kc_X12_must) hd_X12_must rfl ⟨Nat.le_of_ble_eq_true rfl, Nat.le_of_ble_eq_true rfl⟩ rfl (Nat.le_of_ble_eq_true rfl) hl.1 hcs0 hf dX12_named_7 (fun h2 H locs hf hw => ?_)
  refine lv_iconst (v := 0) hM.1 hM.2.1 dX12_named_10 ic_0 ?_
  refine x_istore_n hM hf dX12_named_11 rfl hl (by decide) (fun v3 => [(2, .int v3), (1, .int v1), (0, .ref (ad 0))]) (fun _ => rfl) (fun v3 ls hf hl => ?_)
  refine w_X12_named_L12 hM ho (fun h7 H locs ls hf hw hl => ?_) fu _ _ hf _ _ _ hw (lv_sub hl [2, 1, 0] rfl)
  refine lv_iload_n hM.1 hM.2.1 dX12_named_55 rfl (lv_at hl 0 rfl) ?_
  exact hR _ _ _ _ _ _ _ (Option.some.inj hf) rfl rfl hw dX12_named_56
theorem hd_X12_named : yX12_named.cls = RX12 ∧ yX12_named.cls ≠ "java/lang/invoke/MethodHandle" ∧ yX12_named.cls ≠ "java/lang/invoke/VarHandle" ∧ (parseMethodDescriptor yX12_named.desc).map (fun d => d.parameters.length) = some 0 := ⟨rfl, by decide, by decide, by decide +kernel⟩
theorem dX12_bounded_0 : decode cX12_bounded 0 = .ok (.aload_n 0, 1) := by decide +kernel
theorem dX12_bounded_1 : decode cX12_bounded 1 = .ok (.getfield 236, 3) := by decide +kernel
theorem dX12_bounded_4 : decode cX12_bounded 4 = .ok (.ifCond .gt 11, 3) := by decide +kernel
theorem dX12_bounded_7 : decode cX12_bounded 7 = .ok (.aload_n 0, 1) := by decide +kernel
theorem dX12_bounded_8 : decode cX12_bounded 8 = .ok (.iconst 2, 1) := by decide +kernel
theorem dX12_bounded_9 : decode cX12_bounded 9 = .ok (.invokevirtual 254, 3) := by decide +kernel
theorem dX12_bounded_12 : decode cX12_bounded 12 = .ok (.ifCond .ne 10, 3) := by decide +kernel
theorem dX12_bounded_15 : decode cX12_bounded 15 = .ok (.aload_n 0, 1) := by decide +kernel
theorem dX12_bounded_16 : decode cX12_bounded 16 = .ok (.iconst 1, 1) := by decide +kernel
theorem dX12_bounded_17 : decode cX12_bounded 17 = .ok (.invokevirtual 251, 3) := by decide +kernel
theorem dX12_bounded_20 : decode cX12_bounded 20 = .ok (.iload_n 1, 1) := by decide +kernel
theorem dX12_bounded_21 : decode cX12_bounded 21 = .ok (.ireturn, 1) := by decide +kernel
theorem dX12_bounded_22 : decode cX12_bounded 22 = .ok (.aload_n 0, 1) := by decide +kernel
theorem dX12_bounded_23 : decode cX12_bounded 23 = .ok (.getfield 27, 3) := by decide +kernel
theorem dX12_bounded_26 : decode cX12_bounded 26 = .ok (.aload_n 0, 1) := by decide +kernel
theorem dX12_bounded_27 : decode cX12_bounded 27 = .ok (.getfield 239, 3) := by decide +kernel
theorem dX12_bounded_30 : decode cX12_bounded 30 = .ok (.iaload, 1) := by decide +kernel
theorem dX12_bounded_31 : decode cX12_bounded 31 = .ok (.istore_n 3, 1) := by decide +kernel
theorem dX12_bounded_32 : decode cX12_bounded 32 = .ok (.iload_n 3, 1) := by decide +kernel
theorem dX12_bounded_33 : decode cX12_bounded 33 = .ok (.iload_n 1, 1) := by decide +kernel
theorem dX12_bounded_34 : decode cX12_bounded 34 = .ok (.if_icmp .lt 8, 3) := by decide +kernel
theorem dX12_bounded_37 : decode cX12_bounded 37 = .ok (.iload_n 3, 1) := by decide +kernel
theorem dX12_bounded_38 : decode cX12_bounded 38 = .ok (.iload_n 2, 1) := by decide +kernel
theorem dX12_bounded_39 : decode cX12_bounded 39 = .ok (.if_icmp .le 12, 3) := by decide +kernel
theorem dX12_bounded_42 : decode cX12_bounded 42 = .ok (.aload_n 0, 1) := by decide +kernel
theorem dX12_bounded_43 : decode cX12_bounded 43 = .ok (.iconst 5, 1) := by decide +kernel
theorem dX12_bounded_44 : decode cX12_bounded 44 = .ok (.aload_n 0, 1) := by decide +kernel
theorem dX12_bounded_45 : decode cX12_bounded 45 = .ok (.getfield 239, 3) := by decide +kernel
theorem dX12_bounded_48 : decode cX12_bounded 48 = .ok (.invokevirtual 322, 3) := by decide +kernel
theorem dX12_bounded_51 : decode cX12_bounded 51 = .ok (.aload_n 0, 1) := by decide +kernel
theorem dX12_bounded_52 : decode cX12_bounded 52 = .ok (.invokevirtual 257, 3) := by decide +kernel
theorem dX12_bounded_55 : decode cX12_bounded 55 = .ok (.iload_n 3, 1) := by decide +kernel
theorem dX12_bounded_56 : decode cX12_bounded 56 = .ok (.ireturn, 1) := by decide +kernel
def c_X12_bounded (a1 : Int32) (a2 : Int32) (h : PH) : Option (Int32 × PH) :=
  if 0 < (h.1 0 13) then
    (c_X12_fail 1 h).bind fun h1 =>
    some (a1, h1)
  else
    (c_X12_is 2 h).bind fun r2 =>
    if r2 = 0 then
      (c_X12_fail 1 h).bind fun h9 =>
      some (a1, h9)
    else
      gd (ixOK (h.1 0 11) 403) <|
      nm (h.1 5 (h.1 0 11).toNatClampNeg) fun v3 =>
      if v3 < a1 then
        (c_X12_wrong 5 (h.1 0 11) h).bind fun h4 =>
        (c_X12_goesOn h4).bind fun h5 =>
        some (v3, h5)
      else
        if v3 ≤ a2 then
          (c_X12_goesOn h).bind fun h6 =>
          some (v3, h6)
        else
          (c_X12_wrong 5 (h.1 0 11) h).bind fun h7 =>
          (c_X12_goesOn h7).bind fun h8 =>
          some (v3, h8)
set_option maxHeartbeats 4000000 in
set_option maxRecDepth 100000 in
theorem ct_X12_bounded (l : Launch) {lay : List KK} (ho : okX12 lay) (a1 : Int32) (a2 : Int32) : CtI l yX12_bounded cX12_bounded 4 (some .int) 2 41 lay (fun h => c_X12_bounded a1 a2 h) (fun ad => [.ref (ad 0), .int a1, .int a2]) := by
  refine CtI.mk' RX12 (by decide) rfl (fun _ => Nat.le_of_ble_eq_true rfl) ?_
  intro p0 e s m args below meth c D G A H0 ad X h r0 H ls Q hM hw hl hf hR
  have hl : lv_has ls 4 [(0, .ref (ad 0)), (1, .int a1), (2, .int a2)] := hl
  unfold c_X12_bounded at hf
  refine lv_aload_n hM.1 hM.2.1 dX12_bounded_0 rfl (lv_at hl 0 rfl) ?_
  refine gf_X12_fault hM hw (okX12.o ho) fl_X12_236 dX12_bounded_1 ?_
  refine x_if_gt (tgt := 15) hM hf dX12_bounded_4 (by decide) (fun hf => ?_) (fun hf => ?_)
  · refine lv_aload_n hM.1 hM.2.1 dX12_bounded_15 rfl (lv_at hl 0 rfl) ?_
    refine lv_iconst (v := 1) hM.1 hM.2.1 dX12_bounded_16 ic_1 ?_
    refine x_callVV (rest := []) hM hw (ct_X12_fail l ho 1) [.int 1] (okX12.o ho) rfl rfl rfl (gi_V ml_X12_251 im_X12_fail sl_X12_fail in_X12 kc_X12_fail) hd_X12_fail rfl ⟨Nat.le_of_ble_eq_true rfl, Nat.le_of_ble_eq_true rfl⟩ rfl (Nat.le_of_ble_eq_true rfl) hl.1 hcs0 hf dX12_bounded_17 (fun h1 H locs hf hw => ?_)
    refine lv_iload_n hM.1 hM.2.1 dX12_bounded_20 rfl (lv_at hl 1 rfl) ?_
    exact hR _ _ _ _ _ _ _ (Option.some.inj hf) rfl rfl hw dX12_bounded_21
  refine lv_aload_n hM.1 hM.2.1 dX12_bounded_7 rfl (lv_at hl 0 rfl) ?_
  refine lv_iconst (v := 2) hM.1 hM.2.1 dX12_bounded_8 ic_2 ?_
  refine x_callVIr (rest := []) hM hw (ct_X12_is l ho 2) [.int 2] (okX12.o ho) rfl rfl rfl (gi_V ml_X12_254 im_X12_is sl_X12_is in_X12 kc_X12_is) hd_X12_is rfl ⟨Nat.le_of_ble_eq_true rfl, Nat.le_of_ble_eq_true rfl⟩ rfl (Nat.le_of_ble_eq_true rfl) hl.1 hcs0 hf dX12_bounded_9 (fun r2 H locs hf hw => ?_)
  refine x_if_ne (tgt := 22) hM hf dX12_bounded_12 (by decide) (fun hf => ?_) (fun hf => ?_)
  · refine lv_aload_n hM.1 hM.2.1 dX12_bounded_22 rfl (lv_at hl 0 rfl) ?_
    refine gf_X12_tValue hM hw (okX12.o ho) fl_X12_27 dX12_bounded_23 ?_
    refine lv_aload_n hM.1 hM.2.1 dX12_bounded_26 rfl (lv_at hl 0 rfl) ?_
    refine gf_X12_t hM hw (okX12.o ho) fl_X12_239 dX12_bounded_27 ?_
    refine x_iald hM hw (okX12.tValue ho) hf dX12_bounded_30 (fun hf => ?_)
    refine x_istore_n hM hf dX12_bounded_31 rfl hl (by decide) (fun v3 => [(3, .int v3), (0, .ref (ad 0)), (1, .int a1), (2, .int a2)]) (fun _ => rfl) (fun v3 ls hf hl => ?_)
    refine lv_iload_n hM.1 hM.2.1 dX12_bounded_32 rfl (lv_at hl 0 rfl) ?_
    refine lv_iload_n hM.1 hM.2.1 dX12_bounded_33 rfl (lv_at hl 2 rfl) ?_
    refine x_ic_lt (tgt := 42) hM hf dX12_bounded_34 (by decide) (fun hf => ?_) (fun hf => ?_)
    · refine lv_aload_n hM.1 hM.2.1 dX12_bounded_42 rfl (lv_at hl 1 rfl) ?_
      refine lv_iconst (v := 5) hM.1 hM.2.1 dX12_bounded_43 ic_5 ?_
      refine lv_aload_n hM.1 hM.2.1 dX12_bounded_44 rfl (lv_at hl 1 rfl) ?_
      refine gf_X12_t hM hw (okX12.o ho) fl_X12_239 dX12_bounded_45 ?_
      refine x_callVV (rest := []) hM hw (ct_X12_wrong l ho 5 (h.1 0 11)) [.int 5, .int (h.1 0 11)] (okX12.o ho) rfl rfl rfl (gi_V ml_X12_322 im_X12_wrong sl_X12_wrong in_X12 kc_X12_wrong) hd_X12_wrong rfl ⟨Nat.le_of_ble_eq_true rfl, Nat.le_of_ble_eq_true rfl⟩ rfl (Nat.le_of_ble_eq_true rfl) hl.1 hcs0 hf dX12_bounded_48 (fun h4 H locs hf hw => ?_)
      refine lv_aload_n hM.1 hM.2.1 dX12_bounded_51 rfl (lv_at hl 1 rfl) ?_
      refine x_callVV (rest := []) hM hw (ct_X12_goesOn l ho) [] (okX12.o ho) rfl rfl rfl (gi_V ml_X12_257 im_X12_goesOn sl_X12_goesOn in_X12 kc_X12_goesOn) hd_X12_goesOn rfl ⟨Nat.le_of_ble_eq_true rfl, Nat.le_of_ble_eq_true rfl⟩ rfl (Nat.le_of_ble_eq_true rfl) hl.1 hcs0 hf dX12_bounded_52 (fun h5 H locs hf hw => ?_)
      refine lv_iload_n hM.1 hM.2.1 dX12_bounded_55 rfl (lv_at hl 0 rfl) ?_
      exact hR _ _ _ _ _ _ _ (Option.some.inj hf) rfl rfl hw dX12_bounded_56
    refine lv_iload_n hM.1 hM.2.1 dX12_bounded_37 rfl (lv_at hl 0 rfl) ?_
    refine lv_iload_n hM.1 hM.2.1 dX12_bounded_38 rfl (lv_at hl 3 rfl) ?_
    refine x_ic_le (tgt := 51) hM hf dX12_bounded_39 (by decide) (fun hf => ?_) (fun hf => ?_)
    · refine lv_aload_n hM.1 hM.2.1 dX12_bounded_51 rfl (lv_at hl 1 rfl) ?_
      refine x_callVV (rest := []) hM hw (ct_X12_goesOn l ho) [] (okX12.o ho) rfl rfl rfl (gi_V ml_X12_257 im_X12_goesOn sl_X12_goesOn in_X12 kc_X12_goesOn) hd_X12_goesOn rfl ⟨Nat.le_of_ble_eq_true rfl, Nat.le_of_ble_eq_true rfl⟩ rfl (Nat.le_of_ble_eq_true rfl) hl.1 hcs0 hf dX12_bounded_52 (fun h6 H locs hf hw => ?_)
      refine lv_iload_n hM.1 hM.2.1 dX12_bounded_55 rfl (lv_at hl 0 rfl) ?_
      exact hR _ _ _ _ _ _ _ (Option.some.inj hf) rfl rfl hw dX12_bounded_56
    refine lv_aload_n hM.1 hM.2.1 dX12_bounded_42 rfl (lv_at hl 1 rfl) ?_
    refine lv_iconst (v := 5) hM.1 hM.2.1 dX12_bounded_43 ic_5 ?_
    refine lv_aload_n hM.1 hM.2.1 dX12_bounded_44 rfl (lv_at hl 1 rfl) ?_
    refine gf_X12_t hM hw (okX12.o ho) fl_X12_239 dX12_bounded_45 ?_
    refine x_callVV (rest := []) hM hw (ct_X12_wrong l ho 5 (h.1 0 11)) [.int 5, .int (h.1 0 11)] (okX12.o ho) rfl rfl rfl (gi_V ml_X12_322 im_X12_wrong sl_X12_wrong in_X12 kc_X12_wrong) hd_X12_wrong rfl ⟨Nat.le_of_ble_eq_true rfl, Nat.le_of_ble_eq_true rfl⟩ rfl (Nat.le_of_ble_eq_true rfl) hl.1 hcs0 hf dX12_bounded_48 (fun h7 H locs hf hw => ?_)
    refine lv_aload_n hM.1 hM.2.1 dX12_bounded_51 rfl (lv_at hl 1 rfl) ?_
    refine x_callVV (rest := []) hM hw (ct_X12_goesOn l ho) [] (okX12.o ho) rfl rfl rfl (gi_V ml_X12_257 im_X12_goesOn sl_X12_goesOn in_X12 kc_X12_goesOn) hd_X12_goesOn rfl ⟨Nat.le_of_ble_eq_true rfl, Nat.le_of_ble_eq_true rfl⟩ rfl (Nat.le_of_ble_eq_true rfl) hl.1 hcs0 hf dX12_bounded_52 (fun h8 H locs hf hw => ?_)
    refine lv_iload_n hM.1 hM.2.1 dX12_bounded_55 rfl (lv_at hl 0 rfl) ?_
    exact hR _ _ _ _ _ _ _ (Option.some.inj hf) rfl rfl hw dX12_bounded_56
  refine lv_aload_n hM.1 hM.2.1 dX12_bounded_15 rfl (lv_at hl 0 rfl) ?_
  refine lv_iconst (v := 1) hM.1 hM.2.1 dX12_bounded_16 ic_1 ?_
  refine x_callVV (rest := []) hM hw (ct_X12_fail l ho 1) [.int 1] (okX12.o ho) rfl rfl rfl (gi_V ml_X12_251 im_X12_fail sl_X12_fail in_X12 kc_X12_fail) hd_X12_fail rfl ⟨Nat.le_of_ble_eq_true rfl, Nat.le_of_ble_eq_true rfl⟩ rfl (Nat.le_of_ble_eq_true rfl) hl.1 hcs0 hf dX12_bounded_17 (fun h9 H locs hf hw => ?_)
  refine lv_iload_n hM.1 hM.2.1 dX12_bounded_20 rfl (lv_at hl 1 rfl) ?_
  exact hR _ _ _ _ _ _ _ (Option.some.inj hf) rfl rfl hw dX12_bounded_21
theorem hd_X12_bounded : yX12_bounded.cls = RX12 ∧ yX12_bounded.cls ≠ "java/lang/invoke/MethodHandle" ∧ yX12_bounded.cls ≠ "java/lang/invoke/VarHandle" ∧ (parseMethodDescriptor yX12_bounded.desc).map (fun d => d.parameters.length) = some 2 := ⟨rfl, by decide, by decide, by decide +kernel⟩
theorem dX12_notes_0 : decode cX12_notes 0 = .ok (.aload_n 0, 1) := by decide +kernel
theorem dX12_notes_1 : decode cX12_notes 1 = .ok (.getfield 40, 3) := by decide +kernel
theorem dX12_notes_4 : decode cX12_notes 4 = .ok (.aload_n 0, 1) := by decide +kernel
theorem dX12_notes_5 : decode cX12_notes 5 = .ok (.getfield 272, 3) := by decide +kernel
theorem dX12_notes_8 : decode cX12_notes 8 = .ok (.aload_n 0, 1) := by decide +kernel
theorem dX12_notes_9 : decode cX12_notes 9 = .ok (.getfield 30, 3) := by decide +kernel
theorem dX12_notes_12 : decode cX12_notes 12 = .ok (.iload_n 1, 1) := by decide +kernel
theorem dX12_notes_13 : decode cX12_notes 13 = .ok (.laload, 1) := by decide +kernel
theorem dX12_notes_14 : decode cX12_notes 14 = .ok (.lastore, 1) := by decide +kernel
theorem dX12_notes_15 : decode cX12_notes 15 = .ok (.aload_n 0, 1) := by decide +kernel
theorem dX12_notes_16 : decode cX12_notes 16 = .ok (.getfield 43, 3) := by decide +kernel
theorem dX12_notes_19 : decode cX12_notes 19 = .ok (.aload_n 0, 1) := by decide +kernel
theorem dX12_notes_20 : decode cX12_notes 20 = .ok (.getfield 272, 3) := by decide +kernel
theorem dX12_notes_23 : decode cX12_notes 23 = .ok (.iload_n 2, 1) := by decide +kernel
theorem dX12_notes_24 : decode cX12_notes 24 = .ok (.iastore, 1) := by decide +kernel
theorem dX12_notes_25 : decode cX12_notes 25 = .ok (.aload_n 0, 1) := by decide +kernel
theorem dX12_notes_26 : decode cX12_notes 26 = .ok (.getfield 46, 3) := by decide +kernel
theorem dX12_notes_29 : decode cX12_notes 29 = .ok (.aload_n 0, 1) := by decide +kernel
theorem dX12_notes_30 : decode cX12_notes 30 = .ok (.getfield 272, 3) := by decide +kernel
theorem dX12_notes_33 : decode cX12_notes 33 = .ok (.iload_n 3, 1) := by decide +kernel
theorem dX12_notes_34 : decode cX12_notes 34 = .ok (.iastore, 1) := by decide +kernel
theorem dX12_notes_35 : decode cX12_notes 35 = .ok (.aload_n 0, 1) := by decide +kernel
theorem dX12_notes_36 : decode cX12_notes 36 = .ok (.dup, 1) := by decide +kernel
theorem dX12_notes_37 : decode cX12_notes 37 = .ok (.getfield 272, 3) := by decide +kernel
theorem dX12_notes_40 : decode cX12_notes 40 = .ok (.iconst 1, 1) := by decide +kernel
theorem dX12_notes_41 : decode cX12_notes 41 = .ok (.iadd, 1) := by decide +kernel
theorem dX12_notes_42 : decode cX12_notes 42 = .ok (.putfield 272, 3) := by decide +kernel
theorem dX12_notes_45 : decode cX12_notes 45 = .ok (.return_, 1) := by decide +kernel
def c_X12_notes (a1 : Int32) (a2 : Int32) (a3 : Int32) (h : PH) : Option (PH) :=
  gd (ixOK a1 403) <|
  gd (ixOK (h.1 0 20) 27) <| nm (setJ h 8 (h.1 0 20).toNatClampNeg (h.2.1 6 a1.toNatClampNeg)) fun h1 =>
  gd (ixOK (h1.1 0 20) 27) <| nm (setI h1 9 (h1.1 0 20).toNatClampNeg a2) fun h2 =>
  gd (ixOK (h2.1 0 20) 27) <| nm (setI h2 10 (h2.1 0 20).toNatClampNeg a3) fun h3 =>
  nm (setI h3 0 20 ((h3.1 0 20) + 1)) fun h4 =>
  some h4
set_option maxHeartbeats 4000000 in
set_option maxRecDepth 100000 in
theorem ct_X12_notes (l : Launch) {lay : List KK} (ho : okX12 lay) (a1 : Int32) (a2 : Int32) (a3 : Int32) : CtV l yX12_notes cX12_notes 4 (none) 0 0 lay (fun h => c_X12_notes a1 a2 a3 h) (fun ad => [.ref (ad 0), .int a1, .int a2, .int a3]) := by
  refine CtV.mk' RX12 (by decide) rfl (fun _ => Nat.le_of_ble_eq_true rfl) ?_
  intro p0 e s m args below meth c D G A H0 ad X h r0 H ls Q hM hw hl hf hR
  have hl : lv_has ls 4 [(0, .ref (ad 0)), (1, .int a1), (2, .int a2), (3, .int a3)] := hl
  unfold c_X12_notes at hf
  refine lv_aload_n hM.1 hM.2.1 dX12_notes_0 rfl (lv_at hl 0 rfl) ?_
  refine gf_X12_nameOf hM hw (okX12.o ho) fl_X12_40 dX12_notes_1 ?_
  refine lv_aload_n hM.1 hM.2.1 dX12_notes_4 rfl (lv_at hl 0 rfl) ?_
  refine gf_X12_names hM hw (okX12.o ho) fl_X12_272 dX12_notes_5 ?_
  refine lv_aload_n hM.1 hM.2.1 dX12_notes_8 rfl (lv_at hl 0 rfl) ?_
  refine gf_X12_tName hM hw (okX12.o ho) fl_X12_30 dX12_notes_9 ?_
  refine lv_iload_n hM.1 hM.2.1 dX12_notes_12 rfl (lv_at hl 1 rfl) ?_
  refine x_lald hM hw (okX12.tName ho) hf dX12_notes_13 (fun hf => ?_)
  refine x_last hM hw (okX12.nameOf ho) hf dX12_notes_14 (fun h1 H locs hf hw => ?_)
  refine lv_aload_n hM.1 hM.2.1 dX12_notes_15 rfl (lv_at hl 0 rfl) ?_
  refine gf_X12_nameSort hM hw (okX12.o ho) fl_X12_43 dX12_notes_16 ?_
  refine lv_aload_n hM.1 hM.2.1 dX12_notes_19 rfl (lv_at hl 0 rfl) ?_
  refine gf_X12_names hM hw (okX12.o ho) fl_X12_272 dX12_notes_20 ?_
  refine lv_iload_n hM.1 hM.2.1 dX12_notes_23 rfl (lv_at hl 2 rfl) ?_
  refine x_iast hM hw (okX12.nameSort ho) hf dX12_notes_24 (fun h2 H locs hf hw => ?_)
  refine lv_aload_n hM.1 hM.2.1 dX12_notes_25 rfl (lv_at hl 0 rfl) ?_
  refine gf_X12_nameAt hM hw (okX12.o ho) fl_X12_46 dX12_notes_26 ?_
  refine lv_aload_n hM.1 hM.2.1 dX12_notes_29 rfl (lv_at hl 0 rfl) ?_
  refine gf_X12_names hM hw (okX12.o ho) fl_X12_272 dX12_notes_30 ?_
  refine lv_iload_n hM.1 hM.2.1 dX12_notes_33 rfl (lv_at hl 3 rfl) ?_
  refine x_iast hM hw (okX12.nameAt ho) hf dX12_notes_34 (fun h3 H locs hf hw => ?_)
  refine lv_aload_n hM.1 hM.2.1 dX12_notes_35 rfl (lv_at hl 0 rfl) ?_
  refine lv_dup hM.1 hM.2.1 dX12_notes_36 rfl ?_
  refine gf_X12_names hM hw (okX12.o ho) fl_X12_272 dX12_notes_37 ?_
  refine lv_iconst (v := 1) hM.1 hM.2.1 dX12_notes_40 ic_1 ?_
  refine lv_iadd hM.1 hM.2.1 dX12_notes_41 ?_
  refine pf_X12_names hM hw (okX12.o ho) fl_X12_272 hf dX12_notes_42 (fun h4 H locs hf hw => ?_)
  exact hR _ _ _ _ _ (Option.some.inj hf) rfl hw dX12_notes_45
theorem hd_X12_notes : yX12_notes.cls = RX12 ∧ yX12_notes.cls ≠ "java/lang/invoke/MethodHandle" ∧ yX12_notes.cls ≠ "java/lang/invoke/VarHandle" ∧ (parseMethodDescriptor yX12_notes.desc).map (fun d => d.parameters.length) = some 3 := ⟨rfl, by decide, by decide, by decide +kernel⟩
theorem dX12_tellMan_0 : decode cX12_tellMan 0 = .ok (.iconst 5, 1) := by decide +kernel
theorem dX12_tellMan_1 : decode cX12_tellMan 1 = .ok (.aload_n 0, 1) := by decide +kernel
theorem dX12_tellMan_2 : decode cX12_tellMan 2 = .ok (.getfield 269, 3) := by decide +kernel
theorem dX12_tellMan_5 : decode cX12_tellMan 5 = .ok (.imul, 1) := by decide +kernel
theorem dX12_tellMan_6 : decode cX12_tellMan 6 = .ok (.aload_n 0, 1) := by decide +kernel
theorem dX12_tellMan_7 : decode cX12_tellMan 7 = .ok (.getfield 49, 3) := by decide +kernel
theorem dX12_tellMan_10 : decode cX12_tellMan 10 = .ok (.aload_n 0, 1) := by decide +kernel
theorem dX12_tellMan_11 : decode cX12_tellMan 11 = .ok (.getfield 269, 3) := by decide +kernel
theorem dX12_tellMan_14 : decode cX12_tellMan 14 = .ok (.iaload, 1) := by decide +kernel
theorem dX12_tellMan_15 : decode cX12_tellMan 15 = .ok (.iadd, 1) := by decide +kernel
theorem dX12_tellMan_16 : decode cX12_tellMan 16 = .ok (.istore_n 1, 1) := by decide +kernel
theorem dX12_tellMan_17 : decode cX12_tellMan 17 = .ok (.aload_n 0, 1) := by decide +kernel
theorem dX12_tellMan_18 : decode cX12_tellMan 18 = .ok (.invokevirtual 325, 3) := by decide +kernel
theorem dX12_tellMan_21 : decode cX12_tellMan 21 = .ok (.istore_n 2, 1) := by decide +kernel
theorem dX12_tellMan_22 : decode cX12_tellMan 22 = .ok (.aload_n 0, 1) := by decide +kernel
theorem dX12_tellMan_23 : decode cX12_tellMan 23 = .ok (.getfield 52, 3) := by decide +kernel
theorem dX12_tellMan_26 : decode cX12_tellMan 26 = .ok (.iload_n 1, 1) := by decide +kernel
theorem dX12_tellMan_27 : decode cX12_tellMan 27 = .ok (.aload_n 0, 1) := by decide +kernel
theorem dX12_tellMan_28 : decode cX12_tellMan 28 = .ok (.iconst 0, 1) := by decide +kernel
theorem dX12_tellMan_29 : decode cX12_tellMan 29 = .ok (.bipush 99, 2) := by decide +kernel
theorem dX12_tellMan_31 : decode cX12_tellMan 31 = .ok (.invokevirtual 312, 3) := by decide +kernel
theorem dX12_tellMan_34 : decode cX12_tellMan 34 = .ok (.iastore, 1) := by decide +kernel
theorem dX12_tellMan_35 : decode cX12_tellMan 35 = .ok (.aload_n 0, 1) := by decide +kernel
theorem dX12_tellMan_36 : decode cX12_tellMan 36 = .ok (.getfield 55, 3) := by decide +kernel
theorem dX12_tellMan_39 : decode cX12_tellMan 39 = .ok (.iload_n 1, 1) := by decide +kernel
theorem dX12_tellMan_40 : decode cX12_tellMan 40 = .ok (.aload_n 0, 1) := by decide +kernel
theorem dX12_tellMan_41 : decode cX12_tellMan 41 = .ok (.iconst 0, 1) := by decide +kernel
theorem dX12_tellMan_42 : decode cX12_tellMan 42 = .ok (.bipush 9, 2) := by decide +kernel
theorem dX12_tellMan_44 : decode cX12_tellMan 44 = .ok (.invokevirtual 312, 3) := by decide +kernel
theorem dX12_tellMan_47 : decode cX12_tellMan 47 = .ok (.iastore, 1) := by decide +kernel
theorem dX12_tellMan_48 : decode cX12_tellMan 48 = .ok (.aload_n 0, 1) := by decide +kernel
theorem dX12_tellMan_49 : decode cX12_tellMan 49 = .ok (.iconst 4, 1) := by decide +kernel
theorem dX12_tellMan_50 : decode cX12_tellMan 50 = .ok (.invokevirtual 316, 3) := by decide +kernel
theorem dX12_tellMan_53 : decode cX12_tellMan 53 = .ok (.aload_n 0, 1) := by decide +kernel
theorem dX12_tellMan_54 : decode cX12_tellMan 54 = .ok (.getfield 236, 3) := by decide +kernel
theorem dX12_tellMan_57 : decode cX12_tellMan 57 = .ok (.ifCond .le 4, 3) := by decide +kernel
theorem dX12_tellMan_60 : decode cX12_tellMan 60 = .ok (.return_, 1) := by decide +kernel
theorem dX12_tellMan_61 : decode cX12_tellMan 61 = .ok (.aload_n 0, 1) := by decide +kernel
theorem dX12_tellMan_62 : decode cX12_tellMan 62 = .ok (.iload_n 2, 1) := by decide +kernel
theorem dX12_tellMan_63 : decode cX12_tellMan 63 = .ok (.iconst 0, 1) := by decide +kernel
theorem dX12_tellMan_64 : decode cX12_tellMan 64 = .ok (.aload_n 0, 1) := by decide +kernel
theorem dX12_tellMan_65 : decode cX12_tellMan 65 = .ok (.getfield 49, 3) := by decide +kernel
theorem dX12_tellMan_68 : decode cX12_tellMan 68 = .ok (.aload_n 0, 1) := by decide +kernel
theorem dX12_tellMan_69 : decode cX12_tellMan 69 = .ok (.getfield 269, 3) := by decide +kernel
theorem dX12_tellMan_72 : decode cX12_tellMan 72 = .ok (.iaload, 1) := by decide +kernel
theorem dX12_tellMan_73 : decode cX12_tellMan 73 = .ok (.invokevirtual 329, 3) := by decide +kernel
theorem dX12_tellMan_76 : decode cX12_tellMan 76 = .ok (.aload_n 0, 1) := by decide +kernel
theorem dX12_tellMan_77 : decode cX12_tellMan 77 = .ok (.getfield 49, 3) := by decide +kernel
theorem dX12_tellMan_80 : decode cX12_tellMan 80 = .ok (.aload_n 0, 1) := by decide +kernel
theorem dX12_tellMan_81 : decode cX12_tellMan 81 = .ok (.getfield 269, 3) := by decide +kernel
theorem dX12_tellMan_84 : decode cX12_tellMan 84 = .ok (.dup2, 1) := by decide +kernel
theorem dX12_tellMan_85 : decode cX12_tellMan 85 = .ok (.iaload, 1) := by decide +kernel
theorem dX12_tellMan_86 : decode cX12_tellMan 86 = .ok (.iconst 1, 1) := by decide +kernel
theorem dX12_tellMan_87 : decode cX12_tellMan 87 = .ok (.iadd, 1) := by decide +kernel
theorem dX12_tellMan_88 : decode cX12_tellMan 88 = .ok (.iastore, 1) := by decide +kernel
theorem dX12_tellMan_89 : decode cX12_tellMan 89 = .ok (.return_, 1) := by decide +kernel
def c_X12_tellMan (h : PH) : Option (PH) :=
  gd (ixOK (h.1 0 19) 2) <|
  nm ((5 * (h.1 0 19)) + (h.1 11 (h.1 0 19).toNatClampNeg)) fun v1 =>
  bind2 (c_X12_named h) fun r2 h3 =>
  nm r2 fun v4 =>
  bind2 (c_X12_bounded 0 99 h3) fun r5 h6 =>
  gd (ixOK v1 10) <| nm (setI h6 12 v1.toNatClampNeg r5) fun h7 =>
  bind2 (c_X12_bounded 0 9 h7) fun r8 h9 =>
  gd (ixOK v1 10) <| nm (setI h9 13 v1.toNatClampNeg r8) fun h10 =>
  (c_X12_must 4 h10).bind fun h11 =>
  if (h11.1 0 13) ≤ 0 then
    gd (ixOK (h11.1 0 19) 2) <|
    (c_X12_notes v4 0 (h11.1 11 (h11.1 0 19).toNatClampNeg) h11).bind fun h12 =>
    nm (h12.1 0 19) fun v13 =>
    gd (ixOK v13 2) <|
    gd (ixOK v13 2) <| nm (setI h12 11 v13.toNatClampNeg ((h12.1 11 v13.toNatClampNeg) + 1)) fun h14 =>
    some h14
  else
    some h11
set_option maxHeartbeats 4000000 in
set_option maxRecDepth 100000 in
theorem ct_X12_tellMan (l : Launch) {lay : List KK} (ho : okX12 lay) : CtV l yX12_tellMan cX12_tellMan 3 (none) 4 84 lay (fun h => c_X12_tellMan h) (fun ad => [.ref (ad 0)]) := by
  refine CtV.mk' RX12 (by decide) rfl (fun _ => Nat.le_of_ble_eq_true rfl) ?_
  intro p0 e s m args below meth c D G A H0 ad X h r0 H ls Q hM hw hl hf hR
  have hl : lv_has ls 3 [(0, .ref (ad 0))] := hl
  unfold c_X12_tellMan at hf
  refine lv_iconst (v := 5) hM.1 hM.2.1 dX12_tellMan_0 ic_5 ?_
  refine lv_aload_n hM.1 hM.2.1 dX12_tellMan_1 rfl (lv_at hl 0 rfl) ?_
  refine gf_X12_side hM hw (okX12.o ho) fl_X12_269 dX12_tellMan_2 ?_
  refine lv_imul hM.1 hM.2.1 dX12_tellMan_5 ?_
  refine lv_aload_n hM.1 hM.2.1 dX12_tellMan_6 rfl (lv_at hl 0 rfl) ?_
  refine gf_X12_men hM hw (okX12.o ho) fl_X12_49 dX12_tellMan_7 ?_
  refine lv_aload_n hM.1 hM.2.1 dX12_tellMan_10 rfl (lv_at hl 0 rfl) ?_
  refine gf_X12_side hM hw (okX12.o ho) fl_X12_269 dX12_tellMan_11 ?_
  refine x_iald hM hw (okX12.men ho) hf dX12_tellMan_14 (fun hf => ?_)
  refine lv_iadd hM.1 hM.2.1 dX12_tellMan_15 ?_
  refine x_istore_n hM hf dX12_tellMan_16 rfl hl (by decide) (fun v1 => [(1, .int v1), (0, .ref (ad 0))]) (fun _ => rfl) (fun v1 ls hf hl => ?_)
  refine lv_aload_n hM.1 hM.2.1 dX12_tellMan_17 rfl (lv_at hl 1 rfl) ?_
  refine x_callVI (rest := []) hM hw (ct_X12_named l ho) [] (okX12.o ho) rfl rfl rfl (gi_V ml_X12_325 im_X12_named sl_X12_named in_X12 kc_X12_named) hd_X12_named rfl ⟨Nat.le_of_ble_eq_true rfl, Nat.le_of_ble_eq_true rfl⟩ rfl (Nat.le_of_ble_eq_true rfl) hl.1 hcs0 hf dX12_tellMan_18 (fun r2 h3 H locs hf hw => ?_)
  refine x_istore_n hM hf dX12_tellMan_21 rfl hl (by decide) (fun v4 => [(2, .int v4), (1, .int v1), (0, .ref (ad 0))]) (fun _ => rfl) (fun v4 ls hf hl => ?_)
  refine lv_aload_n hM.1 hM.2.1 dX12_tellMan_22 rfl (lv_at hl 2 rfl) ?_
  refine gf_X12_trustTold hM hw (okX12.o ho) fl_X12_52 dX12_tellMan_23 ?_
  refine lv_iload_n hM.1 hM.2.1 dX12_tellMan_26 rfl (lv_at hl 1 rfl) ?_
  refine lv_aload_n hM.1 hM.2.1 dX12_tellMan_27 rfl (lv_at hl 2 rfl) ?_
  refine lv_iconst (v := 0) hM.1 hM.2.1 dX12_tellMan_28 ic_0 ?_
  refine lv_bipush (v := 99) hM.1 hM.2.1 dX12_tellMan_29 (by decide) ?_
  refine x_callVI (rest := [.int v1, .ref (ad 12)]) hM hw (ct_X12_bounded l ho 0 99) [.int 0, .int 99] (okX12.o ho) rfl rfl rfl (gi_V ml_X12_312 im_X12_bounded sl_X12_bounded in_X12 kc_X12_bounded) hd_X12_bounded rfl ⟨Nat.le_of_ble_eq_true rfl, Nat.le_of_ble_eq_true rfl⟩ rfl (Nat.le_of_ble_eq_true rfl) hl.1 hcs0 hf dX12_tellMan_31 (fun r5 h6 H locs hf hw => ?_)
  refine x_iast hM hw (okX12.trustTold ho) hf dX12_tellMan_34 (fun h7 H locs hf hw => ?_)
  refine lv_aload_n hM.1 hM.2.1 dX12_tellMan_35 rfl (lv_at hl 2 rfl) ?_
  refine gf_X12_mendsOf hM hw (okX12.o ho) fl_X12_55 dX12_tellMan_36 ?_
  refine lv_iload_n hM.1 hM.2.1 dX12_tellMan_39 rfl (lv_at hl 1 rfl) ?_
  refine lv_aload_n hM.1 hM.2.1 dX12_tellMan_40 rfl (lv_at hl 2 rfl) ?_
  refine lv_iconst (v := 0) hM.1 hM.2.1 dX12_tellMan_41 ic_0 ?_
  refine lv_bipush (v := 9) hM.1 hM.2.1 dX12_tellMan_42 (by decide) ?_
  refine x_callVI (rest := [.int v1, .ref (ad 13)]) hM hw (ct_X12_bounded l ho 0 9) [.int 0, .int 9] (okX12.o ho) rfl rfl rfl (gi_V ml_X12_312 im_X12_bounded sl_X12_bounded in_X12 kc_X12_bounded) hd_X12_bounded rfl ⟨Nat.le_of_ble_eq_true rfl, Nat.le_of_ble_eq_true rfl⟩ rfl (Nat.le_of_ble_eq_true rfl) hl.1 hcs0 hf dX12_tellMan_44 (fun r8 h9 H locs hf hw => ?_)
  refine x_iast hM hw (okX12.mendsOf ho) hf dX12_tellMan_47 (fun h10 H locs hf hw => ?_)
  refine lv_aload_n hM.1 hM.2.1 dX12_tellMan_48 rfl (lv_at hl 2 rfl) ?_
  refine lv_iconst (v := 4) hM.1 hM.2.1 dX12_tellMan_49 ic_4 ?_
  refine x_callVV (rest := []) hM hw (ct_X12_must l ho 4) [.int 4] (okX12.o ho) rfl rfl rfl (gi_V ml_X12_316 im_X12_must sl_X12_must in_X12 kc_X12_must) hd_X12_must rfl ⟨Nat.le_of_ble_eq_true rfl, Nat.le_of_ble_eq_true rfl⟩ rfl (Nat.le_of_ble_eq_true rfl) hl.1 hcs0 hf dX12_tellMan_50 (fun h11 H locs hf hw => ?_)
  refine lv_aload_n hM.1 hM.2.1 dX12_tellMan_53 rfl (lv_at hl 2 rfl) ?_
  refine gf_X12_fault hM hw (okX12.o ho) fl_X12_236 dX12_tellMan_54 ?_
  refine x_if_le (tgt := 61) hM hf dX12_tellMan_57 (by decide) (fun hf => ?_) (fun hf => ?_)
  · refine lv_aload_n hM.1 hM.2.1 dX12_tellMan_61 rfl (lv_at hl 2 rfl) ?_
    refine lv_iload_n hM.1 hM.2.1 dX12_tellMan_62 rfl (lv_at hl 0 rfl) ?_
    refine lv_iconst (v := 0) hM.1 hM.2.1 dX12_tellMan_63 ic_0 ?_
    refine lv_aload_n hM.1 hM.2.1 dX12_tellMan_64 rfl (lv_at hl 2 rfl) ?_
    refine gf_X12_men hM hw (okX12.o ho) fl_X12_49 dX12_tellMan_65 ?_
    refine lv_aload_n hM.1 hM.2.1 dX12_tellMan_68 rfl (lv_at hl 2 rfl) ?_
    refine gf_X12_side hM hw (okX12.o ho) fl_X12_269 dX12_tellMan_69 ?_
    refine x_iald hM hw (okX12.men ho) hf dX12_tellMan_72 (fun hf => ?_)
    refine x_callVV (rest := []) hM hw (ct_X12_notes l ho v4 0 (h11.1 11 (h11.1 0 19).toNatClampNeg)) [.int v4, .int 0, .int (h11.1 11 (h11.1 0 19).toNatClampNeg)] (okX12.o ho) rfl rfl rfl (gi_V ml_X12_329 im_X12_notes sl_X12_notes in_X12 kc_X12_notes) hd_X12_notes rfl ⟨Nat.le_of_ble_eq_true rfl, Nat.le_of_ble_eq_true rfl⟩ rfl (Nat.le_of_ble_eq_true rfl) hl.1 hcs0 hf dX12_tellMan_73 (fun h12 H locs hf hw => ?_)
    refine lv_aload_n hM.1 hM.2.1 dX12_tellMan_76 rfl (lv_at hl 2 rfl) ?_
    refine gf_X12_men hM hw (okX12.o ho) fl_X12_49 dX12_tellMan_77 ?_
    refine lv_aload_n hM.1 hM.2.1 dX12_tellMan_80 rfl (lv_at hl 2 rfl) ?_
    refine gf_X12_side hM hw (okX12.o ho) fl_X12_269 dX12_tellMan_81 ?_
    refine x_nmi hf (fun v13 hf => ?_)
    refine lv_dup2_11 hM.1 hM.2.1 dX12_tellMan_84 rfl rfl ?_
    refine x_iald hM hw (okX12.men ho) hf dX12_tellMan_85 (fun hf => ?_)
    refine lv_iconst (v := 1) hM.1 hM.2.1 dX12_tellMan_86 ic_1 ?_
    refine lv_iadd hM.1 hM.2.1 dX12_tellMan_87 ?_
    refine x_iast hM hw (okX12.men ho) hf dX12_tellMan_88 (fun h14 H locs hf hw => ?_)
    exact hR _ _ _ _ _ (Option.some.inj hf) rfl hw dX12_tellMan_89
  exact hR _ _ _ _ _ (Option.some.inj hf) rfl hw dX12_tellMan_60
theorem hd_X12_tellMan : yX12_tellMan.cls = RX12 ∧ yX12_tellMan.cls ≠ "java/lang/invoke/MethodHandle" ∧ yX12_tellMan.cls ≠ "java/lang/invoke/VarHandle" ∧ (parseMethodDescriptor yX12_tellMan.desc).map (fun d => d.parameters.length) = some 0 := ⟨rfl, by decide, by decide, by decide +kernel⟩
theorem dX12_tellExcuse_0 : decode cX12_tellExcuse 0 = .ok (.bipush 7, 2) := by decide +kernel
theorem dX12_tellExcuse_2 : decode cX12_tellExcuse 2 = .ok (.aload_n 0, 1) := by decide +kernel
theorem dX12_tellExcuse_3 : decode cX12_tellExcuse 3 = .ok (.getfield 269, 3) := by decide +kernel
theorem dX12_tellExcuse_6 : decode cX12_tellExcuse 6 = .ok (.imul, 1) := by decide +kernel
theorem dX12_tellExcuse_7 : decode cX12_tellExcuse 7 = .ok (.aload_n 0, 1) := by decide +kernel
theorem dX12_tellExcuse_8 : decode cX12_tellExcuse 8 = .ok (.getfield 61, 3) := by decide +kernel
theorem dX12_tellExcuse_11 : decode cX12_tellExcuse 11 = .ok (.aload_n 0, 1) := by decide +kernel
theorem dX12_tellExcuse_12 : decode cX12_tellExcuse 12 = .ok (.getfield 269, 3) := by decide +kernel
theorem dX12_tellExcuse_15 : decode cX12_tellExcuse 15 = .ok (.iaload, 1) := by decide +kernel
theorem dX12_tellExcuse_16 : decode cX12_tellExcuse 16 = .ok (.iadd, 1) := by decide +kernel
theorem dX12_tellExcuse_17 : decode cX12_tellExcuse 17 = .ok (.istore_n 1, 1) := by decide +kernel
theorem dX12_tellExcuse_18 : decode cX12_tellExcuse 18 = .ok (.aload_n 0, 1) := by decide +kernel
theorem dX12_tellExcuse_19 : decode cX12_tellExcuse 19 = .ok (.invokevirtual 325, 3) := by decide +kernel
theorem dX12_tellExcuse_22 : decode cX12_tellExcuse 22 = .ok (.istore_n 2, 1) := by decide +kernel
theorem dX12_tellExcuse_23 : decode cX12_tellExcuse 23 = .ok (.aload_n 0, 1) := by decide +kernel
theorem dX12_tellExcuse_24 : decode cX12_tellExcuse 24 = .ok (.getfield 64, 3) := by decide +kernel
theorem dX12_tellExcuse_27 : decode cX12_tellExcuse 27 = .ok (.iload_n 1, 1) := by decide +kernel
theorem dX12_tellExcuse_28 : decode cX12_tellExcuse 28 = .ok (.aload_n 0, 1) := by decide +kernel
theorem dX12_tellExcuse_29 : decode cX12_tellExcuse 29 = .ok (.iconst 0, 1) := by decide +kernel
theorem dX12_tellExcuse_30 : decode cX12_tellExcuse 30 = .ok (.bipush 99, 2) := by decide +kernel
theorem dX12_tellExcuse_32 : decode cX12_tellExcuse 32 = .ok (.invokevirtual 312, 3) := by decide +kernel
theorem dX12_tellExcuse_35 : decode cX12_tellExcuse 35 = .ok (.iastore, 1) := by decide +kernel
theorem dX12_tellExcuse_36 : decode cX12_tellExcuse 36 = .ok (.aload_n 0, 1) := by decide +kernel
theorem dX12_tellExcuse_37 : decode cX12_tellExcuse 37 = .ok (.getfield 67, 3) := by decide +kernel
theorem dX12_tellExcuse_40 : decode cX12_tellExcuse 40 = .ok (.iload_n 1, 1) := by decide +kernel
theorem dX12_tellExcuse_41 : decode cX12_tellExcuse 41 = .ok (.aload_n 0, 1) := by decide +kernel
theorem dX12_tellExcuse_42 : decode cX12_tellExcuse 42 = .ok (.iconst 0, 1) := by decide +kernel
theorem dX12_tellExcuse_43 : decode cX12_tellExcuse 43 = .ok (.bipush 99, 2) := by decide +kernel
theorem dX12_tellExcuse_45 : decode cX12_tellExcuse 45 = .ok (.invokevirtual 312, 3) := by decide +kernel
theorem dX12_tellExcuse_48 : decode cX12_tellExcuse 48 = .ok (.iastore, 1) := by decide +kernel
theorem dX12_tellExcuse_49 : decode cX12_tellExcuse 49 = .ok (.aload_n 0, 1) := by decide +kernel
theorem dX12_tellExcuse_50 : decode cX12_tellExcuse 50 = .ok (.getfield 70, 3) := by decide +kernel
theorem dX12_tellExcuse_53 : decode cX12_tellExcuse 53 = .ok (.iload_n 1, 1) := by decide +kernel
theorem dX12_tellExcuse_54 : decode cX12_tellExcuse 54 = .ok (.aload_n 0, 1) := by decide +kernel
theorem dX12_tellExcuse_55 : decode cX12_tellExcuse 55 = .ok (.iconst 0, 1) := by decide +kernel
theorem dX12_tellExcuse_56 : decode cX12_tellExcuse 56 = .ok (.bipush 9, 2) := by decide +kernel
theorem dX12_tellExcuse_58 : decode cX12_tellExcuse 58 = .ok (.invokevirtual 312, 3) := by decide +kernel
theorem dX12_tellExcuse_61 : decode cX12_tellExcuse 61 = .ok (.iastore, 1) := by decide +kernel
theorem dX12_tellExcuse_62 : decode cX12_tellExcuse 62 = .ok (.aload_n 0, 1) := by decide +kernel
theorem dX12_tellExcuse_63 : decode cX12_tellExcuse 63 = .ok (.getfield 73, 3) := by decide +kernel
theorem dX12_tellExcuse_66 : decode cX12_tellExcuse 66 = .ok (.iload_n 1, 1) := by decide +kernel
theorem dX12_tellExcuse_67 : decode cX12_tellExcuse 67 = .ok (.aload_n 0, 1) := by decide +kernel
theorem dX12_tellExcuse_68 : decode cX12_tellExcuse 68 = .ok (.iconst 0, 1) := by decide +kernel
theorem dX12_tellExcuse_69 : decode cX12_tellExcuse 69 = .ok (.bipush 99, 2) := by decide +kernel
theorem dX12_tellExcuse_71 : decode cX12_tellExcuse 71 = .ok (.invokevirtual 312, 3) := by decide +kernel
theorem dX12_tellExcuse_74 : decode cX12_tellExcuse 74 = .ok (.iastore, 1) := by decide +kernel
theorem dX12_tellExcuse_75 : decode cX12_tellExcuse 75 = .ok (.aload_n 0, 1) := by decide +kernel
theorem dX12_tellExcuse_76 : decode cX12_tellExcuse 76 = .ok (.getfield 76, 3) := by decide +kernel
theorem dX12_tellExcuse_79 : decode cX12_tellExcuse 79 = .ok (.iload_n 1, 1) := by decide +kernel
theorem dX12_tellExcuse_80 : decode cX12_tellExcuse 80 = .ok (.aload_n 0, 1) := by decide +kernel
theorem dX12_tellExcuse_81 : decode cX12_tellExcuse 81 = .ok (.getfield 236, 3) := by decide +kernel
theorem dX12_tellExcuse_84 : decode cX12_tellExcuse 84 = .ok (.ifCond .ne 16, 3) := by decide +kernel
theorem dX12_tellExcuse_87 : decode cX12_tellExcuse 87 = .ok (.aload_n 0, 1) := by decide +kernel
theorem dX12_tellExcuse_88 : decode cX12_tellExcuse 88 = .ok (.bipush 30, 2) := by decide +kernel
theorem dX12_tellExcuse_90 : decode cX12_tellExcuse 90 = .ok (.invokevirtual 254, 3) := by decide +kernel
theorem dX12_tellExcuse_93 : decode cX12_tellExcuse 93 = .ok (.ifCond .eq 7, 3) := by decide +kernel
theorem dX12_tellExcuse_96 : decode cX12_tellExcuse 96 = .ok (.iconst 1, 1) := by decide +kernel
theorem dX12_tellExcuse_97 : decode cX12_tellExcuse 97 = .ok (.goto 4, 3) := by decide +kernel
theorem dX12_tellExcuse_100 : decode cX12_tellExcuse 100 = .ok (.iconst 0, 1) := by decide +kernel
theorem dX12_tellExcuse_101 : decode cX12_tellExcuse 101 = .ok (.bastore, 1) := by decide +kernel
theorem dX12_tellExcuse_102 : decode cX12_tellExcuse 102 = .ok (.aload_n 0, 1) := by decide +kernel
theorem dX12_tellExcuse_103 : decode cX12_tellExcuse 103 = .ok (.getfield 76, 3) := by decide +kernel
theorem dX12_tellExcuse_106 : decode cX12_tellExcuse 106 = .ok (.iload_n 1, 1) := by decide +kernel
theorem dX12_tellExcuse_107 : decode cX12_tellExcuse 107 = .ok (.baload, 1) := by decide +kernel
theorem dX12_tellExcuse_108 : decode cX12_tellExcuse 108 = .ok (.ifCond .eq 7, 3) := by decide +kernel
theorem dX12_tellExcuse_111 : decode cX12_tellExcuse 111 = .ok (.aload_n 0, 1) := by decide +kernel
theorem dX12_tellExcuse_112 : decode cX12_tellExcuse 112 = .ok (.invokevirtual 257, 3) := by decide +kernel
theorem dX12_tellExcuse_115 : decode cX12_tellExcuse 115 = .ok (.aload_n 0, 1) := by decide +kernel
theorem dX12_tellExcuse_116 : decode cX12_tellExcuse 116 = .ok (.iconst 4, 1) := by decide +kernel
theorem dX12_tellExcuse_117 : decode cX12_tellExcuse 117 = .ok (.invokevirtual 316, 3) := by decide +kernel
theorem dX12_tellExcuse_120 : decode cX12_tellExcuse 120 = .ok (.aload_n 0, 1) := by decide +kernel
theorem dX12_tellExcuse_121 : decode cX12_tellExcuse 121 = .ok (.getfield 236, 3) := by decide +kernel
theorem dX12_tellExcuse_124 : decode cX12_tellExcuse 124 = .ok (.ifCond .le 4, 3) := by decide +kernel
theorem dX12_tellExcuse_127 : decode cX12_tellExcuse 127 = .ok (.return_, 1) := by decide +kernel
theorem dX12_tellExcuse_128 : decode cX12_tellExcuse 128 = .ok (.aload_n 0, 1) := by decide +kernel
theorem dX12_tellExcuse_129 : decode cX12_tellExcuse 129 = .ok (.iload_n 2, 1) := by decide +kernel
theorem dX12_tellExcuse_130 : decode cX12_tellExcuse 130 = .ok (.iconst 1, 1) := by decide +kernel
theorem dX12_tellExcuse_131 : decode cX12_tellExcuse 131 = .ok (.aload_n 0, 1) := by decide +kernel
theorem dX12_tellExcuse_132 : decode cX12_tellExcuse 132 = .ok (.getfield 61, 3) := by decide +kernel
theorem dX12_tellExcuse_135 : decode cX12_tellExcuse 135 = .ok (.aload_n 0, 1) := by decide +kernel
theorem dX12_tellExcuse_136 : decode cX12_tellExcuse 136 = .ok (.getfield 269, 3) := by decide +kernel
theorem dX12_tellExcuse_139 : decode cX12_tellExcuse 139 = .ok (.iaload, 1) := by decide +kernel
theorem dX12_tellExcuse_140 : decode cX12_tellExcuse 140 = .ok (.invokevirtual 329, 3) := by decide +kernel
theorem dX12_tellExcuse_143 : decode cX12_tellExcuse 143 = .ok (.aload_n 0, 1) := by decide +kernel
theorem dX12_tellExcuse_144 : decode cX12_tellExcuse 144 = .ok (.getfield 61, 3) := by decide +kernel
theorem dX12_tellExcuse_147 : decode cX12_tellExcuse 147 = .ok (.aload_n 0, 1) := by decide +kernel
theorem dX12_tellExcuse_148 : decode cX12_tellExcuse 148 = .ok (.getfield 269, 3) := by decide +kernel
theorem dX12_tellExcuse_151 : decode cX12_tellExcuse 151 = .ok (.dup2, 1) := by decide +kernel
theorem dX12_tellExcuse_152 : decode cX12_tellExcuse 152 = .ok (.iaload, 1) := by decide +kernel
theorem dX12_tellExcuse_153 : decode cX12_tellExcuse 153 = .ok (.iconst 1, 1) := by decide +kernel
theorem dX12_tellExcuse_154 : decode cX12_tellExcuse 154 = .ok (.iadd, 1) := by decide +kernel
theorem dX12_tellExcuse_155 : decode cX12_tellExcuse 155 = .ok (.iastore, 1) := by decide +kernel
theorem dX12_tellExcuse_156 : decode cX12_tellExcuse 156 = .ok (.return_, 1) := by decide +kernel
def c_X12_tellExcuse_j115  (x2 : Int32) (h : PH) : Option (PH) :=
  (c_X12_must 4 h).bind fun h18 =>
  if (h18.1 0 13) ≤ 0 then
    gd (ixOK (h18.1 0 19) 2) <|
    (c_X12_notes x2 1 (h18.1 15 (h18.1 0 19).toNatClampNeg) h18).bind fun h19 =>
    nm (h19.1 0 19) fun v20 =>
    gd (ixOK v20 2) <|
    gd (ixOK v20 2) <| nm (setI h19 15 v20.toNatClampNeg ((h19.1 15 v20.toNatClampNeg) + 1)) fun h21 =>
    some h21
  else
    some h18
set_option maxHeartbeats 4000000 in
set_option maxRecDepth 100000 in
theorem w_X12_tellExcuse_j115 {p0 : Program} {l : Launch} {e : Env} {s : State} {m : MethodId} {args : Array Value} {below : List Frame} {meth : Method} {c : Code} {Q : State → Prop} {D : va_G} {G : GG} {A : Nat → Prop} {H0 : Heap} {ad : Nat → Nat} {lay : List KK} {X : va_W} {r0 : PH} {x2 : Int32} {h : PH} {H : Heap} {locs : List Loc} {ls : Array Slot} (hM : CallFix p0 m c cX12_tellExcuse 3 s args lw_g RX12) (ho : okX12 lay) (hR : RtV p0 l e (rmN 4 84) s m args below meth c cX12_tellExcuse D G A H0 ad lay X (none) r0 Q 0 0) (hw : Wd D G A H0 ad lay X h s H locs) (hl : lv_has ls 3 [(0, .ref (ad 0)), (2, .int x2)]) (hf : c_X12_tellExcuse_j115 x2 h = some r0) : W p0 l e (rmN 4 84) s m args below meth c H locs 0 0 Q (F0 m 115 ls []) := by
  unfold c_X12_tellExcuse_j115 at hf
  refine lv_aload_n hM.1 hM.2.1 dX12_tellExcuse_115 rfl (lv_at hl 0 rfl) ?_
  refine lv_iconst (v := 4) hM.1 hM.2.1 dX12_tellExcuse_116 ic_4 ?_
  refine x_callVV (rest := []) hM hw (ct_X12_must l ho 4) [.int 4] (okX12.o ho) rfl rfl rfl (gi_V ml_X12_316 im_X12_must sl_X12_must in_X12 kc_X12_must) hd_X12_must rfl ⟨Nat.le_of_ble_eq_true rfl, Nat.le_of_ble_eq_true rfl⟩ rfl (Nat.le_of_ble_eq_true rfl) hl.1 hcs0 hf dX12_tellExcuse_117 (fun h18 H locs hf hw => ?_)
  refine lv_aload_n hM.1 hM.2.1 dX12_tellExcuse_120 rfl (lv_at hl 0 rfl) ?_
  refine gf_X12_fault hM hw (okX12.o ho) fl_X12_236 dX12_tellExcuse_121 ?_
  refine x_if_le (tgt := 128) hM hf dX12_tellExcuse_124 (by decide) (fun hf => ?_) (fun hf => ?_)
  · refine lv_aload_n hM.1 hM.2.1 dX12_tellExcuse_128 rfl (lv_at hl 0 rfl) ?_
    refine lv_iload_n hM.1 hM.2.1 dX12_tellExcuse_129 rfl (lv_at hl 1 rfl) ?_
    refine lv_iconst (v := 1) hM.1 hM.2.1 dX12_tellExcuse_130 ic_1 ?_
    refine lv_aload_n hM.1 hM.2.1 dX12_tellExcuse_131 rfl (lv_at hl 0 rfl) ?_
    refine gf_X12_excuses hM hw (okX12.o ho) fl_X12_61 dX12_tellExcuse_132 ?_
    refine lv_aload_n hM.1 hM.2.1 dX12_tellExcuse_135 rfl (lv_at hl 0 rfl) ?_
    refine gf_X12_side hM hw (okX12.o ho) fl_X12_269 dX12_tellExcuse_136 ?_
    refine x_iald hM hw (okX12.excuses ho) hf dX12_tellExcuse_139 (fun hf => ?_)
    refine x_callVV (rest := []) hM hw (ct_X12_notes l ho x2 1 (h18.1 15 (h18.1 0 19).toNatClampNeg)) [.int x2, .int 1, .int (h18.1 15 (h18.1 0 19).toNatClampNeg)] (okX12.o ho) rfl rfl rfl (gi_V ml_X12_329 im_X12_notes sl_X12_notes in_X12 kc_X12_notes) hd_X12_notes rfl ⟨Nat.le_of_ble_eq_true rfl, Nat.le_of_ble_eq_true rfl⟩ rfl (Nat.le_of_ble_eq_true rfl) hl.1 hcs0 hf dX12_tellExcuse_140 (fun h19 H locs hf hw => ?_)
    refine lv_aload_n hM.1 hM.2.1 dX12_tellExcuse_143 rfl (lv_at hl 0 rfl) ?_
    refine gf_X12_excuses hM hw (okX12.o ho) fl_X12_61 dX12_tellExcuse_144 ?_
    refine lv_aload_n hM.1 hM.2.1 dX12_tellExcuse_147 rfl (lv_at hl 0 rfl) ?_
    refine gf_X12_side hM hw (okX12.o ho) fl_X12_269 dX12_tellExcuse_148 ?_
    refine x_nmi hf (fun v20 hf => ?_)
    refine lv_dup2_11 hM.1 hM.2.1 dX12_tellExcuse_151 rfl rfl ?_
    refine x_iald hM hw (okX12.excuses ho) hf dX12_tellExcuse_152 (fun hf => ?_)
    refine lv_iconst (v := 1) hM.1 hM.2.1 dX12_tellExcuse_153 ic_1 ?_
    refine lv_iadd hM.1 hM.2.1 dX12_tellExcuse_154 ?_
    refine x_iast hM hw (okX12.excuses ho) hf dX12_tellExcuse_155 (fun h21 H locs hf hw => ?_)
    exact hR _ _ _ _ _ (Option.some.inj hf) rfl hw dX12_tellExcuse_156
  exact hR _ _ _ _ _ (Option.some.inj hf) rfl hw dX12_tellExcuse_127
def c_X12_tellExcuse (h : PH) : Option (PH) :=
  gd (ixOK (h.1 0 19) 2) <|
  nm ((7 * (h.1 0 19)) + (h.1 15 (h.1 0 19).toNatClampNeg)) fun v1 =>
  bind2 (c_X12_named h) fun r2 h3 =>
  nm r2 fun v4 =>
  bind2 (c_X12_bounded 0 99 h3) fun r5 h6 =>
  gd (ixOK v1 14) <| nm (setI h6 16 v1.toNatClampNeg r5) fun h7 =>
  bind2 (c_X12_bounded 0 99 h7) fun r8 h9 =>
  gd (ixOK v1 14) <| nm (setI h9 17 v1.toNatClampNeg r8) fun h10 =>
  bind2 (c_X12_bounded 0 9 h10) fun r11 h12 =>
  gd (ixOK v1 14) <| nm (setI h12 18 v1.toNatClampNeg r11) fun h13 =>
  bind2 (c_X12_bounded 0 99 h13) fun r14 h15 =>
  gd (ixOK v1 14) <| nm (setI h15 19 v1.toNatClampNeg r14) fun h16 =>
  if (h16.1 0 13) = 0 then
    (c_X12_is 30 h16).bind fun r23 =>
    if r23 = 0 then
      gd (ixOK v1 14) <| nm (setI h16 20 v1.toNatClampNeg (vp_nar .boolean 0)) fun h24 =>
      gd (ixOK v1 14) <|
      if (h24.1 20 v1.toNatClampNeg) = 0 then
        c_X12_tellExcuse_j115 v4 h24
      else
        (c_X12_goesOn h24).bind fun h25 =>
        c_X12_tellExcuse_j115 v4 h25
    else
      gd (ixOK v1 14) <| nm (setI h16 20 v1.toNatClampNeg (vp_nar .boolean 1)) fun h26 =>
      gd (ixOK v1 14) <|
      if (h26.1 20 v1.toNatClampNeg) = 0 then
        c_X12_tellExcuse_j115 v4 h26
      else
        (c_X12_goesOn h26).bind fun h27 =>
        c_X12_tellExcuse_j115 v4 h27
  else
    gd (ixOK v1 14) <| nm (setI h16 20 v1.toNatClampNeg (vp_nar .boolean 0)) fun h17 =>
    gd (ixOK v1 14) <|
    if (h17.1 20 v1.toNatClampNeg) = 0 then
      c_X12_tellExcuse_j115 v4 h17
    else
      (c_X12_goesOn h17).bind fun h22 =>
      c_X12_tellExcuse_j115 v4 h22
set_option maxHeartbeats 4000000 in
set_option maxRecDepth 100000 in
theorem ct_X12_tellExcuse (l : Launch) {lay : List KK} (ho : okX12 lay) : CtV l yX12_tellExcuse cX12_tellExcuse 3 (none) 4 84 lay (fun h => c_X12_tellExcuse h) (fun ad => [.ref (ad 0)]) := by
  refine CtV.mk' RX12 (by decide) rfl (fun _ => Nat.le_of_ble_eq_true rfl) ?_
  intro p0 e s m args below meth c D G A H0 ad X h r0 H ls Q hM hw hl hf hR
  have hl : lv_has ls 3 [(0, .ref (ad 0))] := hl
  unfold c_X12_tellExcuse at hf
  refine lv_bipush (v := 7) hM.1 hM.2.1 dX12_tellExcuse_0 (by decide) ?_
  refine lv_aload_n hM.1 hM.2.1 dX12_tellExcuse_2 rfl (lv_at hl 0 rfl) ?_
  refine gf_X12_side hM hw (okX12.o ho) fl_X12_269 dX12_tellExcuse_3 ?_
  refine lv_imul hM.1 hM.2.1 dX12_tellExcuse_6 ?_
  refine lv_aload_n hM.1 hM.2.1 dX12_tellExcuse_7 rfl (lv_at hl 0 rfl) ?_
  refine gf_X12_excuses hM hw (okX12.o ho) fl_X12_61 dX12_tellExcuse_8 ?_
  refine lv_aload_n hM.1 hM.2.1 dX12_tellExcuse_11 rfl (lv_at hl 0 rfl) ?_
  refine gf_X12_side hM hw (okX12.o ho) fl_X12_269 dX12_tellExcuse_12 ?_
  refine x_iald hM hw (okX12.excuses ho) hf dX12_tellExcuse_15 (fun hf => ?_)
  refine lv_iadd hM.1 hM.2.1 dX12_tellExcuse_16 ?_
  refine x_istore_n hM hf dX12_tellExcuse_17 rfl hl (by decide) (fun v1 => [(1, .int v1), (0, .ref (ad 0))]) (fun _ => rfl) (fun v1 ls hf hl => ?_)
  refine lv_aload_n hM.1 hM.2.1 dX12_tellExcuse_18 rfl (lv_at hl 1 rfl) ?_
  refine x_callVI (rest := []) hM hw (ct_X12_named l ho) [] (okX12.o ho) rfl rfl rfl (gi_V ml_X12_325 im_X12_named sl_X12_named in_X12 kc_X12_named) hd_X12_named rfl ⟨Nat.le_of_ble_eq_true rfl, Nat.le_of_ble_eq_true rfl⟩ rfl (Nat.le_of_ble_eq_true rfl) hl.1 hcs0 hf dX12_tellExcuse_19 (fun r2 h3 H locs hf hw => ?_)
  refine x_istore_n hM hf dX12_tellExcuse_22 rfl hl (by decide) (fun v4 => [(2, .int v4), (1, .int v1), (0, .ref (ad 0))]) (fun _ => rfl) (fun v4 ls hf hl => ?_)
  refine lv_aload_n hM.1 hM.2.1 dX12_tellExcuse_23 rfl (lv_at hl 2 rfl) ?_
  refine gf_X12_priceOf hM hw (okX12.o ho) fl_X12_64 dX12_tellExcuse_24 ?_
  refine lv_iload_n hM.1 hM.2.1 dX12_tellExcuse_27 rfl (lv_at hl 1 rfl) ?_
  refine lv_aload_n hM.1 hM.2.1 dX12_tellExcuse_28 rfl (lv_at hl 2 rfl) ?_
  refine lv_iconst (v := 0) hM.1 hM.2.1 dX12_tellExcuse_29 ic_0 ?_
  refine lv_bipush (v := 99) hM.1 hM.2.1 dX12_tellExcuse_30 (by decide) ?_
  refine x_callVI (rest := [.int v1, .ref (ad 16)]) hM hw (ct_X12_bounded l ho 0 99) [.int 0, .int 99] (okX12.o ho) rfl rfl rfl (gi_V ml_X12_312 im_X12_bounded sl_X12_bounded in_X12 kc_X12_bounded) hd_X12_bounded rfl ⟨Nat.le_of_ble_eq_true rfl, Nat.le_of_ble_eq_true rfl⟩ rfl (Nat.le_of_ble_eq_true rfl) hl.1 hcs0 hf dX12_tellExcuse_32 (fun r5 h6 H locs hf hw => ?_)
  refine x_iast hM hw (okX12.priceOf ho) hf dX12_tellExcuse_35 (fun h7 H locs hf hw => ?_)
  refine lv_aload_n hM.1 hM.2.1 dX12_tellExcuse_36 rfl (lv_at hl 2 rfl) ?_
  refine gf_X12_goodOf hM hw (okX12.o ho) fl_X12_67 dX12_tellExcuse_37 ?_
  refine lv_iload_n hM.1 hM.2.1 dX12_tellExcuse_40 rfl (lv_at hl 1 rfl) ?_
  refine lv_aload_n hM.1 hM.2.1 dX12_tellExcuse_41 rfl (lv_at hl 2 rfl) ?_
  refine lv_iconst (v := 0) hM.1 hM.2.1 dX12_tellExcuse_42 ic_0 ?_
  refine lv_bipush (v := 99) hM.1 hM.2.1 dX12_tellExcuse_43 (by decide) ?_
  refine x_callVI (rest := [.int v1, .ref (ad 17)]) hM hw (ct_X12_bounded l ho 0 99) [.int 0, .int 99] (okX12.o ho) rfl rfl rfl (gi_V ml_X12_312 im_X12_bounded sl_X12_bounded in_X12 kc_X12_bounded) hd_X12_bounded rfl ⟨Nat.le_of_ble_eq_true rfl, Nat.le_of_ble_eq_true rfl⟩ rfl (Nat.le_of_ble_eq_true rfl) hl.1 hcs0 hf dX12_tellExcuse_45 (fun r8 h9 H locs hf hw => ?_)
  refine x_iast hM hw (okX12.goodOf ho) hf dX12_tellExcuse_48 (fun h10 H locs hf hw => ?_)
  refine lv_aload_n hM.1 hM.2.1 dX12_tellExcuse_49 rfl (lv_at hl 2 rfl) ?_
  refine gf_X12_kindOf hM hw (okX12.o ho) fl_X12_70 dX12_tellExcuse_50 ?_
  refine lv_iload_n hM.1 hM.2.1 dX12_tellExcuse_53 rfl (lv_at hl 1 rfl) ?_
  refine lv_aload_n hM.1 hM.2.1 dX12_tellExcuse_54 rfl (lv_at hl 2 rfl) ?_
  refine lv_iconst (v := 0) hM.1 hM.2.1 dX12_tellExcuse_55 ic_0 ?_
  refine lv_bipush (v := 9) hM.1 hM.2.1 dX12_tellExcuse_56 (by decide) ?_
  refine x_callVI (rest := [.int v1, .ref (ad 18)]) hM hw (ct_X12_bounded l ho 0 9) [.int 0, .int 9] (okX12.o ho) rfl rfl rfl (gi_V ml_X12_312 im_X12_bounded sl_X12_bounded in_X12 kc_X12_bounded) hd_X12_bounded rfl ⟨Nat.le_of_ble_eq_true rfl, Nat.le_of_ble_eq_true rfl⟩ rfl (Nat.le_of_ble_eq_true rfl) hl.1 hcs0 hf dX12_tellExcuse_58 (fun r11 h12 H locs hf hw => ?_)
  refine x_iast hM hw (okX12.kindOf ho) hf dX12_tellExcuse_61 (fun h13 H locs hf hw => ?_)
  refine lv_aload_n hM.1 hM.2.1 dX12_tellExcuse_62 rfl (lv_at hl 2 rfl) ?_
  refine gf_X12_strongOf hM hw (okX12.o ho) fl_X12_73 dX12_tellExcuse_63 ?_
  refine lv_iload_n hM.1 hM.2.1 dX12_tellExcuse_66 rfl (lv_at hl 1 rfl) ?_
  refine lv_aload_n hM.1 hM.2.1 dX12_tellExcuse_67 rfl (lv_at hl 2 rfl) ?_
  refine lv_iconst (v := 0) hM.1 hM.2.1 dX12_tellExcuse_68 ic_0 ?_
  refine lv_bipush (v := 99) hM.1 hM.2.1 dX12_tellExcuse_69 (by decide) ?_
  refine x_callVI (rest := [.int v1, .ref (ad 19)]) hM hw (ct_X12_bounded l ho 0 99) [.int 0, .int 99] (okX12.o ho) rfl rfl rfl (gi_V ml_X12_312 im_X12_bounded sl_X12_bounded in_X12 kc_X12_bounded) hd_X12_bounded rfl ⟨Nat.le_of_ble_eq_true rfl, Nat.le_of_ble_eq_true rfl⟩ rfl (Nat.le_of_ble_eq_true rfl) hl.1 hcs0 hf dX12_tellExcuse_71 (fun r14 h15 H locs hf hw => ?_)
  refine x_iast hM hw (okX12.strongOf ho) hf dX12_tellExcuse_74 (fun h16 H locs hf hw => ?_)
  refine lv_aload_n hM.1 hM.2.1 dX12_tellExcuse_75 rfl (lv_at hl 2 rfl) ?_
  refine gf_X12_isOnce hM hw (okX12.o ho) fl_X12_76 dX12_tellExcuse_76 ?_
  refine lv_iload_n hM.1 hM.2.1 dX12_tellExcuse_79 rfl (lv_at hl 1 rfl) ?_
  refine lv_aload_n hM.1 hM.2.1 dX12_tellExcuse_80 rfl (lv_at hl 2 rfl) ?_
  refine gf_X12_fault hM hw (okX12.o ho) fl_X12_236 dX12_tellExcuse_81 ?_
  refine x_if_ne (tgt := 100) hM hf dX12_tellExcuse_84 (by decide) (fun hf => ?_) (fun hf => ?_)
  · refine lv_iconst (v := 0) hM.1 hM.2.1 dX12_tellExcuse_100 ic_0 ?_
    refine x_zast hM hw (okX12.isOnce ho) hf dX12_tellExcuse_101 (fun h17 H locs hf hw => ?_)
    refine lv_aload_n hM.1 hM.2.1 dX12_tellExcuse_102 rfl (lv_at hl 2 rfl) ?_
    refine gf_X12_isOnce hM hw (okX12.o ho) fl_X12_76 dX12_tellExcuse_103 ?_
    refine lv_iload_n hM.1 hM.2.1 dX12_tellExcuse_106 rfl (lv_at hl 1 rfl) ?_
    refine x_zald hM hw (okX12.isOnce ho) hf dX12_tellExcuse_107 (fun hf => ?_)
    refine x_if_eq (tgt := 115) hM hf dX12_tellExcuse_108 (by decide) (fun hf => ?_) (fun hf => ?_)
    · exact w_X12_tellExcuse_j115 hM ho hR hw (lv_sub hl [2, 0] rfl) hf
    refine lv_aload_n hM.1 hM.2.1 dX12_tellExcuse_111 rfl (lv_at hl 2 rfl) ?_
    refine x_callVV (rest := []) hM hw (ct_X12_goesOn l ho) [] (okX12.o ho) rfl rfl rfl (gi_V ml_X12_257 im_X12_goesOn sl_X12_goesOn in_X12 kc_X12_goesOn) hd_X12_goesOn rfl ⟨Nat.le_of_ble_eq_true rfl, Nat.le_of_ble_eq_true rfl⟩ rfl (Nat.le_of_ble_eq_true rfl) hl.1 hcs0 hf dX12_tellExcuse_112 (fun h22 H locs hf hw => ?_)
    exact w_X12_tellExcuse_j115 hM ho hR hw (lv_sub hl [2, 0] rfl) hf
  refine lv_aload_n hM.1 hM.2.1 dX12_tellExcuse_87 rfl (lv_at hl 2 rfl) ?_
  refine lv_bipush (v := 30) hM.1 hM.2.1 dX12_tellExcuse_88 (by decide) ?_
  refine x_callVIr (rest := [.int v1, .ref (ad 20)]) hM hw (ct_X12_is l ho 30) [.int 30] (okX12.o ho) rfl rfl rfl (gi_V ml_X12_254 im_X12_is sl_X12_is in_X12 kc_X12_is) hd_X12_is rfl ⟨Nat.le_of_ble_eq_true rfl, Nat.le_of_ble_eq_true rfl⟩ rfl (Nat.le_of_ble_eq_true rfl) hl.1 hcs0 hf dX12_tellExcuse_90 (fun r23 H locs hf hw => ?_)
  refine x_if_eq (tgt := 100) hM hf dX12_tellExcuse_93 (by decide) (fun hf => ?_) (fun hf => ?_)
  · refine lv_iconst (v := 0) hM.1 hM.2.1 dX12_tellExcuse_100 ic_0 ?_
    refine x_zast hM hw (okX12.isOnce ho) hf dX12_tellExcuse_101 (fun h24 H locs hf hw => ?_)
    refine lv_aload_n hM.1 hM.2.1 dX12_tellExcuse_102 rfl (lv_at hl 2 rfl) ?_
    refine gf_X12_isOnce hM hw (okX12.o ho) fl_X12_76 dX12_tellExcuse_103 ?_
    refine lv_iload_n hM.1 hM.2.1 dX12_tellExcuse_106 rfl (lv_at hl 1 rfl) ?_
    refine x_zald hM hw (okX12.isOnce ho) hf dX12_tellExcuse_107 (fun hf => ?_)
    refine x_if_eq (tgt := 115) hM hf dX12_tellExcuse_108 (by decide) (fun hf => ?_) (fun hf => ?_)
    · exact w_X12_tellExcuse_j115 hM ho hR hw (lv_sub hl [2, 0] rfl) hf
    refine lv_aload_n hM.1 hM.2.1 dX12_tellExcuse_111 rfl (lv_at hl 2 rfl) ?_
    refine x_callVV (rest := []) hM hw (ct_X12_goesOn l ho) [] (okX12.o ho) rfl rfl rfl (gi_V ml_X12_257 im_X12_goesOn sl_X12_goesOn in_X12 kc_X12_goesOn) hd_X12_goesOn rfl ⟨Nat.le_of_ble_eq_true rfl, Nat.le_of_ble_eq_true rfl⟩ rfl (Nat.le_of_ble_eq_true rfl) hl.1 hcs0 hf dX12_tellExcuse_112 (fun h25 H locs hf hw => ?_)
    exact w_X12_tellExcuse_j115 hM ho hR hw (lv_sub hl [2, 0] rfl) hf
  refine lv_iconst (v := 1) hM.1 hM.2.1 dX12_tellExcuse_96 ic_1 ?_
  refine lv_goto (tgt := 101) hM.1 hM.2.1 dX12_tellExcuse_97 (by decide) ?_
  refine x_zast hM hw (okX12.isOnce ho) hf dX12_tellExcuse_101 (fun h26 H locs hf hw => ?_)
  refine lv_aload_n hM.1 hM.2.1 dX12_tellExcuse_102 rfl (lv_at hl 2 rfl) ?_
  refine gf_X12_isOnce hM hw (okX12.o ho) fl_X12_76 dX12_tellExcuse_103 ?_
  refine lv_iload_n hM.1 hM.2.1 dX12_tellExcuse_106 rfl (lv_at hl 1 rfl) ?_
  refine x_zald hM hw (okX12.isOnce ho) hf dX12_tellExcuse_107 (fun hf => ?_)
  refine x_if_eq (tgt := 115) hM hf dX12_tellExcuse_108 (by decide) (fun hf => ?_) (fun hf => ?_)
  · exact w_X12_tellExcuse_j115 hM ho hR hw (lv_sub hl [2, 0] rfl) hf
  refine lv_aload_n hM.1 hM.2.1 dX12_tellExcuse_111 rfl (lv_at hl 2 rfl) ?_
  refine x_callVV (rest := []) hM hw (ct_X12_goesOn l ho) [] (okX12.o ho) rfl rfl rfl (gi_V ml_X12_257 im_X12_goesOn sl_X12_goesOn in_X12 kc_X12_goesOn) hd_X12_goesOn rfl ⟨Nat.le_of_ble_eq_true rfl, Nat.le_of_ble_eq_true rfl⟩ rfl (Nat.le_of_ble_eq_true rfl) hl.1 hcs0 hf dX12_tellExcuse_112 (fun h27 H locs hf hw => ?_)
  exact w_X12_tellExcuse_j115 hM ho hR hw (lv_sub hl [2, 0] rfl) hf
theorem hd_X12_tellExcuse : yX12_tellExcuse.cls = RX12 ∧ yX12_tellExcuse.cls ≠ "java/lang/invoke/MethodHandle" ∧ yX12_tellExcuse.cls ≠ "java/lang/invoke/VarHandle" ∧ (parseMethodDescriptor yX12_tellExcuse.desc).map (fun d => d.parameters.length) = some 0 := ⟨rfl, by decide, by decide, by decide +kernel⟩
theorem dX12_known_0 : decode cX12_known 0 = .ok (.aload_n 0, 1) := by decide +kernel
theorem dX12_known_1 : decode cX12_known 1 = .ok (.getfield 239, 3) := by decide +kernel
theorem dX12_known_4 : decode cX12_known 4 = .ok (.istore_n 2, 1) := by decide +kernel
theorem dX12_known_5 : decode cX12_known 5 = .ok (.aload_n 0, 1) := by decide +kernel
theorem dX12_known_6 : decode cX12_known 6 = .ok (.iconst 1, 1) := by decide +kernel
theorem dX12_known_7 : decode cX12_known 7 = .ok (.invokevirtual 316, 3) := by decide +kernel
theorem dX12_known_10 : decode cX12_known 10 = .ok (.aload_n 0, 1) := by decide +kernel
theorem dX12_known_11 : decode cX12_known 11 = .ok (.getfield 236, 3) := by decide +kernel
theorem dX12_known_14 : decode cX12_known 14 = .ok (.ifCond .le 5, 3) := by decide +kernel
theorem dX12_known_17 : decode cX12_known 17 = .ok (.iconst (-1), 1) := by decide +kernel
theorem dX12_known_18 : decode cX12_known 18 = .ok (.ireturn, 1) := by decide +kernel
theorem dX12_known_19 : decode cX12_known 19 = .ok (.iconst 0, 1) := by decide +kernel
theorem dX12_known_20 : decode cX12_known 20 = .ok (.istore_n 3, 1) := by decide +kernel
theorem dX12_known_21 : decode cX12_known 21 = .ok (.iload_n 3, 1) := by decide +kernel
theorem dX12_known_22 : decode cX12_known 22 = .ok (.aload_n 0, 1) := by decide +kernel
theorem dX12_known_23 : decode cX12_known 23 = .ok (.getfield 272, 3) := by decide +kernel
theorem dX12_known_26 : decode cX12_known 26 = .ok (.if_icmp .ge 42, 3) := by decide +kernel
theorem dX12_known_29 : decode cX12_known 29 = .ok (.aload_n 0, 1) := by decide +kernel
theorem dX12_known_30 : decode cX12_known 30 = .ok (.getfield 40, 3) := by decide +kernel
theorem dX12_known_33 : decode cX12_known 33 = .ok (.iload_n 3, 1) := by decide +kernel
theorem dX12_known_34 : decode cX12_known 34 = .ok (.laload, 1) := by decide +kernel
theorem dX12_known_35 : decode cX12_known 35 = .ok (.aload_n 0, 1) := by decide +kernel
theorem dX12_known_36 : decode cX12_known 36 = .ok (.getfield 30, 3) := by decide +kernel
theorem dX12_known_39 : decode cX12_known 39 = .ok (.iload_n 2, 1) := by decide +kernel
theorem dX12_known_40 : decode cX12_known 40 = .ok (.laload, 1) := by decide +kernel
theorem dX12_known_41 : decode cX12_known 41 = .ok (.lcmp, 1) := by decide +kernel
theorem dX12_known_42 : decode cX12_known 42 = .ok (.ifCond .ne 20, 3) := by decide +kernel
theorem dX12_known_45 : decode cX12_known 45 = .ok (.aload_n 0, 1) := by decide +kernel
theorem dX12_known_46 : decode cX12_known 46 = .ok (.getfield 43, 3) := by decide +kernel
theorem dX12_known_49 : decode cX12_known 49 = .ok (.iload_n 3, 1) := by decide +kernel
theorem dX12_known_50 : decode cX12_known 50 = .ok (.iaload, 1) := by decide +kernel
theorem dX12_known_51 : decode cX12_known 51 = .ok (.iload_n 1, 1) := by decide +kernel
theorem dX12_known_52 : decode cX12_known 52 = .ok (.if_icmp .ne 10, 3) := by decide +kernel
theorem dX12_known_55 : decode cX12_known 55 = .ok (.aload_n 0, 1) := by decide +kernel
theorem dX12_known_56 : decode cX12_known 56 = .ok (.getfield 46, 3) := by decide +kernel
theorem dX12_known_59 : decode cX12_known 59 = .ok (.iload_n 3, 1) := by decide +kernel
theorem dX12_known_60 : decode cX12_known 60 = .ok (.iaload, 1) := by decide +kernel
theorem dX12_known_61 : decode cX12_known 61 = .ok (.ireturn, 1) := by decide +kernel
theorem dX12_known_62 : decode cX12_known 62 = .ok (.iinc 3 1, 3) := by decide +kernel
theorem dX12_known_65 : decode cX12_known 65 = .ok (.goto (-44), 3) := by decide +kernel
theorem dX12_known_68 : decode cX12_known 68 = .ok (.aload_n 0, 1) := by decide +kernel
theorem dX12_known_69 : decode cX12_known 69 = .ok (.iconst 4, 1) := by decide +kernel
theorem dX12_known_70 : decode cX12_known 70 = .ok (.iload_n 2, 1) := by decide +kernel
theorem dX12_known_71 : decode cX12_known 71 = .ok (.invokevirtual 322, 3) := by decide +kernel
theorem dX12_known_74 : decode cX12_known 74 = .ok (.iconst (-1), 1) := by decide +kernel
theorem dX12_known_75 : decode cX12_known 75 = .ok (.ireturn, 1) := by decide +kernel
def c_X12_known_L21b {ρ : Type}  (z1 : Int32) (z2 : Int32) (h : PH) (K1 : Int32 → Option ρ) (K2 : Option ρ) (REC : Int32 → Option ρ) (x3 : Int32) : Option ρ :=
  if (h.1 0 20) ≤ x3 then
    K2
  else
    gd (ixOK x3 27) <|
    gd (ixOK z2 403) <|
    if (lg_cmp (h.2.1 8 x3.toNatClampNeg) (h.2.1 6 z2.toNatClampNeg)) = 0 then
      gd (ixOK x3 27) <|
      if (h.1 9 x3.toNatClampNeg) = z1 then
        K1 x3
      else
        nm (x3 + 1) fun v5 =>
        REC v5
    else
      nm (x3 + 1) fun v4 =>
      REC v4
set_option maxHeartbeats 4000000 in
set_option maxRecDepth 100000 in
theorem w_X12_known_L21b {p0 : Program} {l : Launch} {e : Env} {s : State} {m : MethodId} {args : Array Value} {below : List Frame} {meth : Method} {c : Code} {Q : State → Prop} {D : va_G} {G : GG} {A : Nat → Prop} {H0 : Heap} {ad : Nat → Nat} {lay : List KK} {X : va_W} {ρ : Type} {r0 : ρ} {z1 : Int32} {z2 : Int32} {x3 : Int32} {h : PH} {H : Heap} {locs : List Loc} {ls : Array Slot} {K1 : Int32 → Option ρ} {K2 : Option ρ} {REC : Int32 → Option ρ} (hM : CallFix p0 m c cX12_known 4 s args lw_g RX12) (ho : okX12 lay) (hk1 : ∀ (x3 : Int32), ∀ (H : Heap) (locs : List Loc) (ls : Array Slot), K1 x3 = some r0 → Wd D G A H0 ad lay X h s H locs → lv_has ls 4 [(0, .ref (ad 0)), (3, .int x3)] → W p0 l e (rmN 3 62) s m args below meth c H locs 0 0 Q (F0 m 55 ls [])) (hk2 : ∀ (H : Heap) (locs : List Loc) (ls : Array Slot), K2 = some r0 → Wd D G A H0 ad lay X h s H locs → lv_has ls 4 [(0, .ref (ad 0)), (2, .int z2)] → W p0 l e (rmN 3 62) s m args below meth c H locs 0 0 Q (F0 m 68 ls [])) (hrec : ∀ (x3 : Int32), ∀ (H : Heap) (locs : List Loc) (ls : Array Slot), REC x3 = some r0 → Wd D G A H0 ad lay X h s H locs → lv_has ls 4 [(0, .ref (ad 0)), (1, .int z1), (2, .int z2), (3, .int x3)] → W p0 l e (rmN 3 62) s m args below meth c H locs 0 0 Q (F0 m 21 ls [])) (hw : Wd D G A H0 ad lay X h s H locs) (hl : lv_has ls 4 [(0, .ref (ad 0)), (1, .int z1), (2, .int z2), (3, .int x3)]) (hf : c_X12_known_L21b z1 z2 h K1 K2 REC x3 = some r0) : W p0 l e (rmN 3 62) s m args below meth c H locs 0 0 Q (F0 m 21 ls []) := by
  unfold c_X12_known_L21b at hf
  refine lv_iload_n hM.1 hM.2.1 dX12_known_21 rfl (lv_at hl 3 rfl) ?_
  refine lv_aload_n hM.1 hM.2.1 dX12_known_22 rfl (lv_at hl 0 rfl) ?_
  refine gf_X12_names hM hw (okX12.o ho) fl_X12_272 dX12_known_23 ?_
  refine x_ic_ge (tgt := 68) hM hf dX12_known_26 (by decide) (fun hf => ?_) (fun hf => ?_)
  · exact hk2 _ _ _ hf hw (lv_sub hl [0, 2] rfl)
  refine lv_aload_n hM.1 hM.2.1 dX12_known_29 rfl (lv_at hl 0 rfl) ?_
  refine gf_X12_nameOf hM hw (okX12.o ho) fl_X12_40 dX12_known_30 ?_
  refine lv_iload_n hM.1 hM.2.1 dX12_known_33 rfl (lv_at hl 3 rfl) ?_
  refine x_lald hM hw (okX12.nameOf ho) hf dX12_known_34 (fun hf => ?_)
  refine lv_aload_n hM.1 hM.2.1 dX12_known_35 rfl (lv_at hl 0 rfl) ?_
  refine gf_X12_tName hM hw (okX12.o ho) fl_X12_30 dX12_known_36 ?_
  refine lv_iload_n hM.1 hM.2.1 dX12_known_39 rfl (lv_at hl 2 rfl) ?_
  refine x_lald hM hw (okX12.tName ho) hf dX12_known_40 (fun hf => ?_)
  refine W.lcmp hM.1 hM.2.1 dX12_known_41 ?_
  refine x_if_ne (tgt := 62) hM hf dX12_known_42 (by decide) (fun hf => ?_) (fun hf => ?_)
  · refine x_iinc (k := 3) (d := 1) hM hf dX12_known_62 hl rfl (by decide) (by decide) (fun v4 => [(3, .int v4), (0, .ref (ad 0)), (1, .int z1), (2, .int z2)]) (fun _ => rfl) (fun v4 ls hf hl => ?_)
    refine lv_goto (tgt := 21) hM.1 hM.2.1 dX12_known_65 (by decide) ?_
    exact hrec _ _ _ _ hf hw (lv_sub hl [1, 2, 3, 0] rfl)
  refine lv_aload_n hM.1 hM.2.1 dX12_known_45 rfl (lv_at hl 0 rfl) ?_
  refine gf_X12_nameSort hM hw (okX12.o ho) fl_X12_43 dX12_known_46 ?_
  refine lv_iload_n hM.1 hM.2.1 dX12_known_49 rfl (lv_at hl 3 rfl) ?_
  refine x_iald hM hw (okX12.nameSort ho) hf dX12_known_50 (fun hf => ?_)
  refine lv_iload_n hM.1 hM.2.1 dX12_known_51 rfl (lv_at hl 1 rfl) ?_
  refine x_ic_ne (tgt := 62) hM hf dX12_known_52 (by decide) (fun hf => ?_) (fun hf => ?_)
  · refine x_iinc (k := 3) (d := 1) hM hf dX12_known_62 hl rfl (by decide) (by decide) (fun v5 => [(3, .int v5), (0, .ref (ad 0)), (1, .int z1), (2, .int z2)]) (fun _ => rfl) (fun v5 ls hf hl => ?_)
    refine lv_goto (tgt := 21) hM.1 hM.2.1 dX12_known_65 (by decide) ?_
    exact hrec _ _ _ _ hf hw (lv_sub hl [1, 2, 3, 0] rfl)
  exact hk1 _ _ _ _ hf hw (lv_sub hl [0, 3] rfl)
set_option maxHeartbeats 4000000 in
set_option maxRecDepth 100000 in
theorem w_X12_known_L21 {p0 : Program} {l : Launch} {e : Env} {s : State} {m : MethodId} {args : Array Value} {below : List Frame} {meth : Method} {c : Code} {Q : State → Prop} {D : va_G} {G : GG} {A : Nat → Prop} {H0 : Heap} {ad : Nat → Nat} {lay : List KK} {X : va_W} {ρ : Type} {r0 : ρ} {z1 : Int32} {z2 : Int32} {h : PH} {K1 : Int32 → Option ρ} {K2 : Option ρ} (hM : CallFix p0 m c cX12_known 4 s args lw_g RX12) (ho : okX12 lay) (hk1 : ∀ (x3 : Int32), ∀ (H : Heap) (locs : List Loc) (ls : Array Slot), K1 x3 = some r0 → Wd D G A H0 ad lay X h s H locs → lv_has ls 4 [(0, .ref (ad 0)), (3, .int x3)] → W p0 l e (rmN 3 62) s m args below meth c H locs 0 0 Q (F0 m 55 ls [])) (hk2 : ∀ (H : Heap) (locs : List Loc) (ls : Array Slot), K2 = some r0 → Wd D G A H0 ad lay X h s H locs → lv_has ls 4 [(0, .ref (ad 0)), (2, .int z2)] → W p0 l e (rmN 3 62) s m args below meth c H locs 0 0 Q (F0 m 68 ls [])) (n : Nat) (x3 : Int32) (hf : lq1 (c_X12_known_L21b z1 z2 h K1 K2) n x3 = some r0) : ∀ (H : Heap) (locs : List Loc) (ls : Array Slot), Wd D G A H0 ad lay X h s H locs → lv_has ls 4 [(0, .ref (ad 0)), (1, .int z1), (2, .int z2), (3, .int x3)] → W p0 l e (rmN 3 62) s m args below meth c H locs 0 0 Q (F0 m 21 ls []) := by
  exact lq1_i (fun (x3 : Int32) => ∀ (H : Heap) (locs : List Loc) (ls : Array Slot), Wd D G A H0 ad lay X h s H locs → lv_has ls 4 [(0, .ref (ad 0)), (1, .int z1), (2, .int z2), (3, .int x3)] → W p0 l e (rmN 3 62) s m args below meth c H locs 0 0 Q (F0 m 21 ls [])) (fun REC x3 ih hf H locs ls hw hl => w_X12_known_L21b hM ho hk1 hk2 (fun x3 H locs ls hf hw hl => ih x3 hf H locs ls hw hl) hw hl hf) n x3 hf
def c_X12_known (a1 : Int32) (h : PH) : Option (Int32 × PH) :=
  nm (h.1 0 11) fun v1 =>
  (c_X12_must 1 h).bind fun h2 =>
  if (h2.1 0 13) ≤ 0 then
    nm (0 : Int32) fun v3 =>
    lq1 (c_X12_known_L21b a1 v1 h2
      (fun w6 =>
        gd (ixOK w6 27) <|
        some ((h2.1 10 w6.toNatClampNeg), h2))
      ((c_X12_wrong 4 v1 h2).bind fun h7 =>
      some ((-1), h7))) fu v3
  else
    some ((-1), h2)
set_option maxHeartbeats 4000000 in
set_option maxRecDepth 100000 in
theorem ct_X12_known (l : Launch) {lay : List KK} (ho : okX12 lay) (a1 : Int32) : CtI l yX12_known cX12_known 4 (some .int) 3 62 lay (fun h => c_X12_known a1 h) (fun ad => [.ref (ad 0), .int a1]) := by
  refine CtI.mk' RX12 (by decide) rfl (fun _ => Nat.le_of_ble_eq_true rfl) ?_
  intro p0 e s m args below meth c D G A H0 ad X h r0 H ls Q hM hw hl hf hR
  have hl : lv_has ls 4 [(0, .ref (ad 0)), (1, .int a1)] := hl
  unfold c_X12_known at hf
  refine lv_aload_n hM.1 hM.2.1 dX12_known_0 rfl (lv_at hl 0 rfl) ?_
  refine gf_X12_t hM hw (okX12.o ho) fl_X12_239 dX12_known_1 ?_
  refine x_istore_n hM hf dX12_known_4 rfl hl (by decide) (fun v1 => [(2, .int v1), (0, .ref (ad 0)), (1, .int a1)]) (fun _ => rfl) (fun v1 ls hf hl => ?_)
  refine lv_aload_n hM.1 hM.2.1 dX12_known_5 rfl (lv_at hl 1 rfl) ?_
  refine lv_iconst (v := 1) hM.1 hM.2.1 dX12_known_6 ic_1 ?_
  refine x_callVV (rest := []) hM hw (ct_X12_must l ho 1) [.int 1] (okX12.o ho) rfl rfl rfl (gi_V ml_X12_316 im_X12_must sl_X12_must in_X12 kc_X12_must) hd_X12_must rfl ⟨Nat.le_of_ble_eq_true rfl, Nat.le_of_ble_eq_true rfl⟩ rfl (Nat.le_of_ble_eq_true rfl) hl.1 hcs0 hf dX12_known_7 (fun h2 H locs hf hw => ?_)
  refine lv_aload_n hM.1 hM.2.1 dX12_known_10 rfl (lv_at hl 1 rfl) ?_
  refine gf_X12_fault hM hw (okX12.o ho) fl_X12_236 dX12_known_11 ?_
  refine x_if_le (tgt := 19) hM hf dX12_known_14 (by decide) (fun hf => ?_) (fun hf => ?_)
  · refine lv_iconst (v := 0) hM.1 hM.2.1 dX12_known_19 ic_0 ?_
    refine x_istore_n hM hf dX12_known_20 rfl hl (by decide) (fun v3 => [(3, .int v3), (2, .int v1), (0, .ref (ad 0)), (1, .int a1)]) (fun _ => rfl) (fun v3 ls hf hl => ?_)
    refine w_X12_known_L21 hM ho (fun w6 H locs ls hf hw hl => ?_) (fun H locs ls hf hw hl => ?_) fu _ hf _ _ _ hw (lv_sub hl [2, 3, 1, 0] rfl)
    · refine lv_aload_n hM.1 hM.2.1 dX12_known_55 rfl (lv_at hl 0 rfl) ?_
      refine gf_X12_nameAt hM hw (okX12.o ho) fl_X12_46 dX12_known_56 ?_
      refine lv_iload_n hM.1 hM.2.1 dX12_known_59 rfl (lv_at hl 1 rfl) ?_
      refine x_iald hM hw (okX12.nameAt ho) hf dX12_known_60 (fun hf => ?_)
      exact hR _ _ _ _ _ _ _ (Option.some.inj hf) rfl rfl hw dX12_known_61
    · refine lv_aload_n hM.1 hM.2.1 dX12_known_68 rfl (lv_at hl 0 rfl) ?_
      refine lv_iconst (v := 4) hM.1 hM.2.1 dX12_known_69 ic_4 ?_
      refine lv_iload_n hM.1 hM.2.1 dX12_known_70 rfl (lv_at hl 1 rfl) ?_
      refine x_callVV (rest := []) hM hw (ct_X12_wrong l ho 4 v1) [.int 4, .int v1] (okX12.o ho) rfl rfl rfl (gi_V ml_X12_322 im_X12_wrong sl_X12_wrong in_X12 kc_X12_wrong) hd_X12_wrong rfl ⟨Nat.le_of_ble_eq_true rfl, Nat.le_of_ble_eq_true rfl⟩ rfl (Nat.le_of_ble_eq_true rfl) hl.1 hcs0 hf dX12_known_71 (fun h7 H locs hf hw => ?_)
      refine lv_iconst (v := (-1)) hM.1 hM.2.1 dX12_known_74 ic_m1 ?_
      exact hR _ _ _ _ _ _ _ (Option.some.inj hf) rfl rfl hw dX12_known_75
  refine lv_iconst (v := (-1)) hM.1 hM.2.1 dX12_known_17 ic_m1 ?_
  exact hR _ _ _ _ _ _ _ (Option.some.inj hf) rfl rfl hw dX12_known_18
theorem hd_X12_known : yX12_known.cls = RX12 ∧ yX12_known.cls ≠ "java/lang/invoke/MethodHandle" ∧ yX12_known.cls ≠ "java/lang/invoke/VarHandle" ∧ (parseMethodDescriptor yX12_known.desc).map (fun d => d.parameters.length) = some 1 := ⟨rfl, by decide, by decide, by decide +kernel⟩
theorem dX12_tellDuty_0 : decode cX12_tellDuty 0 = .ok (.bipush 9, 2) := by decide +kernel
theorem dX12_tellDuty_2 : decode cX12_tellDuty 2 = .ok (.aload_n 0, 1) := by decide +kernel
theorem dX12_tellDuty_3 : decode cX12_tellDuty 3 = .ok (.getfield 269, 3) := by decide +kernel
theorem dX12_tellDuty_6 : decode cX12_tellDuty 6 = .ok (.imul, 1) := by decide +kernel
theorem dX12_tellDuty_7 : decode cX12_tellDuty 7 = .ok (.aload_n 0, 1) := by decide +kernel
theorem dX12_tellDuty_8 : decode cX12_tellDuty 8 = .ok (.getfield 80, 3) := by decide +kernel
theorem dX12_tellDuty_11 : decode cX12_tellDuty 11 = .ok (.aload_n 0, 1) := by decide +kernel
theorem dX12_tellDuty_12 : decode cX12_tellDuty 12 = .ok (.getfield 269, 3) := by decide +kernel
theorem dX12_tellDuty_15 : decode cX12_tellDuty 15 = .ok (.iaload, 1) := by decide +kernel
theorem dX12_tellDuty_16 : decode cX12_tellDuty 16 = .ok (.iadd, 1) := by decide +kernel
theorem dX12_tellDuty_17 : decode cX12_tellDuty 17 = .ok (.istore_n 1, 1) := by decide +kernel
theorem dX12_tellDuty_18 : decode cX12_tellDuty 18 = .ok (.aload_n 0, 1) := by decide +kernel
theorem dX12_tellDuty_19 : decode cX12_tellDuty 19 = .ok (.invokevirtual 325, 3) := by decide +kernel
theorem dX12_tellDuty_22 : decode cX12_tellDuty 22 = .ok (.istore_n 2, 1) := by decide +kernel
theorem dX12_tellDuty_23 : decode cX12_tellDuty 23 = .ok (.aload_n 0, 1) := by decide +kernel
theorem dX12_tellDuty_24 : decode cX12_tellDuty 24 = .ok (.getfield 83, 3) := by decide +kernel
theorem dX12_tellDuty_27 : decode cX12_tellDuty 27 = .ok (.iload_n 1, 1) := by decide +kernel
theorem dX12_tellDuty_28 : decode cX12_tellDuty 28 = .ok (.aload_n 0, 1) := by decide +kernel
theorem dX12_tellDuty_29 : decode cX12_tellDuty 29 = .ok (.iconst 0, 1) := by decide +kernel
theorem dX12_tellDuty_30 : decode cX12_tellDuty 30 = .ok (.invokevirtual 333, 3) := by decide +kernel
theorem dX12_tellDuty_33 : decode cX12_tellDuty 33 = .ok (.iastore, 1) := by decide +kernel
theorem dX12_tellDuty_34 : decode cX12_tellDuty 34 = .ok (.aload_n 0, 1) := by decide +kernel
theorem dX12_tellDuty_35 : decode cX12_tellDuty 35 = .ok (.getfield 86, 3) := by decide +kernel
theorem dX12_tellDuty_38 : decode cX12_tellDuty 38 = .ok (.iload_n 1, 1) := by decide +kernel
theorem dX12_tellDuty_39 : decode cX12_tellDuty 39 = .ok (.aload_n 0, 1) := by decide +kernel
theorem dX12_tellDuty_40 : decode cX12_tellDuty 40 = .ok (.iconst 0, 1) := by decide +kernel
theorem dX12_tellDuty_41 : decode cX12_tellDuty 41 = .ok (.bipush 99, 2) := by decide +kernel
theorem dX12_tellDuty_43 : decode cX12_tellDuty 43 = .ok (.invokevirtual 312, 3) := by decide +kernel
theorem dX12_tellDuty_46 : decode cX12_tellDuty 46 = .ok (.iastore, 1) := by decide +kernel
theorem dX12_tellDuty_47 : decode cX12_tellDuty 47 = .ok (.aload_n 0, 1) := by decide +kernel
theorem dX12_tellDuty_48 : decode cX12_tellDuty 48 = .ok (.getfield 89, 3) := by decide +kernel
theorem dX12_tellDuty_51 : decode cX12_tellDuty 51 = .ok (.iload_n 1, 1) := by decide +kernel
theorem dX12_tellDuty_52 : decode cX12_tellDuty 52 = .ok (.aload_n 0, 1) := by decide +kernel
theorem dX12_tellDuty_53 : decode cX12_tellDuty 53 = .ok (.iconst 1, 1) := by decide +kernel
theorem dX12_tellDuty_54 : decode cX12_tellDuty 54 = .ok (.bipush 9, 2) := by decide +kernel
theorem dX12_tellDuty_56 : decode cX12_tellDuty 56 = .ok (.invokevirtual 312, 3) := by decide +kernel
theorem dX12_tellDuty_59 : decode cX12_tellDuty 59 = .ok (.iastore, 1) := by decide +kernel
theorem dX12_tellDuty_60 : decode cX12_tellDuty 60 = .ok (.aload_n 0, 1) := by decide +kernel
theorem dX12_tellDuty_61 : decode cX12_tellDuty 61 = .ok (.iconst 4, 1) := by decide +kernel
theorem dX12_tellDuty_62 : decode cX12_tellDuty 62 = .ok (.invokevirtual 316, 3) := by decide +kernel
theorem dX12_tellDuty_65 : decode cX12_tellDuty 65 = .ok (.aload_n 0, 1) := by decide +kernel
theorem dX12_tellDuty_66 : decode cX12_tellDuty 66 = .ok (.getfield 236, 3) := by decide +kernel
theorem dX12_tellDuty_69 : decode cX12_tellDuty 69 = .ok (.ifCond .le 4, 3) := by decide +kernel
theorem dX12_tellDuty_72 : decode cX12_tellDuty 72 = .ok (.return_, 1) := by decide +kernel
theorem dX12_tellDuty_73 : decode cX12_tellDuty 73 = .ok (.aload_n 0, 1) := by decide +kernel
theorem dX12_tellDuty_74 : decode cX12_tellDuty 74 = .ok (.iload_n 2, 1) := by decide +kernel
theorem dX12_tellDuty_75 : decode cX12_tellDuty 75 = .ok (.iconst 2, 1) := by decide +kernel
theorem dX12_tellDuty_76 : decode cX12_tellDuty 76 = .ok (.aload_n 0, 1) := by decide +kernel
theorem dX12_tellDuty_77 : decode cX12_tellDuty 77 = .ok (.getfield 80, 3) := by decide +kernel
theorem dX12_tellDuty_80 : decode cX12_tellDuty 80 = .ok (.aload_n 0, 1) := by decide +kernel
theorem dX12_tellDuty_81 : decode cX12_tellDuty 81 = .ok (.getfield 269, 3) := by decide +kernel
theorem dX12_tellDuty_84 : decode cX12_tellDuty 84 = .ok (.iaload, 1) := by decide +kernel
theorem dX12_tellDuty_85 : decode cX12_tellDuty 85 = .ok (.invokevirtual 329, 3) := by decide +kernel
theorem dX12_tellDuty_88 : decode cX12_tellDuty 88 = .ok (.aload_n 0, 1) := by decide +kernel
theorem dX12_tellDuty_89 : decode cX12_tellDuty 89 = .ok (.getfield 80, 3) := by decide +kernel
theorem dX12_tellDuty_92 : decode cX12_tellDuty 92 = .ok (.aload_n 0, 1) := by decide +kernel
theorem dX12_tellDuty_93 : decode cX12_tellDuty 93 = .ok (.getfield 269, 3) := by decide +kernel
theorem dX12_tellDuty_96 : decode cX12_tellDuty 96 = .ok (.dup2, 1) := by decide +kernel
theorem dX12_tellDuty_97 : decode cX12_tellDuty 97 = .ok (.iaload, 1) := by decide +kernel
theorem dX12_tellDuty_98 : decode cX12_tellDuty 98 = .ok (.iconst 1, 1) := by decide +kernel
theorem dX12_tellDuty_99 : decode cX12_tellDuty 99 = .ok (.iadd, 1) := by decide +kernel
theorem dX12_tellDuty_100 : decode cX12_tellDuty 100 = .ok (.iastore, 1) := by decide +kernel
theorem dX12_tellDuty_101 : decode cX12_tellDuty 101 = .ok (.return_, 1) := by decide +kernel
def c_X12_tellDuty (h : PH) : Option (PH) :=
  gd (ixOK (h.1 0 19) 2) <|
  nm ((9 * (h.1 0 19)) + (h.1 21 (h.1 0 19).toNatClampNeg)) fun v1 =>
  bind2 (c_X12_named h) fun r2 h3 =>
  nm r2 fun v4 =>
  bind2 (c_X12_known 0 h3) fun r5 h6 =>
  gd (ixOK v1 18) <| nm (setI h6 22 v1.toNatClampNeg r5) fun h7 =>
  bind2 (c_X12_bounded 0 99 h7) fun r8 h9 =>
  gd (ixOK v1 18) <| nm (setI h9 23 v1.toNatClampNeg r8) fun h10 =>
  bind2 (c_X12_bounded 1 9 h10) fun r11 h12 =>
  gd (ixOK v1 18) <| nm (setI h12 24 v1.toNatClampNeg r11) fun h13 =>
  (c_X12_must 4 h13).bind fun h14 =>
  if (h14.1 0 13) ≤ 0 then
    gd (ixOK (h14.1 0 19) 2) <|
    (c_X12_notes v4 2 (h14.1 21 (h14.1 0 19).toNatClampNeg) h14).bind fun h15 =>
    nm (h15.1 0 19) fun v16 =>
    gd (ixOK v16 2) <|
    gd (ixOK v16 2) <| nm (setI h15 21 v16.toNatClampNeg ((h15.1 21 v16.toNatClampNeg) + 1)) fun h17 =>
    some h17
  else
    some h14
set_option maxHeartbeats 4000000 in
set_option maxRecDepth 100000 in
theorem ct_X12_tellDuty (l : Launch) {lay : List KK} (ho : okX12 lay) : CtV l yX12_tellDuty cX12_tellDuty 3 (none) 4 85 lay (fun h => c_X12_tellDuty h) (fun ad => [.ref (ad 0)]) := by
  refine CtV.mk' RX12 (by decide) rfl (fun _ => Nat.le_of_ble_eq_true rfl) ?_
  intro p0 e s m args below meth c D G A H0 ad X h r0 H ls Q hM hw hl hf hR
  have hl : lv_has ls 3 [(0, .ref (ad 0))] := hl
  unfold c_X12_tellDuty at hf
  refine lv_bipush (v := 9) hM.1 hM.2.1 dX12_tellDuty_0 (by decide) ?_
  refine lv_aload_n hM.1 hM.2.1 dX12_tellDuty_2 rfl (lv_at hl 0 rfl) ?_
  refine gf_X12_side hM hw (okX12.o ho) fl_X12_269 dX12_tellDuty_3 ?_
  refine lv_imul hM.1 hM.2.1 dX12_tellDuty_6 ?_
  refine lv_aload_n hM.1 hM.2.1 dX12_tellDuty_7 rfl (lv_at hl 0 rfl) ?_
  refine gf_X12_duties hM hw (okX12.o ho) fl_X12_80 dX12_tellDuty_8 ?_
  refine lv_aload_n hM.1 hM.2.1 dX12_tellDuty_11 rfl (lv_at hl 0 rfl) ?_
  refine gf_X12_side hM hw (okX12.o ho) fl_X12_269 dX12_tellDuty_12 ?_
  refine x_iald hM hw (okX12.duties ho) hf dX12_tellDuty_15 (fun hf => ?_)
  refine lv_iadd hM.1 hM.2.1 dX12_tellDuty_16 ?_
  refine x_istore_n hM hf dX12_tellDuty_17 rfl hl (by decide) (fun v1 => [(1, .int v1), (0, .ref (ad 0))]) (fun _ => rfl) (fun v1 ls hf hl => ?_)
  refine lv_aload_n hM.1 hM.2.1 dX12_tellDuty_18 rfl (lv_at hl 1 rfl) ?_
  refine x_callVI (rest := []) hM hw (ct_X12_named l ho) [] (okX12.o ho) rfl rfl rfl (gi_V ml_X12_325 im_X12_named sl_X12_named in_X12 kc_X12_named) hd_X12_named rfl ⟨Nat.le_of_ble_eq_true rfl, Nat.le_of_ble_eq_true rfl⟩ rfl (Nat.le_of_ble_eq_true rfl) hl.1 hcs0 hf dX12_tellDuty_19 (fun r2 h3 H locs hf hw => ?_)
  refine x_istore_n hM hf dX12_tellDuty_22 rfl hl (by decide) (fun v4 => [(2, .int v4), (1, .int v1), (0, .ref (ad 0))]) (fun _ => rfl) (fun v4 ls hf hl => ?_)
  refine lv_aload_n hM.1 hM.2.1 dX12_tellDuty_23 rfl (lv_at hl 2 rfl) ?_
  refine gf_X12_dutyMan hM hw (okX12.o ho) fl_X12_83 dX12_tellDuty_24 ?_
  refine lv_iload_n hM.1 hM.2.1 dX12_tellDuty_27 rfl (lv_at hl 1 rfl) ?_
  refine lv_aload_n hM.1 hM.2.1 dX12_tellDuty_28 rfl (lv_at hl 2 rfl) ?_
  refine lv_iconst (v := 0) hM.1 hM.2.1 dX12_tellDuty_29 ic_0 ?_
  refine x_callVI (rest := [.int v1, .ref (ad 22)]) hM hw (ct_X12_known l ho 0) [.int 0] (okX12.o ho) rfl rfl rfl (gi_V ml_X12_333 im_X12_known sl_X12_known in_X12 kc_X12_known) hd_X12_known rfl ⟨Nat.le_of_ble_eq_true rfl, Nat.le_of_ble_eq_true rfl⟩ rfl (Nat.le_of_ble_eq_true rfl) hl.1 hcs0 hf dX12_tellDuty_30 (fun r5 h6 H locs hf hw => ?_)
  refine x_iast hM hw (okX12.dutyMan ho) hf dX12_tellDuty_33 (fun h7 H locs hf hw => ?_)
  refine lv_aload_n hM.1 hM.2.1 dX12_tellDuty_34 rfl (lv_at hl 2 rfl) ?_
  refine gf_X12_dutyDay hM hw (okX12.o ho) fl_X12_86 dX12_tellDuty_35 ?_
  refine lv_iload_n hM.1 hM.2.1 dX12_tellDuty_38 rfl (lv_at hl 1 rfl) ?_
  refine lv_aload_n hM.1 hM.2.1 dX12_tellDuty_39 rfl (lv_at hl 2 rfl) ?_
  refine lv_iconst (v := 0) hM.1 hM.2.1 dX12_tellDuty_40 ic_0 ?_
  refine lv_bipush (v := 99) hM.1 hM.2.1 dX12_tellDuty_41 (by decide) ?_
  refine x_callVI (rest := [.int v1, .ref (ad 23)]) hM hw (ct_X12_bounded l ho 0 99) [.int 0, .int 99] (okX12.o ho) rfl rfl rfl (gi_V ml_X12_312 im_X12_bounded sl_X12_bounded in_X12 kc_X12_bounded) hd_X12_bounded rfl ⟨Nat.le_of_ble_eq_true rfl, Nat.le_of_ble_eq_true rfl⟩ rfl (Nat.le_of_ble_eq_true rfl) hl.1 hcs0 hf dX12_tellDuty_43 (fun r8 h9 H locs hf hw => ?_)
  refine x_iast hM hw (okX12.dutyDay ho) hf dX12_tellDuty_46 (fun h10 H locs hf hw => ?_)
  refine lv_aload_n hM.1 hM.2.1 dX12_tellDuty_47 rfl (lv_at hl 2 rfl) ?_
  refine gf_X12_dutyHours hM hw (okX12.o ho) fl_X12_89 dX12_tellDuty_48 ?_
  refine lv_iload_n hM.1 hM.2.1 dX12_tellDuty_51 rfl (lv_at hl 1 rfl) ?_
  refine lv_aload_n hM.1 hM.2.1 dX12_tellDuty_52 rfl (lv_at hl 2 rfl) ?_
  refine lv_iconst (v := 1) hM.1 hM.2.1 dX12_tellDuty_53 ic_1 ?_
  refine lv_bipush (v := 9) hM.1 hM.2.1 dX12_tellDuty_54 (by decide) ?_
  refine x_callVI (rest := [.int v1, .ref (ad 24)]) hM hw (ct_X12_bounded l ho 1 9) [.int 1, .int 9] (okX12.o ho) rfl rfl rfl (gi_V ml_X12_312 im_X12_bounded sl_X12_bounded in_X12 kc_X12_bounded) hd_X12_bounded rfl ⟨Nat.le_of_ble_eq_true rfl, Nat.le_of_ble_eq_true rfl⟩ rfl (Nat.le_of_ble_eq_true rfl) hl.1 hcs0 hf dX12_tellDuty_56 (fun r11 h12 H locs hf hw => ?_)
  refine x_iast hM hw (okX12.dutyHours ho) hf dX12_tellDuty_59 (fun h13 H locs hf hw => ?_)
  refine lv_aload_n hM.1 hM.2.1 dX12_tellDuty_60 rfl (lv_at hl 2 rfl) ?_
  refine lv_iconst (v := 4) hM.1 hM.2.1 dX12_tellDuty_61 ic_4 ?_
  refine x_callVV (rest := []) hM hw (ct_X12_must l ho 4) [.int 4] (okX12.o ho) rfl rfl rfl (gi_V ml_X12_316 im_X12_must sl_X12_must in_X12 kc_X12_must) hd_X12_must rfl ⟨Nat.le_of_ble_eq_true rfl, Nat.le_of_ble_eq_true rfl⟩ rfl (Nat.le_of_ble_eq_true rfl) hl.1 hcs0 hf dX12_tellDuty_62 (fun h14 H locs hf hw => ?_)
  refine lv_aload_n hM.1 hM.2.1 dX12_tellDuty_65 rfl (lv_at hl 2 rfl) ?_
  refine gf_X12_fault hM hw (okX12.o ho) fl_X12_236 dX12_tellDuty_66 ?_
  refine x_if_le (tgt := 73) hM hf dX12_tellDuty_69 (by decide) (fun hf => ?_) (fun hf => ?_)
  · refine lv_aload_n hM.1 hM.2.1 dX12_tellDuty_73 rfl (lv_at hl 2 rfl) ?_
    refine lv_iload_n hM.1 hM.2.1 dX12_tellDuty_74 rfl (lv_at hl 0 rfl) ?_
    refine lv_iconst (v := 2) hM.1 hM.2.1 dX12_tellDuty_75 ic_2 ?_
    refine lv_aload_n hM.1 hM.2.1 dX12_tellDuty_76 rfl (lv_at hl 2 rfl) ?_
    refine gf_X12_duties hM hw (okX12.o ho) fl_X12_80 dX12_tellDuty_77 ?_
    refine lv_aload_n hM.1 hM.2.1 dX12_tellDuty_80 rfl (lv_at hl 2 rfl) ?_
    refine gf_X12_side hM hw (okX12.o ho) fl_X12_269 dX12_tellDuty_81 ?_
    refine x_iald hM hw (okX12.duties ho) hf dX12_tellDuty_84 (fun hf => ?_)
    refine x_callVV (rest := []) hM hw (ct_X12_notes l ho v4 2 (h14.1 21 (h14.1 0 19).toNatClampNeg)) [.int v4, .int 2, .int (h14.1 21 (h14.1 0 19).toNatClampNeg)] (okX12.o ho) rfl rfl rfl (gi_V ml_X12_329 im_X12_notes sl_X12_notes in_X12 kc_X12_notes) hd_X12_notes rfl ⟨Nat.le_of_ble_eq_true rfl, Nat.le_of_ble_eq_true rfl⟩ rfl (Nat.le_of_ble_eq_true rfl) hl.1 hcs0 hf dX12_tellDuty_85 (fun h15 H locs hf hw => ?_)
    refine lv_aload_n hM.1 hM.2.1 dX12_tellDuty_88 rfl (lv_at hl 2 rfl) ?_
    refine gf_X12_duties hM hw (okX12.o ho) fl_X12_80 dX12_tellDuty_89 ?_
    refine lv_aload_n hM.1 hM.2.1 dX12_tellDuty_92 rfl (lv_at hl 2 rfl) ?_
    refine gf_X12_side hM hw (okX12.o ho) fl_X12_269 dX12_tellDuty_93 ?_
    refine x_nmi hf (fun v16 hf => ?_)
    refine lv_dup2_11 hM.1 hM.2.1 dX12_tellDuty_96 rfl rfl ?_
    refine x_iald hM hw (okX12.duties ho) hf dX12_tellDuty_97 (fun hf => ?_)
    refine lv_iconst (v := 1) hM.1 hM.2.1 dX12_tellDuty_98 ic_1 ?_
    refine lv_iadd hM.1 hM.2.1 dX12_tellDuty_99 ?_
    refine x_iast hM hw (okX12.duties ho) hf dX12_tellDuty_100 (fun h17 H locs hf hw => ?_)
    exact hR _ _ _ _ _ (Option.some.inj hf) rfl hw dX12_tellDuty_101
  exact hR _ _ _ _ _ (Option.some.inj hf) rfl hw dX12_tellDuty_72
theorem hd_X12_tellDuty : yX12_tellDuty.cls = RX12 ∧ yX12_tellDuty.cls ≠ "java/lang/invoke/MethodHandle" ∧ yX12_tellDuty.cls ≠ "java/lang/invoke/VarHandle" ∧ (parseMethodDescriptor yX12_tellDuty.desc).map (fun d => d.parameters.length) = some 0 := ⟨rfl, by decide, by decide, by decide +kernel⟩
theorem dX12_tellKnows_0 : decode cX12_tellKnows 0 = .ok (.aload_n 0, 1) := by decide +kernel
theorem dX12_tellKnows_1 : decode cX12_tellKnows 1 = .ok (.iconst 0, 1) := by decide +kernel
theorem dX12_tellKnows_2 : decode cX12_tellKnows 2 = .ok (.invokevirtual 333, 3) := by decide +kernel
theorem dX12_tellKnows_5 : decode cX12_tellKnows 5 = .ok (.istore_n 1, 1) := by decide +kernel
theorem dX12_tellKnows_6 : decode cX12_tellKnows 6 = .ok (.aload_n 0, 1) := by decide +kernel
theorem dX12_tellKnows_7 : decode cX12_tellKnows 7 = .ok (.getfield 239, 3) := by decide +kernel
theorem dX12_tellKnows_10 : decode cX12_tellKnows 10 = .ok (.istore_n 2, 1) := by decide +kernel
theorem dX12_tellKnows_11 : decode cX12_tellKnows 11 = .ok (.aload_n 0, 1) := by decide +kernel
theorem dX12_tellKnows_12 : decode cX12_tellKnows 12 = .ok (.iconst 0, 1) := by decide +kernel
theorem dX12_tellKnows_13 : decode cX12_tellKnows 13 = .ok (.invokevirtual 333, 3) := by decide +kernel
theorem dX12_tellKnows_16 : decode cX12_tellKnows 16 = .ok (.istore_n 3, 1) := by decide +kernel
theorem dX12_tellKnows_17 : decode cX12_tellKnows 17 = .ok (.aload_n 0, 1) := by decide +kernel
theorem dX12_tellKnows_18 : decode cX12_tellKnows 18 = .ok (.getfield 236, 3) := by decide +kernel
theorem dX12_tellKnows_21 : decode cX12_tellKnows 21 = .ok (.ifCond .ne 18, 3) := by decide +kernel
theorem dX12_tellKnows_24 : decode cX12_tellKnows 24 = .ok (.iload_n 1, 1) := by decide +kernel
theorem dX12_tellKnows_25 : decode cX12_tellKnows 25 = .ok (.ifCond .lt 14, 3) := by decide +kernel
theorem dX12_tellKnows_28 : decode cX12_tellKnows 28 = .ok (.iload_n 1, 1) := by decide +kernel
theorem dX12_tellKnows_29 : decode cX12_tellKnows 29 = .ok (.iload_n 3, 1) := by decide +kernel
theorem dX12_tellKnows_30 : decode cX12_tellKnows 30 = .ok (.if_icmp .ne 9, 3) := by decide +kernel
theorem dX12_tellKnows_33 : decode cX12_tellKnows 33 = .ok (.aload_n 0, 1) := by decide +kernel
theorem dX12_tellKnows_34 : decode cX12_tellKnows 34 = .ok (.iconst 3, 1) := by decide +kernel
theorem dX12_tellKnows_35 : decode cX12_tellKnows 35 = .ok (.iload_n 2, 1) := by decide +kernel
theorem dX12_tellKnows_36 : decode cX12_tellKnows 36 = .ok (.invokevirtual 322, 3) := by decide +kernel
theorem dX12_tellKnows_39 : decode cX12_tellKnows 39 = .ok (.aload_n 0, 1) := by decide +kernel
theorem dX12_tellKnows_40 : decode cX12_tellKnows 40 = .ok (.iconst 4, 1) := by decide +kernel
theorem dX12_tellKnows_41 : decode cX12_tellKnows 41 = .ok (.invokevirtual 316, 3) := by decide +kernel
theorem dX12_tellKnows_44 : decode cX12_tellKnows 44 = .ok (.aload_n 0, 1) := by decide +kernel
theorem dX12_tellKnows_45 : decode cX12_tellKnows 45 = .ok (.getfield 236, 3) := by decide +kernel
theorem dX12_tellKnows_48 : decode cX12_tellKnows 48 = .ok (.ifCond .le 4, 3) := by decide +kernel
theorem dX12_tellKnows_51 : decode cX12_tellKnows 51 = .ok (.return_, 1) := by decide +kernel
theorem dX12_tellKnows_52 : decode cX12_tellKnows 52 = .ok (.aload_n 0, 1) := by decide +kernel
theorem dX12_tellKnows_53 : decode cX12_tellKnows 53 = .ok (.getfield 92, 3) := by decide +kernel
theorem dX12_tellKnows_56 : decode cX12_tellKnows 56 = .ok (.aload_n 0, 1) := by decide +kernel
theorem dX12_tellKnows_57 : decode cX12_tellKnows 57 = .ok (.getfield 269, 3) := by decide +kernel
theorem dX12_tellKnows_60 : decode cX12_tellKnows 60 = .ok (.dup2, 1) := by decide +kernel
theorem dX12_tellKnows_61 : decode cX12_tellKnows 61 = .ok (.iaload, 1) := by decide +kernel
theorem dX12_tellKnows_62 : decode cX12_tellKnows 62 = .ok (.iconst 1, 1) := by decide +kernel
theorem dX12_tellKnows_63 : decode cX12_tellKnows 63 = .ok (.iadd, 1) := by decide +kernel
theorem dX12_tellKnows_64 : decode cX12_tellKnows 64 = .ok (.iastore, 1) := by decide +kernel
theorem dX12_tellKnows_65 : decode cX12_tellKnows 65 = .ok (.iload_n 1, 1) := by decide +kernel
theorem dX12_tellKnows_66 : decode cX12_tellKnows 66 = .ok (.ifCond .lt 7, 3) := by decide +kernel
theorem dX12_tellKnows_69 : decode cX12_tellKnows 69 = .ok (.iload_n 3, 1) := by decide +kernel
theorem dX12_tellKnows_70 : decode cX12_tellKnows 70 = .ok (.ifCond .ge 4, 3) := by decide +kernel
theorem dX12_tellKnows_73 : decode cX12_tellKnows 73 = .ok (.return_, 1) := by decide +kernel
theorem dX12_tellKnows_74 : decode cX12_tellKnows 74 = .ok (.aload_n 0, 1) := by decide +kernel
theorem dX12_tellKnows_75 : decode cX12_tellKnows 75 = .ok (.getfield 58, 3) := by decide +kernel
theorem dX12_tellKnows_78 : decode cX12_tellKnows 78 = .ok (.iconst 5, 1) := by decide +kernel
theorem dX12_tellKnows_79 : decode cX12_tellKnows 79 = .ok (.aload_n 0, 1) := by decide +kernel
theorem dX12_tellKnows_80 : decode cX12_tellKnows 80 = .ok (.getfield 269, 3) := by decide +kernel
theorem dX12_tellKnows_83 : decode cX12_tellKnows 83 = .ok (.imul, 1) := by decide +kernel
theorem dX12_tellKnows_84 : decode cX12_tellKnows 84 = .ok (.iload_n 1, 1) := by decide +kernel
theorem dX12_tellKnows_85 : decode cX12_tellKnows 85 = .ok (.iadd, 1) := by decide +kernel
theorem dX12_tellKnows_86 : decode cX12_tellKnows 86 = .ok (.dup2, 1) := by decide +kernel
theorem dX12_tellKnows_87 : decode cX12_tellKnows 87 = .ok (.iaload, 1) := by decide +kernel
theorem dX12_tellKnows_88 : decode cX12_tellKnows 88 = .ok (.iconst 1, 1) := by decide +kernel
theorem dX12_tellKnows_89 : decode cX12_tellKnows 89 = .ok (.iload_n 3, 1) := by decide +kernel
theorem dX12_tellKnows_90 : decode cX12_tellKnows 90 = .ok (.ishl, 1) := by decide +kernel
theorem dX12_tellKnows_91 : decode cX12_tellKnows 91 = .ok (.ior, 1) := by decide +kernel
theorem dX12_tellKnows_92 : decode cX12_tellKnows 92 = .ok (.iastore, 1) := by decide +kernel
theorem dX12_tellKnows_93 : decode cX12_tellKnows 93 = .ok (.aload_n 0, 1) := by decide +kernel
theorem dX12_tellKnows_94 : decode cX12_tellKnows 94 = .ok (.getfield 58, 3) := by decide +kernel
theorem dX12_tellKnows_97 : decode cX12_tellKnows 97 = .ok (.iconst 5, 1) := by decide +kernel
theorem dX12_tellKnows_98 : decode cX12_tellKnows 98 = .ok (.aload_n 0, 1) := by decide +kernel
theorem dX12_tellKnows_99 : decode cX12_tellKnows 99 = .ok (.getfield 269, 3) := by decide +kernel
theorem dX12_tellKnows_102 : decode cX12_tellKnows 102 = .ok (.imul, 1) := by decide +kernel
theorem dX12_tellKnows_103 : decode cX12_tellKnows 103 = .ok (.iload_n 3, 1) := by decide +kernel
theorem dX12_tellKnows_104 : decode cX12_tellKnows 104 = .ok (.iadd, 1) := by decide +kernel
theorem dX12_tellKnows_105 : decode cX12_tellKnows 105 = .ok (.dup2, 1) := by decide +kernel
theorem dX12_tellKnows_106 : decode cX12_tellKnows 106 = .ok (.iaload, 1) := by decide +kernel
theorem dX12_tellKnows_107 : decode cX12_tellKnows 107 = .ok (.iconst 1, 1) := by decide +kernel
theorem dX12_tellKnows_108 : decode cX12_tellKnows 108 = .ok (.iload_n 1, 1) := by decide +kernel
theorem dX12_tellKnows_109 : decode cX12_tellKnows 109 = .ok (.ishl, 1) := by decide +kernel
theorem dX12_tellKnows_110 : decode cX12_tellKnows 110 = .ok (.ior, 1) := by decide +kernel
theorem dX12_tellKnows_111 : decode cX12_tellKnows 111 = .ok (.iastore, 1) := by decide +kernel
theorem dX12_tellKnows_112 : decode cX12_tellKnows 112 = .ok (.return_, 1) := by decide +kernel
def c_X12_tellKnows_j39  (x1 : Int32) (x3 : Int32) (h : PH) : Option (PH) :=
  (c_X12_must 4 h).bind fun h8 =>
  if (h8.1 0 13) ≤ 0 then
    nm (h8.1 0 19) fun v9 =>
    gd (ixOK v9 2) <|
    gd (ixOK v9 2) <| nm (setI h8 25 v9.toNatClampNeg ((h8.1 25 v9.toNatClampNeg) + 1)) fun h10 =>
    if x1 < 0 then
      some h10
    else
      if 0 ≤ x3 then
        nm ((5 * (h10.1 0 19)) + x1) fun v11 =>
        gd (ixOK v11 10) <|
        gd (ixOK v11 10) <| nm (setI h10 14 v11.toNatClampNeg ((h10.1 14 v11.toNatClampNeg) ||| ((1 : Int32) <<< (x3 &&& 31)))) fun h12 =>
        nm ((5 * (h12.1 0 19)) + x3) fun v13 =>
        gd (ixOK v13 10) <|
        gd (ixOK v13 10) <| nm (setI h12 14 v13.toNatClampNeg ((h12.1 14 v13.toNatClampNeg) ||| ((1 : Int32) <<< (x1 &&& 31)))) fun h14 =>
        some h14
      else
        some h10
  else
    some h8
set_option maxHeartbeats 4000000 in
set_option maxRecDepth 100000 in
theorem w_X12_tellKnows_j39 {p0 : Program} {l : Launch} {e : Env} {s : State} {m : MethodId} {args : Array Value} {below : List Frame} {meth : Method} {c : Code} {Q : State → Prop} {D : va_G} {G : GG} {A : Nat → Prop} {H0 : Heap} {ad : Nat → Nat} {lay : List KK} {X : va_W} {r0 : PH} {x1 : Int32} {x3 : Int32} {h : PH} {H : Heap} {locs : List Loc} {ls : Array Slot} (hM : CallFix p0 m c cX12_tellKnows 4 s args lw_g RX12) (ho : okX12 lay) (hR : RtV p0 l e (rmN 4 85) s m args below meth c cX12_tellKnows D G A H0 ad lay X (none) r0 Q 0 0) (hw : Wd D G A H0 ad lay X h s H locs) (hl : lv_has ls 4 [(0, .ref (ad 0)), (1, .int x1), (3, .int x3)]) (hf : c_X12_tellKnows_j39 x1 x3 h = some r0) : W p0 l e (rmN 4 85) s m args below meth c H locs 0 0 Q (F0 m 39 ls []) := by
  unfold c_X12_tellKnows_j39 at hf
  refine lv_aload_n hM.1 hM.2.1 dX12_tellKnows_39 rfl (lv_at hl 0 rfl) ?_
  refine lv_iconst (v := 4) hM.1 hM.2.1 dX12_tellKnows_40 ic_4 ?_
  refine x_callVV (rest := []) hM hw (ct_X12_must l ho 4) [.int 4] (okX12.o ho) rfl rfl rfl (gi_V ml_X12_316 im_X12_must sl_X12_must in_X12 kc_X12_must) hd_X12_must rfl ⟨Nat.le_of_ble_eq_true rfl, Nat.le_of_ble_eq_true rfl⟩ rfl (Nat.le_of_ble_eq_true rfl) hl.1 hcs0 hf dX12_tellKnows_41 (fun h8 H locs hf hw => ?_)
  refine lv_aload_n hM.1 hM.2.1 dX12_tellKnows_44 rfl (lv_at hl 0 rfl) ?_
  refine gf_X12_fault hM hw (okX12.o ho) fl_X12_236 dX12_tellKnows_45 ?_
  refine x_if_le (tgt := 52) hM hf dX12_tellKnows_48 (by decide) (fun hf => ?_) (fun hf => ?_)
  · refine lv_aload_n hM.1 hM.2.1 dX12_tellKnows_52 rfl (lv_at hl 0 rfl) ?_
    refine gf_X12_pairs hM hw (okX12.o ho) fl_X12_92 dX12_tellKnows_53 ?_
    refine lv_aload_n hM.1 hM.2.1 dX12_tellKnows_56 rfl (lv_at hl 0 rfl) ?_
    refine gf_X12_side hM hw (okX12.o ho) fl_X12_269 dX12_tellKnows_57 ?_
    refine x_nmi hf (fun v9 hf => ?_)
    refine lv_dup2_11 hM.1 hM.2.1 dX12_tellKnows_60 rfl rfl ?_
    refine x_iald hM hw (okX12.pairs ho) hf dX12_tellKnows_61 (fun hf => ?_)
    refine lv_iconst (v := 1) hM.1 hM.2.1 dX12_tellKnows_62 ic_1 ?_
    refine lv_iadd hM.1 hM.2.1 dX12_tellKnows_63 ?_
    refine x_iast hM hw (okX12.pairs ho) hf dX12_tellKnows_64 (fun h10 H locs hf hw => ?_)
    refine lv_iload_n hM.1 hM.2.1 dX12_tellKnows_65 rfl (lv_at hl 1 rfl) ?_
    refine x_if_lt (tgt := 73) hM hf dX12_tellKnows_66 (by decide) (fun hf => ?_) (fun hf => ?_)
    · exact hR _ _ _ _ _ (Option.some.inj hf) rfl hw dX12_tellKnows_73
    refine lv_iload_n hM.1 hM.2.1 dX12_tellKnows_69 rfl (lv_at hl 2 rfl) ?_
    refine x_if_ge (tgt := 74) hM hf dX12_tellKnows_70 (by decide) (fun hf => ?_) (fun hf => ?_)
    · refine lv_aload_n hM.1 hM.2.1 dX12_tellKnows_74 rfl (lv_at hl 0 rfl) ?_
      refine gf_X12_knowing hM hw (okX12.o ho) fl_X12_58 dX12_tellKnows_75 ?_
      refine lv_iconst (v := 5) hM.1 hM.2.1 dX12_tellKnows_78 ic_5 ?_
      refine lv_aload_n hM.1 hM.2.1 dX12_tellKnows_79 rfl (lv_at hl 0 rfl) ?_
      refine gf_X12_side hM hw (okX12.o ho) fl_X12_269 dX12_tellKnows_80 ?_
      refine lv_imul hM.1 hM.2.1 dX12_tellKnows_83 ?_
      refine lv_iload_n hM.1 hM.2.1 dX12_tellKnows_84 rfl (lv_at hl 1 rfl) ?_
      refine lv_iadd hM.1 hM.2.1 dX12_tellKnows_85 ?_
      refine x_nmi hf (fun v11 hf => ?_)
      refine lv_dup2_11 hM.1 hM.2.1 dX12_tellKnows_86 rfl rfl ?_
      refine x_iald hM hw (okX12.knowing ho) hf dX12_tellKnows_87 (fun hf => ?_)
      refine lv_iconst (v := 1) hM.1 hM.2.1 dX12_tellKnows_88 ic_1 ?_
      refine lv_iload_n hM.1 hM.2.1 dX12_tellKnows_89 rfl (lv_at hl 2 rfl) ?_
      refine lv_ishl hM.1 hM.2.1 dX12_tellKnows_90 ?_
      refine lv_ior hM.1 hM.2.1 dX12_tellKnows_91 ?_
      refine x_iast hM hw (okX12.knowing ho) hf dX12_tellKnows_92 (fun h12 H locs hf hw => ?_)
      refine lv_aload_n hM.1 hM.2.1 dX12_tellKnows_93 rfl (lv_at hl 0 rfl) ?_
      refine gf_X12_knowing hM hw (okX12.o ho) fl_X12_58 dX12_tellKnows_94 ?_
      refine lv_iconst (v := 5) hM.1 hM.2.1 dX12_tellKnows_97 ic_5 ?_
      refine lv_aload_n hM.1 hM.2.1 dX12_tellKnows_98 rfl (lv_at hl 0 rfl) ?_
      refine gf_X12_side hM hw (okX12.o ho) fl_X12_269 dX12_tellKnows_99 ?_
      refine lv_imul hM.1 hM.2.1 dX12_tellKnows_102 ?_
      refine lv_iload_n hM.1 hM.2.1 dX12_tellKnows_103 rfl (lv_at hl 2 rfl) ?_
      refine lv_iadd hM.1 hM.2.1 dX12_tellKnows_104 ?_
      refine x_nmi hf (fun v13 hf => ?_)
      refine lv_dup2_11 hM.1 hM.2.1 dX12_tellKnows_105 rfl rfl ?_
      refine x_iald hM hw (okX12.knowing ho) hf dX12_tellKnows_106 (fun hf => ?_)
      refine lv_iconst (v := 1) hM.1 hM.2.1 dX12_tellKnows_107 ic_1 ?_
      refine lv_iload_n hM.1 hM.2.1 dX12_tellKnows_108 rfl (lv_at hl 1 rfl) ?_
      refine lv_ishl hM.1 hM.2.1 dX12_tellKnows_109 ?_
      refine lv_ior hM.1 hM.2.1 dX12_tellKnows_110 ?_
      refine x_iast hM hw (okX12.knowing ho) hf dX12_tellKnows_111 (fun h14 H locs hf hw => ?_)
      exact hR _ _ _ _ _ (Option.some.inj hf) rfl hw dX12_tellKnows_112
    exact hR _ _ _ _ _ (Option.some.inj hf) rfl hw dX12_tellKnows_73
  exact hR _ _ _ _ _ (Option.some.inj hf) rfl hw dX12_tellKnows_51
def c_X12_tellKnows (h : PH) : Option (PH) :=
  bind2 (c_X12_known 0 h) fun r1 h2 =>
  nm r1 fun v3 =>
  nm (h2.1 0 11) fun v4 =>
  bind2 (c_X12_known 0 h2) fun r5 h6 =>
  nm r5 fun v7 =>
  if (h6.1 0 13) = 0 then
    if v3 < 0 then
      c_X12_tellKnows_j39 v3 v7 h6
    else
      if v3 = v7 then
        (c_X12_wrong 3 v4 h6).bind fun h15 =>
        c_X12_tellKnows_j39 v3 v7 h15
      else
        c_X12_tellKnows_j39 v3 v7 h6
  else
    c_X12_tellKnows_j39 v3 v7 h6
set_option maxHeartbeats 4000000 in
set_option maxRecDepth 100000 in
theorem ct_X12_tellKnows (l : Launch) {lay : List KK} (ho : okX12 lay) : CtV l yX12_tellKnows cX12_tellKnows 4 (none) 4 85 lay (fun h => c_X12_tellKnows h) (fun ad => [.ref (ad 0)]) := by
  refine CtV.mk' RX12 (by decide) rfl (fun _ => Nat.le_of_ble_eq_true rfl) ?_
  intro p0 e s m args below meth c D G A H0 ad X h r0 H ls Q hM hw hl hf hR
  have hl : lv_has ls 4 [(0, .ref (ad 0))] := hl
  unfold c_X12_tellKnows at hf
  refine lv_aload_n hM.1 hM.2.1 dX12_tellKnows_0 rfl (lv_at hl 0 rfl) ?_
  refine lv_iconst (v := 0) hM.1 hM.2.1 dX12_tellKnows_1 ic_0 ?_
  refine x_callVI (rest := []) hM hw (ct_X12_known l ho 0) [.int 0] (okX12.o ho) rfl rfl rfl (gi_V ml_X12_333 im_X12_known sl_X12_known in_X12 kc_X12_known) hd_X12_known rfl ⟨Nat.le_of_ble_eq_true rfl, Nat.le_of_ble_eq_true rfl⟩ rfl (Nat.le_of_ble_eq_true rfl) hl.1 hcs0 hf dX12_tellKnows_2 (fun r1 h2 H locs hf hw => ?_)
  refine x_istore_n hM hf dX12_tellKnows_5 rfl hl (by decide) (fun v3 => [(1, .int v3), (0, .ref (ad 0))]) (fun _ => rfl) (fun v3 ls hf hl => ?_)
  refine lv_aload_n hM.1 hM.2.1 dX12_tellKnows_6 rfl (lv_at hl 1 rfl) ?_
  refine gf_X12_t hM hw (okX12.o ho) fl_X12_239 dX12_tellKnows_7 ?_
  refine x_istore_n hM hf dX12_tellKnows_10 rfl hl (by decide) (fun v4 => [(2, .int v4), (1, .int v3), (0, .ref (ad 0))]) (fun _ => rfl) (fun v4 ls hf hl => ?_)
  refine lv_aload_n hM.1 hM.2.1 dX12_tellKnows_11 rfl (lv_at hl 2 rfl) ?_
  refine lv_iconst (v := 0) hM.1 hM.2.1 dX12_tellKnows_12 ic_0 ?_
  refine x_callVI (rest := []) hM hw (ct_X12_known l ho 0) [.int 0] (okX12.o ho) rfl rfl rfl (gi_V ml_X12_333 im_X12_known sl_X12_known in_X12 kc_X12_known) hd_X12_known rfl ⟨Nat.le_of_ble_eq_true rfl, Nat.le_of_ble_eq_true rfl⟩ rfl (Nat.le_of_ble_eq_true rfl) hl.1 hcs0 hf dX12_tellKnows_13 (fun r5 h6 H locs hf hw => ?_)
  refine x_istore_n hM hf dX12_tellKnows_16 rfl hl (by decide) (fun v7 => [(3, .int v7), (2, .int v4), (1, .int v3), (0, .ref (ad 0))]) (fun _ => rfl) (fun v7 ls hf hl => ?_)
  refine lv_aload_n hM.1 hM.2.1 dX12_tellKnows_17 rfl (lv_at hl 3 rfl) ?_
  refine gf_X12_fault hM hw (okX12.o ho) fl_X12_236 dX12_tellKnows_18 ?_
  refine x_if_ne (tgt := 39) hM hf dX12_tellKnows_21 (by decide) (fun hf => ?_) (fun hf => ?_)
  · exact w_X12_tellKnows_j39 hM ho hR hw (lv_sub hl [3, 2, 0] rfl) hf
  refine lv_iload_n hM.1 hM.2.1 dX12_tellKnows_24 rfl (lv_at hl 2 rfl) ?_
  refine x_if_lt (tgt := 39) hM hf dX12_tellKnows_25 (by decide) (fun hf => ?_) (fun hf => ?_)
  · exact w_X12_tellKnows_j39 hM ho hR hw (lv_sub hl [3, 2, 0] rfl) hf
  refine lv_iload_n hM.1 hM.2.1 dX12_tellKnows_28 rfl (lv_at hl 2 rfl) ?_
  refine lv_iload_n hM.1 hM.2.1 dX12_tellKnows_29 rfl (lv_at hl 0 rfl) ?_
  refine x_ic_ne (tgt := 39) hM hf dX12_tellKnows_30 (by decide) (fun hf => ?_) (fun hf => ?_)
  · exact w_X12_tellKnows_j39 hM ho hR hw (lv_sub hl [3, 2, 0] rfl) hf
  refine lv_aload_n hM.1 hM.2.1 dX12_tellKnows_33 rfl (lv_at hl 3 rfl) ?_
  refine lv_iconst (v := 3) hM.1 hM.2.1 dX12_tellKnows_34 ic_3 ?_
  refine lv_iload_n hM.1 hM.2.1 dX12_tellKnows_35 rfl (lv_at hl 1 rfl) ?_
  refine x_callVV (rest := []) hM hw (ct_X12_wrong l ho 3 v4) [.int 3, .int v4] (okX12.o ho) rfl rfl rfl (gi_V ml_X12_322 im_X12_wrong sl_X12_wrong in_X12 kc_X12_wrong) hd_X12_wrong rfl ⟨Nat.le_of_ble_eq_true rfl, Nat.le_of_ble_eq_true rfl⟩ rfl (Nat.le_of_ble_eq_true rfl) hl.1 hcs0 hf dX12_tellKnows_36 (fun h15 H locs hf hw => ?_)
  exact w_X12_tellKnows_j39 hM ho hR hw (lv_sub hl [3, 2, 0] rfl) hf
theorem hd_X12_tellKnows : yX12_tellKnows.cls = RX12 ∧ yX12_tellKnows.cls ≠ "java/lang/invoke/MethodHandle" ∧ yX12_tellKnows.cls ≠ "java/lang/invoke/VarHandle" ∧ (parseMethodDescriptor yX12_tellKnows.desc).map (fun d => d.parameters.length) = some 0 := ⟨rfl, by decide, by decide, by decide +kernel⟩
theorem dX12_tellTest_0 : decode cX12_tellTest 0 = .ok (.aload_n 0, 1) := by decide +kernel
theorem dX12_tellTest_1 : decode cX12_tellTest 1 = .ok (.invokevirtual 325, 3) := by decide +kernel
theorem dX12_tellTest_4 : decode cX12_tellTest 4 = .ok (.istore_n 1, 1) := by decide +kernel
theorem dX12_tellTest_5 : decode cX12_tellTest 5 = .ok (.iconst 0, 1) := by decide +kernel
theorem dX12_tellTest_6 : decode cX12_tellTest 6 = .ok (.istore_n 2, 1) := by decide +kernel
theorem dX12_tellTest_7 : decode cX12_tellTest 7 = .ok (.aload_n 0, 1) := by decide +kernel
theorem dX12_tellTest_8 : decode cX12_tellTest 8 = .ok (.getfield 236, 3) := by decide +kernel
theorem dX12_tellTest_11 : decode cX12_tellTest 11 = .ok (.ifCond .ne 64, 3) := by decide +kernel
theorem dX12_tellTest_14 : decode cX12_tellTest 14 = .ok (.aload_n 0, 1) := by decide +kernel
theorem dX12_tellTest_15 : decode cX12_tellTest 15 = .ok (.iconst 1, 1) := by decide +kernel
theorem dX12_tellTest_16 : decode cX12_tellTest 16 = .ok (.invokevirtual 254, 3) := by decide +kernel
theorem dX12_tellTest_19 : decode cX12_tellTest 19 = .ok (.ifCond .eq 56, 3) := by decide +kernel
theorem dX12_tellTest_22 : decode cX12_tellTest 22 = .ok (.aload_n 0, 1) := by decide +kernel
theorem dX12_tellTest_23 : decode cX12_tellTest 23 = .ok (.getfield 239, 3) := by decide +kernel
theorem dX12_tellTest_26 : decode cX12_tellTest 26 = .ok (.istore_n 3, 1) := by decide +kernel
theorem dX12_tellTest_27 : decode cX12_tellTest 27 = .ok (.aload_n 0, 1) := by decide +kernel
theorem dX12_tellTest_28 : decode cX12_tellTest 28 = .ok (.iconst 1, 1) := by decide +kernel
theorem dX12_tellTest_29 : decode cX12_tellTest 29 = .ok (.invokevirtual 333, 3) := by decide +kernel
theorem dX12_tellTest_32 : decode cX12_tellTest 32 = .ok (.istore 4, 2) := by decide +kernel
theorem dX12_tellTest_34 : decode cX12_tellTest 34 = .ok (.aload_n 0, 1) := by decide +kernel
theorem dX12_tellTest_35 : decode cX12_tellTest 35 = .ok (.getfield 236, 3) := by decide +kernel
theorem dX12_tellTest_38 : decode cX12_tellTest 38 = .ok (.ifCond .gt (-31), 3) := by decide +kernel
theorem dX12_tellTest_41 : decode cX12_tellTest 41 = .ok (.iload 4, 2) := by decide +kernel
theorem dX12_tellTest_43 : decode cX12_tellTest 43 = .ok (.ifCond .ge 6, 3) := by decide +kernel
theorem dX12_tellTest_46 : decode cX12_tellTest 46 = .ok (.goto (-39), 3) := by decide +kernel
theorem dX12_tellTest_49 : decode cX12_tellTest 49 = .ok (.iload_n 2, 1) := by decide +kernel
theorem dX12_tellTest_50 : decode cX12_tellTest 50 = .ok (.iload 4, 2) := by decide +kernel
theorem dX12_tellTest_52 : decode cX12_tellTest 52 = .ok (.ishr, 1) := by decide +kernel
theorem dX12_tellTest_53 : decode cX12_tellTest 53 = .ok (.iconst 1, 1) := by decide +kernel
theorem dX12_tellTest_54 : decode cX12_tellTest 54 = .ok (.iand, 1) := by decide +kernel
theorem dX12_tellTest_55 : decode cX12_tellTest 55 = .ok (.iconst 1, 1) := by decide +kernel
theorem dX12_tellTest_56 : decode cX12_tellTest 56 = .ok (.if_icmp .ne 9, 3) := by decide +kernel
theorem dX12_tellTest_59 : decode cX12_tellTest 59 = .ok (.aload_n 0, 1) := by decide +kernel
theorem dX12_tellTest_60 : decode cX12_tellTest 60 = .ok (.iconst 3, 1) := by decide +kernel
theorem dX12_tellTest_61 : decode cX12_tellTest 61 = .ok (.iload_n 3, 1) := by decide +kernel
theorem dX12_tellTest_62 : decode cX12_tellTest 62 = .ok (.invokevirtual 322, 3) := by decide +kernel
theorem dX12_tellTest_65 : decode cX12_tellTest 65 = .ok (.iload_n 2, 1) := by decide +kernel
theorem dX12_tellTest_66 : decode cX12_tellTest 66 = .ok (.iconst 1, 1) := by decide +kernel
theorem dX12_tellTest_67 : decode cX12_tellTest 67 = .ok (.iload 4, 2) := by decide +kernel
theorem dX12_tellTest_69 : decode cX12_tellTest 69 = .ok (.ishl, 1) := by decide +kernel
theorem dX12_tellTest_70 : decode cX12_tellTest 70 = .ok (.ior, 1) := by decide +kernel
theorem dX12_tellTest_71 : decode cX12_tellTest 71 = .ok (.istore_n 2, 1) := by decide +kernel
theorem dX12_tellTest_72 : decode cX12_tellTest 72 = .ok (.goto (-65), 3) := by decide +kernel
theorem dX12_tellTest_75 : decode cX12_tellTest 75 = .ok (.aload_n 0, 1) := by decide +kernel
theorem dX12_tellTest_76 : decode cX12_tellTest 76 = .ok (.iconst 4, 1) := by decide +kernel
theorem dX12_tellTest_77 : decode cX12_tellTest 77 = .ok (.invokevirtual 316, 3) := by decide +kernel
theorem dX12_tellTest_80 : decode cX12_tellTest 80 = .ok (.aload_n 0, 1) := by decide +kernel
theorem dX12_tellTest_81 : decode cX12_tellTest 81 = .ok (.getfield 236, 3) := by decide +kernel
theorem dX12_tellTest_84 : decode cX12_tellTest 84 = .ok (.ifCond .le 4, 3) := by decide +kernel
theorem dX12_tellTest_87 : decode cX12_tellTest 87 = .ok (.return_, 1) := by decide +kernel
theorem dX12_tellTest_88 : decode cX12_tellTest 88 = .ok (.aload_n 0, 1) := by decide +kernel
theorem dX12_tellTest_89 : decode cX12_tellTest 89 = .ok (.getfield 98, 3) := by decide +kernel
theorem dX12_tellTest_92 : decode cX12_tellTest 92 = .ok (.bipush 6, 2) := by decide +kernel
theorem dX12_tellTest_94 : decode cX12_tellTest 94 = .ok (.aload_n 0, 1) := by decide +kernel
theorem dX12_tellTest_95 : decode cX12_tellTest 95 = .ok (.getfield 269, 3) := by decide +kernel
theorem dX12_tellTest_98 : decode cX12_tellTest 98 = .ok (.imul, 1) := by decide +kernel
theorem dX12_tellTest_99 : decode cX12_tellTest 99 = .ok (.aload_n 0, 1) := by decide +kernel
theorem dX12_tellTest_100 : decode cX12_tellTest 100 = .ok (.getfield 95, 3) := by decide +kernel
theorem dX12_tellTest_103 : decode cX12_tellTest 103 = .ok (.aload_n 0, 1) := by decide +kernel
theorem dX12_tellTest_104 : decode cX12_tellTest 104 = .ok (.getfield 269, 3) := by decide +kernel
theorem dX12_tellTest_107 : decode cX12_tellTest 107 = .ok (.iaload, 1) := by decide +kernel
theorem dX12_tellTest_108 : decode cX12_tellTest 108 = .ok (.iadd, 1) := by decide +kernel
theorem dX12_tellTest_109 : decode cX12_tellTest 109 = .ok (.iload_n 2, 1) := by decide +kernel
theorem dX12_tellTest_110 : decode cX12_tellTest 110 = .ok (.iastore, 1) := by decide +kernel
theorem dX12_tellTest_111 : decode cX12_tellTest 111 = .ok (.aload_n 0, 1) := by decide +kernel
theorem dX12_tellTest_112 : decode cX12_tellTest 112 = .ok (.iload_n 1, 1) := by decide +kernel
theorem dX12_tellTest_113 : decode cX12_tellTest 113 = .ok (.iconst 2, 1) := by decide +kernel
theorem dX12_tellTest_114 : decode cX12_tellTest 114 = .ok (.aload_n 0, 1) := by decide +kernel
theorem dX12_tellTest_115 : decode cX12_tellTest 115 = .ok (.getfield 95, 3) := by decide +kernel
theorem dX12_tellTest_118 : decode cX12_tellTest 118 = .ok (.aload_n 0, 1) := by decide +kernel
theorem dX12_tellTest_119 : decode cX12_tellTest 119 = .ok (.getfield 269, 3) := by decide +kernel
theorem dX12_tellTest_122 : decode cX12_tellTest 122 = .ok (.iaload, 1) := by decide +kernel
theorem dX12_tellTest_123 : decode cX12_tellTest 123 = .ok (.invokevirtual 329, 3) := by decide +kernel
theorem dX12_tellTest_126 : decode cX12_tellTest 126 = .ok (.aload_n 0, 1) := by decide +kernel
theorem dX12_tellTest_127 : decode cX12_tellTest 127 = .ok (.getfield 95, 3) := by decide +kernel
theorem dX12_tellTest_130 : decode cX12_tellTest 130 = .ok (.aload_n 0, 1) := by decide +kernel
theorem dX12_tellTest_131 : decode cX12_tellTest 131 = .ok (.getfield 269, 3) := by decide +kernel
theorem dX12_tellTest_134 : decode cX12_tellTest 134 = .ok (.dup2, 1) := by decide +kernel
theorem dX12_tellTest_135 : decode cX12_tellTest 135 = .ok (.iaload, 1) := by decide +kernel
theorem dX12_tellTest_136 : decode cX12_tellTest 136 = .ok (.iconst 1, 1) := by decide +kernel
theorem dX12_tellTest_137 : decode cX12_tellTest 137 = .ok (.iadd, 1) := by decide +kernel
theorem dX12_tellTest_138 : decode cX12_tellTest 138 = .ok (.iastore, 1) := by decide +kernel
theorem dX12_tellTest_139 : decode cX12_tellTest 139 = .ok (.return_, 1) := by decide +kernel
def c_X12_tellTest_L7b {ρ : Type}  (z1 : Int32) (K1 : Int32 → PH → Option ρ) (REC : Int32 → PH → Option ρ) (x2 : Int32) (h : PH) : Option ρ :=
  if (h.1 0 13) = 0 then
    (c_X12_is 1 h).bind fun r5 =>
    if r5 = 0 then
      K1 x2 h
    else
      nm (h.1 0 11) fun v6 =>
      bind2 (c_X12_known 1 h) fun r7 h8 =>
      nm r7 fun v9 =>
      if 0 < (h8.1 0 13) then
        REC x2 h8
      else
        if 0 ≤ v9 then
          if ((x2 >>> (v9 &&& 31)) &&& 1) = 1 then
            (c_X12_wrong 3 v6 h8).bind fun h11 =>
            nm (x2 ||| ((1 : Int32) <<< (v9 &&& 31))) fun v12 =>
            REC v12 h11
          else
            nm (x2 ||| ((1 : Int32) <<< (v9 &&& 31))) fun v10 =>
            REC v10 h8
        else
          REC x2 h8
  else
    K1 x2 h
set_option maxHeartbeats 4000000 in
set_option maxRecDepth 100000 in
theorem w_X12_tellTest_L7b {p0 : Program} {l : Launch} {e : Env} {s : State} {m : MethodId} {args : Array Value} {below : List Frame} {meth : Method} {c : Code} {Q : State → Prop} {D : va_G} {G : GG} {A : Nat → Prop} {H0 : Heap} {ad : Nat → Nat} {lay : List KK} {X : va_W} {ρ : Type} {r0 : ρ} {z1 : Int32} {x2 : Int32} {h : PH} {H : Heap} {locs : List Loc} {ls : Array Slot} {K1 : Int32 → PH → Option ρ} {REC : Int32 → PH → Option ρ} (hM : CallFix p0 m c cX12_tellTest 5 s args lw_g RX12) (ho : okX12 lay) (hk1 : ∀ (x2 : Int32) (h : PH), ∀ (H : Heap) (locs : List Loc) (ls : Array Slot), K1 x2 h = some r0 → Wd D G A H0 ad lay X h s H locs → lv_has ls 5 [(0, .ref (ad 0)), (1, .int z1), (2, .int x2)] → W p0 l e (rmN 4 85) s m args below meth c H locs 0 0 Q (F0 m 75 ls [])) (hrec : ∀ (x2 : Int32) (h : PH), ∀ (H : Heap) (locs : List Loc) (ls : Array Slot), REC x2 h = some r0 → Wd D G A H0 ad lay X h s H locs → lv_has ls 5 [(0, .ref (ad 0)), (1, .int z1), (2, .int x2)] → W p0 l e (rmN 4 85) s m args below meth c H locs 0 0 Q (F0 m 7 ls [])) (hw : Wd D G A H0 ad lay X h s H locs) (hl : lv_has ls 5 [(0, .ref (ad 0)), (1, .int z1), (2, .int x2)]) (hf : c_X12_tellTest_L7b z1 K1 REC x2 h = some r0) : W p0 l e (rmN 4 85) s m args below meth c H locs 0 0 Q (F0 m 7 ls []) := by
  unfold c_X12_tellTest_L7b at hf
  refine lv_aload_n hM.1 hM.2.1 dX12_tellTest_7 rfl (lv_at hl 0 rfl) ?_
  refine gf_X12_fault hM hw (okX12.o ho) fl_X12_236 dX12_tellTest_8 ?_
  refine x_if_ne (tgt := 75) hM hf dX12_tellTest_11 (by decide) (fun hf => ?_) (fun hf => ?_)
  · exact hk1 _ _ _ _ _ hf hw hl
  refine lv_aload_n hM.1 hM.2.1 dX12_tellTest_14 rfl (lv_at hl 0 rfl) ?_
  refine lv_iconst (v := 1) hM.1 hM.2.1 dX12_tellTest_15 ic_1 ?_
  refine x_callVIr (rest := []) hM hw (ct_X12_is l ho 1) [.int 1] (okX12.o ho) rfl rfl rfl (gi_V ml_X12_254 im_X12_is sl_X12_is in_X12 kc_X12_is) hd_X12_is rfl ⟨Nat.le_of_ble_eq_true rfl, Nat.le_of_ble_eq_true rfl⟩ rfl (Nat.le_of_ble_eq_true rfl) hl.1 hcs0 hf dX12_tellTest_16 (fun r5 H locs hf hw => ?_)
  refine x_if_eq (tgt := 75) hM hf dX12_tellTest_19 (by decide) (fun hf => ?_) (fun hf => ?_)
  · exact hk1 _ _ _ _ _ hf hw hl
  refine lv_aload_n hM.1 hM.2.1 dX12_tellTest_22 rfl (lv_at hl 0 rfl) ?_
  refine gf_X12_t hM hw (okX12.o ho) fl_X12_239 dX12_tellTest_23 ?_
  refine x_istore_n hM hf dX12_tellTest_26 rfl hl (by decide) (fun v6 => [(3, .int v6), (0, .ref (ad 0)), (1, .int z1), (2, .int x2)]) (fun _ => rfl) (fun v6 ls hf hl => ?_)
  refine lv_aload_n hM.1 hM.2.1 dX12_tellTest_27 rfl (lv_at hl 1 rfl) ?_
  refine lv_iconst (v := 1) hM.1 hM.2.1 dX12_tellTest_28 ic_1 ?_
  refine x_callVI (rest := []) hM hw (ct_X12_known l ho 1) [.int 1] (okX12.o ho) rfl rfl rfl (gi_V ml_X12_333 im_X12_known sl_X12_known in_X12 kc_X12_known) hd_X12_known rfl ⟨Nat.le_of_ble_eq_true rfl, Nat.le_of_ble_eq_true rfl⟩ rfl (Nat.le_of_ble_eq_true rfl) hl.1 hcs0 hf dX12_tellTest_29 (fun r7 h8 H locs hf hw => ?_)
  refine x_istore hM hf dX12_tellTest_32 hl (by decide) (fun v9 => [(4, .int v9), (3, .int v6), (0, .ref (ad 0)), (1, .int z1), (2, .int x2)]) (fun _ => rfl) (fun v9 ls hf hl => ?_)
  refine lv_aload_n hM.1 hM.2.1 dX12_tellTest_34 rfl (lv_at hl 2 rfl) ?_
  refine gf_X12_fault hM hw (okX12.o ho) fl_X12_236 dX12_tellTest_35 ?_
  refine x_if_gt (tgt := 7) hM hf dX12_tellTest_38 (by decide) (fun hf => ?_) (fun hf => ?_)
  · exact hrec _ _ _ _ _ hf hw (lv_sub hl [2, 3, 4] rfl)
  refine lv_iload hM.1 hM.2.1 dX12_tellTest_41 (lv_at hl 0 rfl) ?_
  refine x_if_ge (tgt := 49) hM hf dX12_tellTest_43 (by decide) (fun hf => ?_) (fun hf => ?_)
  · refine lv_iload_n hM.1 hM.2.1 dX12_tellTest_49 rfl (lv_at hl 4 rfl) ?_
    refine lv_iload hM.1 hM.2.1 dX12_tellTest_50 (lv_at hl 0 rfl) ?_
    refine lv_ishr hM.1 hM.2.1 dX12_tellTest_52 ?_
    refine lv_iconst (v := 1) hM.1 hM.2.1 dX12_tellTest_53 ic_1 ?_
    refine lv_iand hM.1 hM.2.1 dX12_tellTest_54 ?_
    refine lv_iconst (v := 1) hM.1 hM.2.1 dX12_tellTest_55 ic_1 ?_
    refine x_ic_ne (tgt := 65) hM hf dX12_tellTest_56 (by decide) (fun hf => ?_) (fun hf => ?_)
    · refine lv_iload_n hM.1 hM.2.1 dX12_tellTest_65 rfl (lv_at hl 4 rfl) ?_
      refine lv_iconst (v := 1) hM.1 hM.2.1 dX12_tellTest_66 ic_1 ?_
      refine lv_iload hM.1 hM.2.1 dX12_tellTest_67 (lv_at hl 0 rfl) ?_
      refine lv_ishl hM.1 hM.2.1 dX12_tellTest_69 ?_
      refine lv_ior hM.1 hM.2.1 dX12_tellTest_70 ?_
      refine x_istore_n hM hf dX12_tellTest_71 rfl hl (by decide) (fun v10 => [(2, .int v10), (4, .int v9), (3, .int v6), (0, .ref (ad 0)), (1, .int z1)]) (fun _ => rfl) (fun v10 ls hf hl => ?_)
      refine lv_goto (tgt := 7) hM.1 hM.2.1 dX12_tellTest_72 (by decide) ?_
      exact hrec _ _ _ _ _ hf hw (lv_sub hl [3, 4, 0] rfl)
    refine lv_aload_n hM.1 hM.2.1 dX12_tellTest_59 rfl (lv_at hl 2 rfl) ?_
    refine lv_iconst (v := 3) hM.1 hM.2.1 dX12_tellTest_60 ic_3 ?_
    refine lv_iload_n hM.1 hM.2.1 dX12_tellTest_61 rfl (lv_at hl 1 rfl) ?_
    refine x_callVV (rest := []) hM hw (ct_X12_wrong l ho 3 v6) [.int 3, .int v6] (okX12.o ho) rfl rfl rfl (gi_V ml_X12_322 im_X12_wrong sl_X12_wrong in_X12 kc_X12_wrong) hd_X12_wrong rfl ⟨Nat.le_of_ble_eq_true rfl, Nat.le_of_ble_eq_true rfl⟩ rfl (Nat.le_of_ble_eq_true rfl) hl.1 hcs0 hf dX12_tellTest_62 (fun h11 H locs hf hw => ?_)
    refine lv_iload_n hM.1 hM.2.1 dX12_tellTest_65 rfl (lv_at hl 4 rfl) ?_
    refine lv_iconst (v := 1) hM.1 hM.2.1 dX12_tellTest_66 ic_1 ?_
    refine lv_iload hM.1 hM.2.1 dX12_tellTest_67 (lv_at hl 0 rfl) ?_
    refine lv_ishl hM.1 hM.2.1 dX12_tellTest_69 ?_
    refine lv_ior hM.1 hM.2.1 dX12_tellTest_70 ?_
    refine x_istore_n hM hf dX12_tellTest_71 rfl hl (by decide) (fun v12 => [(2, .int v12), (4, .int v9), (3, .int v6), (0, .ref (ad 0)), (1, .int z1)]) (fun _ => rfl) (fun v12 ls hf hl => ?_)
    refine lv_goto (tgt := 7) hM.1 hM.2.1 dX12_tellTest_72 (by decide) ?_
    exact hrec _ _ _ _ _ hf hw (lv_sub hl [3, 4, 0] rfl)
  refine lv_goto (tgt := 7) hM.1 hM.2.1 dX12_tellTest_46 (by decide) ?_
  exact hrec _ _ _ _ _ hf hw (lv_sub hl [2, 3, 4] rfl)
set_option maxHeartbeats 4000000 in
set_option maxRecDepth 100000 in
theorem w_X12_tellTest_L7 {p0 : Program} {l : Launch} {e : Env} {s : State} {m : MethodId} {args : Array Value} {below : List Frame} {meth : Method} {c : Code} {Q : State → Prop} {D : va_G} {G : GG} {A : Nat → Prop} {H0 : Heap} {ad : Nat → Nat} {lay : List KK} {X : va_W} {ρ : Type} {r0 : ρ} {z1 : Int32} {K1 : Int32 → PH → Option ρ} (hM : CallFix p0 m c cX12_tellTest 5 s args lw_g RX12) (ho : okX12 lay) (hk1 : ∀ (x2 : Int32) (h : PH), ∀ (H : Heap) (locs : List Loc) (ls : Array Slot), K1 x2 h = some r0 → Wd D G A H0 ad lay X h s H locs → lv_has ls 5 [(0, .ref (ad 0)), (1, .int z1), (2, .int x2)] → W p0 l e (rmN 4 85) s m args below meth c H locs 0 0 Q (F0 m 75 ls [])) (n : Nat) (x2 : Int32) (h : PH) (hf : lq2 (c_X12_tellTest_L7b z1 K1) n x2 h = some r0) : ∀ (H : Heap) (locs : List Loc) (ls : Array Slot), Wd D G A H0 ad lay X h s H locs → lv_has ls 5 [(0, .ref (ad 0)), (1, .int z1), (2, .int x2)] → W p0 l e (rmN 4 85) s m args below meth c H locs 0 0 Q (F0 m 7 ls []) := by
  exact lq2_i (fun (x2 : Int32) (h : PH) => ∀ (H : Heap) (locs : List Loc) (ls : Array Slot), Wd D G A H0 ad lay X h s H locs → lv_has ls 5 [(0, .ref (ad 0)), (1, .int z1), (2, .int x2)] → W p0 l e (rmN 4 85) s m args below meth c H locs 0 0 Q (F0 m 7 ls [])) (fun REC x2 h ih hf H locs ls hw hl => w_X12_tellTest_L7b hM ho hk1 (fun x2 h H locs ls hf hw hl => ih x2 h hf H locs ls hw hl) hw hl hf) n x2 h hf
def c_X12_tellTest_j75  (x1 : Int32) (x2 : Int32) (h : PH) : Option (PH) :=
  (c_X12_must 4 h).bind fun h15 =>
  if (h15.1 0 13) ≤ 0 then
    gd (ixOK (h15.1 0 19) 2) <|
    gd (ixOK ((6 * (h15.1 0 19)) + (h15.1 26 (h15.1 0 19).toNatClampNeg)) 12) <| nm (setI h15 27 ((6 * (h15.1 0 19)) + (h15.1 26 (h15.1 0 19).toNatClampNeg)).toNatClampNeg x2) fun h16 =>
    gd (ixOK (h16.1 0 19) 2) <|
    (c_X12_notes x1 2 (h16.1 26 (h16.1 0 19).toNatClampNeg) h16).bind fun h17 =>
    nm (h17.1 0 19) fun v18 =>
    gd (ixOK v18 2) <|
    gd (ixOK v18 2) <| nm (setI h17 26 v18.toNatClampNeg ((h17.1 26 v18.toNatClampNeg) + 1)) fun h19 =>
    some h19
  else
    some h15
set_option maxHeartbeats 4000000 in
set_option maxRecDepth 100000 in
theorem w_X12_tellTest_j75 {p0 : Program} {l : Launch} {e : Env} {s : State} {m : MethodId} {args : Array Value} {below : List Frame} {meth : Method} {c : Code} {Q : State → Prop} {D : va_G} {G : GG} {A : Nat → Prop} {H0 : Heap} {ad : Nat → Nat} {lay : List KK} {X : va_W} {r0 : PH} {x1 : Int32} {x2 : Int32} {h : PH} {H : Heap} {locs : List Loc} {ls : Array Slot} (hM : CallFix p0 m c cX12_tellTest 5 s args lw_g RX12) (ho : okX12 lay) (hR : RtV p0 l e (rmN 4 85) s m args below meth c cX12_tellTest D G A H0 ad lay X (none) r0 Q 0 0) (hw : Wd D G A H0 ad lay X h s H locs) (hl : lv_has ls 5 [(0, .ref (ad 0)), (1, .int x1), (2, .int x2)]) (hf : c_X12_tellTest_j75 x1 x2 h = some r0) : W p0 l e (rmN 4 85) s m args below meth c H locs 0 0 Q (F0 m 75 ls []) := by
  unfold c_X12_tellTest_j75 at hf
  refine lv_aload_n hM.1 hM.2.1 dX12_tellTest_75 rfl (lv_at hl 0 rfl) ?_
  refine lv_iconst (v := 4) hM.1 hM.2.1 dX12_tellTest_76 ic_4 ?_
  refine x_callVV (rest := []) hM hw (ct_X12_must l ho 4) [.int 4] (okX12.o ho) rfl rfl rfl (gi_V ml_X12_316 im_X12_must sl_X12_must in_X12 kc_X12_must) hd_X12_must rfl ⟨Nat.le_of_ble_eq_true rfl, Nat.le_of_ble_eq_true rfl⟩ rfl (Nat.le_of_ble_eq_true rfl) hl.1 hcs0 hf dX12_tellTest_77 (fun h15 H locs hf hw => ?_)
  refine lv_aload_n hM.1 hM.2.1 dX12_tellTest_80 rfl (lv_at hl 0 rfl) ?_
  refine gf_X12_fault hM hw (okX12.o ho) fl_X12_236 dX12_tellTest_81 ?_
  refine x_if_le (tgt := 88) hM hf dX12_tellTest_84 (by decide) (fun hf => ?_) (fun hf => ?_)
  · refine lv_aload_n hM.1 hM.2.1 dX12_tellTest_88 rfl (lv_at hl 0 rfl) ?_
    refine gf_X12_ringsOf hM hw (okX12.o ho) fl_X12_98 dX12_tellTest_89 ?_
    refine lv_bipush (v := 6) hM.1 hM.2.1 dX12_tellTest_92 (by decide) ?_
    refine lv_aload_n hM.1 hM.2.1 dX12_tellTest_94 rfl (lv_at hl 0 rfl) ?_
    refine gf_X12_side hM hw (okX12.o ho) fl_X12_269 dX12_tellTest_95 ?_
    refine lv_imul hM.1 hM.2.1 dX12_tellTest_98 ?_
    refine lv_aload_n hM.1 hM.2.1 dX12_tellTest_99 rfl (lv_at hl 0 rfl) ?_
    refine gf_X12_tests hM hw (okX12.o ho) fl_X12_95 dX12_tellTest_100 ?_
    refine lv_aload_n hM.1 hM.2.1 dX12_tellTest_103 rfl (lv_at hl 0 rfl) ?_
    refine gf_X12_side hM hw (okX12.o ho) fl_X12_269 dX12_tellTest_104 ?_
    refine x_iald hM hw (okX12.tests ho) hf dX12_tellTest_107 (fun hf => ?_)
    refine lv_iadd hM.1 hM.2.1 dX12_tellTest_108 ?_
    refine lv_iload_n hM.1 hM.2.1 dX12_tellTest_109 rfl (lv_at hl 2 rfl) ?_
    refine x_iast hM hw (okX12.ringsOf ho) hf dX12_tellTest_110 (fun h16 H locs hf hw => ?_)
    refine lv_aload_n hM.1 hM.2.1 dX12_tellTest_111 rfl (lv_at hl 0 rfl) ?_
    refine lv_iload_n hM.1 hM.2.1 dX12_tellTest_112 rfl (lv_at hl 1 rfl) ?_
    refine lv_iconst (v := 2) hM.1 hM.2.1 dX12_tellTest_113 ic_2 ?_
    refine lv_aload_n hM.1 hM.2.1 dX12_tellTest_114 rfl (lv_at hl 0 rfl) ?_
    refine gf_X12_tests hM hw (okX12.o ho) fl_X12_95 dX12_tellTest_115 ?_
    refine lv_aload_n hM.1 hM.2.1 dX12_tellTest_118 rfl (lv_at hl 0 rfl) ?_
    refine gf_X12_side hM hw (okX12.o ho) fl_X12_269 dX12_tellTest_119 ?_
    refine x_iald hM hw (okX12.tests ho) hf dX12_tellTest_122 (fun hf => ?_)
    refine x_callVV (rest := []) hM hw (ct_X12_notes l ho x1 2 (h16.1 26 (h16.1 0 19).toNatClampNeg)) [.int x1, .int 2, .int (h16.1 26 (h16.1 0 19).toNatClampNeg)] (okX12.o ho) rfl rfl rfl (gi_V ml_X12_329 im_X12_notes sl_X12_notes in_X12 kc_X12_notes) hd_X12_notes rfl ⟨Nat.le_of_ble_eq_true rfl, Nat.le_of_ble_eq_true rfl⟩ rfl (Nat.le_of_ble_eq_true rfl) hl.1 hcs0 hf dX12_tellTest_123 (fun h17 H locs hf hw => ?_)
    refine lv_aload_n hM.1 hM.2.1 dX12_tellTest_126 rfl (lv_at hl 0 rfl) ?_
    refine gf_X12_tests hM hw (okX12.o ho) fl_X12_95 dX12_tellTest_127 ?_
    refine lv_aload_n hM.1 hM.2.1 dX12_tellTest_130 rfl (lv_at hl 0 rfl) ?_
    refine gf_X12_side hM hw (okX12.o ho) fl_X12_269 dX12_tellTest_131 ?_
    refine x_nmi hf (fun v18 hf => ?_)
    refine lv_dup2_11 hM.1 hM.2.1 dX12_tellTest_134 rfl rfl ?_
    refine x_iald hM hw (okX12.tests ho) hf dX12_tellTest_135 (fun hf => ?_)
    refine lv_iconst (v := 1) hM.1 hM.2.1 dX12_tellTest_136 ic_1 ?_
    refine lv_iadd hM.1 hM.2.1 dX12_tellTest_137 ?_
    refine x_iast hM hw (okX12.tests ho) hf dX12_tellTest_138 (fun h19 H locs hf hw => ?_)
    exact hR _ _ _ _ _ (Option.some.inj hf) rfl hw dX12_tellTest_139
  exact hR _ _ _ _ _ (Option.some.inj hf) rfl hw dX12_tellTest_87
def c_X12_tellTest (h : PH) : Option (PH) :=
  bind2 (c_X12_named h) fun r1 h2 =>
  nm r1 fun v3 =>
  nm (0 : Int32) fun v4 =>
  lq2 (c_X12_tellTest_L7b v3
    (fun w13 h14 =>
      c_X12_tellTest_j75 v3 w13 h14)) fu v4 h2
set_option maxHeartbeats 4000000 in
set_option maxRecDepth 100000 in
theorem ct_X12_tellTest (l : Launch) {lay : List KK} (ho : okX12 lay) : CtV l yX12_tellTest cX12_tellTest 5 (none) 4 85 lay (fun h => c_X12_tellTest h) (fun ad => [.ref (ad 0)]) := by
  refine CtV.mk' RX12 (by decide) rfl (fun _ => Nat.le_of_ble_eq_true rfl) ?_
  intro p0 e s m args below meth c D G A H0 ad X h r0 H ls Q hM hw hl hf hR
  have hl : lv_has ls 5 [(0, .ref (ad 0))] := hl
  unfold c_X12_tellTest at hf
  refine lv_aload_n hM.1 hM.2.1 dX12_tellTest_0 rfl (lv_at hl 0 rfl) ?_
  refine x_callVI (rest := []) hM hw (ct_X12_named l ho) [] (okX12.o ho) rfl rfl rfl (gi_V ml_X12_325 im_X12_named sl_X12_named in_X12 kc_X12_named) hd_X12_named rfl ⟨Nat.le_of_ble_eq_true rfl, Nat.le_of_ble_eq_true rfl⟩ rfl (Nat.le_of_ble_eq_true rfl) hl.1 hcs0 hf dX12_tellTest_1 (fun r1 h2 H locs hf hw => ?_)
  refine x_istore_n hM hf dX12_tellTest_4 rfl hl (by decide) (fun v3 => [(1, .int v3), (0, .ref (ad 0))]) (fun _ => rfl) (fun v3 ls hf hl => ?_)
  refine lv_iconst (v := 0) hM.1 hM.2.1 dX12_tellTest_5 ic_0 ?_
  refine x_istore_n hM hf dX12_tellTest_6 rfl hl (by decide) (fun v4 => [(2, .int v4), (1, .int v3), (0, .ref (ad 0))]) (fun _ => rfl) (fun v4 ls hf hl => ?_)
  refine w_X12_tellTest_L7 hM ho (fun w13 h14 H locs ls hf hw hl => ?_) fu _ _ hf _ _ _ hw (lv_sub hl [2, 1, 0] rfl)
  exact w_X12_tellTest_j75 hM ho hR hw hl hf
theorem hd_X12_tellTest : yX12_tellTest.cls = RX12 ∧ yX12_tellTest.cls ≠ "java/lang/invoke/MethodHandle" ∧ yX12_tellTest.cls ≠ "java/lang/invoke/VarHandle" ∧ (parseMethodDescriptor yX12_tellTest.desc).map (fun d => d.parameters.length) = some 0 := ⟨rfl, by decide, by decide, by decide +kernel⟩
theorem dX12_emit_0 : decode cX12_emit 0 = .ok (.aload_n 0, 1) := by decide +kernel
theorem dX12_emit_1 : decode cX12_emit 1 = .ok (.getfield 131, 3) := by decide +kernel
theorem dX12_emit_4 : decode cX12_emit 4 = .ok (.aload_n 0, 1) := by decide +kernel
theorem dX12_emit_5 : decode cX12_emit 5 = .ok (.getfield 278, 3) := by decide +kernel
theorem dX12_emit_8 : decode cX12_emit 8 = .ok (.iload_n 1, 1) := by decide +kernel
theorem dX12_emit_9 : decode cX12_emit 9 = .ok (.iastore, 1) := by decide +kernel
theorem dX12_emit_10 : decode cX12_emit 10 = .ok (.aload_n 0, 1) := by decide +kernel
theorem dX12_emit_11 : decode cX12_emit 11 = .ok (.getfield 134, 3) := by decide +kernel
theorem dX12_emit_14 : decode cX12_emit 14 = .ok (.aload_n 0, 1) := by decide +kernel
theorem dX12_emit_15 : decode cX12_emit 15 = .ok (.getfield 278, 3) := by decide +kernel
theorem dX12_emit_18 : decode cX12_emit 18 = .ok (.iload_n 2, 1) := by decide +kernel
theorem dX12_emit_19 : decode cX12_emit 19 = .ok (.iastore, 1) := by decide +kernel
theorem dX12_emit_20 : decode cX12_emit 20 = .ok (.aload_n 0, 1) := by decide +kernel
theorem dX12_emit_21 : decode cX12_emit 21 = .ok (.dup, 1) := by decide +kernel
theorem dX12_emit_22 : decode cX12_emit 22 = .ok (.getfield 278, 3) := by decide +kernel
theorem dX12_emit_25 : decode cX12_emit 25 = .ok (.iconst 1, 1) := by decide +kernel
theorem dX12_emit_26 : decode cX12_emit 26 = .ok (.iadd, 1) := by decide +kernel
theorem dX12_emit_27 : decode cX12_emit 27 = .ok (.putfield 278, 3) := by decide +kernel
theorem dX12_emit_30 : decode cX12_emit 30 = .ok (.return_, 1) := by decide +kernel
def c_X12_emit (a1 : Int32) (a2 : Int32) (h : PH) : Option (PH) :=
  gd (ixOK (h.1 0 52) 840) <| nm (setI h 38 (h.1 0 52).toNatClampNeg a1) fun h1 =>
  gd (ixOK (h1.1 0 52) 840) <| nm (setI h1 39 (h1.1 0 52).toNatClampNeg a2) fun h2 =>
  nm (setI h2 0 52 ((h2.1 0 52) + 1)) fun h3 =>
  some h3
set_option maxHeartbeats 4000000 in
set_option maxRecDepth 100000 in
theorem ct_X12_emit (l : Launch) {lay : List KK} (ho : okX12 lay) (a1 : Int32) (a2 : Int32) : CtV l yX12_emit cX12_emit 3 (none) 0 0 lay (fun h => c_X12_emit a1 a2 h) (fun ad => [.ref (ad 0), .int a1, .int a2]) := by
  refine CtV.mk' RX12 (by decide) rfl (fun _ => Nat.le_of_ble_eq_true rfl) ?_
  intro p0 e s m args below meth c D G A H0 ad X h r0 H ls Q hM hw hl hf hR
  have hl : lv_has ls 3 [(0, .ref (ad 0)), (1, .int a1), (2, .int a2)] := hl
  unfold c_X12_emit at hf
  refine lv_aload_n hM.1 hM.2.1 dX12_emit_0 rfl (lv_at hl 0 rfl) ?_
  refine gf_X12_code hM hw (okX12.o ho) fl_X12_131 dX12_emit_1 ?_
  refine lv_aload_n hM.1 hM.2.1 dX12_emit_4 rfl (lv_at hl 0 rfl) ?_
  refine gf_X12_codes hM hw (okX12.o ho) fl_X12_278 dX12_emit_5 ?_
  refine lv_iload_n hM.1 hM.2.1 dX12_emit_8 rfl (lv_at hl 1 rfl) ?_
  refine x_iast hM hw (okX12.code ho) hf dX12_emit_9 (fun h1 H locs hf hw => ?_)
  refine lv_aload_n hM.1 hM.2.1 dX12_emit_10 rfl (lv_at hl 0 rfl) ?_
  refine gf_X12_codeInt hM hw (okX12.o ho) fl_X12_134 dX12_emit_11 ?_
  refine lv_aload_n hM.1 hM.2.1 dX12_emit_14 rfl (lv_at hl 0 rfl) ?_
  refine gf_X12_codes hM hw (okX12.o ho) fl_X12_278 dX12_emit_15 ?_
  refine lv_iload_n hM.1 hM.2.1 dX12_emit_18 rfl (lv_at hl 2 rfl) ?_
  refine x_iast hM hw (okX12.codeInt ho) hf dX12_emit_19 (fun h2 H locs hf hw => ?_)
  refine lv_aload_n hM.1 hM.2.1 dX12_emit_20 rfl (lv_at hl 0 rfl) ?_
  refine lv_dup hM.1 hM.2.1 dX12_emit_21 rfl ?_
  refine gf_X12_codes hM hw (okX12.o ho) fl_X12_278 dX12_emit_22 ?_
  refine lv_iconst (v := 1) hM.1 hM.2.1 dX12_emit_25 ic_1 ?_
  refine lv_iadd hM.1 hM.2.1 dX12_emit_26 ?_
  refine pf_X12_codes hM hw (okX12.o ho) fl_X12_278 hf dX12_emit_27 (fun h3 H locs hf hw => ?_)
  exact hR _ _ _ _ _ (Option.some.inj hf) rfl hw dX12_emit_30
theorem hd_X12_emit : yX12_emit.cls = RX12 ∧ yX12_emit.cls ≠ "java/lang/invoke/MethodHandle" ∧ yX12_emit.cls ≠ "java/lang/invoke/VarHandle" ∧ (parseMethodDescriptor yX12_emit.desc).map (fun d => d.parameters.length) = some 2 := ⟨rfl, by decide, by decide, by decide +kernel⟩
theorem dX12_unit_0 : decode cX12_unit 0 = .ok (.aload_n 0, 1) := by decide +kernel
theorem dX12_unit_1 : decode cX12_unit 1 = .ok (.iconst 2, 1) := by decide +kernel
theorem dX12_unit_2 : decode cX12_unit 2 = .ok (.invokevirtual 254, 3) := by decide +kernel
theorem dX12_unit_5 : decode cX12_unit 5 = .ok (.ifCond .eq 24, 3) := by decide +kernel
theorem dX12_unit_8 : decode cX12_unit 8 = .ok (.aload_n 0, 1) := by decide +kernel
theorem dX12_unit_9 : decode cX12_unit 9 = .ok (.iconst 0, 1) := by decide +kernel
theorem dX12_unit_10 : decode cX12_unit 10 = .ok (.aload_n 0, 1) := by decide +kernel
theorem dX12_unit_11 : decode cX12_unit 11 = .ok (.getfield 27, 3) := by decide +kernel
theorem dX12_unit_14 : decode cX12_unit 14 = .ok (.aload_n 0, 1) := by decide +kernel
theorem dX12_unit_15 : decode cX12_unit 15 = .ok (.getfield 239, 3) := by decide +kernel
theorem dX12_unit_18 : decode cX12_unit 18 = .ok (.iaload, 1) := by decide +kernel
theorem dX12_unit_19 : decode cX12_unit 19 = .ok (.invokevirtual 345, 3) := by decide +kernel
theorem dX12_unit_22 : decode cX12_unit 22 = .ok (.aload_n 0, 1) := by decide +kernel
theorem dX12_unit_23 : decode cX12_unit 23 = .ok (.invokevirtual 257, 3) := by decide +kernel
theorem dX12_unit_26 : decode cX12_unit 26 = .ok (.goto 67, 3) := by decide +kernel
theorem dX12_unit_29 : decode cX12_unit 29 = .ok (.aload_n 0, 1) := by decide +kernel
theorem dX12_unit_30 : decode cX12_unit 30 = .ok (.getfield 236, 3) := by decide +kernel
theorem dX12_unit_33 : decode cX12_unit 33 = .ok (.ifCond .ne 55, 3) := by decide +kernel
theorem dX12_unit_36 : decode cX12_unit 36 = .ok (.aload_n 0, 1) := by decide +kernel
theorem dX12_unit_37 : decode cX12_unit 37 = .ok (.getfield 20, 3) := by decide +kernel
theorem dX12_unit_40 : decode cX12_unit 40 = .ok (.aload_n 0, 1) := by decide +kernel
theorem dX12_unit_41 : decode cX12_unit 41 = .ok (.getfield 239, 3) := by decide +kernel
theorem dX12_unit_44 : decode cX12_unit 44 = .ok (.iaload, 1) := by decide +kernel
theorem dX12_unit_45 : decode cX12_unit 45 = .ok (.bipush 34, 2) := by decide +kernel
theorem dX12_unit_47 : decode cX12_unit 47 = .ok (.if_icmp .lt 41, 3) := by decide +kernel
theorem dX12_unit_50 : decode cX12_unit 50 = .ok (.aload_n 0, 1) := by decide +kernel
theorem dX12_unit_51 : decode cX12_unit 51 = .ok (.getfield 20, 3) := by decide +kernel
theorem dX12_unit_54 : decode cX12_unit 54 = .ok (.aload_n 0, 1) := by decide +kernel
theorem dX12_unit_55 : decode cX12_unit 55 = .ok (.getfield 239, 3) := by decide +kernel
theorem dX12_unit_58 : decode cX12_unit 58 = .ok (.iaload, 1) := by decide +kernel
theorem dX12_unit_59 : decode cX12_unit 59 = .ok (.bipush 42, 2) := by decide +kernel
theorem dX12_unit_61 : decode cX12_unit 61 = .ok (.if_icmp .gt 27, 3) := by decide +kernel
theorem dX12_unit_64 : decode cX12_unit 64 = .ok (.aload_n 0, 1) := by decide +kernel
theorem dX12_unit_65 : decode cX12_unit 65 = .ok (.iconst 1, 1) := by decide +kernel
theorem dX12_unit_66 : decode cX12_unit 66 = .ok (.aload_n 0, 1) := by decide +kernel
theorem dX12_unit_67 : decode cX12_unit 67 = .ok (.getfield 20, 3) := by decide +kernel
theorem dX12_unit_70 : decode cX12_unit 70 = .ok (.aload_n 0, 1) := by decide +kernel
theorem dX12_unit_71 : decode cX12_unit 71 = .ok (.getfield 239, 3) := by decide +kernel
theorem dX12_unit_74 : decode cX12_unit 74 = .ok (.iaload, 1) := by decide +kernel
theorem dX12_unit_75 : decode cX12_unit 75 = .ok (.bipush 34, 2) := by decide +kernel
theorem dX12_unit_77 : decode cX12_unit 77 = .ok (.isub, 1) := by decide +kernel
theorem dX12_unit_78 : decode cX12_unit 78 = .ok (.invokevirtual 345, 3) := by decide +kernel
theorem dX12_unit_81 : decode cX12_unit 81 = .ok (.aload_n 0, 1) := by decide +kernel
theorem dX12_unit_82 : decode cX12_unit 82 = .ok (.invokevirtual 257, 3) := by decide +kernel
theorem dX12_unit_85 : decode cX12_unit 85 = .ok (.goto 8, 3) := by decide +kernel
theorem dX12_unit_88 : decode cX12_unit 88 = .ok (.aload_n 0, 1) := by decide +kernel
theorem dX12_unit_89 : decode cX12_unit 89 = .ok (.iconst 1, 1) := by decide +kernel
theorem dX12_unit_90 : decode cX12_unit 90 = .ok (.invokevirtual 251, 3) := by decide +kernel
theorem dX12_unit_93 : decode cX12_unit 93 = .ok (.return_, 1) := by decide +kernel
def c_X12_unit (h : PH) : Option (PH) :=
  (c_X12_is 2 h).bind fun r1 =>
  if r1 = 0 then
    if (h.1 0 13) = 0 then
      gd (ixOK (h.1 0 11) 403) <|
      if (h.1 3 (h.1 0 11).toNatClampNeg) < 34 then
        (c_X12_fail 1 h).bind fun h3 =>
        some h3
      else
        gd (ixOK (h.1 0 11) 403) <|
        if 42 < (h.1 3 (h.1 0 11).toNatClampNeg) then
          (c_X12_fail 1 h).bind fun h4 =>
          some h4
        else
          gd (ixOK (h.1 0 11) 403) <|
          (c_X12_emit 1 ((h.1 3 (h.1 0 11).toNatClampNeg) - 34) h).bind fun h5 =>
          (c_X12_goesOn h5).bind fun h6 =>
          some h6
    else
      (c_X12_fail 1 h).bind fun h2 =>
      some h2
  else
    gd (ixOK (h.1 0 11) 403) <|
    (c_X12_emit 0 (h.1 5 (h.1 0 11).toNatClampNeg) h).bind fun h7 =>
    (c_X12_goesOn h7).bind fun h8 =>
    some h8
set_option maxHeartbeats 4000000 in
set_option maxRecDepth 100000 in
theorem ct_X12_unit (l : Launch) {lay : List KK} (ho : okX12 lay) : CtV l yX12_unit cX12_unit 1 (none) 2 41 lay (fun h => c_X12_unit h) (fun ad => [.ref (ad 0)]) := by
  refine CtV.mk' RX12 (by decide) rfl (fun _ => Nat.le_of_ble_eq_true rfl) ?_
  intro p0 e s m args below meth c D G A H0 ad X h r0 H ls Q hM hw hl hf hR
  have hl : lv_has ls 1 [(0, .ref (ad 0))] := hl
  unfold c_X12_unit at hf
  refine lv_aload_n hM.1 hM.2.1 dX12_unit_0 rfl (lv_at hl 0 rfl) ?_
  refine lv_iconst (v := 2) hM.1 hM.2.1 dX12_unit_1 ic_2 ?_
  refine x_callVIr (rest := []) hM hw (ct_X12_is l ho 2) [.int 2] (okX12.o ho) rfl rfl rfl (gi_V ml_X12_254 im_X12_is sl_X12_is in_X12 kc_X12_is) hd_X12_is rfl ⟨Nat.le_of_ble_eq_true rfl, Nat.le_of_ble_eq_true rfl⟩ rfl (Nat.le_of_ble_eq_true rfl) hl.1 hcs0 hf dX12_unit_2 (fun r1 H locs hf hw => ?_)
  refine x_if_eq (tgt := 29) hM hf dX12_unit_5 (by decide) (fun hf => ?_) (fun hf => ?_)
  · refine lv_aload_n hM.1 hM.2.1 dX12_unit_29 rfl (lv_at hl 0 rfl) ?_
    refine gf_X12_fault hM hw (okX12.o ho) fl_X12_236 dX12_unit_30 ?_
    refine x_if_ne (tgt := 88) hM hf dX12_unit_33 (by decide) (fun hf => ?_) (fun hf => ?_)
    · refine lv_aload_n hM.1 hM.2.1 dX12_unit_88 rfl (lv_at hl 0 rfl) ?_
      refine lv_iconst (v := 1) hM.1 hM.2.1 dX12_unit_89 ic_1 ?_
      refine x_callVV (rest := []) hM hw (ct_X12_fail l ho 1) [.int 1] (okX12.o ho) rfl rfl rfl (gi_V ml_X12_251 im_X12_fail sl_X12_fail in_X12 kc_X12_fail) hd_X12_fail rfl ⟨Nat.le_of_ble_eq_true rfl, Nat.le_of_ble_eq_true rfl⟩ rfl (Nat.le_of_ble_eq_true rfl) hl.1 hcs0 hf dX12_unit_90 (fun h2 H locs hf hw => ?_)
      exact hR _ _ _ _ _ (Option.some.inj hf) rfl hw dX12_unit_93
    refine lv_aload_n hM.1 hM.2.1 dX12_unit_36 rfl (lv_at hl 0 rfl) ?_
    refine gf_X12_tKind hM hw (okX12.o ho) fl_X12_20 dX12_unit_37 ?_
    refine lv_aload_n hM.1 hM.2.1 dX12_unit_40 rfl (lv_at hl 0 rfl) ?_
    refine gf_X12_t hM hw (okX12.o ho) fl_X12_239 dX12_unit_41 ?_
    refine x_iald hM hw (okX12.tKind ho) hf dX12_unit_44 (fun hf => ?_)
    refine lv_bipush (v := 34) hM.1 hM.2.1 dX12_unit_45 (by decide) ?_
    refine x_ic_lt (tgt := 88) hM hf dX12_unit_47 (by decide) (fun hf => ?_) (fun hf => ?_)
    · refine lv_aload_n hM.1 hM.2.1 dX12_unit_88 rfl (lv_at hl 0 rfl) ?_
      refine lv_iconst (v := 1) hM.1 hM.2.1 dX12_unit_89 ic_1 ?_
      refine x_callVV (rest := []) hM hw (ct_X12_fail l ho 1) [.int 1] (okX12.o ho) rfl rfl rfl (gi_V ml_X12_251 im_X12_fail sl_X12_fail in_X12 kc_X12_fail) hd_X12_fail rfl ⟨Nat.le_of_ble_eq_true rfl, Nat.le_of_ble_eq_true rfl⟩ rfl (Nat.le_of_ble_eq_true rfl) hl.1 hcs0 hf dX12_unit_90 (fun h3 H locs hf hw => ?_)
      exact hR _ _ _ _ _ (Option.some.inj hf) rfl hw dX12_unit_93
    refine lv_aload_n hM.1 hM.2.1 dX12_unit_50 rfl (lv_at hl 0 rfl) ?_
    refine gf_X12_tKind hM hw (okX12.o ho) fl_X12_20 dX12_unit_51 ?_
    refine lv_aload_n hM.1 hM.2.1 dX12_unit_54 rfl (lv_at hl 0 rfl) ?_
    refine gf_X12_t hM hw (okX12.o ho) fl_X12_239 dX12_unit_55 ?_
    refine x_iald hM hw (okX12.tKind ho) hf dX12_unit_58 (fun hf => ?_)
    refine lv_bipush (v := 42) hM.1 hM.2.1 dX12_unit_59 (by decide) ?_
    refine x_ic_gt (tgt := 88) hM hf dX12_unit_61 (by decide) (fun hf => ?_) (fun hf => ?_)
    · refine lv_aload_n hM.1 hM.2.1 dX12_unit_88 rfl (lv_at hl 0 rfl) ?_
      refine lv_iconst (v := 1) hM.1 hM.2.1 dX12_unit_89 ic_1 ?_
      refine x_callVV (rest := []) hM hw (ct_X12_fail l ho 1) [.int 1] (okX12.o ho) rfl rfl rfl (gi_V ml_X12_251 im_X12_fail sl_X12_fail in_X12 kc_X12_fail) hd_X12_fail rfl ⟨Nat.le_of_ble_eq_true rfl, Nat.le_of_ble_eq_true rfl⟩ rfl (Nat.le_of_ble_eq_true rfl) hl.1 hcs0 hf dX12_unit_90 (fun h4 H locs hf hw => ?_)
      exact hR _ _ _ _ _ (Option.some.inj hf) rfl hw dX12_unit_93
    refine lv_aload_n hM.1 hM.2.1 dX12_unit_64 rfl (lv_at hl 0 rfl) ?_
    refine lv_iconst (v := 1) hM.1 hM.2.1 dX12_unit_65 ic_1 ?_
    refine lv_aload_n hM.1 hM.2.1 dX12_unit_66 rfl (lv_at hl 0 rfl) ?_
    refine gf_X12_tKind hM hw (okX12.o ho) fl_X12_20 dX12_unit_67 ?_
    refine lv_aload_n hM.1 hM.2.1 dX12_unit_70 rfl (lv_at hl 0 rfl) ?_
    refine gf_X12_t hM hw (okX12.o ho) fl_X12_239 dX12_unit_71 ?_
    refine x_iald hM hw (okX12.tKind ho) hf dX12_unit_74 (fun hf => ?_)
    refine lv_bipush (v := 34) hM.1 hM.2.1 dX12_unit_75 (by decide) ?_
    refine lv_isub hM.1 hM.2.1 dX12_unit_77 ?_
    refine x_callVV (rest := []) hM hw (ct_X12_emit l ho 1 ((h.1 3 (h.1 0 11).toNatClampNeg) - 34)) [.int 1, .int ((h.1 3 (h.1 0 11).toNatClampNeg) - 34)] (okX12.o ho) rfl rfl rfl (gi_V ml_X12_345 im_X12_emit sl_X12_emit in_X12 kc_X12_emit) hd_X12_emit rfl ⟨Nat.le_of_ble_eq_true rfl, Nat.le_of_ble_eq_true rfl⟩ rfl (Nat.le_of_ble_eq_true rfl) hl.1 hcs0 hf dX12_unit_78 (fun h5 H locs hf hw => ?_)
    refine lv_aload_n hM.1 hM.2.1 dX12_unit_81 rfl (lv_at hl 0 rfl) ?_
    refine x_callVV (rest := []) hM hw (ct_X12_goesOn l ho) [] (okX12.o ho) rfl rfl rfl (gi_V ml_X12_257 im_X12_goesOn sl_X12_goesOn in_X12 kc_X12_goesOn) hd_X12_goesOn rfl ⟨Nat.le_of_ble_eq_true rfl, Nat.le_of_ble_eq_true rfl⟩ rfl (Nat.le_of_ble_eq_true rfl) hl.1 hcs0 hf dX12_unit_82 (fun h6 H locs hf hw => ?_)
    refine lv_goto (tgt := 93) hM.1 hM.2.1 dX12_unit_85 (by decide) ?_
    exact hR _ _ _ _ _ (Option.some.inj hf) rfl hw dX12_unit_93
  refine lv_aload_n hM.1 hM.2.1 dX12_unit_8 rfl (lv_at hl 0 rfl) ?_
  refine lv_iconst (v := 0) hM.1 hM.2.1 dX12_unit_9 ic_0 ?_
  refine lv_aload_n hM.1 hM.2.1 dX12_unit_10 rfl (lv_at hl 0 rfl) ?_
  refine gf_X12_tValue hM hw (okX12.o ho) fl_X12_27 dX12_unit_11 ?_
  refine lv_aload_n hM.1 hM.2.1 dX12_unit_14 rfl (lv_at hl 0 rfl) ?_
  refine gf_X12_t hM hw (okX12.o ho) fl_X12_239 dX12_unit_15 ?_
  refine x_iald hM hw (okX12.tValue ho) hf dX12_unit_18 (fun hf => ?_)
  refine x_callVV (rest := []) hM hw (ct_X12_emit l ho 0 (h.1 5 (h.1 0 11).toNatClampNeg)) [.int 0, .int (h.1 5 (h.1 0 11).toNatClampNeg)] (okX12.o ho) rfl rfl rfl (gi_V ml_X12_345 im_X12_emit sl_X12_emit in_X12 kc_X12_emit) hd_X12_emit rfl ⟨Nat.le_of_ble_eq_true rfl, Nat.le_of_ble_eq_true rfl⟩ rfl (Nat.le_of_ble_eq_true rfl) hl.1 hcs0 hf dX12_unit_19 (fun h7 H locs hf hw => ?_)
  refine lv_aload_n hM.1 hM.2.1 dX12_unit_22 rfl (lv_at hl 0 rfl) ?_
  refine x_callVV (rest := []) hM hw (ct_X12_goesOn l ho) [] (okX12.o ho) rfl rfl rfl (gi_V ml_X12_257 im_X12_goesOn sl_X12_goesOn in_X12 kc_X12_goesOn) hd_X12_goesOn rfl ⟨Nat.le_of_ble_eq_true rfl, Nat.le_of_ble_eq_true rfl⟩ rfl (Nat.le_of_ble_eq_true rfl) hl.1 hcs0 hf dX12_unit_23 (fun h8 H locs hf hw => ?_)
  refine lv_goto (tgt := 93) hM.1 hM.2.1 dX12_unit_26 (by decide) ?_
  exact hR _ _ _ _ _ (Option.some.inj hf) rfl hw dX12_unit_93
theorem hd_X12_unit : yX12_unit.cls = RX12 ∧ yX12_unit.cls ≠ "java/lang/invoke/MethodHandle" ∧ yX12_unit.cls ≠ "java/lang/invoke/VarHandle" ∧ (parseMethodDescriptor yX12_unit.desc).map (fun d => d.parameters.length) = some 0 := ⟨rfl, by decide, by decide, by decide +kernel⟩
theorem dX12_comesOut_0 : decode cX12_comesOut 0 = .ok (.aload_n 0, 1) := by decide +kernel
theorem dX12_comesOut_1 : decode cX12_comesOut 1 = .ok (.getfield 342, 3) := by decide +kernel
theorem dX12_comesOut_4 : decode cX12_comesOut 4 = .ok (.ifCond .le 87, 3) := by decide +kernel
theorem dX12_comesOut_7 : decode cX12_comesOut 7 = .ok (.aload_n 0, 1) := by decide +kernel
theorem dX12_comesOut_8 : decode cX12_comesOut 8 = .ok (.getfield 137, 3) := by decide +kernel
theorem dX12_comesOut_11 : decode cX12_comesOut 11 = .ok (.aload_n 0, 1) := by decide +kernel
theorem dX12_comesOut_12 : decode cX12_comesOut 12 = .ok (.getfield 342, 3) := by decide +kernel
theorem dX12_comesOut_15 : decode cX12_comesOut 15 = .ok (.iconst 1, 1) := by decide +kernel
theorem dX12_comesOut_16 : decode cX12_comesOut 16 = .ok (.isub, 1) := by decide +kernel
theorem dX12_comesOut_17 : decode cX12_comesOut 17 = .ok (.iaload, 1) := by decide +kernel
theorem dX12_comesOut_18 : decode cX12_comesOut 18 = .ok (.istore_n 2, 1) := by decide +kernel
theorem dX12_comesOut_19 : decode cX12_comesOut 19 = .ok (.iload_n 2, 1) := by decide +kernel
theorem dX12_comesOut_20 : decode cX12_comesOut 20 = .ok (.bipush 6, 2) := by decide +kernel
theorem dX12_comesOut_22 : decode cX12_comesOut 22 = .ok (.if_icmp .eq 19, 3) := by decide +kernel
theorem dX12_comesOut_25 : decode cX12_comesOut 25 = .ok (.iload_n 1, 1) := by decide +kernel
theorem dX12_comesOut_26 : decode cX12_comesOut 26 = .ok (.ifCond .eq 16, 3) := by decide +kernel
theorem dX12_comesOut_29 : decode cX12_comesOut 29 = .ok (.iload_n 2, 1) := by decide +kernel
theorem dX12_comesOut_30 : decode cX12_comesOut 30 = .ok (.bipush 8, 2) := by decide +kernel
theorem dX12_comesOut_32 : decode cX12_comesOut 32 = .ok (.if_icmp .eq 9, 3) := by decide +kernel
theorem dX12_comesOut_35 : decode cX12_comesOut 35 = .ok (.iload_n 2, 1) := by decide +kernel
theorem dX12_comesOut_36 : decode cX12_comesOut 36 = .ok (.bipush 9, 2) := by decide +kernel
theorem dX12_comesOut_38 : decode cX12_comesOut 38 = .ok (.if_icmp .ne 4, 3) := by decide +kernel
theorem dX12_comesOut_41 : decode cX12_comesOut 41 = .ok (.return_, 1) := by decide +kernel
theorem dX12_comesOut_42 : decode cX12_comesOut 42 = .ok (.aload_n 0, 1) := by decide +kernel
theorem dX12_comesOut_43 : decode cX12_comesOut 43 = .ok (.dup, 1) := by decide +kernel
theorem dX12_comesOut_44 : decode cX12_comesOut 44 = .ok (.getfield 342, 3) := by decide +kernel
theorem dX12_comesOut_47 : decode cX12_comesOut 47 = .ok (.iconst 1, 1) := by decide +kernel
theorem dX12_comesOut_48 : decode cX12_comesOut 48 = .ok (.isub, 1) := by decide +kernel
theorem dX12_comesOut_49 : decode cX12_comesOut 49 = .ok (.putfield 342, 3) := by decide +kernel
theorem dX12_comesOut_52 : decode cX12_comesOut 52 = .ok (.aload_n 0, 1) := by decide +kernel
theorem dX12_comesOut_53 : decode cX12_comesOut 53 = .ok (.iload_n 2, 1) := by decide +kernel
theorem dX12_comesOut_54 : decode cX12_comesOut 54 = .ok (.bipush 8, 2) := by decide +kernel
theorem dX12_comesOut_56 : decode cX12_comesOut 56 = .ok (.if_icmp .ne 7, 3) := by decide +kernel
theorem dX12_comesOut_59 : decode cX12_comesOut 59 = .ok (.iconst 2, 1) := by decide +kernel
theorem dX12_comesOut_60 : decode cX12_comesOut 60 = .ok (.goto 24, 3) := by decide +kernel
theorem dX12_comesOut_63 : decode cX12_comesOut 63 = .ok (.iload_n 2, 1) := by decide +kernel
theorem dX12_comesOut_64 : decode cX12_comesOut 64 = .ok (.bipush 9, 2) := by decide +kernel
theorem dX12_comesOut_66 : decode cX12_comesOut 66 = .ok (.if_icmp .ne 7, 3) := by decide +kernel
theorem dX12_comesOut_69 : decode cX12_comesOut 69 = .ok (.iconst 3, 1) := by decide +kernel
theorem dX12_comesOut_70 : decode cX12_comesOut 70 = .ok (.goto 14, 3) := by decide +kernel
theorem dX12_comesOut_73 : decode cX12_comesOut 73 = .ok (.iload_n 2, 1) := by decide +kernel
theorem dX12_comesOut_74 : decode cX12_comesOut 74 = .ok (.bipush 10, 2) := by decide +kernel
theorem dX12_comesOut_76 : decode cX12_comesOut 76 = .ok (.if_icmp .ne 7, 3) := by decide +kernel
theorem dX12_comesOut_79 : decode cX12_comesOut 79 = .ok (.iconst 4, 1) := by decide +kernel
theorem dX12_comesOut_80 : decode cX12_comesOut 80 = .ok (.goto 4, 3) := by decide +kernel
theorem dX12_comesOut_83 : decode cX12_comesOut 83 = .ok (.iconst 5, 1) := by decide +kernel
theorem dX12_comesOut_84 : decode cX12_comesOut 84 = .ok (.iconst 0, 1) := by decide +kernel
theorem dX12_comesOut_85 : decode cX12_comesOut 85 = .ok (.invokevirtual 345, 3) := by decide +kernel
theorem dX12_comesOut_88 : decode cX12_comesOut 88 = .ok (.goto (-88), 3) := by decide +kernel
theorem dX12_comesOut_91 : decode cX12_comesOut 91 = .ok (.return_, 1) := by decide +kernel
def c_X12_comesOut_j42 {ρ : Type}  (z1 : Int32) (K1 : PH → Option ρ) (K2 : PH → Option ρ) (REC : PH → Option ρ) (x2 : Int32) (h : PH) : Option (ρ) :=
  nm (setI h 0 56 ((h.1 0 56) - 1)) fun h2 =>
  if x2 = 8 then
    (c_X12_emit 2 0 h2).bind fun h6 =>
    REC h6
  else
    if x2 = 9 then
      (c_X12_emit 3 0 h2).bind fun h5 =>
      REC h5
    else
      if x2 = 10 then
        (c_X12_emit 4 0 h2).bind fun h4 =>
        REC h4
      else
        (c_X12_emit 5 0 h2).bind fun h3 =>
        REC h3
set_option maxHeartbeats 4000000 in
set_option maxRecDepth 100000 in
theorem w_X12_comesOut_j42 {p0 : Program} {l : Launch} {e : Env} {s : State} {m : MethodId} {args : Array Value} {below : List Frame} {meth : Method} {c : Code} {Q : State → Prop} {D : va_G} {G : GG} {A : Nat → Prop} {H0 : Heap} {ad : Nat → Nat} {lay : List KK} {X : va_W} {ρ : Type} {r0 : ρ} {x2 : Int32} {z1 : Int32} {h : PH} {H : Heap} {locs : List Loc} {ls : Array Slot} {K1 : PH → Option ρ} {K2 : PH → Option ρ} {REC : PH → Option ρ} (hM : CallFix p0 m c cX12_comesOut 3 s args lw_g RX12) (ho : okX12 lay) (hk1 : ∀ (h : PH), ∀ (H : Heap) (locs : List Loc) (ls : Array Slot), K1 h = some r0 → Wd D G A H0 ad lay X h s H locs → lv_has ls 3 [] → W p0 l e (rmN 1 22) s m args below meth c H locs 0 0 Q (F0 m 41 ls [])) (hk2 : ∀ (h : PH), ∀ (H : Heap) (locs : List Loc) (ls : Array Slot), K2 h = some r0 → Wd D G A H0 ad lay X h s H locs → lv_has ls 3 [] → W p0 l e (rmN 1 22) s m args below meth c H locs 0 0 Q (F0 m 91 ls [])) (hrec : ∀ (h : PH), ∀ (H : Heap) (locs : List Loc) (ls : Array Slot), REC h = some r0 → Wd D G A H0 ad lay X h s H locs → lv_has ls 3 [(0, .ref (ad 0)), (1, .int z1)] → W p0 l e (rmN 1 22) s m args below meth c H locs 0 0 Q (F0 m 0 ls [])) (hw : Wd D G A H0 ad lay X h s H locs) (hl : lv_has ls 3 [(0, .ref (ad 0)), (1, .int z1), (2, .int x2)]) (hf : c_X12_comesOut_j42 z1 K1 K2 REC x2 h = some r0) : W p0 l e (rmN 1 22) s m args below meth c H locs 0 0 Q (F0 m 42 ls []) := by
  unfold c_X12_comesOut_j42 at hf
  refine lv_aload_n hM.1 hM.2.1 dX12_comesOut_42 rfl (lv_at hl 0 rfl) ?_
  refine lv_dup hM.1 hM.2.1 dX12_comesOut_43 rfl ?_
  refine gf_X12_waiting hM hw (okX12.o ho) fl_X12_342 dX12_comesOut_44 ?_
  refine lv_iconst (v := 1) hM.1 hM.2.1 dX12_comesOut_47 ic_1 ?_
  refine lv_isub hM.1 hM.2.1 dX12_comesOut_48 ?_
  refine pf_X12_waiting hM hw (okX12.o ho) fl_X12_342 hf dX12_comesOut_49 (fun h2 H locs hf hw => ?_)
  refine lv_aload_n hM.1 hM.2.1 dX12_comesOut_52 rfl (lv_at hl 0 rfl) ?_
  refine lv_iload_n hM.1 hM.2.1 dX12_comesOut_53 rfl (lv_at hl 2 rfl) ?_
  refine lv_bipush (v := 8) hM.1 hM.2.1 dX12_comesOut_54 (by decide) ?_
  refine x_ic_ne (tgt := 63) hM hf dX12_comesOut_56 (by decide) (fun hf => ?_) (fun hf => ?_)
  · refine lv_iload_n hM.1 hM.2.1 dX12_comesOut_63 rfl (lv_at hl 2 rfl) ?_
    refine lv_bipush (v := 9) hM.1 hM.2.1 dX12_comesOut_64 (by decide) ?_
    refine x_ic_ne (tgt := 73) hM hf dX12_comesOut_66 (by decide) (fun hf => ?_) (fun hf => ?_)
    · refine lv_iload_n hM.1 hM.2.1 dX12_comesOut_73 rfl (lv_at hl 2 rfl) ?_
      refine lv_bipush (v := 10) hM.1 hM.2.1 dX12_comesOut_74 (by decide) ?_
      refine x_ic_ne (tgt := 83) hM hf dX12_comesOut_76 (by decide) (fun hf => ?_) (fun hf => ?_)
      · refine lv_iconst (v := 5) hM.1 hM.2.1 dX12_comesOut_83 ic_5 ?_
        refine lv_iconst (v := 0) hM.1 hM.2.1 dX12_comesOut_84 ic_0 ?_
        refine x_callVV (rest := []) hM hw (ct_X12_emit l ho 5 0) [.int 5, .int 0] (okX12.o ho) rfl rfl rfl (gi_V ml_X12_345 im_X12_emit sl_X12_emit in_X12 kc_X12_emit) hd_X12_emit rfl ⟨Nat.le_of_ble_eq_true rfl, Nat.le_of_ble_eq_true rfl⟩ rfl (Nat.le_of_ble_eq_true rfl) hl.1 hcs0 hf dX12_comesOut_85 (fun h3 H locs hf hw => ?_)
        refine lv_goto (tgt := 0) hM.1 hM.2.1 dX12_comesOut_88 (by decide) ?_
        exact hrec _ _ _ _ hf hw (lv_sub hl [0, 1] rfl)
      refine lv_iconst (v := 4) hM.1 hM.2.1 dX12_comesOut_79 ic_4 ?_
      refine lv_goto (tgt := 84) hM.1 hM.2.1 dX12_comesOut_80 (by decide) ?_
      refine lv_iconst (v := 0) hM.1 hM.2.1 dX12_comesOut_84 ic_0 ?_
      refine x_callVV (rest := []) hM hw (ct_X12_emit l ho 4 0) [.int 4, .int 0] (okX12.o ho) rfl rfl rfl (gi_V ml_X12_345 im_X12_emit sl_X12_emit in_X12 kc_X12_emit) hd_X12_emit rfl ⟨Nat.le_of_ble_eq_true rfl, Nat.le_of_ble_eq_true rfl⟩ rfl (Nat.le_of_ble_eq_true rfl) hl.1 hcs0 hf dX12_comesOut_85 (fun h4 H locs hf hw => ?_)
      refine lv_goto (tgt := 0) hM.1 hM.2.1 dX12_comesOut_88 (by decide) ?_
      exact hrec _ _ _ _ hf hw (lv_sub hl [0, 1] rfl)
    refine lv_iconst (v := 3) hM.1 hM.2.1 dX12_comesOut_69 ic_3 ?_
    refine lv_goto (tgt := 84) hM.1 hM.2.1 dX12_comesOut_70 (by decide) ?_
    refine lv_iconst (v := 0) hM.1 hM.2.1 dX12_comesOut_84 ic_0 ?_
    refine x_callVV (rest := []) hM hw (ct_X12_emit l ho 3 0) [.int 3, .int 0] (okX12.o ho) rfl rfl rfl (gi_V ml_X12_345 im_X12_emit sl_X12_emit in_X12 kc_X12_emit) hd_X12_emit rfl ⟨Nat.le_of_ble_eq_true rfl, Nat.le_of_ble_eq_true rfl⟩ rfl (Nat.le_of_ble_eq_true rfl) hl.1 hcs0 hf dX12_comesOut_85 (fun h5 H locs hf hw => ?_)
    refine lv_goto (tgt := 0) hM.1 hM.2.1 dX12_comesOut_88 (by decide) ?_
    exact hrec _ _ _ _ hf hw (lv_sub hl [0, 1] rfl)
  refine lv_iconst (v := 2) hM.1 hM.2.1 dX12_comesOut_59 ic_2 ?_
  refine lv_goto (tgt := 84) hM.1 hM.2.1 dX12_comesOut_60 (by decide) ?_
  refine lv_iconst (v := 0) hM.1 hM.2.1 dX12_comesOut_84 ic_0 ?_
  refine x_callVV (rest := []) hM hw (ct_X12_emit l ho 2 0) [.int 2, .int 0] (okX12.o ho) rfl rfl rfl (gi_V ml_X12_345 im_X12_emit sl_X12_emit in_X12 kc_X12_emit) hd_X12_emit rfl ⟨Nat.le_of_ble_eq_true rfl, Nat.le_of_ble_eq_true rfl⟩ rfl (Nat.le_of_ble_eq_true rfl) hl.1 hcs0 hf dX12_comesOut_85 (fun h6 H locs hf hw => ?_)
  refine lv_goto (tgt := 0) hM.1 hM.2.1 dX12_comesOut_88 (by decide) ?_
  exact hrec _ _ _ _ hf hw (lv_sub hl [0, 1] rfl)
def c_X12_comesOut_L0b {ρ : Type}  (z1 : Int32) (K1 : PH → Option ρ) (K2 : PH → Option ρ) (REC : PH → Option ρ) (h : PH) : Option ρ :=
  if (h.1 0 56) ≤ 0 then
    K2 h
  else
    gd (ixOK ((h.1 0 56) - 1) 64) <|
    nm (h.1 40 ((h.1 0 56) - 1).toNatClampNeg) fun v1 =>
    if v1 = 6 then
      K1 h
    else
      if z1 = 0 then
        c_X12_comesOut_j42 z1 K1 K2 REC v1 h
      else
        if v1 = 8 then
          K1 h
        else
          if v1 = 9 then
            K1 h
          else
            c_X12_comesOut_j42 z1 K1 K2 REC v1 h
set_option maxHeartbeats 4000000 in
set_option maxRecDepth 100000 in
theorem w_X12_comesOut_L0b {p0 : Program} {l : Launch} {e : Env} {s : State} {m : MethodId} {args : Array Value} {below : List Frame} {meth : Method} {c : Code} {Q : State → Prop} {D : va_G} {G : GG} {A : Nat → Prop} {H0 : Heap} {ad : Nat → Nat} {lay : List KK} {X : va_W} {ρ : Type} {r0 : ρ} {z1 : Int32} {h : PH} {H : Heap} {locs : List Loc} {ls : Array Slot} {K1 : PH → Option ρ} {K2 : PH → Option ρ} {REC : PH → Option ρ} (hM : CallFix p0 m c cX12_comesOut 3 s args lw_g RX12) (ho : okX12 lay) (hk1 : ∀ (h : PH), ∀ (H : Heap) (locs : List Loc) (ls : Array Slot), K1 h = some r0 → Wd D G A H0 ad lay X h s H locs → lv_has ls 3 [] → W p0 l e (rmN 1 22) s m args below meth c H locs 0 0 Q (F0 m 41 ls [])) (hk2 : ∀ (h : PH), ∀ (H : Heap) (locs : List Loc) (ls : Array Slot), K2 h = some r0 → Wd D G A H0 ad lay X h s H locs → lv_has ls 3 [] → W p0 l e (rmN 1 22) s m args below meth c H locs 0 0 Q (F0 m 91 ls [])) (hrec : ∀ (h : PH), ∀ (H : Heap) (locs : List Loc) (ls : Array Slot), REC h = some r0 → Wd D G A H0 ad lay X h s H locs → lv_has ls 3 [(0, .ref (ad 0)), (1, .int z1)] → W p0 l e (rmN 1 22) s m args below meth c H locs 0 0 Q (F0 m 0 ls [])) (hw : Wd D G A H0 ad lay X h s H locs) (hl : lv_has ls 3 [(0, .ref (ad 0)), (1, .int z1)]) (hf : c_X12_comesOut_L0b z1 K1 K2 REC h = some r0) : W p0 l e (rmN 1 22) s m args below meth c H locs 0 0 Q (F0 m 0 ls []) := by
  unfold c_X12_comesOut_L0b at hf
  refine lv_aload_n hM.1 hM.2.1 dX12_comesOut_0 rfl (lv_at hl 0 rfl) ?_
  refine gf_X12_waiting hM hw (okX12.o ho) fl_X12_342 dX12_comesOut_1 ?_
  refine x_if_le (tgt := 91) hM hf dX12_comesOut_4 (by decide) (fun hf => ?_) (fun hf => ?_)
  · exact hk2 _ _ _ _ hf hw (lv_sub hl [] rfl)
  refine lv_aload_n hM.1 hM.2.1 dX12_comesOut_7 rfl (lv_at hl 0 rfl) ?_
  refine gf_X12_waits hM hw (okX12.o ho) fl_X12_137 dX12_comesOut_8 ?_
  refine lv_aload_n hM.1 hM.2.1 dX12_comesOut_11 rfl (lv_at hl 0 rfl) ?_
  refine gf_X12_waiting hM hw (okX12.o ho) fl_X12_342 dX12_comesOut_12 ?_
  refine lv_iconst (v := 1) hM.1 hM.2.1 dX12_comesOut_15 ic_1 ?_
  refine lv_isub hM.1 hM.2.1 dX12_comesOut_16 ?_
  refine x_iald hM hw (okX12.waits ho) hf dX12_comesOut_17 (fun hf => ?_)
  refine x_istore_n hM hf dX12_comesOut_18 rfl hl (by decide) (fun v1 => [(2, .int v1), (0, .ref (ad 0)), (1, .int z1)]) (fun _ => rfl) (fun v1 ls hf hl => ?_)
  refine lv_iload_n hM.1 hM.2.1 dX12_comesOut_19 rfl (lv_at hl 0 rfl) ?_
  refine lv_bipush (v := 6) hM.1 hM.2.1 dX12_comesOut_20 (by decide) ?_
  refine x_ic_eq (tgt := 41) hM hf dX12_comesOut_22 (by decide) (fun hf => ?_) (fun hf => ?_)
  · exact hk1 _ _ _ _ hf hw (lv_sub hl [] rfl)
  refine lv_iload_n hM.1 hM.2.1 dX12_comesOut_25 rfl (lv_at hl 2 rfl) ?_
  refine x_if_eq (tgt := 42) hM hf dX12_comesOut_26 (by decide) (fun hf => ?_) (fun hf => ?_)
  · exact w_X12_comesOut_j42 hM ho hk1 hk2 hrec hw (lv_sub hl [1, 2, 0] rfl) hf
  refine lv_iload_n hM.1 hM.2.1 dX12_comesOut_29 rfl (lv_at hl 0 rfl) ?_
  refine lv_bipush (v := 8) hM.1 hM.2.1 dX12_comesOut_30 (by decide) ?_
  refine x_ic_eq (tgt := 41) hM hf dX12_comesOut_32 (by decide) (fun hf => ?_) (fun hf => ?_)
  · exact hk1 _ _ _ _ hf hw (lv_sub hl [] rfl)
  refine lv_iload_n hM.1 hM.2.1 dX12_comesOut_35 rfl (lv_at hl 0 rfl) ?_
  refine lv_bipush (v := 9) hM.1 hM.2.1 dX12_comesOut_36 (by decide) ?_
  refine x_ic_ne (tgt := 42) hM hf dX12_comesOut_38 (by decide) (fun hf => ?_) (fun hf => ?_)
  · exact w_X12_comesOut_j42 hM ho hk1 hk2 hrec hw (lv_sub hl [1, 2, 0] rfl) hf
  exact hk1 _ _ _ _ hf hw (lv_sub hl [] rfl)
set_option maxHeartbeats 4000000 in
set_option maxRecDepth 100000 in
theorem w_X12_comesOut_L0 {p0 : Program} {l : Launch} {e : Env} {s : State} {m : MethodId} {args : Array Value} {below : List Frame} {meth : Method} {c : Code} {Q : State → Prop} {D : va_G} {G : GG} {A : Nat → Prop} {H0 : Heap} {ad : Nat → Nat} {lay : List KK} {X : va_W} {ρ : Type} {r0 : ρ} {z1 : Int32} {K1 : PH → Option ρ} {K2 : PH → Option ρ} (hM : CallFix p0 m c cX12_comesOut 3 s args lw_g RX12) (ho : okX12 lay) (hk1 : ∀ (h : PH), ∀ (H : Heap) (locs : List Loc) (ls : Array Slot), K1 h = some r0 → Wd D G A H0 ad lay X h s H locs → lv_has ls 3 [] → W p0 l e (rmN 1 22) s m args below meth c H locs 0 0 Q (F0 m 41 ls [])) (hk2 : ∀ (h : PH), ∀ (H : Heap) (locs : List Loc) (ls : Array Slot), K2 h = some r0 → Wd D G A H0 ad lay X h s H locs → lv_has ls 3 [] → W p0 l e (rmN 1 22) s m args below meth c H locs 0 0 Q (F0 m 91 ls [])) (n : Nat) (h : PH) (hf : lq1 (c_X12_comesOut_L0b z1 K1 K2) n h = some r0) : ∀ (H : Heap) (locs : List Loc) (ls : Array Slot), Wd D G A H0 ad lay X h s H locs → lv_has ls 3 [(0, .ref (ad 0)), (1, .int z1)] → W p0 l e (rmN 1 22) s m args below meth c H locs 0 0 Q (F0 m 0 ls []) := by
  exact lq1_i (fun (h : PH) => ∀ (H : Heap) (locs : List Loc) (ls : Array Slot), Wd D G A H0 ad lay X h s H locs → lv_has ls 3 [(0, .ref (ad 0)), (1, .int z1)] → W p0 l e (rmN 1 22) s m args below meth c H locs 0 0 Q (F0 m 0 ls [])) (fun REC h ih hf H locs ls hw hl => w_X12_comesOut_L0b hM ho hk1 hk2 (fun h H locs ls hf hw hl => ih h hf H locs ls hw hl) hw hl hf) n h hf
def c_X12_comesOut (a1 : Int32) (h : PH) : Option (PH) :=
  lq1 (c_X12_comesOut_L0b a1
    (fun h7 =>
      some h7)
    (fun h8 =>
      some h8)) fu h
set_option maxHeartbeats 4000000 in
set_option maxRecDepth 100000 in
theorem ct_X12_comesOut (l : Launch) {lay : List KK} (ho : okX12 lay) (a1 : Int32) : CtV l yX12_comesOut cX12_comesOut 3 (none) 1 22 lay (fun h => c_X12_comesOut a1 h) (fun ad => [.ref (ad 0), .int a1]) := by
  refine CtV.mk' RX12 (by decide) rfl (fun _ => Nat.le_of_ble_eq_true rfl) ?_
  intro p0 e s m args below meth c D G A H0 ad X h r0 H ls Q hM hw hl hf hR
  have hl : lv_has ls 3 [(0, .ref (ad 0)), (1, .int a1)] := hl
  unfold c_X12_comesOut at hf
  refine w_X12_comesOut_L0 hM ho (fun h7 H locs ls hf hw hl => ?_) (fun h8 H locs ls hf hw hl => ?_) fu _ hf _ _ _ hw hl
  · exact hR _ _ _ _ _ (Option.some.inj hf) rfl hw dX12_comesOut_41
  · exact hR _ _ _ _ _ (Option.some.inj hf) rfl hw dX12_comesOut_91
theorem hd_X12_comesOut : yX12_comesOut.cls = RX12 ∧ yX12_comesOut.cls ≠ "java/lang/invoke/MethodHandle" ∧ yX12_comesOut.cls ≠ "java/lang/invoke/VarHandle" ∧ (parseMethodDescriptor yX12_comesOut.desc).map (fun d => d.parameters.length) = some 1 := ⟨rfl, by decide, by decide, by decide +kernel⟩
theorem dX12_expression_0 : decode cX12_expression 0 = .ok (.aload_n 0, 1) := by decide +kernel
theorem dX12_expression_1 : decode cX12_expression 1 = .ok (.iconst 0, 1) := by decide +kernel
theorem dX12_expression_2 : decode cX12_expression 2 = .ok (.putfield 342, 3) := by decide +kernel
theorem dX12_expression_5 : decode cX12_expression 5 = .ok (.aload_n 0, 1) := by decide +kernel
theorem dX12_expression_6 : decode cX12_expression 6 = .ok (.getfield 263, 3) := by decide +kernel
theorem dX12_expression_9 : decode cX12_expression 9 = .ok (.istore_n 1, 1) := by decide +kernel
theorem dX12_expression_10 : decode cX12_expression 10 = .ok (.iconst 1, 1) := by decide +kernel
theorem dX12_expression_11 : decode cX12_expression 11 = .ok (.istore_n 2, 1) := by decide +kernel
theorem dX12_expression_12 : decode cX12_expression 12 = .ok (.iload_n 2, 1) := by decide +kernel
theorem dX12_expression_13 : decode cX12_expression 13 = .ok (.ifCond .eq 259, 3) := by decide +kernel
theorem dX12_expression_16 : decode cX12_expression 16 = .ok (.aload_n 0, 1) := by decide +kernel
theorem dX12_expression_17 : decode cX12_expression 17 = .ok (.getfield 236, 3) := by decide +kernel
theorem dX12_expression_20 : decode cX12_expression 20 = .ok (.ifCond .ne 252, 3) := by decide +kernel
theorem dX12_expression_23 : decode cX12_expression 23 = .ok (.aload_n 0, 1) := by decide +kernel
theorem dX12_expression_24 : decode cX12_expression 24 = .ok (.bipush 6, 2) := by decide +kernel
theorem dX12_expression_26 : decode cX12_expression 26 = .ok (.invokevirtual 254, 3) := by decide +kernel
theorem dX12_expression_29 : decode cX12_expression 29 = .ok (.ifCond .eq 55, 3) := by decide +kernel
theorem dX12_expression_32 : decode cX12_expression 32 = .ok (.aload_n 0, 1) := by decide +kernel
theorem dX12_expression_33 : decode cX12_expression 33 = .ok (.getfield 263, 3) := by decide +kernel
theorem dX12_expression_36 : decode cX12_expression 36 = .ok (.bipush 6, 2) := by decide +kernel
theorem dX12_expression_38 : decode cX12_expression 38 = .ok (.if_icmp .ne 8, 3) := by decide +kernel
theorem dX12_expression_41 : decode cX12_expression 41 = .ok (.aload_n 0, 1) := by decide +kernel
theorem dX12_expression_42 : decode cX12_expression 42 = .ok (.iconst 2, 1) := by decide +kernel
theorem dX12_expression_43 : decode cX12_expression 43 = .ok (.invokevirtual 251, 3) := by decide +kernel
theorem dX12_expression_46 : decode cX12_expression 46 = .ok (.aload_n 0, 1) := by decide +kernel
theorem dX12_expression_47 : decode cX12_expression 47 = .ok (.dup, 1) := by decide +kernel
theorem dX12_expression_48 : decode cX12_expression 48 = .ok (.getfield 263, 3) := by decide +kernel
theorem dX12_expression_51 : decode cX12_expression 51 = .ok (.iconst 1, 1) := by decide +kernel
theorem dX12_expression_52 : decode cX12_expression 52 = .ok (.iadd, 1) := by decide +kernel
theorem dX12_expression_53 : decode cX12_expression 53 = .ok (.putfield 263, 3) := by decide +kernel
theorem dX12_expression_56 : decode cX12_expression 56 = .ok (.aload_n 0, 1) := by decide +kernel
theorem dX12_expression_57 : decode cX12_expression 57 = .ok (.invokevirtual 257, 3) := by decide +kernel
theorem dX12_expression_60 : decode cX12_expression 60 = .ok (.aload_n 0, 1) := by decide +kernel
theorem dX12_expression_61 : decode cX12_expression 61 = .ok (.getfield 137, 3) := by decide +kernel
theorem dX12_expression_64 : decode cX12_expression 64 = .ok (.aload_n 0, 1) := by decide +kernel
theorem dX12_expression_65 : decode cX12_expression 65 = .ok (.getfield 342, 3) := by decide +kernel
theorem dX12_expression_68 : decode cX12_expression 68 = .ok (.bipush 6, 2) := by decide +kernel
theorem dX12_expression_70 : decode cX12_expression 70 = .ok (.iastore, 1) := by decide +kernel
theorem dX12_expression_71 : decode cX12_expression 71 = .ok (.aload_n 0, 1) := by decide +kernel
theorem dX12_expression_72 : decode cX12_expression 72 = .ok (.dup, 1) := by decide +kernel
theorem dX12_expression_73 : decode cX12_expression 73 = .ok (.getfield 342, 3) := by decide +kernel
theorem dX12_expression_76 : decode cX12_expression 76 = .ok (.iconst 1, 1) := by decide +kernel
theorem dX12_expression_77 : decode cX12_expression 77 = .ok (.iadd, 1) := by decide +kernel
theorem dX12_expression_78 : decode cX12_expression 78 = .ok (.putfield 342, 3) := by decide +kernel
theorem dX12_expression_81 : decode cX12_expression 81 = .ok (.goto (-58), 3) := by decide +kernel
theorem dX12_expression_84 : decode cX12_expression 84 = .ok (.aload_n 0, 1) := by decide +kernel
theorem dX12_expression_85 : decode cX12_expression 85 = .ok (.invokevirtual 348, 3) := by decide +kernel
theorem dX12_expression_88 : decode cX12_expression 88 = .ok (.aload_n 0, 1) := by decide +kernel
theorem dX12_expression_89 : decode cX12_expression 89 = .ok (.getfield 236, 3) := by decide +kernel
theorem dX12_expression_92 : decode cX12_expression 92 = .ok (.ifCond .le 4, 3) := by decide +kernel
theorem dX12_expression_95 : decode cX12_expression 95 = .ok (.return_, 1) := by decide +kernel
theorem dX12_expression_96 : decode cX12_expression 96 = .ok (.aload_n 0, 1) := by decide +kernel
theorem dX12_expression_97 : decode cX12_expression 97 = .ok (.bipush 7, 2) := by decide +kernel
theorem dX12_expression_99 : decode cX12_expression 99 = .ok (.invokevirtual 254, 3) := by decide +kernel
theorem dX12_expression_102 : decode cX12_expression 102 = .ok (.ifCond .eq 43, 3) := by decide +kernel
theorem dX12_expression_105 : decode cX12_expression 105 = .ok (.aload_n 0, 1) := by decide +kernel
theorem dX12_expression_106 : decode cX12_expression 106 = .ok (.getfield 263, 3) := by decide +kernel
theorem dX12_expression_109 : decode cX12_expression 109 = .ok (.iload_n 1, 1) := by decide +kernel
theorem dX12_expression_110 : decode cX12_expression 110 = .ok (.if_icmp .le 35, 3) := by decide +kernel
theorem dX12_expression_113 : decode cX12_expression 113 = .ok (.aload_n 0, 1) := by decide +kernel
theorem dX12_expression_114 : decode cX12_expression 114 = .ok (.iconst 0, 1) := by decide +kernel
theorem dX12_expression_115 : decode cX12_expression 115 = .ok (.invokevirtual 351, 3) := by decide +kernel
theorem dX12_expression_118 : decode cX12_expression 118 = .ok (.aload_n 0, 1) := by decide +kernel
theorem dX12_expression_119 : decode cX12_expression 119 = .ok (.dup, 1) := by decide +kernel
theorem dX12_expression_120 : decode cX12_expression 120 = .ok (.getfield 342, 3) := by decide +kernel
theorem dX12_expression_123 : decode cX12_expression 123 = .ok (.iconst 1, 1) := by decide +kernel
theorem dX12_expression_124 : decode cX12_expression 124 = .ok (.isub, 1) := by decide +kernel
theorem dX12_expression_125 : decode cX12_expression 125 = .ok (.putfield 342, 3) := by decide +kernel
theorem dX12_expression_128 : decode cX12_expression 128 = .ok (.aload_n 0, 1) := by decide +kernel
theorem dX12_expression_129 : decode cX12_expression 129 = .ok (.dup, 1) := by decide +kernel
theorem dX12_expression_130 : decode cX12_expression 130 = .ok (.getfield 263, 3) := by decide +kernel
theorem dX12_expression_133 : decode cX12_expression 133 = .ok (.iconst 1, 1) := by decide +kernel
theorem dX12_expression_134 : decode cX12_expression 134 = .ok (.isub, 1) := by decide +kernel
theorem dX12_expression_135 : decode cX12_expression 135 = .ok (.putfield 263, 3) := by decide +kernel
theorem dX12_expression_138 : decode cX12_expression 138 = .ok (.aload_n 0, 1) := by decide +kernel
theorem dX12_expression_139 : decode cX12_expression 139 = .ok (.invokevirtual 257, 3) := by decide +kernel
theorem dX12_expression_142 : decode cX12_expression 142 = .ok (.goto (-46), 3) := by decide +kernel
theorem dX12_expression_145 : decode cX12_expression 145 = .ok (.aload_n 0, 1) := by decide +kernel
theorem dX12_expression_146 : decode cX12_expression 146 = .ok (.bipush 8, 2) := by decide +kernel
theorem dX12_expression_148 : decode cX12_expression 148 = .ok (.invokevirtual 254, 3) := by decide +kernel
theorem dX12_expression_151 : decode cX12_expression 151 = .ok (.ifCond .ne 30, 3) := by decide +kernel
theorem dX12_expression_154 : decode cX12_expression 154 = .ok (.aload_n 0, 1) := by decide +kernel
theorem dX12_expression_155 : decode cX12_expression 155 = .ok (.bipush 9, 2) := by decide +kernel
theorem dX12_expression_157 : decode cX12_expression 157 = .ok (.invokevirtual 254, 3) := by decide +kernel
theorem dX12_expression_160 : decode cX12_expression 160 = .ok (.ifCond .ne 21, 3) := by decide +kernel
theorem dX12_expression_163 : decode cX12_expression 163 = .ok (.aload_n 0, 1) := by decide +kernel
theorem dX12_expression_164 : decode cX12_expression 164 = .ok (.bipush 10, 2) := by decide +kernel
theorem dX12_expression_166 : decode cX12_expression 166 = .ok (.invokevirtual 254, 3) := by decide +kernel
theorem dX12_expression_169 : decode cX12_expression 169 = .ok (.ifCond .ne 12, 3) := by decide +kernel
theorem dX12_expression_172 : decode cX12_expression 172 = .ok (.aload_n 0, 1) := by decide +kernel
theorem dX12_expression_173 : decode cX12_expression 173 = .ok (.bipush 15, 2) := by decide +kernel
theorem dX12_expression_175 : decode cX12_expression 175 = .ok (.invokevirtual 254, 3) := by decide +kernel
theorem dX12_expression_178 : decode cX12_expression 178 = .ok (.ifCond .eq 7, 3) := by decide +kernel
theorem dX12_expression_181 : decode cX12_expression 181 = .ok (.iconst 1, 1) := by decide +kernel
theorem dX12_expression_182 : decode cX12_expression 182 = .ok (.goto 4, 3) := by decide +kernel
theorem dX12_expression_185 : decode cX12_expression 185 = .ok (.iconst 0, 1) := by decide +kernel
theorem dX12_expression_186 : decode cX12_expression 186 = .ok (.istore_n 2, 1) := by decide +kernel
theorem dX12_expression_187 : decode cX12_expression 187 = .ok (.iload_n 2, 1) := by decide +kernel
theorem dX12_expression_188 : decode cX12_expression 188 = .ok (.ifCond .ne 22, 3) := by decide +kernel
theorem dX12_expression_191 : decode cX12_expression 191 = .ok (.aload_n 0, 1) := by decide +kernel
theorem dX12_expression_192 : decode cX12_expression 192 = .ok (.getfield 263, 3) := by decide +kernel
theorem dX12_expression_195 : decode cX12_expression 195 = .ok (.iload_n 1, 1) := by decide +kernel
theorem dX12_expression_196 : decode cX12_expression 196 = .ok (.if_icmp .le 8, 3) := by decide +kernel
theorem dX12_expression_199 : decode cX12_expression 199 = .ok (.aload_n 0, 1) := by decide +kernel
theorem dX12_expression_200 : decode cX12_expression 200 = .ok (.iconst 1, 1) := by decide +kernel
theorem dX12_expression_201 : decode cX12_expression 201 = .ok (.invokevirtual 251, 3) := by decide +kernel
theorem dX12_expression_204 : decode cX12_expression 204 = .ok (.aload_n 0, 1) := by decide +kernel
theorem dX12_expression_205 : decode cX12_expression 205 = .ok (.iconst 0, 1) := by decide +kernel
theorem dX12_expression_206 : decode cX12_expression 206 = .ok (.invokevirtual 351, 3) := by decide +kernel
theorem dX12_expression_209 : decode cX12_expression 209 = .ok (.return_, 1) := by decide +kernel
theorem dX12_expression_210 : decode cX12_expression 210 = .ok (.aload_n 0, 1) := by decide +kernel
theorem dX12_expression_211 : decode cX12_expression 211 = .ok (.aload_n 0, 1) := by decide +kernel
theorem dX12_expression_212 : decode cX12_expression 212 = .ok (.bipush 10, 2) := by decide +kernel
theorem dX12_expression_214 : decode cX12_expression 214 = .ok (.invokevirtual 254, 3) := by decide +kernel
theorem dX12_expression_217 : decode cX12_expression 217 = .ok (.ifCond .ne 12, 3) := by decide +kernel
theorem dX12_expression_220 : decode cX12_expression 220 = .ok (.aload_n 0, 1) := by decide +kernel
theorem dX12_expression_221 : decode cX12_expression 221 = .ok (.bipush 15, 2) := by decide +kernel
theorem dX12_expression_223 : decode cX12_expression 223 = .ok (.invokevirtual 254, 3) := by decide +kernel
theorem dX12_expression_226 : decode cX12_expression 226 = .ok (.ifCond .eq 7, 3) := by decide +kernel
theorem dX12_expression_229 : decode cX12_expression 229 = .ok (.iconst 1, 1) := by decide +kernel
theorem dX12_expression_230 : decode cX12_expression 230 = .ok (.goto 4, 3) := by decide +kernel
theorem dX12_expression_233 : decode cX12_expression 233 = .ok (.iconst 0, 1) := by decide +kernel
theorem dX12_expression_234 : decode cX12_expression 234 = .ok (.invokevirtual 351, 3) := by decide +kernel
theorem dX12_expression_237 : decode cX12_expression 237 = .ok (.aload_n 0, 1) := by decide +kernel
theorem dX12_expression_238 : decode cX12_expression 238 = .ok (.getfield 137, 3) := by decide +kernel
theorem dX12_expression_241 : decode cX12_expression 241 = .ok (.aload_n 0, 1) := by decide +kernel
theorem dX12_expression_242 : decode cX12_expression 242 = .ok (.getfield 342, 3) := by decide +kernel
theorem dX12_expression_245 : decode cX12_expression 245 = .ok (.aload_n 0, 1) := by decide +kernel
theorem dX12_expression_246 : decode cX12_expression 246 = .ok (.getfield 20, 3) := by decide +kernel
theorem dX12_expression_249 : decode cX12_expression 249 = .ok (.aload_n 0, 1) := by decide +kernel
theorem dX12_expression_250 : decode cX12_expression 250 = .ok (.getfield 239, 3) := by decide +kernel
theorem dX12_expression_253 : decode cX12_expression 253 = .ok (.iaload, 1) := by decide +kernel
theorem dX12_expression_254 : decode cX12_expression 254 = .ok (.iastore, 1) := by decide +kernel
theorem dX12_expression_255 : decode cX12_expression 255 = .ok (.aload_n 0, 1) := by decide +kernel
theorem dX12_expression_256 : decode cX12_expression 256 = .ok (.dup, 1) := by decide +kernel
theorem dX12_expression_257 : decode cX12_expression 257 = .ok (.getfield 342, 3) := by decide +kernel
theorem dX12_expression_260 : decode cX12_expression 260 = .ok (.iconst 1, 1) := by decide +kernel
theorem dX12_expression_261 : decode cX12_expression 261 = .ok (.iadd, 1) := by decide +kernel
theorem dX12_expression_262 : decode cX12_expression 262 = .ok (.putfield 342, 3) := by decide +kernel
theorem dX12_expression_265 : decode cX12_expression 265 = .ok (.aload_n 0, 1) := by decide +kernel
theorem dX12_expression_266 : decode cX12_expression 266 = .ok (.invokevirtual 257, 3) := by decide +kernel
theorem dX12_expression_269 : decode cX12_expression 269 = .ok (.goto (-257), 3) := by decide +kernel
theorem dX12_expression_272 : decode cX12_expression 272 = .ok (.return_, 1) := by decide +kernel
def c_X12_expression_j46 {ρ : Type}  (z1 : Int32) (K1 : PH → Option ρ) (REC : PH → Option ρ) (h : PH) : Option (ρ) :=
  nm (setI h 0 12 ((h.1 0 12) + 1)) fun h5 =>
  (c_X12_goesOn h5).bind fun h6 =>
  gd (ixOK (h6.1 0 56) 64) <| nm (setI h6 40 (h6.1 0 56).toNatClampNeg 6) fun h7 =>
  nm (setI h7 0 56 ((h7.1 0 56) + 1)) fun h8 =>
  REC h8
set_option maxHeartbeats 4000000 in
set_option maxRecDepth 100000 in
theorem w_X12_expression_j46 {p0 : Program} {l : Launch} {e : Env} {s : State} {m : MethodId} {args : Array Value} {below : List Frame} {meth : Method} {c : Code} {Q : State → Prop} {D : va_G} {G : GG} {A : Nat → Prop} {H0 : Heap} {ad : Nat → Nat} {lay : List KK} {X : va_W} {ρ : Type} {r0 : ρ} {z1 : Int32} {h : PH} {H : Heap} {locs : List Loc} {ls : Array Slot} {K1 : PH → Option ρ} {REC : PH → Option ρ} (hM : CallFix p0 m c cX12_expression 3 s args lw_g RX12) (ho : okX12 lay) (hk1 : ∀ (h : PH), ∀ (H : Heap) (locs : List Loc) (ls : Array Slot), K1 h = some r0 → Wd D G A H0 ad lay X h s H locs → lv_has ls 3 [(0, .ref (ad 0)), (1, .int z1)] → W p0 l e (rmN 3 61) s m args below meth c H locs 0 0 Q (F0 m 84 ls [])) (hrec : ∀ (h : PH), ∀ (H : Heap) (locs : List Loc) (ls : Array Slot), REC h = some r0 → Wd D G A H0 ad lay X h s H locs → lv_has ls 3 [(0, .ref (ad 0)), (1, .int z1)] → W p0 l e (rmN 3 61) s m args below meth c H locs 0 0 Q (F0 m 23 ls [])) (hw : Wd D G A H0 ad lay X h s H locs) (hl : lv_has ls 3 [(0, .ref (ad 0)), (1, .int z1)]) (hf : c_X12_expression_j46 z1 K1 REC h = some r0) : W p0 l e (rmN 3 61) s m args below meth c H locs 0 0 Q (F0 m 46 ls []) := by
  unfold c_X12_expression_j46 at hf
  refine lv_aload_n hM.1 hM.2.1 dX12_expression_46 rfl (lv_at hl 0 rfl) ?_
  refine lv_dup hM.1 hM.2.1 dX12_expression_47 rfl ?_
  refine gf_X12_open hM hw (okX12.o ho) fl_X12_263 dX12_expression_48 ?_
  refine lv_iconst (v := 1) hM.1 hM.2.1 dX12_expression_51 ic_1 ?_
  refine lv_iadd hM.1 hM.2.1 dX12_expression_52 ?_
  refine pf_X12_open hM hw (okX12.o ho) fl_X12_263 hf dX12_expression_53 (fun h5 H locs hf hw => ?_)
  refine lv_aload_n hM.1 hM.2.1 dX12_expression_56 rfl (lv_at hl 0 rfl) ?_
  refine x_callVV (rest := []) hM hw (ct_X12_goesOn l ho) [] (okX12.o ho) rfl rfl rfl (gi_V ml_X12_257 im_X12_goesOn sl_X12_goesOn in_X12 kc_X12_goesOn) hd_X12_goesOn rfl ⟨Nat.le_of_ble_eq_true rfl, Nat.le_of_ble_eq_true rfl⟩ rfl (Nat.le_of_ble_eq_true rfl) hl.1 hcs0 hf dX12_expression_57 (fun h6 H locs hf hw => ?_)
  refine lv_aload_n hM.1 hM.2.1 dX12_expression_60 rfl (lv_at hl 0 rfl) ?_
  refine gf_X12_waits hM hw (okX12.o ho) fl_X12_137 dX12_expression_61 ?_
  refine lv_aload_n hM.1 hM.2.1 dX12_expression_64 rfl (lv_at hl 0 rfl) ?_
  refine gf_X12_waiting hM hw (okX12.o ho) fl_X12_342 dX12_expression_65 ?_
  refine lv_bipush (v := 6) hM.1 hM.2.1 dX12_expression_68 (by decide) ?_
  refine x_iast hM hw (okX12.waits ho) hf dX12_expression_70 (fun h7 H locs hf hw => ?_)
  refine lv_aload_n hM.1 hM.2.1 dX12_expression_71 rfl (lv_at hl 0 rfl) ?_
  refine lv_dup hM.1 hM.2.1 dX12_expression_72 rfl ?_
  refine gf_X12_waiting hM hw (okX12.o ho) fl_X12_342 dX12_expression_73 ?_
  refine lv_iconst (v := 1) hM.1 hM.2.1 dX12_expression_76 ic_1 ?_
  refine lv_iadd hM.1 hM.2.1 dX12_expression_77 ?_
  refine pf_X12_waiting hM hw (okX12.o ho) fl_X12_342 hf dX12_expression_78 (fun h8 H locs hf hw => ?_)
  refine lv_goto (tgt := 23) hM.1 hM.2.1 dX12_expression_81 (by decide) ?_
  exact hrec _ _ _ _ hf hw hl
def c_X12_expression_L23b {ρ : Type}  (z1 : Int32) (K1 : PH → Option ρ) (REC : PH → Option ρ) (h : PH) : Option ρ :=
  (c_X12_is 6 h).bind fun r4 =>
  if r4 = 0 then
    K1 h
  else
    if (h.1 0 12) = 6 then
      (c_X12_fail 2 h).bind fun h9 =>
      c_X12_expression_j46 z1 K1 REC h9
    else
      c_X12_expression_j46 z1 K1 REC h
set_option maxHeartbeats 4000000 in
set_option maxRecDepth 100000 in
theorem w_X12_expression_L23b {p0 : Program} {l : Launch} {e : Env} {s : State} {m : MethodId} {args : Array Value} {below : List Frame} {meth : Method} {c : Code} {Q : State → Prop} {D : va_G} {G : GG} {A : Nat → Prop} {H0 : Heap} {ad : Nat → Nat} {lay : List KK} {X : va_W} {ρ : Type} {r0 : ρ} {z1 : Int32} {h : PH} {H : Heap} {locs : List Loc} {ls : Array Slot} {K1 : PH → Option ρ} {REC : PH → Option ρ} (hM : CallFix p0 m c cX12_expression 3 s args lw_g RX12) (ho : okX12 lay) (hk1 : ∀ (h : PH), ∀ (H : Heap) (locs : List Loc) (ls : Array Slot), K1 h = some r0 → Wd D G A H0 ad lay X h s H locs → lv_has ls 3 [(0, .ref (ad 0)), (1, .int z1)] → W p0 l e (rmN 3 61) s m args below meth c H locs 0 0 Q (F0 m 84 ls [])) (hrec : ∀ (h : PH), ∀ (H : Heap) (locs : List Loc) (ls : Array Slot), REC h = some r0 → Wd D G A H0 ad lay X h s H locs → lv_has ls 3 [(0, .ref (ad 0)), (1, .int z1)] → W p0 l e (rmN 3 61) s m args below meth c H locs 0 0 Q (F0 m 23 ls [])) (hw : Wd D G A H0 ad lay X h s H locs) (hl : lv_has ls 3 [(0, .ref (ad 0)), (1, .int z1)]) (hf : c_X12_expression_L23b z1 K1 REC h = some r0) : W p0 l e (rmN 3 61) s m args below meth c H locs 0 0 Q (F0 m 23 ls []) := by
  unfold c_X12_expression_L23b at hf
  refine lv_aload_n hM.1 hM.2.1 dX12_expression_23 rfl (lv_at hl 0 rfl) ?_
  refine lv_bipush (v := 6) hM.1 hM.2.1 dX12_expression_24 (by decide) ?_
  refine x_callVIr (rest := []) hM hw (ct_X12_is l ho 6) [.int 6] (okX12.o ho) rfl rfl rfl (gi_V ml_X12_254 im_X12_is sl_X12_is in_X12 kc_X12_is) hd_X12_is rfl ⟨Nat.le_of_ble_eq_true rfl, Nat.le_of_ble_eq_true rfl⟩ rfl (Nat.le_of_ble_eq_true rfl) hl.1 hcs0 hf dX12_expression_26 (fun r4 H locs hf hw => ?_)
  refine x_if_eq (tgt := 84) hM hf dX12_expression_29 (by decide) (fun hf => ?_) (fun hf => ?_)
  · exact hk1 _ _ _ _ hf hw hl
  refine lv_aload_n hM.1 hM.2.1 dX12_expression_32 rfl (lv_at hl 0 rfl) ?_
  refine gf_X12_open hM hw (okX12.o ho) fl_X12_263 dX12_expression_33 ?_
  refine lv_bipush (v := 6) hM.1 hM.2.1 dX12_expression_36 (by decide) ?_
  refine x_ic_ne (tgt := 46) hM hf dX12_expression_38 (by decide) (fun hf => ?_) (fun hf => ?_)
  · exact w_X12_expression_j46 hM ho hk1 hrec hw hl hf
  refine lv_aload_n hM.1 hM.2.1 dX12_expression_41 rfl (lv_at hl 0 rfl) ?_
  refine lv_iconst (v := 2) hM.1 hM.2.1 dX12_expression_42 ic_2 ?_
  refine x_callVV (rest := []) hM hw (ct_X12_fail l ho 2) [.int 2] (okX12.o ho) rfl rfl rfl (gi_V ml_X12_251 im_X12_fail sl_X12_fail in_X12 kc_X12_fail) hd_X12_fail rfl ⟨Nat.le_of_ble_eq_true rfl, Nat.le_of_ble_eq_true rfl⟩ rfl (Nat.le_of_ble_eq_true rfl) hl.1 hcs0 hf dX12_expression_43 (fun h9 H locs hf hw => ?_)
  exact w_X12_expression_j46 hM ho hk1 hrec hw hl hf
set_option maxHeartbeats 4000000 in
set_option maxRecDepth 100000 in
theorem w_X12_expression_L23 {p0 : Program} {l : Launch} {e : Env} {s : State} {m : MethodId} {args : Array Value} {below : List Frame} {meth : Method} {c : Code} {Q : State → Prop} {D : va_G} {G : GG} {A : Nat → Prop} {H0 : Heap} {ad : Nat → Nat} {lay : List KK} {X : va_W} {ρ : Type} {r0 : ρ} {z1 : Int32} {K1 : PH → Option ρ} (hM : CallFix p0 m c cX12_expression 3 s args lw_g RX12) (ho : okX12 lay) (hk1 : ∀ (h : PH), ∀ (H : Heap) (locs : List Loc) (ls : Array Slot), K1 h = some r0 → Wd D G A H0 ad lay X h s H locs → lv_has ls 3 [(0, .ref (ad 0)), (1, .int z1)] → W p0 l e (rmN 3 61) s m args below meth c H locs 0 0 Q (F0 m 84 ls [])) (n : Nat) (h : PH) (hf : lq1 (c_X12_expression_L23b z1 K1) n h = some r0) : ∀ (H : Heap) (locs : List Loc) (ls : Array Slot), Wd D G A H0 ad lay X h s H locs → lv_has ls 3 [(0, .ref (ad 0)), (1, .int z1)] → W p0 l e (rmN 3 61) s m args below meth c H locs 0 0 Q (F0 m 23 ls []) := by
  exact lq1_i (fun (h : PH) => ∀ (H : Heap) (locs : List Loc) (ls : Array Slot), Wd D G A H0 ad lay X h s H locs → lv_has ls 3 [(0, .ref (ad 0)), (1, .int z1)] → W p0 l e (rmN 3 61) s m args below meth c H locs 0 0 Q (F0 m 23 ls [])) (fun REC h ih hf H locs ls hw hl => w_X12_expression_L23b hM ho hk1 (fun h H locs ls hf hw hl => ih h hf H locs ls hw hl) hw hl hf) n h hf
def c_X12_expression_L96b {ρ : Type}  (z1 : Int32) (K1 : PH → Option ρ) (REC : PH → Option ρ) (h : PH) : Option ρ :=
  (c_X12_is 7 h).bind fun r12 =>
  if r12 = 0 then
    K1 h
  else
    if (h.1 0 12) ≤ z1 then
      K1 h
    else
      (c_X12_comesOut 0 h).bind fun h13 =>
      nm (setI h13 0 56 ((h13.1 0 56) - 1)) fun h14 =>
      nm (setI h14 0 12 ((h14.1 0 12) - 1)) fun h15 =>
      (c_X12_goesOn h15).bind fun h16 =>
      REC h16
set_option maxHeartbeats 4000000 in
set_option maxRecDepth 100000 in
theorem w_X12_expression_L96b {p0 : Program} {l : Launch} {e : Env} {s : State} {m : MethodId} {args : Array Value} {below : List Frame} {meth : Method} {c : Code} {Q : State → Prop} {D : va_G} {G : GG} {A : Nat → Prop} {H0 : Heap} {ad : Nat → Nat} {lay : List KK} {X : va_W} {ρ : Type} {r0 : ρ} {z1 : Int32} {h : PH} {H : Heap} {locs : List Loc} {ls : Array Slot} {K1 : PH → Option ρ} {REC : PH → Option ρ} (hM : CallFix p0 m c cX12_expression 3 s args lw_g RX12) (ho : okX12 lay) (hk1 : ∀ (h : PH), ∀ (H : Heap) (locs : List Loc) (ls : Array Slot), K1 h = some r0 → Wd D G A H0 ad lay X h s H locs → lv_has ls 3 [(0, .ref (ad 0)), (1, .int z1)] → W p0 l e (rmN 3 61) s m args below meth c H locs 0 0 Q (F0 m 145 ls [])) (hrec : ∀ (h : PH), ∀ (H : Heap) (locs : List Loc) (ls : Array Slot), REC h = some r0 → Wd D G A H0 ad lay X h s H locs → lv_has ls 3 [(0, .ref (ad 0)), (1, .int z1)] → W p0 l e (rmN 3 61) s m args below meth c H locs 0 0 Q (F0 m 96 ls [])) (hw : Wd D G A H0 ad lay X h s H locs) (hl : lv_has ls 3 [(0, .ref (ad 0)), (1, .int z1)]) (hf : c_X12_expression_L96b z1 K1 REC h = some r0) : W p0 l e (rmN 3 61) s m args below meth c H locs 0 0 Q (F0 m 96 ls []) := by
  unfold c_X12_expression_L96b at hf
  refine lv_aload_n hM.1 hM.2.1 dX12_expression_96 rfl (lv_at hl 0 rfl) ?_
  refine lv_bipush (v := 7) hM.1 hM.2.1 dX12_expression_97 (by decide) ?_
  refine x_callVIr (rest := []) hM hw (ct_X12_is l ho 7) [.int 7] (okX12.o ho) rfl rfl rfl (gi_V ml_X12_254 im_X12_is sl_X12_is in_X12 kc_X12_is) hd_X12_is rfl ⟨Nat.le_of_ble_eq_true rfl, Nat.le_of_ble_eq_true rfl⟩ rfl (Nat.le_of_ble_eq_true rfl) hl.1 hcs0 hf dX12_expression_99 (fun r12 H locs hf hw => ?_)
  refine x_if_eq (tgt := 145) hM hf dX12_expression_102 (by decide) (fun hf => ?_) (fun hf => ?_)
  · exact hk1 _ _ _ _ hf hw hl
  refine lv_aload_n hM.1 hM.2.1 dX12_expression_105 rfl (lv_at hl 0 rfl) ?_
  refine gf_X12_open hM hw (okX12.o ho) fl_X12_263 dX12_expression_106 ?_
  refine lv_iload_n hM.1 hM.2.1 dX12_expression_109 rfl (lv_at hl 1 rfl) ?_
  refine x_ic_le (tgt := 145) hM hf dX12_expression_110 (by decide) (fun hf => ?_) (fun hf => ?_)
  · exact hk1 _ _ _ _ hf hw hl
  refine lv_aload_n hM.1 hM.2.1 dX12_expression_113 rfl (lv_at hl 0 rfl) ?_
  refine lv_iconst (v := 0) hM.1 hM.2.1 dX12_expression_114 ic_0 ?_
  refine x_callVV (rest := []) hM hw (ct_X12_comesOut l ho 0) [.int 0] (okX12.o ho) rfl rfl rfl (gi_V ml_X12_351 im_X12_comesOut sl_X12_comesOut in_X12 kc_X12_comesOut) hd_X12_comesOut rfl ⟨Nat.le_of_ble_eq_true rfl, Nat.le_of_ble_eq_true rfl⟩ rfl (Nat.le_of_ble_eq_true rfl) hl.1 hcs0 hf dX12_expression_115 (fun h13 H locs hf hw => ?_)
  refine lv_aload_n hM.1 hM.2.1 dX12_expression_118 rfl (lv_at hl 0 rfl) ?_
  refine lv_dup hM.1 hM.2.1 dX12_expression_119 rfl ?_
  refine gf_X12_waiting hM hw (okX12.o ho) fl_X12_342 dX12_expression_120 ?_
  refine lv_iconst (v := 1) hM.1 hM.2.1 dX12_expression_123 ic_1 ?_
  refine lv_isub hM.1 hM.2.1 dX12_expression_124 ?_
  refine pf_X12_waiting hM hw (okX12.o ho) fl_X12_342 hf dX12_expression_125 (fun h14 H locs hf hw => ?_)
  refine lv_aload_n hM.1 hM.2.1 dX12_expression_128 rfl (lv_at hl 0 rfl) ?_
  refine lv_dup hM.1 hM.2.1 dX12_expression_129 rfl ?_
  refine gf_X12_open hM hw (okX12.o ho) fl_X12_263 dX12_expression_130 ?_
  refine lv_iconst (v := 1) hM.1 hM.2.1 dX12_expression_133 ic_1 ?_
  refine lv_isub hM.1 hM.2.1 dX12_expression_134 ?_
  refine pf_X12_open hM hw (okX12.o ho) fl_X12_263 hf dX12_expression_135 (fun h15 H locs hf hw => ?_)
  refine lv_aload_n hM.1 hM.2.1 dX12_expression_138 rfl (lv_at hl 0 rfl) ?_
  refine x_callVV (rest := []) hM hw (ct_X12_goesOn l ho) [] (okX12.o ho) rfl rfl rfl (gi_V ml_X12_257 im_X12_goesOn sl_X12_goesOn in_X12 kc_X12_goesOn) hd_X12_goesOn rfl ⟨Nat.le_of_ble_eq_true rfl, Nat.le_of_ble_eq_true rfl⟩ rfl (Nat.le_of_ble_eq_true rfl) hl.1 hcs0 hf dX12_expression_139 (fun h16 H locs hf hw => ?_)
  refine lv_goto (tgt := 96) hM.1 hM.2.1 dX12_expression_142 (by decide) ?_
  exact hrec _ _ _ _ hf hw hl
set_option maxHeartbeats 4000000 in
set_option maxRecDepth 100000 in
theorem w_X12_expression_L96 {p0 : Program} {l : Launch} {e : Env} {s : State} {m : MethodId} {args : Array Value} {below : List Frame} {meth : Method} {c : Code} {Q : State → Prop} {D : va_G} {G : GG} {A : Nat → Prop} {H0 : Heap} {ad : Nat → Nat} {lay : List KK} {X : va_W} {ρ : Type} {r0 : ρ} {z1 : Int32} {K1 : PH → Option ρ} (hM : CallFix p0 m c cX12_expression 3 s args lw_g RX12) (ho : okX12 lay) (hk1 : ∀ (h : PH), ∀ (H : Heap) (locs : List Loc) (ls : Array Slot), K1 h = some r0 → Wd D G A H0 ad lay X h s H locs → lv_has ls 3 [(0, .ref (ad 0)), (1, .int z1)] → W p0 l e (rmN 3 61) s m args below meth c H locs 0 0 Q (F0 m 145 ls [])) (n : Nat) (h : PH) (hf : lq1 (c_X12_expression_L96b z1 K1) n h = some r0) : ∀ (H : Heap) (locs : List Loc) (ls : Array Slot), Wd D G A H0 ad lay X h s H locs → lv_has ls 3 [(0, .ref (ad 0)), (1, .int z1)] → W p0 l e (rmN 3 61) s m args below meth c H locs 0 0 Q (F0 m 96 ls []) := by
  exact lq1_i (fun (h : PH) => ∀ (H : Heap) (locs : List Loc) (ls : Array Slot), Wd D G A H0 ad lay X h s H locs → lv_has ls 3 [(0, .ref (ad 0)), (1, .int z1)] → W p0 l e (rmN 3 61) s m args below meth c H locs 0 0 Q (F0 m 96 ls [])) (fun REC h ih hf H locs ls hw hl => w_X12_expression_L96b hM ho hk1 (fun h H locs ls hf hw hl => ih h hf H locs ls hw hl) hw hl hf) n h hf
def c_X12_expression_j234 {ρ : Type}  (z1 : Int32) (K1 : PH → Option ρ) (K2 : PH → Option ρ) (K3 : PH → Option ρ) (REC : Int32 → PH → Option ρ) (x2 : Int32) (y0 : Int32) (h : PH) : Option (ρ) :=
  (c_X12_comesOut y0 h).bind fun h21 =>
  gd (ixOK (h21.1 0 11) 403) <|
  gd (ixOK (h21.1 0 56) 64) <| nm (setI h21 40 (h21.1 0 56).toNatClampNeg (h21.1 3 (h21.1 0 11).toNatClampNeg)) fun h22 =>
  nm (setI h22 0 56 ((h22.1 0 56) + 1)) fun h23 =>
  (c_X12_goesOn h23).bind fun h24 =>
  REC x2 h24
set_option maxHeartbeats 4000000 in
set_option maxRecDepth 100000 in
theorem w_X12_expression_j234 {p0 : Program} {l : Launch} {e : Env} {s : State} {m : MethodId} {args : Array Value} {below : List Frame} {meth : Method} {c : Code} {Q : State → Prop} {D : va_G} {G : GG} {A : Nat → Prop} {H0 : Heap} {ad : Nat → Nat} {lay : List KK} {X : va_W} {ρ : Type} {r0 : ρ} {x2 : Int32} {z1 : Int32} {y0 : Int32} {h : PH} {H : Heap} {locs : List Loc} {ls : Array Slot} {K1 : PH → Option ρ} {K2 : PH → Option ρ} {K3 : PH → Option ρ} {REC : Int32 → PH → Option ρ} (hM : CallFix p0 m c cX12_expression 3 s args lw_g RX12) (ho : okX12 lay) (hk1 : ∀ (h : PH), ∀ (H : Heap) (locs : List Loc) (ls : Array Slot), K1 h = some r0 → Wd D G A H0 ad lay X h s H locs → lv_has ls 3 [] → W p0 l e (rmN 3 61) s m args below meth c H locs 0 0 Q (F0 m 95 ls [])) (hk2 : ∀ (h : PH), ∀ (H : Heap) (locs : List Loc) (ls : Array Slot), K2 h = some r0 → Wd D G A H0 ad lay X h s H locs → lv_has ls 3 [(0, .ref (ad 0)), (1, .int z1)] → W p0 l e (rmN 3 61) s m args below meth c H locs 0 0 Q (F0 m 191 ls [])) (hk3 : ∀ (h : PH), ∀ (H : Heap) (locs : List Loc) (ls : Array Slot), K3 h = some r0 → Wd D G A H0 ad lay X h s H locs → lv_has ls 3 [] → W p0 l e (rmN 3 61) s m args below meth c H locs 0 0 Q (F0 m 272 ls [])) (hrec : ∀ (x2 : Int32) (h : PH), ∀ (H : Heap) (locs : List Loc) (ls : Array Slot), REC x2 h = some r0 → Wd D G A H0 ad lay X h s H locs → lv_has ls 3 [(0, .ref (ad 0)), (1, .int z1), (2, .int x2)] → W p0 l e (rmN 3 61) s m args below meth c H locs 0 0 Q (F0 m 12 ls [])) (hw : Wd D G A H0 ad lay X h s H locs) (hl : lv_has ls 3 [(0, .ref (ad 0)), (1, .int z1), (2, .int x2)]) (hf : c_X12_expression_j234 z1 K1 K2 K3 REC x2 y0 h = some r0) : W p0 l e (rmN 3 61) s m args below meth c H locs 0 0 Q (F0 m 234 ls [.int y0, .ref (ad 0)]) := by
  unfold c_X12_expression_j234 at hf
  refine x_callVV (rest := []) hM hw (ct_X12_comesOut l ho y0) [.int y0] (okX12.o ho) rfl rfl rfl (gi_V ml_X12_351 im_X12_comesOut sl_X12_comesOut in_X12 kc_X12_comesOut) hd_X12_comesOut rfl ⟨Nat.le_of_ble_eq_true rfl, Nat.le_of_ble_eq_true rfl⟩ rfl (Nat.le_of_ble_eq_true rfl) hl.1 hcs0 hf dX12_expression_234 (fun h21 H locs hf hw => ?_)
  refine lv_aload_n hM.1 hM.2.1 dX12_expression_237 rfl (lv_at hl 0 rfl) ?_
  refine gf_X12_waits hM hw (okX12.o ho) fl_X12_137 dX12_expression_238 ?_
  refine lv_aload_n hM.1 hM.2.1 dX12_expression_241 rfl (lv_at hl 0 rfl) ?_
  refine gf_X12_waiting hM hw (okX12.o ho) fl_X12_342 dX12_expression_242 ?_
  refine lv_aload_n hM.1 hM.2.1 dX12_expression_245 rfl (lv_at hl 0 rfl) ?_
  refine gf_X12_tKind hM hw (okX12.o ho) fl_X12_20 dX12_expression_246 ?_
  refine lv_aload_n hM.1 hM.2.1 dX12_expression_249 rfl (lv_at hl 0 rfl) ?_
  refine gf_X12_t hM hw (okX12.o ho) fl_X12_239 dX12_expression_250 ?_
  refine x_iald hM hw (okX12.tKind ho) hf dX12_expression_253 (fun hf => ?_)
  refine x_iast hM hw (okX12.waits ho) hf dX12_expression_254 (fun h22 H locs hf hw => ?_)
  refine lv_aload_n hM.1 hM.2.1 dX12_expression_255 rfl (lv_at hl 0 rfl) ?_
  refine lv_dup hM.1 hM.2.1 dX12_expression_256 rfl ?_
  refine gf_X12_waiting hM hw (okX12.o ho) fl_X12_342 dX12_expression_257 ?_
  refine lv_iconst (v := 1) hM.1 hM.2.1 dX12_expression_260 ic_1 ?_
  refine lv_iadd hM.1 hM.2.1 dX12_expression_261 ?_
  refine pf_X12_waiting hM hw (okX12.o ho) fl_X12_342 hf dX12_expression_262 (fun h23 H locs hf hw => ?_)
  refine lv_aload_n hM.1 hM.2.1 dX12_expression_265 rfl (lv_at hl 0 rfl) ?_
  refine x_callVV (rest := []) hM hw (ct_X12_goesOn l ho) [] (okX12.o ho) rfl rfl rfl (gi_V ml_X12_257 im_X12_goesOn sl_X12_goesOn in_X12 kc_X12_goesOn) hd_X12_goesOn rfl ⟨Nat.le_of_ble_eq_true rfl, Nat.le_of_ble_eq_true rfl⟩ rfl (Nat.le_of_ble_eq_true rfl) hl.1 hcs0 hf dX12_expression_266 (fun h24 H locs hf hw => ?_)
  refine lv_goto (tgt := 12) hM.1 hM.2.1 dX12_expression_269 (by decide) ?_
  exact hrec _ _ _ _ _ hf hw hl
def c_X12_expression_j186 {ρ : Type}  (z1 : Int32) (K1 : PH → Option ρ) (K2 : PH → Option ρ) (K3 : PH → Option ρ) (REC : Int32 → PH → Option ρ) (y0 : Int32) (h : PH) : Option (ρ) :=
  nm y0 fun v19 =>
  if v19 = 0 then
    K2 h
  else
    (c_X12_is 10 h).bind fun r20 =>
    if r20 = 0 then
      (c_X12_is 15 h).bind fun r25 =>
      if r25 = 0 then
        c_X12_expression_j234 z1 K1 K2 K3 REC v19 0 h
      else
        c_X12_expression_j234 z1 K1 K2 K3 REC v19 1 h
    else
      c_X12_expression_j234 z1 K1 K2 K3 REC v19 1 h
set_option maxHeartbeats 4000000 in
set_option maxRecDepth 100000 in
theorem w_X12_expression_j186 {p0 : Program} {l : Launch} {e : Env} {s : State} {m : MethodId} {args : Array Value} {below : List Frame} {meth : Method} {c : Code} {Q : State → Prop} {D : va_G} {G : GG} {A : Nat → Prop} {H0 : Heap} {ad : Nat → Nat} {lay : List KK} {X : va_W} {ρ : Type} {r0 : ρ} {z1 : Int32} {y0 : Int32} {h : PH} {H : Heap} {locs : List Loc} {ls : Array Slot} {K1 : PH → Option ρ} {K2 : PH → Option ρ} {K3 : PH → Option ρ} {REC : Int32 → PH → Option ρ} (hM : CallFix p0 m c cX12_expression 3 s args lw_g RX12) (ho : okX12 lay) (hk1 : ∀ (h : PH), ∀ (H : Heap) (locs : List Loc) (ls : Array Slot), K1 h = some r0 → Wd D G A H0 ad lay X h s H locs → lv_has ls 3 [] → W p0 l e (rmN 3 61) s m args below meth c H locs 0 0 Q (F0 m 95 ls [])) (hk2 : ∀ (h : PH), ∀ (H : Heap) (locs : List Loc) (ls : Array Slot), K2 h = some r0 → Wd D G A H0 ad lay X h s H locs → lv_has ls 3 [(0, .ref (ad 0)), (1, .int z1)] → W p0 l e (rmN 3 61) s m args below meth c H locs 0 0 Q (F0 m 191 ls [])) (hk3 : ∀ (h : PH), ∀ (H : Heap) (locs : List Loc) (ls : Array Slot), K3 h = some r0 → Wd D G A H0 ad lay X h s H locs → lv_has ls 3 [] → W p0 l e (rmN 3 61) s m args below meth c H locs 0 0 Q (F0 m 272 ls [])) (hrec : ∀ (x2 : Int32) (h : PH), ∀ (H : Heap) (locs : List Loc) (ls : Array Slot), REC x2 h = some r0 → Wd D G A H0 ad lay X h s H locs → lv_has ls 3 [(0, .ref (ad 0)), (1, .int z1), (2, .int x2)] → W p0 l e (rmN 3 61) s m args below meth c H locs 0 0 Q (F0 m 12 ls [])) (hw : Wd D G A H0 ad lay X h s H locs) (hl : lv_has ls 3 [(0, .ref (ad 0)), (1, .int z1)]) (hf : c_X12_expression_j186 z1 K1 K2 K3 REC y0 h = some r0) : W p0 l e (rmN 3 61) s m args below meth c H locs 0 0 Q (F0 m 186 ls [.int y0]) := by
  unfold c_X12_expression_j186 at hf
  refine x_istore_n hM hf dX12_expression_186 rfl hl (by decide) (fun v19 => [(2, .int v19), (0, .ref (ad 0)), (1, .int z1)]) (fun _ => rfl) (fun v19 ls hf hl => ?_)
  refine lv_iload_n hM.1 hM.2.1 dX12_expression_187 rfl (lv_at hl 0 rfl) ?_
  refine x_if_ne (tgt := 210) hM hf dX12_expression_188 (by decide) (fun hf => ?_) (fun hf => ?_)
  · refine lv_aload_n hM.1 hM.2.1 dX12_expression_210 rfl (lv_at hl 1 rfl) ?_
    refine lv_aload_n hM.1 hM.2.1 dX12_expression_211 rfl (lv_at hl 1 rfl) ?_
    refine lv_bipush (v := 10) hM.1 hM.2.1 dX12_expression_212 (by decide) ?_
    refine x_callVIr (rest := [.ref (ad 0)]) hM hw (ct_X12_is l ho 10) [.int 10] (okX12.o ho) rfl rfl rfl (gi_V ml_X12_254 im_X12_is sl_X12_is in_X12 kc_X12_is) hd_X12_is rfl ⟨Nat.le_of_ble_eq_true rfl, Nat.le_of_ble_eq_true rfl⟩ rfl (Nat.le_of_ble_eq_true rfl) hl.1 hcs0 hf dX12_expression_214 (fun r20 H locs hf hw => ?_)
    refine x_if_ne (tgt := 229) hM hf dX12_expression_217 (by decide) (fun hf => ?_) (fun hf => ?_)
    · refine lv_iconst (v := 1) hM.1 hM.2.1 dX12_expression_229 ic_1 ?_
      refine lv_goto (tgt := 234) hM.1 hM.2.1 dX12_expression_230 (by decide) ?_
      exact w_X12_expression_j234 hM ho hk1 hk2 hk3 hrec hw (lv_sub hl [1, 2, 0] rfl) hf
    refine lv_aload_n hM.1 hM.2.1 dX12_expression_220 rfl (lv_at hl 1 rfl) ?_
    refine lv_bipush (v := 15) hM.1 hM.2.1 dX12_expression_221 (by decide) ?_
    refine x_callVIr (rest := [.ref (ad 0)]) hM hw (ct_X12_is l ho 15) [.int 15] (okX12.o ho) rfl rfl rfl (gi_V ml_X12_254 im_X12_is sl_X12_is in_X12 kc_X12_is) hd_X12_is rfl ⟨Nat.le_of_ble_eq_true rfl, Nat.le_of_ble_eq_true rfl⟩ rfl (Nat.le_of_ble_eq_true rfl) hl.1 hcs0 hf dX12_expression_223 (fun r25 H locs hf hw => ?_)
    refine x_if_eq (tgt := 233) hM hf dX12_expression_226 (by decide) (fun hf => ?_) (fun hf => ?_)
    · refine lv_iconst (v := 0) hM.1 hM.2.1 dX12_expression_233 ic_0 ?_
      exact w_X12_expression_j234 hM ho hk1 hk2 hk3 hrec hw (lv_sub hl [1, 2, 0] rfl) hf
    refine lv_iconst (v := 1) hM.1 hM.2.1 dX12_expression_229 ic_1 ?_
    refine lv_goto (tgt := 234) hM.1 hM.2.1 dX12_expression_230 (by decide) ?_
    exact w_X12_expression_j234 hM ho hk1 hk2 hk3 hrec hw (lv_sub hl [1, 2, 0] rfl) hf
  exact hk2 _ _ _ _ hf hw (lv_sub hl [1, 2] rfl)
def c_X12_expression_j145 {ρ : Type}  (z1 : Int32) (K1 : PH → Option ρ) (K2 : PH → Option ρ) (K3 : PH → Option ρ) (REC : Int32 → PH → Option ρ) (h : PH) : Option (ρ) :=
  (c_X12_is 8 h).bind fun r18 =>
  if r18 = 0 then
    (c_X12_is 9 h).bind fun r26 =>
    if r26 = 0 then
      (c_X12_is 10 h).bind fun r27 =>
      if r27 = 0 then
        (c_X12_is 15 h).bind fun r28 =>
        if r28 = 0 then
          c_X12_expression_j186 z1 K1 K2 K3 REC 0 h
        else
          c_X12_expression_j186 z1 K1 K2 K3 REC 1 h
      else
        c_X12_expression_j186 z1 K1 K2 K3 REC 1 h
    else
      c_X12_expression_j186 z1 K1 K2 K3 REC 1 h
  else
    c_X12_expression_j186 z1 K1 K2 K3 REC 1 h
set_option maxHeartbeats 4000000 in
set_option maxRecDepth 100000 in
theorem w_X12_expression_j145 {p0 : Program} {l : Launch} {e : Env} {s : State} {m : MethodId} {args : Array Value} {below : List Frame} {meth : Method} {c : Code} {Q : State → Prop} {D : va_G} {G : GG} {A : Nat → Prop} {H0 : Heap} {ad : Nat → Nat} {lay : List KK} {X : va_W} {ρ : Type} {r0 : ρ} {z1 : Int32} {h : PH} {H : Heap} {locs : List Loc} {ls : Array Slot} {K1 : PH → Option ρ} {K2 : PH → Option ρ} {K3 : PH → Option ρ} {REC : Int32 → PH → Option ρ} (hM : CallFix p0 m c cX12_expression 3 s args lw_g RX12) (ho : okX12 lay) (hk1 : ∀ (h : PH), ∀ (H : Heap) (locs : List Loc) (ls : Array Slot), K1 h = some r0 → Wd D G A H0 ad lay X h s H locs → lv_has ls 3 [] → W p0 l e (rmN 3 61) s m args below meth c H locs 0 0 Q (F0 m 95 ls [])) (hk2 : ∀ (h : PH), ∀ (H : Heap) (locs : List Loc) (ls : Array Slot), K2 h = some r0 → Wd D G A H0 ad lay X h s H locs → lv_has ls 3 [(0, .ref (ad 0)), (1, .int z1)] → W p0 l e (rmN 3 61) s m args below meth c H locs 0 0 Q (F0 m 191 ls [])) (hk3 : ∀ (h : PH), ∀ (H : Heap) (locs : List Loc) (ls : Array Slot), K3 h = some r0 → Wd D G A H0 ad lay X h s H locs → lv_has ls 3 [] → W p0 l e (rmN 3 61) s m args below meth c H locs 0 0 Q (F0 m 272 ls [])) (hrec : ∀ (x2 : Int32) (h : PH), ∀ (H : Heap) (locs : List Loc) (ls : Array Slot), REC x2 h = some r0 → Wd D G A H0 ad lay X h s H locs → lv_has ls 3 [(0, .ref (ad 0)), (1, .int z1), (2, .int x2)] → W p0 l e (rmN 3 61) s m args below meth c H locs 0 0 Q (F0 m 12 ls [])) (hw : Wd D G A H0 ad lay X h s H locs) (hl : lv_has ls 3 [(0, .ref (ad 0)), (1, .int z1)]) (hf : c_X12_expression_j145 z1 K1 K2 K3 REC h = some r0) : W p0 l e (rmN 3 61) s m args below meth c H locs 0 0 Q (F0 m 145 ls []) := by
  unfold c_X12_expression_j145 at hf
  refine lv_aload_n hM.1 hM.2.1 dX12_expression_145 rfl (lv_at hl 0 rfl) ?_
  refine lv_bipush (v := 8) hM.1 hM.2.1 dX12_expression_146 (by decide) ?_
  refine x_callVIr (rest := []) hM hw (ct_X12_is l ho 8) [.int 8] (okX12.o ho) rfl rfl rfl (gi_V ml_X12_254 im_X12_is sl_X12_is in_X12 kc_X12_is) hd_X12_is rfl ⟨Nat.le_of_ble_eq_true rfl, Nat.le_of_ble_eq_true rfl⟩ rfl (Nat.le_of_ble_eq_true rfl) hl.1 hcs0 hf dX12_expression_148 (fun r18 H locs hf hw => ?_)
  refine x_if_ne (tgt := 181) hM hf dX12_expression_151 (by decide) (fun hf => ?_) (fun hf => ?_)
  · refine lv_iconst (v := 1) hM.1 hM.2.1 dX12_expression_181 ic_1 ?_
    refine lv_goto (tgt := 186) hM.1 hM.2.1 dX12_expression_182 (by decide) ?_
    exact w_X12_expression_j186 hM ho hk1 hk2 hk3 hrec hw hl hf
  refine lv_aload_n hM.1 hM.2.1 dX12_expression_154 rfl (lv_at hl 0 rfl) ?_
  refine lv_bipush (v := 9) hM.1 hM.2.1 dX12_expression_155 (by decide) ?_
  refine x_callVIr (rest := []) hM hw (ct_X12_is l ho 9) [.int 9] (okX12.o ho) rfl rfl rfl (gi_V ml_X12_254 im_X12_is sl_X12_is in_X12 kc_X12_is) hd_X12_is rfl ⟨Nat.le_of_ble_eq_true rfl, Nat.le_of_ble_eq_true rfl⟩ rfl (Nat.le_of_ble_eq_true rfl) hl.1 hcs0 hf dX12_expression_157 (fun r26 H locs hf hw => ?_)
  refine x_if_ne (tgt := 181) hM hf dX12_expression_160 (by decide) (fun hf => ?_) (fun hf => ?_)
  · refine lv_iconst (v := 1) hM.1 hM.2.1 dX12_expression_181 ic_1 ?_
    refine lv_goto (tgt := 186) hM.1 hM.2.1 dX12_expression_182 (by decide) ?_
    exact w_X12_expression_j186 hM ho hk1 hk2 hk3 hrec hw hl hf
  refine lv_aload_n hM.1 hM.2.1 dX12_expression_163 rfl (lv_at hl 0 rfl) ?_
  refine lv_bipush (v := 10) hM.1 hM.2.1 dX12_expression_164 (by decide) ?_
  refine x_callVIr (rest := []) hM hw (ct_X12_is l ho 10) [.int 10] (okX12.o ho) rfl rfl rfl (gi_V ml_X12_254 im_X12_is sl_X12_is in_X12 kc_X12_is) hd_X12_is rfl ⟨Nat.le_of_ble_eq_true rfl, Nat.le_of_ble_eq_true rfl⟩ rfl (Nat.le_of_ble_eq_true rfl) hl.1 hcs0 hf dX12_expression_166 (fun r27 H locs hf hw => ?_)
  refine x_if_ne (tgt := 181) hM hf dX12_expression_169 (by decide) (fun hf => ?_) (fun hf => ?_)
  · refine lv_iconst (v := 1) hM.1 hM.2.1 dX12_expression_181 ic_1 ?_
    refine lv_goto (tgt := 186) hM.1 hM.2.1 dX12_expression_182 (by decide) ?_
    exact w_X12_expression_j186 hM ho hk1 hk2 hk3 hrec hw hl hf
  refine lv_aload_n hM.1 hM.2.1 dX12_expression_172 rfl (lv_at hl 0 rfl) ?_
  refine lv_bipush (v := 15) hM.1 hM.2.1 dX12_expression_173 (by decide) ?_
  refine x_callVIr (rest := []) hM hw (ct_X12_is l ho 15) [.int 15] (okX12.o ho) rfl rfl rfl (gi_V ml_X12_254 im_X12_is sl_X12_is in_X12 kc_X12_is) hd_X12_is rfl ⟨Nat.le_of_ble_eq_true rfl, Nat.le_of_ble_eq_true rfl⟩ rfl (Nat.le_of_ble_eq_true rfl) hl.1 hcs0 hf dX12_expression_175 (fun r28 H locs hf hw => ?_)
  refine x_if_eq (tgt := 185) hM hf dX12_expression_178 (by decide) (fun hf => ?_) (fun hf => ?_)
  · refine lv_iconst (v := 0) hM.1 hM.2.1 dX12_expression_185 ic_0 ?_
    exact w_X12_expression_j186 hM ho hk1 hk2 hk3 hrec hw hl hf
  refine lv_iconst (v := 1) hM.1 hM.2.1 dX12_expression_181 ic_1 ?_
  refine lv_goto (tgt := 186) hM.1 hM.2.1 dX12_expression_182 (by decide) ?_
  exact w_X12_expression_j186 hM ho hk1 hk2 hk3 hrec hw hl hf
def c_X12_expression_L12b {ρ : Type}  (z1 : Int32) (K1 : PH → Option ρ) (K2 : PH → Option ρ) (K3 : PH → Option ρ) (REC : Int32 → PH → Option ρ) (x2 : Int32) (h : PH) : Option ρ :=
  if x2 = 0 then
    K3 h
  else
    if (h.1 0 13) = 0 then
      lq1 (c_X12_expression_L23b z1
        (fun h10 =>
          (c_X12_unit h10).bind fun h11 =>
          if (h11.1 0 13) ≤ 0 then
            lq1 (c_X12_expression_L96b z1
              (fun h17 =>
                c_X12_expression_j145 z1 K1 K2 K3 REC h17)) fu h11
          else
            K1 h11)) fu h
    else
      K3 h
set_option maxHeartbeats 4000000 in
set_option maxRecDepth 100000 in
theorem w_X12_expression_L12b {p0 : Program} {l : Launch} {e : Env} {s : State} {m : MethodId} {args : Array Value} {below : List Frame} {meth : Method} {c : Code} {Q : State → Prop} {D : va_G} {G : GG} {A : Nat → Prop} {H0 : Heap} {ad : Nat → Nat} {lay : List KK} {X : va_W} {ρ : Type} {r0 : ρ} {z1 : Int32} {x2 : Int32} {h : PH} {H : Heap} {locs : List Loc} {ls : Array Slot} {K1 : PH → Option ρ} {K2 : PH → Option ρ} {K3 : PH → Option ρ} {REC : Int32 → PH → Option ρ} (hM : CallFix p0 m c cX12_expression 3 s args lw_g RX12) (ho : okX12 lay) (hk1 : ∀ (h : PH), ∀ (H : Heap) (locs : List Loc) (ls : Array Slot), K1 h = some r0 → Wd D G A H0 ad lay X h s H locs → lv_has ls 3 [] → W p0 l e (rmN 3 61) s m args below meth c H locs 0 0 Q (F0 m 95 ls [])) (hk2 : ∀ (h : PH), ∀ (H : Heap) (locs : List Loc) (ls : Array Slot), K2 h = some r0 → Wd D G A H0 ad lay X h s H locs → lv_has ls 3 [(0, .ref (ad 0)), (1, .int z1)] → W p0 l e (rmN 3 61) s m args below meth c H locs 0 0 Q (F0 m 191 ls [])) (hk3 : ∀ (h : PH), ∀ (H : Heap) (locs : List Loc) (ls : Array Slot), K3 h = some r0 → Wd D G A H0 ad lay X h s H locs → lv_has ls 3 [] → W p0 l e (rmN 3 61) s m args below meth c H locs 0 0 Q (F0 m 272 ls [])) (hrec : ∀ (x2 : Int32) (h : PH), ∀ (H : Heap) (locs : List Loc) (ls : Array Slot), REC x2 h = some r0 → Wd D G A H0 ad lay X h s H locs → lv_has ls 3 [(0, .ref (ad 0)), (1, .int z1), (2, .int x2)] → W p0 l e (rmN 3 61) s m args below meth c H locs 0 0 Q (F0 m 12 ls [])) (hw : Wd D G A H0 ad lay X h s H locs) (hl : lv_has ls 3 [(0, .ref (ad 0)), (1, .int z1), (2, .int x2)]) (hf : c_X12_expression_L12b z1 K1 K2 K3 REC x2 h = some r0) : W p0 l e (rmN 3 61) s m args below meth c H locs 0 0 Q (F0 m 12 ls []) := by
  unfold c_X12_expression_L12b at hf
  refine lv_iload_n hM.1 hM.2.1 dX12_expression_12 rfl (lv_at hl 2 rfl) ?_
  refine x_if_eq (tgt := 272) hM hf dX12_expression_13 (by decide) (fun hf => ?_) (fun hf => ?_)
  · exact hk3 _ _ _ _ hf hw (lv_sub hl [] rfl)
  refine lv_aload_n hM.1 hM.2.1 dX12_expression_16 rfl (lv_at hl 0 rfl) ?_
  refine gf_X12_fault hM hw (okX12.o ho) fl_X12_236 dX12_expression_17 ?_
  refine x_if_ne (tgt := 272) hM hf dX12_expression_20 (by decide) (fun hf => ?_) (fun hf => ?_)
  · exact hk3 _ _ _ _ hf hw (lv_sub hl [] rfl)
  refine w_X12_expression_L23 hM ho (fun h10 H locs ls hf hw hl => ?_) fu _ hf _ _ _ hw (lv_sub hl [0, 1] rfl)
  refine lv_aload_n hM.1 hM.2.1 dX12_expression_84 rfl (lv_at hl 0 rfl) ?_
  refine x_callVV (rest := []) hM hw (ct_X12_unit l ho) [] (okX12.o ho) rfl rfl rfl (gi_V ml_X12_348 im_X12_unit sl_X12_unit in_X12 kc_X12_unit) hd_X12_unit rfl ⟨Nat.le_of_ble_eq_true rfl, Nat.le_of_ble_eq_true rfl⟩ rfl (Nat.le_of_ble_eq_true rfl) hl.1 hcs0 hf dX12_expression_85 (fun h11 H locs hf hw => ?_)
  refine lv_aload_n hM.1 hM.2.1 dX12_expression_88 rfl (lv_at hl 0 rfl) ?_
  refine gf_X12_fault hM hw (okX12.o ho) fl_X12_236 dX12_expression_89 ?_
  refine x_if_le (tgt := 96) hM hf dX12_expression_92 (by decide) (fun hf => ?_) (fun hf => ?_)
  · refine w_X12_expression_L96 hM ho (fun h17 H locs ls hf hw hl => ?_) fu _ hf _ _ _ hw hl
    exact w_X12_expression_j145 hM ho hk1 hk2 hk3 hrec hw hl hf
  exact hk1 _ _ _ _ hf hw (lv_sub hl [] rfl)
set_option maxHeartbeats 4000000 in
set_option maxRecDepth 100000 in
theorem w_X12_expression_L12 {p0 : Program} {l : Launch} {e : Env} {s : State} {m : MethodId} {args : Array Value} {below : List Frame} {meth : Method} {c : Code} {Q : State → Prop} {D : va_G} {G : GG} {A : Nat → Prop} {H0 : Heap} {ad : Nat → Nat} {lay : List KK} {X : va_W} {ρ : Type} {r0 : ρ} {z1 : Int32} {K1 : PH → Option ρ} {K2 : PH → Option ρ} {K3 : PH → Option ρ} (hM : CallFix p0 m c cX12_expression 3 s args lw_g RX12) (ho : okX12 lay) (hk1 : ∀ (h : PH), ∀ (H : Heap) (locs : List Loc) (ls : Array Slot), K1 h = some r0 → Wd D G A H0 ad lay X h s H locs → lv_has ls 3 [] → W p0 l e (rmN 3 61) s m args below meth c H locs 0 0 Q (F0 m 95 ls [])) (hk2 : ∀ (h : PH), ∀ (H : Heap) (locs : List Loc) (ls : Array Slot), K2 h = some r0 → Wd D G A H0 ad lay X h s H locs → lv_has ls 3 [(0, .ref (ad 0)), (1, .int z1)] → W p0 l e (rmN 3 61) s m args below meth c H locs 0 0 Q (F0 m 191 ls [])) (hk3 : ∀ (h : PH), ∀ (H : Heap) (locs : List Loc) (ls : Array Slot), K3 h = some r0 → Wd D G A H0 ad lay X h s H locs → lv_has ls 3 [] → W p0 l e (rmN 3 61) s m args below meth c H locs 0 0 Q (F0 m 272 ls [])) (n : Nat) (x2 : Int32) (h : PH) (hf : lq2 (c_X12_expression_L12b z1 K1 K2 K3) n x2 h = some r0) : ∀ (H : Heap) (locs : List Loc) (ls : Array Slot), Wd D G A H0 ad lay X h s H locs → lv_has ls 3 [(0, .ref (ad 0)), (1, .int z1), (2, .int x2)] → W p0 l e (rmN 3 61) s m args below meth c H locs 0 0 Q (F0 m 12 ls []) := by
  exact lq2_i (fun (x2 : Int32) (h : PH) => ∀ (H : Heap) (locs : List Loc) (ls : Array Slot), Wd D G A H0 ad lay X h s H locs → lv_has ls 3 [(0, .ref (ad 0)), (1, .int z1), (2, .int x2)] → W p0 l e (rmN 3 61) s m args below meth c H locs 0 0 Q (F0 m 12 ls [])) (fun REC x2 h ih hf H locs ls hw hl => w_X12_expression_L12b hM ho hk1 hk2 hk3 (fun x2 h H locs ls hf hw hl => ih x2 h hf H locs ls hw hl) hw hl hf) n x2 h hf
def c_X12_expression (h : PH) : Option (PH) :=
  nm (setI h 0 56 0) fun h1 =>
  nm (h1.1 0 12) fun v2 =>
  nm (1 : Int32) fun v3 =>
  lq2 (c_X12_expression_L12b v2
    (fun h29 =>
      some h29)
    (fun h30 =>
      if (h30.1 0 12) ≤ v2 then
        (c_X12_comesOut 0 h30).bind fun h31 =>
        some h31
      else
        (c_X12_fail 1 h30).bind fun h32 =>
        (c_X12_comesOut 0 h32).bind fun h33 =>
        some h33)
    (fun h34 =>
      some h34)) fu v3 h1
set_option maxHeartbeats 4000000 in
set_option maxRecDepth 100000 in
theorem ct_X12_expression (l : Launch) {lay : List KK} (ho : okX12 lay) : CtV l yX12_expression cX12_expression 3 (none) 3 61 lay (fun h => c_X12_expression h) (fun ad => [.ref (ad 0)]) := by
  refine CtV.mk' RX12 (by decide) rfl (fun _ => Nat.le_of_ble_eq_true rfl) ?_
  intro p0 e s m args below meth c D G A H0 ad X h r0 H ls Q hM hw hl hf hR
  have hl : lv_has ls 3 [(0, .ref (ad 0))] := hl
  unfold c_X12_expression at hf
  refine lv_aload_n hM.1 hM.2.1 dX12_expression_0 rfl (lv_at hl 0 rfl) ?_
  refine lv_iconst (v := 0) hM.1 hM.2.1 dX12_expression_1 ic_0 ?_
  refine pf_X12_waiting hM hw (okX12.o ho) fl_X12_342 hf dX12_expression_2 (fun h1 H locs hf hw => ?_)
  refine lv_aload_n hM.1 hM.2.1 dX12_expression_5 rfl (lv_at hl 0 rfl) ?_
  refine gf_X12_open hM hw (okX12.o ho) fl_X12_263 dX12_expression_6 ?_
  refine x_istore_n hM hf dX12_expression_9 rfl hl (by decide) (fun v2 => [(1, .int v2), (0, .ref (ad 0))]) (fun _ => rfl) (fun v2 ls hf hl => ?_)
  refine lv_iconst (v := 1) hM.1 hM.2.1 dX12_expression_10 ic_1 ?_
  refine x_istore_n hM hf dX12_expression_11 rfl hl (by decide) (fun v3 => [(2, .int v3), (1, .int v2), (0, .ref (ad 0))]) (fun _ => rfl) (fun v3 ls hf hl => ?_)
  refine w_X12_expression_L12 hM ho (fun h29 H locs ls hf hw hl => ?_) (fun h30 H locs ls hf hw hl => ?_) (fun h34 H locs ls hf hw hl => ?_) fu _ _ hf _ _ _ hw (lv_sub hl [2, 1, 0] rfl)
  · exact hR _ _ _ _ _ (Option.some.inj hf) rfl hw dX12_expression_95
  · refine lv_aload_n hM.1 hM.2.1 dX12_expression_191 rfl (lv_at hl 0 rfl) ?_
    refine gf_X12_open hM hw (okX12.o ho) fl_X12_263 dX12_expression_192 ?_
    refine lv_iload_n hM.1 hM.2.1 dX12_expression_195 rfl (lv_at hl 1 rfl) ?_
    refine x_ic_le (tgt := 204) hM hf dX12_expression_196 (by decide) (fun hf => ?_) (fun hf => ?_)
    · refine lv_aload_n hM.1 hM.2.1 dX12_expression_204 rfl (lv_at hl 0 rfl) ?_
      refine lv_iconst (v := 0) hM.1 hM.2.1 dX12_expression_205 ic_0 ?_
      refine x_callVV (rest := []) hM hw (ct_X12_comesOut l ho 0) [.int 0] (okX12.o ho) rfl rfl rfl (gi_V ml_X12_351 im_X12_comesOut sl_X12_comesOut in_X12 kc_X12_comesOut) hd_X12_comesOut rfl ⟨Nat.le_of_ble_eq_true rfl, Nat.le_of_ble_eq_true rfl⟩ rfl (Nat.le_of_ble_eq_true rfl) hl.1 hcs0 hf dX12_expression_206 (fun h31 H locs hf hw => ?_)
      exact hR _ _ _ _ _ (Option.some.inj hf) rfl hw dX12_expression_209
    refine lv_aload_n hM.1 hM.2.1 dX12_expression_199 rfl (lv_at hl 0 rfl) ?_
    refine lv_iconst (v := 1) hM.1 hM.2.1 dX12_expression_200 ic_1 ?_
    refine x_callVV (rest := []) hM hw (ct_X12_fail l ho 1) [.int 1] (okX12.o ho) rfl rfl rfl (gi_V ml_X12_251 im_X12_fail sl_X12_fail in_X12 kc_X12_fail) hd_X12_fail rfl ⟨Nat.le_of_ble_eq_true rfl, Nat.le_of_ble_eq_true rfl⟩ rfl (Nat.le_of_ble_eq_true rfl) hl.1 hcs0 hf dX12_expression_201 (fun h32 H locs hf hw => ?_)
    refine lv_aload_n hM.1 hM.2.1 dX12_expression_204 rfl (lv_at hl 0 rfl) ?_
    refine lv_iconst (v := 0) hM.1 hM.2.1 dX12_expression_205 ic_0 ?_
    refine x_callVV (rest := []) hM hw (ct_X12_comesOut l ho 0) [.int 0] (okX12.o ho) rfl rfl rfl (gi_V ml_X12_351 im_X12_comesOut sl_X12_comesOut in_X12 kc_X12_comesOut) hd_X12_comesOut rfl ⟨Nat.le_of_ble_eq_true rfl, Nat.le_of_ble_eq_true rfl⟩ rfl (Nat.le_of_ble_eq_true rfl) hl.1 hcs0 hf dX12_expression_206 (fun h33 H locs hf hw => ?_)
    exact hR _ _ _ _ _ (Option.some.inj hf) rfl hw dX12_expression_209
  · exact hR _ _ _ _ _ (Option.some.inj hf) rfl hw dX12_expression_272
theorem hd_X12_expression : yX12_expression.cls = RX12 ∧ yX12_expression.cls ≠ "java/lang/invoke/MethodHandle" ∧ yX12_expression.cls ≠ "java/lang/invoke/VarHandle" ∧ (parseMethodDescriptor yX12_expression.desc).map (fun d => d.parameters.length) = some 0 := ⟨rfl, by decide, by decide, by decide +kernel⟩
