theorem dX11_writeWord_0 : decode cX11_writeWord 0 = .ok (.bipush 24, 2) := by decide +kernel
theorem dX11_writeWord_2 : decode cX11_writeWord 2 = .ok (.istore_n 2, 1) := by decide +kernel
theorem dX11_writeWord_3 : decode cX11_writeWord 3 = .ok (.iload_n 2, 1) := by decide +kernel
theorem dX11_writeWord_4 : decode cX11_writeWord 4 = .ok (.ifCond .lt 42, 3) := by decide +kernel
theorem dX11_writeWord_7 : decode cX11_writeWord 7 = .ok (.aload_n 0, 1) := by decide +kernel
theorem dX11_writeWord_8 : decode cX11_writeWord 8 = .ok (.getfield 13, 3) := by decide +kernel
theorem dX11_writeWord_11 : decode cX11_writeWord 11 = .ok (.sipush 2000, 3) := by decide +kernel
theorem dX11_writeWord_14 : decode cX11_writeWord 14 = .ok (.if_icmp .ge 32, 3) := by decide +kernel
theorem dX11_writeWord_17 : decode cX11_writeWord 17 = .ok (.aload_n 0, 1) := by decide +kernel
theorem dX11_writeWord_18 : decode cX11_writeWord 18 = .ok (.getfield 9, 3) := by decide +kernel
theorem dX11_writeWord_21 : decode cX11_writeWord 21 = .ok (.aload_n 0, 1) := by decide +kernel
theorem dX11_writeWord_22 : decode cX11_writeWord 22 = .ok (.getfield 13, 3) := by decide +kernel
theorem dX11_writeWord_25 : decode cX11_writeWord 25 = .ok (.iload_n 1, 1) := by decide +kernel
theorem dX11_writeWord_26 : decode cX11_writeWord 26 = .ok (.iload_n 2, 1) := by decide +kernel
theorem dX11_writeWord_27 : decode cX11_writeWord 27 = .ok (.iushr, 1) := by decide +kernel
theorem dX11_writeWord_28 : decode cX11_writeWord 28 = .ok (.i2b, 1) := by decide +kernel
theorem dX11_writeWord_29 : decode cX11_writeWord 29 = .ok (.bastore, 1) := by decide +kernel
theorem dX11_writeWord_30 : decode cX11_writeWord 30 = .ok (.aload_n 0, 1) := by decide +kernel
theorem dX11_writeWord_31 : decode cX11_writeWord 31 = .ok (.dup, 1) := by decide +kernel
theorem dX11_writeWord_32 : decode cX11_writeWord 32 = .ok (.getfield 13, 3) := by decide +kernel
theorem dX11_writeWord_35 : decode cX11_writeWord 35 = .ok (.iconst 1, 1) := by decide +kernel
theorem dX11_writeWord_36 : decode cX11_writeWord 36 = .ok (.iadd, 1) := by decide +kernel
theorem dX11_writeWord_37 : decode cX11_writeWord 37 = .ok (.putfield 13, 3) := by decide +kernel
theorem dX11_writeWord_40 : decode cX11_writeWord 40 = .ok (.iinc 2 (-8), 3) := by decide +kernel
theorem dX11_writeWord_43 : decode cX11_writeWord 43 = .ok (.goto (-40), 3) := by decide +kernel
theorem dX11_writeWord_46 : decode cX11_writeWord 46 = .ok (.return_, 1) := by decide +kernel
def c_X11_writeWord_L3b {ρ : Type}  (z1 : Int32) (K1 : PH → Option ρ) (REC : Int32 → PH → Option ρ) (x2 : Int32) (h : PH) : Option ρ :=
  if x2 < 0 then
    K1 h
  else
    if 2000 ≤ (h.1 0 1) then
      K1 h
    else
      gd (ixOK (h.1 0 1) 2000) <| nm (setI h 1 (h.1 0 1).toNatClampNeg (vp_nar .byte ((jushr z1 x2).toInt8.toInt32))) fun h2 =>
      nm (setI h2 0 1 ((h2.1 0 1) + 1)) fun h3 =>
      nm (x2 + (-8)) fun v4 =>
      REC v4 h3
set_option maxHeartbeats 4000000 in
set_option maxRecDepth 100000 in
theorem w_X11_writeWord_L3b {p0 : Program} {l : Launch} {e : Env} {s : State} {m : MethodId} {args : Array Value} {below : List Frame} {meth : Method} {c : Code} {Q : State → Prop} {D : va_G} {G : GG} {A : Nat → Prop} {H0 : Heap} {ad : Nat → Nat} {lay : List KK} {X : va_W} {ρ : Type} {r0 : ρ} {z1 : Int32} {x2 : Int32} {h : PH} {H : Heap} {locs : List Loc} {ls : Array Slot} {K1 : PH → Option ρ} {REC : Int32 → PH → Option ρ} (hM : CallFix p0 m c cX11_writeWord 3 s args lw_g RX11) (ho : okX11 lay) (hk1 : ∀ (h : PH), ∀ (H : Heap) (locs : List Loc) (ls : Array Slot), K1 h = some r0 → Wd D G A H0 ad lay X h s H locs → lv_has ls 3 [] → W p0 l e (rmN 0 0) s m args below meth c H locs 0 0 Q (F0 m 46 ls [])) (hrec : ∀ (x2 : Int32) (h : PH), ∀ (H : Heap) (locs : List Loc) (ls : Array Slot), REC x2 h = some r0 → Wd D G A H0 ad lay X h s H locs → lv_has ls 3 [(0, .ref (ad 0)), (1, .int z1), (2, .int x2)] → W p0 l e (rmN 0 0) s m args below meth c H locs 0 0 Q (F0 m 3 ls [])) (hw : Wd D G A H0 ad lay X h s H locs) (hl : lv_has ls 3 [(0, .ref (ad 0)), (1, .int z1), (2, .int x2)]) (hf : c_X11_writeWord_L3b z1 K1 REC x2 h = some r0) : W p0 l e (rmN 0 0) s m args below meth c H locs 0 0 Q (F0 m 3 ls []) := by
  unfold c_X11_writeWord_L3b at hf
  refine lv_iload_n hM.1 hM.2.1 dX11_writeWord_3 rfl (lv_at hl 2 rfl) ?_
  refine x_if_lt (tgt := 46) hM hf dX11_writeWord_4 (by decide) (fun hf => ?_) (fun hf => ?_)
  · exact hk1 _ _ _ _ hf hw (lv_sub hl [] rfl)
  refine lv_aload_n hM.1 hM.2.1 dX11_writeWord_7 rfl (lv_at hl 0 rfl) ?_
  refine gf_X11_tapeLength hM hw (okX11.o ho) fl_X11_13 dX11_writeWord_8 ?_
  refine lv_sipush (v := 2000) hM.1 hM.2.1 dX11_writeWord_11 (by decide) ?_
  refine x_ic_ge (tgt := 46) hM hf dX11_writeWord_14 (by decide) (fun hf => ?_) (fun hf => ?_)
  · exact hk1 _ _ _ _ hf hw (lv_sub hl [] rfl)
  refine lv_aload_n hM.1 hM.2.1 dX11_writeWord_17 rfl (lv_at hl 0 rfl) ?_
  refine gf_X11_tape hM hw (okX11.o ho) fl_X11_9 dX11_writeWord_18 ?_
  refine lv_aload_n hM.1 hM.2.1 dX11_writeWord_21 rfl (lv_at hl 0 rfl) ?_
  refine gf_X11_tapeLength hM hw (okX11.o ho) fl_X11_13 dX11_writeWord_22 ?_
  refine lv_iload_n hM.1 hM.2.1 dX11_writeWord_25 rfl (lv_at hl 1 rfl) ?_
  refine lv_iload_n hM.1 hM.2.1 dX11_writeWord_26 rfl (lv_at hl 2 rfl) ?_
  refine x_iushr hM dX11_writeWord_27 ?_
  refine lv_i2b hM.1 hM.2.1 dX11_writeWord_28 rfl ?_
  refine x_bast hM hw (okX11.tape ho) hf dX11_writeWord_29 (fun h2 H locs hf hw => ?_)
  refine lv_aload_n hM.1 hM.2.1 dX11_writeWord_30 rfl (lv_at hl 0 rfl) ?_
  refine lv_dup hM.1 hM.2.1 dX11_writeWord_31 rfl ?_
  refine gf_X11_tapeLength hM hw (okX11.o ho) fl_X11_13 dX11_writeWord_32 ?_
  refine lv_iconst (v := 1) hM.1 hM.2.1 dX11_writeWord_35 ic_1 ?_
  refine lv_iadd hM.1 hM.2.1 dX11_writeWord_36 ?_
  refine pf_X11_tapeLength hM hw (okX11.o ho) fl_X11_13 hf dX11_writeWord_37 (fun h3 H locs hf hw => ?_)
  refine x_iinc (k := 2) (d := (-8)) hM hf dX11_writeWord_40 hl rfl (by decide) (by decide) (fun v4 => [(2, .int v4), (0, .ref (ad 0)), (1, .int z1)]) (fun _ => rfl) (fun v4 ls hf hl => ?_)
  refine lv_goto (tgt := 3) hM.1 hM.2.1 dX11_writeWord_43 (by decide) ?_
  exact hrec _ _ _ _ _ hf hw (lv_sub hl [1, 2, 0] rfl)
set_option maxHeartbeats 4000000 in
set_option maxRecDepth 100000 in
theorem w_X11_writeWord_L3 {p0 : Program} {l : Launch} {e : Env} {s : State} {m : MethodId} {args : Array Value} {below : List Frame} {meth : Method} {c : Code} {Q : State → Prop} {D : va_G} {G : GG} {A : Nat → Prop} {H0 : Heap} {ad : Nat → Nat} {lay : List KK} {X : va_W} {ρ : Type} {r0 : ρ} {z1 : Int32} {K1 : PH → Option ρ} (hM : CallFix p0 m c cX11_writeWord 3 s args lw_g RX11) (ho : okX11 lay) (hk1 : ∀ (h : PH), ∀ (H : Heap) (locs : List Loc) (ls : Array Slot), K1 h = some r0 → Wd D G A H0 ad lay X h s H locs → lv_has ls 3 [] → W p0 l e (rmN 0 0) s m args below meth c H locs 0 0 Q (F0 m 46 ls [])) (n : Nat) (x2 : Int32) (h : PH) (hf : lq2 (c_X11_writeWord_L3b z1 K1) n x2 h = some r0) : ∀ (H : Heap) (locs : List Loc) (ls : Array Slot), Wd D G A H0 ad lay X h s H locs → lv_has ls 3 [(0, .ref (ad 0)), (1, .int z1), (2, .int x2)] → W p0 l e (rmN 0 0) s m args below meth c H locs 0 0 Q (F0 m 3 ls []) := by
  exact lq2_i (fun (x2 : Int32) (h : PH) => ∀ (H : Heap) (locs : List Loc) (ls : Array Slot), Wd D G A H0 ad lay X h s H locs → lv_has ls 3 [(0, .ref (ad 0)), (1, .int z1), (2, .int x2)] → W p0 l e (rmN 0 0) s m args below meth c H locs 0 0 Q (F0 m 3 ls [])) (fun REC x2 h ih hf H locs ls hw hl => w_X11_writeWord_L3b hM ho hk1 (fun x2 h H locs ls hf hw hl => ih x2 h hf H locs ls hw hl) hw hl hf) n x2 h hf
def c_X11_writeWord (a1 : Int32) (h : PH) : Option (PH) :=
  nm (24 : Int32) fun v1 =>
  lq2 (c_X11_writeWord_L3b a1
    (fun h5 =>
      some h5)) fu v1 h
set_option maxHeartbeats 4000000 in
set_option maxRecDepth 100000 in
theorem ct_X11_writeWord (l : Launch) {lay : List KK} (ho : okX11 lay) (a1 : Int32) : CtV l yX11_writeWord cX11_writeWord 3 (none) 0 0 lay (fun h => c_X11_writeWord a1 h) (fun ad => [.ref (ad 0), .int a1]) := by
  refine CtV.mk' RX11 (by decide) rfl (fun _ => Nat.le_of_ble_eq_true rfl) ?_
  intro p0 e s m args below meth c D G A H0 ad X h r0 H ls Q hM hw hl hf hR
  have hl : lv_has ls 3 [(0, .ref (ad 0)), (1, .int a1)] := hl
  unfold c_X11_writeWord at hf
  refine lv_bipush (v := 24) hM.1 hM.2.1 dX11_writeWord_0 (by decide) ?_
  refine x_istore_n hM hf dX11_writeWord_2 rfl hl (by decide) (fun v1 => [(2, .int v1), (0, .ref (ad 0)), (1, .int a1)]) (fun _ => rfl) (fun v1 ls hf hl => ?_)
  refine w_X11_writeWord_L3 hM ho (fun h5 H locs ls hf hw hl => ?_) fu _ _ hf _ _ _ hw (lv_sub hl [1, 2, 0] rfl)
  exact hR _ _ _ _ _ (Option.some.inj hf) rfl hw dX11_writeWord_46
theorem hd_X11_writeWord : yX11_writeWord.cls = RX11 ∧ yX11_writeWord.cls ≠ "java/lang/invoke/MethodHandle" ∧ yX11_writeWord.cls ≠ "java/lang/invoke/VarHandle" ∧ (parseMethodDescriptor yX11_writeWord.desc).map (fun d => d.parameters.length) = some 1 := ⟨rfl, by decide, by decide, by decide +kernel⟩
theorem dX11_feed_0 : decode cX11_feed 0 = .ok (.aload_n 0, 1) := by decide +kernel
theorem dX11_feed_1 : decode cX11_feed 1 = .ok (.getfield 13, 3) := by decide +kernel
theorem dX11_feed_4 : decode cX11_feed 4 = .ok (.sipush 1980, 3) := by decide +kernel
theorem dX11_feed_7 : decode cX11_feed 7 = .ok (.if_icmp .le 5, 3) := by decide +kernel
theorem dX11_feed_10 : decode cX11_feed 10 = .ok (.iconst (-1), 1) := by decide +kernel
theorem dX11_feed_11 : decode cX11_feed 11 = .ok (.ireturn, 1) := by decide +kernel
theorem dX11_feed_12 : decode cX11_feed 12 = .ok (.aload_n 0, 1) := by decide +kernel
theorem dX11_feed_13 : decode cX11_feed 13 = .ok (.iload_n 1, 1) := by decide +kernel
theorem dX11_feed_14 : decode cX11_feed 14 = .ok (.invokevirtual 98, 3) := by decide +kernel
theorem dX11_feed_17 : decode cX11_feed 17 = .ok (.aload_n 0, 1) := by decide +kernel
theorem dX11_feed_18 : decode cX11_feed 18 = .ok (.iload_n 2, 1) := by decide +kernel
theorem dX11_feed_19 : decode cX11_feed 19 = .ok (.invokevirtual 98, 3) := by decide +kernel
theorem dX11_feed_22 : decode cX11_feed 22 = .ok (.aload_n 0, 1) := by decide +kernel
theorem dX11_feed_23 : decode cX11_feed 23 = .ok (.iload_n 3, 1) := by decide +kernel
theorem dX11_feed_24 : decode cX11_feed 24 = .ok (.invokevirtual 98, 3) := by decide +kernel
theorem dX11_feed_27 : decode cX11_feed 27 = .ok (.aload_n 0, 1) := by decide +kernel
theorem dX11_feed_28 : decode cX11_feed 28 = .ok (.iload 4, 2) := by decide +kernel
theorem dX11_feed_30 : decode cX11_feed 30 = .ok (.invokevirtual 98, 3) := by decide +kernel
theorem dX11_feed_33 : decode cX11_feed 33 = .ok (.aload_n 0, 1) := by decide +kernel
theorem dX11_feed_34 : decode cX11_feed 34 = .ok (.iload 5, 2) := by decide +kernel
theorem dX11_feed_36 : decode cX11_feed 36 = .ok (.invokevirtual 98, 3) := by decide +kernel
theorem dX11_feed_39 : decode cX11_feed 39 = .ok (.aload_n 0, 1) := by decide +kernel
theorem dX11_feed_40 : decode cX11_feed 40 = .ok (.getfield 13, 3) := by decide +kernel
theorem dX11_feed_43 : decode cX11_feed 43 = .ok (.ireturn, 1) := by decide +kernel
def c_X11_feed (a1 : Int32) (a2 : Int32) (a3 : Int32) (a4 : Int32) (a5 : Int32) (h : PH) : Option (Int32 × PH) :=
  if (h.1 0 1) ≤ 1980 then
    (c_X11_writeWord a1 h).bind fun h1 =>
    (c_X11_writeWord a2 h1).bind fun h2 =>
    (c_X11_writeWord a3 h2).bind fun h3 =>
    (c_X11_writeWord a4 h3).bind fun h4 =>
    (c_X11_writeWord a5 h4).bind fun h5 =>
    some ((h5.1 0 1), h5)
  else
    some ((-1), h)
set_option maxHeartbeats 4000000 in
set_option maxRecDepth 100000 in
theorem ct_X11_feed (l : Launch) {lay : List KK} (ho : okX11 lay) (a1 : Int32) (a2 : Int32) (a3 : Int32) (a4 : Int32) (a5 : Int32) : CtI l yX11_feed cX11_feed 6 (some .int) 1 22 lay (fun h => c_X11_feed a1 a2 a3 a4 a5 h) (fun ad => [.ref (ad 0), .int a1, .int a2, .int a3, .int a4, .int a5]) := by
  refine CtI.mk' RX11 (by decide) rfl (fun _ => Nat.le_of_ble_eq_true rfl) ?_
  intro p0 e s m args below meth c D G A H0 ad X h r0 H ls Q hM hw hl hf hR
  have hl : lv_has ls 6 [(0, .ref (ad 0)), (1, .int a1), (2, .int a2), (3, .int a3), (4, .int a4), (5, .int a5)] := hl
  unfold c_X11_feed at hf
  refine lv_aload_n hM.1 hM.2.1 dX11_feed_0 rfl (lv_at hl 0 rfl) ?_
  refine gf_X11_tapeLength hM hw (okX11.o ho) fl_X11_13 dX11_feed_1 ?_
  refine lv_sipush (v := 1980) hM.1 hM.2.1 dX11_feed_4 (by decide) ?_
  refine x_ic_le (tgt := 12) hM hf dX11_feed_7 (by decide) (fun hf => ?_) (fun hf => ?_)
  · refine lv_aload_n hM.1 hM.2.1 dX11_feed_12 rfl (lv_at hl 0 rfl) ?_
    refine lv_iload_n hM.1 hM.2.1 dX11_feed_13 rfl (lv_at hl 1 rfl) ?_
    refine x_callVV (rest := []) hM hw (ct_X11_writeWord l ho a1) [.int a1] (okX11.o ho) rfl rfl rfl (gi_V ml_X11_98 im_X11_writeWord sl_X11_writeWord in_X11 kc_X11_writeWord) hd_X11_writeWord rfl ⟨Nat.le_of_ble_eq_true rfl, Nat.le_of_ble_eq_true rfl⟩ rfl (Nat.le_of_ble_eq_true rfl) hl.1 hcs0 hf dX11_feed_14 (fun h1 H locs hf hw => ?_)
    refine lv_aload_n hM.1 hM.2.1 dX11_feed_17 rfl (lv_at hl 0 rfl) ?_
    refine lv_iload_n hM.1 hM.2.1 dX11_feed_18 rfl (lv_at hl 2 rfl) ?_
    refine x_callVV (rest := []) hM hw (ct_X11_writeWord l ho a2) [.int a2] (okX11.o ho) rfl rfl rfl (gi_V ml_X11_98 im_X11_writeWord sl_X11_writeWord in_X11 kc_X11_writeWord) hd_X11_writeWord rfl ⟨Nat.le_of_ble_eq_true rfl, Nat.le_of_ble_eq_true rfl⟩ rfl (Nat.le_of_ble_eq_true rfl) hl.1 hcs0 hf dX11_feed_19 (fun h2 H locs hf hw => ?_)
    refine lv_aload_n hM.1 hM.2.1 dX11_feed_22 rfl (lv_at hl 0 rfl) ?_
    refine lv_iload_n hM.1 hM.2.1 dX11_feed_23 rfl (lv_at hl 3 rfl) ?_
    refine x_callVV (rest := []) hM hw (ct_X11_writeWord l ho a3) [.int a3] (okX11.o ho) rfl rfl rfl (gi_V ml_X11_98 im_X11_writeWord sl_X11_writeWord in_X11 kc_X11_writeWord) hd_X11_writeWord rfl ⟨Nat.le_of_ble_eq_true rfl, Nat.le_of_ble_eq_true rfl⟩ rfl (Nat.le_of_ble_eq_true rfl) hl.1 hcs0 hf dX11_feed_24 (fun h3 H locs hf hw => ?_)
    refine lv_aload_n hM.1 hM.2.1 dX11_feed_27 rfl (lv_at hl 0 rfl) ?_
    refine lv_iload hM.1 hM.2.1 dX11_feed_28 (lv_at hl 4 rfl) ?_
    refine x_callVV (rest := []) hM hw (ct_X11_writeWord l ho a4) [.int a4] (okX11.o ho) rfl rfl rfl (gi_V ml_X11_98 im_X11_writeWord sl_X11_writeWord in_X11 kc_X11_writeWord) hd_X11_writeWord rfl ⟨Nat.le_of_ble_eq_true rfl, Nat.le_of_ble_eq_true rfl⟩ rfl (Nat.le_of_ble_eq_true rfl) hl.1 hcs0 hf dX11_feed_30 (fun h4 H locs hf hw => ?_)
    refine lv_aload_n hM.1 hM.2.1 dX11_feed_33 rfl (lv_at hl 0 rfl) ?_
    refine lv_iload hM.1 hM.2.1 dX11_feed_34 (lv_at hl 5 rfl) ?_
    refine x_callVV (rest := []) hM hw (ct_X11_writeWord l ho a5) [.int a5] (okX11.o ho) rfl rfl rfl (gi_V ml_X11_98 im_X11_writeWord sl_X11_writeWord in_X11 kc_X11_writeWord) hd_X11_writeWord rfl ⟨Nat.le_of_ble_eq_true rfl, Nat.le_of_ble_eq_true rfl⟩ rfl (Nat.le_of_ble_eq_true rfl) hl.1 hcs0 hf dX11_feed_36 (fun h5 H locs hf hw => ?_)
    refine lv_aload_n hM.1 hM.2.1 dX11_feed_39 rfl (lv_at hl 0 rfl) ?_
    refine gf_X11_tapeLength hM hw (okX11.o ho) fl_X11_13 dX11_feed_40 ?_
    exact hR _ _ _ _ _ _ _ (Option.some.inj hf) rfl rfl hw dX11_feed_43
  refine lv_iconst (v := (-1)) hM.1 hM.2.1 dX11_feed_10 ic_m1 ?_
  exact hR _ _ _ _ _ _ _ (Option.some.inj hf) rfl rfl hw dX11_feed_11
theorem hd_X11_feed : yX11_feed.cls = RX11 ∧ yX11_feed.cls ≠ "java/lang/invoke/MethodHandle" ∧ yX11_feed.cls ≠ "java/lang/invoke/VarHandle" ∧ (parseMethodDescriptor yX11_feed.desc).map (fun d => d.parameters.length) = some 5 := ⟨rfl, by decide, by decide, by decide +kernel⟩
theorem dX11_back_0 : decode cX11_back 0 = .ok (.iload_n 1, 1) := by decide +kernel
theorem dX11_back_1 : decode cX11_back 1 = .ok (.ifCond .lt 11, 3) := by decide +kernel
theorem dX11_back_4 : decode cX11_back 4 = .ok (.iload_n 1, 1) := by decide +kernel
theorem dX11_back_5 : decode cX11_back 5 = .ok (.aload_n 0, 1) := by decide +kernel
theorem dX11_back_6 : decode cX11_back 6 = .ok (.getfield 13, 3) := by decide +kernel
theorem dX11_back_9 : decode cX11_back 9 = .ok (.if_icmp .le 5, 3) := by decide +kernel
theorem dX11_back_12 : decode cX11_back 12 = .ok (.iconst (-1), 1) := by decide +kernel
theorem dX11_back_13 : decode cX11_back 13 = .ok (.ireturn, 1) := by decide +kernel
theorem dX11_back_14 : decode cX11_back 14 = .ok (.aload_n 0, 1) := by decide +kernel
theorem dX11_back_15 : decode cX11_back 15 = .ok (.dup, 1) := by decide +kernel
theorem dX11_back_16 : decode cX11_back 16 = .ok (.getfield 13, 3) := by decide +kernel
theorem dX11_back_19 : decode cX11_back 19 = .ok (.iload_n 1, 1) := by decide +kernel
theorem dX11_back_20 : decode cX11_back 20 = .ok (.isub, 1) := by decide +kernel
theorem dX11_back_21 : decode cX11_back 21 = .ok (.putfield 13, 3) := by decide +kernel
theorem dX11_back_24 : decode cX11_back 24 = .ok (.aload_n 0, 1) := by decide +kernel
theorem dX11_back_25 : decode cX11_back 25 = .ok (.getfield 13, 3) := by decide +kernel
theorem dX11_back_28 : decode cX11_back 28 = .ok (.ireturn, 1) := by decide +kernel
def c_X11_back (a1 : Int32) (h : PH) : Option (Int32 × PH) :=
  if a1 < 0 then
    some ((-1), h)
  else
    if a1 ≤ (h.1 0 1) then
      nm (setI h 0 1 ((h.1 0 1) - a1)) fun h1 =>
      some ((h1.1 0 1), h1)
    else
      some ((-1), h)
set_option maxHeartbeats 4000000 in
set_option maxRecDepth 100000 in
theorem ct_X11_back (l : Launch) {lay : List KK} (ho : okX11 lay) (a1 : Int32) : CtI l yX11_back cX11_back 2 (some .int) 0 0 lay (fun h => c_X11_back a1 h) (fun ad => [.ref (ad 0), .int a1]) := by
  refine CtI.mk' RX11 (by decide) rfl (fun _ => Nat.le_of_ble_eq_true rfl) ?_
  intro p0 e s m args below meth c D G A H0 ad X h r0 H ls Q hM hw hl hf hR
  have hl : lv_has ls 2 [(0, .ref (ad 0)), (1, .int a1)] := hl
  unfold c_X11_back at hf
  refine lv_iload_n hM.1 hM.2.1 dX11_back_0 rfl (lv_at hl 1 rfl) ?_
  refine x_if_lt (tgt := 12) hM hf dX11_back_1 (by decide) (fun hf => ?_) (fun hf => ?_)
  · refine lv_iconst (v := (-1)) hM.1 hM.2.1 dX11_back_12 ic_m1 ?_
    exact hR _ _ _ _ _ _ _ (Option.some.inj hf) rfl rfl hw dX11_back_13
  refine lv_iload_n hM.1 hM.2.1 dX11_back_4 rfl (lv_at hl 1 rfl) ?_
  refine lv_aload_n hM.1 hM.2.1 dX11_back_5 rfl (lv_at hl 0 rfl) ?_
  refine gf_X11_tapeLength hM hw (okX11.o ho) fl_X11_13 dX11_back_6 ?_
  refine x_ic_le (tgt := 14) hM hf dX11_back_9 (by decide) (fun hf => ?_) (fun hf => ?_)
  · refine lv_aload_n hM.1 hM.2.1 dX11_back_14 rfl (lv_at hl 0 rfl) ?_
    refine lv_dup hM.1 hM.2.1 dX11_back_15 rfl ?_
    refine gf_X11_tapeLength hM hw (okX11.o ho) fl_X11_13 dX11_back_16 ?_
    refine lv_iload_n hM.1 hM.2.1 dX11_back_19 rfl (lv_at hl 1 rfl) ?_
    refine lv_isub hM.1 hM.2.1 dX11_back_20 ?_
    refine pf_X11_tapeLength hM hw (okX11.o ho) fl_X11_13 hf dX11_back_21 (fun h1 H locs hf hw => ?_)
    refine lv_aload_n hM.1 hM.2.1 dX11_back_24 rfl (lv_at hl 0 rfl) ?_
    refine gf_X11_tapeLength hM hw (okX11.o ho) fl_X11_13 dX11_back_25 ?_
    exact hR _ _ _ _ _ _ _ (Option.some.inj hf) rfl rfl hw dX11_back_28
  refine lv_iconst (v := (-1)) hM.1 hM.2.1 dX11_back_12 ic_m1 ?_
  exact hR _ _ _ _ _ _ _ (Option.some.inj hf) rfl rfl hw dX11_back_13
theorem hd_X11_back : yX11_back.cls = RX11 ∧ yX11_back.cls ≠ "java/lang/invoke/MethodHandle" ∧ yX11_back.cls ≠ "java/lang/invoke/VarHandle" ∧ (parseMethodDescriptor yX11_back.desc).map (fun d => d.parameters.length) = some 1 := ⟨rfl, by decide, by decide, by decide +kernel⟩
theorem dX11_beginAnew_0 : decode cX11_beginAnew 0 = .ok (.aload_n 0, 1) := by decide +kernel
theorem dX11_beginAnew_1 : decode cX11_beginAnew 1 = .ok (.getfield 30, 3) := by decide +kernel
theorem dX11_beginAnew_4 : decode cX11_beginAnew 4 = .ok (.astore_n 1, 1) := by decide +kernel
theorem dX11_beginAnew_5 : decode cX11_beginAnew 5 = .ok (.aload_n 0, 1) := by decide +kernel
theorem dX11_beginAnew_6 : decode cX11_beginAnew 6 = .ok (.aload_n 0, 1) := by decide +kernel
theorem dX11_beginAnew_7 : decode cX11_beginAnew 7 = .ok (.getfield 23, 3) := by decide +kernel
theorem dX11_beginAnew_10 : decode cX11_beginAnew 10 = .ok (.getfield 113, 3) := by decide +kernel
theorem dX11_beginAnew_13 : decode cX11_beginAnew 13 = .ok (.putfield 30, 3) := by decide +kernel
theorem dX11_beginAnew_16 : decode cX11_beginAnew 16 = .ok (.aload_n 0, 1) := by decide +kernel
theorem dX11_beginAnew_17 : decode cX11_beginAnew 17 = .ok (.getfield 23, 3) := by decide +kernel
theorem dX11_beginAnew_20 : decode cX11_beginAnew 20 = .ok (.aload_n 1, 1) := by decide +kernel
theorem dX11_beginAnew_21 : decode cX11_beginAnew 21 = .ok (.putfield 113, 3) := by decide +kernel
theorem dX11_beginAnew_24 : decode cX11_beginAnew 24 = .ok (.aload_n 0, 1) := by decide +kernel
theorem dX11_beginAnew_25 : decode cX11_beginAnew 25 = .ok (.getfield 37, 3) := by decide +kernel
theorem dX11_beginAnew_28 : decode cX11_beginAnew 28 = .ok (.aload_n 0, 1) := by decide +kernel
theorem dX11_beginAnew_29 : decode cX11_beginAnew 29 = .ok (.getfield 30, 3) := by decide +kernel
theorem dX11_beginAnew_32 : decode cX11_beginAnew 32 = .ok (.invokevirtual 94, 3) := by decide +kernel
theorem dX11_beginAnew_35 : decode cX11_beginAnew 35 = .ok (.aload_n 0, 1) := by decide +kernel
theorem dX11_beginAnew_36 : decode cX11_beginAnew 36 = .ok (.getfield 47, 3) := by decide +kernel
theorem dX11_beginAnew_39 : decode cX11_beginAnew 39 = .ok (.invokevirtual 114, 3) := by decide +kernel
theorem dX11_beginAnew_42 : decode cX11_beginAnew 42 = .ok (.aload_n 0, 1) := by decide +kernel
theorem dX11_beginAnew_43 : decode cX11_beginAnew 43 = .ok (.getfield 83, 3) := by decide +kernel
theorem dX11_beginAnew_46 : decode cX11_beginAnew 46 = .ok (.invokevirtual 117, 3) := by decide +kernel
theorem dX11_beginAnew_49 : decode cX11_beginAnew 49 = .ok (.aload_n 0, 1) := by decide +kernel
theorem dX11_beginAnew_50 : decode cX11_beginAnew 50 = .ok (.getfield 90, 3) := by decide +kernel
theorem dX11_beginAnew_53 : decode cX11_beginAnew 53 = .ok (.invokevirtual 118, 3) := by decide +kernel
theorem dX11_beginAnew_56 : decode cX11_beginAnew 56 = .ok (.iconst 0, 1) := by decide +kernel
theorem dX11_beginAnew_57 : decode cX11_beginAnew 57 = .ok (.istore_n 2, 1) := by decide +kernel
theorem dX11_beginAnew_58 : decode cX11_beginAnew 58 = .ok (.iload_n 2, 1) := by decide +kernel
theorem dX11_beginAnew_59 : decode cX11_beginAnew 59 = .ok (.iconst 3, 1) := by decide +kernel
theorem dX11_beginAnew_60 : decode cX11_beginAnew 60 = .ok (.if_icmp .ge 16, 3) := by decide +kernel
theorem dX11_beginAnew_63 : decode cX11_beginAnew 63 = .ok (.aload_n 0, 1) := by decide +kernel
theorem dX11_beginAnew_64 : decode cX11_beginAnew 64 = .ok (.getfield 55, 3) := by decide +kernel
theorem dX11_beginAnew_67 : decode cX11_beginAnew 67 = .ok (.iload_n 2, 1) := by decide +kernel
theorem dX11_beginAnew_68 : decode cX11_beginAnew 68 = .ok (.iconst 0, 1) := by decide +kernel
theorem dX11_beginAnew_69 : decode cX11_beginAnew 69 = .ok (.bastore, 1) := by decide +kernel
theorem dX11_beginAnew_70 : decode cX11_beginAnew 70 = .ok (.iinc 2 1, 3) := by decide +kernel
theorem dX11_beginAnew_73 : decode cX11_beginAnew 73 = .ok (.goto (-15), 3) := by decide +kernel
theorem dX11_beginAnew_76 : decode cX11_beginAnew 76 = .ok (.return_, 1) := by decide +kernel
def c_X11_beginAnew_L58b {ρ : Type}  (K1 : PH → Option ρ) (REC : Int32 → PH → Option ρ) (x2 : Int32) (h : PH) : Option ρ :=
  if 3 ≤ x2 then
    K1 h
  else
    gd (ixOK x2 3) <| nm (setI h 216 x2.toNatClampNeg (vp_nar .boolean 0)) fun h11 =>
    nm (x2 + 1) fun v12 =>
    REC v12 h11
set_option maxHeartbeats 4000000 in
set_option maxRecDepth 100000 in
theorem w_X11_beginAnew_L58b {p0 : Program} {l : Launch} {e : Env} {s : State} {m : MethodId} {args : Array Value} {below : List Frame} {meth : Method} {c : Code} {Q : State → Prop} {D : va_G} {G : GG} {A : Nat → Prop} {H0 : Heap} {ad : Nat → Nat} {lay : List KK} {X : va_W} {ρ : Type} {r0 : ρ} {x2 : Int32} {h : PH} {H : Heap} {locs : List Loc} {ls : Array Slot} {K1 : PH → Option ρ} {REC : Int32 → PH → Option ρ} (hM : CallFix p0 m c cX11_beginAnew 3 s args lw_g RX11) (ho : okX11 lay) (hk1 : ∀ (h : PH), ∀ (H : Heap) (locs : List Loc) (ls : Array Slot), K1 h = some r0 → Wd D G A H0 ad lay X h s H locs → lv_has ls 3 [] → W p0 l e (rmN 2 43) s m args below meth c H locs 0 0 Q (F0 m 76 ls [])) (hrec : ∀ (x2 : Int32) (h : PH), ∀ (H : Heap) (locs : List Loc) (ls : Array Slot), REC x2 h = some r0 → Wd D G A H0 ad lay X h s H locs → lv_has ls 3 [(0, .ref (ad 0)), (2, .int x2)] → W p0 l e (rmN 2 43) s m args below meth c H locs 0 0 Q (F0 m 58 ls [])) (hw : Wd D G A H0 ad lay X h s H locs) (hl : lv_has ls 3 [(0, .ref (ad 0)), (2, .int x2)]) (hf : c_X11_beginAnew_L58b K1 REC x2 h = some r0) : W p0 l e (rmN 2 43) s m args below meth c H locs 0 0 Q (F0 m 58 ls []) := by
  unfold c_X11_beginAnew_L58b at hf
  refine lv_iload_n hM.1 hM.2.1 dX11_beginAnew_58 rfl (lv_at hl 1 rfl) ?_
  refine lv_iconst (v := 3) hM.1 hM.2.1 dX11_beginAnew_59 ic_3 ?_
  refine x_ic_ge (tgt := 76) hM hf dX11_beginAnew_60 (by decide) (fun hf => ?_) (fun hf => ?_)
  · exact hk1 _ _ _ _ hf hw (lv_sub hl [] rfl)
  refine lv_aload_n hM.1 hM.2.1 dX11_beginAnew_63 rfl (lv_at hl 0 rfl) ?_
  refine gf_X11_held hM hw (okX11.o ho) fl_X11_55 dX11_beginAnew_64 ?_
  refine lv_iload_n hM.1 hM.2.1 dX11_beginAnew_67 rfl (lv_at hl 1 rfl) ?_
  refine lv_iconst (v := 0) hM.1 hM.2.1 dX11_beginAnew_68 ic_0 ?_
  refine x_zast hM hw (okX11.held ho) hf dX11_beginAnew_69 (fun h11 H locs hf hw => ?_)
  refine x_iinc (k := 1) (d := 1) hM hf dX11_beginAnew_70 hl rfl (by decide) (by decide) (fun v12 => [(2, .int v12), (0, .ref (ad 0))]) (fun _ => rfl) (fun v12 ls hf hl => ?_)
  refine lv_goto (tgt := 58) hM.1 hM.2.1 dX11_beginAnew_73 (by decide) ?_
  exact hrec _ _ _ _ _ hf hw (lv_sub hl [1, 0] rfl)
set_option maxHeartbeats 4000000 in
set_option maxRecDepth 100000 in
theorem w_X11_beginAnew_L58 {p0 : Program} {l : Launch} {e : Env} {s : State} {m : MethodId} {args : Array Value} {below : List Frame} {meth : Method} {c : Code} {Q : State → Prop} {D : va_G} {G : GG} {A : Nat → Prop} {H0 : Heap} {ad : Nat → Nat} {lay : List KK} {X : va_W} {ρ : Type} {r0 : ρ} {K1 : PH → Option ρ} (hM : CallFix p0 m c cX11_beginAnew 3 s args lw_g RX11) (ho : okX11 lay) (hk1 : ∀ (h : PH), ∀ (H : Heap) (locs : List Loc) (ls : Array Slot), K1 h = some r0 → Wd D G A H0 ad lay X h s H locs → lv_has ls 3 [] → W p0 l e (rmN 2 43) s m args below meth c H locs 0 0 Q (F0 m 76 ls [])) (n : Nat) (x2 : Int32) (h : PH) (hf : lq2 (c_X11_beginAnew_L58b K1) n x2 h = some r0) : ∀ (H : Heap) (locs : List Loc) (ls : Array Slot), Wd D G A H0 ad lay X h s H locs → lv_has ls 3 [(0, .ref (ad 0)), (2, .int x2)] → W p0 l e (rmN 2 43) s m args below meth c H locs 0 0 Q (F0 m 58 ls []) := by
  exact lq2_i (fun (x2 : Int32) (h : PH) => ∀ (H : Heap) (locs : List Loc) (ls : Array Slot), Wd D G A H0 ad lay X h s H locs → lv_has ls 3 [(0, .ref (ad 0)), (2, .int x2)] → W p0 l e (rmN 2 43) s m args below meth c H locs 0 0 Q (F0 m 58 ls [])) (fun REC x2 h ih hf H locs ls hw hl => w_X11_beginAnew_L58b hM ho hk1 (fun x2 h H locs ls hf hw hl => ih x2 h hf H locs ls hw hl) hw hl hf) n x2 h hf
def c_X11_beginAnew (h : PH) : Option (PH) :=
  nm (h.2.2 0 4) fun t1 =>
  gd (tOK t1) <|
  nm (h.2.2 2 1) fun t2 =>
  gd (tOK t2) <|
  nm (setR h 0 4 t2) fun h3 =>
  nm (setR h3 2 1 t1) fun h4 =>
  nm (h4.2.2 0 4) fun t5 =>
  gd (tOK t5) <|
  (c_X8_begin 78 t5 h4).bind fun h6 =>
  (c_X5_clear 84 h6).bind fun h7 =>
  (c_X0_clear 229 h7).bind fun h8 =>
  (c_X6_clear 234 h8).bind fun h9 =>
  nm (0 : Int32) fun v10 =>
  lq2 (c_X11_beginAnew_L58b
    (fun h13 =>
      some h13)) fu v10 h9
set_option maxHeartbeats 4000000 in
set_option maxRecDepth 100000 in
theorem ct_X11_beginAnew (l : Launch) {lay : List KK} (ho : okX11 lay) : CtV l yX11_beginAnew cX11_beginAnew 3 (none) 2 43 lay (fun h => c_X11_beginAnew h) (fun ad => [.ref (ad 0)]) := by
  refine CtV.mk' RX11 (by decide) rfl (fun _ => Nat.le_of_ble_eq_true rfl) ?_
  intro p0 e s m args below meth c D G A H0 ad X h r0 H ls Q hM hw hl hf hR
  have hl : lv_has ls 3 [(0, .ref (ad 0))] := hl
  unfold c_X11_beginAnew at hf
  refine lv_aload_n hM.1 hM.2.1 dX11_beginAnew_0 rfl (lv_at hl 0 rfl) ?_
  refine gf_X11_text hM hw (okX11.o ho) fl_X11_30 dX11_beginAnew_1 ?_
  refine x_nmr hf (fun t1 hf => ?_)
  obtain ⟨hok_t1, hf⟩ := x_cond hf
  refine lv_astore_n (lv' := [(1, .ref (ad t1)), (0, .ref (ad 0))]) hM.1 hM.2.1 dX11_beginAnew_4 rfl hl (by decide) rfl (fun ls hl => ?_)
  refine lv_aload_n hM.1 hM.2.1 dX11_beginAnew_5 rfl (lv_at hl 1 rfl) ?_
  refine lv_aload_n hM.1 hM.2.1 dX11_beginAnew_6 rfl (lv_at hl 1 rfl) ?_
  refine gf_X11_parser hM hw (okX11.o ho) fl_X11_23 dX11_beginAnew_7 ?_
  refine gf_X4_text hM hw (okX4.o (okX11.parser ho)) fl_X11_113 dX11_beginAnew_10 ?_
  refine x_nmr hf (fun t2 hf => ?_)
  obtain ⟨hok_t2, hf⟩ := x_cond hf
  refine pf_X11_text hM hw (okX11.o ho) fl_X11_30 hf dX11_beginAnew_13 (fun h3 H locs hf hw => ?_)
  refine lv_aload_n hM.1 hM.2.1 dX11_beginAnew_16 rfl (lv_at hl 1 rfl) ?_
  refine gf_X11_parser hM hw (okX11.o ho) fl_X11_23 dX11_beginAnew_17 ?_
  refine lv_aload_n hM.1 hM.2.1 dX11_beginAnew_20 rfl (lv_at hl 0 rfl) ?_
  refine pf_X4_text hM hw (okX4.o (okX11.parser ho)) fl_X11_113 hf dX11_beginAnew_21 (fun h4 H locs hf hw => ?_)
  refine lv_aload_n hM.1 hM.2.1 dX11_beginAnew_24 rfl (lv_at hl 1 rfl) ?_
  refine gf_X11_now hM hw (okX11.o ho) fl_X11_37 dX11_beginAnew_25 ?_
  refine lv_aload_n hM.1 hM.2.1 dX11_beginAnew_28 rfl (lv_at hl 1 rfl) ?_
  refine gf_X11_text hM hw (okX11.o ho) fl_X11_30 dX11_beginAnew_29 ?_
  refine x_nmr hf (fun t5 hf => ?_)
  obtain ⟨hok_t5, hf⟩ := x_cond hf
  refine x_callVV (rest := []) hM hw (ct_X8_begin l (okX11.now ho) (okX11.textOf ho hok_t5)) [.ref (ad t5)] (okX8.o (okX11.now ho)) rfl rfl rfl (gi_V ml_X11_94 im_X8_begin sl_X8_begin in_X8 kc_X8_begin) hd_X8_begin rfl ⟨Nat.le_of_ble_eq_true rfl, Nat.le_of_ble_eq_true rfl⟩ rfl (Nat.le_of_ble_eq_true rfl) hl.1 hcs0 hf dX11_beginAnew_32 (fun h6 H locs hf hw => ?_)
  refine lv_aload_n hM.1 hM.2.1 dX11_beginAnew_35 rfl (lv_at hl 1 rfl) ?_
  refine gf_X11_past hM hw (okX11.o ho) fl_X11_47 dX11_beginAnew_36 ?_
  refine x_callVV (rest := []) hM hw (ct_X5_clear l (okX11.past ho)) [] (okX5.o (okX11.past ho)) rfl rfl rfl (gi_V ml_X11_114 im_X5_clear sl_X5_clear in_X5 kc_X5_clear) hd_X5_clear rfl ⟨Nat.le_of_ble_eq_true rfl, Nat.le_of_ble_eq_true rfl⟩ rfl (Nat.le_of_ble_eq_true rfl) hl.1 hcs0 hf dX11_beginAnew_39 (fun h7 H locs hf hw => ?_)
  refine lv_aload_n hM.1 hM.2.1 dX11_beginAnew_42 rfl (lv_at hl 1 rfl) ?_
  refine gf_X11_aunts hM hw (okX11.o ho) fl_X11_83 dX11_beginAnew_43 ?_
  refine x_callVV (rest := []) hM hw (ct_X0_clear l (okX11.aunts ho)) [] (okX0.o (okX11.aunts ho)) rfl rfl rfl (gi_V ml_X11_117 im_X0_clear sl_X0_clear in_X0 kc_X0_clear) hd_X0_clear rfl ⟨Nat.le_of_ble_eq_true rfl, Nat.le_of_ble_eq_true rfl⟩ rfl (Nat.le_of_ble_eq_true rfl) hl.1 hcs0 hf dX11_beginAnew_46 (fun h8 H locs hf hw => ?_)
  refine lv_aload_n hM.1 hM.2.1 dX11_beginAnew_49 rfl (lv_at hl 1 rfl) ?_
  refine gf_X11_records hM hw (okX11.o ho) fl_X11_90 dX11_beginAnew_50 ?_
  refine x_callVV (rest := []) hM hw (ct_X6_clear l (okX11.records ho)) [] (okX6.o (okX11.records ho)) rfl rfl rfl (gi_V ml_X11_118 im_X6_clear sl_X6_clear in_X6 kc_X6_clear) hd_X6_clear rfl ⟨Nat.le_of_ble_eq_true rfl, Nat.le_of_ble_eq_true rfl⟩ rfl (Nat.le_of_ble_eq_true rfl) hl.1 hcs0 hf dX11_beginAnew_53 (fun h9 H locs hf hw => ?_)
  refine lv_iconst (v := 0) hM.1 hM.2.1 dX11_beginAnew_56 ic_0 ?_
  refine x_istore_n hM hf dX11_beginAnew_57 rfl hl (by decide) (fun v10 => [(2, .int v10), (1, .ref (ad t1)), (0, .ref (ad 0))]) (fun _ => rfl) (fun v10 ls hf hl => ?_)
  refine w_X11_beginAnew_L58 hM ho (fun h13 H locs ls hf hw hl => ?_) fu _ _ hf _ _ _ hw (lv_sub hl [2, 0] rfl)
  exact hR _ _ _ _ _ (Option.some.inj hf) rfl hw dX11_beginAnew_76
theorem hd_X11_beginAnew : yX11_beginAnew.cls = RX11 ∧ yX11_beginAnew.cls ≠ "java/lang/invoke/MethodHandle" ∧ yX11_beginAnew.cls ≠ "java/lang/invoke/VarHandle" ∧ (parseMethodDescriptor yX11_beginAnew.desc).map (fun d => d.parameters.length) = some 0 := ⟨rfl, by decide, by decide, by decide +kernel⟩
theorem dX11_read_0 : decode cX11_read 0 = .ok (.aload_n 0, 1) := by decide +kernel
theorem dX11_read_1 : decode cX11_read 1 = .ok (.getfield 23, 3) := by decide +kernel
theorem dX11_read_4 : decode cX11_read 4 = .ok (.aload_n 0, 1) := by decide +kernel
theorem dX11_read_5 : decode cX11_read 5 = .ok (.getfield 9, 3) := by decide +kernel
theorem dX11_read_8 : decode cX11_read 8 = .ok (.aload_n 0, 1) := by decide +kernel
theorem dX11_read_9 : decode cX11_read 9 = .ok (.getfield 13, 3) := by decide +kernel
theorem dX11_read_12 : decode cX11_read 12 = .ok (.invokevirtual 102, 3) := by decide +kernel
theorem dX11_read_15 : decode cX11_read 15 = .ok (.istore_n 1, 1) := by decide +kernel
theorem dX11_read_16 : decode cX11_read 16 = .ok (.aload_n 0, 1) := by decide +kernel
theorem dX11_read_17 : decode cX11_read 17 = .ok (.aload_n 0, 1) := by decide +kernel
theorem dX11_read_18 : decode cX11_read 18 = .ok (.getfield 23, 3) := by decide +kernel
theorem dX11_read_21 : decode cX11_read 21 = .ok (.invokevirtual 106, 3) := by decide +kernel
theorem dX11_read_24 : decode cX11_read 24 = .ok (.putfield 17, 3) := by decide +kernel
theorem dX11_read_27 : decode cX11_read 27 = .ok (.aload_n 0, 1) := by decide +kernel
theorem dX11_read_28 : decode cX11_read 28 = .ok (.iconst 0, 1) := by decide +kernel
theorem dX11_read_29 : decode cX11_read 29 = .ok (.putfield 13, 3) := by decide +kernel
theorem dX11_read_32 : decode cX11_read 32 = .ok (.iload_n 1, 1) := by decide +kernel
theorem dX11_read_33 : decode cX11_read 33 = .ok (.ifCond .ne 7, 3) := by decide +kernel
theorem dX11_read_36 : decode cX11_read 36 = .ok (.aload_n 0, 1) := by decide +kernel
theorem dX11_read_37 : decode cX11_read 37 = .ok (.invokevirtual 110, 3) := by decide +kernel
theorem dX11_read_40 : decode cX11_read 40 = .ok (.iload_n 1, 1) := by decide +kernel
theorem dX11_read_41 : decode cX11_read 41 = .ok (.ireturn, 1) := by decide +kernel
def c_X11_read (h : PH) : Option (Int32 × PH) :=
  bind2 (c_X4_parse 2 1 (h.1 0 1) h) fun r1 h2 =>
  nm r1 fun v3 =>
  (c_X4_placeOfFault 2 h2).bind fun r4 =>
  nm (setI h2 0 2 r4) fun h5 =>
  nm (setI h5 0 1 0) fun h6 =>
  if v3 = 0 then
    (c_X11_beginAnew h6).bind fun h7 =>
    some (v3, h7)
  else
    some (v3, h6)
set_option maxHeartbeats 4000000 in
set_option maxRecDepth 100000 in
theorem ct_X11_read (l : Launch) {lay : List KK} (ho : okX11 lay) : CtI l yX11_read cX11_read 2 (some .int) 27 2471 lay (fun h => c_X11_read h) (fun ad => [.ref (ad 0)]) := by
  refine CtI.mk' RX11 (by decide) rfl (fun _ => Nat.le_of_ble_eq_true rfl) ?_
  intro p0 e s m args below meth c D G A H0 ad X h r0 H ls Q hM hw hl hf hR
  have hl : lv_has ls 2 [(0, .ref (ad 0))] := hl
  unfold c_X11_read at hf
  refine lv_aload_n hM.1 hM.2.1 dX11_read_0 rfl (lv_at hl 0 rfl) ?_
  refine gf_X11_parser hM hw (okX11.o ho) fl_X11_23 dX11_read_1 ?_
  refine lv_aload_n hM.1 hM.2.1 dX11_read_4 rfl (lv_at hl 0 rfl) ?_
  refine gf_X11_tape hM hw (okX11.o ho) fl_X11_9 dX11_read_5 ?_
  refine lv_aload_n hM.1 hM.2.1 dX11_read_8 rfl (lv_at hl 0 rfl) ?_
  refine gf_X11_tapeLength hM hw (okX11.o ho) fl_X11_13 dX11_read_9 ?_
  refine x_callVI (rest := []) hM hw (ct_X4_parse l (okX11.parser ho) (okX11.tape ho) (h.1 0 1)) [.ref (ad 1), .int (h.1 0 1)] (okX4.o (okX11.parser ho)) rfl rfl rfl (gi_V ml_X11_102 im_X4_parse sl_X4_parse in_X4 kc_X4_parse) hd_X4_parse rfl ⟨Nat.le_of_ble_eq_true rfl, Nat.le_of_ble_eq_true rfl⟩ rfl (Nat.le_of_ble_eq_true rfl) hl.1 hcs0 hf dX11_read_12 (fun r1 h2 H locs hf hw => ?_)
  refine x_istore_n hM hf dX11_read_15 rfl hl (by decide) (fun v3 => [(1, .int v3), (0, .ref (ad 0))]) (fun _ => rfl) (fun v3 ls hf hl => ?_)
  refine lv_aload_n hM.1 hM.2.1 dX11_read_16 rfl (lv_at hl 1 rfl) ?_
  refine lv_aload_n hM.1 hM.2.1 dX11_read_17 rfl (lv_at hl 1 rfl) ?_
  refine gf_X11_parser hM hw (okX11.o ho) fl_X11_23 dX11_read_18 ?_
  refine x_callVIr (rest := [.ref (ad 0)]) hM hw (ct_X4_placeOfFault l (okX11.parser ho)) [] (okX4.o (okX11.parser ho)) rfl rfl rfl (gi_V ml_X11_106 im_X4_placeOfFault sl_X4_placeOfFault in_X4 kc_X4_placeOfFault) hd_X4_placeOfFault rfl ⟨Nat.le_of_ble_eq_true rfl, Nat.le_of_ble_eq_true rfl⟩ rfl (Nat.le_of_ble_eq_true rfl) hl.1 hcs0 hf dX11_read_21 (fun r4 H locs hf hw => ?_)
  refine pf_X11_faultPlace hM hw (okX11.o ho) fl_X11_17 hf dX11_read_24 (fun h5 H locs hf hw => ?_)
  refine lv_aload_n hM.1 hM.2.1 dX11_read_27 rfl (lv_at hl 1 rfl) ?_
  refine lv_iconst (v := 0) hM.1 hM.2.1 dX11_read_28 ic_0 ?_
  refine pf_X11_tapeLength hM hw (okX11.o ho) fl_X11_13 hf dX11_read_29 (fun h6 H locs hf hw => ?_)
  refine lv_iload_n hM.1 hM.2.1 dX11_read_32 rfl (lv_at hl 0 rfl) ?_
  refine x_if_ne (tgt := 40) hM hf dX11_read_33 (by decide) (fun hf => ?_) (fun hf => ?_)
  · refine lv_iload_n hM.1 hM.2.1 dX11_read_40 rfl (lv_at hl 0 rfl) ?_
    exact hR _ _ _ _ _ _ _ (Option.some.inj hf) rfl rfl hw dX11_read_41
  refine lv_aload_n hM.1 hM.2.1 dX11_read_36 rfl (lv_at hl 1 rfl) ?_
  refine x_callVV (rest := []) hM hw (ct_X11_beginAnew l ho) [] (okX11.o ho) rfl rfl rfl (gi_V ml_X11_110 im_X11_beginAnew sl_X11_beginAnew in_X11 kc_X11_beginAnew) hd_X11_beginAnew rfl ⟨Nat.le_of_ble_eq_true rfl, Nat.le_of_ble_eq_true rfl⟩ rfl (Nat.le_of_ble_eq_true rfl) hl.1 hcs0 hf dX11_read_37 (fun h7 H locs hf hw => ?_)
  refine lv_iload_n hM.1 hM.2.1 dX11_read_40 rfl (lv_at hl 0 rfl) ?_
  exact hR _ _ _ _ _ _ _ (Option.some.inj hf) rfl rfl hw dX11_read_41
theorem hd_X11_read : yX11_read.cls = RX11 ∧ yX11_read.cls ≠ "java/lang/invoke/MethodHandle" ∧ yX11_read.cls ≠ "java/lang/invoke/VarHandle" ∧ (parseMethodDescriptor yX11_read.desc).map (fun d => d.parameters.length) = some 0 := ⟨rfl, by decide, by decide, by decide +kernel⟩
theorem dX11_place_0 : decode cX11_place 0 = .ok (.aload_n 0, 1) := by decide +kernel
theorem dX11_place_1 : decode cX11_place 1 = .ok (.getfield 17, 3) := by decide +kernel
theorem dX11_place_4 : decode cX11_place 4 = .ok (.ireturn, 1) := by decide +kernel
def c_X11_place (h : PH) : Option (Int32) :=
  some (h.1 0 2)
set_option maxHeartbeats 4000000 in
set_option maxRecDepth 100000 in
theorem ct_X11_place (l : Launch) {lay : List KK} (ho : okX11 lay) : CtI l yX11_place cX11_place 1 (some .int) 0 0 lay (rd (fun h => c_X11_place h)) (fun ad => [.ref (ad 0)]) := by
  refine CtI.mk' RX11 (by decide) rfl (fun _ => Nat.le_of_ble_eq_true rfl) ?_
  intro p0 e s m args below meth c D G A H0 ad X h r0 H ls Q hM hw hl hf hR
  have hl : lv_has ls 1 [(0, .ref (ad 0))] := hl
  obtain ⟨v0, hv0, hr0⟩ : ∃ v0, c_X11_place h = some v0 ∧ r0 = (v0, h) := rd_some hf
  subst hr0
  have hf := hv0
  unfold c_X11_place at hf
  refine lv_aload_n hM.1 hM.2.1 dX11_place_0 rfl (lv_at hl 0 rfl) ?_
  refine gf_X11_faultPlace hM hw (okX11.o ho) fl_X11_17 dX11_place_1 ?_
  exact hR _ _ _ _ _ _ _ (congrArg (fun z => (z, _)) (Option.some.inj hf)) rfl rfl hw dX11_place_4
theorem hd_X11_place : yX11_place.cls = RX11 ∧ yX11_place.cls ≠ "java/lang/invoke/MethodHandle" ∧ yX11_place.cls ≠ "java/lang/invoke/VarHandle" ∧ (parseMethodDescriptor yX11_place.desc).map (fun d => d.parameters.length) = some 0 := ⟨rfl, by decide, by decide, by decide +kernel⟩
theorem dX11_man_0 : decode cX11_man 0 = .ok (.aload_n 0, 1) := by decide +kernel
theorem dX11_man_1 : decode cX11_man 1 = .ok (.getfield 30, 3) := by decide +kernel
theorem dX11_man_4 : decode cX11_man 4 = .ok (.iload_n 1, 1) := by decide +kernel
theorem dX11_man_5 : decode cX11_man 5 = .ok (.invokevirtual 119, 3) := by decide +kernel
theorem dX11_man_8 : decode cX11_man 8 = .ok (.ifCond .ne 5, 3) := by decide +kernel
theorem dX11_man_11 : decode cX11_man 11 = .ok (.iconst (-1), 1) := by decide +kernel
theorem dX11_man_12 : decode cX11_man 12 = .ok (.ireturn, 1) := by decide +kernel
theorem dX11_man_13 : decode cX11_man 13 = .ok (.iload_n 2, 1) := by decide +kernel
theorem dX11_man_14 : decode cX11_man 14 = .ok (.tableswitch 118 0 4 #[34, 44, 56, 68, 97], 34) := by decide +kernel
theorem dX11_man_48 : decode cX11_man 48 = .ok (.aload_n 0, 1) := by decide +kernel
theorem dX11_man_49 : decode cX11_man 49 = .ok (.getfield 37, 3) := by decide +kernel
theorem dX11_man_52 : decode cX11_man 52 = .ok (.getfield 123, 3) := by decide +kernel
theorem dX11_man_55 : decode cX11_man 55 = .ok (.iload_n 1, 1) := by decide +kernel
theorem dX11_man_56 : decode cX11_man 56 = .ok (.iaload, 1) := by decide +kernel
theorem dX11_man_57 : decode cX11_man 57 = .ok (.ireturn, 1) := by decide +kernel
theorem dX11_man_58 : decode cX11_man 58 = .ok (.aload_n 0, 1) := by decide +kernel
theorem dX11_man_59 : decode cX11_man 59 = .ok (.getfield 30, 3) := by decide +kernel
theorem dX11_man_62 : decode cX11_man 62 = .ok (.getfield 127, 3) := by decide +kernel
theorem dX11_man_65 : decode cX11_man 65 = .ok (.iload_n 1, 1) := by decide +kernel
theorem dX11_man_66 : decode cX11_man 66 = .ok (.aaload, 1) := by decide +kernel
theorem dX11_man_67 : decode cX11_man 67 = .ok (.iconst 1, 1) := by decide +kernel
theorem dX11_man_68 : decode cX11_man 68 = .ok (.iaload, 1) := by decide +kernel
theorem dX11_man_69 : decode cX11_man 69 = .ok (.ireturn, 1) := by decide +kernel
theorem dX11_man_70 : decode cX11_man 70 = .ok (.aload_n 0, 1) := by decide +kernel
theorem dX11_man_71 : decode cX11_man 71 = .ok (.getfield 30, 3) := by decide +kernel
theorem dX11_man_74 : decode cX11_man 74 = .ok (.getfield 127, 3) := by decide +kernel
theorem dX11_man_77 : decode cX11_man 77 = .ok (.iload_n 1, 1) := by decide +kernel
theorem dX11_man_78 : decode cX11_man 78 = .ok (.aaload, 1) := by decide +kernel
theorem dX11_man_79 : decode cX11_man 79 = .ok (.iconst 2, 1) := by decide +kernel
theorem dX11_man_80 : decode cX11_man 80 = .ok (.iaload, 1) := by decide +kernel
theorem dX11_man_81 : decode cX11_man 81 = .ok (.ireturn, 1) := by decide +kernel
theorem dX11_man_82 : decode cX11_man 82 = .ok (.aload_n 0, 1) := by decide +kernel
theorem dX11_man_83 : decode cX11_man 83 = .ok (.getfield 37, 3) := by decide +kernel
theorem dX11_man_86 : decode cX11_man 86 = .ok (.aload_n 0, 1) := by decide +kernel
theorem dX11_man_87 : decode cX11_man 87 = .ok (.getfield 30, 3) := by decide +kernel
theorem dX11_man_90 : decode cX11_man 90 = .ok (.aload_n 0, 1) := by decide +kernel
theorem dX11_man_91 : decode cX11_man 91 = .ok (.getfield 37, 3) := by decide +kernel
theorem dX11_man_94 : decode cX11_man 94 = .ok (.getfield 131, 3) := by decide +kernel
theorem dX11_man_97 : decode cX11_man 97 = .ok (.aload_n 0, 1) := by decide +kernel
theorem dX11_man_98 : decode cX11_man 98 = .ok (.getfield 37, 3) := by decide +kernel
theorem dX11_man_101 : decode cX11_man 101 = .ok (.getfield 134, 3) := by decide +kernel
theorem dX11_man_104 : decode cX11_man 104 = .ok (.ior, 1) := by decide +kernel
theorem dX11_man_105 : decode cX11_man 105 = .ok (.iconst (-1), 1) := by decide +kernel
theorem dX11_man_106 : decode cX11_man 106 = .ok (.iload_n 1, 1) := by decide +kernel
theorem dX11_man_107 : decode cX11_man 107 = .ok (.invokevirtual 137, 3) := by decide +kernel
theorem dX11_man_110 : decode cX11_man 110 = .ok (.ireturn, 1) := by decide +kernel
theorem dX11_man_111 : decode cX11_man 111 = .ok (.aload_n 0, 1) := by decide +kernel
theorem dX11_man_112 : decode cX11_man 112 = .ok (.getfield 37, 3) := by decide +kernel
theorem dX11_man_115 : decode cX11_man 115 = .ok (.aload_n 0, 1) := by decide +kernel
theorem dX11_man_116 : decode cX11_man 116 = .ok (.getfield 30, 3) := by decide +kernel
theorem dX11_man_119 : decode cX11_man 119 = .ok (.aload_n 0, 1) := by decide +kernel
theorem dX11_man_120 : decode cX11_man 120 = .ok (.getfield 37, 3) := by decide +kernel
theorem dX11_man_123 : decode cX11_man 123 = .ok (.getfield 134, 3) := by decide +kernel
theorem dX11_man_126 : decode cX11_man 126 = .ok (.iconst (-1), 1) := by decide +kernel
theorem dX11_man_127 : decode cX11_man 127 = .ok (.iload_n 1, 1) := by decide +kernel
theorem dX11_man_128 : decode cX11_man 128 = .ok (.invokevirtual 137, 3) := by decide +kernel
theorem dX11_man_131 : decode cX11_man 131 = .ok (.ireturn, 1) := by decide +kernel
theorem dX11_man_132 : decode cX11_man 132 = .ok (.iconst (-1), 1) := by decide +kernel
theorem dX11_man_133 : decode cX11_man 133 = .ok (.ireturn, 1) := by decide +kernel
def c_X11_man (a1 : Int32) (a2 : Int32) (h : PH) : Option (Int32) :=
  nm (h.2.2 0 4) fun t1 =>
  gd (tOK t1) <|
  (c_X9_isMan t1 a1 h).bind fun r2 =>
  if r2 = 0 then
    some (-1)
  else
    if a2 = 0 then
      gd (ixOK a1 5) <|
      some (h.1 (78 + 1) a1.toNatClampNeg)
    else
    if a2 = 1 then
      nm (h.2.2 0 4) fun t3 =>
      gd (tOK t3) <|
      gd (ixOK a1 5) <|
      some (h.1 (t3 + 7 + 1 + a1.toNatClampNeg) 1)
    else
    if a2 = 2 then
      nm (h.2.2 0 4) fun t5 =>
      gd (tOK t5) <|
      gd (ixOK a1 5) <|
      some (h.1 (t5 + 7 + 1 + a1.toNatClampNeg) 2)
    else
    if a2 = 3 then
      nm (h.2.2 0 4) fun t7 =>
      gd (tOK t7) <|
      (c_X8_tales 78 t7 ((h.1 78 4) ||| (h.1 78 5)) (-1) a1 h).bind fun r8 =>
      some r8
    else
    if a2 = 4 then
      nm (h.2.2 0 4) fun t9 =>
      gd (tOK t9) <|
      (c_X8_tales 78 t9 (h.1 78 5) (-1) a1 h).bind fun r10 =>
      some r10
    else
      some (-1)
set_option maxHeartbeats 4000000 in
set_option maxRecDepth 100000 in
theorem ct_X11_man (l : Launch) {lay : List KK} (ho : okX11 lay) (a1 : Int32) (a2 : Int32) : CtI l yX11_man cX11_man 3 (some .int) 1 29 lay (rd (fun h => c_X11_man a1 a2 h)) (fun ad => [.ref (ad 0), .int a1, .int a2]) := by
  refine CtI.mk' RX11 (by decide) rfl (fun _ => Nat.le_of_ble_eq_true rfl) ?_
  intro p0 e s m args below meth c D G A H0 ad X h r0 H ls Q hM hw hl hf hR
  have hl : lv_has ls 3 [(0, .ref (ad 0)), (1, .int a1), (2, .int a2)] := hl
  obtain ⟨v0, hv0, hr0⟩ : ∃ v0, c_X11_man a1 a2 h = some v0 ∧ r0 = (v0, h) := rd_some hf
  subst hr0
  have hf := hv0
  unfold c_X11_man at hf
  refine lv_aload_n hM.1 hM.2.1 dX11_man_0 rfl (lv_at hl 0 rfl) ?_
  refine gf_X11_text hM hw (okX11.o ho) fl_X11_30 dX11_man_1 ?_
  refine x_nmr hf (fun t1 hf => ?_)
  obtain ⟨hok_t1, hf⟩ := x_cond hf
  refine lv_iload_n hM.1 hM.2.1 dX11_man_4 rfl (lv_at hl 1 rfl) ?_
  refine x_callVIr (rest := []) hM hw (ct_X9_isMan l (okX11.textOf ho hok_t1) a1) [.int a1] (okX9.o (okX11.textOf ho hok_t1)) rfl rfl rfl (gi_V ml_X11_119 im_X9_isMan sl_X9_isMan in_X9 kc_X9_isMan) hd_X9_isMan rfl ⟨Nat.le_of_ble_eq_true rfl, Nat.le_of_ble_eq_true rfl⟩ rfl (Nat.le_of_ble_eq_true rfl) hl.1 hcs0 hf dX11_man_5 (fun r2 H locs hf hw => ?_)
  refine x_if_ne (tgt := 13) hM hf dX11_man_8 (by decide) (fun hf => ?_) (fun hf => ?_)
  · refine lv_iload_n hM.1 hM.2.1 dX11_man_13 rfl (lv_at hl 2 rfl) ?_
    refine x_sw hf (fun hx hf => ?_) (fun n0 hf => ?_)
    · refine x_tabIn (tgt := 48) hM hx dX11_man_14 (by decide) (by decide) rfl (by decide) ?_
      refine lv_aload_n hM.1 hM.2.1 dX11_man_48 rfl (lv_at hl 0 rfl) ?_
      refine gf_X11_now hM hw (okX11.o ho) fl_X11_37 dX11_man_49 ?_
      refine gf_X8_trustOf hM hw (okX8.o (okX11.now ho)) fl_X11_123 dX11_man_52 ?_
      refine lv_iload_n hM.1 hM.2.1 dX11_man_55 rfl (lv_at hl 1 rfl) ?_
      refine x_iald hM hw (okX8.trustOf (okX11.now ho)) hf dX11_man_56 (fun hf => ?_)
      exact hR _ _ _ _ _ _ _ (congrArg (fun z => (z, _)) (Option.some.inj hf)) rfl rfl hw dX11_man_57
    refine x_sw hf (fun hx hf => ?_) (fun n1 hf => ?_)
    · refine x_tabIn (tgt := 58) hM hx dX11_man_14 (by decide) (by decide) rfl (by decide) ?_
      refine lv_aload_n hM.1 hM.2.1 dX11_man_58 rfl (lv_at hl 0 rfl) ?_
      refine gf_X11_text hM hw (okX11.o ho) fl_X11_30 dX11_man_59 ?_
      refine x_nmr hf (fun t3 hf => ?_)
      obtain ⟨hok_t3, hf⟩ := x_cond hf
      refine gf_X9_manRows hM hw (okX9.o (okX11.textOf ho hok_t3)) fl_X11_127 dX11_man_62 ?_
      refine lv_iload_n hM.1 hM.2.1 dX11_man_65 rfl (lv_at hl 1 rfl) ?_
      refine x_aaldI hM hw (okX9.manRows (okX11.textOf ho hok_t3)) hf dX11_man_66 (fun hi4 hf => ?_)
      refine lv_iconst (v := 1) hM.1 hM.2.1 dX11_man_67 ic_1 ?_
      refine x_ialdK hM hw (okX9.manRows_atI (okX11.textOf ho hok_t3) hi4) 1 (by decide) (by decide) dX11_man_68 ?_
      exact hR _ _ _ _ _ _ _ (congrArg (fun z => (z, _)) (Option.some.inj hf)) rfl rfl hw dX11_man_69
    refine x_sw hf (fun hx hf => ?_) (fun n2 hf => ?_)
    · refine x_tabIn (tgt := 70) hM hx dX11_man_14 (by decide) (by decide) rfl (by decide) ?_
      refine lv_aload_n hM.1 hM.2.1 dX11_man_70 rfl (lv_at hl 0 rfl) ?_
      refine gf_X11_text hM hw (okX11.o ho) fl_X11_30 dX11_man_71 ?_
      refine x_nmr hf (fun t5 hf => ?_)
      obtain ⟨hok_t5, hf⟩ := x_cond hf
      refine gf_X9_manRows hM hw (okX9.o (okX11.textOf ho hok_t5)) fl_X11_127 dX11_man_74 ?_
      refine lv_iload_n hM.1 hM.2.1 dX11_man_77 rfl (lv_at hl 1 rfl) ?_
      refine x_aaldI hM hw (okX9.manRows (okX11.textOf ho hok_t5)) hf dX11_man_78 (fun hi6 hf => ?_)
      refine lv_iconst (v := 2) hM.1 hM.2.1 dX11_man_79 ic_2 ?_
      refine x_ialdK hM hw (okX9.manRows_atI (okX11.textOf ho hok_t5) hi6) 2 (by decide) (by decide) dX11_man_80 ?_
      exact hR _ _ _ _ _ _ _ (congrArg (fun z => (z, _)) (Option.some.inj hf)) rfl rfl hw dX11_man_81
    refine x_sw hf (fun hx hf => ?_) (fun n3 hf => ?_)
    · refine x_tabIn (tgt := 82) hM hx dX11_man_14 (by decide) (by decide) rfl (by decide) ?_
      refine lv_aload_n hM.1 hM.2.1 dX11_man_82 rfl (lv_at hl 0 rfl) ?_
      refine gf_X11_now hM hw (okX11.o ho) fl_X11_37 dX11_man_83 ?_
      refine lv_aload_n hM.1 hM.2.1 dX11_man_86 rfl (lv_at hl 0 rfl) ?_
      refine gf_X11_text hM hw (okX11.o ho) fl_X11_30 dX11_man_87 ?_
      refine x_nmr hf (fun t7 hf => ?_)
      obtain ⟨hok_t7, hf⟩ := x_cond hf
      refine lv_aload_n hM.1 hM.2.1 dX11_man_90 rfl (lv_at hl 0 rfl) ?_
      refine gf_X11_now hM hw (okX11.o ho) fl_X11_37 dX11_man_91 ?_
      refine gf_X8_freed hM hw (okX8.o (okX11.now ho)) fl_X11_131 dX11_man_94 ?_
      refine lv_aload_n hM.1 hM.2.1 dX11_man_97 rfl (lv_at hl 0 rfl) ?_
      refine gf_X11_now hM hw (okX11.o ho) fl_X11_37 dX11_man_98 ?_
      refine gf_X8_caught hM hw (okX8.o (okX11.now ho)) fl_X11_134 dX11_man_101 ?_
      refine lv_ior hM.1 hM.2.1 dX11_man_104 ?_
      refine lv_iconst (v := (-1)) hM.1 hM.2.1 dX11_man_105 ic_m1 ?_
      refine lv_iload_n hM.1 hM.2.1 dX11_man_106 rfl (lv_at hl 1 rfl) ?_
      refine x_callVIr (rest := []) hM hw (ct_X8_tales l (okX11.now ho) (okX11.textOf ho hok_t7) ((h.1 78 4) ||| (h.1 78 5)) (-1) a1) [.ref (ad t7), .int ((h.1 78 4) ||| (h.1 78 5)), .int (-1), .int a1] (okX8.o (okX11.now ho)) rfl rfl rfl (gi_V ml_X11_137 im_X8_tales sl_X8_tales in_X8 kc_X8_tales) hd_X8_tales rfl ⟨Nat.le_of_ble_eq_true rfl, Nat.le_of_ble_eq_true rfl⟩ rfl (Nat.le_of_ble_eq_true rfl) hl.1 hcs0 hf dX11_man_107 (fun r8 H locs hf hw => ?_)
      exact hR _ _ _ _ _ _ _ (congrArg (fun z => (z, _)) (Option.some.inj hf)) rfl rfl hw dX11_man_110
    refine x_sw hf (fun hx hf => ?_) (fun n4 hf => ?_)
    · refine x_tabIn (tgt := 111) hM hx dX11_man_14 (by decide) (by decide) rfl (by decide) ?_
      refine lv_aload_n hM.1 hM.2.1 dX11_man_111 rfl (lv_at hl 0 rfl) ?_
      refine gf_X11_now hM hw (okX11.o ho) fl_X11_37 dX11_man_112 ?_
      refine lv_aload_n hM.1 hM.2.1 dX11_man_115 rfl (lv_at hl 0 rfl) ?_
      refine gf_X11_text hM hw (okX11.o ho) fl_X11_30 dX11_man_116 ?_
      refine x_nmr hf (fun t9 hf => ?_)
      obtain ⟨hok_t9, hf⟩ := x_cond hf
      refine lv_aload_n hM.1 hM.2.1 dX11_man_119 rfl (lv_at hl 0 rfl) ?_
      refine gf_X11_now hM hw (okX11.o ho) fl_X11_37 dX11_man_120 ?_
      refine gf_X8_caught hM hw (okX8.o (okX11.now ho)) fl_X11_134 dX11_man_123 ?_
      refine lv_iconst (v := (-1)) hM.1 hM.2.1 dX11_man_126 ic_m1 ?_
      refine lv_iload_n hM.1 hM.2.1 dX11_man_127 rfl (lv_at hl 1 rfl) ?_
      refine x_callVIr (rest := []) hM hw (ct_X8_tales l (okX11.now ho) (okX11.textOf ho hok_t9) (h.1 78 5) (-1) a1) [.ref (ad t9), .int (h.1 78 5), .int (-1), .int a1] (okX8.o (okX11.now ho)) rfl rfl rfl (gi_V ml_X11_137 im_X8_tales sl_X8_tales in_X8 kc_X8_tales) hd_X8_tales rfl ⟨Nat.le_of_ble_eq_true rfl, Nat.le_of_ble_eq_true rfl⟩ rfl (Nat.le_of_ble_eq_true rfl) hl.1 hcs0 hf dX11_man_128 (fun r10 H locs hf hw => ?_)
      exact hR _ _ _ _ _ _ _ (congrArg (fun z => (z, _)) (Option.some.inj hf)) rfl rfl hw dX11_man_131
    refine lv_tableOut (tgt := 132) hM.1 hM.2.1 dX11_man_14 (by have := sw_ne n0 (k := 0) (by decide); have := sw_ne n1 (k := 1) (by decide); have := sw_ne n2 (k := 2) (by decide); have := sw_ne n3 (k := 3) (by decide); have := sw_ne n4 (k := 4) (by decide); omega) (by decide) ?_
    refine lv_iconst (v := (-1)) hM.1 hM.2.1 dX11_man_132 ic_m1 ?_
    exact hR _ _ _ _ _ _ _ (congrArg (fun z => (z, _)) (Option.some.inj hf)) rfl rfl hw dX11_man_133
  refine lv_iconst (v := (-1)) hM.1 hM.2.1 dX11_man_11 ic_m1 ?_
  exact hR _ _ _ _ _ _ _ (congrArg (fun z => (z, _)) (Option.some.inj hf)) rfl rfl hw dX11_man_12
theorem hd_X11_man : yX11_man.cls = RX11 ∧ yX11_man.cls ≠ "java/lang/invoke/MethodHandle" ∧ yX11_man.cls ≠ "java/lang/invoke/VarHandle" ∧ (parseMethodDescriptor yX11_man.desc).map (fun d => d.parameters.length) = some 2 := ⟨rfl, by decide, by decide, by decide +kernel⟩
theorem dX11_excuse_0 : decode cX11_excuse 0 = .ok (.aload_n 0, 1) := by decide +kernel
theorem dX11_excuse_1 : decode cX11_excuse 1 = .ok (.getfield 30, 3) := by decide +kernel
theorem dX11_excuse_4 : decode cX11_excuse 4 = .ok (.iload_n 1, 1) := by decide +kernel
theorem dX11_excuse_5 : decode cX11_excuse 5 = .ok (.invokevirtual 141, 3) := by decide +kernel
theorem dX11_excuse_8 : decode cX11_excuse 8 = .ok (.ifCond .ne 5, 3) := by decide +kernel
theorem dX11_excuse_11 : decode cX11_excuse 11 = .ok (.iconst (-1), 1) := by decide +kernel
theorem dX11_excuse_12 : decode cX11_excuse 12 = .ok (.ireturn, 1) := by decide +kernel
theorem dX11_excuse_13 : decode cX11_excuse 13 = .ok (.iload_n 2, 1) := by decide +kernel
theorem dX11_excuse_14 : decode cX11_excuse 14 = .ok (.tableswitch 149 0 6 #[42, 54, 66, 78, 90, 107, 136], 42) := by decide +kernel
theorem dX11_excuse_56 : decode cX11_excuse 56 = .ok (.aload_n 0, 1) := by decide +kernel
theorem dX11_excuse_57 : decode cX11_excuse 57 = .ok (.getfield 30, 3) := by decide +kernel
theorem dX11_excuse_60 : decode cX11_excuse 60 = .ok (.getfield 144, 3) := by decide +kernel
theorem dX11_excuse_63 : decode cX11_excuse 63 = .ok (.iload_n 1, 1) := by decide +kernel
theorem dX11_excuse_64 : decode cX11_excuse 64 = .ok (.aaload, 1) := by decide +kernel
theorem dX11_excuse_65 : decode cX11_excuse 65 = .ok (.iconst 0, 1) := by decide +kernel
theorem dX11_excuse_66 : decode cX11_excuse 66 = .ok (.iaload, 1) := by decide +kernel
theorem dX11_excuse_67 : decode cX11_excuse 67 = .ok (.ireturn, 1) := by decide +kernel
theorem dX11_excuse_68 : decode cX11_excuse 68 = .ok (.aload_n 0, 1) := by decide +kernel
theorem dX11_excuse_69 : decode cX11_excuse 69 = .ok (.getfield 30, 3) := by decide +kernel
theorem dX11_excuse_72 : decode cX11_excuse 72 = .ok (.getfield 144, 3) := by decide +kernel
theorem dX11_excuse_75 : decode cX11_excuse 75 = .ok (.iload_n 1, 1) := by decide +kernel
theorem dX11_excuse_76 : decode cX11_excuse 76 = .ok (.aaload, 1) := by decide +kernel
theorem dX11_excuse_77 : decode cX11_excuse 77 = .ok (.iconst 1, 1) := by decide +kernel
theorem dX11_excuse_78 : decode cX11_excuse 78 = .ok (.iaload, 1) := by decide +kernel
theorem dX11_excuse_79 : decode cX11_excuse 79 = .ok (.ireturn, 1) := by decide +kernel
theorem dX11_excuse_80 : decode cX11_excuse 80 = .ok (.aload_n 0, 1) := by decide +kernel
theorem dX11_excuse_81 : decode cX11_excuse 81 = .ok (.getfield 30, 3) := by decide +kernel
theorem dX11_excuse_84 : decode cX11_excuse 84 = .ok (.getfield 144, 3) := by decide +kernel
theorem dX11_excuse_87 : decode cX11_excuse 87 = .ok (.iload_n 1, 1) := by decide +kernel
theorem dX11_excuse_88 : decode cX11_excuse 88 = .ok (.aaload, 1) := by decide +kernel
theorem dX11_excuse_89 : decode cX11_excuse 89 = .ok (.iconst 2, 1) := by decide +kernel
theorem dX11_excuse_90 : decode cX11_excuse 90 = .ok (.iaload, 1) := by decide +kernel
theorem dX11_excuse_91 : decode cX11_excuse 91 = .ok (.ireturn, 1) := by decide +kernel
theorem dX11_excuse_92 : decode cX11_excuse 92 = .ok (.aload_n 0, 1) := by decide +kernel
theorem dX11_excuse_93 : decode cX11_excuse 93 = .ok (.getfield 30, 3) := by decide +kernel
theorem dX11_excuse_96 : decode cX11_excuse 96 = .ok (.getfield 144, 3) := by decide +kernel
theorem dX11_excuse_99 : decode cX11_excuse 99 = .ok (.iload_n 1, 1) := by decide +kernel
theorem dX11_excuse_100 : decode cX11_excuse 100 = .ok (.aaload, 1) := by decide +kernel
theorem dX11_excuse_101 : decode cX11_excuse 101 = .ok (.iconst 3, 1) := by decide +kernel
theorem dX11_excuse_102 : decode cX11_excuse 102 = .ok (.iaload, 1) := by decide +kernel
theorem dX11_excuse_103 : decode cX11_excuse 103 = .ok (.ireturn, 1) := by decide +kernel
theorem dX11_excuse_104 : decode cX11_excuse 104 = .ok (.aload_n 0, 1) := by decide +kernel
theorem dX11_excuse_105 : decode cX11_excuse 105 = .ok (.getfield 37, 3) := by decide +kernel
theorem dX11_excuse_108 : decode cX11_excuse 108 = .ok (.iload_n 1, 1) := by decide +kernel
theorem dX11_excuse_109 : decode cX11_excuse 109 = .ok (.invokevirtual 147, 3) := by decide +kernel
theorem dX11_excuse_112 : decode cX11_excuse 112 = .ok (.ifCond .eq 7, 3) := by decide +kernel
theorem dX11_excuse_115 : decode cX11_excuse 115 = .ok (.iconst 1, 1) := by decide +kernel
theorem dX11_excuse_116 : decode cX11_excuse 116 = .ok (.goto 4, 3) := by decide +kernel
theorem dX11_excuse_119 : decode cX11_excuse 119 = .ok (.iconst 0, 1) := by decide +kernel
theorem dX11_excuse_120 : decode cX11_excuse 120 = .ok (.ireturn, 1) := by decide +kernel
theorem dX11_excuse_121 : decode cX11_excuse 121 = .ok (.aload_n 0, 1) := by decide +kernel
theorem dX11_excuse_122 : decode cX11_excuse 122 = .ok (.getfield 37, 3) := by decide +kernel
theorem dX11_excuse_125 : decode cX11_excuse 125 = .ok (.aload_n 0, 1) := by decide +kernel
theorem dX11_excuse_126 : decode cX11_excuse 126 = .ok (.getfield 30, 3) := by decide +kernel
theorem dX11_excuse_129 : decode cX11_excuse 129 = .ok (.aload_n 0, 1) := by decide +kernel
theorem dX11_excuse_130 : decode cX11_excuse 130 = .ok (.getfield 37, 3) := by decide +kernel
theorem dX11_excuse_133 : decode cX11_excuse 133 = .ok (.getfield 131, 3) := by decide +kernel
theorem dX11_excuse_136 : decode cX11_excuse 136 = .ok (.aload_n 0, 1) := by decide +kernel
theorem dX11_excuse_137 : decode cX11_excuse 137 = .ok (.getfield 37, 3) := by decide +kernel
theorem dX11_excuse_140 : decode cX11_excuse 140 = .ok (.getfield 134, 3) := by decide +kernel
theorem dX11_excuse_143 : decode cX11_excuse 143 = .ok (.ior, 1) := by decide +kernel
theorem dX11_excuse_144 : decode cX11_excuse 144 = .ok (.iload_n 1, 1) := by decide +kernel
theorem dX11_excuse_145 : decode cX11_excuse 145 = .ok (.iconst (-1), 1) := by decide +kernel
theorem dX11_excuse_146 : decode cX11_excuse 146 = .ok (.invokevirtual 137, 3) := by decide +kernel
theorem dX11_excuse_149 : decode cX11_excuse 149 = .ok (.ireturn, 1) := by decide +kernel
theorem dX11_excuse_150 : decode cX11_excuse 150 = .ok (.aload_n 0, 1) := by decide +kernel
theorem dX11_excuse_151 : decode cX11_excuse 151 = .ok (.getfield 37, 3) := by decide +kernel
theorem dX11_excuse_154 : decode cX11_excuse 154 = .ok (.aload_n 0, 1) := by decide +kernel
theorem dX11_excuse_155 : decode cX11_excuse 155 = .ok (.getfield 30, 3) := by decide +kernel
theorem dX11_excuse_158 : decode cX11_excuse 158 = .ok (.iload_n 1, 1) := by decide +kernel
theorem dX11_excuse_159 : decode cX11_excuse 159 = .ok (.invokevirtual 150, 3) := by decide +kernel
theorem dX11_excuse_162 : decode cX11_excuse 162 = .ok (.ireturn, 1) := by decide +kernel
theorem dX11_excuse_163 : decode cX11_excuse 163 = .ok (.iconst (-1), 1) := by decide +kernel
theorem dX11_excuse_164 : decode cX11_excuse 164 = .ok (.ireturn, 1) := by decide +kernel
def c_X11_excuse (a1 : Int32) (a2 : Int32) (h : PH) : Option (Int32) :=
  nm (h.2.2 0 4) fun t1 =>
  gd (tOK t1) <|
  (c_X9_isExcuse t1 a1 h).bind fun r2 =>
  if r2 = 0 then
    some (-1)
  else
    if a2 = 0 then
      nm (h.2.2 0 4) fun t3 =>
      gd (tOK t3) <|
      gd (ixOK a1 7) <|
      some (h.1 (t3 + 13 + 1 + a1.toNatClampNeg) 0)
    else
    if a2 = 1 then
      nm (h.2.2 0 4) fun t5 =>
      gd (tOK t5) <|
      gd (ixOK a1 7) <|
      some (h.1 (t5 + 13 + 1 + a1.toNatClampNeg) 1)
    else
    if a2 = 2 then
      nm (h.2.2 0 4) fun t7 =>
      gd (tOK t7) <|
      gd (ixOK a1 7) <|
      some (h.1 (t7 + 13 + 1 + a1.toNatClampNeg) 2)
    else
    if a2 = 3 then
      nm (h.2.2 0 4) fun t9 =>
      gd (tOK t9) <|
      gd (ixOK a1 7) <|
      some (h.1 (t9 + 13 + 1 + a1.toNatClampNeg) 3)
    else
    if a2 = 4 then
      (c_X8_owns 78 a1 h).bind fun r11 =>
      if r11 = 0 then
        some 0
      else
        some 1
    else
    if a2 = 5 then
      nm (h.2.2 0 4) fun t12 =>
      gd (tOK t12) <|
      (c_X8_tales 78 t12 ((h.1 78 4) ||| (h.1 78 5)) a1 (-1) h).bind fun r13 =>
      some r13
    else
    if a2 = 6 then
      nm (h.2.2 0 4) fun t14 =>
      gd (tOK t14) <|
      (c_X8_plannedFor 78 t14 a1 h).bind fun r15 =>
      some r15
    else
      some (-1)
set_option maxHeartbeats 4000000 in
set_option maxRecDepth 100000 in
theorem ct_X11_excuse (l : Launch) {lay : List KK} (ho : okX11 lay) (a1 : Int32) (a2 : Int32) : CtI l yX11_excuse cX11_excuse 3 (some .int) 1 29 lay (rd (fun h => c_X11_excuse a1 a2 h)) (fun ad => [.ref (ad 0), .int a1, .int a2]) := by
  refine CtI.mk' RX11 (by decide) rfl (fun _ => Nat.le_of_ble_eq_true rfl) ?_
  intro p0 e s m args below meth c D G A H0 ad X h r0 H ls Q hM hw hl hf hR
  have hl : lv_has ls 3 [(0, .ref (ad 0)), (1, .int a1), (2, .int a2)] := hl
  obtain ⟨v0, hv0, hr0⟩ : ∃ v0, c_X11_excuse a1 a2 h = some v0 ∧ r0 = (v0, h) := rd_some hf
  subst hr0
  have hf := hv0
  unfold c_X11_excuse at hf
  refine lv_aload_n hM.1 hM.2.1 dX11_excuse_0 rfl (lv_at hl 0 rfl) ?_
  refine gf_X11_text hM hw (okX11.o ho) fl_X11_30 dX11_excuse_1 ?_
  refine x_nmr hf (fun t1 hf => ?_)
  obtain ⟨hok_t1, hf⟩ := x_cond hf
  refine lv_iload_n hM.1 hM.2.1 dX11_excuse_4 rfl (lv_at hl 1 rfl) ?_
  refine x_callVIr (rest := []) hM hw (ct_X9_isExcuse l (okX11.textOf ho hok_t1) a1) [.int a1] (okX9.o (okX11.textOf ho hok_t1)) rfl rfl rfl (gi_V ml_X11_141 im_X9_isExcuse sl_X9_isExcuse in_X9 kc_X9_isExcuse) hd_X9_isExcuse rfl ⟨Nat.le_of_ble_eq_true rfl, Nat.le_of_ble_eq_true rfl⟩ rfl (Nat.le_of_ble_eq_true rfl) hl.1 hcs0 hf dX11_excuse_5 (fun r2 H locs hf hw => ?_)
  refine x_if_ne (tgt := 13) hM hf dX11_excuse_8 (by decide) (fun hf => ?_) (fun hf => ?_)
  · refine lv_iload_n hM.1 hM.2.1 dX11_excuse_13 rfl (lv_at hl 2 rfl) ?_
    refine x_sw hf (fun hx hf => ?_) (fun n0 hf => ?_)
    · refine x_tabIn (tgt := 56) hM hx dX11_excuse_14 (by decide) (by decide) rfl (by decide) ?_
      refine lv_aload_n hM.1 hM.2.1 dX11_excuse_56 rfl (lv_at hl 0 rfl) ?_
      refine gf_X11_text hM hw (okX11.o ho) fl_X11_30 dX11_excuse_57 ?_
      refine x_nmr hf (fun t3 hf => ?_)
      obtain ⟨hok_t3, hf⟩ := x_cond hf
      refine gf_X9_excuseRows hM hw (okX9.o (okX11.textOf ho hok_t3)) fl_X11_144 dX11_excuse_60 ?_
      refine lv_iload_n hM.1 hM.2.1 dX11_excuse_63 rfl (lv_at hl 1 rfl) ?_
      refine x_aaldI hM hw (okX9.excuseRows (okX11.textOf ho hok_t3)) hf dX11_excuse_64 (fun hi4 hf => ?_)
      refine lv_iconst (v := 0) hM.1 hM.2.1 dX11_excuse_65 ic_0 ?_
      refine x_ialdK hM hw (okX9.excuseRows_atI (okX11.textOf ho hok_t3) hi4) 0 (by decide) (by decide) dX11_excuse_66 ?_
      exact hR _ _ _ _ _ _ _ (congrArg (fun z => (z, _)) (Option.some.inj hf)) rfl rfl hw dX11_excuse_67
    refine x_sw hf (fun hx hf => ?_) (fun n1 hf => ?_)
    · refine x_tabIn (tgt := 68) hM hx dX11_excuse_14 (by decide) (by decide) rfl (by decide) ?_
      refine lv_aload_n hM.1 hM.2.1 dX11_excuse_68 rfl (lv_at hl 0 rfl) ?_
      refine gf_X11_text hM hw (okX11.o ho) fl_X11_30 dX11_excuse_69 ?_
      refine x_nmr hf (fun t5 hf => ?_)
      obtain ⟨hok_t5, hf⟩ := x_cond hf
      refine gf_X9_excuseRows hM hw (okX9.o (okX11.textOf ho hok_t5)) fl_X11_144 dX11_excuse_72 ?_
      refine lv_iload_n hM.1 hM.2.1 dX11_excuse_75 rfl (lv_at hl 1 rfl) ?_
      refine x_aaldI hM hw (okX9.excuseRows (okX11.textOf ho hok_t5)) hf dX11_excuse_76 (fun hi6 hf => ?_)
      refine lv_iconst (v := 1) hM.1 hM.2.1 dX11_excuse_77 ic_1 ?_
      refine x_ialdK hM hw (okX9.excuseRows_atI (okX11.textOf ho hok_t5) hi6) 1 (by decide) (by decide) dX11_excuse_78 ?_
      exact hR _ _ _ _ _ _ _ (congrArg (fun z => (z, _)) (Option.some.inj hf)) rfl rfl hw dX11_excuse_79
    refine x_sw hf (fun hx hf => ?_) (fun n2 hf => ?_)
    · refine x_tabIn (tgt := 80) hM hx dX11_excuse_14 (by decide) (by decide) rfl (by decide) ?_
      refine lv_aload_n hM.1 hM.2.1 dX11_excuse_80 rfl (lv_at hl 0 rfl) ?_
      refine gf_X11_text hM hw (okX11.o ho) fl_X11_30 dX11_excuse_81 ?_
      refine x_nmr hf (fun t7 hf => ?_)
      obtain ⟨hok_t7, hf⟩ := x_cond hf
      refine gf_X9_excuseRows hM hw (okX9.o (okX11.textOf ho hok_t7)) fl_X11_144 dX11_excuse_84 ?_
      refine lv_iload_n hM.1 hM.2.1 dX11_excuse_87 rfl (lv_at hl 1 rfl) ?_
      refine x_aaldI hM hw (okX9.excuseRows (okX11.textOf ho hok_t7)) hf dX11_excuse_88 (fun hi8 hf => ?_)
      refine lv_iconst (v := 2) hM.1 hM.2.1 dX11_excuse_89 ic_2 ?_
      refine x_ialdK hM hw (okX9.excuseRows_atI (okX11.textOf ho hok_t7) hi8) 2 (by decide) (by decide) dX11_excuse_90 ?_
      exact hR _ _ _ _ _ _ _ (congrArg (fun z => (z, _)) (Option.some.inj hf)) rfl rfl hw dX11_excuse_91
    refine x_sw hf (fun hx hf => ?_) (fun n3 hf => ?_)
    · refine x_tabIn (tgt := 92) hM hx dX11_excuse_14 (by decide) (by decide) rfl (by decide) ?_
      refine lv_aload_n hM.1 hM.2.1 dX11_excuse_92 rfl (lv_at hl 0 rfl) ?_
      refine gf_X11_text hM hw (okX11.o ho) fl_X11_30 dX11_excuse_93 ?_
      refine x_nmr hf (fun t9 hf => ?_)
      obtain ⟨hok_t9, hf⟩ := x_cond hf
      refine gf_X9_excuseRows hM hw (okX9.o (okX11.textOf ho hok_t9)) fl_X11_144 dX11_excuse_96 ?_
      refine lv_iload_n hM.1 hM.2.1 dX11_excuse_99 rfl (lv_at hl 1 rfl) ?_
      refine x_aaldI hM hw (okX9.excuseRows (okX11.textOf ho hok_t9)) hf dX11_excuse_100 (fun hi10 hf => ?_)
      refine lv_iconst (v := 3) hM.1 hM.2.1 dX11_excuse_101 ic_3 ?_
      refine x_ialdK hM hw (okX9.excuseRows_atI (okX11.textOf ho hok_t9) hi10) 3 (by decide) (by decide) dX11_excuse_102 ?_
      exact hR _ _ _ _ _ _ _ (congrArg (fun z => (z, _)) (Option.some.inj hf)) rfl rfl hw dX11_excuse_103
    refine x_sw hf (fun hx hf => ?_) (fun n4 hf => ?_)
    · refine x_tabIn (tgt := 104) hM hx dX11_excuse_14 (by decide) (by decide) rfl (by decide) ?_
      refine lv_aload_n hM.1 hM.2.1 dX11_excuse_104 rfl (lv_at hl 0 rfl) ?_
      refine gf_X11_now hM hw (okX11.o ho) fl_X11_37 dX11_excuse_105 ?_
      refine lv_iload_n hM.1 hM.2.1 dX11_excuse_108 rfl (lv_at hl 1 rfl) ?_
      refine x_callVIr (rest := []) hM hw (ct_X8_owns l (okX11.now ho) a1) [.int a1] (okX8.o (okX11.now ho)) rfl rfl rfl (gi_V ml_X11_147 im_X8_owns sl_X8_owns in_X8 kc_X8_owns) hd_X8_owns rfl ⟨Nat.le_of_ble_eq_true rfl, Nat.le_of_ble_eq_true rfl⟩ rfl (Nat.le_of_ble_eq_true rfl) hl.1 hcs0 hf dX11_excuse_109 (fun r11 H locs hf hw => ?_)
      refine x_if_eq (tgt := 119) hM hf dX11_excuse_112 (by decide) (fun hf => ?_) (fun hf => ?_)
      · refine lv_iconst (v := 0) hM.1 hM.2.1 dX11_excuse_119 ic_0 ?_
        exact hR _ _ _ _ _ _ _ (congrArg (fun z => (z, _)) (Option.some.inj hf)) rfl rfl hw dX11_excuse_120
      refine lv_iconst (v := 1) hM.1 hM.2.1 dX11_excuse_115 ic_1 ?_
      refine lv_goto (tgt := 120) hM.1 hM.2.1 dX11_excuse_116 (by decide) ?_
      exact hR _ _ _ _ _ _ _ (congrArg (fun z => (z, _)) (Option.some.inj hf)) rfl rfl hw dX11_excuse_120
    refine x_sw hf (fun hx hf => ?_) (fun n5 hf => ?_)
    · refine x_tabIn (tgt := 121) hM hx dX11_excuse_14 (by decide) (by decide) rfl (by decide) ?_
      refine lv_aload_n hM.1 hM.2.1 dX11_excuse_121 rfl (lv_at hl 0 rfl) ?_
      refine gf_X11_now hM hw (okX11.o ho) fl_X11_37 dX11_excuse_122 ?_
      refine lv_aload_n hM.1 hM.2.1 dX11_excuse_125 rfl (lv_at hl 0 rfl) ?_
      refine gf_X11_text hM hw (okX11.o ho) fl_X11_30 dX11_excuse_126 ?_
      refine x_nmr hf (fun t12 hf => ?_)
      obtain ⟨hok_t12, hf⟩ := x_cond hf
      refine lv_aload_n hM.1 hM.2.1 dX11_excuse_129 rfl (lv_at hl 0 rfl) ?_
      refine gf_X11_now hM hw (okX11.o ho) fl_X11_37 dX11_excuse_130 ?_
      refine gf_X8_freed hM hw (okX8.o (okX11.now ho)) fl_X11_131 dX11_excuse_133 ?_
      refine lv_aload_n hM.1 hM.2.1 dX11_excuse_136 rfl (lv_at hl 0 rfl) ?_
      refine gf_X11_now hM hw (okX11.o ho) fl_X11_37 dX11_excuse_137 ?_
      refine gf_X8_caught hM hw (okX8.o (okX11.now ho)) fl_X11_134 dX11_excuse_140 ?_
      refine lv_ior hM.1 hM.2.1 dX11_excuse_143 ?_
      refine lv_iload_n hM.1 hM.2.1 dX11_excuse_144 rfl (lv_at hl 1 rfl) ?_
      refine lv_iconst (v := (-1)) hM.1 hM.2.1 dX11_excuse_145 ic_m1 ?_
      refine x_callVIr (rest := []) hM hw (ct_X8_tales l (okX11.now ho) (okX11.textOf ho hok_t12) ((h.1 78 4) ||| (h.1 78 5)) a1 (-1)) [.ref (ad t12), .int ((h.1 78 4) ||| (h.1 78 5)), .int a1, .int (-1)] (okX8.o (okX11.now ho)) rfl rfl rfl (gi_V ml_X11_137 im_X8_tales sl_X8_tales in_X8 kc_X8_tales) hd_X8_tales rfl ⟨Nat.le_of_ble_eq_true rfl, Nat.le_of_ble_eq_true rfl⟩ rfl (Nat.le_of_ble_eq_true rfl) hl.1 hcs0 hf dX11_excuse_146 (fun r13 H locs hf hw => ?_)
      exact hR _ _ _ _ _ _ _ (congrArg (fun z => (z, _)) (Option.some.inj hf)) rfl rfl hw dX11_excuse_149
    refine x_sw hf (fun hx hf => ?_) (fun n6 hf => ?_)
    · refine x_tabIn (tgt := 150) hM hx dX11_excuse_14 (by decide) (by decide) rfl (by decide) ?_
      refine lv_aload_n hM.1 hM.2.1 dX11_excuse_150 rfl (lv_at hl 0 rfl) ?_
      refine gf_X11_now hM hw (okX11.o ho) fl_X11_37 dX11_excuse_151 ?_
      refine lv_aload_n hM.1 hM.2.1 dX11_excuse_154 rfl (lv_at hl 0 rfl) ?_
      refine gf_X11_text hM hw (okX11.o ho) fl_X11_30 dX11_excuse_155 ?_
      refine x_nmr hf (fun t14 hf => ?_)
      obtain ⟨hok_t14, hf⟩ := x_cond hf
      refine lv_iload_n hM.1 hM.2.1 dX11_excuse_158 rfl (lv_at hl 1 rfl) ?_
      refine x_callVIr (rest := []) hM hw (ct_X8_plannedFor l (okX11.now ho) (okX11.textOf ho hok_t14) a1) [.ref (ad t14), .int a1] (okX8.o (okX11.now ho)) rfl rfl rfl (gi_V ml_X11_150 im_X8_plannedFor sl_X8_plannedFor in_X8 kc_X8_plannedFor) hd_X8_plannedFor rfl ⟨Nat.le_of_ble_eq_true rfl, Nat.le_of_ble_eq_true rfl⟩ rfl (Nat.le_of_ble_eq_true rfl) hl.1 hcs0 hf dX11_excuse_159 (fun r15 H locs hf hw => ?_)
      exact hR _ _ _ _ _ _ _ (congrArg (fun z => (z, _)) (Option.some.inj hf)) rfl rfl hw dX11_excuse_162
    refine lv_tableOut (tgt := 163) hM.1 hM.2.1 dX11_excuse_14 (by have := sw_ne n0 (k := 0) (by decide); have := sw_ne n1 (k := 1) (by decide); have := sw_ne n2 (k := 2) (by decide); have := sw_ne n3 (k := 3) (by decide); have := sw_ne n4 (k := 4) (by decide); have := sw_ne n5 (k := 5) (by decide); have := sw_ne n6 (k := 6) (by decide); omega) (by decide) ?_
    refine lv_iconst (v := (-1)) hM.1 hM.2.1 dX11_excuse_163 ic_m1 ?_
    exact hR _ _ _ _ _ _ _ (congrArg (fun z => (z, _)) (Option.some.inj hf)) rfl rfl hw dX11_excuse_164
  refine lv_iconst (v := (-1)) hM.1 hM.2.1 dX11_excuse_11 ic_m1 ?_
  exact hR _ _ _ _ _ _ _ (congrArg (fun z => (z, _)) (Option.some.inj hf)) rfl rfl hw dX11_excuse_12
theorem hd_X11_excuse : yX11_excuse.cls = RX11 ∧ yX11_excuse.cls ≠ "java/lang/invoke/MethodHandle" ∧ yX11_excuse.cls ≠ "java/lang/invoke/VarHandle" ∧ (parseMethodDescriptor yX11_excuse.desc).map (fun d => d.parameters.length) = some 2 := ⟨rfl, by decide, by decide, by decide +kernel⟩
theorem dX11_duty_0 : decode cX11_duty 0 = .ok (.aload_n 0, 1) := by decide +kernel
theorem dX11_duty_1 : decode cX11_duty 1 = .ok (.getfield 30, 3) := by decide +kernel
theorem dX11_duty_4 : decode cX11_duty 4 = .ok (.iload_n 1, 1) := by decide +kernel
theorem dX11_duty_5 : decode cX11_duty 5 = .ok (.invokevirtual 154, 3) := by decide +kernel
theorem dX11_duty_8 : decode cX11_duty 8 = .ok (.ifCond .ne 5, 3) := by decide +kernel
theorem dX11_duty_11 : decode cX11_duty 11 = .ok (.iconst (-1), 1) := by decide +kernel
theorem dX11_duty_12 : decode cX11_duty 12 = .ok (.ireturn, 1) := by decide +kernel
theorem dX11_duty_13 : decode cX11_duty 13 = .ok (.iload_n 2, 1) := by decide +kernel
theorem dX11_duty_14 : decode cX11_duty 14 = .ok (.tableswitch 89 0 4 #[34, 46, 58, 70, 80], 34) := by decide +kernel
theorem dX11_duty_48 : decode cX11_duty 48 = .ok (.aload_n 0, 1) := by decide +kernel
theorem dX11_duty_49 : decode cX11_duty 49 = .ok (.getfield 30, 3) := by decide +kernel
theorem dX11_duty_52 : decode cX11_duty 52 = .ok (.getfield 157, 3) := by decide +kernel
theorem dX11_duty_55 : decode cX11_duty 55 = .ok (.iload_n 1, 1) := by decide +kernel
theorem dX11_duty_56 : decode cX11_duty 56 = .ok (.aaload, 1) := by decide +kernel
theorem dX11_duty_57 : decode cX11_duty 57 = .ok (.iconst 0, 1) := by decide +kernel
theorem dX11_duty_58 : decode cX11_duty 58 = .ok (.iaload, 1) := by decide +kernel
theorem dX11_duty_59 : decode cX11_duty 59 = .ok (.ireturn, 1) := by decide +kernel
theorem dX11_duty_60 : decode cX11_duty 60 = .ok (.aload_n 0, 1) := by decide +kernel
theorem dX11_duty_61 : decode cX11_duty 61 = .ok (.getfield 30, 3) := by decide +kernel
theorem dX11_duty_64 : decode cX11_duty 64 = .ok (.getfield 157, 3) := by decide +kernel
theorem dX11_duty_67 : decode cX11_duty 67 = .ok (.iload_n 1, 1) := by decide +kernel
theorem dX11_duty_68 : decode cX11_duty 68 = .ok (.aaload, 1) := by decide +kernel
theorem dX11_duty_69 : decode cX11_duty 69 = .ok (.iconst 1, 1) := by decide +kernel
theorem dX11_duty_70 : decode cX11_duty 70 = .ok (.iaload, 1) := by decide +kernel
theorem dX11_duty_71 : decode cX11_duty 71 = .ok (.ireturn, 1) := by decide +kernel
theorem dX11_duty_72 : decode cX11_duty 72 = .ok (.aload_n 0, 1) := by decide +kernel
theorem dX11_duty_73 : decode cX11_duty 73 = .ok (.getfield 30, 3) := by decide +kernel
theorem dX11_duty_76 : decode cX11_duty 76 = .ok (.getfield 157, 3) := by decide +kernel
theorem dX11_duty_79 : decode cX11_duty 79 = .ok (.iload_n 1, 1) := by decide +kernel
theorem dX11_duty_80 : decode cX11_duty 80 = .ok (.aaload, 1) := by decide +kernel
theorem dX11_duty_81 : decode cX11_duty 81 = .ok (.iconst 2, 1) := by decide +kernel
theorem dX11_duty_82 : decode cX11_duty 82 = .ok (.iaload, 1) := by decide +kernel
theorem dX11_duty_83 : decode cX11_duty 83 = .ok (.ireturn, 1) := by decide +kernel
theorem dX11_duty_84 : decode cX11_duty 84 = .ok (.aload_n 0, 1) := by decide +kernel
theorem dX11_duty_85 : decode cX11_duty 85 = .ok (.getfield 37, 3) := by decide +kernel
theorem dX11_duty_88 : decode cX11_duty 88 = .ok (.getfield 160, 3) := by decide +kernel
theorem dX11_duty_91 : decode cX11_duty 91 = .ok (.iload_n 1, 1) := by decide +kernel
theorem dX11_duty_92 : decode cX11_duty 92 = .ok (.iaload, 1) := by decide +kernel
theorem dX11_duty_93 : decode cX11_duty 93 = .ok (.ireturn, 1) := by decide +kernel
theorem dX11_duty_94 : decode cX11_duty 94 = .ok (.aload_n 0, 1) := by decide +kernel
theorem dX11_duty_95 : decode cX11_duty 95 = .ok (.getfield 37, 3) := by decide +kernel
theorem dX11_duty_98 : decode cX11_duty 98 = .ok (.iload_n 1, 1) := by decide +kernel
theorem dX11_duty_99 : decode cX11_duty 99 = .ok (.invokevirtual 163, 3) := by decide +kernel
theorem dX11_duty_102 : decode cX11_duty 102 = .ok (.ireturn, 1) := by decide +kernel
theorem dX11_duty_103 : decode cX11_duty 103 = .ok (.iconst (-1), 1) := by decide +kernel
theorem dX11_duty_104 : decode cX11_duty 104 = .ok (.ireturn, 1) := by decide +kernel
def c_X11_duty (a1 : Int32) (a2 : Int32) (h : PH) : Option (Int32) :=
  nm (h.2.2 0 4) fun t1 =>
  gd (tOK t1) <|
  (c_X9_isDuty t1 a1 h).bind fun r2 =>
  if r2 = 0 then
    some (-1)
  else
    if a2 = 0 then
      nm (h.2.2 0 4) fun t3 =>
      gd (tOK t3) <|
      gd (ixOK a1 9) <|
      some (h.1 (t3 + 21 + 1 + a1.toNatClampNeg) 0)
    else
    if a2 = 1 then
      nm (h.2.2 0 4) fun t5 =>
      gd (tOK t5) <|
      gd (ixOK a1 9) <|
      some (h.1 (t5 + 21 + 1 + a1.toNatClampNeg) 1)
    else
    if a2 = 2 then
      nm (h.2.2 0 4) fun t7 =>
      gd (tOK t7) <|
      gd (ixOK a1 9) <|
      some (h.1 (t7 + 21 + 1 + a1.toNatClampNeg) 2)
    else
    if a2 = 3 then
      gd (ixOK a1 9) <|
      some (h.1 (78 + 2) a1.toNatClampNeg)
    else
    if a2 = 4 then
      (c_X8_outcome 78 a1 h).bind fun r9 =>
      some r9
    else
      some (-1)
set_option maxHeartbeats 4000000 in
set_option maxRecDepth 100000 in
theorem ct_X11_duty (l : Launch) {lay : List KK} (ho : okX11 lay) (a1 : Int32) (a2 : Int32) : CtI l yX11_duty cX11_duty 3 (some .int) 1 22 lay (rd (fun h => c_X11_duty a1 a2 h)) (fun ad => [.ref (ad 0), .int a1, .int a2]) := by
  refine CtI.mk' RX11 (by decide) rfl (fun _ => Nat.le_of_ble_eq_true rfl) ?_
  intro p0 e s m args below meth c D G A H0 ad X h r0 H ls Q hM hw hl hf hR
  have hl : lv_has ls 3 [(0, .ref (ad 0)), (1, .int a1), (2, .int a2)] := hl
  obtain ⟨v0, hv0, hr0⟩ : ∃ v0, c_X11_duty a1 a2 h = some v0 ∧ r0 = (v0, h) := rd_some hf
  subst hr0
  have hf := hv0
  unfold c_X11_duty at hf
  refine lv_aload_n hM.1 hM.2.1 dX11_duty_0 rfl (lv_at hl 0 rfl) ?_
  refine gf_X11_text hM hw (okX11.o ho) fl_X11_30 dX11_duty_1 ?_
  refine x_nmr hf (fun t1 hf => ?_)
  obtain ⟨hok_t1, hf⟩ := x_cond hf
  refine lv_iload_n hM.1 hM.2.1 dX11_duty_4 rfl (lv_at hl 1 rfl) ?_
  refine x_callVIr (rest := []) hM hw (ct_X9_isDuty l (okX11.textOf ho hok_t1) a1) [.int a1] (okX9.o (okX11.textOf ho hok_t1)) rfl rfl rfl (gi_V ml_X11_154 im_X9_isDuty sl_X9_isDuty in_X9 kc_X9_isDuty) hd_X9_isDuty rfl ⟨Nat.le_of_ble_eq_true rfl, Nat.le_of_ble_eq_true rfl⟩ rfl (Nat.le_of_ble_eq_true rfl) hl.1 hcs0 hf dX11_duty_5 (fun r2 H locs hf hw => ?_)
  refine x_if_ne (tgt := 13) hM hf dX11_duty_8 (by decide) (fun hf => ?_) (fun hf => ?_)
  · refine lv_iload_n hM.1 hM.2.1 dX11_duty_13 rfl (lv_at hl 2 rfl) ?_
    refine x_sw hf (fun hx hf => ?_) (fun n0 hf => ?_)
    · refine x_tabIn (tgt := 48) hM hx dX11_duty_14 (by decide) (by decide) rfl (by decide) ?_
      refine lv_aload_n hM.1 hM.2.1 dX11_duty_48 rfl (lv_at hl 0 rfl) ?_
      refine gf_X11_text hM hw (okX11.o ho) fl_X11_30 dX11_duty_49 ?_
      refine x_nmr hf (fun t3 hf => ?_)
      obtain ⟨hok_t3, hf⟩ := x_cond hf
      refine gf_X9_dutyRows hM hw (okX9.o (okX11.textOf ho hok_t3)) fl_X11_157 dX11_duty_52 ?_
      refine lv_iload_n hM.1 hM.2.1 dX11_duty_55 rfl (lv_at hl 1 rfl) ?_
      refine x_aaldI hM hw (okX9.dutyRows (okX11.textOf ho hok_t3)) hf dX11_duty_56 (fun hi4 hf => ?_)
      refine lv_iconst (v := 0) hM.1 hM.2.1 dX11_duty_57 ic_0 ?_
      refine x_ialdK hM hw (okX9.dutyRows_atI (okX11.textOf ho hok_t3) hi4) 0 (by decide) (by decide) dX11_duty_58 ?_
      exact hR _ _ _ _ _ _ _ (congrArg (fun z => (z, _)) (Option.some.inj hf)) rfl rfl hw dX11_duty_59
    refine x_sw hf (fun hx hf => ?_) (fun n1 hf => ?_)
    · refine x_tabIn (tgt := 60) hM hx dX11_duty_14 (by decide) (by decide) rfl (by decide) ?_
      refine lv_aload_n hM.1 hM.2.1 dX11_duty_60 rfl (lv_at hl 0 rfl) ?_
      refine gf_X11_text hM hw (okX11.o ho) fl_X11_30 dX11_duty_61 ?_
      refine x_nmr hf (fun t5 hf => ?_)
      obtain ⟨hok_t5, hf⟩ := x_cond hf
      refine gf_X9_dutyRows hM hw (okX9.o (okX11.textOf ho hok_t5)) fl_X11_157 dX11_duty_64 ?_
      refine lv_iload_n hM.1 hM.2.1 dX11_duty_67 rfl (lv_at hl 1 rfl) ?_
      refine x_aaldI hM hw (okX9.dutyRows (okX11.textOf ho hok_t5)) hf dX11_duty_68 (fun hi6 hf => ?_)
      refine lv_iconst (v := 1) hM.1 hM.2.1 dX11_duty_69 ic_1 ?_
      refine x_ialdK hM hw (okX9.dutyRows_atI (okX11.textOf ho hok_t5) hi6) 1 (by decide) (by decide) dX11_duty_70 ?_
      exact hR _ _ _ _ _ _ _ (congrArg (fun z => (z, _)) (Option.some.inj hf)) rfl rfl hw dX11_duty_71
    refine x_sw hf (fun hx hf => ?_) (fun n2 hf => ?_)
    · refine x_tabIn (tgt := 72) hM hx dX11_duty_14 (by decide) (by decide) rfl (by decide) ?_
      refine lv_aload_n hM.1 hM.2.1 dX11_duty_72 rfl (lv_at hl 0 rfl) ?_
      refine gf_X11_text hM hw (okX11.o ho) fl_X11_30 dX11_duty_73 ?_
      refine x_nmr hf (fun t7 hf => ?_)
      obtain ⟨hok_t7, hf⟩ := x_cond hf
      refine gf_X9_dutyRows hM hw (okX9.o (okX11.textOf ho hok_t7)) fl_X11_157 dX11_duty_76 ?_
      refine lv_iload_n hM.1 hM.2.1 dX11_duty_79 rfl (lv_at hl 1 rfl) ?_
      refine x_aaldI hM hw (okX9.dutyRows (okX11.textOf ho hok_t7)) hf dX11_duty_80 (fun hi8 hf => ?_)
      refine lv_iconst (v := 2) hM.1 hM.2.1 dX11_duty_81 ic_2 ?_
      refine x_ialdK hM hw (okX9.dutyRows_atI (okX11.textOf ho hok_t7) hi8) 2 (by decide) (by decide) dX11_duty_82 ?_
      exact hR _ _ _ _ _ _ _ (congrArg (fun z => (z, _)) (Option.some.inj hf)) rfl rfl hw dX11_duty_83
    refine x_sw hf (fun hx hf => ?_) (fun n3 hf => ?_)
    · refine x_tabIn (tgt := 84) hM hx dX11_duty_14 (by decide) (by decide) rfl (by decide) ?_
      refine lv_aload_n hM.1 hM.2.1 dX11_duty_84 rfl (lv_at hl 0 rfl) ?_
      refine gf_X11_now hM hw (okX11.o ho) fl_X11_37 dX11_duty_85 ?_
      refine gf_X8_plans hM hw (okX8.o (okX11.now ho)) fl_X11_160 dX11_duty_88 ?_
      refine lv_iload_n hM.1 hM.2.1 dX11_duty_91 rfl (lv_at hl 1 rfl) ?_
      refine x_iald hM hw (okX8.plans (okX11.now ho)) hf dX11_duty_92 (fun hf => ?_)
      exact hR _ _ _ _ _ _ _ (congrArg (fun z => (z, _)) (Option.some.inj hf)) rfl rfl hw dX11_duty_93
    refine x_sw hf (fun hx hf => ?_) (fun n4 hf => ?_)
    · refine x_tabIn (tgt := 94) hM hx dX11_duty_14 (by decide) (by decide) rfl (by decide) ?_
      refine lv_aload_n hM.1 hM.2.1 dX11_duty_94 rfl (lv_at hl 0 rfl) ?_
      refine gf_X11_now hM hw (okX11.o ho) fl_X11_37 dX11_duty_95 ?_
      refine lv_iload_n hM.1 hM.2.1 dX11_duty_98 rfl (lv_at hl 1 rfl) ?_
      refine x_callVIr (rest := []) hM hw (ct_X8_outcome l (okX11.now ho) a1) [.int a1] (okX8.o (okX11.now ho)) rfl rfl rfl (gi_V ml_X11_163 im_X8_outcome sl_X8_outcome in_X8 kc_X8_outcome) hd_X8_outcome rfl ⟨Nat.le_of_ble_eq_true rfl, Nat.le_of_ble_eq_true rfl⟩ rfl (Nat.le_of_ble_eq_true rfl) hl.1 hcs0 hf dX11_duty_99 (fun r9 H locs hf hw => ?_)
      exact hR _ _ _ _ _ _ _ (congrArg (fun z => (z, _)) (Option.some.inj hf)) rfl rfl hw dX11_duty_102
    refine lv_tableOut (tgt := 103) hM.1 hM.2.1 dX11_duty_14 (by have := sw_ne n0 (k := 0) (by decide); have := sw_ne n1 (k := 1) (by decide); have := sw_ne n2 (k := 2) (by decide); have := sw_ne n3 (k := 3) (by decide); have := sw_ne n4 (k := 4) (by decide); omega) (by decide) ?_
    refine lv_iconst (v := (-1)) hM.1 hM.2.1 dX11_duty_103 ic_m1 ?_
    exact hR _ _ _ _ _ _ _ (congrArg (fun z => (z, _)) (Option.some.inj hf)) rfl rfl hw dX11_duty_104
  refine lv_iconst (v := (-1)) hM.1 hM.2.1 dX11_duty_11 ic_m1 ?_
  exact hR _ _ _ _ _ _ _ (congrArg (fun z => (z, _)) (Option.some.inj hf)) rfl rfl hw dX11_duty_12
theorem hd_X11_duty : yX11_duty.cls = RX11 ∧ yX11_duty.cls ≠ "java/lang/invoke/MethodHandle" ∧ yX11_duty.cls ≠ "java/lang/invoke/VarHandle" ∧ (parseMethodDescriptor yX11_duty.desc).map (fun d => d.parameters.length) = some 2 := ⟨rfl, by decide, by decide, by decide +kernel⟩
theorem dX11_told_0 : decode cX11_told 0 = .ok (.aload_n 0, 1) := by decide +kernel
theorem dX11_told_1 : decode cX11_told 1 = .ok (.getfield 30, 3) := by decide +kernel
theorem dX11_told_4 : decode cX11_told 4 = .ok (.iload_n 1, 1) := by decide +kernel
theorem dX11_told_5 : decode cX11_told 5 = .ok (.invokevirtual 141, 3) := by decide +kernel
theorem dX11_told_8 : decode cX11_told 8 = .ok (.ifCond .eq 14, 3) := by decide +kernel
theorem dX11_told_11 : decode cX11_told 11 = .ok (.aload_n 0, 1) := by decide +kernel
theorem dX11_told_12 : decode cX11_told 12 = .ok (.getfield 30, 3) := by decide +kernel
theorem dX11_told_15 : decode cX11_told 15 = .ok (.iload_n 2, 1) := by decide +kernel
theorem dX11_told_16 : decode cX11_told 16 = .ok (.invokevirtual 119, 3) := by decide +kernel
theorem dX11_told_19 : decode cX11_told 19 = .ok (.ifCond .ne 5, 3) := by decide +kernel
theorem dX11_told_22 : decode cX11_told 22 = .ok (.iconst (-1), 1) := by decide +kernel
theorem dX11_told_23 : decode cX11_told 23 = .ok (.ireturn, 1) := by decide +kernel
theorem dX11_told_24 : decode cX11_told 24 = .ok (.iload_n 3, 1) := by decide +kernel
theorem dX11_told_25 : decode cX11_told 25 = .ok (.ifCond .eq 19, 3) := by decide +kernel
theorem dX11_told_28 : decode cX11_told 28 = .ok (.aload_n 0, 1) := by decide +kernel
theorem dX11_told_29 : decode cX11_told 29 = .ok (.getfield 37, 3) := by decide +kernel
theorem dX11_told_32 : decode cX11_told 32 = .ok (.aload_n 0, 1) := by decide +kernel
theorem dX11_told_33 : decode cX11_told 33 = .ok (.getfield 30, 3) := by decide +kernel
theorem dX11_told_36 : decode cX11_told 36 = .ok (.iload_n 1, 1) := by decide +kernel
theorem dX11_told_37 : decode cX11_told 37 = .ok (.iload_n 2, 1) := by decide +kernel
theorem dX11_told_38 : decode cX11_told 38 = .ok (.invokevirtual 167, 3) := by decide +kernel
theorem dX11_told_41 : decode cX11_told 41 = .ok (.goto 31, 3) := by decide +kernel
theorem dX11_told_44 : decode cX11_told 44 = .ok (.aload_n 0, 1) := by decide +kernel
theorem dX11_told_45 : decode cX11_told 45 = .ok (.getfield 37, 3) := by decide +kernel
theorem dX11_told_48 : decode cX11_told 48 = .ok (.aload_n 0, 1) := by decide +kernel
theorem dX11_told_49 : decode cX11_told 49 = .ok (.getfield 30, 3) := by decide +kernel
theorem dX11_told_52 : decode cX11_told 52 = .ok (.aload_n 0, 1) := by decide +kernel
theorem dX11_told_53 : decode cX11_told 53 = .ok (.getfield 37, 3) := by decide +kernel
theorem dX11_told_56 : decode cX11_told 56 = .ok (.getfield 131, 3) := by decide +kernel
theorem dX11_told_59 : decode cX11_told 59 = .ok (.aload_n 0, 1) := by decide +kernel
theorem dX11_told_60 : decode cX11_told 60 = .ok (.getfield 37, 3) := by decide +kernel
theorem dX11_told_63 : decode cX11_told 63 = .ok (.getfield 134, 3) := by decide +kernel
theorem dX11_told_66 : decode cX11_told 66 = .ok (.ior, 1) := by decide +kernel
theorem dX11_told_67 : decode cX11_told 67 = .ok (.iload_n 1, 1) := by decide +kernel
theorem dX11_told_68 : decode cX11_told 68 = .ok (.iload_n 2, 1) := by decide +kernel
theorem dX11_told_69 : decode cX11_told 69 = .ok (.invokevirtual 137, 3) := by decide +kernel
theorem dX11_told_72 : decode cX11_told 72 = .ok (.ireturn, 1) := by decide +kernel
def c_X11_told (a1 : Int32) (a2 : Int32) (a3 : Int32) (h : PH) : Option (Int32) :=
  nm (h.2.2 0 4) fun t1 =>
  gd (tOK t1) <|
  (c_X9_isExcuse t1 a1 h).bind fun r2 =>
  if r2 = 0 then
    some (-1)
  else
    nm (h.2.2 0 4) fun t3 =>
    gd (tOK t3) <|
    (c_X9_isMan t3 a2 h).bind fun r4 =>
    if r4 = 0 then
      some (-1)
    else
      if a3 = 0 then
        nm (h.2.2 0 4) fun t5 =>
        gd (tOK t5) <|
        (c_X8_tales 78 t5 ((h.1 78 4) ||| (h.1 78 5)) a1 a2 h).bind fun r6 =>
        some r6
      else
        nm (h.2.2 0 4) fun t7 =>
        gd (tOK t7) <|
        (c_X8_lastTold 78 t7 a1 a2 h).bind fun r8 =>
        some r8
set_option maxHeartbeats 4000000 in
set_option maxRecDepth 100000 in
theorem ct_X11_told (l : Launch) {lay : List KK} (ho : okX11 lay) (a1 : Int32) (a2 : Int32) (a3 : Int32) : CtI l yX11_told cX11_told 4 (some .int) 2 47 lay (rd (fun h => c_X11_told a1 a2 a3 h)) (fun ad => [.ref (ad 0), .int a1, .int a2, .int a3]) := by
  refine CtI.mk' RX11 (by decide) rfl (fun _ => Nat.le_of_ble_eq_true rfl) ?_
  intro p0 e s m args below meth c D G A H0 ad X h r0 H ls Q hM hw hl hf hR
  have hl : lv_has ls 4 [(0, .ref (ad 0)), (1, .int a1), (2, .int a2), (3, .int a3)] := hl
  obtain ⟨v0, hv0, hr0⟩ : ∃ v0, c_X11_told a1 a2 a3 h = some v0 ∧ r0 = (v0, h) := rd_some hf
  subst hr0
  have hf := hv0
  unfold c_X11_told at hf
  refine lv_aload_n hM.1 hM.2.1 dX11_told_0 rfl (lv_at hl 0 rfl) ?_
  refine gf_X11_text hM hw (okX11.o ho) fl_X11_30 dX11_told_1 ?_
  refine x_nmr hf (fun t1 hf => ?_)
  obtain ⟨hok_t1, hf⟩ := x_cond hf
  refine lv_iload_n hM.1 hM.2.1 dX11_told_4 rfl (lv_at hl 1 rfl) ?_
  refine x_callVIr (rest := []) hM hw (ct_X9_isExcuse l (okX11.textOf ho hok_t1) a1) [.int a1] (okX9.o (okX11.textOf ho hok_t1)) rfl rfl rfl (gi_V ml_X11_141 im_X9_isExcuse sl_X9_isExcuse in_X9 kc_X9_isExcuse) hd_X9_isExcuse rfl ⟨Nat.le_of_ble_eq_true rfl, Nat.le_of_ble_eq_true rfl⟩ rfl (Nat.le_of_ble_eq_true rfl) hl.1 hcs0 hf dX11_told_5 (fun r2 H locs hf hw => ?_)
  refine x_if_eq (tgt := 22) hM hf dX11_told_8 (by decide) (fun hf => ?_) (fun hf => ?_)
  · refine lv_iconst (v := (-1)) hM.1 hM.2.1 dX11_told_22 ic_m1 ?_
    exact hR _ _ _ _ _ _ _ (congrArg (fun z => (z, _)) (Option.some.inj hf)) rfl rfl hw dX11_told_23
  refine lv_aload_n hM.1 hM.2.1 dX11_told_11 rfl (lv_at hl 0 rfl) ?_
  refine gf_X11_text hM hw (okX11.o ho) fl_X11_30 dX11_told_12 ?_
  refine x_nmr hf (fun t3 hf => ?_)
  obtain ⟨hok_t3, hf⟩ := x_cond hf
  refine lv_iload_n hM.1 hM.2.1 dX11_told_15 rfl (lv_at hl 2 rfl) ?_
  refine x_callVIr (rest := []) hM hw (ct_X9_isMan l (okX11.textOf ho hok_t3) a2) [.int a2] (okX9.o (okX11.textOf ho hok_t3)) rfl rfl rfl (gi_V ml_X11_119 im_X9_isMan sl_X9_isMan in_X9 kc_X9_isMan) hd_X9_isMan rfl ⟨Nat.le_of_ble_eq_true rfl, Nat.le_of_ble_eq_true rfl⟩ rfl (Nat.le_of_ble_eq_true rfl) hl.1 hcs0 hf dX11_told_16 (fun r4 H locs hf hw => ?_)
  refine x_if_ne (tgt := 24) hM hf dX11_told_19 (by decide) (fun hf => ?_) (fun hf => ?_)
  · refine lv_iload_n hM.1 hM.2.1 dX11_told_24 rfl (lv_at hl 3 rfl) ?_
    refine x_if_eq (tgt := 44) hM hf dX11_told_25 (by decide) (fun hf => ?_) (fun hf => ?_)
    · refine lv_aload_n hM.1 hM.2.1 dX11_told_44 rfl (lv_at hl 0 rfl) ?_
      refine gf_X11_now hM hw (okX11.o ho) fl_X11_37 dX11_told_45 ?_
      refine lv_aload_n hM.1 hM.2.1 dX11_told_48 rfl (lv_at hl 0 rfl) ?_
      refine gf_X11_text hM hw (okX11.o ho) fl_X11_30 dX11_told_49 ?_
      refine x_nmr hf (fun t5 hf => ?_)
      obtain ⟨hok_t5, hf⟩ := x_cond hf
      refine lv_aload_n hM.1 hM.2.1 dX11_told_52 rfl (lv_at hl 0 rfl) ?_
      refine gf_X11_now hM hw (okX11.o ho) fl_X11_37 dX11_told_53 ?_
      refine gf_X8_freed hM hw (okX8.o (okX11.now ho)) fl_X11_131 dX11_told_56 ?_
      refine lv_aload_n hM.1 hM.2.1 dX11_told_59 rfl (lv_at hl 0 rfl) ?_
      refine gf_X11_now hM hw (okX11.o ho) fl_X11_37 dX11_told_60 ?_
      refine gf_X8_caught hM hw (okX8.o (okX11.now ho)) fl_X11_134 dX11_told_63 ?_
      refine lv_ior hM.1 hM.2.1 dX11_told_66 ?_
      refine lv_iload_n hM.1 hM.2.1 dX11_told_67 rfl (lv_at hl 1 rfl) ?_
      refine lv_iload_n hM.1 hM.2.1 dX11_told_68 rfl (lv_at hl 2 rfl) ?_
      refine x_callVIr (rest := []) hM hw (ct_X8_tales l (okX11.now ho) (okX11.textOf ho hok_t5) ((h.1 78 4) ||| (h.1 78 5)) a1 a2) [.ref (ad t5), .int ((h.1 78 4) ||| (h.1 78 5)), .int a1, .int a2] (okX8.o (okX11.now ho)) rfl rfl rfl (gi_V ml_X11_137 im_X8_tales sl_X8_tales in_X8 kc_X8_tales) hd_X8_tales rfl ⟨Nat.le_of_ble_eq_true rfl, Nat.le_of_ble_eq_true rfl⟩ rfl (Nat.le_of_ble_eq_true rfl) hl.1 hcs0 hf dX11_told_69 (fun r6 H locs hf hw => ?_)
      exact hR _ _ _ _ _ _ _ (congrArg (fun z => (z, _)) (Option.some.inj hf)) rfl rfl hw dX11_told_72
    refine lv_aload_n hM.1 hM.2.1 dX11_told_28 rfl (lv_at hl 0 rfl) ?_
    refine gf_X11_now hM hw (okX11.o ho) fl_X11_37 dX11_told_29 ?_
    refine lv_aload_n hM.1 hM.2.1 dX11_told_32 rfl (lv_at hl 0 rfl) ?_
    refine gf_X11_text hM hw (okX11.o ho) fl_X11_30 dX11_told_33 ?_
    refine x_nmr hf (fun t7 hf => ?_)
    obtain ⟨hok_t7, hf⟩ := x_cond hf
    refine lv_iload_n hM.1 hM.2.1 dX11_told_36 rfl (lv_at hl 1 rfl) ?_
    refine lv_iload_n hM.1 hM.2.1 dX11_told_37 rfl (lv_at hl 2 rfl) ?_
    refine x_callVIr (rest := []) hM hw (ct_X8_lastTold l (okX11.now ho) (okX11.textOf ho hok_t7) a1 a2) [.ref (ad t7), .int a1, .int a2] (okX8.o (okX11.now ho)) rfl rfl rfl (gi_V ml_X11_167 im_X8_lastTold sl_X8_lastTold in_X8 kc_X8_lastTold) hd_X8_lastTold rfl ⟨Nat.le_of_ble_eq_true rfl, Nat.le_of_ble_eq_true rfl⟩ rfl (Nat.le_of_ble_eq_true rfl) hl.1 hcs0 hf dX11_told_38 (fun r8 H locs hf hw => ?_)
    refine lv_goto (tgt := 72) hM.1 hM.2.1 dX11_told_41 (by decide) ?_
    exact hR _ _ _ _ _ _ _ (congrArg (fun z => (z, _)) (Option.some.inj hf)) rfl rfl hw dX11_told_72
  refine lv_iconst (v := (-1)) hM.1 hM.2.1 dX11_told_22 ic_m1 ?_
  exact hR _ _ _ _ _ _ _ (congrArg (fun z => (z, _)) (Option.some.inj hf)) rfl rfl hw dX11_told_23
theorem hd_X11_told : yX11_told.cls = RX11 ∧ yX11_told.cls ≠ "java/lang/invoke/MethodHandle" ∧ yX11_told.cls ≠ "java/lang/invoke/VarHandle" ∧ (parseMethodDescriptor yX11_told.desc).map (fun d => d.parameters.length) = some 3 := ⟨rfl, by decide, by decide, by decide +kernel⟩
theorem dX11_rains_0 : decode cX11_rains 0 = .ok (.iload_n 1, 1) := by decide +kernel
theorem dX11_rains_1 : decode cX11_rains 1 = .ok (.ifCond .lt 10, 3) := by decide +kernel
theorem dX11_rains_4 : decode cX11_rains 4 = .ok (.iload_n 1, 1) := by decide +kernel
theorem dX11_rains_5 : decode cX11_rains 5 = .ok (.sipush 999, 3) := by decide +kernel
theorem dX11_rains_8 : decode cX11_rains 8 = .ok (.if_icmp .le 5, 3) := by decide +kernel
theorem dX11_rains_11 : decode cX11_rains 11 = .ok (.iconst (-1), 1) := by decide +kernel
theorem dX11_rains_12 : decode cX11_rains 12 = .ok (.ireturn, 1) := by decide +kernel
theorem dX11_rains_13 : decode cX11_rains 13 = .ok (.aload_n 0, 1) := by decide +kernel
theorem dX11_rains_14 : decode cX11_rains 14 = .ok (.getfield 62, 3) := by decide +kernel
theorem dX11_rains_17 : decode cX11_rains 17 = .ok (.aload_n 0, 1) := by decide +kernel
theorem dX11_rains_18 : decode cX11_rains 18 = .ok (.getfield 30, 3) := by decide +kernel
theorem dX11_rains_21 : decode cX11_rains 21 = .ok (.aload_n 0, 1) := by decide +kernel
theorem dX11_rains_22 : decode cX11_rains 22 = .ok (.getfield 30, 3) := by decide +kernel
theorem dX11_rains_25 : decode cX11_rains 25 = .ok (.getfield 171, 3) := by decide +kernel
theorem dX11_rains_28 : decode cX11_rains 28 = .ok (.iload_n 1, 1) := by decide +kernel
theorem dX11_rains_29 : decode cX11_rains 29 = .ok (.invokevirtual 174, 3) := by decide +kernel
theorem dX11_rains_32 : decode cX11_rains 32 = .ok (.ifCond .eq 7, 3) := by decide +kernel
theorem dX11_rains_35 : decode cX11_rains 35 = .ok (.iconst 1, 1) := by decide +kernel
theorem dX11_rains_36 : decode cX11_rains 36 = .ok (.goto 4, 3) := by decide +kernel
theorem dX11_rains_39 : decode cX11_rains 39 = .ok (.iconst 0, 1) := by decide +kernel
theorem dX11_rains_40 : decode cX11_rains 40 = .ok (.ireturn, 1) := by decide +kernel
def c_X11_rains (a1 : Int32) (h : PH) : Option (Int32) :=
  if a1 < 0 then
    some (-1)
  else
    if a1 ≤ 999 then
      nm (h.2.2 0 4) fun t1 =>
      gd (tOK t1) <|
      nm (h.2.2 0 4) fun t2 =>
      gd (tOK t2) <|
      (c_X1_isWet 217 t1 (h.1 t2 7) a1 h).bind fun r3 =>
      if r3 = 0 then
        some 0
      else
        some 1
    else
      some (-1)
set_option maxHeartbeats 4000000 in
set_option maxRecDepth 100000 in
theorem ct_X11_rains (l : Launch) {lay : List KK} (ho : okX11 lay) (a1 : Int32) : CtI l yX11_rains cX11_rains 2 (some .int) 2 47 lay (rd (fun h => c_X11_rains a1 h)) (fun ad => [.ref (ad 0), .int a1]) := by
  refine CtI.mk' RX11 (by decide) rfl (fun _ => Nat.le_of_ble_eq_true rfl) ?_
  intro p0 e s m args below meth c D G A H0 ad X h r0 H ls Q hM hw hl hf hR
  have hl : lv_has ls 2 [(0, .ref (ad 0)), (1, .int a1)] := hl
  obtain ⟨v0, hv0, hr0⟩ : ∃ v0, c_X11_rains a1 h = some v0 ∧ r0 = (v0, h) := rd_some hf
  subst hr0
  have hf := hv0
  unfold c_X11_rains at hf
  refine lv_iload_n hM.1 hM.2.1 dX11_rains_0 rfl (lv_at hl 1 rfl) ?_
  refine x_if_lt (tgt := 11) hM hf dX11_rains_1 (by decide) (fun hf => ?_) (fun hf => ?_)
  · refine lv_iconst (v := (-1)) hM.1 hM.2.1 dX11_rains_11 ic_m1 ?_
    exact hR _ _ _ _ _ _ _ (congrArg (fun z => (z, _)) (Option.some.inj hf)) rfl rfl hw dX11_rains_12
  refine lv_iload_n hM.1 hM.2.1 dX11_rains_4 rfl (lv_at hl 1 rfl) ?_
  refine lv_sipush (v := 999) hM.1 hM.2.1 dX11_rains_5 (by decide) ?_
  refine x_ic_le (tgt := 13) hM hf dX11_rains_8 (by decide) (fun hf => ?_) (fun hf => ?_)
  · refine lv_aload_n hM.1 hM.2.1 dX11_rains_13 rfl (lv_at hl 0 rfl) ?_
    refine gf_X11_course hM hw (okX11.o ho) fl_X11_62 dX11_rains_14 ?_
    refine lv_aload_n hM.1 hM.2.1 dX11_rains_17 rfl (lv_at hl 0 rfl) ?_
    refine gf_X11_text hM hw (okX11.o ho) fl_X11_30 dX11_rains_18 ?_
    refine x_nmr hf (fun t1 hf => ?_)
    obtain ⟨hok_t1, hf⟩ := x_cond hf
    refine lv_aload_n hM.1 hM.2.1 dX11_rains_21 rfl (lv_at hl 0 rfl) ?_
    refine gf_X11_text hM hw (okX11.o ho) fl_X11_30 dX11_rains_22 ?_
    refine x_nmr hf (fun t2 hf => ?_)
    obtain ⟨hok_t2, hf⟩ := x_cond hf
    refine gf_X9_seed hM hw (okX9.o (okX11.textOf ho hok_t2)) fl_X11_171 dX11_rains_25 ?_
    refine lv_iload_n hM.1 hM.2.1 dX11_rains_28 rfl (lv_at hl 1 rfl) ?_
    refine x_callVIr (rest := []) hM hw (ct_X1_isWet l (okX11.course ho) (okX11.textOf ho hok_t1) (h.1 t2 7) a1) [.ref (ad t1), .int (h.1 t2 7), .int a1] (okX1.o (okX11.course ho)) rfl rfl rfl (gi_V ml_X11_174 im_X1_isWet sl_X1_isWet in_X1 kc_X1_isWet) hd_X1_isWet rfl ⟨Nat.le_of_ble_eq_true rfl, Nat.le_of_ble_eq_true rfl⟩ rfl (Nat.le_of_ble_eq_true rfl) hl.1 hcs0 hf dX11_rains_29 (fun r3 H locs hf hw => ?_)
    refine x_if_eq (tgt := 39) hM hf dX11_rains_32 (by decide) (fun hf => ?_) (fun hf => ?_)
    · refine lv_iconst (v := 0) hM.1 hM.2.1 dX11_rains_39 ic_0 ?_
      exact hR _ _ _ _ _ _ _ (congrArg (fun z => (z, _)) (Option.some.inj hf)) rfl rfl hw dX11_rains_40
    refine lv_iconst (v := 1) hM.1 hM.2.1 dX11_rains_35 ic_1 ?_
    refine lv_goto (tgt := 40) hM.1 hM.2.1 dX11_rains_36 (by decide) ?_
    exact hR _ _ _ _ _ _ _ (congrArg (fun z => (z, _)) (Option.some.inj hf)) rfl rfl hw dX11_rains_40
  refine lv_iconst (v := (-1)) hM.1 hM.2.1 dX11_rains_11 ic_m1 ?_
  exact hR _ _ _ _ _ _ _ (congrArg (fun z => (z, _)) (Option.some.inj hf)) rfl rfl hw dX11_rains_12
theorem hd_X11_rains : yX11_rains.cls = RX11 ∧ yX11_rains.cls ≠ "java/lang/invoke/MethodHandle" ∧ yX11_rains.cls ≠ "java/lang/invoke/VarHandle" ∧ (parseMethodDescriptor yX11_rains.desc).map (fun d => d.parameters.length) = some 1 := ⟨rfl, by decide, by decide, by decide +kernel⟩
theorem dX11_buy_0 : decode cX11_buy 0 = .ok (.aload_n 0, 1) := by decide +kernel
theorem dX11_buy_1 : decode cX11_buy 1 = .ok (.getfield 30, 3) := by decide +kernel
theorem dX11_buy_4 : decode cX11_buy 4 = .ok (.iload_n 1, 1) := by decide +kernel
theorem dX11_buy_5 : decode cX11_buy 5 = .ok (.invokevirtual 141, 3) := by decide +kernel
theorem dX11_buy_8 : decode cX11_buy 8 = .ok (.ifCond .ne 5, 3) := by decide +kernel
theorem dX11_buy_11 : decode cX11_buy 11 = .ok (.iconst (-1), 1) := by decide +kernel
theorem dX11_buy_12 : decode cX11_buy 12 = .ok (.ireturn, 1) := by decide +kernel
theorem dX11_buy_13 : decode cX11_buy 13 = .ok (.aload_n 0, 1) := by decide +kernel
theorem dX11_buy_14 : decode cX11_buy 14 = .ok (.getfield 30, 3) := by decide +kernel
theorem dX11_buy_17 : decode cX11_buy 17 = .ok (.getfield 144, 3) := by decide +kernel
theorem dX11_buy_20 : decode cX11_buy 20 = .ok (.iload_n 1, 1) := by decide +kernel
theorem dX11_buy_21 : decode cX11_buy 21 = .ok (.aaload, 1) := by decide +kernel
theorem dX11_buy_22 : decode cX11_buy 22 = .ok (.iconst 0, 1) := by decide +kernel
theorem dX11_buy_23 : decode cX11_buy 23 = .ok (.iaload, 1) := by decide +kernel
theorem dX11_buy_24 : decode cX11_buy 24 = .ok (.istore_n 2, 1) := by decide +kernel
theorem dX11_buy_25 : decode cX11_buy 25 = .ok (.aload_n 0, 1) := by decide +kernel
theorem dX11_buy_26 : decode cX11_buy 26 = .ok (.getfield 37, 3) := by decide +kernel
theorem dX11_buy_29 : decode cX11_buy 29 = .ok (.iload_n 1, 1) := by decide +kernel
theorem dX11_buy_30 : decode cX11_buy 30 = .ok (.invokevirtual 147, 3) := by decide +kernel
theorem dX11_buy_33 : decode cX11_buy 33 = .ok (.ifCond .ne 14, 3) := by decide +kernel
theorem dX11_buy_36 : decode cX11_buy 36 = .ok (.aload_n 0, 1) := by decide +kernel
theorem dX11_buy_37 : decode cX11_buy 37 = .ok (.getfield 37, 3) := by decide +kernel
theorem dX11_buy_40 : decode cX11_buy 40 = .ok (.getfield 178, 3) := by decide +kernel
theorem dX11_buy_43 : decode cX11_buy 43 = .ok (.iload_n 2, 1) := by decide +kernel
theorem dX11_buy_44 : decode cX11_buy 44 = .ok (.if_icmp .ge 6, 3) := by decide +kernel
theorem dX11_buy_47 : decode cX11_buy 47 = .ok (.bipush (-2), 2) := by decide +kernel
theorem dX11_buy_49 : decode cX11_buy 49 = .ok (.ireturn, 1) := by decide +kernel
theorem dX11_buy_50 : decode cX11_buy 50 = .ok (.aload_n 0, 1) := by decide +kernel
theorem dX11_buy_51 : decode cX11_buy 51 = .ok (.getfield 47, 3) := by decide +kernel
theorem dX11_buy_54 : decode cX11_buy 54 = .ok (.aload_n 0, 1) := by decide +kernel
theorem dX11_buy_55 : decode cX11_buy 55 = .ok (.getfield 37, 3) := by decide +kernel
theorem dX11_buy_58 : decode cX11_buy 58 = .ok (.invokevirtual 181, 3) := by decide +kernel
theorem dX11_buy_61 : decode cX11_buy 61 = .ok (.aload_n 0, 1) := by decide +kernel
theorem dX11_buy_62 : decode cX11_buy 62 = .ok (.getfield 37, 3) := by decide +kernel
theorem dX11_buy_65 : decode cX11_buy 65 = .ok (.dup, 1) := by decide +kernel
theorem dX11_buy_66 : decode cX11_buy 66 = .ok (.getfield 178, 3) := by decide +kernel
theorem dX11_buy_69 : decode cX11_buy 69 = .ok (.iload_n 2, 1) := by decide +kernel
theorem dX11_buy_70 : decode cX11_buy 70 = .ok (.isub, 1) := by decide +kernel
theorem dX11_buy_71 : decode cX11_buy 71 = .ok (.putfield 178, 3) := by decide +kernel
theorem dX11_buy_74 : decode cX11_buy 74 = .ok (.aload_n 0, 1) := by decide +kernel
theorem dX11_buy_75 : decode cX11_buy 75 = .ok (.getfield 37, 3) := by decide +kernel
theorem dX11_buy_78 : decode cX11_buy 78 = .ok (.dup, 1) := by decide +kernel
theorem dX11_buy_79 : decode cX11_buy 79 = .ok (.getfield 185, 3) := by decide +kernel
theorem dX11_buy_82 : decode cX11_buy 82 = .ok (.iconst 1, 1) := by decide +kernel
theorem dX11_buy_83 : decode cX11_buy 83 = .ok (.iload_n 1, 1) := by decide +kernel
theorem dX11_buy_84 : decode cX11_buy 84 = .ok (.ishl, 1) := by decide +kernel
theorem dX11_buy_85 : decode cX11_buy 85 = .ok (.ior, 1) := by decide +kernel
theorem dX11_buy_86 : decode cX11_buy 86 = .ok (.putfield 185, 3) := by decide +kernel
theorem dX11_buy_89 : decode cX11_buy 89 = .ok (.aload_n 0, 1) := by decide +kernel
theorem dX11_buy_90 : decode cX11_buy 90 = .ok (.getfield 37, 3) := by decide +kernel
theorem dX11_buy_93 : decode cX11_buy 93 = .ok (.getfield 178, 3) := by decide +kernel
theorem dX11_buy_96 : decode cX11_buy 96 = .ok (.ireturn, 1) := by decide +kernel
def c_X11_buy (a1 : Int32) (h : PH) : Option (Int32 × PH) :=
  nm (h.2.2 0 4) fun t1 =>
  gd (tOK t1) <|
  (c_X9_isExcuse t1 a1 h).bind fun r2 =>
  if r2 = 0 then
    some ((-1), h)
  else
    nm (h.2.2 0 4) fun t3 =>
    gd (tOK t3) <|
    gd (ixOK a1 7) <|
    nm (h.1 (t3 + 13 + 1 + a1.toNatClampNeg) 0) fun v5 =>
    (c_X8_owns 78 a1 h).bind fun r6 =>
    if r6 = 0 then
      if v5 ≤ (h.1 78 1) then
        (c_X5_keep 84 78 h).bind fun h7 =>
        nm (setI h7 78 1 ((h7.1 78 1) - v5)) fun h8 =>
        nm (setI h8 78 3 ((h8.1 78 3) ||| ((1 : Int32) <<< (a1 &&& 31)))) fun h9 =>
        some ((h9.1 78 1), h9)
      else
        some ((-2), h)
    else
      some ((-2), h)
set_option maxHeartbeats 4000000 in
set_option maxRecDepth 100000 in
theorem ct_X11_buy (l : Launch) {lay : List KK} (ho : okX11 lay) (a1 : Int32) : CtI l yX11_buy cX11_buy 3 (some .int) 2 43 lay (fun h => c_X11_buy a1 h) (fun ad => [.ref (ad 0), .int a1]) := by
  refine CtI.mk' RX11 (by decide) rfl (fun _ => Nat.le_of_ble_eq_true rfl) ?_
  intro p0 e s m args below meth c D G A H0 ad X h r0 H ls Q hM hw hl hf hR
  have hl : lv_has ls 3 [(0, .ref (ad 0)), (1, .int a1)] := hl
  unfold c_X11_buy at hf
  refine lv_aload_n hM.1 hM.2.1 dX11_buy_0 rfl (lv_at hl 0 rfl) ?_
  refine gf_X11_text hM hw (okX11.o ho) fl_X11_30 dX11_buy_1 ?_
  refine x_nmr hf (fun t1 hf => ?_)
  obtain ⟨hok_t1, hf⟩ := x_cond hf
  refine lv_iload_n hM.1 hM.2.1 dX11_buy_4 rfl (lv_at hl 1 rfl) ?_
  refine x_callVIr (rest := []) hM hw (ct_X9_isExcuse l (okX11.textOf ho hok_t1) a1) [.int a1] (okX9.o (okX11.textOf ho hok_t1)) rfl rfl rfl (gi_V ml_X11_141 im_X9_isExcuse sl_X9_isExcuse in_X9 kc_X9_isExcuse) hd_X9_isExcuse rfl ⟨Nat.le_of_ble_eq_true rfl, Nat.le_of_ble_eq_true rfl⟩ rfl (Nat.le_of_ble_eq_true rfl) hl.1 hcs0 hf dX11_buy_5 (fun r2 H locs hf hw => ?_)
  refine x_if_ne (tgt := 13) hM hf dX11_buy_8 (by decide) (fun hf => ?_) (fun hf => ?_)
  · refine lv_aload_n hM.1 hM.2.1 dX11_buy_13 rfl (lv_at hl 0 rfl) ?_
    refine gf_X11_text hM hw (okX11.o ho) fl_X11_30 dX11_buy_14 ?_
    refine x_nmr hf (fun t3 hf => ?_)
    obtain ⟨hok_t3, hf⟩ := x_cond hf
    refine gf_X9_excuseRows hM hw (okX9.o (okX11.textOf ho hok_t3)) fl_X11_144 dX11_buy_17 ?_
    refine lv_iload_n hM.1 hM.2.1 dX11_buy_20 rfl (lv_at hl 1 rfl) ?_
    refine x_aaldI hM hw (okX9.excuseRows (okX11.textOf ho hok_t3)) hf dX11_buy_21 (fun hi4 hf => ?_)
    refine lv_iconst (v := 0) hM.1 hM.2.1 dX11_buy_22 ic_0 ?_
    refine x_ialdK hM hw (okX9.excuseRows_atI (okX11.textOf ho hok_t3) hi4) 0 (by decide) (by decide) dX11_buy_23 ?_
    refine x_istore_n hM hf dX11_buy_24 rfl hl (by decide) (fun v5 => [(2, .int v5), (0, .ref (ad 0)), (1, .int a1)]) (fun _ => rfl) (fun v5 ls hf hl => ?_)
    refine lv_aload_n hM.1 hM.2.1 dX11_buy_25 rfl (lv_at hl 1 rfl) ?_
    refine gf_X11_now hM hw (okX11.o ho) fl_X11_37 dX11_buy_26 ?_
    refine lv_iload_n hM.1 hM.2.1 dX11_buy_29 rfl (lv_at hl 2 rfl) ?_
    refine x_callVIr (rest := []) hM hw (ct_X8_owns l (okX11.now ho) a1) [.int a1] (okX8.o (okX11.now ho)) rfl rfl rfl (gi_V ml_X11_147 im_X8_owns sl_X8_owns in_X8 kc_X8_owns) hd_X8_owns rfl ⟨Nat.le_of_ble_eq_true rfl, Nat.le_of_ble_eq_true rfl⟩ rfl (Nat.le_of_ble_eq_true rfl) hl.1 hcs0 hf dX11_buy_30 (fun r6 H locs hf hw => ?_)
    refine x_if_ne (tgt := 47) hM hf dX11_buy_33 (by decide) (fun hf => ?_) (fun hf => ?_)
    · refine lv_bipush (v := (-2)) hM.1 hM.2.1 dX11_buy_47 (by decide) ?_
      exact hR _ _ _ _ _ _ _ (Option.some.inj hf) rfl rfl hw dX11_buy_49
    refine lv_aload_n hM.1 hM.2.1 dX11_buy_36 rfl (lv_at hl 1 rfl) ?_
    refine gf_X11_now hM hw (okX11.o ho) fl_X11_37 dX11_buy_37 ?_
    refine gf_X8_coins hM hw (okX8.o (okX11.now ho)) fl_X11_178 dX11_buy_40 ?_
    refine lv_iload_n hM.1 hM.2.1 dX11_buy_43 rfl (lv_at hl 0 rfl) ?_
    refine x_ic_ge (tgt := 50) hM hf dX11_buy_44 (by decide) (fun hf => ?_) (fun hf => ?_)
    · refine lv_aload_n hM.1 hM.2.1 dX11_buy_50 rfl (lv_at hl 1 rfl) ?_
      refine gf_X11_past hM hw (okX11.o ho) fl_X11_47 dX11_buy_51 ?_
      refine lv_aload_n hM.1 hM.2.1 dX11_buy_54 rfl (lv_at hl 1 rfl) ?_
      refine gf_X11_now hM hw (okX11.o ho) fl_X11_37 dX11_buy_55 ?_
      refine x_callVV (rest := []) hM hw (ct_X5_keep l (okX11.past ho) (okX11.now ho)) [.ref (ad 78)] (okX5.o (okX11.past ho)) rfl rfl rfl (gi_V ml_X11_181 im_X5_keep sl_X5_keep in_X5 kc_X5_keep) hd_X5_keep rfl ⟨Nat.le_of_ble_eq_true rfl, Nat.le_of_ble_eq_true rfl⟩ rfl (Nat.le_of_ble_eq_true rfl) hl.1 hcs0 hf dX11_buy_58 (fun h7 H locs hf hw => ?_)
      refine lv_aload_n hM.1 hM.2.1 dX11_buy_61 rfl (lv_at hl 1 rfl) ?_
      refine gf_X11_now hM hw (okX11.o ho) fl_X11_37 dX11_buy_62 ?_
      refine lv_dup hM.1 hM.2.1 dX11_buy_65 rfl ?_
      refine gf_X8_coins hM hw (okX8.o (okX11.now ho)) fl_X11_178 dX11_buy_66 ?_
      refine lv_iload_n hM.1 hM.2.1 dX11_buy_69 rfl (lv_at hl 0 rfl) ?_
      refine lv_isub hM.1 hM.2.1 dX11_buy_70 ?_
      refine pf_X8_coins hM hw (okX8.o (okX11.now ho)) fl_X11_178 hf dX11_buy_71 (fun h8 H locs hf hw => ?_)
      refine lv_aload_n hM.1 hM.2.1 dX11_buy_74 rfl (lv_at hl 1 rfl) ?_
      refine gf_X11_now hM hw (okX11.o ho) fl_X11_37 dX11_buy_75 ?_
      refine lv_dup hM.1 hM.2.1 dX11_buy_78 rfl ?_
      refine gf_X8_owned hM hw (okX8.o (okX11.now ho)) fl_X11_185 dX11_buy_79 ?_
      refine lv_iconst (v := 1) hM.1 hM.2.1 dX11_buy_82 ic_1 ?_
      refine lv_iload_n hM.1 hM.2.1 dX11_buy_83 rfl (lv_at hl 2 rfl) ?_
      refine lv_ishl hM.1 hM.2.1 dX11_buy_84 ?_
      refine lv_ior hM.1 hM.2.1 dX11_buy_85 ?_
      refine pf_X8_owned hM hw (okX8.o (okX11.now ho)) fl_X11_185 hf dX11_buy_86 (fun h9 H locs hf hw => ?_)
      refine lv_aload_n hM.1 hM.2.1 dX11_buy_89 rfl (lv_at hl 1 rfl) ?_
      refine gf_X11_now hM hw (okX11.o ho) fl_X11_37 dX11_buy_90 ?_
      refine gf_X8_coins hM hw (okX8.o (okX11.now ho)) fl_X11_178 dX11_buy_93 ?_
      exact hR _ _ _ _ _ _ _ (Option.some.inj hf) rfl rfl hw dX11_buy_96
    refine lv_bipush (v := (-2)) hM.1 hM.2.1 dX11_buy_47 (by decide) ?_
    exact hR _ _ _ _ _ _ _ (Option.some.inj hf) rfl rfl hw dX11_buy_49
  refine lv_iconst (v := (-1)) hM.1 hM.2.1 dX11_buy_11 ic_m1 ?_
  exact hR _ _ _ _ _ _ _ (Option.some.inj hf) rfl rfl hw dX11_buy_12
theorem hd_X11_buy : yX11_buy.cls = RX11 ∧ yX11_buy.cls ≠ "java/lang/invoke/MethodHandle" ∧ yX11_buy.cls ≠ "java/lang/invoke/VarHandle" ∧ (parseMethodDescriptor yX11_buy.desc).map (fun d => d.parameters.length) = some 1 := ⟨rfl, by decide, by decide, by decide +kernel⟩
theorem dX11_sell_0 : decode cX11_sell 0 = .ok (.aload_n 0, 1) := by decide +kernel
theorem dX11_sell_1 : decode cX11_sell 1 = .ok (.getfield 30, 3) := by decide +kernel
theorem dX11_sell_4 : decode cX11_sell 4 = .ok (.iload_n 1, 1) := by decide +kernel
theorem dX11_sell_5 : decode cX11_sell 5 = .ok (.invokevirtual 141, 3) := by decide +kernel
theorem dX11_sell_8 : decode cX11_sell 8 = .ok (.ifCond .ne 5, 3) := by decide +kernel
theorem dX11_sell_11 : decode cX11_sell 11 = .ok (.iconst (-1), 1) := by decide +kernel
theorem dX11_sell_12 : decode cX11_sell 12 = .ok (.ireturn, 1) := by decide +kernel
theorem dX11_sell_13 : decode cX11_sell 13 = .ok (.aload_n 0, 1) := by decide +kernel
theorem dX11_sell_14 : decode cX11_sell 14 = .ok (.getfield 37, 3) := by decide +kernel
theorem dX11_sell_17 : decode cX11_sell 17 = .ok (.iload_n 1, 1) := by decide +kernel
theorem dX11_sell_18 : decode cX11_sell 18 = .ok (.invokevirtual 147, 3) := by decide +kernel
theorem dX11_sell_21 : decode cX11_sell 21 = .ok (.ifCond .ne 6, 3) := by decide +kernel
theorem dX11_sell_24 : decode cX11_sell 24 = .ok (.bipush (-2), 2) := by decide +kernel
theorem dX11_sell_26 : decode cX11_sell 26 = .ok (.ireturn, 1) := by decide +kernel
theorem dX11_sell_27 : decode cX11_sell 27 = .ok (.aload_n 0, 1) := by decide +kernel
theorem dX11_sell_28 : decode cX11_sell 28 = .ok (.getfield 47, 3) := by decide +kernel
theorem dX11_sell_31 : decode cX11_sell 31 = .ok (.aload_n 0, 1) := by decide +kernel
theorem dX11_sell_32 : decode cX11_sell 32 = .ok (.getfield 37, 3) := by decide +kernel
theorem dX11_sell_35 : decode cX11_sell 35 = .ok (.invokevirtual 181, 3) := by decide +kernel
theorem dX11_sell_38 : decode cX11_sell 38 = .ok (.aload_n 0, 1) := by decide +kernel
theorem dX11_sell_39 : decode cX11_sell 39 = .ok (.getfield 37, 3) := by decide +kernel
theorem dX11_sell_42 : decode cX11_sell 42 = .ok (.dup, 1) := by decide +kernel
theorem dX11_sell_43 : decode cX11_sell 43 = .ok (.getfield 178, 3) := by decide +kernel
theorem dX11_sell_46 : decode cX11_sell 46 = .ok (.aload_n 0, 1) := by decide +kernel
theorem dX11_sell_47 : decode cX11_sell 47 = .ok (.getfield 30, 3) := by decide +kernel
theorem dX11_sell_50 : decode cX11_sell 50 = .ok (.getfield 144, 3) := by decide +kernel
theorem dX11_sell_53 : decode cX11_sell 53 = .ok (.iload_n 1, 1) := by decide +kernel
theorem dX11_sell_54 : decode cX11_sell 54 = .ok (.aaload, 1) := by decide +kernel
theorem dX11_sell_55 : decode cX11_sell 55 = .ok (.iconst 0, 1) := by decide +kernel
theorem dX11_sell_56 : decode cX11_sell 56 = .ok (.iaload, 1) := by decide +kernel
theorem dX11_sell_57 : decode cX11_sell 57 = .ok (.iconst 2, 1) := by decide +kernel
theorem dX11_sell_58 : decode cX11_sell 58 = .ok (.idiv, 1) := by decide +kernel
theorem dX11_sell_59 : decode cX11_sell 59 = .ok (.iadd, 1) := by decide +kernel
theorem dX11_sell_60 : decode cX11_sell 60 = .ok (.putfield 178, 3) := by decide +kernel
theorem dX11_sell_63 : decode cX11_sell 63 = .ok (.aload_n 0, 1) := by decide +kernel
theorem dX11_sell_64 : decode cX11_sell 64 = .ok (.getfield 37, 3) := by decide +kernel
theorem dX11_sell_67 : decode cX11_sell 67 = .ok (.dup, 1) := by decide +kernel
theorem dX11_sell_68 : decode cX11_sell 68 = .ok (.getfield 185, 3) := by decide +kernel
theorem dX11_sell_71 : decode cX11_sell 71 = .ok (.iconst 1, 1) := by decide +kernel
theorem dX11_sell_72 : decode cX11_sell 72 = .ok (.iload_n 1, 1) := by decide +kernel
theorem dX11_sell_73 : decode cX11_sell 73 = .ok (.ishl, 1) := by decide +kernel
theorem dX11_sell_74 : decode cX11_sell 74 = .ok (.iconst (-1), 1) := by decide +kernel
theorem dX11_sell_75 : decode cX11_sell 75 = .ok (.ixor, 1) := by decide +kernel
theorem dX11_sell_76 : decode cX11_sell 76 = .ok (.iand, 1) := by decide +kernel
theorem dX11_sell_77 : decode cX11_sell 77 = .ok (.putfield 185, 3) := by decide +kernel
theorem dX11_sell_80 : decode cX11_sell 80 = .ok (.aload_n 0, 1) := by decide +kernel
theorem dX11_sell_81 : decode cX11_sell 81 = .ok (.getfield 37, 3) := by decide +kernel
theorem dX11_sell_84 : decode cX11_sell 84 = .ok (.getfield 178, 3) := by decide +kernel
theorem dX11_sell_87 : decode cX11_sell 87 = .ok (.ireturn, 1) := by decide +kernel
def c_X11_sell (a1 : Int32) (h : PH) : Option (Int32 × PH) :=
  nm (h.2.2 0 4) fun t1 =>
  gd (tOK t1) <|
  (c_X9_isExcuse t1 a1 h).bind fun r2 =>
  if r2 = 0 then
    some ((-1), h)
  else
    (c_X8_owns 78 a1 h).bind fun r3 =>
    if r3 = 0 then
      some ((-2), h)
    else
      (c_X5_keep 84 78 h).bind fun h4 =>
      nm (h4.2.2 0 4) fun t5 =>
      gd (tOK t5) <|
      gd (ixOK a1 7) <|
      nm (setI h4 78 1 ((h4.1 78 1) + ((h4.1 (t5 + 13 + 1 + a1.toNatClampNeg) 0) / 2))) fun h7 =>
      nm (setI h7 78 3 ((h7.1 78 3) &&& (((1 : Int32) <<< (a1 &&& 31)) ^^^ (-1)))) fun h8 =>
      some ((h8.1 78 1), h8)
set_option maxHeartbeats 4000000 in
set_option maxRecDepth 100000 in
theorem ct_X11_sell (l : Launch) {lay : List KK} (ho : okX11 lay) (a1 : Int32) : CtI l yX11_sell cX11_sell 2 (some .int) 2 43 lay (fun h => c_X11_sell a1 h) (fun ad => [.ref (ad 0), .int a1]) := by
  refine CtI.mk' RX11 (by decide) rfl (fun _ => Nat.le_of_ble_eq_true rfl) ?_
  intro p0 e s m args below meth c D G A H0 ad X h r0 H ls Q hM hw hl hf hR
  have hl : lv_has ls 2 [(0, .ref (ad 0)), (1, .int a1)] := hl
  unfold c_X11_sell at hf
  refine lv_aload_n hM.1 hM.2.1 dX11_sell_0 rfl (lv_at hl 0 rfl) ?_
  refine gf_X11_text hM hw (okX11.o ho) fl_X11_30 dX11_sell_1 ?_
  refine x_nmr hf (fun t1 hf => ?_)
  obtain ⟨hok_t1, hf⟩ := x_cond hf
  refine lv_iload_n hM.1 hM.2.1 dX11_sell_4 rfl (lv_at hl 1 rfl) ?_
  refine x_callVIr (rest := []) hM hw (ct_X9_isExcuse l (okX11.textOf ho hok_t1) a1) [.int a1] (okX9.o (okX11.textOf ho hok_t1)) rfl rfl rfl (gi_V ml_X11_141 im_X9_isExcuse sl_X9_isExcuse in_X9 kc_X9_isExcuse) hd_X9_isExcuse rfl ⟨Nat.le_of_ble_eq_true rfl, Nat.le_of_ble_eq_true rfl⟩ rfl (Nat.le_of_ble_eq_true rfl) hl.1 hcs0 hf dX11_sell_5 (fun r2 H locs hf hw => ?_)
  refine x_if_ne (tgt := 13) hM hf dX11_sell_8 (by decide) (fun hf => ?_) (fun hf => ?_)
  · refine lv_aload_n hM.1 hM.2.1 dX11_sell_13 rfl (lv_at hl 0 rfl) ?_
    refine gf_X11_now hM hw (okX11.o ho) fl_X11_37 dX11_sell_14 ?_
    refine lv_iload_n hM.1 hM.2.1 dX11_sell_17 rfl (lv_at hl 1 rfl) ?_
    refine x_callVIr (rest := []) hM hw (ct_X8_owns l (okX11.now ho) a1) [.int a1] (okX8.o (okX11.now ho)) rfl rfl rfl (gi_V ml_X11_147 im_X8_owns sl_X8_owns in_X8 kc_X8_owns) hd_X8_owns rfl ⟨Nat.le_of_ble_eq_true rfl, Nat.le_of_ble_eq_true rfl⟩ rfl (Nat.le_of_ble_eq_true rfl) hl.1 hcs0 hf dX11_sell_18 (fun r3 H locs hf hw => ?_)
    refine x_if_ne (tgt := 27) hM hf dX11_sell_21 (by decide) (fun hf => ?_) (fun hf => ?_)
    · refine lv_aload_n hM.1 hM.2.1 dX11_sell_27 rfl (lv_at hl 0 rfl) ?_
      refine gf_X11_past hM hw (okX11.o ho) fl_X11_47 dX11_sell_28 ?_
      refine lv_aload_n hM.1 hM.2.1 dX11_sell_31 rfl (lv_at hl 0 rfl) ?_
      refine gf_X11_now hM hw (okX11.o ho) fl_X11_37 dX11_sell_32 ?_
      refine x_callVV (rest := []) hM hw (ct_X5_keep l (okX11.past ho) (okX11.now ho)) [.ref (ad 78)] (okX5.o (okX11.past ho)) rfl rfl rfl (gi_V ml_X11_181 im_X5_keep sl_X5_keep in_X5 kc_X5_keep) hd_X5_keep rfl ⟨Nat.le_of_ble_eq_true rfl, Nat.le_of_ble_eq_true rfl⟩ rfl (Nat.le_of_ble_eq_true rfl) hl.1 hcs0 hf dX11_sell_35 (fun h4 H locs hf hw => ?_)
      refine lv_aload_n hM.1 hM.2.1 dX11_sell_38 rfl (lv_at hl 0 rfl) ?_
      refine gf_X11_now hM hw (okX11.o ho) fl_X11_37 dX11_sell_39 ?_
      refine lv_dup hM.1 hM.2.1 dX11_sell_42 rfl ?_
      refine gf_X8_coins hM hw (okX8.o (okX11.now ho)) fl_X11_178 dX11_sell_43 ?_
      refine lv_aload_n hM.1 hM.2.1 dX11_sell_46 rfl (lv_at hl 0 rfl) ?_
      refine gf_X11_text hM hw (okX11.o ho) fl_X11_30 dX11_sell_47 ?_
      refine x_nmr hf (fun t5 hf => ?_)
      obtain ⟨hok_t5, hf⟩ := x_cond hf
      refine gf_X9_excuseRows hM hw (okX9.o (okX11.textOf ho hok_t5)) fl_X11_144 dX11_sell_50 ?_
      refine lv_iload_n hM.1 hM.2.1 dX11_sell_53 rfl (lv_at hl 1 rfl) ?_
      refine x_aaldI hM hw (okX9.excuseRows (okX11.textOf ho hok_t5)) hf dX11_sell_54 (fun hi6 hf => ?_)
      refine lv_iconst (v := 0) hM.1 hM.2.1 dX11_sell_55 ic_0 ?_
      refine x_ialdK hM hw (okX9.excuseRows_atI (okX11.textOf ho hok_t5) hi6) 0 (by decide) (by decide) dX11_sell_56 ?_
      refine lv_iconst (v := 2) hM.1 hM.2.1 dX11_sell_57 ic_2 ?_
      refine lv_idiv hM.1 hM.2.1 dX11_sell_58 (by decide) ?_
      refine lv_iadd hM.1 hM.2.1 dX11_sell_59 ?_
      refine pf_X8_coins hM hw (okX8.o (okX11.now ho)) fl_X11_178 hf dX11_sell_60 (fun h7 H locs hf hw => ?_)
      refine lv_aload_n hM.1 hM.2.1 dX11_sell_63 rfl (lv_at hl 0 rfl) ?_
      refine gf_X11_now hM hw (okX11.o ho) fl_X11_37 dX11_sell_64 ?_
      refine lv_dup hM.1 hM.2.1 dX11_sell_67 rfl ?_
      refine gf_X8_owned hM hw (okX8.o (okX11.now ho)) fl_X11_185 dX11_sell_68 ?_
      refine lv_iconst (v := 1) hM.1 hM.2.1 dX11_sell_71 ic_1 ?_
      refine lv_iload_n hM.1 hM.2.1 dX11_sell_72 rfl (lv_at hl 1 rfl) ?_
      refine lv_ishl hM.1 hM.2.1 dX11_sell_73 ?_
      refine lv_iconst (v := (-1)) hM.1 hM.2.1 dX11_sell_74 ic_m1 ?_
      refine lv_ixor hM.1 hM.2.1 dX11_sell_75 ?_
      refine lv_iand hM.1 hM.2.1 dX11_sell_76 ?_
      refine pf_X8_owned hM hw (okX8.o (okX11.now ho)) fl_X11_185 hf dX11_sell_77 (fun h8 H locs hf hw => ?_)
      refine lv_aload_n hM.1 hM.2.1 dX11_sell_80 rfl (lv_at hl 0 rfl) ?_
      refine gf_X11_now hM hw (okX11.o ho) fl_X11_37 dX11_sell_81 ?_
      refine gf_X8_coins hM hw (okX8.o (okX11.now ho)) fl_X11_178 dX11_sell_84 ?_
      exact hR _ _ _ _ _ _ _ (Option.some.inj hf) rfl rfl hw dX11_sell_87
    refine lv_bipush (v := (-2)) hM.1 hM.2.1 dX11_sell_24 (by decide) ?_
    exact hR _ _ _ _ _ _ _ (Option.some.inj hf) rfl rfl hw dX11_sell_26
  refine lv_iconst (v := (-1)) hM.1 hM.2.1 dX11_sell_11 ic_m1 ?_
  exact hR _ _ _ _ _ _ _ (Option.some.inj hf) rfl rfl hw dX11_sell_12
theorem hd_X11_sell : yX11_sell.cls = RX11 ∧ yX11_sell.cls ≠ "java/lang/invoke/MethodHandle" ∧ yX11_sell.cls ≠ "java/lang/invoke/VarHandle" ∧ (parseMethodDescriptor yX11_sell.desc).map (fun d => d.parameters.length) = some 1 := ⟨rfl, by decide, by decide, by decide +kernel⟩
theorem dX11_plan_0 : decode cX11_plan 0 = .ok (.aload_n 0, 1) := by decide +kernel
theorem dX11_plan_1 : decode cX11_plan 1 = .ok (.getfield 30, 3) := by decide +kernel
theorem dX11_plan_4 : decode cX11_plan 4 = .ok (.iload_n 1, 1) := by decide +kernel
theorem dX11_plan_5 : decode cX11_plan 5 = .ok (.invokevirtual 154, 3) := by decide +kernel
theorem dX11_plan_8 : decode cX11_plan 8 = .ok (.ifCond .eq 14, 3) := by decide +kernel
theorem dX11_plan_11 : decode cX11_plan 11 = .ok (.aload_n 0, 1) := by decide +kernel
theorem dX11_plan_12 : decode cX11_plan 12 = .ok (.getfield 37, 3) := by decide +kernel
theorem dX11_plan_15 : decode cX11_plan 15 = .ok (.iload_n 1, 1) := by decide +kernel
theorem dX11_plan_16 : decode cX11_plan 16 = .ok (.invokevirtual 188, 3) := by decide +kernel
theorem dX11_plan_19 : decode cX11_plan 19 = .ok (.ifCond .eq 5, 3) := by decide +kernel
theorem dX11_plan_22 : decode cX11_plan 22 = .ok (.iconst 0, 1) := by decide +kernel
theorem dX11_plan_23 : decode cX11_plan 23 = .ok (.ireturn, 1) := by decide +kernel
theorem dX11_plan_24 : decode cX11_plan 24 = .ok (.iload_n 2, 1) := by decide +kernel
theorem dX11_plan_25 : decode cX11_plan 25 = .ok (.iconst (-1), 1) := by decide +kernel
theorem dX11_plan_26 : decode cX11_plan 26 = .ok (.if_icmp .ne 7, 3) := by decide +kernel
theorem dX11_plan_29 : decode cX11_plan 29 = .ok (.iconst 1, 1) := by decide +kernel
theorem dX11_plan_30 : decode cX11_plan 30 = .ok (.goto 4, 3) := by decide +kernel
theorem dX11_plan_33 : decode cX11_plan 33 = .ok (.iconst 0, 1) := by decide +kernel
theorem dX11_plan_34 : decode cX11_plan 34 = .ok (.istore_n 3, 1) := by decide +kernel
theorem dX11_plan_35 : decode cX11_plan 35 = .ok (.iload_n 3, 1) := by decide +kernel
theorem dX11_plan_36 : decode cX11_plan 36 = .ok (.ifCond .ne 27, 3) := by decide +kernel
theorem dX11_plan_39 : decode cX11_plan 39 = .ok (.aload_n 0, 1) := by decide +kernel
theorem dX11_plan_40 : decode cX11_plan 40 = .ok (.getfield 30, 3) := by decide +kernel
theorem dX11_plan_43 : decode cX11_plan 43 = .ok (.iload_n 2, 1) := by decide +kernel
theorem dX11_plan_44 : decode cX11_plan 44 = .ok (.invokevirtual 141, 3) := by decide +kernel
theorem dX11_plan_47 : decode cX11_plan 47 = .ok (.ifCond .eq 14, 3) := by decide +kernel
theorem dX11_plan_50 : decode cX11_plan 50 = .ok (.aload_n 0, 1) := by decide +kernel
theorem dX11_plan_51 : decode cX11_plan 51 = .ok (.getfield 37, 3) := by decide +kernel
theorem dX11_plan_54 : decode cX11_plan 54 = .ok (.iload_n 2, 1) := by decide +kernel
theorem dX11_plan_55 : decode cX11_plan 55 = .ok (.invokevirtual 147, 3) := by decide +kernel
theorem dX11_plan_58 : decode cX11_plan 58 = .ok (.ifCond .ne 5, 3) := by decide +kernel
theorem dX11_plan_61 : decode cX11_plan 61 = .ok (.iconst 0, 1) := by decide +kernel
theorem dX11_plan_62 : decode cX11_plan 62 = .ok (.ireturn, 1) := by decide +kernel
theorem dX11_plan_63 : decode cX11_plan 63 = .ok (.iload_n 3, 1) := by decide +kernel
theorem dX11_plan_64 : decode cX11_plan 64 = .ok (.ifCond .eq 8, 3) := by decide +kernel
theorem dX11_plan_67 : decode cX11_plan 67 = .ok (.bipush (-2), 2) := by decide +kernel
theorem dX11_plan_69 : decode cX11_plan 69 = .ok (.goto 4, 3) := by decide +kernel
theorem dX11_plan_72 : decode cX11_plan 72 = .ok (.iload_n 2, 1) := by decide +kernel
theorem dX11_plan_73 : decode cX11_plan 73 = .ok (.istore 4, 2) := by decide +kernel
theorem dX11_plan_75 : decode cX11_plan 75 = .ok (.aload_n 0, 1) := by decide +kernel
theorem dX11_plan_76 : decode cX11_plan 76 = .ok (.getfield 37, 3) := by decide +kernel
theorem dX11_plan_79 : decode cX11_plan 79 = .ok (.getfield 160, 3) := by decide +kernel
theorem dX11_plan_82 : decode cX11_plan 82 = .ok (.iload_n 1, 1) := by decide +kernel
theorem dX11_plan_83 : decode cX11_plan 83 = .ok (.iaload, 1) := by decide +kernel
theorem dX11_plan_84 : decode cX11_plan 84 = .ok (.iload 4, 2) := by decide +kernel
theorem dX11_plan_86 : decode cX11_plan 86 = .ok (.if_icmp .ne 5, 3) := by decide +kernel
theorem dX11_plan_89 : decode cX11_plan 89 = .ok (.iconst 0, 1) := by decide +kernel
theorem dX11_plan_90 : decode cX11_plan 90 = .ok (.ireturn, 1) := by decide +kernel
theorem dX11_plan_91 : decode cX11_plan 91 = .ok (.aload_n 0, 1) := by decide +kernel
theorem dX11_plan_92 : decode cX11_plan 92 = .ok (.getfield 47, 3) := by decide +kernel
theorem dX11_plan_95 : decode cX11_plan 95 = .ok (.aload_n 0, 1) := by decide +kernel
theorem dX11_plan_96 : decode cX11_plan 96 = .ok (.getfield 37, 3) := by decide +kernel
theorem dX11_plan_99 : decode cX11_plan 99 = .ok (.invokevirtual 181, 3) := by decide +kernel
theorem dX11_plan_102 : decode cX11_plan 102 = .ok (.aload_n 0, 1) := by decide +kernel
theorem dX11_plan_103 : decode cX11_plan 103 = .ok (.getfield 37, 3) := by decide +kernel
theorem dX11_plan_106 : decode cX11_plan 106 = .ok (.getfield 160, 3) := by decide +kernel
theorem dX11_plan_109 : decode cX11_plan 109 = .ok (.iload_n 1, 1) := by decide +kernel
theorem dX11_plan_110 : decode cX11_plan 110 = .ok (.iload 4, 2) := by decide +kernel
theorem dX11_plan_112 : decode cX11_plan 112 = .ok (.iastore, 1) := by decide +kernel
theorem dX11_plan_113 : decode cX11_plan 113 = .ok (.iconst 1, 1) := by decide +kernel
theorem dX11_plan_114 : decode cX11_plan 114 = .ok (.ireturn, 1) := by decide +kernel
def c_X11_plan_j73  (x1 : Int32) (y0 : Int32) (h : PH) : Option (Int32 × PH) :=
  nm y0 fun v5 =>
  gd (ixOK x1 9) <|
  if (h.1 (78 + 2) x1.toNatClampNeg) = v5 then
    some (0, h)
  else
    (c_X5_keep 84 78 h).bind fun h6 =>
    gd (ixOK x1 9) <| nm (setI h6 (78 + 2) x1.toNatClampNeg v5) fun h7 =>
    some (1, h7)
set_option maxHeartbeats 4000000 in
set_option maxRecDepth 100000 in
theorem w_X11_plan_j73 {p0 : Program} {l : Launch} {e : Env} {s : State} {m : MethodId} {args : Array Value} {below : List Frame} {meth : Method} {c : Code} {Q : State → Prop} {D : va_G} {G : GG} {A : Nat → Prop} {H0 : Heap} {ad : Nat → Nat} {lay : List KK} {X : va_W} {r0 : Int32 × PH} {x1 : Int32} {y0 : Int32} {h : PH} {H : Heap} {locs : List Loc} {ls : Array Slot} (hM : CallFix p0 m c cX11_plan 5 s args lw_g RX11) (ho : okX11 lay) (hR : RtI p0 l e (rmN 2 43) s m args below meth c cX11_plan D G A H0 ad lay X (some .boolean) r0 Q 0 0) (hw : Wd D G A H0 ad lay X h s H locs) (hl : lv_has ls 5 [(0, .ref (ad 0)), (1, .int x1)]) (hf : c_X11_plan_j73 x1 y0 h = some r0) : W p0 l e (rmN 2 43) s m args below meth c H locs 0 0 Q (F0 m 73 ls [.int y0]) := by
  unfold c_X11_plan_j73 at hf
  refine x_istore hM hf dX11_plan_73 hl (by decide) (fun v5 => [(4, .int v5), (0, .ref (ad 0)), (1, .int x1)]) (fun _ => rfl) (fun v5 ls hf hl => ?_)
  refine lv_aload_n hM.1 hM.2.1 dX11_plan_75 rfl (lv_at hl 1 rfl) ?_
  refine gf_X11_now hM hw (okX11.o ho) fl_X11_37 dX11_plan_76 ?_
  refine gf_X8_plans hM hw (okX8.o (okX11.now ho)) fl_X11_160 dX11_plan_79 ?_
  refine lv_iload_n hM.1 hM.2.1 dX11_plan_82 rfl (lv_at hl 2 rfl) ?_
  refine x_iald hM hw (okX8.plans (okX11.now ho)) hf dX11_plan_83 (fun hf => ?_)
  refine lv_iload hM.1 hM.2.1 dX11_plan_84 (lv_at hl 0 rfl) ?_
  refine x_ic_ne (tgt := 91) hM hf dX11_plan_86 (by decide) (fun hf => ?_) (fun hf => ?_)
  · refine lv_aload_n hM.1 hM.2.1 dX11_plan_91 rfl (lv_at hl 1 rfl) ?_
    refine gf_X11_past hM hw (okX11.o ho) fl_X11_47 dX11_plan_92 ?_
    refine lv_aload_n hM.1 hM.2.1 dX11_plan_95 rfl (lv_at hl 1 rfl) ?_
    refine gf_X11_now hM hw (okX11.o ho) fl_X11_37 dX11_plan_96 ?_
    refine x_callVV (rest := []) hM hw (ct_X5_keep l (okX11.past ho) (okX11.now ho)) [.ref (ad 78)] (okX5.o (okX11.past ho)) rfl rfl rfl (gi_V ml_X11_181 im_X5_keep sl_X5_keep in_X5 kc_X5_keep) hd_X5_keep rfl ⟨Nat.le_of_ble_eq_true rfl, Nat.le_of_ble_eq_true rfl⟩ rfl (Nat.le_of_ble_eq_true rfl) hl.1 hcs0 hf dX11_plan_99 (fun h6 H locs hf hw => ?_)
    refine lv_aload_n hM.1 hM.2.1 dX11_plan_102 rfl (lv_at hl 1 rfl) ?_
    refine gf_X11_now hM hw (okX11.o ho) fl_X11_37 dX11_plan_103 ?_
    refine gf_X8_plans hM hw (okX8.o (okX11.now ho)) fl_X11_160 dX11_plan_106 ?_
    refine lv_iload_n hM.1 hM.2.1 dX11_plan_109 rfl (lv_at hl 2 rfl) ?_
    refine lv_iload hM.1 hM.2.1 dX11_plan_110 (lv_at hl 0 rfl) ?_
    refine x_iast hM hw (okX8.plans (okX11.now ho)) hf dX11_plan_112 (fun h7 H locs hf hw => ?_)
    refine lv_iconst (v := 1) hM.1 hM.2.1 dX11_plan_113 ic_1 ?_
    exact hR _ _ _ _ _ _ _ (Option.some.inj hf) rfl (nar_z (by decide)) hw dX11_plan_114
  refine lv_iconst (v := 0) hM.1 hM.2.1 dX11_plan_89 ic_0 ?_
  exact hR _ _ _ _ _ _ _ (Option.some.inj hf) rfl (nar_z (by decide)) hw dX11_plan_90
def c_X11_plan_j34  (x1 : Int32) (x2 : Int32) (y0 : Int32) (h : PH) : Option (Int32 × PH) :=
  nm y0 fun v4 =>
  if v4 = 0 then
    nm (h.2.2 0 4) fun t8 =>
    gd (tOK t8) <|
    (c_X9_isExcuse t8 x2 h).bind fun r9 =>
    if r9 = 0 then
      some (0, h)
    else
      (c_X8_owns 78 x2 h).bind fun r10 =>
      if r10 = 0 then
        some (0, h)
      else
        if v4 = 0 then
          c_X11_plan_j73 x1 x2 h
        else
          c_X11_plan_j73 x1 (-2) h
  else
    if v4 = 0 then
      c_X11_plan_j73 x1 x2 h
    else
      c_X11_plan_j73 x1 (-2) h
set_option maxHeartbeats 4000000 in
set_option maxRecDepth 100000 in
theorem w_X11_plan_j34 {p0 : Program} {l : Launch} {e : Env} {s : State} {m : MethodId} {args : Array Value} {below : List Frame} {meth : Method} {c : Code} {Q : State → Prop} {D : va_G} {G : GG} {A : Nat → Prop} {H0 : Heap} {ad : Nat → Nat} {lay : List KK} {X : va_W} {r0 : Int32 × PH} {x1 : Int32} {x2 : Int32} {y0 : Int32} {h : PH} {H : Heap} {locs : List Loc} {ls : Array Slot} (hM : CallFix p0 m c cX11_plan 5 s args lw_g RX11) (ho : okX11 lay) (hR : RtI p0 l e (rmN 2 43) s m args below meth c cX11_plan D G A H0 ad lay X (some .boolean) r0 Q 0 0) (hw : Wd D G A H0 ad lay X h s H locs) (hl : lv_has ls 5 [(0, .ref (ad 0)), (1, .int x1), (2, .int x2)]) (hf : c_X11_plan_j34 x1 x2 y0 h = some r0) : W p0 l e (rmN 2 43) s m args below meth c H locs 0 0 Q (F0 m 34 ls [.int y0]) := by
  unfold c_X11_plan_j34 at hf
  refine x_istore_n hM hf dX11_plan_34 rfl hl (by decide) (fun v4 => [(3, .int v4), (0, .ref (ad 0)), (1, .int x1), (2, .int x2)]) (fun _ => rfl) (fun v4 ls hf hl => ?_)
  refine lv_iload_n hM.1 hM.2.1 dX11_plan_35 rfl (lv_at hl 0 rfl) ?_
  refine x_if_ne (tgt := 63) hM hf dX11_plan_36 (by decide) (fun hf => ?_) (fun hf => ?_)
  · refine lv_iload_n hM.1 hM.2.1 dX11_plan_63 rfl (lv_at hl 0 rfl) ?_
    refine x_if_eq (tgt := 72) hM hf dX11_plan_64 (by decide) (fun hf => ?_) (fun hf => ?_)
    · refine lv_iload_n hM.1 hM.2.1 dX11_plan_72 rfl (lv_at hl 3 rfl) ?_
      exact w_X11_plan_j73 hM ho hR hw (lv_sub hl [1, 2] rfl) hf
    refine lv_bipush (v := (-2)) hM.1 hM.2.1 dX11_plan_67 (by decide) ?_
    refine lv_goto (tgt := 73) hM.1 hM.2.1 dX11_plan_69 (by decide) ?_
    exact w_X11_plan_j73 hM ho hR hw (lv_sub hl [1, 2] rfl) hf
  refine lv_aload_n hM.1 hM.2.1 dX11_plan_39 rfl (lv_at hl 1 rfl) ?_
  refine gf_X11_text hM hw (okX11.o ho) fl_X11_30 dX11_plan_40 ?_
  refine x_nmr hf (fun t8 hf => ?_)
  obtain ⟨hok_t8, hf⟩ := x_cond hf
  refine lv_iload_n hM.1 hM.2.1 dX11_plan_43 rfl (lv_at hl 3 rfl) ?_
  refine x_callVIr (rest := []) hM hw (ct_X9_isExcuse l (okX11.textOf ho hok_t8) x2) [.int x2] (okX9.o (okX11.textOf ho hok_t8)) rfl rfl rfl (gi_V ml_X11_141 im_X9_isExcuse sl_X9_isExcuse in_X9 kc_X9_isExcuse) hd_X9_isExcuse rfl ⟨Nat.le_of_ble_eq_true rfl, Nat.le_of_ble_eq_true rfl⟩ rfl (Nat.le_of_ble_eq_true rfl) hl.1 hcs0 hf dX11_plan_44 (fun r9 H locs hf hw => ?_)
  refine x_if_eq (tgt := 61) hM hf dX11_plan_47 (by decide) (fun hf => ?_) (fun hf => ?_)
  · refine lv_iconst (v := 0) hM.1 hM.2.1 dX11_plan_61 ic_0 ?_
    exact hR _ _ _ _ _ _ _ (Option.some.inj hf) rfl (nar_z (by decide)) hw dX11_plan_62
  refine lv_aload_n hM.1 hM.2.1 dX11_plan_50 rfl (lv_at hl 1 rfl) ?_
  refine gf_X11_now hM hw (okX11.o ho) fl_X11_37 dX11_plan_51 ?_
  refine lv_iload_n hM.1 hM.2.1 dX11_plan_54 rfl (lv_at hl 3 rfl) ?_
  refine x_callVIr (rest := []) hM hw (ct_X8_owns l (okX11.now ho) x2) [.int x2] (okX8.o (okX11.now ho)) rfl rfl rfl (gi_V ml_X11_147 im_X8_owns sl_X8_owns in_X8 kc_X8_owns) hd_X8_owns rfl ⟨Nat.le_of_ble_eq_true rfl, Nat.le_of_ble_eq_true rfl⟩ rfl (Nat.le_of_ble_eq_true rfl) hl.1 hcs0 hf dX11_plan_55 (fun r10 H locs hf hw => ?_)
  refine x_if_ne (tgt := 63) hM hf dX11_plan_58 (by decide) (fun hf => ?_) (fun hf => ?_)
  · refine lv_iload_n hM.1 hM.2.1 dX11_plan_63 rfl (lv_at hl 0 rfl) ?_
    refine x_if_eq (tgt := 72) hM hf dX11_plan_64 (by decide) (fun hf => ?_) (fun hf => ?_)
    · refine lv_iload_n hM.1 hM.2.1 dX11_plan_72 rfl (lv_at hl 3 rfl) ?_
      exact w_X11_plan_j73 hM ho hR hw (lv_sub hl [1, 2] rfl) hf
    refine lv_bipush (v := (-2)) hM.1 hM.2.1 dX11_plan_67 (by decide) ?_
    refine lv_goto (tgt := 73) hM.1 hM.2.1 dX11_plan_69 (by decide) ?_
    exact w_X11_plan_j73 hM ho hR hw (lv_sub hl [1, 2] rfl) hf
  refine lv_iconst (v := 0) hM.1 hM.2.1 dX11_plan_61 ic_0 ?_
  exact hR _ _ _ _ _ _ _ (Option.some.inj hf) rfl (nar_z (by decide)) hw dX11_plan_62
def c_X11_plan (a1 : Int32) (a2 : Int32) (h : PH) : Option (Int32 × PH) :=
  nm (h.2.2 0 4) fun t1 =>
  gd (tOK t1) <|
  (c_X9_isDuty t1 a1 h).bind fun r2 =>
  if r2 = 0 then
    some (0, h)
  else
    (c_X8_isOver 78 a1 h).bind fun r3 =>
    if r3 = 0 then
      if a2 = (-1) then
        c_X11_plan_j34 a1 a2 1 h
      else
        c_X11_plan_j34 a1 a2 0 h
    else
      some (0, h)
set_option maxHeartbeats 4000000 in
set_option maxRecDepth 100000 in
theorem ct_X11_plan (l : Launch) {lay : List KK} (ho : okX11 lay) (a1 : Int32) (a2 : Int32) : CtI l yX11_plan cX11_plan 5 (some .boolean) 2 43 lay (fun h => c_X11_plan a1 a2 h) (fun ad => [.ref (ad 0), .int a1, .int a2]) := by
  refine CtI.mk' RX11 (by decide) rfl (fun _ => Nat.le_of_ble_eq_true rfl) ?_
  intro p0 e s m args below meth c D G A H0 ad X h r0 H ls Q hM hw hl hf hR
  have hl : lv_has ls 5 [(0, .ref (ad 0)), (1, .int a1), (2, .int a2)] := hl
  unfold c_X11_plan at hf
  refine lv_aload_n hM.1 hM.2.1 dX11_plan_0 rfl (lv_at hl 0 rfl) ?_
  refine gf_X11_text hM hw (okX11.o ho) fl_X11_30 dX11_plan_1 ?_
  refine x_nmr hf (fun t1 hf => ?_)
  obtain ⟨hok_t1, hf⟩ := x_cond hf
  refine lv_iload_n hM.1 hM.2.1 dX11_plan_4 rfl (lv_at hl 1 rfl) ?_
  refine x_callVIr (rest := []) hM hw (ct_X9_isDuty l (okX11.textOf ho hok_t1) a1) [.int a1] (okX9.o (okX11.textOf ho hok_t1)) rfl rfl rfl (gi_V ml_X11_154 im_X9_isDuty sl_X9_isDuty in_X9 kc_X9_isDuty) hd_X9_isDuty rfl ⟨Nat.le_of_ble_eq_true rfl, Nat.le_of_ble_eq_true rfl⟩ rfl (Nat.le_of_ble_eq_true rfl) hl.1 hcs0 hf dX11_plan_5 (fun r2 H locs hf hw => ?_)
  refine x_if_eq (tgt := 22) hM hf dX11_plan_8 (by decide) (fun hf => ?_) (fun hf => ?_)
  · refine lv_iconst (v := 0) hM.1 hM.2.1 dX11_plan_22 ic_0 ?_
    exact hR _ _ _ _ _ _ _ (Option.some.inj hf) rfl (nar_z (by decide)) hw dX11_plan_23
  refine lv_aload_n hM.1 hM.2.1 dX11_plan_11 rfl (lv_at hl 0 rfl) ?_
  refine gf_X11_now hM hw (okX11.o ho) fl_X11_37 dX11_plan_12 ?_
  refine lv_iload_n hM.1 hM.2.1 dX11_plan_15 rfl (lv_at hl 1 rfl) ?_
  refine x_callVIr (rest := []) hM hw (ct_X8_isOver l (okX11.now ho) a1) [.int a1] (okX8.o (okX11.now ho)) rfl rfl rfl (gi_V ml_X11_188 im_X8_isOver sl_X8_isOver in_X8 kc_X8_isOver) hd_X8_isOver rfl ⟨Nat.le_of_ble_eq_true rfl, Nat.le_of_ble_eq_true rfl⟩ rfl (Nat.le_of_ble_eq_true rfl) hl.1 hcs0 hf dX11_plan_16 (fun r3 H locs hf hw => ?_)
  refine x_if_eq (tgt := 24) hM hf dX11_plan_19 (by decide) (fun hf => ?_) (fun hf => ?_)
  · refine lv_iload_n hM.1 hM.2.1 dX11_plan_24 rfl (lv_at hl 2 rfl) ?_
    refine lv_iconst (v := (-1)) hM.1 hM.2.1 dX11_plan_25 ic_m1 ?_
    refine x_ic_ne (tgt := 33) hM hf dX11_plan_26 (by decide) (fun hf => ?_) (fun hf => ?_)
    · refine lv_iconst (v := 0) hM.1 hM.2.1 dX11_plan_33 ic_0 ?_
      exact w_X11_plan_j34 hM ho hR hw hl hf
    refine lv_iconst (v := 1) hM.1 hM.2.1 dX11_plan_29 ic_1 ?_
    refine lv_goto (tgt := 34) hM.1 hM.2.1 dX11_plan_30 (by decide) ?_
    exact w_X11_plan_j34 hM ho hR hw hl hf
  refine lv_iconst (v := 0) hM.1 hM.2.1 dX11_plan_22 ic_0 ?_
  exact hR _ _ _ _ _ _ _ (Option.some.inj hf) rfl (nar_z (by decide)) hw dX11_plan_23
theorem hd_X11_plan : yX11_plan.cls = RX11 ∧ yX11_plan.cls ≠ "java/lang/invoke/MethodHandle" ∧ yX11_plan.cls ≠ "java/lang/invoke/VarHandle" ∧ (parseMethodDescriptor yX11_plan.desc).map (fun d => d.parameters.length) = some 2 := ⟨rfl, by decide, by decide, by decide +kernel⟩
theorem dX11_days_0 : decode cX11_days 0 = .ok (.iload_n 1, 1) := by decide +kernel
theorem dX11_days_1 : decode cX11_days 1 = .ok (.ifCond .lt 9, 3) := by decide +kernel
theorem dX11_days_4 : decode cX11_days 4 = .ok (.iload_n 1, 1) := by decide +kernel
theorem dX11_days_5 : decode cX11_days 5 = .ok (.bipush 60, 2) := by decide +kernel
theorem dX11_days_7 : decode cX11_days 7 = .ok (.if_icmp .le 5, 3) := by decide +kernel
theorem dX11_days_10 : decode cX11_days 10 = .ok (.iconst (-1), 1) := by decide +kernel
theorem dX11_days_11 : decode cX11_days 11 = .ok (.ireturn, 1) := by decide +kernel
theorem dX11_days_12 : decode cX11_days 12 = .ok (.iload_n 1, 1) := by decide +kernel
theorem dX11_days_13 : decode cX11_days 13 = .ok (.ifCond .le 37, 3) := by decide +kernel
theorem dX11_days_16 : decode cX11_days 16 = .ok (.aload_n 0, 1) := by decide +kernel
theorem dX11_days_17 : decode cX11_days 17 = .ok (.getfield 47, 3) := by decide +kernel
theorem dX11_days_20 : decode cX11_days 20 = .ok (.aload_n 0, 1) := by decide +kernel
theorem dX11_days_21 : decode cX11_days 21 = .ok (.getfield 37, 3) := by decide +kernel
theorem dX11_days_24 : decode cX11_days 24 = .ok (.invokevirtual 181, 3) := by decide +kernel
theorem dX11_days_27 : decode cX11_days 27 = .ok (.aload_n 0, 1) := by decide +kernel
theorem dX11_days_28 : decode cX11_days 28 = .ok (.getfield 62, 3) := by decide +kernel
theorem dX11_days_31 : decode cX11_days 31 = .ok (.aload_n 0, 1) := by decide +kernel
theorem dX11_days_32 : decode cX11_days 32 = .ok (.getfield 30, 3) := by decide +kernel
theorem dX11_days_35 : decode cX11_days 35 = .ok (.aload_n 0, 1) := by decide +kernel
theorem dX11_days_36 : decode cX11_days 36 = .ok (.getfield 37, 3) := by decide +kernel
theorem dX11_days_39 : decode cX11_days 39 = .ok (.iload_n 1, 1) := by decide +kernel
theorem dX11_days_40 : decode cX11_days 40 = .ok (.aload_n 0, 1) := by decide +kernel
theorem dX11_days_41 : decode cX11_days 41 = .ok (.getfield 30, 3) := by decide +kernel
theorem dX11_days_44 : decode cX11_days 44 = .ok (.getfield 171, 3) := by decide +kernel
theorem dX11_days_47 : decode cX11_days 47 = .ok (.invokevirtual 191, 3) := by decide +kernel
theorem dX11_days_50 : decode cX11_days 50 = .ok (.aload_n 0, 1) := by decide +kernel
theorem dX11_days_51 : decode cX11_days 51 = .ok (.getfield 37, 3) := by decide +kernel
theorem dX11_days_54 : decode cX11_days 54 = .ok (.getfield 195, 3) := by decide +kernel
theorem dX11_days_57 : decode cX11_days 57 = .ok (.ireturn, 1) := by decide +kernel
def c_X11_days (a1 : Int32) (h : PH) : Option (Int32 × PH) :=
  if a1 < 0 then
    some ((-1), h)
  else
    if a1 ≤ 60 then
      if a1 ≤ 0 then
        some ((h.1 78 0), h)
      else
        (c_X5_keep 84 78 h).bind fun h1 =>
        nm (h1.2.2 0 4) fun t2 =>
        gd (tOK t2) <|
        nm (h1.2.2 0 4) fun t3 =>
        gd (tOK t3) <|
        (c_X1_goBy 217 t2 78 a1 (h1.1 t3 7) h1).bind fun h4 =>
        some ((h4.1 78 0), h4)
    else
      some ((-1), h)
set_option maxHeartbeats 4000000 in
set_option maxRecDepth 100000 in
theorem ct_X11_days (l : Launch) {lay : List KK} (ho : okX11 lay) (a1 : Int32) : CtI l yX11_days cX11_days 2 (some .int) 6 158 lay (fun h => c_X11_days a1 h) (fun ad => [.ref (ad 0), .int a1]) := by
  refine CtI.mk' RX11 (by decide) rfl (fun _ => Nat.le_of_ble_eq_true rfl) ?_
  intro p0 e s m args below meth c D G A H0 ad X h r0 H ls Q hM hw hl hf hR
  have hl : lv_has ls 2 [(0, .ref (ad 0)), (1, .int a1)] := hl
  unfold c_X11_days at hf
  refine lv_iload_n hM.1 hM.2.1 dX11_days_0 rfl (lv_at hl 1 rfl) ?_
  refine x_if_lt (tgt := 10) hM hf dX11_days_1 (by decide) (fun hf => ?_) (fun hf => ?_)
  · refine lv_iconst (v := (-1)) hM.1 hM.2.1 dX11_days_10 ic_m1 ?_
    exact hR _ _ _ _ _ _ _ (Option.some.inj hf) rfl rfl hw dX11_days_11
  refine lv_iload_n hM.1 hM.2.1 dX11_days_4 rfl (lv_at hl 1 rfl) ?_
  refine lv_bipush (v := 60) hM.1 hM.2.1 dX11_days_5 (by decide) ?_
  refine x_ic_le (tgt := 12) hM hf dX11_days_7 (by decide) (fun hf => ?_) (fun hf => ?_)
  · refine lv_iload_n hM.1 hM.2.1 dX11_days_12 rfl (lv_at hl 1 rfl) ?_
    refine x_if_le (tgt := 50) hM hf dX11_days_13 (by decide) (fun hf => ?_) (fun hf => ?_)
    · refine lv_aload_n hM.1 hM.2.1 dX11_days_50 rfl (lv_at hl 0 rfl) ?_
      refine gf_X11_now hM hw (okX11.o ho) fl_X11_37 dX11_days_51 ?_
      refine gf_X8_today hM hw (okX8.o (okX11.now ho)) fl_X11_195 dX11_days_54 ?_
      exact hR _ _ _ _ _ _ _ (Option.some.inj hf) rfl rfl hw dX11_days_57
    refine lv_aload_n hM.1 hM.2.1 dX11_days_16 rfl (lv_at hl 0 rfl) ?_
    refine gf_X11_past hM hw (okX11.o ho) fl_X11_47 dX11_days_17 ?_
    refine lv_aload_n hM.1 hM.2.1 dX11_days_20 rfl (lv_at hl 0 rfl) ?_
    refine gf_X11_now hM hw (okX11.o ho) fl_X11_37 dX11_days_21 ?_
    refine x_callVV (rest := []) hM hw (ct_X5_keep l (okX11.past ho) (okX11.now ho)) [.ref (ad 78)] (okX5.o (okX11.past ho)) rfl rfl rfl (gi_V ml_X11_181 im_X5_keep sl_X5_keep in_X5 kc_X5_keep) hd_X5_keep rfl ⟨Nat.le_of_ble_eq_true rfl, Nat.le_of_ble_eq_true rfl⟩ rfl (Nat.le_of_ble_eq_true rfl) hl.1 hcs0 hf dX11_days_24 (fun h1 H locs hf hw => ?_)
    refine lv_aload_n hM.1 hM.2.1 dX11_days_27 rfl (lv_at hl 0 rfl) ?_
    refine gf_X11_course hM hw (okX11.o ho) fl_X11_62 dX11_days_28 ?_
    refine lv_aload_n hM.1 hM.2.1 dX11_days_31 rfl (lv_at hl 0 rfl) ?_
    refine gf_X11_text hM hw (okX11.o ho) fl_X11_30 dX11_days_32 ?_
    refine x_nmr hf (fun t2 hf => ?_)
    obtain ⟨hok_t2, hf⟩ := x_cond hf
    refine lv_aload_n hM.1 hM.2.1 dX11_days_35 rfl (lv_at hl 0 rfl) ?_
    refine gf_X11_now hM hw (okX11.o ho) fl_X11_37 dX11_days_36 ?_
    refine lv_iload_n hM.1 hM.2.1 dX11_days_39 rfl (lv_at hl 1 rfl) ?_
    refine lv_aload_n hM.1 hM.2.1 dX11_days_40 rfl (lv_at hl 0 rfl) ?_
    refine gf_X11_text hM hw (okX11.o ho) fl_X11_30 dX11_days_41 ?_
    refine x_nmr hf (fun t3 hf => ?_)
    obtain ⟨hok_t3, hf⟩ := x_cond hf
    refine gf_X9_seed hM hw (okX9.o (okX11.textOf ho hok_t3)) fl_X11_171 dX11_days_44 ?_
    refine x_callVV (rest := []) hM hw (ct_X1_goBy l (okX11.course ho) (okX11.textOf ho hok_t2) (okX11.now ho) a1 (h1.1 t3 7)) [.ref (ad t2), .ref (ad 78), .int a1, .int (h1.1 t3 7)] (okX1.o (okX11.course ho)) rfl rfl rfl (gi_V ml_X11_191 im_X1_goBy sl_X1_goBy in_X1 kc_X1_goBy) hd_X1_goBy rfl ⟨Nat.le_of_ble_eq_true rfl, Nat.le_of_ble_eq_true rfl⟩ rfl (Nat.le_of_ble_eq_true rfl) hl.1 hcs0 hf dX11_days_47 (fun h4 H locs hf hw => ?_)
    refine lv_aload_n hM.1 hM.2.1 dX11_days_50 rfl (lv_at hl 0 rfl) ?_
    refine gf_X11_now hM hw (okX11.o ho) fl_X11_37 dX11_days_51 ?_
    refine gf_X8_today hM hw (okX8.o (okX11.now ho)) fl_X11_195 dX11_days_54 ?_
    exact hR _ _ _ _ _ _ _ (Option.some.inj hf) rfl rfl hw dX11_days_57
  refine lv_iconst (v := (-1)) hM.1 hM.2.1 dX11_days_10 ic_m1 ?_
  exact hR _ _ _ _ _ _ _ (Option.some.inj hf) rfl rfl hw dX11_days_11
theorem hd_X11_days : yX11_days.cls = RX11 ∧ yX11_days.cls ≠ "java/lang/invoke/MethodHandle" ∧ yX11_days.cls ≠ "java/lang/invoke/VarHandle" ∧ (parseMethodDescriptor yX11_days.desc).map (fun d => d.parameters.length) = some 1 := ⟨rfl, by decide, by decide, by decide +kernel⟩
theorem dX11_undo_0 : decode cX11_undo 0 = .ok (.aload_n 0, 1) := by decide +kernel
theorem dX11_undo_1 : decode cX11_undo 1 = .ok (.getfield 47, 3) := by decide +kernel
theorem dX11_undo_4 : decode cX11_undo 4 = .ok (.aload_n 0, 1) := by decide +kernel
theorem dX11_undo_5 : decode cX11_undo 5 = .ok (.getfield 37, 3) := by decide +kernel
theorem dX11_undo_8 : decode cX11_undo 8 = .ok (.invokevirtual 198, 3) := by decide +kernel
theorem dX11_undo_11 : decode cX11_undo 11 = .ok (.ireturn, 1) := by decide +kernel
def c_X11_undo (h : PH) : Option (Int32 × PH) :=
  bind2 (c_X5_takeBack 84 78 h) fun r1 h2 =>
  gd (zOK r1) <| some (r1, h2)
set_option maxHeartbeats 4000000 in
set_option maxRecDepth 100000 in
theorem ct_X11_undo (l : Launch) {lay : List KK} (ho : okX11 lay) : CtI l yX11_undo cX11_undo 1 (some .boolean) 2 43 lay (fun h => c_X11_undo h) (fun ad => [.ref (ad 0)]) := by
  refine CtI.mk' RX11 (by decide) rfl (fun _ => Nat.le_of_ble_eq_true rfl) ?_
  intro p0 e s m args below meth c D G A H0 ad X h r0 H ls Q hM hw hl hf hR
  have hl : lv_has ls 1 [(0, .ref (ad 0))] := hl
  unfold c_X11_undo at hf
  refine lv_aload_n hM.1 hM.2.1 dX11_undo_0 rfl (lv_at hl 0 rfl) ?_
  refine gf_X11_past hM hw (okX11.o ho) fl_X11_47 dX11_undo_1 ?_
  refine lv_aload_n hM.1 hM.2.1 dX11_undo_4 rfl (lv_at hl 0 rfl) ?_
  refine gf_X11_now hM hw (okX11.o ho) fl_X11_37 dX11_undo_5 ?_
  refine x_callVI (rest := []) hM hw (ct_X5_takeBack l (okX11.past ho) (okX11.now ho)) [.ref (ad 78)] (okX5.o (okX11.past ho)) rfl rfl rfl (gi_V ml_X11_198 im_X5_takeBack sl_X5_takeBack in_X5 kc_X5_takeBack) hd_X5_takeBack rfl ⟨Nat.le_of_ble_eq_true rfl, Nat.le_of_ble_eq_true rfl⟩ rfl (Nat.le_of_ble_eq_true rfl) hl.1 hcs0 hf dX11_undo_8 (fun r1 h2 H locs hf hw => ?_)
  obtain ⟨hz, hf⟩ := x_cond hf
  exact hR _ _ _ _ _ _ _ (Option.some.inj hf) rfl (nar_z hz) hw dX11_undo_11
theorem hd_X11_undo : yX11_undo.cls = RX11 ∧ yX11_undo.cls ≠ "java/lang/invoke/MethodHandle" ∧ yX11_undo.cls ≠ "java/lang/invoke/VarHandle" ∧ (parseMethodDescriptor yX11_undo.desc).map (fun d => d.parameters.length) = some 0 := ⟨rfl, by decide, by decide, by decide +kernel⟩
theorem dX11_pass_0 : decode cX11_pass 0 = .ok (.aload_n 0, 1) := by decide +kernel
theorem dX11_pass_1 : decode cX11_pass 1 = .ok (.getfield 30, 3) := by decide +kernel
theorem dX11_pass_4 : decode cX11_pass 4 = .ok (.iload_n 1, 1) := by decide +kernel
theorem dX11_pass_5 : decode cX11_pass 5 = .ok (.invokevirtual 141, 3) := by decide +kernel
theorem dX11_pass_8 : decode cX11_pass 8 = .ok (.ifCond .eq 14, 3) := by decide +kernel
theorem dX11_pass_11 : decode cX11_pass 11 = .ok (.aload_n 0, 1) := by decide +kernel
theorem dX11_pass_12 : decode cX11_pass 12 = .ok (.getfield 30, 3) := by decide +kernel
theorem dX11_pass_15 : decode cX11_pass 15 = .ok (.iload_n 2, 1) := by decide +kernel
theorem dX11_pass_16 : decode cX11_pass 16 = .ok (.invokevirtual 154, 3) := by decide +kernel
theorem dX11_pass_19 : decode cX11_pass 19 = .ok (.ifCond .ne 5, 3) := by decide +kernel
theorem dX11_pass_22 : decode cX11_pass 22 = .ok (.iconst (-1), 1) := by decide +kernel
theorem dX11_pass_23 : decode cX11_pass 23 = .ok (.ireturn, 1) := by decide +kernel
theorem dX11_pass_24 : decode cX11_pass 24 = .ok (.aload_n 0, 1) := by decide +kernel
theorem dX11_pass_25 : decode cX11_pass 25 = .ok (.getfield 30, 3) := by decide +kernel
theorem dX11_pass_28 : decode cX11_pass 28 = .ok (.getfield 157, 3) := by decide +kernel
theorem dX11_pass_31 : decode cX11_pass 31 = .ok (.iload_n 2, 1) := by decide +kernel
theorem dX11_pass_32 : decode cX11_pass 32 = .ok (.aaload, 1) := by decide +kernel
theorem dX11_pass_33 : decode cX11_pass 33 = .ok (.astore_n 3, 1) := by decide +kernel
theorem dX11_pass_34 : decode cX11_pass 34 = .ok (.aload_n 0, 1) := by decide +kernel
theorem dX11_pass_35 : decode cX11_pass 35 = .ok (.getfield 62, 3) := by decide +kernel
theorem dX11_pass_38 : decode cX11_pass 38 = .ok (.aload_n 0, 1) := by decide +kernel
theorem dX11_pass_39 : decode cX11_pass 39 = .ok (.getfield 30, 3) := by decide +kernel
theorem dX11_pass_42 : decode cX11_pass 42 = .ok (.aload_n 0, 1) := by decide +kernel
theorem dX11_pass_43 : decode cX11_pass 43 = .ok (.getfield 37, 3) := by decide +kernel
theorem dX11_pass_46 : decode cX11_pass 46 = .ok (.iload_n 1, 1) := by decide +kernel
theorem dX11_pass_47 : decode cX11_pass 47 = .ok (.aload_n 3, 1) := by decide +kernel
theorem dX11_pass_48 : decode cX11_pass 48 = .ok (.iconst 0, 1) := by decide +kernel
theorem dX11_pass_49 : decode cX11_pass 49 = .ok (.iaload, 1) := by decide +kernel
theorem dX11_pass_50 : decode cX11_pass 50 = .ok (.aload_n 3, 1) := by decide +kernel
theorem dX11_pass_51 : decode cX11_pass 51 = .ok (.iconst 2, 1) := by decide +kernel
theorem dX11_pass_52 : decode cX11_pass 52 = .ok (.iaload, 1) := by decide +kernel
theorem dX11_pass_53 : decode cX11_pass 53 = .ok (.aload_n 0, 1) := by decide +kernel
theorem dX11_pass_54 : decode cX11_pass 54 = .ok (.getfield 30, 3) := by decide +kernel
theorem dX11_pass_57 : decode cX11_pass 57 = .ok (.getfield 171, 3) := by decide +kernel
theorem dX11_pass_60 : decode cX11_pass 60 = .ok (.invokevirtual 202, 3) := by decide +kernel
theorem dX11_pass_63 : decode cX11_pass 63 = .ok (.ireturn, 1) := by decide +kernel
def c_X11_pass (a1 : Int32) (a2 : Int32) (h : PH) : Option (Int32 × PH) :=
  nm (h.2.2 0 4) fun t1 =>
  gd (tOK t1) <|
  (c_X9_isExcuse t1 a1 h).bind fun r2 =>
  if r2 = 0 then
    some ((-1), h)
  else
    nm (h.2.2 0 4) fun t3 =>
    gd (tOK t3) <|
    (c_X9_isDuty t3 a2 h).bind fun r4 =>
    if r4 = 0 then
      some ((-1), h)
    else
      nm (h.2.2 0 4) fun t5 =>
      gd (tOK t5) <|
      gd (ixOK a2 9) <|
      nm (h.2.2 0 4) fun t7 =>
      gd (tOK t7) <|
      nm (h.2.2 0 4) fun t8 =>
      gd (tOK t8) <|
      bind2 (c_X1_passes 217 t7 78 a1 (h.1 (t5 + 21 + 1 + a2.toNatClampNeg) 0) (h.1 (t5 + 21 + 1 + a2.toNatClampNeg) 2) (h.1 t8 7) h) fun r9 h10 =>
      some (r9, h10)
set_option maxHeartbeats 4000000 in
set_option maxRecDepth 100000 in
theorem ct_X11_pass (l : Launch) {lay : List KK} (ho : okX11 lay) (a1 : Int32) (a2 : Int32) : CtI l yX11_pass cX11_pass 4 (some .int) 4 104 lay (fun h => c_X11_pass a1 a2 h) (fun ad => [.ref (ad 0), .int a1, .int a2]) := by
  refine CtI.mk' RX11 (by decide) rfl (fun _ => Nat.le_of_ble_eq_true rfl) ?_
  intro p0 e s m args below meth c D G A H0 ad X h r0 H ls Q hM hw hl hf hR
  have hl : lv_has ls 4 [(0, .ref (ad 0)), (1, .int a1), (2, .int a2)] := hl
  unfold c_X11_pass at hf
  refine lv_aload_n hM.1 hM.2.1 dX11_pass_0 rfl (lv_at hl 0 rfl) ?_
  refine gf_X11_text hM hw (okX11.o ho) fl_X11_30 dX11_pass_1 ?_
  refine x_nmr hf (fun t1 hf => ?_)
  obtain ⟨hok_t1, hf⟩ := x_cond hf
  refine lv_iload_n hM.1 hM.2.1 dX11_pass_4 rfl (lv_at hl 1 rfl) ?_
  refine x_callVIr (rest := []) hM hw (ct_X9_isExcuse l (okX11.textOf ho hok_t1) a1) [.int a1] (okX9.o (okX11.textOf ho hok_t1)) rfl rfl rfl (gi_V ml_X11_141 im_X9_isExcuse sl_X9_isExcuse in_X9 kc_X9_isExcuse) hd_X9_isExcuse rfl ⟨Nat.le_of_ble_eq_true rfl, Nat.le_of_ble_eq_true rfl⟩ rfl (Nat.le_of_ble_eq_true rfl) hl.1 hcs0 hf dX11_pass_5 (fun r2 H locs hf hw => ?_)
  refine x_if_eq (tgt := 22) hM hf dX11_pass_8 (by decide) (fun hf => ?_) (fun hf => ?_)
  · refine lv_iconst (v := (-1)) hM.1 hM.2.1 dX11_pass_22 ic_m1 ?_
    exact hR _ _ _ _ _ _ _ (Option.some.inj hf) rfl rfl hw dX11_pass_23
  refine lv_aload_n hM.1 hM.2.1 dX11_pass_11 rfl (lv_at hl 0 rfl) ?_
  refine gf_X11_text hM hw (okX11.o ho) fl_X11_30 dX11_pass_12 ?_
  refine x_nmr hf (fun t3 hf => ?_)
  obtain ⟨hok_t3, hf⟩ := x_cond hf
  refine lv_iload_n hM.1 hM.2.1 dX11_pass_15 rfl (lv_at hl 2 rfl) ?_
  refine x_callVIr (rest := []) hM hw (ct_X9_isDuty l (okX11.textOf ho hok_t3) a2) [.int a2] (okX9.o (okX11.textOf ho hok_t3)) rfl rfl rfl (gi_V ml_X11_154 im_X9_isDuty sl_X9_isDuty in_X9 kc_X9_isDuty) hd_X9_isDuty rfl ⟨Nat.le_of_ble_eq_true rfl, Nat.le_of_ble_eq_true rfl⟩ rfl (Nat.le_of_ble_eq_true rfl) hl.1 hcs0 hf dX11_pass_16 (fun r4 H locs hf hw => ?_)
  refine x_if_ne (tgt := 24) hM hf dX11_pass_19 (by decide) (fun hf => ?_) (fun hf => ?_)
  · refine lv_aload_n hM.1 hM.2.1 dX11_pass_24 rfl (lv_at hl 0 rfl) ?_
    refine gf_X11_text hM hw (okX11.o ho) fl_X11_30 dX11_pass_25 ?_
    refine x_nmr hf (fun t5 hf => ?_)
    obtain ⟨hok_t5, hf⟩ := x_cond hf
    refine gf_X9_dutyRows hM hw (okX9.o (okX11.textOf ho hok_t5)) fl_X11_157 dX11_pass_28 ?_
    refine lv_iload_n hM.1 hM.2.1 dX11_pass_31 rfl (lv_at hl 2 rfl) ?_
    refine x_aaldI hM hw (okX9.dutyRows (okX11.textOf ho hok_t5)) hf dX11_pass_32 (fun hi6 hf => ?_)
    refine lv_astore_n (lv' := [(3, .ref (ad (t5 + 21 + 1 + a2.toNatClampNeg))), (0, .ref (ad 0)), (1, .int a1), (2, .int a2)]) hM.1 hM.2.1 dX11_pass_33 rfl hl (by decide) rfl (fun ls hl => ?_)
    refine lv_aload_n hM.1 hM.2.1 dX11_pass_34 rfl (lv_at hl 1 rfl) ?_
    refine gf_X11_course hM hw (okX11.o ho) fl_X11_62 dX11_pass_35 ?_
    refine lv_aload_n hM.1 hM.2.1 dX11_pass_38 rfl (lv_at hl 1 rfl) ?_
    refine gf_X11_text hM hw (okX11.o ho) fl_X11_30 dX11_pass_39 ?_
    refine x_nmr hf (fun t7 hf => ?_)
    obtain ⟨hok_t7, hf⟩ := x_cond hf
    refine lv_aload_n hM.1 hM.2.1 dX11_pass_42 rfl (lv_at hl 1 rfl) ?_
    refine gf_X11_now hM hw (okX11.o ho) fl_X11_37 dX11_pass_43 ?_
    refine lv_iload_n hM.1 hM.2.1 dX11_pass_46 rfl (lv_at hl 2 rfl) ?_
    refine lv_aload_n hM.1 hM.2.1 dX11_pass_47 rfl (lv_at hl 0 rfl) ?_
    refine lv_iconst (v := 0) hM.1 hM.2.1 dX11_pass_48 ic_0 ?_
    refine x_ialdK hM hw (okX9.dutyRows_atI (okX11.textOf ho hok_t5) hi6) 0 (by decide) (by decide) dX11_pass_49 ?_
    refine lv_aload_n hM.1 hM.2.1 dX11_pass_50 rfl (lv_at hl 0 rfl) ?_
    refine lv_iconst (v := 2) hM.1 hM.2.1 dX11_pass_51 ic_2 ?_
    refine x_ialdK hM hw (okX9.dutyRows_atI (okX11.textOf ho hok_t5) hi6) 2 (by decide) (by decide) dX11_pass_52 ?_
    refine lv_aload_n hM.1 hM.2.1 dX11_pass_53 rfl (lv_at hl 1 rfl) ?_
    refine gf_X11_text hM hw (okX11.o ho) fl_X11_30 dX11_pass_54 ?_
    refine x_nmr hf (fun t8 hf => ?_)
    obtain ⟨hok_t8, hf⟩ := x_cond hf
    refine gf_X9_seed hM hw (okX9.o (okX11.textOf ho hok_t8)) fl_X11_171 dX11_pass_57 ?_
    refine x_callVI (rest := []) hM hw (ct_X1_passes l (okX11.course ho) (okX11.textOf ho hok_t7) (okX11.now ho) a1 (h.1 (t5 + 21 + 1 + a2.toNatClampNeg) 0) (h.1 (t5 + 21 + 1 + a2.toNatClampNeg) 2) (h.1 t8 7)) [.ref (ad t7), .ref (ad 78), .int a1, .int (h.1 (t5 + 21 + 1 + a2.toNatClampNeg) 0), .int (h.1 (t5 + 21 + 1 + a2.toNatClampNeg) 2), .int (h.1 t8 7)] (okX1.o (okX11.course ho)) rfl rfl rfl (gi_V ml_X11_202 im_X1_passes sl_X1_passes in_X1 kc_X1_passes) hd_X1_passes rfl ⟨Nat.le_of_ble_eq_true rfl, Nat.le_of_ble_eq_true rfl⟩ rfl (Nat.le_of_ble_eq_true rfl) hl.1 hcs0 hf dX11_pass_60 (fun r9 h10 H locs hf hw => ?_)
    exact hR _ _ _ _ _ _ _ (Option.some.inj hf) rfl rfl hw dX11_pass_63
  refine lv_iconst (v := (-1)) hM.1 hM.2.1 dX11_pass_22 ic_m1 ?_
  exact hR _ _ _ _ _ _ _ (Option.some.inj hf) rfl rfl hw dX11_pass_23
theorem hd_X11_pass : yX11_pass.cls = RX11 ∧ yX11_pass.cls ≠ "java/lang/invoke/MethodHandle" ∧ yX11_pass.cls ≠ "java/lang/invoke/VarHandle" ∧ (parseMethodDescriptor yX11_pass.desc).map (fun d => d.parameters.length) = some 2 := ⟨rfl, by decide, by decide, by decide +kernel⟩
theorem dX11_isAhead_0 : decode cX11_isAhead 0 = .ok (.iload_n 0, 1) := by decide +kernel
theorem dX11_isAhead_1 : decode cX11_isAhead 1 = .ok (.ifCond .lt 13, 3) := by decide +kernel
theorem dX11_isAhead_4 : decode cX11_isAhead 4 = .ok (.iload_n 0, 1) := by decide +kernel
theorem dX11_isAhead_5 : decode cX11_isAhead 5 = .ok (.bipush 30, 2) := by decide +kernel
theorem dX11_isAhead_7 : decode cX11_isAhead 7 = .ok (.if_icmp .gt 7, 3) := by decide +kernel
theorem dX11_isAhead_10 : decode cX11_isAhead 10 = .ok (.iconst 1, 1) := by decide +kernel
theorem dX11_isAhead_11 : decode cX11_isAhead 11 = .ok (.goto 4, 3) := by decide +kernel
theorem dX11_isAhead_14 : decode cX11_isAhead 14 = .ok (.iconst 0, 1) := by decide +kernel
theorem dX11_isAhead_15 : decode cX11_isAhead 15 = .ok (.ireturn, 1) := by decide +kernel
def c_X11_isAhead (a0 : Int32) : Option (Int32) :=
  if a0 < 0 then
    some 0
  else
    if 30 < a0 then
      some 0
    else
      some 1
set_option maxHeartbeats 4000000 in
set_option maxRecDepth 100000 in
theorem ct_X11_isAhead (l : Launch) {lay : List KK} (a0 : Int32) : CtI l yX11_isAhead cX11_isAhead 1 (some .boolean) 0 0 lay (rd (fun _ => c_X11_isAhead a0)) (fun _ => [.int a0]) := by
  refine CtI.mk' RX11 (by decide) rfl (fun _ => Nat.le_of_ble_eq_true rfl) ?_
  intro p0 e s m args below meth c D G A H0 ad X h r0 H ls Q hM hw hl hf hR
  have hl : lv_has ls 1 [(0, .int a0)] := hl
  obtain ⟨v0, hv0, hr0⟩ : ∃ v0, c_X11_isAhead a0 = some v0 ∧ r0 = (v0, h) := rd_some hf
  subst hr0
  have hf := hv0
  unfold c_X11_isAhead at hf
  refine lv_iload_n hM.1 hM.2.1 dX11_isAhead_0 rfl (lv_at hl 0 rfl) ?_
  refine x_if_lt (tgt := 14) hM hf dX11_isAhead_1 (by decide) (fun hf => ?_) (fun hf => ?_)
  · refine lv_iconst (v := 0) hM.1 hM.2.1 dX11_isAhead_14 ic_0 ?_
    exact hR _ _ _ _ _ _ _ (congrArg (fun z => (z, _)) (Option.some.inj hf)) rfl (nar_z (by decide)) hw dX11_isAhead_15
  refine lv_iload_n hM.1 hM.2.1 dX11_isAhead_4 rfl (lv_at hl 0 rfl) ?_
  refine lv_bipush (v := 30) hM.1 hM.2.1 dX11_isAhead_5 (by decide) ?_
  refine x_ic_gt (tgt := 14) hM hf dX11_isAhead_7 (by decide) (fun hf => ?_) (fun hf => ?_)
  · refine lv_iconst (v := 0) hM.1 hM.2.1 dX11_isAhead_14 ic_0 ?_
    exact hR _ _ _ _ _ _ _ (congrArg (fun z => (z, _)) (Option.some.inj hf)) rfl (nar_z (by decide)) hw dX11_isAhead_15
  refine lv_iconst (v := 1) hM.1 hM.2.1 dX11_isAhead_10 ic_1 ?_
  refine lv_goto (tgt := 15) hM.1 hM.2.1 dX11_isAhead_11 (by decide) ?_
  exact hR _ _ _ _ _ _ _ (congrArg (fun z => (z, _)) (Option.some.inj hf)) rfl (nar_z (by decide)) hw dX11_isAhead_15
theorem hd_X11_isAhead : yX11_isAhead.cls ≠ "java/lang/invoke/MethodHandle" ∧ yX11_isAhead.cls ≠ "java/lang/invoke/VarHandle" ∧ (parseMethodDescriptor yX11_isAhead.desc).map (fun d => d.parameters.length) = some 1 := ⟨by decide, by decide, by decide +kernel⟩
theorem dX11_planned_0 : decode cX11_planned 0 = .ok (.iload_n 1, 1) := by decide +kernel
theorem dX11_planned_1 : decode cX11_planned 1 = .ok (.invokestatic 206, 3) := by decide +kernel
theorem dX11_planned_4 : decode cX11_planned 4 = .ok (.ifCond .eq 12, 3) := by decide +kernel
theorem dX11_planned_7 : decode cX11_planned 7 = .ok (.iload_n 2, 1) := by decide +kernel
theorem dX11_planned_8 : decode cX11_planned 8 = .ok (.ifCond .lt 8, 3) := by decide +kernel
theorem dX11_planned_11 : decode cX11_planned 11 = .ok (.iload_n 2, 1) := by decide +kernel
theorem dX11_planned_12 : decode cX11_planned 12 = .ok (.iconst 3, 1) := by decide +kernel
theorem dX11_planned_13 : decode cX11_planned 13 = .ok (.if_icmp .le 5, 3) := by decide +kernel
theorem dX11_planned_16 : decode cX11_planned 16 = .ok (.iconst (-1), 1) := by decide +kernel
theorem dX11_planned_17 : decode cX11_planned 17 = .ok (.ireturn, 1) := by decide +kernel
theorem dX11_planned_18 : decode cX11_planned 18 = .ok (.aload_n 0, 1) := by decide +kernel
theorem dX11_planned_19 : decode cX11_planned 19 = .ok (.getfield 41, 3) := by decide +kernel
theorem dX11_planned_22 : decode cX11_planned 22 = .ok (.aload_n 0, 1) := by decide +kernel
theorem dX11_planned_23 : decode cX11_planned 23 = .ok (.getfield 37, 3) := by decide +kernel
theorem dX11_planned_26 : decode cX11_planned 26 = .ok (.invokevirtual 209, 3) := by decide +kernel
theorem dX11_planned_29 : decode cX11_planned 29 = .ok (.aload_n 0, 1) := by decide +kernel
theorem dX11_planned_30 : decode cX11_planned 30 = .ok (.getfield 62, 3) := by decide +kernel
theorem dX11_planned_33 : decode cX11_planned 33 = .ok (.aload_n 0, 1) := by decide +kernel
theorem dX11_planned_34 : decode cX11_planned 34 = .ok (.getfield 30, 3) := by decide +kernel
theorem dX11_planned_37 : decode cX11_planned 37 = .ok (.aload_n 0, 1) := by decide +kernel
theorem dX11_planned_38 : decode cX11_planned 38 = .ok (.getfield 41, 3) := by decide +kernel
theorem dX11_planned_41 : decode cX11_planned 41 = .ok (.iload_n 1, 1) := by decide +kernel
theorem dX11_planned_42 : decode cX11_planned 42 = .ok (.aload_n 0, 1) := by decide +kernel
theorem dX11_planned_43 : decode cX11_planned 43 = .ok (.getfield 30, 3) := by decide +kernel
theorem dX11_planned_46 : decode cX11_planned 46 = .ok (.getfield 171, 3) := by decide +kernel
theorem dX11_planned_49 : decode cX11_planned 49 = .ok (.invokevirtual 191, 3) := by decide +kernel
theorem dX11_planned_52 : decode cX11_planned 52 = .ok (.iload_n 2, 1) := by decide +kernel
theorem dX11_planned_53 : decode cX11_planned 53 = .ok (.tableswitch 90 0 2 #[27, 48, 69], 27) := by decide +kernel
theorem dX11_planned_80 : decode cX11_planned 80 = .ok (.aload_n 0, 1) := by decide +kernel
theorem dX11_planned_81 : decode cX11_planned 81 = .ok (.getfield 41, 3) := by decide +kernel
theorem dX11_planned_84 : decode cX11_planned 84 = .ok (.getfield 131, 3) := by decide +kernel
theorem dX11_planned_87 : decode cX11_planned 87 = .ok (.aload_n 0, 1) := by decide +kernel
theorem dX11_planned_88 : decode cX11_planned 88 = .ok (.getfield 37, 3) := by decide +kernel
theorem dX11_planned_91 : decode cX11_planned 91 = .ok (.getfield 131, 3) := by decide +kernel
theorem dX11_planned_94 : decode cX11_planned 94 = .ok (.iconst (-1), 1) := by decide +kernel
theorem dX11_planned_95 : decode cX11_planned 95 = .ok (.ixor, 1) := by decide +kernel
theorem dX11_planned_96 : decode cX11_planned 96 = .ok (.iand, 1) := by decide +kernel
theorem dX11_planned_97 : decode cX11_planned 97 = .ok (.invokestatic 212, 3) := by decide +kernel
theorem dX11_planned_100 : decode cX11_planned 100 = .ok (.ireturn, 1) := by decide +kernel
theorem dX11_planned_101 : decode cX11_planned 101 = .ok (.aload_n 0, 1) := by decide +kernel
theorem dX11_planned_102 : decode cX11_planned 102 = .ok (.getfield 41, 3) := by decide +kernel
theorem dX11_planned_105 : decode cX11_planned 105 = .ok (.getfield 134, 3) := by decide +kernel
theorem dX11_planned_108 : decode cX11_planned 108 = .ok (.aload_n 0, 1) := by decide +kernel
theorem dX11_planned_109 : decode cX11_planned 109 = .ok (.getfield 37, 3) := by decide +kernel
theorem dX11_planned_112 : decode cX11_planned 112 = .ok (.getfield 134, 3) := by decide +kernel
theorem dX11_planned_115 : decode cX11_planned 115 = .ok (.iconst (-1), 1) := by decide +kernel
theorem dX11_planned_116 : decode cX11_planned 116 = .ok (.ixor, 1) := by decide +kernel
theorem dX11_planned_117 : decode cX11_planned 117 = .ok (.iand, 1) := by decide +kernel
theorem dX11_planned_118 : decode cX11_planned 118 = .ok (.invokestatic 212, 3) := by decide +kernel
theorem dX11_planned_121 : decode cX11_planned 121 = .ok (.ireturn, 1) := by decide +kernel
theorem dX11_planned_122 : decode cX11_planned 122 = .ok (.aload_n 0, 1) := by decide +kernel
theorem dX11_planned_123 : decode cX11_planned 123 = .ok (.getfield 41, 3) := by decide +kernel
theorem dX11_planned_126 : decode cX11_planned 126 = .ok (.getfield 217, 3) := by decide +kernel
theorem dX11_planned_129 : decode cX11_planned 129 = .ok (.aload_n 0, 1) := by decide +kernel
theorem dX11_planned_130 : decode cX11_planned 130 = .ok (.getfield 37, 3) := by decide +kernel
theorem dX11_planned_133 : decode cX11_planned 133 = .ok (.getfield 217, 3) := by decide +kernel
theorem dX11_planned_136 : decode cX11_planned 136 = .ok (.iconst (-1), 1) := by decide +kernel
theorem dX11_planned_137 : decode cX11_planned 137 = .ok (.ixor, 1) := by decide +kernel
theorem dX11_planned_138 : decode cX11_planned 138 = .ok (.iand, 1) := by decide +kernel
theorem dX11_planned_139 : decode cX11_planned 139 = .ok (.invokestatic 212, 3) := by decide +kernel
theorem dX11_planned_142 : decode cX11_planned 142 = .ok (.ireturn, 1) := by decide +kernel
theorem dX11_planned_143 : decode cX11_planned 143 = .ok (.aload_n 0, 1) := by decide +kernel
theorem dX11_planned_144 : decode cX11_planned 144 = .ok (.getfield 41, 3) := by decide +kernel
theorem dX11_planned_147 : decode cX11_planned 147 = .ok (.getfield 220, 3) := by decide +kernel
theorem dX11_planned_150 : decode cX11_planned 150 = .ok (.aload_n 0, 1) := by decide +kernel
theorem dX11_planned_151 : decode cX11_planned 151 = .ok (.getfield 37, 3) := by decide +kernel
theorem dX11_planned_154 : decode cX11_planned 154 = .ok (.getfield 220, 3) := by decide +kernel
theorem dX11_planned_157 : decode cX11_planned 157 = .ok (.isub, 1) := by decide +kernel
theorem dX11_planned_158 : decode cX11_planned 158 = .ok (.ireturn, 1) := by decide +kernel
def c_X11_planned (a1 : Int32) (a2 : Int32) (h : PH) : Option (Int32 × PH) :=
  (c_X11_isAhead a1).bind fun r1 =>
  if r1 = 0 then
    some ((-1), h)
  else
    if a2 < 0 then
      some ((-1), h)
    else
      if a2 ≤ 3 then
        (c_X8_copy 81 78 h).bind fun h2 =>
        nm (h2.2.2 0 4) fun t3 =>
        gd (tOK t3) <|
        nm (h2.2.2 0 4) fun t4 =>
        gd (tOK t4) <|
        (c_X1_goBy 217 t3 81 a1 (h2.1 t4 7) h2).bind fun h5 =>
        if a2 = 0 then
          (c_J6_bitCount_0f7a4 ((h5.1 81 4) &&& ((h5.1 78 4) ^^^ (-1)))).bind fun r6 =>
          some (r6, h5)
        else
        if a2 = 1 then
          (c_J6_bitCount_0f7a4 ((h5.1 81 5) &&& ((h5.1 78 5) ^^^ (-1)))).bind fun r7 =>
          some (r7, h5)
        else
        if a2 = 2 then
          (c_J6_bitCount_0f7a4 ((h5.1 81 6) &&& ((h5.1 78 6) ^^^ (-1)))).bind fun r8 =>
          some (r8, h5)
        else
          some (((h5.1 81 2) - (h5.1 78 2)), h5)
      else
        some ((-1), h)
set_option maxHeartbeats 4000000 in
set_option maxRecDepth 100000 in
theorem ct_X11_planned (l : Launch) {lay : List KK} (ho : okX11 lay) (a1 : Int32) (a2 : Int32) : CtI l yX11_planned cX11_planned 3 (some .int) 6 158 lay (fun h => c_X11_planned a1 a2 h) (fun ad => [.ref (ad 0), .int a1, .int a2]) := by
  refine CtI.mk' RX11 (by decide) rfl (fun _ => Nat.le_of_ble_eq_true rfl) ?_
  intro p0 e s m args below meth c D G A H0 ad X h r0 H ls Q hM hw hl hf hR
  have hl : lv_has ls 3 [(0, .ref (ad 0)), (1, .int a1), (2, .int a2)] := hl
  unfold c_X11_planned at hf
  refine lv_iload_n hM.1 hM.2.1 dX11_planned_0 rfl (lv_at hl 1 rfl) ?_
  refine x_callSIr (rest := []) hM hw (ct_X11_isAhead l a1) [.int a1] rfl (gi_S ml_X11_206 sm_X11_isAhead in_X11 kc_X11_isAhead) hd_X11_isAhead rfl ⟨Nat.le_of_ble_eq_true rfl, Nat.le_of_ble_eq_true rfl⟩ rfl (Nat.le_of_ble_eq_true rfl) hl.1 hcs0 hf dX11_planned_1 (fun r1 H locs hf hw => ?_)
  refine x_if_eq (tgt := 16) hM hf dX11_planned_4 (by decide) (fun hf => ?_) (fun hf => ?_)
  · refine lv_iconst (v := (-1)) hM.1 hM.2.1 dX11_planned_16 ic_m1 ?_
    exact hR _ _ _ _ _ _ _ (Option.some.inj hf) rfl rfl hw dX11_planned_17
  refine lv_iload_n hM.1 hM.2.1 dX11_planned_7 rfl (lv_at hl 2 rfl) ?_
  refine x_if_lt (tgt := 16) hM hf dX11_planned_8 (by decide) (fun hf => ?_) (fun hf => ?_)
  · refine lv_iconst (v := (-1)) hM.1 hM.2.1 dX11_planned_16 ic_m1 ?_
    exact hR _ _ _ _ _ _ _ (Option.some.inj hf) rfl rfl hw dX11_planned_17
  refine lv_iload_n hM.1 hM.2.1 dX11_planned_11 rfl (lv_at hl 2 rfl) ?_
  refine lv_iconst (v := 3) hM.1 hM.2.1 dX11_planned_12 ic_3 ?_
  refine x_ic_le (tgt := 18) hM hf dX11_planned_13 (by decide) (fun hf => ?_) (fun hf => ?_)
  · refine lv_aload_n hM.1 hM.2.1 dX11_planned_18 rfl (lv_at hl 0 rfl) ?_
    refine gf_X11_ahead hM hw (okX11.o ho) fl_X11_41 dX11_planned_19 ?_
    refine lv_aload_n hM.1 hM.2.1 dX11_planned_22 rfl (lv_at hl 0 rfl) ?_
    refine gf_X11_now hM hw (okX11.o ho) fl_X11_37 dX11_planned_23 ?_
    refine x_callVV (rest := []) hM hw (ct_X8_copy l (okX11.ahead ho) (okX11.now ho)) [.ref (ad 78)] (okX8.o (okX11.ahead ho)) rfl rfl rfl (gi_V ml_X11_209 im_X8_copy sl_X8_copy in_X8 kc_X8_copy) hd_X8_copy rfl ⟨Nat.le_of_ble_eq_true rfl, Nat.le_of_ble_eq_true rfl⟩ rfl (Nat.le_of_ble_eq_true rfl) hl.1 hcs0 hf dX11_planned_26 (fun h2 H locs hf hw => ?_)
    refine lv_aload_n hM.1 hM.2.1 dX11_planned_29 rfl (lv_at hl 0 rfl) ?_
    refine gf_X11_course hM hw (okX11.o ho) fl_X11_62 dX11_planned_30 ?_
    refine lv_aload_n hM.1 hM.2.1 dX11_planned_33 rfl (lv_at hl 0 rfl) ?_
    refine gf_X11_text hM hw (okX11.o ho) fl_X11_30 dX11_planned_34 ?_
    refine x_nmr hf (fun t3 hf => ?_)
    obtain ⟨hok_t3, hf⟩ := x_cond hf
    refine lv_aload_n hM.1 hM.2.1 dX11_planned_37 rfl (lv_at hl 0 rfl) ?_
    refine gf_X11_ahead hM hw (okX11.o ho) fl_X11_41 dX11_planned_38 ?_
    refine lv_iload_n hM.1 hM.2.1 dX11_planned_41 rfl (lv_at hl 1 rfl) ?_
    refine lv_aload_n hM.1 hM.2.1 dX11_planned_42 rfl (lv_at hl 0 rfl) ?_
    refine gf_X11_text hM hw (okX11.o ho) fl_X11_30 dX11_planned_43 ?_
    refine x_nmr hf (fun t4 hf => ?_)
    obtain ⟨hok_t4, hf⟩ := x_cond hf
    refine gf_X9_seed hM hw (okX9.o (okX11.textOf ho hok_t4)) fl_X11_171 dX11_planned_46 ?_
    refine x_callVV (rest := []) hM hw (ct_X1_goBy l (okX11.course ho) (okX11.textOf ho hok_t3) (okX11.ahead ho) a1 (h2.1 t4 7)) [.ref (ad t3), .ref (ad 81), .int a1, .int (h2.1 t4 7)] (okX1.o (okX11.course ho)) rfl rfl rfl (gi_V ml_X11_191 im_X1_goBy sl_X1_goBy in_X1 kc_X1_goBy) hd_X1_goBy rfl ⟨Nat.le_of_ble_eq_true rfl, Nat.le_of_ble_eq_true rfl⟩ rfl (Nat.le_of_ble_eq_true rfl) hl.1 hcs0 hf dX11_planned_49 (fun h5 H locs hf hw => ?_)
    refine lv_iload_n hM.1 hM.2.1 dX11_planned_52 rfl (lv_at hl 2 rfl) ?_
    refine x_sw hf (fun hx hf => ?_) (fun n0 hf => ?_)
    · refine x_tabIn (tgt := 80) hM hx dX11_planned_53 (by decide) (by decide) rfl (by decide) ?_
      refine lv_aload_n hM.1 hM.2.1 dX11_planned_80 rfl (lv_at hl 0 rfl) ?_
      refine gf_X11_ahead hM hw (okX11.o ho) fl_X11_41 dX11_planned_81 ?_
      refine gf_X8_freed hM hw (okX8.o (okX11.ahead ho)) fl_X11_131 dX11_planned_84 ?_
      refine lv_aload_n hM.1 hM.2.1 dX11_planned_87 rfl (lv_at hl 0 rfl) ?_
      refine gf_X11_now hM hw (okX11.o ho) fl_X11_37 dX11_planned_88 ?_
      refine gf_X8_freed hM hw (okX8.o (okX11.now ho)) fl_X11_131 dX11_planned_91 ?_
      refine lv_iconst (v := (-1)) hM.1 hM.2.1 dX11_planned_94 ic_m1 ?_
      refine lv_ixor hM.1 hM.2.1 dX11_planned_95 ?_
      refine lv_iand hM.1 hM.2.1 dX11_planned_96 ?_
      refine x_callSIr (rest := []) hM hw (ct_J6_bitCount_0f7a4 l ((h5.1 81 4) &&& ((h5.1 78 4) ^^^ (-1)))) [.int ((h5.1 81 4) &&& ((h5.1 78 4) ^^^ (-1)))] rfl (gi_S ml_X11_212 sm_J6_bitCount_0f7a4 in_J6 kc_J6_bitCount_0f7a4) hd_J6_bitCount_0f7a4 rfl ⟨Nat.le_of_ble_eq_true rfl, Nat.le_of_ble_eq_true rfl⟩ rfl (Nat.le_of_ble_eq_true rfl) hl.1 hcs0 hf dX11_planned_97 (fun r6 H locs hf hw => ?_)
      exact hR _ _ _ _ _ _ _ (Option.some.inj hf) rfl rfl hw dX11_planned_100
    refine x_sw hf (fun hx hf => ?_) (fun n1 hf => ?_)
    · refine x_tabIn (tgt := 101) hM hx dX11_planned_53 (by decide) (by decide) rfl (by decide) ?_
      refine lv_aload_n hM.1 hM.2.1 dX11_planned_101 rfl (lv_at hl 0 rfl) ?_
      refine gf_X11_ahead hM hw (okX11.o ho) fl_X11_41 dX11_planned_102 ?_
      refine gf_X8_caught hM hw (okX8.o (okX11.ahead ho)) fl_X11_134 dX11_planned_105 ?_
      refine lv_aload_n hM.1 hM.2.1 dX11_planned_108 rfl (lv_at hl 0 rfl) ?_
      refine gf_X11_now hM hw (okX11.o ho) fl_X11_37 dX11_planned_109 ?_
      refine gf_X8_caught hM hw (okX8.o (okX11.now ho)) fl_X11_134 dX11_planned_112 ?_
      refine lv_iconst (v := (-1)) hM.1 hM.2.1 dX11_planned_115 ic_m1 ?_
      refine lv_ixor hM.1 hM.2.1 dX11_planned_116 ?_
      refine lv_iand hM.1 hM.2.1 dX11_planned_117 ?_
      refine x_callSIr (rest := []) hM hw (ct_J6_bitCount_0f7a4 l ((h5.1 81 5) &&& ((h5.1 78 5) ^^^ (-1)))) [.int ((h5.1 81 5) &&& ((h5.1 78 5) ^^^ (-1)))] rfl (gi_S ml_X11_212 sm_J6_bitCount_0f7a4 in_J6 kc_J6_bitCount_0f7a4) hd_J6_bitCount_0f7a4 rfl ⟨Nat.le_of_ble_eq_true rfl, Nat.le_of_ble_eq_true rfl⟩ rfl (Nat.le_of_ble_eq_true rfl) hl.1 hcs0 hf dX11_planned_118 (fun r7 H locs hf hw => ?_)
      exact hR _ _ _ _ _ _ _ (Option.some.inj hf) rfl rfl hw dX11_planned_121
    refine x_sw hf (fun hx hf => ?_) (fun n2 hf => ?_)
    · refine x_tabIn (tgt := 122) hM hx dX11_planned_53 (by decide) (by decide) rfl (by decide) ?_
      refine lv_aload_n hM.1 hM.2.1 dX11_planned_122 rfl (lv_at hl 0 rfl) ?_
      refine gf_X11_ahead hM hw (okX11.o ho) fl_X11_41 dX11_planned_123 ?_
      refine gf_X8_done hM hw (okX8.o (okX11.ahead ho)) fl_X11_217 dX11_planned_126 ?_
      refine lv_aload_n hM.1 hM.2.1 dX11_planned_129 rfl (lv_at hl 0 rfl) ?_
      refine gf_X11_now hM hw (okX11.o ho) fl_X11_37 dX11_planned_130 ?_
      refine gf_X8_done hM hw (okX8.o (okX11.now ho)) fl_X11_217 dX11_planned_133 ?_
      refine lv_iconst (v := (-1)) hM.1 hM.2.1 dX11_planned_136 ic_m1 ?_
      refine lv_ixor hM.1 hM.2.1 dX11_planned_137 ?_
      refine lv_iand hM.1 hM.2.1 dX11_planned_138 ?_
      refine x_callSIr (rest := []) hM hw (ct_J6_bitCount_0f7a4 l ((h5.1 81 6) &&& ((h5.1 78 6) ^^^ (-1)))) [.int ((h5.1 81 6) &&& ((h5.1 78 6) ^^^ (-1)))] rfl (gi_S ml_X11_212 sm_J6_bitCount_0f7a4 in_J6 kc_J6_bitCount_0f7a4) hd_J6_bitCount_0f7a4 rfl ⟨Nat.le_of_ble_eq_true rfl, Nat.le_of_ble_eq_true rfl⟩ rfl (Nat.le_of_ble_eq_true rfl) hl.1 hcs0 hf dX11_planned_139 (fun r8 H locs hf hw => ?_)
      exact hR _ _ _ _ _ _ _ (Option.some.inj hf) rfl rfl hw dX11_planned_142
    refine lv_tableOut (tgt := 143) hM.1 hM.2.1 dX11_planned_53 (by have := sw_ne n0 (k := 0) (by decide); have := sw_ne n1 (k := 1) (by decide); have := sw_ne n2 (k := 2) (by decide); omega) (by decide) ?_
    refine lv_aload_n hM.1 hM.2.1 dX11_planned_143 rfl (lv_at hl 0 rfl) ?_
    refine gf_X11_ahead hM hw (okX11.o ho) fl_X11_41 dX11_planned_144 ?_
    refine gf_X8_hours hM hw (okX8.o (okX11.ahead ho)) fl_X11_220 dX11_planned_147 ?_
    refine lv_aload_n hM.1 hM.2.1 dX11_planned_150 rfl (lv_at hl 0 rfl) ?_
    refine gf_X11_now hM hw (okX11.o ho) fl_X11_37 dX11_planned_151 ?_
    refine gf_X8_hours hM hw (okX8.o (okX11.now ho)) fl_X11_220 dX11_planned_154 ?_
    refine lv_isub hM.1 hM.2.1 dX11_planned_157 ?_
    exact hR _ _ _ _ _ _ _ (Option.some.inj hf) rfl rfl hw dX11_planned_158
  refine lv_iconst (v := (-1)) hM.1 hM.2.1 dX11_planned_16 ic_m1 ?_
  exact hR _ _ _ _ _ _ _ (Option.some.inj hf) rfl rfl hw dX11_planned_17
theorem hd_X11_planned : yX11_planned.cls = RX11 ∧ yX11_planned.cls ≠ "java/lang/invoke/MethodHandle" ∧ yX11_planned.cls ≠ "java/lang/invoke/VarHandle" ∧ (parseMethodDescriptor yX11_planned.desc).map (fun d => d.parameters.length) = some 2 := ⟨rfl, by decide, by decide, by decide +kernel⟩
theorem dX11_trust_0 : decode cX11_trust 0 = .ok (.aload_n 0, 1) := by decide +kernel
theorem dX11_trust_1 : decode cX11_trust 1 = .ok (.getfield 30, 3) := by decide +kernel
theorem dX11_trust_4 : decode cX11_trust 4 = .ok (.iload_n 1, 1) := by decide +kernel
theorem dX11_trust_5 : decode cX11_trust 5 = .ok (.invokevirtual 119, 3) := by decide +kernel
theorem dX11_trust_8 : decode cX11_trust 8 = .ok (.ifCond .eq 10, 3) := by decide +kernel
theorem dX11_trust_11 : decode cX11_trust 11 = .ok (.iload_n 2, 1) := by decide +kernel
theorem dX11_trust_12 : decode cX11_trust 12 = .ok (.invokestatic 206, 3) := by decide +kernel
theorem dX11_trust_15 : decode cX11_trust 15 = .ok (.ifCond .ne 5, 3) := by decide +kernel
theorem dX11_trust_18 : decode cX11_trust 18 = .ok (.iconst (-1), 1) := by decide +kernel
theorem dX11_trust_19 : decode cX11_trust 19 = .ok (.ireturn, 1) := by decide +kernel
theorem dX11_trust_20 : decode cX11_trust 20 = .ok (.aload_n 0, 1) := by decide +kernel
theorem dX11_trust_21 : decode cX11_trust 21 = .ok (.getfield 41, 3) := by decide +kernel
theorem dX11_trust_24 : decode cX11_trust 24 = .ok (.aload_n 0, 1) := by decide +kernel
theorem dX11_trust_25 : decode cX11_trust 25 = .ok (.getfield 37, 3) := by decide +kernel
theorem dX11_trust_28 : decode cX11_trust 28 = .ok (.invokevirtual 209, 3) := by decide +kernel
theorem dX11_trust_31 : decode cX11_trust 31 = .ok (.aload_n 0, 1) := by decide +kernel
theorem dX11_trust_32 : decode cX11_trust 32 = .ok (.getfield 62, 3) := by decide +kernel
theorem dX11_trust_35 : decode cX11_trust 35 = .ok (.aload_n 0, 1) := by decide +kernel
theorem dX11_trust_36 : decode cX11_trust 36 = .ok (.getfield 30, 3) := by decide +kernel
theorem dX11_trust_39 : decode cX11_trust 39 = .ok (.aload_n 0, 1) := by decide +kernel
theorem dX11_trust_40 : decode cX11_trust 40 = .ok (.getfield 41, 3) := by decide +kernel
theorem dX11_trust_43 : decode cX11_trust 43 = .ok (.iload_n 2, 1) := by decide +kernel
theorem dX11_trust_44 : decode cX11_trust 44 = .ok (.aload_n 0, 1) := by decide +kernel
theorem dX11_trust_45 : decode cX11_trust 45 = .ok (.getfield 30, 3) := by decide +kernel
theorem dX11_trust_48 : decode cX11_trust 48 = .ok (.getfield 171, 3) := by decide +kernel
theorem dX11_trust_51 : decode cX11_trust 51 = .ok (.invokevirtual 191, 3) := by decide +kernel
theorem dX11_trust_54 : decode cX11_trust 54 = .ok (.aload_n 0, 1) := by decide +kernel
theorem dX11_trust_55 : decode cX11_trust 55 = .ok (.getfield 41, 3) := by decide +kernel
theorem dX11_trust_58 : decode cX11_trust 58 = .ok (.getfield 123, 3) := by decide +kernel
theorem dX11_trust_61 : decode cX11_trust 61 = .ok (.iload_n 1, 1) := by decide +kernel
theorem dX11_trust_62 : decode cX11_trust 62 = .ok (.iaload, 1) := by decide +kernel
theorem dX11_trust_63 : decode cX11_trust 63 = .ok (.ireturn, 1) := by decide +kernel
def c_X11_trust (a1 : Int32) (a2 : Int32) (h : PH) : Option (Int32 × PH) :=
  nm (h.2.2 0 4) fun t1 =>
  gd (tOK t1) <|
  (c_X9_isMan t1 a1 h).bind fun r2 =>
  if r2 = 0 then
    some ((-1), h)
  else
    (c_X11_isAhead a2).bind fun r3 =>
    if r3 = 0 then
      some ((-1), h)
    else
      (c_X8_copy 81 78 h).bind fun h4 =>
      nm (h4.2.2 0 4) fun t5 =>
      gd (tOK t5) <|
      nm (h4.2.2 0 4) fun t6 =>
      gd (tOK t6) <|
      (c_X1_goBy 217 t5 81 a2 (h4.1 t6 7) h4).bind fun h7 =>
      gd (ixOK a1 5) <|
      some ((h7.1 (81 + 1) a1.toNatClampNeg), h7)
set_option maxHeartbeats 4000000 in
set_option maxRecDepth 100000 in
theorem ct_X11_trust (l : Launch) {lay : List KK} (ho : okX11 lay) (a1 : Int32) (a2 : Int32) : CtI l yX11_trust cX11_trust 3 (some .int) 6 158 lay (fun h => c_X11_trust a1 a2 h) (fun ad => [.ref (ad 0), .int a1, .int a2]) := by
  refine CtI.mk' RX11 (by decide) rfl (fun _ => Nat.le_of_ble_eq_true rfl) ?_
  intro p0 e s m args below meth c D G A H0 ad X h r0 H ls Q hM hw hl hf hR
  have hl : lv_has ls 3 [(0, .ref (ad 0)), (1, .int a1), (2, .int a2)] := hl
  unfold c_X11_trust at hf
  refine lv_aload_n hM.1 hM.2.1 dX11_trust_0 rfl (lv_at hl 0 rfl) ?_
  refine gf_X11_text hM hw (okX11.o ho) fl_X11_30 dX11_trust_1 ?_
  refine x_nmr hf (fun t1 hf => ?_)
  obtain ⟨hok_t1, hf⟩ := x_cond hf
  refine lv_iload_n hM.1 hM.2.1 dX11_trust_4 rfl (lv_at hl 1 rfl) ?_
  refine x_callVIr (rest := []) hM hw (ct_X9_isMan l (okX11.textOf ho hok_t1) a1) [.int a1] (okX9.o (okX11.textOf ho hok_t1)) rfl rfl rfl (gi_V ml_X11_119 im_X9_isMan sl_X9_isMan in_X9 kc_X9_isMan) hd_X9_isMan rfl ⟨Nat.le_of_ble_eq_true rfl, Nat.le_of_ble_eq_true rfl⟩ rfl (Nat.le_of_ble_eq_true rfl) hl.1 hcs0 hf dX11_trust_5 (fun r2 H locs hf hw => ?_)
  refine x_if_eq (tgt := 18) hM hf dX11_trust_8 (by decide) (fun hf => ?_) (fun hf => ?_)
  · refine lv_iconst (v := (-1)) hM.1 hM.2.1 dX11_trust_18 ic_m1 ?_
    exact hR _ _ _ _ _ _ _ (Option.some.inj hf) rfl rfl hw dX11_trust_19
  refine lv_iload_n hM.1 hM.2.1 dX11_trust_11 rfl (lv_at hl 2 rfl) ?_
  refine x_callSIr (rest := []) hM hw (ct_X11_isAhead l a2) [.int a2] rfl (gi_S ml_X11_206 sm_X11_isAhead in_X11 kc_X11_isAhead) hd_X11_isAhead rfl ⟨Nat.le_of_ble_eq_true rfl, Nat.le_of_ble_eq_true rfl⟩ rfl (Nat.le_of_ble_eq_true rfl) hl.1 hcs0 hf dX11_trust_12 (fun r3 H locs hf hw => ?_)
  refine x_if_ne (tgt := 20) hM hf dX11_trust_15 (by decide) (fun hf => ?_) (fun hf => ?_)
  · refine lv_aload_n hM.1 hM.2.1 dX11_trust_20 rfl (lv_at hl 0 rfl) ?_
    refine gf_X11_ahead hM hw (okX11.o ho) fl_X11_41 dX11_trust_21 ?_
    refine lv_aload_n hM.1 hM.2.1 dX11_trust_24 rfl (lv_at hl 0 rfl) ?_
    refine gf_X11_now hM hw (okX11.o ho) fl_X11_37 dX11_trust_25 ?_
    refine x_callVV (rest := []) hM hw (ct_X8_copy l (okX11.ahead ho) (okX11.now ho)) [.ref (ad 78)] (okX8.o (okX11.ahead ho)) rfl rfl rfl (gi_V ml_X11_209 im_X8_copy sl_X8_copy in_X8 kc_X8_copy) hd_X8_copy rfl ⟨Nat.le_of_ble_eq_true rfl, Nat.le_of_ble_eq_true rfl⟩ rfl (Nat.le_of_ble_eq_true rfl) hl.1 hcs0 hf dX11_trust_28 (fun h4 H locs hf hw => ?_)
    refine lv_aload_n hM.1 hM.2.1 dX11_trust_31 rfl (lv_at hl 0 rfl) ?_
    refine gf_X11_course hM hw (okX11.o ho) fl_X11_62 dX11_trust_32 ?_
    refine lv_aload_n hM.1 hM.2.1 dX11_trust_35 rfl (lv_at hl 0 rfl) ?_
    refine gf_X11_text hM hw (okX11.o ho) fl_X11_30 dX11_trust_36 ?_
    refine x_nmr hf (fun t5 hf => ?_)
    obtain ⟨hok_t5, hf⟩ := x_cond hf
    refine lv_aload_n hM.1 hM.2.1 dX11_trust_39 rfl (lv_at hl 0 rfl) ?_
    refine gf_X11_ahead hM hw (okX11.o ho) fl_X11_41 dX11_trust_40 ?_
    refine lv_iload_n hM.1 hM.2.1 dX11_trust_43 rfl (lv_at hl 2 rfl) ?_
    refine lv_aload_n hM.1 hM.2.1 dX11_trust_44 rfl (lv_at hl 0 rfl) ?_
    refine gf_X11_text hM hw (okX11.o ho) fl_X11_30 dX11_trust_45 ?_
    refine x_nmr hf (fun t6 hf => ?_)
    obtain ⟨hok_t6, hf⟩ := x_cond hf
    refine gf_X9_seed hM hw (okX9.o (okX11.textOf ho hok_t6)) fl_X11_171 dX11_trust_48 ?_
    refine x_callVV (rest := []) hM hw (ct_X1_goBy l (okX11.course ho) (okX11.textOf ho hok_t5) (okX11.ahead ho) a2 (h4.1 t6 7)) [.ref (ad t5), .ref (ad 81), .int a2, .int (h4.1 t6 7)] (okX1.o (okX11.course ho)) rfl rfl rfl (gi_V ml_X11_191 im_X1_goBy sl_X1_goBy in_X1 kc_X1_goBy) hd_X1_goBy rfl ⟨Nat.le_of_ble_eq_true rfl, Nat.le_of_ble_eq_true rfl⟩ rfl (Nat.le_of_ble_eq_true rfl) hl.1 hcs0 hf dX11_trust_51 (fun h7 H locs hf hw => ?_)
    refine lv_aload_n hM.1 hM.2.1 dX11_trust_54 rfl (lv_at hl 0 rfl) ?_
    refine gf_X11_ahead hM hw (okX11.o ho) fl_X11_41 dX11_trust_55 ?_
    refine gf_X8_trustOf hM hw (okX8.o (okX11.ahead ho)) fl_X11_123 dX11_trust_58 ?_
    refine lv_iload_n hM.1 hM.2.1 dX11_trust_61 rfl (lv_at hl 1 rfl) ?_
    refine x_iald hM hw (okX8.trustOf (okX11.ahead ho)) hf dX11_trust_62 (fun hf => ?_)
    exact hR _ _ _ _ _ _ _ (Option.some.inj hf) rfl rfl hw dX11_trust_63
  refine lv_iconst (v := (-1)) hM.1 hM.2.1 dX11_trust_18 ic_m1 ?_
  exact hR _ _ _ _ _ _ _ (Option.some.inj hf) rfl rfl hw dX11_trust_19
theorem hd_X11_trust : yX11_trust.cls = RX11 ∧ yX11_trust.cls ≠ "java/lang/invoke/MethodHandle" ∧ yX11_trust.cls ≠ "java/lang/invoke/VarHandle" ∧ (parseMethodDescriptor yX11_trust.desc).map (fun d => d.parameters.length) = some 2 := ⟨rfl, by decide, by decide, by decide +kernel⟩
theorem dX11_year_0 : decode cX11_year 0 = .ok (.iload_n 1, 1) := by decide +kernel
theorem dX11_year_1 : decode cX11_year 1 = .ok (.invokestatic 206, 3) := by decide +kernel
theorem dX11_year_4 : decode cX11_year 4 = .ok (.ifCond .eq 14, 3) := by decide +kernel
theorem dX11_year_7 : decode cX11_year 7 = .ok (.iload_n 2, 1) := by decide +kernel
theorem dX11_year_8 : decode cX11_year 8 = .ok (.iconst 1, 1) := by decide +kernel
theorem dX11_year_9 : decode cX11_year 9 = .ok (.if_icmp .lt 9, 3) := by decide +kernel
theorem dX11_year_12 : decode cX11_year 12 = .ok (.iload_n 2, 1) := by decide +kernel
theorem dX11_year_13 : decode cX11_year 13 = .ok (.bipush 20, 2) := by decide +kernel
theorem dX11_year_15 : decode cX11_year 15 = .ok (.if_icmp .le 5, 3) := by decide +kernel
theorem dX11_year_18 : decode cX11_year 18 = .ok (.iconst (-1), 1) := by decide +kernel
theorem dX11_year_19 : decode cX11_year 19 = .ok (.ireturn, 1) := by decide +kernel
theorem dX11_year_20 : decode cX11_year 20 = .ok (.iconst 0, 1) := by decide +kernel
theorem dX11_year_21 : decode cX11_year 21 = .ok (.istore_n 3, 1) := by decide +kernel
theorem dX11_year_22 : decode cX11_year 22 = .ok (.iconst 0, 1) := by decide +kernel
theorem dX11_year_23 : decode cX11_year 23 = .ok (.istore 4, 2) := by decide +kernel
theorem dX11_year_25 : decode cX11_year 25 = .ok (.iload 4, 2) := by decide +kernel
theorem dX11_year_27 : decode cX11_year 27 = .ok (.iload_n 2, 1) := by decide +kernel
theorem dX11_year_28 : decode cX11_year 28 = .ok (.if_icmp .ge 69, 3) := by decide +kernel
theorem dX11_year_31 : decode cX11_year 31 = .ok (.aload_n 0, 1) := by decide +kernel
theorem dX11_year_32 : decode cX11_year 32 = .ok (.getfield 41, 3) := by decide +kernel
theorem dX11_year_35 : decode cX11_year 35 = .ok (.aload_n 0, 1) := by decide +kernel
theorem dX11_year_36 : decode cX11_year 36 = .ok (.getfield 37, 3) := by decide +kernel
theorem dX11_year_39 : decode cX11_year 39 = .ok (.invokevirtual 209, 3) := by decide +kernel
theorem dX11_year_42 : decode cX11_year 42 = .ok (.aload_n 0, 1) := by decide +kernel
theorem dX11_year_43 : decode cX11_year 43 = .ok (.getfield 62, 3) := by decide +kernel
theorem dX11_year_46 : decode cX11_year 46 = .ok (.aload_n 0, 1) := by decide +kernel
theorem dX11_year_47 : decode cX11_year 47 = .ok (.getfield 30, 3) := by decide +kernel
theorem dX11_year_50 : decode cX11_year 50 = .ok (.aload_n 0, 1) := by decide +kernel
theorem dX11_year_51 : decode cX11_year 51 = .ok (.getfield 41, 3) := by decide +kernel
theorem dX11_year_54 : decode cX11_year 54 = .ok (.iload_n 1, 1) := by decide +kernel
theorem dX11_year_55 : decode cX11_year 55 = .ok (.aload_n 0, 1) := by decide +kernel
theorem dX11_year_56 : decode cX11_year 56 = .ok (.getfield 30, 3) := by decide +kernel
theorem dX11_year_59 : decode cX11_year 59 = .ok (.getfield 171, 3) := by decide +kernel
theorem dX11_year_62 : decode cX11_year 62 = .ok (.iload 4, 2) := by decide +kernel
theorem dX11_year_64 : decode cX11_year 64 = .ok (.iadd, 1) := by decide +kernel
theorem dX11_year_65 : decode cX11_year 65 = .ok (.invokevirtual 191, 3) := by decide +kernel
theorem dX11_year_68 : decode cX11_year 68 = .ok (.iload_n 3, 1) := by decide +kernel
theorem dX11_year_69 : decode cX11_year 69 = .ok (.aload_n 0, 1) := by decide +kernel
theorem dX11_year_70 : decode cX11_year 70 = .ok (.getfield 41, 3) := by decide +kernel
theorem dX11_year_73 : decode cX11_year 73 = .ok (.getfield 131, 3) := by decide +kernel
theorem dX11_year_76 : decode cX11_year 76 = .ok (.aload_n 0, 1) := by decide +kernel
theorem dX11_year_77 : decode cX11_year 77 = .ok (.getfield 37, 3) := by decide +kernel
theorem dX11_year_80 : decode cX11_year 80 = .ok (.getfield 131, 3) := by decide +kernel
theorem dX11_year_83 : decode cX11_year 83 = .ok (.iconst (-1), 1) := by decide +kernel
theorem dX11_year_84 : decode cX11_year 84 = .ok (.ixor, 1) := by decide +kernel
theorem dX11_year_85 : decode cX11_year 85 = .ok (.iand, 1) := by decide +kernel
theorem dX11_year_86 : decode cX11_year 86 = .ok (.invokestatic 212, 3) := by decide +kernel
theorem dX11_year_89 : decode cX11_year 89 = .ok (.iadd, 1) := by decide +kernel
theorem dX11_year_90 : decode cX11_year 90 = .ok (.istore_n 3, 1) := by decide +kernel
theorem dX11_year_91 : decode cX11_year 91 = .ok (.iinc 4 1, 3) := by decide +kernel
theorem dX11_year_94 : decode cX11_year 94 = .ok (.goto (-69), 3) := by decide +kernel
theorem dX11_year_97 : decode cX11_year 97 = .ok (.iload_n 3, 1) := by decide +kernel
theorem dX11_year_98 : decode cX11_year 98 = .ok (.ireturn, 1) := by decide +kernel
def c_X11_year_L25b {ρ : Type}  (z1 : Int32) (z2 : Int32) (K1 : Int32 → PH → Option ρ) (REC : Int32 → Int32 → PH → Option ρ) (x3 : Int32) (x4 : Int32) (h : PH) : Option ρ :=
  if z2 ≤ x4 then
    K1 x3 h
  else
    (c_X8_copy 81 78 h).bind fun h4 =>
    nm (h4.2.2 0 4) fun t5 =>
    gd (tOK t5) <|
    nm (h4.2.2 0 4) fun t6 =>
    gd (tOK t6) <|
    (c_X1_goBy 217 t5 81 z1 ((h4.1 t6 7) + x4) h4).bind fun h7 =>
    (c_J6_bitCount_0f7a4 ((h7.1 81 4) &&& ((h7.1 78 4) ^^^ (-1)))).bind fun r8 =>
    nm (x3 + r8) fun v9 =>
    nm (x4 + 1) fun v10 =>
    REC v9 v10 h7
set_option maxHeartbeats 4000000 in
set_option maxRecDepth 100000 in
theorem w_X11_year_L25b {p0 : Program} {l : Launch} {e : Env} {s : State} {m : MethodId} {args : Array Value} {below : List Frame} {meth : Method} {c : Code} {Q : State → Prop} {D : va_G} {G : GG} {A : Nat → Prop} {H0 : Heap} {ad : Nat → Nat} {lay : List KK} {X : va_W} {ρ : Type} {r0 : ρ} {z1 : Int32} {z2 : Int32} {x3 : Int32} {x4 : Int32} {h : PH} {H : Heap} {locs : List Loc} {ls : Array Slot} {K1 : Int32 → PH → Option ρ} {REC : Int32 → Int32 → PH → Option ρ} (hM : CallFix p0 m c cX11_year 5 s args lw_g RX11) (ho : okX11 lay) (hk1 : ∀ (x3 : Int32) (h : PH), ∀ (H : Heap) (locs : List Loc) (ls : Array Slot), K1 x3 h = some r0 → Wd D G A H0 ad lay X h s H locs → lv_has ls 5 [(3, .int x3)] → W p0 l e (rmN 6 158) s m args below meth c H locs 0 0 Q (F0 m 97 ls [])) (hrec : ∀ (x3 : Int32) (x4 : Int32) (h : PH), ∀ (H : Heap) (locs : List Loc) (ls : Array Slot), REC x3 x4 h = some r0 → Wd D G A H0 ad lay X h s H locs → lv_has ls 5 [(0, .ref (ad 0)), (1, .int z1), (2, .int z2), (3, .int x3), (4, .int x4)] → W p0 l e (rmN 6 158) s m args below meth c H locs 0 0 Q (F0 m 25 ls [])) (hw : Wd D G A H0 ad lay X h s H locs) (hl : lv_has ls 5 [(0, .ref (ad 0)), (1, .int z1), (2, .int z2), (3, .int x3), (4, .int x4)]) (hf : c_X11_year_L25b z1 z2 K1 REC x3 x4 h = some r0) : W p0 l e (rmN 6 158) s m args below meth c H locs 0 0 Q (F0 m 25 ls []) := by
  unfold c_X11_year_L25b at hf
  refine lv_iload hM.1 hM.2.1 dX11_year_25 (lv_at hl 4 rfl) ?_
  refine lv_iload_n hM.1 hM.2.1 dX11_year_27 rfl (lv_at hl 2 rfl) ?_
  refine x_ic_ge (tgt := 97) hM hf dX11_year_28 (by decide) (fun hf => ?_) (fun hf => ?_)
  · exact hk1 _ _ _ _ _ hf hw (lv_sub hl [3] rfl)
  refine lv_aload_n hM.1 hM.2.1 dX11_year_31 rfl (lv_at hl 0 rfl) ?_
  refine gf_X11_ahead hM hw (okX11.o ho) fl_X11_41 dX11_year_32 ?_
  refine lv_aload_n hM.1 hM.2.1 dX11_year_35 rfl (lv_at hl 0 rfl) ?_
  refine gf_X11_now hM hw (okX11.o ho) fl_X11_37 dX11_year_36 ?_
  refine x_callVV (rest := []) hM hw (ct_X8_copy l (okX11.ahead ho) (okX11.now ho)) [.ref (ad 78)] (okX8.o (okX11.ahead ho)) rfl rfl rfl (gi_V ml_X11_209 im_X8_copy sl_X8_copy in_X8 kc_X8_copy) hd_X8_copy rfl ⟨Nat.le_of_ble_eq_true rfl, Nat.le_of_ble_eq_true rfl⟩ rfl (Nat.le_of_ble_eq_true rfl) hl.1 hcs0 hf dX11_year_39 (fun h4 H locs hf hw => ?_)
  refine lv_aload_n hM.1 hM.2.1 dX11_year_42 rfl (lv_at hl 0 rfl) ?_
  refine gf_X11_course hM hw (okX11.o ho) fl_X11_62 dX11_year_43 ?_
  refine lv_aload_n hM.1 hM.2.1 dX11_year_46 rfl (lv_at hl 0 rfl) ?_
  refine gf_X11_text hM hw (okX11.o ho) fl_X11_30 dX11_year_47 ?_
  refine x_nmr hf (fun t5 hf => ?_)
  obtain ⟨hok_t5, hf⟩ := x_cond hf
  refine lv_aload_n hM.1 hM.2.1 dX11_year_50 rfl (lv_at hl 0 rfl) ?_
  refine gf_X11_ahead hM hw (okX11.o ho) fl_X11_41 dX11_year_51 ?_
  refine lv_iload_n hM.1 hM.2.1 dX11_year_54 rfl (lv_at hl 1 rfl) ?_
  refine lv_aload_n hM.1 hM.2.1 dX11_year_55 rfl (lv_at hl 0 rfl) ?_
  refine gf_X11_text hM hw (okX11.o ho) fl_X11_30 dX11_year_56 ?_
  refine x_nmr hf (fun t6 hf => ?_)
  obtain ⟨hok_t6, hf⟩ := x_cond hf
  refine gf_X9_seed hM hw (okX9.o (okX11.textOf ho hok_t6)) fl_X11_171 dX11_year_59 ?_
  refine lv_iload hM.1 hM.2.1 dX11_year_62 (lv_at hl 4 rfl) ?_
  refine lv_iadd hM.1 hM.2.1 dX11_year_64 ?_
  refine x_callVV (rest := []) hM hw (ct_X1_goBy l (okX11.course ho) (okX11.textOf ho hok_t5) (okX11.ahead ho) z1 ((h4.1 t6 7) + x4)) [.ref (ad t5), .ref (ad 81), .int z1, .int ((h4.1 t6 7) + x4)] (okX1.o (okX11.course ho)) rfl rfl rfl (gi_V ml_X11_191 im_X1_goBy sl_X1_goBy in_X1 kc_X1_goBy) hd_X1_goBy rfl ⟨Nat.le_of_ble_eq_true rfl, Nat.le_of_ble_eq_true rfl⟩ rfl (Nat.le_of_ble_eq_true rfl) hl.1 hcs0 hf dX11_year_65 (fun h7 H locs hf hw => ?_)
  refine lv_iload_n hM.1 hM.2.1 dX11_year_68 rfl (lv_at hl 3 rfl) ?_
  refine lv_aload_n hM.1 hM.2.1 dX11_year_69 rfl (lv_at hl 0 rfl) ?_
  refine gf_X11_ahead hM hw (okX11.o ho) fl_X11_41 dX11_year_70 ?_
  refine gf_X8_freed hM hw (okX8.o (okX11.ahead ho)) fl_X11_131 dX11_year_73 ?_
  refine lv_aload_n hM.1 hM.2.1 dX11_year_76 rfl (lv_at hl 0 rfl) ?_
  refine gf_X11_now hM hw (okX11.o ho) fl_X11_37 dX11_year_77 ?_
  refine gf_X8_freed hM hw (okX8.o (okX11.now ho)) fl_X11_131 dX11_year_80 ?_
  refine lv_iconst (v := (-1)) hM.1 hM.2.1 dX11_year_83 ic_m1 ?_
  refine lv_ixor hM.1 hM.2.1 dX11_year_84 ?_
  refine lv_iand hM.1 hM.2.1 dX11_year_85 ?_
  refine x_callSIr (rest := [.int x3]) hM hw (ct_J6_bitCount_0f7a4 l ((h7.1 81 4) &&& ((h7.1 78 4) ^^^ (-1)))) [.int ((h7.1 81 4) &&& ((h7.1 78 4) ^^^ (-1)))] rfl (gi_S ml_X11_212 sm_J6_bitCount_0f7a4 in_J6 kc_J6_bitCount_0f7a4) hd_J6_bitCount_0f7a4 rfl ⟨Nat.le_of_ble_eq_true rfl, Nat.le_of_ble_eq_true rfl⟩ rfl (Nat.le_of_ble_eq_true rfl) hl.1 hcs0 hf dX11_year_86 (fun r8 H locs hf hw => ?_)
  refine lv_iadd hM.1 hM.2.1 dX11_year_89 ?_
  refine x_istore_n hM hf dX11_year_90 rfl hl (by decide) (fun v9 => [(3, .int v9), (0, .ref (ad 0)), (1, .int z1), (2, .int z2), (4, .int x4)]) (fun _ => rfl) (fun v9 ls hf hl => ?_)
  refine x_iinc (k := 4) (d := 1) hM hf dX11_year_91 hl rfl (by decide) (by decide) (fun v10 => [(4, .int v10), (3, .int v9), (0, .ref (ad 0)), (1, .int z1), (2, .int z2)]) (fun _ => rfl) (fun v10 ls hf hl => ?_)
  refine lv_goto (tgt := 25) hM.1 hM.2.1 dX11_year_94 (by decide) ?_
  exact hrec _ _ _ _ _ _ hf hw (lv_sub hl [2, 3, 4, 1, 0] rfl)
set_option maxHeartbeats 4000000 in
set_option maxRecDepth 100000 in
theorem w_X11_year_L25 {p0 : Program} {l : Launch} {e : Env} {s : State} {m : MethodId} {args : Array Value} {below : List Frame} {meth : Method} {c : Code} {Q : State → Prop} {D : va_G} {G : GG} {A : Nat → Prop} {H0 : Heap} {ad : Nat → Nat} {lay : List KK} {X : va_W} {ρ : Type} {r0 : ρ} {z1 : Int32} {z2 : Int32} {K1 : Int32 → PH → Option ρ} (hM : CallFix p0 m c cX11_year 5 s args lw_g RX11) (ho : okX11 lay) (hk1 : ∀ (x3 : Int32) (h : PH), ∀ (H : Heap) (locs : List Loc) (ls : Array Slot), K1 x3 h = some r0 → Wd D G A H0 ad lay X h s H locs → lv_has ls 5 [(3, .int x3)] → W p0 l e (rmN 6 158) s m args below meth c H locs 0 0 Q (F0 m 97 ls [])) (n : Nat) (x3 : Int32) (x4 : Int32) (h : PH) (hf : lq3 (c_X11_year_L25b z1 z2 K1) n x3 x4 h = some r0) : ∀ (H : Heap) (locs : List Loc) (ls : Array Slot), Wd D G A H0 ad lay X h s H locs → lv_has ls 5 [(0, .ref (ad 0)), (1, .int z1), (2, .int z2), (3, .int x3), (4, .int x4)] → W p0 l e (rmN 6 158) s m args below meth c H locs 0 0 Q (F0 m 25 ls []) := by
  exact lq3_i (fun (x3 : Int32) (x4 : Int32) (h : PH) => ∀ (H : Heap) (locs : List Loc) (ls : Array Slot), Wd D G A H0 ad lay X h s H locs → lv_has ls 5 [(0, .ref (ad 0)), (1, .int z1), (2, .int z2), (3, .int x3), (4, .int x4)] → W p0 l e (rmN 6 158) s m args below meth c H locs 0 0 Q (F0 m 25 ls [])) (fun REC x3 x4 h ih hf H locs ls hw hl => w_X11_year_L25b hM ho hk1 (fun x3 x4 h H locs ls hf hw hl => ih x3 x4 h hf H locs ls hw hl) hw hl hf) n x3 x4 h hf
def c_X11_year (a1 : Int32) (a2 : Int32) (h : PH) : Option (Int32 × PH) :=
  (c_X11_isAhead a1).bind fun r1 =>
  if r1 = 0 then
    some ((-1), h)
  else
    if a2 < 1 then
      some ((-1), h)
    else
      if a2 ≤ 20 then
        nm (0 : Int32) fun v2 =>
        nm (0 : Int32) fun v3 =>
        lq3 (c_X11_year_L25b a1 a2
          (fun w11 h12 =>
            some (w11, h12))) fu v2 v3 h
      else
        some ((-1), h)
set_option maxHeartbeats 4000000 in
set_option maxRecDepth 100000 in
theorem ct_X11_year (l : Launch) {lay : List KK} (ho : okX11 lay) (a1 : Int32) (a2 : Int32) : CtI l yX11_year cX11_year 5 (some .int) 6 158 lay (fun h => c_X11_year a1 a2 h) (fun ad => [.ref (ad 0), .int a1, .int a2]) := by
  refine CtI.mk' RX11 (by decide) rfl (fun _ => Nat.le_of_ble_eq_true rfl) ?_
  intro p0 e s m args below meth c D G A H0 ad X h r0 H ls Q hM hw hl hf hR
  have hl : lv_has ls 5 [(0, .ref (ad 0)), (1, .int a1), (2, .int a2)] := hl
  unfold c_X11_year at hf
  refine lv_iload_n hM.1 hM.2.1 dX11_year_0 rfl (lv_at hl 1 rfl) ?_
  refine x_callSIr (rest := []) hM hw (ct_X11_isAhead l a1) [.int a1] rfl (gi_S ml_X11_206 sm_X11_isAhead in_X11 kc_X11_isAhead) hd_X11_isAhead rfl ⟨Nat.le_of_ble_eq_true rfl, Nat.le_of_ble_eq_true rfl⟩ rfl (Nat.le_of_ble_eq_true rfl) hl.1 hcs0 hf dX11_year_1 (fun r1 H locs hf hw => ?_)
  refine x_if_eq (tgt := 18) hM hf dX11_year_4 (by decide) (fun hf => ?_) (fun hf => ?_)
  · refine lv_iconst (v := (-1)) hM.1 hM.2.1 dX11_year_18 ic_m1 ?_
    exact hR _ _ _ _ _ _ _ (Option.some.inj hf) rfl rfl hw dX11_year_19
  refine lv_iload_n hM.1 hM.2.1 dX11_year_7 rfl (lv_at hl 2 rfl) ?_
  refine lv_iconst (v := 1) hM.1 hM.2.1 dX11_year_8 ic_1 ?_
  refine x_ic_lt (tgt := 18) hM hf dX11_year_9 (by decide) (fun hf => ?_) (fun hf => ?_)
  · refine lv_iconst (v := (-1)) hM.1 hM.2.1 dX11_year_18 ic_m1 ?_
    exact hR _ _ _ _ _ _ _ (Option.some.inj hf) rfl rfl hw dX11_year_19
  refine lv_iload_n hM.1 hM.2.1 dX11_year_12 rfl (lv_at hl 2 rfl) ?_
  refine lv_bipush (v := 20) hM.1 hM.2.1 dX11_year_13 (by decide) ?_
  refine x_ic_le (tgt := 20) hM hf dX11_year_15 (by decide) (fun hf => ?_) (fun hf => ?_)
  · refine lv_iconst (v := 0) hM.1 hM.2.1 dX11_year_20 ic_0 ?_
    refine x_istore_n hM hf dX11_year_21 rfl hl (by decide) (fun v2 => [(3, .int v2), (0, .ref (ad 0)), (1, .int a1), (2, .int a2)]) (fun _ => rfl) (fun v2 ls hf hl => ?_)
    refine lv_iconst (v := 0) hM.1 hM.2.1 dX11_year_22 ic_0 ?_
    refine x_istore hM hf dX11_year_23 hl (by decide) (fun v3 => [(4, .int v3), (3, .int v2), (0, .ref (ad 0)), (1, .int a1), (2, .int a2)]) (fun _ => rfl) (fun v3 ls hf hl => ?_)
    refine w_X11_year_L25 hM ho (fun w11 h12 H locs ls hf hw hl => ?_) fu _ _ _ hf _ _ _ hw (lv_sub hl [2, 3, 4, 1, 0] rfl)
    refine lv_iload_n hM.1 hM.2.1 dX11_year_97 rfl (lv_at hl 0 rfl) ?_
    exact hR _ _ _ _ _ _ _ (Option.some.inj hf) rfl rfl hw dX11_year_98
  refine lv_iconst (v := (-1)) hM.1 hM.2.1 dX11_year_18 ic_m1 ?_
  exact hR _ _ _ _ _ _ _ (Option.some.inj hf) rfl rfl hw dX11_year_19
theorem hd_X11_year : yX11_year.cls = RX11 ∧ yX11_year.cls ≠ "java/lang/invoke/MethodHandle" ∧ yX11_year.cls ≠ "java/lang/invoke/VarHandle" ∧ (parseMethodDescriptor yX11_year.desc).map (fun d => d.parameters.length) = some 2 := ⟨rfl, by decide, by decide, by decide +kernel⟩
theorem dX11_isPercent_0 : decode cX11_isPercent 0 = .ok (.iload_n 0, 1) := by decide +kernel
theorem dX11_isPercent_1 : decode cX11_isPercent 1 = .ok (.ifCond .lt 13, 3) := by decide +kernel
theorem dX11_isPercent_4 : decode cX11_isPercent 4 = .ok (.iload_n 0, 1) := by decide +kernel
theorem dX11_isPercent_5 : decode cX11_isPercent 5 = .ok (.bipush 100, 2) := by decide +kernel
theorem dX11_isPercent_7 : decode cX11_isPercent 7 = .ok (.if_icmp .gt 7, 3) := by decide +kernel
theorem dX11_isPercent_10 : decode cX11_isPercent 10 = .ok (.iconst 1, 1) := by decide +kernel
theorem dX11_isPercent_11 : decode cX11_isPercent 11 = .ok (.goto 4, 3) := by decide +kernel
theorem dX11_isPercent_14 : decode cX11_isPercent 14 = .ok (.iconst 0, 1) := by decide +kernel
theorem dX11_isPercent_15 : decode cX11_isPercent 15 = .ok (.ireturn, 1) := by decide +kernel
def c_X11_isPercent (a0 : Int32) : Option (Int32) :=
  if a0 < 0 then
    some 0
  else
    if 100 < a0 then
      some 0
    else
      some 1
set_option maxHeartbeats 4000000 in
set_option maxRecDepth 100000 in
theorem ct_X11_isPercent (l : Launch) {lay : List KK} (a0 : Int32) : CtI l yX11_isPercent cX11_isPercent 1 (some .boolean) 0 0 lay (rd (fun _ => c_X11_isPercent a0)) (fun _ => [.int a0]) := by
  refine CtI.mk' RX11 (by decide) rfl (fun _ => Nat.le_of_ble_eq_true rfl) ?_
  intro p0 e s m args below meth c D G A H0 ad X h r0 H ls Q hM hw hl hf hR
  have hl : lv_has ls 1 [(0, .int a0)] := hl
  obtain ⟨v0, hv0, hr0⟩ : ∃ v0, c_X11_isPercent a0 = some v0 ∧ r0 = (v0, h) := rd_some hf
  subst hr0
  have hf := hv0
  unfold c_X11_isPercent at hf
  refine lv_iload_n hM.1 hM.2.1 dX11_isPercent_0 rfl (lv_at hl 0 rfl) ?_
  refine x_if_lt (tgt := 14) hM hf dX11_isPercent_1 (by decide) (fun hf => ?_) (fun hf => ?_)
  · refine lv_iconst (v := 0) hM.1 hM.2.1 dX11_isPercent_14 ic_0 ?_
    exact hR _ _ _ _ _ _ _ (congrArg (fun z => (z, _)) (Option.some.inj hf)) rfl (nar_z (by decide)) hw dX11_isPercent_15
  refine lv_iload_n hM.1 hM.2.1 dX11_isPercent_4 rfl (lv_at hl 0 rfl) ?_
  refine lv_bipush (v := 100) hM.1 hM.2.1 dX11_isPercent_5 (by decide) ?_
  refine x_ic_gt (tgt := 14) hM hf dX11_isPercent_7 (by decide) (fun hf => ?_) (fun hf => ?_)
  · refine lv_iconst (v := 0) hM.1 hM.2.1 dX11_isPercent_14 ic_0 ?_
    exact hR _ _ _ _ _ _ _ (congrArg (fun z => (z, _)) (Option.some.inj hf)) rfl (nar_z (by decide)) hw dX11_isPercent_15
  refine lv_iconst (v := 1) hM.1 hM.2.1 dX11_isPercent_10 ic_1 ?_
  refine lv_goto (tgt := 15) hM.1 hM.2.1 dX11_isPercent_11 (by decide) ?_
  exact hR _ _ _ _ _ _ _ (congrArg (fun z => (z, _)) (Option.some.inj hf)) rfl (nar_z (by decide)) hw dX11_isPercent_15
theorem hd_X11_isPercent : yX11_isPercent.cls ≠ "java/lang/invoke/MethodHandle" ∧ yX11_isPercent.cls ≠ "java/lang/invoke/VarHandle" ∧ (parseMethodDescriptor yX11_isPercent.desc).map (fun d => d.parameters.length) = some 1 := ⟨by decide, by decide, by decide +kernel⟩
theorem dX11_isShopping_0 : decode cX11_isShopping 0 = .ok (.iload_n 1, 1) := by decide +kernel
theorem dX11_isShopping_1 : decode cX11_isShopping 1 = .ok (.ifCond .le 35, 3) := by decide +kernel
theorem dX11_isShopping_4 : decode cX11_isShopping 4 = .ok (.iload_n 1, 1) := by decide +kernel
theorem dX11_isShopping_5 : decode cX11_isShopping 5 = .ok (.iconst 1, 1) := by decide +kernel
theorem dX11_isShopping_6 : decode cX11_isShopping 6 = .ok (.aload_n 0, 1) := by decide +kernel
theorem dX11_isShopping_7 : decode cX11_isShopping 7 = .ok (.getfield 30, 3) := by decide +kernel
theorem dX11_isShopping_10 : decode cX11_isShopping 10 = .ok (.getfield 237, 3) := by decide +kernel
theorem dX11_isShopping_13 : decode cX11_isShopping 13 = .ok (.ishl, 1) := by decide +kernel
theorem dX11_isShopping_14 : decode cX11_isShopping 14 = .ok (.if_icmp .ge 22, 3) := by decide +kernel
theorem dX11_isShopping_17 : decode cX11_isShopping 17 = .ok (.iload_n 1, 1) := by decide +kernel
theorem dX11_isShopping_18 : decode cX11_isShopping 18 = .ok (.invokestatic 212, 3) := by decide +kernel
theorem dX11_isShopping_21 : decode cX11_isShopping 21 = .ok (.iconst 3, 1) := by decide +kernel
theorem dX11_isShopping_22 : decode cX11_isShopping 22 = .ok (.if_icmp .gt 14, 3) := by decide +kernel
theorem dX11_isShopping_25 : decode cX11_isShopping 25 = .ok (.iload_n 2, 1) := by decide +kernel
theorem dX11_isShopping_26 : decode cX11_isShopping 26 = .ok (.invokestatic 240, 3) := by decide +kernel
theorem dX11_isShopping_29 : decode cX11_isShopping 29 = .ok (.ifCond .eq 7, 3) := by decide +kernel
theorem dX11_isShopping_32 : decode cX11_isShopping 32 = .ok (.iconst 1, 1) := by decide +kernel
theorem dX11_isShopping_33 : decode cX11_isShopping 33 = .ok (.goto 4, 3) := by decide +kernel
theorem dX11_isShopping_36 : decode cX11_isShopping 36 = .ok (.iconst 0, 1) := by decide +kernel
theorem dX11_isShopping_37 : decode cX11_isShopping 37 = .ok (.ireturn, 1) := by decide +kernel
def c_X11_isShopping (a1 : Int32) (a2 : Int32) (h : PH) : Option (Int32) :=
  if a1 ≤ 0 then
    some 0
  else
    nm (h.2.2 0 4) fun t1 =>
    gd (tOK t1) <|
    if ((1 : Int32) <<< ((h.1 t1 2) &&& 31)) ≤ a1 then
      some 0
    else
      (c_J6_bitCount_0f7a4 a1).bind fun r2 =>
      if 3 < r2 then
        some 0
      else
        (c_X11_isPercent a2).bind fun r3 =>
        if r3 = 0 then
          some 0
        else
          some 1
set_option maxHeartbeats 4000000 in
set_option maxRecDepth 100000 in
theorem ct_X11_isShopping (l : Launch) {lay : List KK} (ho : okX11 lay) (a1 : Int32) (a2 : Int32) : CtI l yX11_isShopping cX11_isShopping 3 (some .boolean) 1 20 lay (rd (fun h => c_X11_isShopping a1 a2 h)) (fun ad => [.ref (ad 0), .int a1, .int a2]) := by
  refine CtI.mk' RX11 (by decide) rfl (fun _ => Nat.le_of_ble_eq_true rfl) ?_
  intro p0 e s m args below meth c D G A H0 ad X h r0 H ls Q hM hw hl hf hR
  have hl : lv_has ls 3 [(0, .ref (ad 0)), (1, .int a1), (2, .int a2)] := hl
  obtain ⟨v0, hv0, hr0⟩ : ∃ v0, c_X11_isShopping a1 a2 h = some v0 ∧ r0 = (v0, h) := rd_some hf
  subst hr0
  have hf := hv0
  unfold c_X11_isShopping at hf
  refine lv_iload_n hM.1 hM.2.1 dX11_isShopping_0 rfl (lv_at hl 1 rfl) ?_
  refine x_if_le (tgt := 36) hM hf dX11_isShopping_1 (by decide) (fun hf => ?_) (fun hf => ?_)
  · refine lv_iconst (v := 0) hM.1 hM.2.1 dX11_isShopping_36 ic_0 ?_
    exact hR _ _ _ _ _ _ _ (congrArg (fun z => (z, _)) (Option.some.inj hf)) rfl (nar_z (by decide)) hw dX11_isShopping_37
  refine lv_iload_n hM.1 hM.2.1 dX11_isShopping_4 rfl (lv_at hl 1 rfl) ?_
  refine lv_iconst (v := 1) hM.1 hM.2.1 dX11_isShopping_5 ic_1 ?_
  refine lv_aload_n hM.1 hM.2.1 dX11_isShopping_6 rfl (lv_at hl 0 rfl) ?_
  refine gf_X11_text hM hw (okX11.o ho) fl_X11_30 dX11_isShopping_7 ?_
  refine x_nmr hf (fun t1 hf => ?_)
  obtain ⟨hok_t1, hf⟩ := x_cond hf
  refine gf_X9_duties hM hw (okX9.o (okX11.textOf ho hok_t1)) fl_X11_237 dX11_isShopping_10 ?_
  refine lv_ishl hM.1 hM.2.1 dX11_isShopping_13 ?_
  refine x_ic_ge (tgt := 36) hM hf dX11_isShopping_14 (by decide) (fun hf => ?_) (fun hf => ?_)
  · refine lv_iconst (v := 0) hM.1 hM.2.1 dX11_isShopping_36 ic_0 ?_
    exact hR _ _ _ _ _ _ _ (congrArg (fun z => (z, _)) (Option.some.inj hf)) rfl (nar_z (by decide)) hw dX11_isShopping_37
  refine lv_iload_n hM.1 hM.2.1 dX11_isShopping_17 rfl (lv_at hl 1 rfl) ?_
  refine x_callSIr (rest := []) hM hw (ct_J6_bitCount_0f7a4 l a1) [.int a1] rfl (gi_S ml_X11_212 sm_J6_bitCount_0f7a4 in_J6 kc_J6_bitCount_0f7a4) hd_J6_bitCount_0f7a4 rfl ⟨Nat.le_of_ble_eq_true rfl, Nat.le_of_ble_eq_true rfl⟩ rfl (Nat.le_of_ble_eq_true rfl) hl.1 hcs0 hf dX11_isShopping_18 (fun r2 H locs hf hw => ?_)
  refine lv_iconst (v := 3) hM.1 hM.2.1 dX11_isShopping_21 ic_3 ?_
  refine x_ic_gt (tgt := 36) hM hf dX11_isShopping_22 (by decide) (fun hf => ?_) (fun hf => ?_)
  · refine lv_iconst (v := 0) hM.1 hM.2.1 dX11_isShopping_36 ic_0 ?_
    exact hR _ _ _ _ _ _ _ (congrArg (fun z => (z, _)) (Option.some.inj hf)) rfl (nar_z (by decide)) hw dX11_isShopping_37
  refine lv_iload_n hM.1 hM.2.1 dX11_isShopping_25 rfl (lv_at hl 2 rfl) ?_
  refine x_callSIr (rest := []) hM hw (ct_X11_isPercent l a2) [.int a2] rfl (gi_S ml_X11_240 sm_X11_isPercent in_X11 kc_X11_isPercent) hd_X11_isPercent rfl ⟨Nat.le_of_ble_eq_true rfl, Nat.le_of_ble_eq_true rfl⟩ rfl (Nat.le_of_ble_eq_true rfl) hl.1 hcs0 hf dX11_isShopping_26 (fun r3 H locs hf hw => ?_)
  refine x_if_eq (tgt := 36) hM hf dX11_isShopping_29 (by decide) (fun hf => ?_) (fun hf => ?_)
  · refine lv_iconst (v := 0) hM.1 hM.2.1 dX11_isShopping_36 ic_0 ?_
    exact hR _ _ _ _ _ _ _ (congrArg (fun z => (z, _)) (Option.some.inj hf)) rfl (nar_z (by decide)) hw dX11_isShopping_37
  refine lv_iconst (v := 1) hM.1 hM.2.1 dX11_isShopping_32 ic_1 ?_
  refine lv_goto (tgt := 37) hM.1 hM.2.1 dX11_isShopping_33 (by decide) ?_
  exact hR _ _ _ _ _ _ _ (congrArg (fun z => (z, _)) (Option.some.inj hf)) rfl (nar_z (by decide)) hw dX11_isShopping_37
theorem hd_X11_isShopping : yX11_isShopping.cls = RX11 ∧ yX11_isShopping.cls ≠ "java/lang/invoke/MethodHandle" ∧ yX11_isShopping.cls ≠ "java/lang/invoke/VarHandle" ∧ (parseMethodDescriptor yX11_isShopping.desc).map (fun d => d.parameters.length) = some 2 := ⟨rfl, by decide, by decide, by decide +kernel⟩
theorem dX11_cheapest_0 : decode cX11_cheapest 0 = .ok (.aload_n 0, 1) := by decide +kernel
theorem dX11_cheapest_1 : decode cX11_cheapest 1 = .ok (.iload_n 1, 1) := by decide +kernel
theorem dX11_cheapest_2 : decode cX11_cheapest 2 = .ok (.iload_n 2, 1) := by decide +kernel
theorem dX11_cheapest_3 : decode cX11_cheapest 3 = .ok (.invokevirtual 223, 3) := by decide +kernel
theorem dX11_cheapest_6 : decode cX11_cheapest 6 = .ok (.ifCond .ne 5, 3) := by decide +kernel
theorem dX11_cheapest_9 : decode cX11_cheapest 9 = .ok (.iconst (-1), 1) := by decide +kernel
theorem dX11_cheapest_10 : decode cX11_cheapest 10 = .ok (.ireturn, 1) := by decide +kernel
theorem dX11_cheapest_11 : decode cX11_cheapest 11 = .ok (.aload_n 0, 1) := by decide +kernel
theorem dX11_cheapest_12 : decode cX11_cheapest 12 = .ok (.getfield 69, 3) := by decide +kernel
theorem dX11_cheapest_15 : decode cX11_cheapest 15 = .ok (.aload_n 0, 1) := by decide +kernel
theorem dX11_cheapest_16 : decode cX11_cheapest 16 = .ok (.getfield 62, 3) := by decide +kernel
theorem dX11_cheapest_19 : decode cX11_cheapest 19 = .ok (.aload_n 0, 1) := by decide +kernel
theorem dX11_cheapest_20 : decode cX11_cheapest 20 = .ok (.getfield 30, 3) := by decide +kernel
theorem dX11_cheapest_23 : decode cX11_cheapest 23 = .ok (.aload_n 0, 1) := by decide +kernel
theorem dX11_cheapest_24 : decode cX11_cheapest 24 = .ok (.getfield 37, 3) := by decide +kernel
theorem dX11_cheapest_27 : decode cX11_cheapest 27 = .ok (.iload_n 1, 1) := by decide +kernel
theorem dX11_cheapest_28 : decode cX11_cheapest 28 = .ok (.iload_n 2, 1) := by decide +kernel
theorem dX11_cheapest_29 : decode cX11_cheapest 29 = .ok (.invokevirtual 227, 3) := by decide +kernel
theorem dX11_cheapest_32 : decode cX11_cheapest 32 = .ok (.ifCond .eq 13, 3) := by decide +kernel
theorem dX11_cheapest_35 : decode cX11_cheapest 35 = .ok (.aload_n 0, 1) := by decide +kernel
theorem dX11_cheapest_36 : decode cX11_cheapest 36 = .ok (.getfield 69, 3) := by decide +kernel
theorem dX11_cheapest_39 : decode cX11_cheapest 39 = .ok (.getfield 231, 3) := by decide +kernel
theorem dX11_cheapest_42 : decode cX11_cheapest 42 = .ok (.goto 5, 3) := by decide +kernel
theorem dX11_cheapest_45 : decode cX11_cheapest 45 = .ok (.bipush (-2), 2) := by decide +kernel
theorem dX11_cheapest_47 : decode cX11_cheapest 47 = .ok (.ireturn, 1) := by decide +kernel
def c_X11_cheapest (a1 : Int32) (a2 : Int32) (h : PH) : Option (Int32 × PH) :=
  (c_X11_isShopping a1 a2 h).bind fun r1 =>
  if r1 = 0 then
    some ((-1), h)
  else
    nm (h.2.2 0 4) fun t2 =>
    gd (tOK t2) <|
    bind2 (c_X7_find 219 217 t2 78 a1 a2 h) fun r3 h4 =>
    if r3 = 0 then
      some ((-2), h4)
    else
      some ((h4.1 219 6), h4)
set_option maxHeartbeats 4000000 in
set_option maxRecDepth 100000 in
theorem ct_X11_cheapest (l : Launch) {lay : List KK} (ho : okX11 lay) (a1 : Int32) (a2 : Int32) : CtI l yX11_cheapest cX11_cheapest 3 (some .int) 6 161 lay (fun h => c_X11_cheapest a1 a2 h) (fun ad => [.ref (ad 0), .int a1, .int a2]) := by
  refine CtI.mk' RX11 (by decide) rfl (fun _ => Nat.le_of_ble_eq_true rfl) ?_
  intro p0 e s m args below meth c D G A H0 ad X h r0 H ls Q hM hw hl hf hR
  have hl : lv_has ls 3 [(0, .ref (ad 0)), (1, .int a1), (2, .int a2)] := hl
  unfold c_X11_cheapest at hf
  refine lv_aload_n hM.1 hM.2.1 dX11_cheapest_0 rfl (lv_at hl 0 rfl) ?_
  refine lv_iload_n hM.1 hM.2.1 dX11_cheapest_1 rfl (lv_at hl 1 rfl) ?_
  refine lv_iload_n hM.1 hM.2.1 dX11_cheapest_2 rfl (lv_at hl 2 rfl) ?_
  refine x_callVIr (rest := []) hM hw (ct_X11_isShopping l ho a1 a2) [.int a1, .int a2] (okX11.o ho) rfl rfl rfl (gi_V ml_X11_223 im_X11_isShopping sl_X11_isShopping in_X11 kc_X11_isShopping) hd_X11_isShopping rfl ⟨Nat.le_of_ble_eq_true rfl, Nat.le_of_ble_eq_true rfl⟩ rfl (Nat.le_of_ble_eq_true rfl) hl.1 hcs0 hf dX11_cheapest_3 (fun r1 H locs hf hw => ?_)
  refine x_if_ne (tgt := 11) hM hf dX11_cheapest_6 (by decide) (fun hf => ?_) (fun hf => ?_)
  · refine lv_aload_n hM.1 hM.2.1 dX11_cheapest_11 rfl (lv_at hl 0 rfl) ?_
    refine gf_X11_shopping hM hw (okX11.o ho) fl_X11_69 dX11_cheapest_12 ?_
    refine lv_aload_n hM.1 hM.2.1 dX11_cheapest_15 rfl (lv_at hl 0 rfl) ?_
    refine gf_X11_course hM hw (okX11.o ho) fl_X11_62 dX11_cheapest_16 ?_
    refine lv_aload_n hM.1 hM.2.1 dX11_cheapest_19 rfl (lv_at hl 0 rfl) ?_
    refine gf_X11_text hM hw (okX11.o ho) fl_X11_30 dX11_cheapest_20 ?_
    refine x_nmr hf (fun t2 hf => ?_)
    obtain ⟨hok_t2, hf⟩ := x_cond hf
    refine lv_aload_n hM.1 hM.2.1 dX11_cheapest_23 rfl (lv_at hl 0 rfl) ?_
    refine gf_X11_now hM hw (okX11.o ho) fl_X11_37 dX11_cheapest_24 ?_
    refine lv_iload_n hM.1 hM.2.1 dX11_cheapest_27 rfl (lv_at hl 1 rfl) ?_
    refine lv_iload_n hM.1 hM.2.1 dX11_cheapest_28 rfl (lv_at hl 2 rfl) ?_
    refine x_callVI (rest := []) hM hw (ct_X7_find l (okX11.shopping ho) (okX11.course ho) (okX11.textOf ho hok_t2) (okX11.now ho) a1 a2) [.ref (ad 217), .ref (ad t2), .ref (ad 78), .int a1, .int a2] (okX7.o (okX11.shopping ho)) rfl rfl rfl (gi_V ml_X11_227 im_X7_find sl_X7_find in_X7 kc_X7_find) hd_X7_find rfl ⟨Nat.le_of_ble_eq_true rfl, Nat.le_of_ble_eq_true rfl⟩ rfl (Nat.le_of_ble_eq_true rfl) hl.1 hcs0 hf dX11_cheapest_29 (fun r3 h4 H locs hf hw => ?_)
    refine x_if_eq (tgt := 45) hM hf dX11_cheapest_32 (by decide) (fun hf => ?_) (fun hf => ?_)
    · refine lv_bipush (v := (-2)) hM.1 hM.2.1 dX11_cheapest_45 (by decide) ?_
      exact hR _ _ _ _ _ _ _ (Option.some.inj hf) rfl rfl hw dX11_cheapest_47
    refine lv_aload_n hM.1 hM.2.1 dX11_cheapest_35 rfl (lv_at hl 0 rfl) ?_
    refine gf_X11_shopping hM hw (okX11.o ho) fl_X11_69 dX11_cheapest_36 ?_
    refine gf_X7_leastCoins hM hw (okX7.o (okX11.shopping ho)) fl_X11_231 dX11_cheapest_39 ?_
    refine lv_goto (tgt := 47) hM.1 hM.2.1 dX11_cheapest_42 (by decide) ?_
    exact hR _ _ _ _ _ _ _ (Option.some.inj hf) rfl rfl hw dX11_cheapest_47
  refine lv_iconst (v := (-1)) hM.1 hM.2.1 dX11_cheapest_9 ic_m1 ?_
  exact hR _ _ _ _ _ _ _ (Option.some.inj hf) rfl rfl hw dX11_cheapest_10
theorem hd_X11_cheapest : yX11_cheapest.cls = RX11 ∧ yX11_cheapest.cls ≠ "java/lang/invoke/MethodHandle" ∧ yX11_cheapest.cls ≠ "java/lang/invoke/VarHandle" ∧ (parseMethodDescriptor yX11_cheapest.desc).map (fun d => d.parameters.length) = some 2 := ⟨rfl, by decide, by decide, by decide +kernel⟩
theorem dX11_cheapestAt_0 : decode cX11_cheapestAt 0 = .ok (.aload_n 0, 1) := by decide +kernel
theorem dX11_cheapestAt_1 : decode cX11_cheapestAt 1 = .ok (.iload_n 1, 1) := by decide +kernel
theorem dX11_cheapestAt_2 : decode cX11_cheapestAt 2 = .ok (.iload_n 2, 1) := by decide +kernel
theorem dX11_cheapestAt_3 : decode cX11_cheapestAt 3 = .ok (.invokevirtual 223, 3) := by decide +kernel
theorem dX11_cheapestAt_6 : decode cX11_cheapestAt 6 = .ok (.ifCond .eq 15, 3) := by decide +kernel
theorem dX11_cheapestAt_9 : decode cX11_cheapestAt 9 = .ok (.iload_n 3, 1) := by decide +kernel
theorem dX11_cheapestAt_10 : decode cX11_cheapestAt 10 = .ok (.ifCond .lt 11, 3) := by decide +kernel
theorem dX11_cheapestAt_13 : decode cX11_cheapestAt 13 = .ok (.iload_n 3, 1) := by decide +kernel
theorem dX11_cheapestAt_14 : decode cX11_cheapestAt 14 = .ok (.iload_n 1, 1) := by decide +kernel
theorem dX11_cheapestAt_15 : decode cX11_cheapestAt 15 = .ok (.invokestatic 212, 3) := by decide +kernel
theorem dX11_cheapestAt_18 : decode cX11_cheapestAt 18 = .ok (.if_icmp .lt 5, 3) := by decide +kernel
theorem dX11_cheapestAt_21 : decode cX11_cheapestAt 21 = .ok (.iconst (-1), 1) := by decide +kernel
theorem dX11_cheapestAt_22 : decode cX11_cheapestAt 22 = .ok (.ireturn, 1) := by decide +kernel
theorem dX11_cheapestAt_23 : decode cX11_cheapestAt 23 = .ok (.aload_n 0, 1) := by decide +kernel
theorem dX11_cheapestAt_24 : decode cX11_cheapestAt 24 = .ok (.getfield 69, 3) := by decide +kernel
theorem dX11_cheapestAt_27 : decode cX11_cheapestAt 27 = .ok (.aload_n 0, 1) := by decide +kernel
theorem dX11_cheapestAt_28 : decode cX11_cheapestAt 28 = .ok (.getfield 62, 3) := by decide +kernel
theorem dX11_cheapestAt_31 : decode cX11_cheapestAt 31 = .ok (.aload_n 0, 1) := by decide +kernel
theorem dX11_cheapestAt_32 : decode cX11_cheapestAt 32 = .ok (.getfield 30, 3) := by decide +kernel
theorem dX11_cheapestAt_35 : decode cX11_cheapestAt 35 = .ok (.aload_n 0, 1) := by decide +kernel
theorem dX11_cheapestAt_36 : decode cX11_cheapestAt 36 = .ok (.getfield 37, 3) := by decide +kernel
theorem dX11_cheapestAt_39 : decode cX11_cheapestAt 39 = .ok (.iload_n 1, 1) := by decide +kernel
theorem dX11_cheapestAt_40 : decode cX11_cheapestAt 40 = .ok (.iload_n 2, 1) := by decide +kernel
theorem dX11_cheapestAt_41 : decode cX11_cheapestAt 41 = .ok (.invokevirtual 227, 3) := by decide +kernel
theorem dX11_cheapestAt_44 : decode cX11_cheapestAt 44 = .ok (.ifCond .eq 14, 3) := by decide +kernel
theorem dX11_cheapestAt_47 : decode cX11_cheapestAt 47 = .ok (.aload_n 0, 1) := by decide +kernel
theorem dX11_cheapestAt_48 : decode cX11_cheapestAt 48 = .ok (.getfield 69, 3) := by decide +kernel
theorem dX11_cheapestAt_51 : decode cX11_cheapestAt 51 = .ok (.iload_n 3, 1) := by decide +kernel
theorem dX11_cheapestAt_52 : decode cX11_cheapestAt 52 = .ok (.invokevirtual 234, 3) := by decide +kernel
theorem dX11_cheapestAt_55 : decode cX11_cheapestAt 55 = .ok (.goto 5, 3) := by decide +kernel
theorem dX11_cheapestAt_58 : decode cX11_cheapestAt 58 = .ok (.bipush (-2), 2) := by decide +kernel
theorem dX11_cheapestAt_60 : decode cX11_cheapestAt 60 = .ok (.ireturn, 1) := by decide +kernel
def c_X11_cheapestAt (a1 : Int32) (a2 : Int32) (a3 : Int32) (h : PH) : Option (Int32 × PH) :=
  (c_X11_isShopping a1 a2 h).bind fun r1 =>
  if r1 = 0 then
    some ((-1), h)
  else
    if a3 < 0 then
      some ((-1), h)
    else
      (c_J6_bitCount_0f7a4 a1).bind fun r2 =>
      if a3 < r2 then
        nm (h.2.2 0 4) fun t3 =>
        gd (tOK t3) <|
        bind2 (c_X7_find 219 217 t3 78 a1 a2 h) fun r4 h5 =>
        if r4 = 0 then
          some ((-2), h5)
        else
          (c_X7_bestAt 219 a3 h5).bind fun r6 =>
          some (r6, h5)
      else
        some ((-1), h)
set_option maxHeartbeats 4000000 in
set_option maxRecDepth 100000 in
theorem ct_X11_cheapestAt (l : Launch) {lay : List KK} (ho : okX11 lay) (a1 : Int32) (a2 : Int32) (a3 : Int32) : CtI l yX11_cheapestAt cX11_cheapestAt 4 (some .int) 6 161 lay (fun h => c_X11_cheapestAt a1 a2 a3 h) (fun ad => [.ref (ad 0), .int a1, .int a2, .int a3]) := by
  refine CtI.mk' RX11 (by decide) rfl (fun _ => Nat.le_of_ble_eq_true rfl) ?_
  intro p0 e s m args below meth c D G A H0 ad X h r0 H ls Q hM hw hl hf hR
  have hl : lv_has ls 4 [(0, .ref (ad 0)), (1, .int a1), (2, .int a2), (3, .int a3)] := hl
  unfold c_X11_cheapestAt at hf
  refine lv_aload_n hM.1 hM.2.1 dX11_cheapestAt_0 rfl (lv_at hl 0 rfl) ?_
  refine lv_iload_n hM.1 hM.2.1 dX11_cheapestAt_1 rfl (lv_at hl 1 rfl) ?_
  refine lv_iload_n hM.1 hM.2.1 dX11_cheapestAt_2 rfl (lv_at hl 2 rfl) ?_
  refine x_callVIr (rest := []) hM hw (ct_X11_isShopping l ho a1 a2) [.int a1, .int a2] (okX11.o ho) rfl rfl rfl (gi_V ml_X11_223 im_X11_isShopping sl_X11_isShopping in_X11 kc_X11_isShopping) hd_X11_isShopping rfl ⟨Nat.le_of_ble_eq_true rfl, Nat.le_of_ble_eq_true rfl⟩ rfl (Nat.le_of_ble_eq_true rfl) hl.1 hcs0 hf dX11_cheapestAt_3 (fun r1 H locs hf hw => ?_)
  refine x_if_eq (tgt := 21) hM hf dX11_cheapestAt_6 (by decide) (fun hf => ?_) (fun hf => ?_)
  · refine lv_iconst (v := (-1)) hM.1 hM.2.1 dX11_cheapestAt_21 ic_m1 ?_
    exact hR _ _ _ _ _ _ _ (Option.some.inj hf) rfl rfl hw dX11_cheapestAt_22
  refine lv_iload_n hM.1 hM.2.1 dX11_cheapestAt_9 rfl (lv_at hl 3 rfl) ?_
  refine x_if_lt (tgt := 21) hM hf dX11_cheapestAt_10 (by decide) (fun hf => ?_) (fun hf => ?_)
  · refine lv_iconst (v := (-1)) hM.1 hM.2.1 dX11_cheapestAt_21 ic_m1 ?_
    exact hR _ _ _ _ _ _ _ (Option.some.inj hf) rfl rfl hw dX11_cheapestAt_22
  refine lv_iload_n hM.1 hM.2.1 dX11_cheapestAt_13 rfl (lv_at hl 3 rfl) ?_
  refine lv_iload_n hM.1 hM.2.1 dX11_cheapestAt_14 rfl (lv_at hl 1 rfl) ?_
  refine x_callSIr (rest := [.int a3]) hM hw (ct_J6_bitCount_0f7a4 l a1) [.int a1] rfl (gi_S ml_X11_212 sm_J6_bitCount_0f7a4 in_J6 kc_J6_bitCount_0f7a4) hd_J6_bitCount_0f7a4 rfl ⟨Nat.le_of_ble_eq_true rfl, Nat.le_of_ble_eq_true rfl⟩ rfl (Nat.le_of_ble_eq_true rfl) hl.1 hcs0 hf dX11_cheapestAt_15 (fun r2 H locs hf hw => ?_)
  refine x_ic_lt (tgt := 23) hM hf dX11_cheapestAt_18 (by decide) (fun hf => ?_) (fun hf => ?_)
  · refine lv_aload_n hM.1 hM.2.1 dX11_cheapestAt_23 rfl (lv_at hl 0 rfl) ?_
    refine gf_X11_shopping hM hw (okX11.o ho) fl_X11_69 dX11_cheapestAt_24 ?_
    refine lv_aload_n hM.1 hM.2.1 dX11_cheapestAt_27 rfl (lv_at hl 0 rfl) ?_
    refine gf_X11_course hM hw (okX11.o ho) fl_X11_62 dX11_cheapestAt_28 ?_
    refine lv_aload_n hM.1 hM.2.1 dX11_cheapestAt_31 rfl (lv_at hl 0 rfl) ?_
    refine gf_X11_text hM hw (okX11.o ho) fl_X11_30 dX11_cheapestAt_32 ?_
    refine x_nmr hf (fun t3 hf => ?_)
    obtain ⟨hok_t3, hf⟩ := x_cond hf
    refine lv_aload_n hM.1 hM.2.1 dX11_cheapestAt_35 rfl (lv_at hl 0 rfl) ?_
    refine gf_X11_now hM hw (okX11.o ho) fl_X11_37 dX11_cheapestAt_36 ?_
    refine lv_iload_n hM.1 hM.2.1 dX11_cheapestAt_39 rfl (lv_at hl 1 rfl) ?_
    refine lv_iload_n hM.1 hM.2.1 dX11_cheapestAt_40 rfl (lv_at hl 2 rfl) ?_
    refine x_callVI (rest := []) hM hw (ct_X7_find l (okX11.shopping ho) (okX11.course ho) (okX11.textOf ho hok_t3) (okX11.now ho) a1 a2) [.ref (ad 217), .ref (ad t3), .ref (ad 78), .int a1, .int a2] (okX7.o (okX11.shopping ho)) rfl rfl rfl (gi_V ml_X11_227 im_X7_find sl_X7_find in_X7 kc_X7_find) hd_X7_find rfl ⟨Nat.le_of_ble_eq_true rfl, Nat.le_of_ble_eq_true rfl⟩ rfl (Nat.le_of_ble_eq_true rfl) hl.1 hcs0 hf dX11_cheapestAt_41 (fun r4 h5 H locs hf hw => ?_)
    refine x_if_eq (tgt := 58) hM hf dX11_cheapestAt_44 (by decide) (fun hf => ?_) (fun hf => ?_)
    · refine lv_bipush (v := (-2)) hM.1 hM.2.1 dX11_cheapestAt_58 (by decide) ?_
      exact hR _ _ _ _ _ _ _ (Option.some.inj hf) rfl rfl hw dX11_cheapestAt_60
    refine lv_aload_n hM.1 hM.2.1 dX11_cheapestAt_47 rfl (lv_at hl 0 rfl) ?_
    refine gf_X11_shopping hM hw (okX11.o ho) fl_X11_69 dX11_cheapestAt_48 ?_
    refine lv_iload_n hM.1 hM.2.1 dX11_cheapestAt_51 rfl (lv_at hl 3 rfl) ?_
    refine x_callVIr (rest := []) hM hw (ct_X7_bestAt l (okX11.shopping ho) a3) [.int a3] (okX7.o (okX11.shopping ho)) rfl rfl rfl (gi_V ml_X11_234 im_X7_bestAt sl_X7_bestAt in_X7 kc_X7_bestAt) hd_X7_bestAt rfl ⟨Nat.le_of_ble_eq_true rfl, Nat.le_of_ble_eq_true rfl⟩ rfl (Nat.le_of_ble_eq_true rfl) hl.1 hcs0 hf dX11_cheapestAt_52 (fun r6 H locs hf hw => ?_)
    refine lv_goto (tgt := 60) hM.1 hM.2.1 dX11_cheapestAt_55 (by decide) ?_
    exact hR _ _ _ _ _ _ _ (Option.some.inj hf) rfl rfl hw dX11_cheapestAt_60
  refine lv_iconst (v := (-1)) hM.1 hM.2.1 dX11_cheapestAt_21 ic_m1 ?_
  exact hR _ _ _ _ _ _ _ (Option.some.inj hf) rfl rfl hw dX11_cheapestAt_22
theorem hd_X11_cheapestAt : yX11_cheapestAt.cls = RX11 ∧ yX11_cheapestAt.cls ≠ "java/lang/invoke/MethodHandle" ∧ yX11_cheapestAt.cls ≠ "java/lang/invoke/VarHandle" ∧ (parseMethodDescriptor yX11_cheapestAt.desc).map (fun d => d.parameters.length) = some 3 := ⟨rfl, by decide, by decide, by decide +kernel⟩
theorem dX11_two_0 : decode cX11_two 0 = .ok (.iload_n 1, 1) := by decide +kernel
theorem dX11_two_1 : decode cX11_two 1 = .ok (.iconst (-1), 1) := by decide +kernel
theorem dX11_two_2 : decode cX11_two 2 = .ok (.if_icmp .ge 7, 3) := by decide +kernel
theorem dX11_two_5 : decode cX11_two 5 = .ok (.iconst (-1), 1) := by decide +kernel
theorem dX11_two_6 : decode cX11_two 6 = .ok (.goto 15, 3) := by decide +kernel
theorem dX11_two_9 : decode cX11_two 9 = .ok (.aload_n 0, 1) := by decide +kernel
theorem dX11_two_10 : decode cX11_two 10 = .ok (.getfield 37, 3) := by decide +kernel
theorem dX11_two_13 : decode cX11_two 13 = .ok (.aload_n 0, 1) := by decide +kernel
theorem dX11_two_14 : decode cX11_two 14 = .ok (.getfield 30, 3) := by decide +kernel
theorem dX11_two_17 : decode cX11_two 17 = .ok (.iload_n 1, 1) := by decide +kernel
theorem dX11_two_18 : decode cX11_two 18 = .ok (.invokevirtual 243, 3) := by decide +kernel
theorem dX11_two_21 : decode cX11_two 21 = .ok (.ireturn, 1) := by decide +kernel
def c_X11_two (a1 : Int32) (h : PH) : Option (Int32) :=
  if (-1) ≤ a1 then
    nm (h.2.2 0 4) fun t1 =>
    gd (tOK t1) <|
    (c_X8_pairs 78 t1 a1 h).bind fun r2 =>
    some r2
  else
    some (-1)
set_option maxHeartbeats 4000000 in
set_option maxRecDepth 100000 in
theorem ct_X11_two (l : Launch) {lay : List KK} (ho : okX11 lay) (a1 : Int32) : CtI l yX11_two cX11_two 2 (some .int) 3 76 lay (rd (fun h => c_X11_two a1 h)) (fun ad => [.ref (ad 0), .int a1]) := by
  refine CtI.mk' RX11 (by decide) rfl (fun _ => Nat.le_of_ble_eq_true rfl) ?_
  intro p0 e s m args below meth c D G A H0 ad X h r0 H ls Q hM hw hl hf hR
  have hl : lv_has ls 2 [(0, .ref (ad 0)), (1, .int a1)] := hl
  obtain ⟨v0, hv0, hr0⟩ : ∃ v0, c_X11_two a1 h = some v0 ∧ r0 = (v0, h) := rd_some hf
  subst hr0
  have hf := hv0
  unfold c_X11_two at hf
  refine lv_iload_n hM.1 hM.2.1 dX11_two_0 rfl (lv_at hl 1 rfl) ?_
  refine lv_iconst (v := (-1)) hM.1 hM.2.1 dX11_two_1 ic_m1 ?_
  refine x_ic_ge (tgt := 9) hM hf dX11_two_2 (by decide) (fun hf => ?_) (fun hf => ?_)
  · refine lv_aload_n hM.1 hM.2.1 dX11_two_9 rfl (lv_at hl 0 rfl) ?_
    refine gf_X11_now hM hw (okX11.o ho) fl_X11_37 dX11_two_10 ?_
    refine lv_aload_n hM.1 hM.2.1 dX11_two_13 rfl (lv_at hl 0 rfl) ?_
    refine gf_X11_text hM hw (okX11.o ho) fl_X11_30 dX11_two_14 ?_
    refine x_nmr hf (fun t1 hf => ?_)
    obtain ⟨hok_t1, hf⟩ := x_cond hf
    refine lv_iload_n hM.1 hM.2.1 dX11_two_17 rfl (lv_at hl 1 rfl) ?_
    refine x_callVIr (rest := []) hM hw (ct_X8_pairs l (okX11.now ho) (okX11.textOf ho hok_t1) a1) [.ref (ad t1), .int a1] (okX8.o (okX11.now ho)) rfl rfl rfl (gi_V ml_X11_243 im_X8_pairs sl_X8_pairs in_X8 kc_X8_pairs) hd_X8_pairs rfl ⟨Nat.le_of_ble_eq_true rfl, Nat.le_of_ble_eq_true rfl⟩ rfl (Nat.le_of_ble_eq_true rfl) hl.1 hcs0 hf dX11_two_18 (fun r2 H locs hf hw => ?_)
    exact hR _ _ _ _ _ _ _ (congrArg (fun z => (z, _)) (Option.some.inj hf)) rfl rfl hw dX11_two_21
  refine lv_iconst (v := (-1)) hM.1 hM.2.1 dX11_two_5 ic_m1 ?_
  refine lv_goto (tgt := 21) hM.1 hM.2.1 dX11_two_6 (by decide) ?_
  exact hR _ _ _ _ _ _ _ (congrArg (fun z => (z, _)) (Option.some.inj hf)) rfl rfl hw dX11_two_21
theorem hd_X11_two : yX11_two.cls = RX11 ∧ yX11_two.cls ≠ "java/lang/invoke/MethodHandle" ∧ yX11_two.cls ≠ "java/lang/invoke/VarHandle" ∧ (parseMethodDescriptor yX11_two.desc).map (fun d => d.parameters.length) = some 1 := ⟨rfl, by decide, by decide, by decide +kernel⟩
theorem dX11_rumour_0 : decode cX11_rumour 0 = .ok (.aload_n 0, 1) := by decide +kernel
theorem dX11_rumour_1 : decode cX11_rumour 1 = .ok (.getfield 30, 3) := by decide +kernel
theorem dX11_rumour_4 : decode cX11_rumour 4 = .ok (.iload_n 1, 1) := by decide +kernel
theorem dX11_rumour_5 : decode cX11_rumour 5 = .ok (.invokevirtual 119, 3) := by decide +kernel
theorem dX11_rumour_8 : decode cX11_rumour 8 = .ok (.ifCond .eq 14, 3) := by decide +kernel
theorem dX11_rumour_11 : decode cX11_rumour 11 = .ok (.iload_n 2, 1) := by decide +kernel
theorem dX11_rumour_12 : decode cX11_rumour 12 = .ok (.iconst (-1), 1) := by decide +kernel
theorem dX11_rumour_13 : decode cX11_rumour 13 = .ok (.if_icmp .lt 9, 3) := by decide +kernel
theorem dX11_rumour_16 : decode cX11_rumour 16 = .ok (.iload_n 2, 1) := by decide +kernel
theorem dX11_rumour_17 : decode cX11_rumour 17 = .ok (.bipush 9, 2) := by decide +kernel
theorem dX11_rumour_19 : decode cX11_rumour 19 = .ok (.if_icmp .le 5, 3) := by decide +kernel
theorem dX11_rumour_22 : decode cX11_rumour 22 = .ok (.iconst (-1), 1) := by decide +kernel
theorem dX11_rumour_23 : decode cX11_rumour 23 = .ok (.ireturn, 1) := by decide +kernel
theorem dX11_rumour_24 : decode cX11_rumour 24 = .ok (.aload_n 0, 1) := by decide +kernel
theorem dX11_rumour_25 : decode cX11_rumour 25 = .ok (.getfield 30, 3) := by decide +kernel
theorem dX11_rumour_28 : decode cX11_rumour 28 = .ok (.iload_n 1, 1) := by decide +kernel
theorem dX11_rumour_29 : decode cX11_rumour 29 = .ok (.iload_n 2, 1) := by decide +kernel
theorem dX11_rumour_30 : decode cX11_rumour 30 = .ok (.invokevirtual 246, 3) := by decide +kernel
theorem dX11_rumour_33 : decode cX11_rumour 33 = .ok (.ireturn, 1) := by decide +kernel
def c_X11_rumour (a1 : Int32) (a2 : Int32) (h : PH) : Option (Int32) :=
  nm (h.2.2 0 4) fun t1 =>
  gd (tOK t1) <|
  (c_X9_isMan t1 a1 h).bind fun r2 =>
  if r2 = 0 then
    some (-1)
  else
    if a2 < (-1) then
      some (-1)
    else
      if a2 ≤ 9 then
        nm (h.2.2 0 4) fun t3 =>
        gd (tOK t3) <|
        (c_X9_rumourFrom t3 a1 a2 h).bind fun r4 =>
        some r4
      else
        some (-1)
set_option maxHeartbeats 4000000 in
set_option maxRecDepth 100000 in
theorem ct_X11_rumour (l : Launch) {lay : List KK} (ho : okX11 lay) (a1 : Int32) (a2 : Int32) : CtI l yX11_rumour cX11_rumour 3 (some .int) 2 50 lay (rd (fun h => c_X11_rumour a1 a2 h)) (fun ad => [.ref (ad 0), .int a1, .int a2]) := by
  refine CtI.mk' RX11 (by decide) rfl (fun _ => Nat.le_of_ble_eq_true rfl) ?_
  intro p0 e s m args below meth c D G A H0 ad X h r0 H ls Q hM hw hl hf hR
  have hl : lv_has ls 3 [(0, .ref (ad 0)), (1, .int a1), (2, .int a2)] := hl
  obtain ⟨v0, hv0, hr0⟩ : ∃ v0, c_X11_rumour a1 a2 h = some v0 ∧ r0 = (v0, h) := rd_some hf
  subst hr0
  have hf := hv0
  unfold c_X11_rumour at hf
  refine lv_aload_n hM.1 hM.2.1 dX11_rumour_0 rfl (lv_at hl 0 rfl) ?_
  refine gf_X11_text hM hw (okX11.o ho) fl_X11_30 dX11_rumour_1 ?_
  refine x_nmr hf (fun t1 hf => ?_)
  obtain ⟨hok_t1, hf⟩ := x_cond hf
  refine lv_iload_n hM.1 hM.2.1 dX11_rumour_4 rfl (lv_at hl 1 rfl) ?_
  refine x_callVIr (rest := []) hM hw (ct_X9_isMan l (okX11.textOf ho hok_t1) a1) [.int a1] (okX9.o (okX11.textOf ho hok_t1)) rfl rfl rfl (gi_V ml_X11_119 im_X9_isMan sl_X9_isMan in_X9 kc_X9_isMan) hd_X9_isMan rfl ⟨Nat.le_of_ble_eq_true rfl, Nat.le_of_ble_eq_true rfl⟩ rfl (Nat.le_of_ble_eq_true rfl) hl.1 hcs0 hf dX11_rumour_5 (fun r2 H locs hf hw => ?_)
  refine x_if_eq (tgt := 22) hM hf dX11_rumour_8 (by decide) (fun hf => ?_) (fun hf => ?_)
  · refine lv_iconst (v := (-1)) hM.1 hM.2.1 dX11_rumour_22 ic_m1 ?_
    exact hR _ _ _ _ _ _ _ (congrArg (fun z => (z, _)) (Option.some.inj hf)) rfl rfl hw dX11_rumour_23
  refine lv_iload_n hM.1 hM.2.1 dX11_rumour_11 rfl (lv_at hl 2 rfl) ?_
  refine lv_iconst (v := (-1)) hM.1 hM.2.1 dX11_rumour_12 ic_m1 ?_
  refine x_ic_lt (tgt := 22) hM hf dX11_rumour_13 (by decide) (fun hf => ?_) (fun hf => ?_)
  · refine lv_iconst (v := (-1)) hM.1 hM.2.1 dX11_rumour_22 ic_m1 ?_
    exact hR _ _ _ _ _ _ _ (congrArg (fun z => (z, _)) (Option.some.inj hf)) rfl rfl hw dX11_rumour_23
  refine lv_iload_n hM.1 hM.2.1 dX11_rumour_16 rfl (lv_at hl 2 rfl) ?_
  refine lv_bipush (v := 9) hM.1 hM.2.1 dX11_rumour_17 (by decide) ?_
  refine x_ic_le (tgt := 24) hM hf dX11_rumour_19 (by decide) (fun hf => ?_) (fun hf => ?_)
  · refine lv_aload_n hM.1 hM.2.1 dX11_rumour_24 rfl (lv_at hl 0 rfl) ?_
    refine gf_X11_text hM hw (okX11.o ho) fl_X11_30 dX11_rumour_25 ?_
    refine x_nmr hf (fun t3 hf => ?_)
    obtain ⟨hok_t3, hf⟩ := x_cond hf
    refine lv_iload_n hM.1 hM.2.1 dX11_rumour_28 rfl (lv_at hl 1 rfl) ?_
    refine lv_iload_n hM.1 hM.2.1 dX11_rumour_29 rfl (lv_at hl 2 rfl) ?_
    refine x_callVIr (rest := []) hM hw (ct_X9_rumourFrom l (okX11.textOf ho hok_t3) a1 a2) [.int a1, .int a2] (okX9.o (okX11.textOf ho hok_t3)) rfl rfl rfl (gi_V ml_X11_246 im_X9_rumourFrom sl_X9_rumourFrom in_X9 kc_X9_rumourFrom) hd_X9_rumourFrom rfl ⟨Nat.le_of_ble_eq_true rfl, Nat.le_of_ble_eq_true rfl⟩ rfl (Nat.le_of_ble_eq_true rfl) hl.1 hcs0 hf dX11_rumour_30 (fun r4 H locs hf hw => ?_)
    exact hR _ _ _ _ _ _ _ (congrArg (fun z => (z, _)) (Option.some.inj hf)) rfl rfl hw dX11_rumour_33
  refine lv_iconst (v := (-1)) hM.1 hM.2.1 dX11_rumour_22 ic_m1 ?_
  exact hR _ _ _ _ _ _ _ (congrArg (fun z => (z, _)) (Option.some.inj hf)) rfl rfl hw dX11_rumour_23
theorem hd_X11_rumour : yX11_rumour.cls = RX11 ∧ yX11_rumour.cls ≠ "java/lang/invoke/MethodHandle" ∧ yX11_rumour.cls ≠ "java/lang/invoke/VarHandle" ∧ (parseMethodDescriptor yX11_rumour.desc).map (fun d => d.parameters.length) = some 2 := ⟨rfl, by decide, by decide, by decide +kernel⟩
theorem dX11_apart_0 : decode cX11_apart 0 = .ok (.iload_n 1, 1) := by decide +kernel
theorem dX11_apart_1 : decode cX11_apart 1 = .ok (.ifCond .lt 8, 3) := by decide +kernel
theorem dX11_apart_4 : decode cX11_apart 4 = .ok (.iload_n 1, 1) := by decide +kernel
theorem dX11_apart_5 : decode cX11_apart 5 = .ok (.iconst 1, 1) := by decide +kernel
theorem dX11_apart_6 : decode cX11_apart 6 = .ok (.if_icmp .le 5, 3) := by decide +kernel
theorem dX11_apart_9 : decode cX11_apart 9 = .ok (.iconst (-1), 1) := by decide +kernel
theorem dX11_apart_10 : decode cX11_apart 10 = .ok (.ireturn, 1) := by decide +kernel
theorem dX11_apart_11 : decode cX11_apart 11 = .ok (.aload_n 0, 1) := by decide +kernel
theorem dX11_apart_12 : decode cX11_apart 12 = .ok (.getfield 30, 3) := by decide +kernel
theorem dX11_apart_15 : decode cX11_apart 15 = .ok (.invokevirtual 250, 3) := by decide +kernel
theorem dX11_apart_18 : decode cX11_apart 18 = .ok (.istore_n 2, 1) := by decide +kernel
theorem dX11_apart_19 : decode cX11_apart 19 = .ok (.iload_n 1, 1) := by decide +kernel
theorem dX11_apart_20 : decode cX11_apart 20 = .ok (.iconst 1, 1) := by decide +kernel
theorem dX11_apart_21 : decode cX11_apart 21 = .ok (.if_icmp .eq 9, 3) := by decide +kernel
theorem dX11_apart_24 : decode cX11_apart 24 = .ok (.iload_n 2, 1) := by decide +kernel
theorem dX11_apart_25 : decode cX11_apart 25 = .ok (.bipush (-2), 2) := by decide +kernel
theorem dX11_apart_27 : decode cX11_apart 27 = .ok (.if_icmp .ne 7, 3) := by decide +kernel
theorem dX11_apart_30 : decode cX11_apart 30 = .ok (.iload_n 2, 1) := by decide +kernel
theorem dX11_apart_31 : decode cX11_apart 31 = .ok (.goto 7, 3) := by decide +kernel
theorem dX11_apart_34 : decode cX11_apart 34 = .ok (.iload_n 2, 1) := by decide +kernel
theorem dX11_apart_35 : decode cX11_apart 35 = .ok (.invokestatic 212, 3) := by decide +kernel
theorem dX11_apart_38 : decode cX11_apart 38 = .ok (.ireturn, 1) := by decide +kernel
def c_X11_apart (a1 : Int32) (h : PH) : Option (Int32) :=
  if a1 < 0 then
    some (-1)
  else
    if a1 ≤ 1 then
      nm (h.2.2 0 4) fun t1 =>
      gd (tOK t1) <|
      (c_X9_fewestTests t1 h).bind fun r2 =>
      nm r2 fun v3 =>
      if a1 = 1 then
        some v3
      else
        if v3 = (-2) then
          some v3
        else
          (c_J6_bitCount_0f7a4 v3).bind fun r4 =>
          some r4
    else
      some (-1)
set_option maxHeartbeats 4000000 in
set_option maxRecDepth 100000 in
theorem ct_X11_apart (l : Launch) {lay : List KK} (ho : okX11 lay) (a1 : Int32) : CtI l yX11_apart cX11_apart 3 (some .int) 3 70 lay (rd (fun h => c_X11_apart a1 h)) (fun ad => [.ref (ad 0), .int a1]) := by
  refine CtI.mk' RX11 (by decide) rfl (fun _ => Nat.le_of_ble_eq_true rfl) ?_
  intro p0 e s m args below meth c D G A H0 ad X h r0 H ls Q hM hw hl hf hR
  have hl : lv_has ls 3 [(0, .ref (ad 0)), (1, .int a1)] := hl
  obtain ⟨v0, hv0, hr0⟩ : ∃ v0, c_X11_apart a1 h = some v0 ∧ r0 = (v0, h) := rd_some hf
  subst hr0
  have hf := hv0
  unfold c_X11_apart at hf
  refine lv_iload_n hM.1 hM.2.1 dX11_apart_0 rfl (lv_at hl 1 rfl) ?_
  refine x_if_lt (tgt := 9) hM hf dX11_apart_1 (by decide) (fun hf => ?_) (fun hf => ?_)
  · refine lv_iconst (v := (-1)) hM.1 hM.2.1 dX11_apart_9 ic_m1 ?_
    exact hR _ _ _ _ _ _ _ (congrArg (fun z => (z, _)) (Option.some.inj hf)) rfl rfl hw dX11_apart_10
  refine lv_iload_n hM.1 hM.2.1 dX11_apart_4 rfl (lv_at hl 1 rfl) ?_
  refine lv_iconst (v := 1) hM.1 hM.2.1 dX11_apart_5 ic_1 ?_
  refine x_ic_le (tgt := 11) hM hf dX11_apart_6 (by decide) (fun hf => ?_) (fun hf => ?_)
  · refine lv_aload_n hM.1 hM.2.1 dX11_apart_11 rfl (lv_at hl 0 rfl) ?_
    refine gf_X11_text hM hw (okX11.o ho) fl_X11_30 dX11_apart_12 ?_
    refine x_nmr hf (fun t1 hf => ?_)
    obtain ⟨hok_t1, hf⟩ := x_cond hf
    refine x_callVIr (rest := []) hM hw (ct_X9_fewestTests l (okX11.textOf ho hok_t1)) [] (okX9.o (okX11.textOf ho hok_t1)) rfl rfl rfl (gi_V ml_X11_250 im_X9_fewestTests sl_X9_fewestTests in_X9 kc_X9_fewestTests) hd_X9_fewestTests rfl ⟨Nat.le_of_ble_eq_true rfl, Nat.le_of_ble_eq_true rfl⟩ rfl (Nat.le_of_ble_eq_true rfl) hl.1 hcs0 hf dX11_apart_15 (fun r2 H locs hf hw => ?_)
    refine x_istore_n hM hf dX11_apart_18 rfl hl (by decide) (fun v3 => [(2, .int v3), (0, .ref (ad 0)), (1, .int a1)]) (fun _ => rfl) (fun v3 ls hf hl => ?_)
    refine lv_iload_n hM.1 hM.2.1 dX11_apart_19 rfl (lv_at hl 2 rfl) ?_
    refine lv_iconst (v := 1) hM.1 hM.2.1 dX11_apart_20 ic_1 ?_
    refine x_ic_eq (tgt := 30) hM hf dX11_apart_21 (by decide) (fun hf => ?_) (fun hf => ?_)
    · refine lv_iload_n hM.1 hM.2.1 dX11_apart_30 rfl (lv_at hl 0 rfl) ?_
      refine lv_goto (tgt := 38) hM.1 hM.2.1 dX11_apart_31 (by decide) ?_
      exact hR _ _ _ _ _ _ _ (congrArg (fun z => (z, _)) (Option.some.inj hf)) rfl rfl hw dX11_apart_38
    refine lv_iload_n hM.1 hM.2.1 dX11_apart_24 rfl (lv_at hl 0 rfl) ?_
    refine lv_bipush (v := (-2)) hM.1 hM.2.1 dX11_apart_25 (by decide) ?_
    refine x_ic_ne (tgt := 34) hM hf dX11_apart_27 (by decide) (fun hf => ?_) (fun hf => ?_)
    · refine lv_iload_n hM.1 hM.2.1 dX11_apart_34 rfl (lv_at hl 0 rfl) ?_
      refine x_callSIr (rest := []) hM hw (ct_J6_bitCount_0f7a4 l v3) [.int v3] rfl (gi_S ml_X11_212 sm_J6_bitCount_0f7a4 in_J6 kc_J6_bitCount_0f7a4) hd_J6_bitCount_0f7a4 rfl ⟨Nat.le_of_ble_eq_true rfl, Nat.le_of_ble_eq_true rfl⟩ rfl (Nat.le_of_ble_eq_true rfl) hl.1 hcs0 hf dX11_apart_35 (fun r4 H locs hf hw => ?_)
      exact hR _ _ _ _ _ _ _ (congrArg (fun z => (z, _)) (Option.some.inj hf)) rfl rfl hw dX11_apart_38
    refine lv_iload_n hM.1 hM.2.1 dX11_apart_30 rfl (lv_at hl 0 rfl) ?_
    refine lv_goto (tgt := 38) hM.1 hM.2.1 dX11_apart_31 (by decide) ?_
    exact hR _ _ _ _ _ _ _ (congrArg (fun z => (z, _)) (Option.some.inj hf)) rfl rfl hw dX11_apart_38
  refine lv_iconst (v := (-1)) hM.1 hM.2.1 dX11_apart_9 ic_m1 ?_
  exact hR _ _ _ _ _ _ _ (congrArg (fun z => (z, _)) (Option.some.inj hf)) rfl rfl hw dX11_apart_10
theorem hd_X11_apart : yX11_apart.cls = RX11 ∧ yX11_apart.cls ≠ "java/lang/invoke/MethodHandle" ∧ yX11_apart.cls ≠ "java/lang/invoke/VarHandle" ∧ (parseMethodDescriptor yX11_apart.desc).map (fun d => d.parameters.length) = some 1 := ⟨rfl, by decide, by decide, by decide +kernel⟩
theorem dX11_sellers_0 : decode cX11_sellers 0 = .ok (.iload_n 1, 1) := by decide +kernel
theorem dX11_sellers_1 : decode cX11_sellers 1 = .ok (.iconst 2, 1) := by decide +kernel
theorem dX11_sellers_2 : decode cX11_sellers 2 = .ok (.if_icmp .lt 46, 3) := by decide +kernel
theorem dX11_sellers_5 : decode cX11_sellers 5 = .ok (.iload_n 1, 1) := by decide +kernel
theorem dX11_sellers_6 : decode cX11_sellers 6 = .ok (.iconst 3, 1) := by decide +kernel
theorem dX11_sellers_7 : decode cX11_sellers 7 = .ok (.if_icmp .gt 41, 3) := by decide +kernel
theorem dX11_sellers_10 : decode cX11_sellers 10 = .ok (.iload_n 2, 1) := by decide +kernel
theorem dX11_sellers_11 : decode cX11_sellers 11 = .ok (.ifCond .lt 37, 3) := by decide +kernel
theorem dX11_sellers_14 : decode cX11_sellers 14 = .ok (.iload_n 2, 1) := by decide +kernel
theorem dX11_sellers_15 : decode cX11_sellers 15 = .ok (.bipush 6, 2) := by decide +kernel
theorem dX11_sellers_17 : decode cX11_sellers 17 = .ok (.if_icmp .gt 31, 3) := by decide +kernel
theorem dX11_sellers_20 : decode cX11_sellers 20 = .ok (.iload_n 3, 1) := by decide +kernel
theorem dX11_sellers_21 : decode cX11_sellers 21 = .ok (.ifCond .lt 27, 3) := by decide +kernel
theorem dX11_sellers_24 : decode cX11_sellers 24 = .ok (.iload_n 3, 1) := by decide +kernel
theorem dX11_sellers_25 : decode cX11_sellers 25 = .ok (.bipush 9, 2) := by decide +kernel
theorem dX11_sellers_27 : decode cX11_sellers 27 = .ok (.if_icmp .gt 21, 3) := by decide +kernel
theorem dX11_sellers_30 : decode cX11_sellers 30 = .ok (.iload 4, 2) := by decide +kernel
theorem dX11_sellers_32 : decode cX11_sellers 32 = .ok (.ifCond .lt 16, 3) := by decide +kernel
theorem dX11_sellers_35 : decode cX11_sellers 35 = .ok (.iload 4, 2) := by decide +kernel
theorem dX11_sellers_37 : decode cX11_sellers 37 = .ok (.bipush 99, 2) := by decide +kernel
theorem dX11_sellers_39 : decode cX11_sellers 39 = .ok (.if_icmp .gt 9, 3) := by decide +kernel
theorem dX11_sellers_42 : decode cX11_sellers 42 = .ok (.iload 5, 2) := by decide +kernel
theorem dX11_sellers_44 : decode cX11_sellers 44 = .ok (.iconst (-1), 1) := by decide +kernel
theorem dX11_sellers_45 : decode cX11_sellers 45 = .ok (.if_icmp .ge 5, 3) := by decide +kernel
theorem dX11_sellers_48 : decode cX11_sellers 48 = .ok (.iconst (-1), 1) := by decide +kernel
theorem dX11_sellers_49 : decode cX11_sellers 49 = .ok (.ireturn, 1) := by decide +kernel
theorem dX11_sellers_50 : decode cX11_sellers 50 = .ok (.aload_n 0, 1) := by decide +kernel
theorem dX11_sellers_51 : decode cX11_sellers 51 = .ok (.getfield 76, 3) := by decide +kernel
theorem dX11_sellers_54 : decode cX11_sellers 54 = .ok (.iload_n 1, 1) := by decide +kernel
theorem dX11_sellers_55 : decode cX11_sellers 55 = .ok (.iload_n 2, 1) := by decide +kernel
theorem dX11_sellers_56 : decode cX11_sellers 56 = .ok (.iload_n 3, 1) := by decide +kernel
theorem dX11_sellers_57 : decode cX11_sellers 57 = .ok (.iload 4, 2) := by decide +kernel
theorem dX11_sellers_59 : decode cX11_sellers 59 = .ok (.iload 5, 2) := by decide +kernel
theorem dX11_sellers_61 : decode cX11_sellers 61 = .ok (.invokevirtual 253, 3) := by decide +kernel
theorem dX11_sellers_64 : decode cX11_sellers 64 = .ok (.ireturn, 1) := by decide +kernel
def c_X11_sellers_j48  (h : PH) : Option (Int32 × PH) :=
  some ((-1), h)
set_option maxHeartbeats 4000000 in
set_option maxRecDepth 100000 in
theorem w_X11_sellers_j48 {p0 : Program} {l : Launch} {e : Env} {s : State} {m : MethodId} {args : Array Value} {below : List Frame} {meth : Method} {c : Code} {Q : State → Prop} {D : va_G} {G : GG} {A : Nat → Prop} {H0 : Heap} {ad : Nat → Nat} {lay : List KK} {X : va_W} {r0 : Int32 × PH} {h : PH} {H : Heap} {locs : List Loc} {ls : Array Slot} (hM : CallFix p0 m c cX11_sellers 6 s args lw_g RX11) (ho : okX11 lay) (hR : RtI p0 l e (rmN 3 83) s m args below meth c cX11_sellers D G A H0 ad lay X (some .int) r0 Q 0 0) (hw : Wd D G A H0 ad lay X h s H locs) (hl : lv_has ls 6 []) (hf : c_X11_sellers_j48 h = some r0) : W p0 l e (rmN 3 83) s m args below meth c H locs 0 0 Q (F0 m 48 ls []) := by
  unfold c_X11_sellers_j48 at hf
  refine lv_iconst (v := (-1)) hM.1 hM.2.1 dX11_sellers_48 ic_m1 ?_
  exact hR _ _ _ _ _ _ _ (Option.some.inj hf) rfl rfl hw dX11_sellers_49
def c_X11_sellers (a1 : Int32) (a2 : Int32) (a3 : Int32) (a4 : Int32) (a5 : Int32) (h : PH) : Option (Int32 × PH) :=
  if a1 < 2 then
    c_X11_sellers_j48 h
  else
    if 3 < a1 then
      c_X11_sellers_j48 h
    else
      if a2 < 0 then
        c_X11_sellers_j48 h
      else
        if 6 < a2 then
          c_X11_sellers_j48 h
        else
          if a3 < 0 then
            c_X11_sellers_j48 h
          else
            if 9 < a3 then
              c_X11_sellers_j48 h
            else
              if a4 < 0 then
                c_X11_sellers_j48 h
              else
                if 99 < a4 then
                  c_X11_sellers_j48 h
                else
                  if (-1) ≤ a5 then
                    bind2 (c_X3_rests 227 a1 a2 a3 a4 a5 h) fun r1 h2 =>
                    some (r1, h2)
                  else
                    c_X11_sellers_j48 h
set_option maxHeartbeats 4000000 in
set_option maxRecDepth 100000 in
theorem ct_X11_sellers (l : Launch) {lay : List KK} (ho : okX11 lay) (a1 : Int32) (a2 : Int32) (a3 : Int32) (a4 : Int32) (a5 : Int32) : CtI l yX11_sellers cX11_sellers 6 (some .int) 3 83 lay (fun h => c_X11_sellers a1 a2 a3 a4 a5 h) (fun ad => [.ref (ad 0), .int a1, .int a2, .int a3, .int a4, .int a5]) := by
  refine CtI.mk' RX11 (by decide) rfl (fun _ => Nat.le_of_ble_eq_true rfl) ?_
  intro p0 e s m args below meth c D G A H0 ad X h r0 H ls Q hM hw hl hf hR
  have hl : lv_has ls 6 [(0, .ref (ad 0)), (1, .int a1), (2, .int a2), (3, .int a3), (4, .int a4), (5, .int a5)] := hl
  unfold c_X11_sellers at hf
  refine lv_iload_n hM.1 hM.2.1 dX11_sellers_0 rfl (lv_at hl 1 rfl) ?_
  refine lv_iconst (v := 2) hM.1 hM.2.1 dX11_sellers_1 ic_2 ?_
  refine x_ic_lt (tgt := 48) hM hf dX11_sellers_2 (by decide) (fun hf => ?_) (fun hf => ?_)
  · exact w_X11_sellers_j48 hM ho hR hw (lv_sub hl [] rfl) hf
  refine lv_iload_n hM.1 hM.2.1 dX11_sellers_5 rfl (lv_at hl 1 rfl) ?_
  refine lv_iconst (v := 3) hM.1 hM.2.1 dX11_sellers_6 ic_3 ?_
  refine x_ic_gt (tgt := 48) hM hf dX11_sellers_7 (by decide) (fun hf => ?_) (fun hf => ?_)
  · exact w_X11_sellers_j48 hM ho hR hw (lv_sub hl [] rfl) hf
  refine lv_iload_n hM.1 hM.2.1 dX11_sellers_10 rfl (lv_at hl 2 rfl) ?_
  refine x_if_lt (tgt := 48) hM hf dX11_sellers_11 (by decide) (fun hf => ?_) (fun hf => ?_)
  · exact w_X11_sellers_j48 hM ho hR hw (lv_sub hl [] rfl) hf
  refine lv_iload_n hM.1 hM.2.1 dX11_sellers_14 rfl (lv_at hl 2 rfl) ?_
  refine lv_bipush (v := 6) hM.1 hM.2.1 dX11_sellers_15 (by decide) ?_
  refine x_ic_gt (tgt := 48) hM hf dX11_sellers_17 (by decide) (fun hf => ?_) (fun hf => ?_)
  · exact w_X11_sellers_j48 hM ho hR hw (lv_sub hl [] rfl) hf
  refine lv_iload_n hM.1 hM.2.1 dX11_sellers_20 rfl (lv_at hl 3 rfl) ?_
  refine x_if_lt (tgt := 48) hM hf dX11_sellers_21 (by decide) (fun hf => ?_) (fun hf => ?_)
  · exact w_X11_sellers_j48 hM ho hR hw (lv_sub hl [] rfl) hf
  refine lv_iload_n hM.1 hM.2.1 dX11_sellers_24 rfl (lv_at hl 3 rfl) ?_
  refine lv_bipush (v := 9) hM.1 hM.2.1 dX11_sellers_25 (by decide) ?_
  refine x_ic_gt (tgt := 48) hM hf dX11_sellers_27 (by decide) (fun hf => ?_) (fun hf => ?_)
  · exact w_X11_sellers_j48 hM ho hR hw (lv_sub hl [] rfl) hf
  refine lv_iload hM.1 hM.2.1 dX11_sellers_30 (lv_at hl 4 rfl) ?_
  refine x_if_lt (tgt := 48) hM hf dX11_sellers_32 (by decide) (fun hf => ?_) (fun hf => ?_)
  · exact w_X11_sellers_j48 hM ho hR hw (lv_sub hl [] rfl) hf
  refine lv_iload hM.1 hM.2.1 dX11_sellers_35 (lv_at hl 4 rfl) ?_
  refine lv_bipush (v := 99) hM.1 hM.2.1 dX11_sellers_37 (by decide) ?_
  refine x_ic_gt (tgt := 48) hM hf dX11_sellers_39 (by decide) (fun hf => ?_) (fun hf => ?_)
  · exact w_X11_sellers_j48 hM ho hR hw (lv_sub hl [] rfl) hf
  refine lv_iload hM.1 hM.2.1 dX11_sellers_42 (lv_at hl 5 rfl) ?_
  refine lv_iconst (v := (-1)) hM.1 hM.2.1 dX11_sellers_44 ic_m1 ?_
  refine x_ic_ge (tgt := 50) hM hf dX11_sellers_45 (by decide) (fun hf => ?_) (fun hf => ?_)
  · refine lv_aload_n hM.1 hM.2.1 dX11_sellers_50 rfl (lv_at hl 0 rfl) ?_
    refine gf_X11_market hM hw (okX11.o ho) fl_X11_76 dX11_sellers_51 ?_
    refine lv_iload_n hM.1 hM.2.1 dX11_sellers_54 rfl (lv_at hl 1 rfl) ?_
    refine lv_iload_n hM.1 hM.2.1 dX11_sellers_55 rfl (lv_at hl 2 rfl) ?_
    refine lv_iload_n hM.1 hM.2.1 dX11_sellers_56 rfl (lv_at hl 3 rfl) ?_
    refine lv_iload hM.1 hM.2.1 dX11_sellers_57 (lv_at hl 4 rfl) ?_
    refine lv_iload hM.1 hM.2.1 dX11_sellers_59 (lv_at hl 5 rfl) ?_
    refine x_callVI (rest := []) hM hw (ct_X3_rests l (okX11.market ho) a1 a2 a3 a4 a5) [.int a1, .int a2, .int a3, .int a4, .int a5] (okX3.o (okX11.market ho)) rfl rfl rfl (gi_V ml_X11_253 im_X3_rests sl_X3_rests in_X3 kc_X3_rests) hd_X3_rests rfl ⟨Nat.le_of_ble_eq_true rfl, Nat.le_of_ble_eq_true rfl⟩ rfl (Nat.le_of_ble_eq_true rfl) hl.1 hcs0 hf dX11_sellers_61 (fun r1 h2 H locs hf hw => ?_)
    exact hR _ _ _ _ _ _ _ (Option.some.inj hf) rfl rfl hw dX11_sellers_64
  exact w_X11_sellers_j48 hM ho hR hw (lv_sub hl [] rfl) hf
theorem hd_X11_sellers : yX11_sellers.cls = RX11 ∧ yX11_sellers.cls ≠ "java/lang/invoke/MethodHandle" ∧ yX11_sellers.cls ≠ "java/lang/invoke/VarHandle" ∧ (parseMethodDescriptor yX11_sellers.desc).map (fun d => d.parameters.length) = some 5 := ⟨rfl, by decide, by decide, by decide +kernel⟩
theorem dX11_calm_0 : decode cX11_calm 0 = .ok (.aload_n 0, 1) := by decide +kernel
theorem dX11_calm_1 : decode cX11_calm 1 = .ok (.getfield 30, 3) := by decide +kernel
theorem dX11_calm_4 : decode cX11_calm 4 = .ok (.iload_n 1, 1) := by decide +kernel
theorem dX11_calm_5 : decode cX11_calm 5 = .ok (.invokevirtual 141, 3) := by decide +kernel
theorem dX11_calm_8 : decode cX11_calm 8 = .ok (.ifCond .eq 21, 3) := by decide +kernel
theorem dX11_calm_11 : decode cX11_calm 11 = .ok (.aload_n 0, 1) := by decide +kernel
theorem dX11_calm_12 : decode cX11_calm 12 = .ok (.getfield 30, 3) := by decide +kernel
theorem dX11_calm_15 : decode cX11_calm 15 = .ok (.iload_n 2, 1) := by decide +kernel
theorem dX11_calm_16 : decode cX11_calm 16 = .ok (.invokevirtual 119, 3) := by decide +kernel
theorem dX11_calm_19 : decode cX11_calm 19 = .ok (.ifCond .eq 10, 3) := by decide +kernel
theorem dX11_calm_22 : decode cX11_calm 22 = .ok (.iload_n 3, 1) := by decide +kernel
theorem dX11_calm_23 : decode cX11_calm 23 = .ok (.invokestatic 240, 3) := by decide +kernel
theorem dX11_calm_26 : decode cX11_calm 26 = .ok (.ifCond .ne 5, 3) := by decide +kernel
theorem dX11_calm_29 : decode cX11_calm 29 = .ok (.iconst (-1), 1) := by decide +kernel
theorem dX11_calm_30 : decode cX11_calm 30 = .ok (.ireturn, 1) := by decide +kernel
theorem dX11_calm_31 : decode cX11_calm 31 = .ok (.aload_n 0, 1) := by decide +kernel
theorem dX11_calm_32 : decode cX11_calm 32 = .ok (.getfield 41, 3) := by decide +kernel
theorem dX11_calm_35 : decode cX11_calm 35 = .ok (.aload_n 0, 1) := by decide +kernel
theorem dX11_calm_36 : decode cX11_calm 36 = .ok (.getfield 37, 3) := by decide +kernel
theorem dX11_calm_39 : decode cX11_calm 39 = .ok (.invokevirtual 209, 3) := by decide +kernel
theorem dX11_calm_42 : decode cX11_calm 42 = .ok (.aload_n 0, 1) := by decide +kernel
theorem dX11_calm_43 : decode cX11_calm 43 = .ok (.getfield 37, 3) := by decide +kernel
theorem dX11_calm_46 : decode cX11_calm 46 = .ok (.getfield 195, 3) := by decide +kernel
theorem dX11_calm_49 : decode cX11_calm 49 = .ok (.istore 4, 2) := by decide +kernel
theorem dX11_calm_51 : decode cX11_calm 51 = .ok (.iload 4, 2) := by decide +kernel
theorem dX11_calm_53 : decode cX11_calm 53 = .ok (.bipush 99, 2) := by decide +kernel
theorem dX11_calm_55 : decode cX11_calm 55 = .ok (.if_icmp .gt 57, 3) := by decide +kernel
theorem dX11_calm_58 : decode cX11_calm 58 = .ok (.aload_n 0, 1) := by decide +kernel
theorem dX11_calm_59 : decode cX11_calm 59 = .ok (.getfield 62, 3) := by decide +kernel
theorem dX11_calm_62 : decode cX11_calm 62 = .ok (.aload_n 0, 1) := by decide +kernel
theorem dX11_calm_63 : decode cX11_calm 63 = .ok (.getfield 30, 3) := by decide +kernel
theorem dX11_calm_66 : decode cX11_calm 66 = .ok (.aload_n 0, 1) := by decide +kernel
theorem dX11_calm_67 : decode cX11_calm 67 = .ok (.getfield 41, 3) := by decide +kernel
theorem dX11_calm_70 : decode cX11_calm 70 = .ok (.iload_n 1, 1) := by decide +kernel
theorem dX11_calm_71 : decode cX11_calm 71 = .ok (.iload_n 2, 1) := by decide +kernel
theorem dX11_calm_72 : decode cX11_calm 72 = .ok (.iconst 1, 1) := by decide +kernel
theorem dX11_calm_73 : decode cX11_calm 73 = .ok (.aload_n 0, 1) := by decide +kernel
theorem dX11_calm_74 : decode cX11_calm 74 = .ok (.getfield 30, 3) := by decide +kernel
theorem dX11_calm_77 : decode cX11_calm 77 = .ok (.getfield 171, 3) := by decide +kernel
theorem dX11_calm_80 : decode cX11_calm 80 = .ok (.invokevirtual 202, 3) := by decide +kernel
theorem dX11_calm_83 : decode cX11_calm 83 = .ok (.iload_n 3, 1) := by decide +kernel
theorem dX11_calm_84 : decode cX11_calm 84 = .ok (.if_icmp .lt 6, 3) := by decide +kernel
theorem dX11_calm_87 : decode cX11_calm 87 = .ok (.iload 4, 2) := by decide +kernel
theorem dX11_calm_89 : decode cX11_calm 89 = .ok (.ireturn, 1) := by decide +kernel
theorem dX11_calm_90 : decode cX11_calm 90 = .ok (.aload_n 0, 1) := by decide +kernel
theorem dX11_calm_91 : decode cX11_calm 91 = .ok (.getfield 62, 3) := by decide +kernel
theorem dX11_calm_94 : decode cX11_calm 94 = .ok (.aload_n 0, 1) := by decide +kernel
theorem dX11_calm_95 : decode cX11_calm 95 = .ok (.getfield 30, 3) := by decide +kernel
theorem dX11_calm_98 : decode cX11_calm 98 = .ok (.aload_n 0, 1) := by decide +kernel
theorem dX11_calm_99 : decode cX11_calm 99 = .ok (.getfield 41, 3) := by decide +kernel
theorem dX11_calm_102 : decode cX11_calm 102 = .ok (.iconst 1, 1) := by decide +kernel
theorem dX11_calm_103 : decode cX11_calm 103 = .ok (.invokevirtual 257, 3) := by decide +kernel
theorem dX11_calm_106 : decode cX11_calm 106 = .ok (.iinc 4 1, 3) := by decide +kernel
theorem dX11_calm_109 : decode cX11_calm 109 = .ok (.goto (-58), 3) := by decide +kernel
theorem dX11_calm_112 : decode cX11_calm 112 = .ok (.bipush (-2), 2) := by decide +kernel
theorem dX11_calm_114 : decode cX11_calm 114 = .ok (.ireturn, 1) := by decide +kernel
def c_X11_calm_L51b {ρ : Type}  (z1 : Int32) (z2 : Int32) (z3 : Int32) (K1 : Int32 → PH → Option ρ) (K2 : PH → Option ρ) (REC : Int32 → PH → Option ρ) (x4 : Int32) (h : PH) : Option ρ :=
  if 99 < x4 then
    K2 h
  else
    nm (h.2.2 0 4) fun t8 =>
    gd (tOK t8) <|
    nm (h.2.2 0 4) fun t9 =>
    gd (tOK t9) <|
    bind2 (c_X1_passes 217 t8 81 z1 z2 1 (h.1 t9 7) h) fun r10 h11 =>
    if r10 < z3 then
      nm (h11.2.2 0 4) fun t12 =>
      gd (tOK t12) <|
      (c_X1_mend 217 t12 81 1 h11).bind fun h13 =>
      nm (x4 + 1) fun v14 =>
      REC v14 h13
    else
      K1 x4 h11
set_option maxHeartbeats 4000000 in
set_option maxRecDepth 100000 in
theorem w_X11_calm_L51b {p0 : Program} {l : Launch} {e : Env} {s : State} {m : MethodId} {args : Array Value} {below : List Frame} {meth : Method} {c : Code} {Q : State → Prop} {D : va_G} {G : GG} {A : Nat → Prop} {H0 : Heap} {ad : Nat → Nat} {lay : List KK} {X : va_W} {ρ : Type} {r0 : ρ} {z1 : Int32} {z2 : Int32} {z3 : Int32} {x4 : Int32} {h : PH} {H : Heap} {locs : List Loc} {ls : Array Slot} {K1 : Int32 → PH → Option ρ} {K2 : PH → Option ρ} {REC : Int32 → PH → Option ρ} (hM : CallFix p0 m c cX11_calm 5 s args lw_g RX11) (ho : okX11 lay) (hk1 : ∀ (x4 : Int32) (h : PH), ∀ (H : Heap) (locs : List Loc) (ls : Array Slot), K1 x4 h = some r0 → Wd D G A H0 ad lay X h s H locs → lv_has ls 5 [(4, .int x4)] → W p0 l e (rmN 4 104) s m args below meth c H locs 0 0 Q (F0 m 87 ls [])) (hk2 : ∀ (h : PH), ∀ (H : Heap) (locs : List Loc) (ls : Array Slot), K2 h = some r0 → Wd D G A H0 ad lay X h s H locs → lv_has ls 5 [] → W p0 l e (rmN 4 104) s m args below meth c H locs 0 0 Q (F0 m 112 ls [])) (hrec : ∀ (x4 : Int32) (h : PH), ∀ (H : Heap) (locs : List Loc) (ls : Array Slot), REC x4 h = some r0 → Wd D G A H0 ad lay X h s H locs → lv_has ls 5 [(0, .ref (ad 0)), (1, .int z1), (2, .int z2), (3, .int z3), (4, .int x4)] → W p0 l e (rmN 4 104) s m args below meth c H locs 0 0 Q (F0 m 51 ls [])) (hw : Wd D G A H0 ad lay X h s H locs) (hl : lv_has ls 5 [(0, .ref (ad 0)), (1, .int z1), (2, .int z2), (3, .int z3), (4, .int x4)]) (hf : c_X11_calm_L51b z1 z2 z3 K1 K2 REC x4 h = some r0) : W p0 l e (rmN 4 104) s m args below meth c H locs 0 0 Q (F0 m 51 ls []) := by
  unfold c_X11_calm_L51b at hf
  refine lv_iload hM.1 hM.2.1 dX11_calm_51 (lv_at hl 4 rfl) ?_
  refine lv_bipush (v := 99) hM.1 hM.2.1 dX11_calm_53 (by decide) ?_
  refine x_ic_gt (tgt := 112) hM hf dX11_calm_55 (by decide) (fun hf => ?_) (fun hf => ?_)
  · exact hk2 _ _ _ _ hf hw (lv_sub hl [] rfl)
  refine lv_aload_n hM.1 hM.2.1 dX11_calm_58 rfl (lv_at hl 0 rfl) ?_
  refine gf_X11_course hM hw (okX11.o ho) fl_X11_62 dX11_calm_59 ?_
  refine lv_aload_n hM.1 hM.2.1 dX11_calm_62 rfl (lv_at hl 0 rfl) ?_
  refine gf_X11_text hM hw (okX11.o ho) fl_X11_30 dX11_calm_63 ?_
  refine x_nmr hf (fun t8 hf => ?_)
  obtain ⟨hok_t8, hf⟩ := x_cond hf
  refine lv_aload_n hM.1 hM.2.1 dX11_calm_66 rfl (lv_at hl 0 rfl) ?_
  refine gf_X11_ahead hM hw (okX11.o ho) fl_X11_41 dX11_calm_67 ?_
  refine lv_iload_n hM.1 hM.2.1 dX11_calm_70 rfl (lv_at hl 1 rfl) ?_
  refine lv_iload_n hM.1 hM.2.1 dX11_calm_71 rfl (lv_at hl 2 rfl) ?_
  refine lv_iconst (v := 1) hM.1 hM.2.1 dX11_calm_72 ic_1 ?_
  refine lv_aload_n hM.1 hM.2.1 dX11_calm_73 rfl (lv_at hl 0 rfl) ?_
  refine gf_X11_text hM hw (okX11.o ho) fl_X11_30 dX11_calm_74 ?_
  refine x_nmr hf (fun t9 hf => ?_)
  obtain ⟨hok_t9, hf⟩ := x_cond hf
  refine gf_X9_seed hM hw (okX9.o (okX11.textOf ho hok_t9)) fl_X11_171 dX11_calm_77 ?_
  refine x_callVI (rest := []) hM hw (ct_X1_passes l (okX11.course ho) (okX11.textOf ho hok_t8) (okX11.ahead ho) z1 z2 1 (h.1 t9 7)) [.ref (ad t8), .ref (ad 81), .int z1, .int z2, .int 1, .int (h.1 t9 7)] (okX1.o (okX11.course ho)) rfl rfl rfl (gi_V ml_X11_202 im_X1_passes sl_X1_passes in_X1 kc_X1_passes) hd_X1_passes rfl ⟨Nat.le_of_ble_eq_true rfl, Nat.le_of_ble_eq_true rfl⟩ rfl (Nat.le_of_ble_eq_true rfl) hl.1 hcs0 hf dX11_calm_80 (fun r10 h11 H locs hf hw => ?_)
  refine lv_iload_n hM.1 hM.2.1 dX11_calm_83 rfl (lv_at hl 3 rfl) ?_
  refine x_ic_lt (tgt := 90) hM hf dX11_calm_84 (by decide) (fun hf => ?_) (fun hf => ?_)
  · refine lv_aload_n hM.1 hM.2.1 dX11_calm_90 rfl (lv_at hl 0 rfl) ?_
    refine gf_X11_course hM hw (okX11.o ho) fl_X11_62 dX11_calm_91 ?_
    refine lv_aload_n hM.1 hM.2.1 dX11_calm_94 rfl (lv_at hl 0 rfl) ?_
    refine gf_X11_text hM hw (okX11.o ho) fl_X11_30 dX11_calm_95 ?_
    refine x_nmr hf (fun t12 hf => ?_)
    obtain ⟨hok_t12, hf⟩ := x_cond hf
    refine lv_aload_n hM.1 hM.2.1 dX11_calm_98 rfl (lv_at hl 0 rfl) ?_
    refine gf_X11_ahead hM hw (okX11.o ho) fl_X11_41 dX11_calm_99 ?_
    refine lv_iconst (v := 1) hM.1 hM.2.1 dX11_calm_102 ic_1 ?_
    refine x_callVV (rest := []) hM hw (ct_X1_mend l (okX11.course ho) (okX11.textOf ho hok_t12) (okX11.ahead ho) 1) [.ref (ad t12), .ref (ad 81), .int 1] (okX1.o (okX11.course ho)) rfl rfl rfl (gi_V ml_X11_257 im_X1_mend sl_X1_mend in_X1 kc_X1_mend) hd_X1_mend rfl ⟨Nat.le_of_ble_eq_true rfl, Nat.le_of_ble_eq_true rfl⟩ rfl (Nat.le_of_ble_eq_true rfl) hl.1 hcs0 hf dX11_calm_103 (fun h13 H locs hf hw => ?_)
    refine x_iinc (k := 4) (d := 1) hM hf dX11_calm_106 hl rfl (by decide) (by decide) (fun v14 => [(4, .int v14), (0, .ref (ad 0)), (1, .int z1), (2, .int z2), (3, .int z3)]) (fun _ => rfl) (fun v14 ls hf hl => ?_)
    refine lv_goto (tgt := 51) hM.1 hM.2.1 dX11_calm_109 (by decide) ?_
    exact hrec _ _ _ _ _ hf hw (lv_sub hl [1, 2, 3, 4, 0] rfl)
  exact hk1 _ _ _ _ _ hf hw (lv_sub hl [4] rfl)
set_option maxHeartbeats 4000000 in
set_option maxRecDepth 100000 in
theorem w_X11_calm_L51 {p0 : Program} {l : Launch} {e : Env} {s : State} {m : MethodId} {args : Array Value} {below : List Frame} {meth : Method} {c : Code} {Q : State → Prop} {D : va_G} {G : GG} {A : Nat → Prop} {H0 : Heap} {ad : Nat → Nat} {lay : List KK} {X : va_W} {ρ : Type} {r0 : ρ} {z1 : Int32} {z2 : Int32} {z3 : Int32} {K1 : Int32 → PH → Option ρ} {K2 : PH → Option ρ} (hM : CallFix p0 m c cX11_calm 5 s args lw_g RX11) (ho : okX11 lay) (hk1 : ∀ (x4 : Int32) (h : PH), ∀ (H : Heap) (locs : List Loc) (ls : Array Slot), K1 x4 h = some r0 → Wd D G A H0 ad lay X h s H locs → lv_has ls 5 [(4, .int x4)] → W p0 l e (rmN 4 104) s m args below meth c H locs 0 0 Q (F0 m 87 ls [])) (hk2 : ∀ (h : PH), ∀ (H : Heap) (locs : List Loc) (ls : Array Slot), K2 h = some r0 → Wd D G A H0 ad lay X h s H locs → lv_has ls 5 [] → W p0 l e (rmN 4 104) s m args below meth c H locs 0 0 Q (F0 m 112 ls [])) (n : Nat) (x4 : Int32) (h : PH) (hf : lq2 (c_X11_calm_L51b z1 z2 z3 K1 K2) n x4 h = some r0) : ∀ (H : Heap) (locs : List Loc) (ls : Array Slot), Wd D G A H0 ad lay X h s H locs → lv_has ls 5 [(0, .ref (ad 0)), (1, .int z1), (2, .int z2), (3, .int z3), (4, .int x4)] → W p0 l e (rmN 4 104) s m args below meth c H locs 0 0 Q (F0 m 51 ls []) := by
  exact lq2_i (fun (x4 : Int32) (h : PH) => ∀ (H : Heap) (locs : List Loc) (ls : Array Slot), Wd D G A H0 ad lay X h s H locs → lv_has ls 5 [(0, .ref (ad 0)), (1, .int z1), (2, .int z2), (3, .int z3), (4, .int x4)] → W p0 l e (rmN 4 104) s m args below meth c H locs 0 0 Q (F0 m 51 ls [])) (fun REC x4 h ih hf H locs ls hw hl => w_X11_calm_L51b hM ho hk1 hk2 (fun x4 h H locs ls hf hw hl => ih x4 h hf H locs ls hw hl) hw hl hf) n x4 h hf
def c_X11_calm (a1 : Int32) (a2 : Int32) (a3 : Int32) (h : PH) : Option (Int32 × PH) :=
  nm (h.2.2 0 4) fun t1 =>
  gd (tOK t1) <|
  (c_X9_isExcuse t1 a1 h).bind fun r2 =>
  if r2 = 0 then
    some ((-1), h)
  else
    nm (h.2.2 0 4) fun t3 =>
    gd (tOK t3) <|
    (c_X9_isMan t3 a2 h).bind fun r4 =>
    if r4 = 0 then
      some ((-1), h)
    else
      (c_X11_isPercent a3).bind fun r5 =>
      if r5 = 0 then
        some ((-1), h)
      else
        (c_X8_copy 81 78 h).bind fun h6 =>
        nm (h6.1 78 0) fun v7 =>
        lq2 (c_X11_calm_L51b a1 a2 a3
          (fun w15 h16 =>
            some (w15, h16))
          (fun h17 =>
            some ((-2), h17))) fu v7 h6
set_option maxHeartbeats 4000000 in
set_option maxRecDepth 100000 in
theorem ct_X11_calm (l : Launch) {lay : List KK} (ho : okX11 lay) (a1 : Int32) (a2 : Int32) (a3 : Int32) : CtI l yX11_calm cX11_calm 5 (some .int) 4 104 lay (fun h => c_X11_calm a1 a2 a3 h) (fun ad => [.ref (ad 0), .int a1, .int a2, .int a3]) := by
  refine CtI.mk' RX11 (by decide) rfl (fun _ => Nat.le_of_ble_eq_true rfl) ?_
  intro p0 e s m args below meth c D G A H0 ad X h r0 H ls Q hM hw hl hf hR
  have hl : lv_has ls 5 [(0, .ref (ad 0)), (1, .int a1), (2, .int a2), (3, .int a3)] := hl
  unfold c_X11_calm at hf
  refine lv_aload_n hM.1 hM.2.1 dX11_calm_0 rfl (lv_at hl 0 rfl) ?_
  refine gf_X11_text hM hw (okX11.o ho) fl_X11_30 dX11_calm_1 ?_
  refine x_nmr hf (fun t1 hf => ?_)
  obtain ⟨hok_t1, hf⟩ := x_cond hf
  refine lv_iload_n hM.1 hM.2.1 dX11_calm_4 rfl (lv_at hl 1 rfl) ?_
  refine x_callVIr (rest := []) hM hw (ct_X9_isExcuse l (okX11.textOf ho hok_t1) a1) [.int a1] (okX9.o (okX11.textOf ho hok_t1)) rfl rfl rfl (gi_V ml_X11_141 im_X9_isExcuse sl_X9_isExcuse in_X9 kc_X9_isExcuse) hd_X9_isExcuse rfl ⟨Nat.le_of_ble_eq_true rfl, Nat.le_of_ble_eq_true rfl⟩ rfl (Nat.le_of_ble_eq_true rfl) hl.1 hcs0 hf dX11_calm_5 (fun r2 H locs hf hw => ?_)
  refine x_if_eq (tgt := 29) hM hf dX11_calm_8 (by decide) (fun hf => ?_) (fun hf => ?_)
  · refine lv_iconst (v := (-1)) hM.1 hM.2.1 dX11_calm_29 ic_m1 ?_
    exact hR _ _ _ _ _ _ _ (Option.some.inj hf) rfl rfl hw dX11_calm_30
  refine lv_aload_n hM.1 hM.2.1 dX11_calm_11 rfl (lv_at hl 0 rfl) ?_
  refine gf_X11_text hM hw (okX11.o ho) fl_X11_30 dX11_calm_12 ?_
  refine x_nmr hf (fun t3 hf => ?_)
  obtain ⟨hok_t3, hf⟩ := x_cond hf
  refine lv_iload_n hM.1 hM.2.1 dX11_calm_15 rfl (lv_at hl 2 rfl) ?_
  refine x_callVIr (rest := []) hM hw (ct_X9_isMan l (okX11.textOf ho hok_t3) a2) [.int a2] (okX9.o (okX11.textOf ho hok_t3)) rfl rfl rfl (gi_V ml_X11_119 im_X9_isMan sl_X9_isMan in_X9 kc_X9_isMan) hd_X9_isMan rfl ⟨Nat.le_of_ble_eq_true rfl, Nat.le_of_ble_eq_true rfl⟩ rfl (Nat.le_of_ble_eq_true rfl) hl.1 hcs0 hf dX11_calm_16 (fun r4 H locs hf hw => ?_)
  refine x_if_eq (tgt := 29) hM hf dX11_calm_19 (by decide) (fun hf => ?_) (fun hf => ?_)
  · refine lv_iconst (v := (-1)) hM.1 hM.2.1 dX11_calm_29 ic_m1 ?_
    exact hR _ _ _ _ _ _ _ (Option.some.inj hf) rfl rfl hw dX11_calm_30
  refine lv_iload_n hM.1 hM.2.1 dX11_calm_22 rfl (lv_at hl 3 rfl) ?_
  refine x_callSIr (rest := []) hM hw (ct_X11_isPercent l a3) [.int a3] rfl (gi_S ml_X11_240 sm_X11_isPercent in_X11 kc_X11_isPercent) hd_X11_isPercent rfl ⟨Nat.le_of_ble_eq_true rfl, Nat.le_of_ble_eq_true rfl⟩ rfl (Nat.le_of_ble_eq_true rfl) hl.1 hcs0 hf dX11_calm_23 (fun r5 H locs hf hw => ?_)
  refine x_if_ne (tgt := 31) hM hf dX11_calm_26 (by decide) (fun hf => ?_) (fun hf => ?_)
  · refine lv_aload_n hM.1 hM.2.1 dX11_calm_31 rfl (lv_at hl 0 rfl) ?_
    refine gf_X11_ahead hM hw (okX11.o ho) fl_X11_41 dX11_calm_32 ?_
    refine lv_aload_n hM.1 hM.2.1 dX11_calm_35 rfl (lv_at hl 0 rfl) ?_
    refine gf_X11_now hM hw (okX11.o ho) fl_X11_37 dX11_calm_36 ?_
    refine x_callVV (rest := []) hM hw (ct_X8_copy l (okX11.ahead ho) (okX11.now ho)) [.ref (ad 78)] (okX8.o (okX11.ahead ho)) rfl rfl rfl (gi_V ml_X11_209 im_X8_copy sl_X8_copy in_X8 kc_X8_copy) hd_X8_copy rfl ⟨Nat.le_of_ble_eq_true rfl, Nat.le_of_ble_eq_true rfl⟩ rfl (Nat.le_of_ble_eq_true rfl) hl.1 hcs0 hf dX11_calm_39 (fun h6 H locs hf hw => ?_)
    refine lv_aload_n hM.1 hM.2.1 dX11_calm_42 rfl (lv_at hl 0 rfl) ?_
    refine gf_X11_now hM hw (okX11.o ho) fl_X11_37 dX11_calm_43 ?_
    refine gf_X8_today hM hw (okX8.o (okX11.now ho)) fl_X11_195 dX11_calm_46 ?_
    refine x_istore hM hf dX11_calm_49 hl (by decide) (fun v7 => [(4, .int v7), (0, .ref (ad 0)), (1, .int a1), (2, .int a2), (3, .int a3)]) (fun _ => rfl) (fun v7 ls hf hl => ?_)
    refine w_X11_calm_L51 hM ho (fun w15 h16 H locs ls hf hw hl => ?_) (fun h17 H locs ls hf hw hl => ?_) fu _ _ hf _ _ _ hw (lv_sub hl [1, 2, 3, 4, 0] rfl)
    · refine lv_iload hM.1 hM.2.1 dX11_calm_87 (lv_at hl 0 rfl) ?_
      exact hR _ _ _ _ _ _ _ (Option.some.inj hf) rfl rfl hw dX11_calm_89
    · refine lv_bipush (v := (-2)) hM.1 hM.2.1 dX11_calm_112 (by decide) ?_
      exact hR _ _ _ _ _ _ _ (Option.some.inj hf) rfl rfl hw dX11_calm_114
  refine lv_iconst (v := (-1)) hM.1 hM.2.1 dX11_calm_29 ic_m1 ?_
  exact hR _ _ _ _ _ _ _ (Option.some.inj hf) rfl rfl hw dX11_calm_30
theorem hd_X11_calm : yX11_calm.cls = RX11 ∧ yX11_calm.cls ≠ "java/lang/invoke/MethodHandle" ∧ yX11_calm.cls ≠ "java/lang/invoke/VarHandle" ∧ (parseMethodDescriptor yX11_calm.desc).map (fun d => d.parameters.length) = some 3 := ⟨rfl, by decide, by decide, by decide +kernel⟩
theorem dX11_isKind_0 : decode cX11_isKind 0 = .ok (.iload_n 0, 1) := by decide +kernel
theorem dX11_isKind_1 : decode cX11_isKind 1 = .ok (.ifCond .lt 13, 3) := by decide +kernel
theorem dX11_isKind_4 : decode cX11_isKind 4 = .ok (.iload_n 0, 1) := by decide +kernel
theorem dX11_isKind_5 : decode cX11_isKind 5 = .ok (.bipush 9, 2) := by decide +kernel
theorem dX11_isKind_7 : decode cX11_isKind 7 = .ok (.if_icmp .gt 7, 3) := by decide +kernel
theorem dX11_isKind_10 : decode cX11_isKind 10 = .ok (.iconst 1, 1) := by decide +kernel
theorem dX11_isKind_11 : decode cX11_isKind 11 = .ok (.goto 4, 3) := by decide +kernel
theorem dX11_isKind_14 : decode cX11_isKind 14 = .ok (.iconst 0, 1) := by decide +kernel
theorem dX11_isKind_15 : decode cX11_isKind 15 = .ok (.ireturn, 1) := by decide +kernel
def c_X11_isKind (a0 : Int32) : Option (Int32) :=
  if a0 < 0 then
    some 0
  else
    if 9 < a0 then
      some 0
    else
      some 1
set_option maxHeartbeats 4000000 in
set_option maxRecDepth 100000 in
theorem ct_X11_isKind (l : Launch) {lay : List KK} (a0 : Int32) : CtI l yX11_isKind cX11_isKind 1 (some .boolean) 0 0 lay (rd (fun _ => c_X11_isKind a0)) (fun _ => [.int a0]) := by
  refine CtI.mk' RX11 (by decide) rfl (fun _ => Nat.le_of_ble_eq_true rfl) ?_
  intro p0 e s m args below meth c D G A H0 ad X h r0 H ls Q hM hw hl hf hR
  have hl : lv_has ls 1 [(0, .int a0)] := hl
  obtain ⟨v0, hv0, hr0⟩ : ∃ v0, c_X11_isKind a0 = some v0 ∧ r0 = (v0, h) := rd_some hf
  subst hr0
  have hf := hv0
  unfold c_X11_isKind at hf
  refine lv_iload_n hM.1 hM.2.1 dX11_isKind_0 rfl (lv_at hl 0 rfl) ?_
  refine x_if_lt (tgt := 14) hM hf dX11_isKind_1 (by decide) (fun hf => ?_) (fun hf => ?_)
  · refine lv_iconst (v := 0) hM.1 hM.2.1 dX11_isKind_14 ic_0 ?_
    exact hR _ _ _ _ _ _ _ (congrArg (fun z => (z, _)) (Option.some.inj hf)) rfl (nar_z (by decide)) hw dX11_isKind_15
  refine lv_iload_n hM.1 hM.2.1 dX11_isKind_4 rfl (lv_at hl 0 rfl) ?_
  refine lv_bipush (v := 9) hM.1 hM.2.1 dX11_isKind_5 (by decide) ?_
  refine x_ic_gt (tgt := 14) hM hf dX11_isKind_7 (by decide) (fun hf => ?_) (fun hf => ?_)
  · refine lv_iconst (v := 0) hM.1 hM.2.1 dX11_isKind_14 ic_0 ?_
    exact hR _ _ _ _ _ _ _ (congrArg (fun z => (z, _)) (Option.some.inj hf)) rfl (nar_z (by decide)) hw dX11_isKind_15
  refine lv_iconst (v := 1) hM.1 hM.2.1 dX11_isKind_10 ic_1 ?_
  refine lv_goto (tgt := 15) hM.1 hM.2.1 dX11_isKind_11 (by decide) ?_
  exact hR _ _ _ _ _ _ _ (congrArg (fun z => (z, _)) (Option.some.inj hf)) rfl (nar_z (by decide)) hw dX11_isKind_15
theorem hd_X11_isKind : yX11_isKind.cls ≠ "java/lang/invoke/MethodHandle" ∧ yX11_isKind.cls ≠ "java/lang/invoke/VarHandle" ∧ (parseMethodDescriptor yX11_isKind.desc).map (fun d => d.parameters.length) = some 1 := ⟨by decide, by decide, by decide +kernel⟩
theorem dX11_say_0 : decode cX11_say 0 = .ok (.iload_n 1, 1) := by decide +kernel
theorem dX11_say_1 : decode cX11_say 1 = .ok (.invokestatic 261, 3) := by decide +kernel
theorem dX11_say_4 : decode cX11_say 4 = .ok (.ifCond .eq 31, 3) := by decide +kernel
theorem dX11_say_7 : decode cX11_say 7 = .ok (.iload_n 2, 1) := by decide +kernel
theorem dX11_say_8 : decode cX11_say 8 = .ok (.ifCond .lt 27, 3) := by decide +kernel
theorem dX11_say_11 : decode cX11_say 11 = .ok (.iload_n 3, 1) := by decide +kernel
theorem dX11_say_12 : decode cX11_say 12 = .ok (.bipush 120, 2) := by decide +kernel
theorem dX11_say_14 : decode cX11_say 14 = .ok (.if_icmp .gt 21, 3) := by decide +kernel
theorem dX11_say_17 : decode cX11_say 17 = .ok (.iload_n 2, 1) := by decide +kernel
theorem dX11_say_18 : decode cX11_say 18 = .ok (.iload_n 3, 1) := by decide +kernel
theorem dX11_say_19 : decode cX11_say 19 = .ok (.if_icmp .gt 16, 3) := by decide +kernel
theorem dX11_say_22 : decode cX11_say 22 = .ok (.iload 4, 2) := by decide +kernel
theorem dX11_say_24 : decode cX11_say 24 = .ok (.ifCond .lt 11, 3) := by decide +kernel
theorem dX11_say_27 : decode cX11_say 27 = .ok (.iload 4, 2) := by decide +kernel
theorem dX11_say_29 : decode cX11_say 29 = .ok (.sipush 9999, 3) := by decide +kernel
theorem dX11_say_32 : decode cX11_say 32 = .ok (.if_icmp .le 5, 3) := by decide +kernel
theorem dX11_say_35 : decode cX11_say 35 = .ok (.iconst (-1), 1) := by decide +kernel
theorem dX11_say_36 : decode cX11_say 36 = .ok (.ireturn, 1) := by decide +kernel
theorem dX11_say_37 : decode cX11_say 37 = .ok (.aload_n 0, 1) := by decide +kernel
theorem dX11_say_38 : decode cX11_say 38 = .ok (.getfield 83, 3) := by decide +kernel
theorem dX11_say_41 : decode cX11_say 41 = .ok (.iload_n 1, 1) := by decide +kernel
theorem dX11_say_42 : decode cX11_say 42 = .ok (.iload_n 2, 1) := by decide +kernel
theorem dX11_say_43 : decode cX11_say 43 = .ok (.iload_n 3, 1) := by decide +kernel
theorem dX11_say_44 : decode cX11_say 44 = .ok (.iload 4, 2) := by decide +kernel
theorem dX11_say_46 : decode cX11_say 46 = .ok (.invokevirtual 264, 3) := by decide +kernel
theorem dX11_say_49 : decode cX11_say 49 = .ok (.ireturn, 1) := by decide +kernel
def c_X11_say (a1 : Int32) (a2 : Int32) (a3 : Int32) (a4 : Int32) (h : PH) : Option (Int32 × PH) :=
  (c_X11_isKind a1).bind fun r1 =>
  if r1 = 0 then
    some ((-1), h)
  else
    if a2 < 0 then
      some ((-1), h)
    else
      if 120 < a3 then
        some ((-1), h)
      else
        if a3 < a2 then
          some ((-1), h)
        else
          if a4 < 0 then
            some ((-1), h)
          else
            if a4 ≤ 9999 then
              bind2 (c_X0_add 229 a1 a2 a3 a4 h) fun r2 h3 =>
              some (r2, h3)
            else
              some ((-1), h)
set_option maxHeartbeats 4000000 in
set_option maxRecDepth 100000 in
theorem ct_X11_say (l : Launch) {lay : List KK} (ho : okX11 lay) (a1 : Int32) (a2 : Int32) (a3 : Int32) (a4 : Int32) : CtI l yX11_say cX11_say 5 (some .int) 1 24 lay (fun h => c_X11_say a1 a2 a3 a4 h) (fun ad => [.ref (ad 0), .int a1, .int a2, .int a3, .int a4]) := by
  refine CtI.mk' RX11 (by decide) rfl (fun _ => Nat.le_of_ble_eq_true rfl) ?_
  intro p0 e s m args below meth c D G A H0 ad X h r0 H ls Q hM hw hl hf hR
  have hl : lv_has ls 5 [(0, .ref (ad 0)), (1, .int a1), (2, .int a2), (3, .int a3), (4, .int a4)] := hl
  unfold c_X11_say at hf
  refine lv_iload_n hM.1 hM.2.1 dX11_say_0 rfl (lv_at hl 1 rfl) ?_
  refine x_callSIr (rest := []) hM hw (ct_X11_isKind l a1) [.int a1] rfl (gi_S ml_X11_261 sm_X11_isKind in_X11 kc_X11_isKind) hd_X11_isKind rfl ⟨Nat.le_of_ble_eq_true rfl, Nat.le_of_ble_eq_true rfl⟩ rfl (Nat.le_of_ble_eq_true rfl) hl.1 hcs0 hf dX11_say_1 (fun r1 H locs hf hw => ?_)
  refine x_if_eq (tgt := 35) hM hf dX11_say_4 (by decide) (fun hf => ?_) (fun hf => ?_)
  · refine lv_iconst (v := (-1)) hM.1 hM.2.1 dX11_say_35 ic_m1 ?_
    exact hR _ _ _ _ _ _ _ (Option.some.inj hf) rfl rfl hw dX11_say_36
  refine lv_iload_n hM.1 hM.2.1 dX11_say_7 rfl (lv_at hl 2 rfl) ?_
  refine x_if_lt (tgt := 35) hM hf dX11_say_8 (by decide) (fun hf => ?_) (fun hf => ?_)
  · refine lv_iconst (v := (-1)) hM.1 hM.2.1 dX11_say_35 ic_m1 ?_
    exact hR _ _ _ _ _ _ _ (Option.some.inj hf) rfl rfl hw dX11_say_36
  refine lv_iload_n hM.1 hM.2.1 dX11_say_11 rfl (lv_at hl 3 rfl) ?_
  refine lv_bipush (v := 120) hM.1 hM.2.1 dX11_say_12 (by decide) ?_
  refine x_ic_gt (tgt := 35) hM hf dX11_say_14 (by decide) (fun hf => ?_) (fun hf => ?_)
  · refine lv_iconst (v := (-1)) hM.1 hM.2.1 dX11_say_35 ic_m1 ?_
    exact hR _ _ _ _ _ _ _ (Option.some.inj hf) rfl rfl hw dX11_say_36
  refine lv_iload_n hM.1 hM.2.1 dX11_say_17 rfl (lv_at hl 2 rfl) ?_
  refine lv_iload_n hM.1 hM.2.1 dX11_say_18 rfl (lv_at hl 3 rfl) ?_
  refine x_ic_gt (tgt := 35) hM hf dX11_say_19 (by decide) (fun hf => ?_) (fun hf => ?_)
  · refine lv_iconst (v := (-1)) hM.1 hM.2.1 dX11_say_35 ic_m1 ?_
    exact hR _ _ _ _ _ _ _ (Option.some.inj hf) rfl rfl hw dX11_say_36
  refine lv_iload hM.1 hM.2.1 dX11_say_22 (lv_at hl 4 rfl) ?_
  refine x_if_lt (tgt := 35) hM hf dX11_say_24 (by decide) (fun hf => ?_) (fun hf => ?_)
  · refine lv_iconst (v := (-1)) hM.1 hM.2.1 dX11_say_35 ic_m1 ?_
    exact hR _ _ _ _ _ _ _ (Option.some.inj hf) rfl rfl hw dX11_say_36
  refine lv_iload hM.1 hM.2.1 dX11_say_27 (lv_at hl 4 rfl) ?_
  refine lv_sipush (v := 9999) hM.1 hM.2.1 dX11_say_29 (by decide) ?_
  refine x_ic_le (tgt := 37) hM hf dX11_say_32 (by decide) (fun hf => ?_) (fun hf => ?_)
  · refine lv_aload_n hM.1 hM.2.1 dX11_say_37 rfl (lv_at hl 0 rfl) ?_
    refine gf_X11_aunts hM hw (okX11.o ho) fl_X11_83 dX11_say_38 ?_
    refine lv_iload_n hM.1 hM.2.1 dX11_say_41 rfl (lv_at hl 1 rfl) ?_
    refine lv_iload_n hM.1 hM.2.1 dX11_say_42 rfl (lv_at hl 2 rfl) ?_
    refine lv_iload_n hM.1 hM.2.1 dX11_say_43 rfl (lv_at hl 3 rfl) ?_
    refine lv_iload hM.1 hM.2.1 dX11_say_44 (lv_at hl 4 rfl) ?_
    refine x_callVI (rest := []) hM hw (ct_X0_add l (okX11.aunts ho) a1 a2 a3 a4) [.int a1, .int a2, .int a3, .int a4] (okX0.o (okX11.aunts ho)) rfl rfl rfl (gi_V ml_X11_264 im_X0_add sl_X0_add in_X0 kc_X0_add) hd_X0_add rfl ⟨Nat.le_of_ble_eq_true rfl, Nat.le_of_ble_eq_true rfl⟩ rfl (Nat.le_of_ble_eq_true rfl) hl.1 hcs0 hf dX11_say_46 (fun r2 h3 H locs hf hw => ?_)
    exact hR _ _ _ _ _ _ _ (Option.some.inj hf) rfl rfl hw dX11_say_49
  refine lv_iconst (v := (-1)) hM.1 hM.2.1 dX11_say_35 ic_m1 ?_
  exact hR _ _ _ _ _ _ _ (Option.some.inj hf) rfl rfl hw dX11_say_36
theorem hd_X11_say : yX11_say.cls = RX11 ∧ yX11_say.cls ≠ "java/lang/invoke/MethodHandle" ∧ yX11_say.cls ≠ "java/lang/invoke/VarHandle" ∧ (parseMethodDescriptor yX11_say.desc).map (fun d => d.parameters.length) = some 4 := ⟨rfl, by decide, by decide, by decide +kernel⟩
theorem dX11_span_0 : decode cX11_span 0 = .ok (.iload_n 1, 1) := by decide +kernel
theorem dX11_span_1 : decode cX11_span 1 = .ok (.invokestatic 261, 3) := by decide +kernel
theorem dX11_span_4 : decode cX11_span 4 = .ok (.ifCond .eq 27, 3) := by decide +kernel
theorem dX11_span_7 : decode cX11_span 7 = .ok (.iload_n 2, 1) := by decide +kernel
theorem dX11_span_8 : decode cX11_span 8 = .ok (.ifCond .lt 23, 3) := by decide +kernel
theorem dX11_span_11 : decode cX11_span 11 = .ok (.iload_n 2, 1) := by decide +kernel
theorem dX11_span_12 : decode cX11_span 12 = .ok (.aload_n 0, 1) := by decide +kernel
theorem dX11_span_13 : decode cX11_span 13 = .ok (.getfield 83, 3) := by decide +kernel
theorem dX11_span_16 : decode cX11_span 16 = .ok (.getfield 268, 3) := by decide +kernel
theorem dX11_span_19 : decode cX11_span 19 = .ok (.if_icmp .gt 12, 3) := by decide +kernel
theorem dX11_span_22 : decode cX11_span 22 = .ok (.iload_n 3, 1) := by decide +kernel
theorem dX11_span_23 : decode cX11_span 23 = .ok (.ifCond .lt 8, 3) := by decide +kernel
theorem dX11_span_26 : decode cX11_span 26 = .ok (.iload_n 3, 1) := by decide +kernel
theorem dX11_span_27 : decode cX11_span 27 = .ok (.iconst 1, 1) := by decide +kernel
theorem dX11_span_28 : decode cX11_span 28 = .ok (.if_icmp .le 5, 3) := by decide +kernel
theorem dX11_span_31 : decode cX11_span 31 = .ok (.iconst (-1), 1) := by decide +kernel
theorem dX11_span_32 : decode cX11_span 32 = .ok (.ireturn, 1) := by decide +kernel
theorem dX11_span_33 : decode cX11_span 33 = .ok (.aload_n 0, 1) := by decide +kernel
theorem dX11_span_34 : decode cX11_span 34 = .ok (.getfield 83, 3) := by decide +kernel
theorem dX11_span_37 : decode cX11_span 37 = .ok (.iload_n 1, 1) := by decide +kernel
theorem dX11_span_38 : decode cX11_span 38 = .ok (.iload_n 2, 1) := by decide +kernel
theorem dX11_span_39 : decode cX11_span 39 = .ok (.invokevirtual 271, 3) := by decide +kernel
theorem dX11_span_42 : decode cX11_span 42 = .ok (.istore 4, 2) := by decide +kernel
theorem dX11_span_44 : decode cX11_span 44 = .ok (.aload_n 0, 1) := by decide +kernel
theorem dX11_span_45 : decode cX11_span 45 = .ok (.getfield 83, 3) := by decide +kernel
theorem dX11_span_48 : decode cX11_span 48 = .ok (.iload_n 1, 1) := by decide +kernel
theorem dX11_span_49 : decode cX11_span 49 = .ok (.iload_n 2, 1) := by decide +kernel
theorem dX11_span_50 : decode cX11_span 50 = .ok (.invokevirtual 274, 3) := by decide +kernel
theorem dX11_span_53 : decode cX11_span 53 = .ok (.istore 5, 2) := by decide +kernel
theorem dX11_span_55 : decode cX11_span 55 = .ok (.iload 4, 2) := by decide +kernel
theorem dX11_span_57 : decode cX11_span 57 = .ok (.iload 5, 2) := by decide +kernel
theorem dX11_span_59 : decode cX11_span 59 = .ok (.if_icmp .le 6, 3) := by decide +kernel
theorem dX11_span_62 : decode cX11_span 62 = .ok (.bipush (-2), 2) := by decide +kernel
theorem dX11_span_64 : decode cX11_span 64 = .ok (.ireturn, 1) := by decide +kernel
theorem dX11_span_65 : decode cX11_span 65 = .ok (.iload_n 3, 1) := by decide +kernel
theorem dX11_span_66 : decode cX11_span 66 = .ok (.ifCond .ne 8, 3) := by decide +kernel
theorem dX11_span_69 : decode cX11_span 69 = .ok (.iload 4, 2) := by decide +kernel
theorem dX11_span_71 : decode cX11_span 71 = .ok (.goto 5, 3) := by decide +kernel
theorem dX11_span_74 : decode cX11_span 74 = .ok (.iload 5, 2) := by decide +kernel
theorem dX11_span_76 : decode cX11_span 76 = .ok (.ireturn, 1) := by decide +kernel
def c_X11_span (a1 : Int32) (a2 : Int32) (a3 : Int32) (h : PH) : Option (Int32) :=
  (c_X11_isKind a1).bind fun r1 =>
  if r1 = 0 then
    some (-1)
  else
    if a2 < 0 then
      some (-1)
    else
      if (h.1 229 4) < a2 then
        some (-1)
      else
        if a3 < 0 then
          some (-1)
        else
          if a3 ≤ 1 then
            (c_X0_leastAge 229 a1 a2 h).bind fun r2 =>
            nm r2 fun v3 =>
            (c_X0_greatestAge 229 a1 a2 h).bind fun r4 =>
            nm r4 fun v5 =>
            if v3 ≤ v5 then
              if a3 = 0 then
                some v3
              else
                some v5
            else
              some (-2)
          else
            some (-1)
set_option maxHeartbeats 4000000 in
set_option maxRecDepth 100000 in
theorem ct_X11_span (l : Launch) {lay : List KK} (ho : okX11 lay) (a1 : Int32) (a2 : Int32) (a3 : Int32) : CtI l yX11_span cX11_span 6 (some .int) 2 45 lay (rd (fun h => c_X11_span a1 a2 a3 h)) (fun ad => [.ref (ad 0), .int a1, .int a2, .int a3]) := by
  refine CtI.mk' RX11 (by decide) rfl (fun _ => Nat.le_of_ble_eq_true rfl) ?_
  intro p0 e s m args below meth c D G A H0 ad X h r0 H ls Q hM hw hl hf hR
  have hl : lv_has ls 6 [(0, .ref (ad 0)), (1, .int a1), (2, .int a2), (3, .int a3)] := hl
  obtain ⟨v0, hv0, hr0⟩ : ∃ v0, c_X11_span a1 a2 a3 h = some v0 ∧ r0 = (v0, h) := rd_some hf
  subst hr0
  have hf := hv0
  unfold c_X11_span at hf
  refine lv_iload_n hM.1 hM.2.1 dX11_span_0 rfl (lv_at hl 1 rfl) ?_
  refine x_callSIr (rest := []) hM hw (ct_X11_isKind l a1) [.int a1] rfl (gi_S ml_X11_261 sm_X11_isKind in_X11 kc_X11_isKind) hd_X11_isKind rfl ⟨Nat.le_of_ble_eq_true rfl, Nat.le_of_ble_eq_true rfl⟩ rfl (Nat.le_of_ble_eq_true rfl) hl.1 hcs0 hf dX11_span_1 (fun r1 H locs hf hw => ?_)
  refine x_if_eq (tgt := 31) hM hf dX11_span_4 (by decide) (fun hf => ?_) (fun hf => ?_)
  · refine lv_iconst (v := (-1)) hM.1 hM.2.1 dX11_span_31 ic_m1 ?_
    exact hR _ _ _ _ _ _ _ (congrArg (fun z => (z, _)) (Option.some.inj hf)) rfl rfl hw dX11_span_32
  refine lv_iload_n hM.1 hM.2.1 dX11_span_7 rfl (lv_at hl 2 rfl) ?_
  refine x_if_lt (tgt := 31) hM hf dX11_span_8 (by decide) (fun hf => ?_) (fun hf => ?_)
  · refine lv_iconst (v := (-1)) hM.1 hM.2.1 dX11_span_31 ic_m1 ?_
    exact hR _ _ _ _ _ _ _ (congrArg (fun z => (z, _)) (Option.some.inj hf)) rfl rfl hw dX11_span_32
  refine lv_iload_n hM.1 hM.2.1 dX11_span_11 rfl (lv_at hl 2 rfl) ?_
  refine lv_aload_n hM.1 hM.2.1 dX11_span_12 rfl (lv_at hl 0 rfl) ?_
  refine gf_X11_aunts hM hw (okX11.o ho) fl_X11_83 dX11_span_13 ?_
  refine gf_X0_count hM hw (okX0.o (okX11.aunts ho)) fl_X11_268 dX11_span_16 ?_
  refine x_ic_gt (tgt := 31) hM hf dX11_span_19 (by decide) (fun hf => ?_) (fun hf => ?_)
  · refine lv_iconst (v := (-1)) hM.1 hM.2.1 dX11_span_31 ic_m1 ?_
    exact hR _ _ _ _ _ _ _ (congrArg (fun z => (z, _)) (Option.some.inj hf)) rfl rfl hw dX11_span_32
  refine lv_iload_n hM.1 hM.2.1 dX11_span_22 rfl (lv_at hl 3 rfl) ?_
  refine x_if_lt (tgt := 31) hM hf dX11_span_23 (by decide) (fun hf => ?_) (fun hf => ?_)
  · refine lv_iconst (v := (-1)) hM.1 hM.2.1 dX11_span_31 ic_m1 ?_
    exact hR _ _ _ _ _ _ _ (congrArg (fun z => (z, _)) (Option.some.inj hf)) rfl rfl hw dX11_span_32
  refine lv_iload_n hM.1 hM.2.1 dX11_span_26 rfl (lv_at hl 3 rfl) ?_
  refine lv_iconst (v := 1) hM.1 hM.2.1 dX11_span_27 ic_1 ?_
  refine x_ic_le (tgt := 33) hM hf dX11_span_28 (by decide) (fun hf => ?_) (fun hf => ?_)
  · refine lv_aload_n hM.1 hM.2.1 dX11_span_33 rfl (lv_at hl 0 rfl) ?_
    refine gf_X11_aunts hM hw (okX11.o ho) fl_X11_83 dX11_span_34 ?_
    refine lv_iload_n hM.1 hM.2.1 dX11_span_37 rfl (lv_at hl 1 rfl) ?_
    refine lv_iload_n hM.1 hM.2.1 dX11_span_38 rfl (lv_at hl 2 rfl) ?_
    refine x_callVIr (rest := []) hM hw (ct_X0_leastAge l (okX11.aunts ho) a1 a2) [.int a1, .int a2] (okX0.o (okX11.aunts ho)) rfl rfl rfl (gi_V ml_X11_271 im_X0_leastAge sl_X0_leastAge in_X0 kc_X0_leastAge) hd_X0_leastAge rfl ⟨Nat.le_of_ble_eq_true rfl, Nat.le_of_ble_eq_true rfl⟩ rfl (Nat.le_of_ble_eq_true rfl) hl.1 hcs0 hf dX11_span_39 (fun r2 H locs hf hw => ?_)
    refine x_istore hM hf dX11_span_42 hl (by decide) (fun v3 => [(4, .int v3), (0, .ref (ad 0)), (1, .int a1), (2, .int a2), (3, .int a3)]) (fun _ => rfl) (fun v3 ls hf hl => ?_)
    refine lv_aload_n hM.1 hM.2.1 dX11_span_44 rfl (lv_at hl 1 rfl) ?_
    refine gf_X11_aunts hM hw (okX11.o ho) fl_X11_83 dX11_span_45 ?_
    refine lv_iload_n hM.1 hM.2.1 dX11_span_48 rfl (lv_at hl 2 rfl) ?_
    refine lv_iload_n hM.1 hM.2.1 dX11_span_49 rfl (lv_at hl 3 rfl) ?_
    refine x_callVIr (rest := []) hM hw (ct_X0_greatestAge l (okX11.aunts ho) a1 a2) [.int a1, .int a2] (okX0.o (okX11.aunts ho)) rfl rfl rfl (gi_V ml_X11_274 im_X0_greatestAge sl_X0_greatestAge in_X0 kc_X0_greatestAge) hd_X0_greatestAge rfl ⟨Nat.le_of_ble_eq_true rfl, Nat.le_of_ble_eq_true rfl⟩ rfl (Nat.le_of_ble_eq_true rfl) hl.1 hcs0 hf dX11_span_50 (fun r4 H locs hf hw => ?_)
    refine x_istore hM hf dX11_span_53 hl (by decide) (fun v5 => [(5, .int v5), (4, .int v3), (0, .ref (ad 0)), (1, .int a1), (2, .int a2), (3, .int a3)]) (fun _ => rfl) (fun v5 ls hf hl => ?_)
    refine lv_iload hM.1 hM.2.1 dX11_span_55 (lv_at hl 1 rfl) ?_
    refine lv_iload hM.1 hM.2.1 dX11_span_57 (lv_at hl 0 rfl) ?_
    refine x_ic_le (tgt := 65) hM hf dX11_span_59 (by decide) (fun hf => ?_) (fun hf => ?_)
    · refine lv_iload_n hM.1 hM.2.1 dX11_span_65 rfl (lv_at hl 5 rfl) ?_
      refine x_if_ne (tgt := 74) hM hf dX11_span_66 (by decide) (fun hf => ?_) (fun hf => ?_)
      · refine lv_iload hM.1 hM.2.1 dX11_span_74 (lv_at hl 0 rfl) ?_
        exact hR _ _ _ _ _ _ _ (congrArg (fun z => (z, _)) (Option.some.inj hf)) rfl rfl hw dX11_span_76
      refine lv_iload hM.1 hM.2.1 dX11_span_69 (lv_at hl 1 rfl) ?_
      refine lv_goto (tgt := 76) hM.1 hM.2.1 dX11_span_71 (by decide) ?_
      exact hR _ _ _ _ _ _ _ (congrArg (fun z => (z, _)) (Option.some.inj hf)) rfl rfl hw dX11_span_76
    refine lv_bipush (v := (-2)) hM.1 hM.2.1 dX11_span_62 (by decide) ?_
    exact hR _ _ _ _ _ _ _ (congrArg (fun z => (z, _)) (Option.some.inj hf)) rfl rfl hw dX11_span_64
  refine lv_iconst (v := (-1)) hM.1 hM.2.1 dX11_span_31 ic_m1 ?_
  exact hR _ _ _ _ _ _ _ (congrArg (fun z => (z, _)) (Option.some.inj hf)) rfl rfl hw dX11_span_32
theorem hd_X11_span : yX11_span.cls = RX11 ∧ yX11_span.cls ≠ "java/lang/invoke/MethodHandle" ∧ yX11_span.cls ≠ "java/lang/invoke/VarHandle" ∧ (parseMethodDescriptor yX11_span.desc).map (fun d => d.parameters.length) = some 3 := ⟨rfl, by decide, by decide, by decide +kernel⟩
theorem dX11_know_0 : decode cX11_know 0 = .ok (.aload_n 0, 1) := by decide +kernel
theorem dX11_know_1 : decode cX11_know 1 = .ok (.getfield 30, 3) := by decide +kernel
theorem dX11_know_4 : decode cX11_know 4 = .ok (.iload_n 1, 1) := by decide +kernel
theorem dX11_know_5 : decode cX11_know 5 = .ok (.invokevirtual 141, 3) := by decide +kernel
theorem dX11_know_8 : decode cX11_know 8 = .ok (.ifCond .eq 24, 3) := by decide +kernel
theorem dX11_know_11 : decode cX11_know 11 = .ok (.aload_n 0, 1) := by decide +kernel
theorem dX11_know_12 : decode cX11_know 12 = .ok (.getfield 30, 3) := by decide +kernel
theorem dX11_know_15 : decode cX11_know 15 = .ok (.iload_n 2, 1) := by decide +kernel
theorem dX11_know_16 : decode cX11_know 16 = .ok (.invokevirtual 119, 3) := by decide +kernel
theorem dX11_know_19 : decode cX11_know 19 = .ok (.ifCond .eq 13, 3) := by decide +kernel
theorem dX11_know_22 : decode cX11_know 22 = .ok (.iload_n 3, 1) := by decide +kernel
theorem dX11_know_23 : decode cX11_know 23 = .ok (.ifCond .lt 9, 3) := by decide +kernel
theorem dX11_know_26 : decode cX11_know 26 = .ok (.iload_n 3, 1) := by decide +kernel
theorem dX11_know_27 : decode cX11_know 27 = .ok (.bipush 9, 2) := by decide +kernel
theorem dX11_know_29 : decode cX11_know 29 = .ok (.if_icmp .le 5, 3) := by decide +kernel
theorem dX11_know_32 : decode cX11_know 32 = .ok (.iconst (-1), 1) := by decide +kernel
theorem dX11_know_33 : decode cX11_know 33 = .ok (.ireturn, 1) := by decide +kernel
theorem dX11_know_34 : decode cX11_know 34 = .ok (.aload_n 0, 1) := by decide +kernel
theorem dX11_know_35 : decode cX11_know 35 = .ok (.getfield 90, 3) := by decide +kernel
theorem dX11_know_38 : decode cX11_know 38 = .ok (.iload_n 1, 1) := by decide +kernel
theorem dX11_know_39 : decode cX11_know 39 = .ok (.iload_n 2, 1) := by decide +kernel
theorem dX11_know_40 : decode cX11_know 40 = .ok (.iload_n 3, 1) := by decide +kernel
theorem dX11_know_41 : decode cX11_know 41 = .ok (.invokevirtual 277, 3) := by decide +kernel
theorem dX11_know_44 : decode cX11_know 44 = .ok (.ireturn, 1) := by decide +kernel
def c_X11_know (a1 : Int32) (a2 : Int32) (a3 : Int32) (h : PH) : Option (Int32 × PH) :=
  nm (h.2.2 0 4) fun t1 =>
  gd (tOK t1) <|
  (c_X9_isExcuse t1 a1 h).bind fun r2 =>
  if r2 = 0 then
    some ((-1), h)
  else
    nm (h.2.2 0 4) fun t3 =>
    gd (tOK t3) <|
    (c_X9_isMan t3 a2 h).bind fun r4 =>
    if r4 = 0 then
      some ((-1), h)
    else
      if a3 < 0 then
        some ((-1), h)
      else
        if a3 ≤ 9 then
          bind2 (c_X6_add 234 a1 a2 a3 h) fun r5 h6 =>
          some (r5, h6)
        else
          some ((-1), h)
set_option maxHeartbeats 4000000 in
set_option maxRecDepth 100000 in
theorem ct_X11_know (l : Launch) {lay : List KK} (ho : okX11 lay) (a1 : Int32) (a2 : Int32) (a3 : Int32) : CtI l yX11_know cX11_know 4 (some .int) 1 23 lay (fun h => c_X11_know a1 a2 a3 h) (fun ad => [.ref (ad 0), .int a1, .int a2, .int a3]) := by
  refine CtI.mk' RX11 (by decide) rfl (fun _ => Nat.le_of_ble_eq_true rfl) ?_
  intro p0 e s m args below meth c D G A H0 ad X h r0 H ls Q hM hw hl hf hR
  have hl : lv_has ls 4 [(0, .ref (ad 0)), (1, .int a1), (2, .int a2), (3, .int a3)] := hl
  unfold c_X11_know at hf
  refine lv_aload_n hM.1 hM.2.1 dX11_know_0 rfl (lv_at hl 0 rfl) ?_
  refine gf_X11_text hM hw (okX11.o ho) fl_X11_30 dX11_know_1 ?_
  refine x_nmr hf (fun t1 hf => ?_)
  obtain ⟨hok_t1, hf⟩ := x_cond hf
  refine lv_iload_n hM.1 hM.2.1 dX11_know_4 rfl (lv_at hl 1 rfl) ?_
  refine x_callVIr (rest := []) hM hw (ct_X9_isExcuse l (okX11.textOf ho hok_t1) a1) [.int a1] (okX9.o (okX11.textOf ho hok_t1)) rfl rfl rfl (gi_V ml_X11_141 im_X9_isExcuse sl_X9_isExcuse in_X9 kc_X9_isExcuse) hd_X9_isExcuse rfl ⟨Nat.le_of_ble_eq_true rfl, Nat.le_of_ble_eq_true rfl⟩ rfl (Nat.le_of_ble_eq_true rfl) hl.1 hcs0 hf dX11_know_5 (fun r2 H locs hf hw => ?_)
  refine x_if_eq (tgt := 32) hM hf dX11_know_8 (by decide) (fun hf => ?_) (fun hf => ?_)
  · refine lv_iconst (v := (-1)) hM.1 hM.2.1 dX11_know_32 ic_m1 ?_
    exact hR _ _ _ _ _ _ _ (Option.some.inj hf) rfl rfl hw dX11_know_33
  refine lv_aload_n hM.1 hM.2.1 dX11_know_11 rfl (lv_at hl 0 rfl) ?_
  refine gf_X11_text hM hw (okX11.o ho) fl_X11_30 dX11_know_12 ?_
  refine x_nmr hf (fun t3 hf => ?_)
  obtain ⟨hok_t3, hf⟩ := x_cond hf
  refine lv_iload_n hM.1 hM.2.1 dX11_know_15 rfl (lv_at hl 2 rfl) ?_
  refine x_callVIr (rest := []) hM hw (ct_X9_isMan l (okX11.textOf ho hok_t3) a2) [.int a2] (okX9.o (okX11.textOf ho hok_t3)) rfl rfl rfl (gi_V ml_X11_119 im_X9_isMan sl_X9_isMan in_X9 kc_X9_isMan) hd_X9_isMan rfl ⟨Nat.le_of_ble_eq_true rfl, Nat.le_of_ble_eq_true rfl⟩ rfl (Nat.le_of_ble_eq_true rfl) hl.1 hcs0 hf dX11_know_16 (fun r4 H locs hf hw => ?_)
  refine x_if_eq (tgt := 32) hM hf dX11_know_19 (by decide) (fun hf => ?_) (fun hf => ?_)
  · refine lv_iconst (v := (-1)) hM.1 hM.2.1 dX11_know_32 ic_m1 ?_
    exact hR _ _ _ _ _ _ _ (Option.some.inj hf) rfl rfl hw dX11_know_33
  refine lv_iload_n hM.1 hM.2.1 dX11_know_22 rfl (lv_at hl 3 rfl) ?_
  refine x_if_lt (tgt := 32) hM hf dX11_know_23 (by decide) (fun hf => ?_) (fun hf => ?_)
  · refine lv_iconst (v := (-1)) hM.1 hM.2.1 dX11_know_32 ic_m1 ?_
    exact hR _ _ _ _ _ _ _ (Option.some.inj hf) rfl rfl hw dX11_know_33
  refine lv_iload_n hM.1 hM.2.1 dX11_know_26 rfl (lv_at hl 3 rfl) ?_
  refine lv_bipush (v := 9) hM.1 hM.2.1 dX11_know_27 (by decide) ?_
  refine x_ic_le (tgt := 34) hM hf dX11_know_29 (by decide) (fun hf => ?_) (fun hf => ?_)
  · refine lv_aload_n hM.1 hM.2.1 dX11_know_34 rfl (lv_at hl 0 rfl) ?_
    refine gf_X11_records hM hw (okX11.o ho) fl_X11_90 dX11_know_35 ?_
    refine lv_iload_n hM.1 hM.2.1 dX11_know_38 rfl (lv_at hl 1 rfl) ?_
    refine lv_iload_n hM.1 hM.2.1 dX11_know_39 rfl (lv_at hl 2 rfl) ?_
    refine lv_iload_n hM.1 hM.2.1 dX11_know_40 rfl (lv_at hl 3 rfl) ?_
    refine x_callVI (rest := []) hM hw (ct_X6_add l (okX11.records ho) a1 a2 a3) [.int a1, .int a2, .int a3] (okX6.o (okX11.records ho)) rfl rfl rfl (gi_V ml_X11_277 im_X6_add sl_X6_add in_X6 kc_X6_add) hd_X6_add rfl ⟨Nat.le_of_ble_eq_true rfl, Nat.le_of_ble_eq_true rfl⟩ rfl (Nat.le_of_ble_eq_true rfl) hl.1 hcs0 hf dX11_know_41 (fun r5 h6 H locs hf hw => ?_)
    exact hR _ _ _ _ _ _ _ (Option.some.inj hf) rfl rfl hw dX11_know_44
  refine lv_iconst (v := (-1)) hM.1 hM.2.1 dX11_know_32 ic_m1 ?_
  exact hR _ _ _ _ _ _ _ (Option.some.inj hf) rfl rfl hw dX11_know_33
theorem hd_X11_know : yX11_know.cls = RX11 ∧ yX11_know.cls ≠ "java/lang/invoke/MethodHandle" ∧ yX11_know.cls ≠ "java/lang/invoke/VarHandle" ∧ (parseMethodDescriptor yX11_know.desc).map (fun d => d.parameters.length) = some 3 := ⟨rfl, by decide, by decide, by decide +kernel⟩
theorem dX11_fits_0 : decode cX11_fits 0 = .ok (.aload_n 0, 1) := by decide +kernel
theorem dX11_fits_1 : decode cX11_fits 1 = .ok (.getfield 30, 3) := by decide +kernel
theorem dX11_fits_4 : decode cX11_fits 4 = .ok (.iload_n 1, 1) := by decide +kernel
theorem dX11_fits_5 : decode cX11_fits 5 = .ok (.invokevirtual 119, 3) := by decide +kernel
theorem dX11_fits_8 : decode cX11_fits 8 = .ok (.ifCond .eq 18, 3) := by decide +kernel
theorem dX11_fits_11 : decode cX11_fits 11 = .ok (.iload_n 2, 1) := by decide +kernel
theorem dX11_fits_12 : decode cX11_fits 12 = .ok (.ifCond .lt 14, 3) := by decide +kernel
theorem dX11_fits_15 : decode cX11_fits 15 = .ok (.iload_n 2, 1) := by decide +kernel
theorem dX11_fits_16 : decode cX11_fits 16 = .ok (.aload_n 0, 1) := by decide +kernel
theorem dX11_fits_17 : decode cX11_fits 17 = .ok (.getfield 90, 3) := by decide +kernel
theorem dX11_fits_20 : decode cX11_fits 20 = .ok (.getfield 280, 3) := by decide +kernel
theorem dX11_fits_23 : decode cX11_fits 23 = .ok (.if_icmp .le 5, 3) := by decide +kernel
theorem dX11_fits_26 : decode cX11_fits 26 = .ok (.iconst (-1), 1) := by decide +kernel
theorem dX11_fits_27 : decode cX11_fits 27 = .ok (.ireturn, 1) := by decide +kernel
theorem dX11_fits_28 : decode cX11_fits 28 = .ok (.aload_n 0, 1) := by decide +kernel
theorem dX11_fits_29 : decode cX11_fits 29 = .ok (.getfield 90, 3) := by decide +kernel
theorem dX11_fits_32 : decode cX11_fits 32 = .ok (.aload_n 0, 1) := by decide +kernel
theorem dX11_fits_33 : decode cX11_fits 33 = .ok (.getfield 30, 3) := by decide +kernel
theorem dX11_fits_36 : decode cX11_fits 36 = .ok (.iload_n 1, 1) := by decide +kernel
theorem dX11_fits_37 : decode cX11_fits 37 = .ok (.iload_n 2, 1) := by decide +kernel
theorem dX11_fits_38 : decode cX11_fits 38 = .ok (.invokevirtual 281, 3) := by decide +kernel
theorem dX11_fits_41 : decode cX11_fits 41 = .ok (.ireturn, 1) := by decide +kernel
def c_X11_fits (a1 : Int32) (a2 : Int32) (h : PH) : Option (Int32 × PH) :=
  nm (h.2.2 0 4) fun t1 =>
  gd (tOK t1) <|
  (c_X9_isMan t1 a1 h).bind fun r2 =>
  if r2 = 0 then
    some ((-1), h)
  else
    if a2 < 0 then
      some ((-1), h)
    else
      if a2 ≤ (h.1 234 4) then
        nm (h.2.2 0 4) fun t3 =>
        gd (tOK t3) <|
        bind2 (c_X6_ways 234 t3 a1 a2 h) fun r4 h5 =>
        some (r4, h5)
      else
        some ((-1), h)
set_option maxHeartbeats 4000000 in
set_option maxRecDepth 100000 in
theorem ct_X11_fits (l : Launch) {lay : List KK} (ho : okX11 lay) (a1 : Int32) (a2 : Int32) : CtI l yX11_fits cX11_fits 3 (some .int) 2 51 lay (fun h => c_X11_fits a1 a2 h) (fun ad => [.ref (ad 0), .int a1, .int a2]) := by
  refine CtI.mk' RX11 (by decide) rfl (fun _ => Nat.le_of_ble_eq_true rfl) ?_
  intro p0 e s m args below meth c D G A H0 ad X h r0 H ls Q hM hw hl hf hR
  have hl : lv_has ls 3 [(0, .ref (ad 0)), (1, .int a1), (2, .int a2)] := hl
  unfold c_X11_fits at hf
  refine lv_aload_n hM.1 hM.2.1 dX11_fits_0 rfl (lv_at hl 0 rfl) ?_
  refine gf_X11_text hM hw (okX11.o ho) fl_X11_30 dX11_fits_1 ?_
  refine x_nmr hf (fun t1 hf => ?_)
  obtain ⟨hok_t1, hf⟩ := x_cond hf
  refine lv_iload_n hM.1 hM.2.1 dX11_fits_4 rfl (lv_at hl 1 rfl) ?_
  refine x_callVIr (rest := []) hM hw (ct_X9_isMan l (okX11.textOf ho hok_t1) a1) [.int a1] (okX9.o (okX11.textOf ho hok_t1)) rfl rfl rfl (gi_V ml_X11_119 im_X9_isMan sl_X9_isMan in_X9 kc_X9_isMan) hd_X9_isMan rfl ⟨Nat.le_of_ble_eq_true rfl, Nat.le_of_ble_eq_true rfl⟩ rfl (Nat.le_of_ble_eq_true rfl) hl.1 hcs0 hf dX11_fits_5 (fun r2 H locs hf hw => ?_)
  refine x_if_eq (tgt := 26) hM hf dX11_fits_8 (by decide) (fun hf => ?_) (fun hf => ?_)
  · refine lv_iconst (v := (-1)) hM.1 hM.2.1 dX11_fits_26 ic_m1 ?_
    exact hR _ _ _ _ _ _ _ (Option.some.inj hf) rfl rfl hw dX11_fits_27
  refine lv_iload_n hM.1 hM.2.1 dX11_fits_11 rfl (lv_at hl 2 rfl) ?_
  refine x_if_lt (tgt := 26) hM hf dX11_fits_12 (by decide) (fun hf => ?_) (fun hf => ?_)
  · refine lv_iconst (v := (-1)) hM.1 hM.2.1 dX11_fits_26 ic_m1 ?_
    exact hR _ _ _ _ _ _ _ (Option.some.inj hf) rfl rfl hw dX11_fits_27
  refine lv_iload_n hM.1 hM.2.1 dX11_fits_15 rfl (lv_at hl 2 rfl) ?_
  refine lv_aload_n hM.1 hM.2.1 dX11_fits_16 rfl (lv_at hl 0 rfl) ?_
  refine gf_X11_records hM hw (okX11.o ho) fl_X11_90 dX11_fits_17 ?_
  refine gf_X6_count hM hw (okX6.o (okX11.records ho)) fl_X11_280 dX11_fits_20 ?_
  refine x_ic_le (tgt := 28) hM hf dX11_fits_23 (by decide) (fun hf => ?_) (fun hf => ?_)
  · refine lv_aload_n hM.1 hM.2.1 dX11_fits_28 rfl (lv_at hl 0 rfl) ?_
    refine gf_X11_records hM hw (okX11.o ho) fl_X11_90 dX11_fits_29 ?_
    refine lv_aload_n hM.1 hM.2.1 dX11_fits_32 rfl (lv_at hl 0 rfl) ?_
    refine gf_X11_text hM hw (okX11.o ho) fl_X11_30 dX11_fits_33 ?_
    refine x_nmr hf (fun t3 hf => ?_)
    obtain ⟨hok_t3, hf⟩ := x_cond hf
    refine lv_iload_n hM.1 hM.2.1 dX11_fits_36 rfl (lv_at hl 1 rfl) ?_
    refine lv_iload_n hM.1 hM.2.1 dX11_fits_37 rfl (lv_at hl 2 rfl) ?_
    refine x_callVI (rest := []) hM hw (ct_X6_ways l (okX11.records ho) (okX11.textOf ho hok_t3) a1 a2) [.ref (ad t3), .int a1, .int a2] (okX6.o (okX11.records ho)) rfl rfl rfl (gi_V ml_X11_281 im_X6_ways sl_X6_ways in_X6 kc_X6_ways) hd_X6_ways rfl ⟨Nat.le_of_ble_eq_true rfl, Nat.le_of_ble_eq_true rfl⟩ rfl (Nat.le_of_ble_eq_true rfl) hl.1 hcs0 hf dX11_fits_38 (fun r4 h5 H locs hf hw => ?_)
    exact hR _ _ _ _ _ _ _ (Option.some.inj hf) rfl rfl hw dX11_fits_41
  refine lv_iconst (v := (-1)) hM.1 hM.2.1 dX11_fits_26 ic_m1 ?_
  exact hR _ _ _ _ _ _ _ (Option.some.inj hf) rfl rfl hw dX11_fits_27
theorem hd_X11_fits : yX11_fits.cls = RX11 ∧ yX11_fits.cls ≠ "java/lang/invoke/MethodHandle" ∧ yX11_fits.cls ≠ "java/lang/invoke/VarHandle" ∧ (parseMethodDescriptor yX11_fits.desc).map (fun d => d.parameters.length) = some 2 := ⟨rfl, by decide, by decide, by decide +kernel⟩
theorem dX11_forget_0 : decode cX11_forget 0 = .ok (.aload_n 0, 1) := by decide +kernel
theorem dX11_forget_1 : decode cX11_forget 1 = .ok (.getfield 83, 3) := by decide +kernel
theorem dX11_forget_4 : decode cX11_forget 4 = .ok (.getfield 268, 3) := by decide +kernel
theorem dX11_forget_7 : decode cX11_forget 7 = .ok (.aload_n 0, 1) := by decide +kernel
theorem dX11_forget_8 : decode cX11_forget 8 = .ok (.getfield 90, 3) := by decide +kernel
theorem dX11_forget_11 : decode cX11_forget 11 = .ok (.getfield 280, 3) := by decide +kernel
theorem dX11_forget_14 : decode cX11_forget 14 = .ok (.iadd, 1) := by decide +kernel
theorem dX11_forget_15 : decode cX11_forget 15 = .ok (.istore_n 1, 1) := by decide +kernel
theorem dX11_forget_16 : decode cX11_forget 16 = .ok (.aload_n 0, 1) := by decide +kernel
theorem dX11_forget_17 : decode cX11_forget 17 = .ok (.getfield 83, 3) := by decide +kernel
theorem dX11_forget_20 : decode cX11_forget 20 = .ok (.invokevirtual 117, 3) := by decide +kernel
theorem dX11_forget_23 : decode cX11_forget 23 = .ok (.aload_n 0, 1) := by decide +kernel
theorem dX11_forget_24 : decode cX11_forget 24 = .ok (.getfield 90, 3) := by decide +kernel
theorem dX11_forget_27 : decode cX11_forget 27 = .ok (.invokevirtual 118, 3) := by decide +kernel
theorem dX11_forget_30 : decode cX11_forget 30 = .ok (.iload_n 1, 1) := by decide +kernel
theorem dX11_forget_31 : decode cX11_forget 31 = .ok (.ireturn, 1) := by decide +kernel
def c_X11_forget (h : PH) : Option (Int32 × PH) :=
  nm ((h.1 229 4) + (h.1 234 4)) fun v1 =>
  (c_X0_clear 229 h).bind fun h2 =>
  (c_X6_clear 234 h2).bind fun h3 =>
  some (v1, h3)
set_option maxHeartbeats 4000000 in
set_option maxRecDepth 100000 in
theorem ct_X11_forget (l : Launch) {lay : List KK} (ho : okX11 lay) : CtI l yX11_forget cX11_forget 2 (some .int) 1 20 lay (fun h => c_X11_forget h) (fun ad => [.ref (ad 0)]) := by
  refine CtI.mk' RX11 (by decide) rfl (fun _ => Nat.le_of_ble_eq_true rfl) ?_
  intro p0 e s m args below meth c D G A H0 ad X h r0 H ls Q hM hw hl hf hR
  have hl : lv_has ls 2 [(0, .ref (ad 0))] := hl
  unfold c_X11_forget at hf
  refine lv_aload_n hM.1 hM.2.1 dX11_forget_0 rfl (lv_at hl 0 rfl) ?_
  refine gf_X11_aunts hM hw (okX11.o ho) fl_X11_83 dX11_forget_1 ?_
  refine gf_X0_count hM hw (okX0.o (okX11.aunts ho)) fl_X11_268 dX11_forget_4 ?_
  refine lv_aload_n hM.1 hM.2.1 dX11_forget_7 rfl (lv_at hl 0 rfl) ?_
  refine gf_X11_records hM hw (okX11.o ho) fl_X11_90 dX11_forget_8 ?_
  refine gf_X6_count hM hw (okX6.o (okX11.records ho)) fl_X11_280 dX11_forget_11 ?_
  refine lv_iadd hM.1 hM.2.1 dX11_forget_14 ?_
  refine x_istore_n hM hf dX11_forget_15 rfl hl (by decide) (fun v1 => [(1, .int v1), (0, .ref (ad 0))]) (fun _ => rfl) (fun v1 ls hf hl => ?_)
  refine lv_aload_n hM.1 hM.2.1 dX11_forget_16 rfl (lv_at hl 1 rfl) ?_
  refine gf_X11_aunts hM hw (okX11.o ho) fl_X11_83 dX11_forget_17 ?_
  refine x_callVV (rest := []) hM hw (ct_X0_clear l (okX11.aunts ho)) [] (okX0.o (okX11.aunts ho)) rfl rfl rfl (gi_V ml_X11_117 im_X0_clear sl_X0_clear in_X0 kc_X0_clear) hd_X0_clear rfl ⟨Nat.le_of_ble_eq_true rfl, Nat.le_of_ble_eq_true rfl⟩ rfl (Nat.le_of_ble_eq_true rfl) hl.1 hcs0 hf dX11_forget_20 (fun h2 H locs hf hw => ?_)
  refine lv_aload_n hM.1 hM.2.1 dX11_forget_23 rfl (lv_at hl 1 rfl) ?_
  refine gf_X11_records hM hw (okX11.o ho) fl_X11_90 dX11_forget_24 ?_
  refine x_callVV (rest := []) hM hw (ct_X6_clear l (okX11.records ho)) [] (okX6.o (okX11.records ho)) rfl rfl rfl (gi_V ml_X11_118 im_X6_clear sl_X6_clear in_X6 kc_X6_clear) hd_X6_clear rfl ⟨Nat.le_of_ble_eq_true rfl, Nat.le_of_ble_eq_true rfl⟩ rfl (Nat.le_of_ble_eq_true rfl) hl.1 hcs0 hf dX11_forget_27 (fun h3 H locs hf hw => ?_)
  refine lv_iload_n hM.1 hM.2.1 dX11_forget_30 rfl (lv_at hl 0 rfl) ?_
  exact hR _ _ _ _ _ _ _ (Option.some.inj hf) rfl rfl hw dX11_forget_31
theorem hd_X11_forget : yX11_forget.cls = RX11 ∧ yX11_forget.cls ≠ "java/lang/invoke/MethodHandle" ∧ yX11_forget.cls ≠ "java/lang/invoke/VarHandle" ∧ (parseMethodDescriptor yX11_forget.desc).map (fun d => d.parameters.length) = some 0 := ⟨rfl, by decide, by decide, by decide +kernel⟩
theorem dX11_slotAt_0 : decode cX11_slotAt 0 = .ok (.iload_n 1, 1) := by decide +kernel
theorem dX11_slotAt_1 : decode cX11_slotAt 1 = .ok (.ifCond .lt 17, 3) := by decide +kernel
theorem dX11_slotAt_4 : decode cX11_slotAt 4 = .ok (.iload_n 1, 1) := by decide +kernel
theorem dX11_slotAt_5 : decode cX11_slotAt 5 = .ok (.iconst 3, 1) := by decide +kernel
theorem dX11_slotAt_6 : decode cX11_slotAt 6 = .ok (.if_icmp .ge 12, 3) := by decide +kernel
theorem dX11_slotAt_9 : decode cX11_slotAt 9 = .ok (.aload_n 0, 1) := by decide +kernel
theorem dX11_slotAt_10 : decode cX11_slotAt 10 = .ok (.getfield 51, 3) := by decide +kernel
theorem dX11_slotAt_13 : decode cX11_slotAt 13 = .ok (.iload_n 1, 1) := by decide +kernel
theorem dX11_slotAt_14 : decode cX11_slotAt 14 = .ok (.aaload, 1) := by decide +kernel
theorem dX11_slotAt_15 : decode cX11_slotAt 15 = .ok (.goto 4, 3) := by decide +kernel
theorem dX11_slotAt_18 : decode cX11_slotAt 18 = .ok (.aconst_null, 1) := by decide +kernel
theorem dX11_slotAt_19 : decode cX11_slotAt 19 = .ok (.areturn, 1) := by decide +kernel
def c_X11_slotAt (a1 : Int32) (h : PH) : Option (Option Nat) :=
  if a1 < 0 then
    some none
  else
    if 3 ≤ a1 then
      some none
    else
      gd (ixOK a1 3) <|
      some (some (206 + 1 + 3 * a1.toNatClampNeg))
set_option maxHeartbeats 4000000 in
set_option maxRecDepth 100000 in
theorem ct_X11_slotAt (l : Launch) {lay : List KK} (ho : okX11 lay) (a1 : Int32) : CtQ l yX11_slotAt cX11_slotAt 2 (some (.object "ExcuseMarket$State")) 0 0 lay (fun h => c_X11_slotAt a1 h) (fun ad => [.ref (ad 0), .int a1]) := by
  refine CtQ.mk' RX11 _ (by decide) rfl (fun _ => Nat.le_of_ble_eq_true rfl) ?_
  intro p0 e s m args below meth c D G A H0 ad X h r0 H ls Q hM hw hl hf hR
  have hl : lv_has ls 2 [(0, .ref (ad 0)), (1, .int a1)] := hl
  unfold c_X11_slotAt at hf
  refine lv_iload_n hM.1 hM.2.1 dX11_slotAt_0 rfl (lv_at hl 1 rfl) ?_
  refine x_if_lt (tgt := 18) hM hf dX11_slotAt_1 (by decide) (fun hf => ?_) (fun hf => ?_)
  · refine lv_null hM.1 hM.2.1 dX11_slotAt_18 ?_
    exact hR none _ _ _ _ (Option.some.inj hf) hw dX11_slotAt_19
  refine lv_iload_n hM.1 hM.2.1 dX11_slotAt_4 rfl (lv_at hl 1 rfl) ?_
  refine lv_iconst (v := 3) hM.1 hM.2.1 dX11_slotAt_5 ic_3 ?_
  refine x_ic_ge (tgt := 18) hM hf dX11_slotAt_6 (by decide) (fun hf => ?_) (fun hf => ?_)
  · refine lv_null hM.1 hM.2.1 dX11_slotAt_18 ?_
    exact hR none _ _ _ _ (Option.some.inj hf) hw dX11_slotAt_19
  refine lv_aload_n hM.1 hM.2.1 dX11_slotAt_9 rfl (lv_at hl 0 rfl) ?_
  refine gf_X11_slots hM hw (okX11.o ho) fl_X11_51 dX11_slotAt_10 ?_
  refine lv_iload_n hM.1 hM.2.1 dX11_slotAt_13 rfl (lv_at hl 1 rfl) ?_
  refine x_aaldS hM hw (okX11.slots ho) hf dX11_slotAt_14 (fun hi1 hf => ?_)
  refine lv_goto (tgt := 19) hM.1 hM.2.1 dX11_slotAt_15 (by decide) ?_
  exact hR (some _) _ _ _ _ (Option.some.inj hf) hw dX11_slotAt_19
theorem hd_X11_slotAt : yX11_slotAt.cls = RX11 ∧ yX11_slotAt.cls ≠ "java/lang/invoke/MethodHandle" ∧ yX11_slotAt.cls ≠ "java/lang/invoke/VarHandle" ∧ (parseMethodDescriptor yX11_slotAt.desc).map (fun d => d.parameters.length) = some 1 := ⟨rfl, by decide, by decide, by decide +kernel⟩
theorem slot_ok {lay : List KK} (ho : okX11 lay) {a : Int32} {q : Nat} {h : PH} (hs : c_X11_slotAt a h = some (some q)) : okX8 lay q := by
  unfold c_X11_slotAt at hs
  split at hs
  · cases hs
  · split at hs
    · cases hs
    · obtain ⟨hi, hs⟩ := x_cond hs
      cases hs
      exact okX11.slots_atI ho (ixOK_in hi)
theorem dX11_hold_0 : decode cX11_hold 0 = .ok (.aload_n 0, 1) := by decide +kernel
theorem dX11_hold_1 : decode cX11_hold 1 = .ok (.iload_n 1, 1) := by decide +kernel
theorem dX11_hold_2 : decode cX11_hold 2 = .ok (.invokevirtual 284, 3) := by decide +kernel
theorem dX11_hold_5 : decode cX11_hold 5 = .ok (.astore_n 2, 1) := by decide +kernel
theorem dX11_hold_6 : decode cX11_hold 6 = .ok (.aload_n 2, 1) := by decide +kernel
theorem dX11_hold_7 : decode cX11_hold 7 = .ok (.ifnonnull 5, 3) := by decide +kernel
theorem dX11_hold_10 : decode cX11_hold 10 = .ok (.iconst 0, 1) := by decide +kernel
theorem dX11_hold_11 : decode cX11_hold 11 = .ok (.ireturn, 1) := by decide +kernel
theorem dX11_hold_12 : decode cX11_hold 12 = .ok (.aload_n 2, 1) := by decide +kernel
theorem dX11_hold_13 : decode cX11_hold 13 = .ok (.aload_n 0, 1) := by decide +kernel
theorem dX11_hold_14 : decode cX11_hold 14 = .ok (.getfield 37, 3) := by decide +kernel
theorem dX11_hold_17 : decode cX11_hold 17 = .ok (.invokevirtual 209, 3) := by decide +kernel
theorem dX11_hold_20 : decode cX11_hold 20 = .ok (.aload_n 0, 1) := by decide +kernel
theorem dX11_hold_21 : decode cX11_hold 21 = .ok (.getfield 55, 3) := by decide +kernel
theorem dX11_hold_24 : decode cX11_hold 24 = .ok (.iload_n 1, 1) := by decide +kernel
theorem dX11_hold_25 : decode cX11_hold 25 = .ok (.iconst 1, 1) := by decide +kernel
theorem dX11_hold_26 : decode cX11_hold 26 = .ok (.bastore, 1) := by decide +kernel
theorem dX11_hold_27 : decode cX11_hold 27 = .ok (.iconst 1, 1) := by decide +kernel
theorem dX11_hold_28 : decode cX11_hold 28 = .ok (.ireturn, 1) := by decide +kernel
def c_X11_hold (a1 : Int32) (h : PH) : Option (Int32 × PH) :=
  (c_X11_slotAt a1 h).bind fun r2 => optc r2 (
    some (0, h)) fun q1 =>
    (c_X8_copy q1 78 h).bind fun h3 =>
    gd (ixOK a1 3) <| nm (setI h3 216 a1.toNatClampNeg (vp_nar .boolean 1)) fun h4 =>
    some (1, h4)
set_option maxHeartbeats 4000000 in
set_option maxRecDepth 100000 in
theorem ct_X11_hold (l : Launch) {lay : List KK} (ho : okX11 lay) (a1 : Int32) : CtI l yX11_hold cX11_hold 3 (some .boolean) 1 22 lay (fun h => c_X11_hold a1 h) (fun ad => [.ref (ad 0), .int a1]) := by
  refine CtI.mk' RX11 (by decide) rfl (fun _ => Nat.le_of_ble_eq_true rfl) ?_
  intro p0 e s m args below meth c D G A H0 ad X h r0 H ls Q hM hw hl hf hR
  have hl : lv_has ls 3 [(0, .ref (ad 0)), (1, .int a1)] := hl
  unfold c_X11_hold at hf
  refine lv_aload_n hM.1 hM.2.1 dX11_hold_0 rfl (lv_at hl 0 rfl) ?_
  refine lv_iload_n hM.1 hM.2.1 dX11_hold_1 rfl (lv_at hl 1 rfl) ?_
  refine x_callVQr (rest := []) hM hw (ct_X11_slotAt l ho a1) [.int a1] (okX11.o ho) rfl rfl rfl (gi_V ml_X11_284 im_X11_slotAt sl_X11_slotAt in_X11 kc_X11_slotAt) hd_X11_slotAt rfl ⟨Nat.le_of_ble_eq_true rfl, Nat.le_of_ble_eq_true rfl⟩ rfl (Nat.le_of_ble_eq_true rfl) hl.1 hcs0 hf dX11_hold_2 (fun H locs hf hw => ?_) (fun q1 H locs hs hf hw => ?_)
  · refine lv_astore_nN (lv' := [(2, .null), (0, .ref (ad 0)), (1, .int a1)]) hM.1 hM.2.1 dX11_hold_5 rfl hl (by decide) rfl (fun ls hl => ?_)
    refine lv_aload_nN hM.1 hM.2.1 dX11_hold_6 rfl (lv_at hl 0 rfl) ?_
    refine lv_ifnonnullN hM.1 hM.2.1 dX11_hold_7 ?_
    refine lv_iconst (v := 0) hM.1 hM.2.1 dX11_hold_10 ic_0 ?_
    exact hR _ _ _ _ _ _ _ (Option.some.inj hf) rfl (nar_z (by decide)) hw dX11_hold_11
  refine lv_astore_n (lv' := [(2, .ref (ad q1)), (0, .ref (ad 0)), (1, .int a1)]) hM.1 hM.2.1 dX11_hold_5 rfl hl (by decide) rfl (fun ls hl => ?_)
  refine lv_aload_n hM.1 hM.2.1 dX11_hold_6 rfl (lv_at hl 0 rfl) ?_
  refine lv_ifnonnull (tgt := 12) hM.1 hM.2.1 dX11_hold_7 (by decide) ?_
  refine lv_aload_n hM.1 hM.2.1 dX11_hold_12 rfl (lv_at hl 0 rfl) ?_
  refine lv_aload_n hM.1 hM.2.1 dX11_hold_13 rfl (lv_at hl 1 rfl) ?_
  refine gf_X11_now hM hw (okX11.o ho) fl_X11_37 dX11_hold_14 ?_
  refine x_callVV (rest := []) hM hw (ct_X8_copy l (slot_ok ho hs) (okX11.now ho)) [.ref (ad 78)] (okX8.o (slot_ok ho hs)) rfl rfl rfl (gi_V ml_X11_209 im_X8_copy sl_X8_copy in_X8 kc_X8_copy) hd_X8_copy rfl ⟨Nat.le_of_ble_eq_true rfl, Nat.le_of_ble_eq_true rfl⟩ rfl (Nat.le_of_ble_eq_true rfl) hl.1 hcs0 hf dX11_hold_17 (fun h3 H locs hf hw => ?_)
  refine lv_aload_n hM.1 hM.2.1 dX11_hold_20 rfl (lv_at hl 1 rfl) ?_
  refine gf_X11_held hM hw (okX11.o ho) fl_X11_55 dX11_hold_21 ?_
  refine lv_iload_n hM.1 hM.2.1 dX11_hold_24 rfl (lv_at hl 2 rfl) ?_
  refine lv_iconst (v := 1) hM.1 hM.2.1 dX11_hold_25 ic_1 ?_
  refine x_zast hM hw (okX11.held ho) hf dX11_hold_26 (fun h4 H locs hf hw => ?_)
  refine lv_iconst (v := 1) hM.1 hM.2.1 dX11_hold_27 ic_1 ?_
  exact hR _ _ _ _ _ _ _ (Option.some.inj hf) rfl (nar_z (by decide)) hw dX11_hold_28
theorem hd_X11_hold : yX11_hold.cls = RX11 ∧ yX11_hold.cls ≠ "java/lang/invoke/MethodHandle" ∧ yX11_hold.cls ≠ "java/lang/invoke/VarHandle" ∧ (parseMethodDescriptor yX11_hold.desc).map (fun d => d.parameters.length) = some 1 := ⟨rfl, by decide, by decide, by decide +kernel⟩
theorem dX11_restore_0 : decode cX11_restore 0 = .ok (.aload_n 0, 1) := by decide +kernel
theorem dX11_restore_1 : decode cX11_restore 1 = .ok (.iload_n 1, 1) := by decide +kernel
theorem dX11_restore_2 : decode cX11_restore 2 = .ok (.invokevirtual 284, 3) := by decide +kernel
theorem dX11_restore_5 : decode cX11_restore 5 = .ok (.astore_n 2, 1) := by decide +kernel
theorem dX11_restore_6 : decode cX11_restore 6 = .ok (.aload_n 2, 1) := by decide +kernel
theorem dX11_restore_7 : decode cX11_restore 7 = .ok (.ifnull 12, 3) := by decide +kernel
theorem dX11_restore_10 : decode cX11_restore 10 = .ok (.aload_n 0, 1) := by decide +kernel
theorem dX11_restore_11 : decode cX11_restore 11 = .ok (.getfield 55, 3) := by decide +kernel
theorem dX11_restore_14 : decode cX11_restore 14 = .ok (.iload_n 1, 1) := by decide +kernel
theorem dX11_restore_15 : decode cX11_restore 15 = .ok (.baload, 1) := by decide +kernel
theorem dX11_restore_16 : decode cX11_restore 16 = .ok (.ifCond .ne 5, 3) := by decide +kernel
theorem dX11_restore_19 : decode cX11_restore 19 = .ok (.iconst 0, 1) := by decide +kernel
theorem dX11_restore_20 : decode cX11_restore 20 = .ok (.ireturn, 1) := by decide +kernel
theorem dX11_restore_21 : decode cX11_restore 21 = .ok (.aload_n 0, 1) := by decide +kernel
theorem dX11_restore_22 : decode cX11_restore 22 = .ok (.getfield 37, 3) := by decide +kernel
theorem dX11_restore_25 : decode cX11_restore 25 = .ok (.aload_n 2, 1) := by decide +kernel
theorem dX11_restore_26 : decode cX11_restore 26 = .ok (.invokevirtual 209, 3) := by decide +kernel
theorem dX11_restore_29 : decode cX11_restore 29 = .ok (.aload_n 0, 1) := by decide +kernel
theorem dX11_restore_30 : decode cX11_restore 30 = .ok (.getfield 47, 3) := by decide +kernel
theorem dX11_restore_33 : decode cX11_restore 33 = .ok (.invokevirtual 114, 3) := by decide +kernel
theorem dX11_restore_36 : decode cX11_restore 36 = .ok (.iconst 1, 1) := by decide +kernel
theorem dX11_restore_37 : decode cX11_restore 37 = .ok (.ireturn, 1) := by decide +kernel
def c_X11_restore (a1 : Int32) (h : PH) : Option (Int32 × PH) :=
  (c_X11_slotAt a1 h).bind fun r2 => optc r2 (
    some (0, h)) fun q1 =>
    gd (ixOK a1 3) <|
    if (h.1 216 a1.toNatClampNeg) = 0 then
      some (0, h)
    else
      (c_X8_copy 78 q1 h).bind fun h3 =>
      (c_X5_clear 84 h3).bind fun h4 =>
      some (1, h4)
set_option maxHeartbeats 4000000 in
set_option maxRecDepth 100000 in
theorem ct_X11_restore (l : Launch) {lay : List KK} (ho : okX11 lay) (a1 : Int32) : CtI l yX11_restore cX11_restore 3 (some .boolean) 1 22 lay (fun h => c_X11_restore a1 h) (fun ad => [.ref (ad 0), .int a1]) := by
  refine CtI.mk' RX11 (by decide) rfl (fun _ => Nat.le_of_ble_eq_true rfl) ?_
  intro p0 e s m args below meth c D G A H0 ad X h r0 H ls Q hM hw hl hf hR
  have hl : lv_has ls 3 [(0, .ref (ad 0)), (1, .int a1)] := hl
  unfold c_X11_restore at hf
  refine lv_aload_n hM.1 hM.2.1 dX11_restore_0 rfl (lv_at hl 0 rfl) ?_
  refine lv_iload_n hM.1 hM.2.1 dX11_restore_1 rfl (lv_at hl 1 rfl) ?_
  refine x_callVQr (rest := []) hM hw (ct_X11_slotAt l ho a1) [.int a1] (okX11.o ho) rfl rfl rfl (gi_V ml_X11_284 im_X11_slotAt sl_X11_slotAt in_X11 kc_X11_slotAt) hd_X11_slotAt rfl ⟨Nat.le_of_ble_eq_true rfl, Nat.le_of_ble_eq_true rfl⟩ rfl (Nat.le_of_ble_eq_true rfl) hl.1 hcs0 hf dX11_restore_2 (fun H locs hf hw => ?_) (fun q1 H locs hs hf hw => ?_)
  · refine lv_astore_nN (lv' := [(2, .null), (0, .ref (ad 0)), (1, .int a1)]) hM.1 hM.2.1 dX11_restore_5 rfl hl (by decide) rfl (fun ls hl => ?_)
    refine lv_aload_nN hM.1 hM.2.1 dX11_restore_6 rfl (lv_at hl 0 rfl) ?_
    refine lv_ifnullN (tgt := 19) hM.1 hM.2.1 dX11_restore_7 (by decide) ?_
    refine lv_iconst (v := 0) hM.1 hM.2.1 dX11_restore_19 ic_0 ?_
    exact hR _ _ _ _ _ _ _ (Option.some.inj hf) rfl (nar_z (by decide)) hw dX11_restore_20
  refine lv_astore_n (lv' := [(2, .ref (ad q1)), (0, .ref (ad 0)), (1, .int a1)]) hM.1 hM.2.1 dX11_restore_5 rfl hl (by decide) rfl (fun ls hl => ?_)
  refine lv_aload_n hM.1 hM.2.1 dX11_restore_6 rfl (lv_at hl 0 rfl) ?_
  refine lv_ifnull hM.1 hM.2.1 dX11_restore_7 ?_
  refine lv_aload_n hM.1 hM.2.1 dX11_restore_10 rfl (lv_at hl 1 rfl) ?_
  refine gf_X11_held hM hw (okX11.o ho) fl_X11_55 dX11_restore_11 ?_
  refine lv_iload_n hM.1 hM.2.1 dX11_restore_14 rfl (lv_at hl 2 rfl) ?_
  refine x_zald hM hw (okX11.held ho) hf dX11_restore_15 (fun hf => ?_)
  refine x_if_ne (tgt := 21) hM hf dX11_restore_16 (by decide) (fun hf => ?_) (fun hf => ?_)
  · refine lv_aload_n hM.1 hM.2.1 dX11_restore_21 rfl (lv_at hl 1 rfl) ?_
    refine gf_X11_now hM hw (okX11.o ho) fl_X11_37 dX11_restore_22 ?_
    refine lv_aload_n hM.1 hM.2.1 dX11_restore_25 rfl (lv_at hl 0 rfl) ?_
    refine x_callVV (rest := []) hM hw (ct_X8_copy l (okX11.now ho) (slot_ok ho hs)) [.ref (ad q1)] (okX8.o (okX11.now ho)) rfl rfl rfl (gi_V ml_X11_209 im_X8_copy sl_X8_copy in_X8 kc_X8_copy) hd_X8_copy rfl ⟨Nat.le_of_ble_eq_true rfl, Nat.le_of_ble_eq_true rfl⟩ rfl (Nat.le_of_ble_eq_true rfl) hl.1 hcs0 hf dX11_restore_26 (fun h3 H locs hf hw => ?_)
    refine lv_aload_n hM.1 hM.2.1 dX11_restore_29 rfl (lv_at hl 1 rfl) ?_
    refine gf_X11_past hM hw (okX11.o ho) fl_X11_47 dX11_restore_30 ?_
    refine x_callVV (rest := []) hM hw (ct_X5_clear l (okX11.past ho)) [] (okX5.o (okX11.past ho)) rfl rfl rfl (gi_V ml_X11_114 im_X5_clear sl_X5_clear in_X5 kc_X5_clear) hd_X5_clear rfl ⟨Nat.le_of_ble_eq_true rfl, Nat.le_of_ble_eq_true rfl⟩ rfl (Nat.le_of_ble_eq_true rfl) hl.1 hcs0 hf dX11_restore_33 (fun h4 H locs hf hw => ?_)
    refine lv_iconst (v := 1) hM.1 hM.2.1 dX11_restore_36 ic_1 ?_
    exact hR _ _ _ _ _ _ _ (Option.some.inj hf) rfl (nar_z (by decide)) hw dX11_restore_37
  refine lv_iconst (v := 0) hM.1 hM.2.1 dX11_restore_19 ic_0 ?_
  exact hR _ _ _ _ _ _ _ (Option.some.inj hf) rfl (nar_z (by decide)) hw dX11_restore_20
theorem hd_X11_restore : yX11_restore.cls = RX11 ∧ yX11_restore.cls ≠ "java/lang/invoke/MethodHandle" ∧ yX11_restore.cls ≠ "java/lang/invoke/VarHandle" ∧ (parseMethodDescriptor yX11_restore.desc).map (fun d => d.parameters.length) = some 1 := ⟨rfl, by decide, by decide, by decide +kernel⟩
theorem dX11_slotsHeld_0 : decode cX11_slotsHeld 0 = .ok (.iconst 0, 1) := by decide +kernel
theorem dX11_slotsHeld_1 : decode cX11_slotsHeld 1 = .ok (.istore_n 1, 1) := by decide +kernel
theorem dX11_slotsHeld_2 : decode cX11_slotsHeld 2 = .ok (.iconst 0, 1) := by decide +kernel
theorem dX11_slotsHeld_3 : decode cX11_slotsHeld 3 = .ok (.istore_n 2, 1) := by decide +kernel
theorem dX11_slotsHeld_4 : decode cX11_slotsHeld 4 = .ok (.iload_n 2, 1) := by decide +kernel
theorem dX11_slotsHeld_5 : decode cX11_slotsHeld 5 = .ok (.iconst 3, 1) := by decide +kernel
theorem dX11_slotsHeld_6 : decode cX11_slotsHeld 6 = .ok (.if_icmp .ge 26, 3) := by decide +kernel
theorem dX11_slotsHeld_9 : decode cX11_slotsHeld 9 = .ok (.iload_n 1, 1) := by decide +kernel
theorem dX11_slotsHeld_10 : decode cX11_slotsHeld 10 = .ok (.aload_n 0, 1) := by decide +kernel
theorem dX11_slotsHeld_11 : decode cX11_slotsHeld 11 = .ok (.getfield 55, 3) := by decide +kernel
theorem dX11_slotsHeld_14 : decode cX11_slotsHeld 14 = .ok (.iload_n 2, 1) := by decide +kernel
theorem dX11_slotsHeld_15 : decode cX11_slotsHeld 15 = .ok (.baload, 1) := by decide +kernel
theorem dX11_slotsHeld_16 : decode cX11_slotsHeld 16 = .ok (.ifCond .eq 7, 3) := by decide +kernel
theorem dX11_slotsHeld_19 : decode cX11_slotsHeld 19 = .ok (.iconst 1, 1) := by decide +kernel
theorem dX11_slotsHeld_20 : decode cX11_slotsHeld 20 = .ok (.goto 4, 3) := by decide +kernel
theorem dX11_slotsHeld_23 : decode cX11_slotsHeld 23 = .ok (.iconst 0, 1) := by decide +kernel
theorem dX11_slotsHeld_24 : decode cX11_slotsHeld 24 = .ok (.iadd, 1) := by decide +kernel
theorem dX11_slotsHeld_25 : decode cX11_slotsHeld 25 = .ok (.istore_n 1, 1) := by decide +kernel
theorem dX11_slotsHeld_26 : decode cX11_slotsHeld 26 = .ok (.iinc 2 1, 3) := by decide +kernel
theorem dX11_slotsHeld_29 : decode cX11_slotsHeld 29 = .ok (.goto (-25), 3) := by decide +kernel
theorem dX11_slotsHeld_32 : decode cX11_slotsHeld 32 = .ok (.iload_n 1, 1) := by decide +kernel
theorem dX11_slotsHeld_33 : decode cX11_slotsHeld 33 = .ok (.ireturn, 1) := by decide +kernel
def c_X11_slotsHeld_L4b {ρ : Type}  (h : PH) (K1 : Int32 → Option ρ) (REC : Int32 → Int32 → Option ρ) (x1 : Int32) (x2 : Int32) : Option ρ :=
  if 3 ≤ x2 then
    K1 x1
  else
    gd (ixOK x2 3) <|
    if (h.1 216 x2.toNatClampNeg) = 0 then
      nm (x1 + 0) fun v3 =>
      nm (x2 + 1) fun v4 =>
      REC v3 v4
    else
      nm (x1 + 1) fun v5 =>
      nm (x2 + 1) fun v6 =>
      REC v5 v6
set_option maxHeartbeats 4000000 in
set_option maxRecDepth 100000 in
theorem w_X11_slotsHeld_L4b {p0 : Program} {l : Launch} {e : Env} {s : State} {m : MethodId} {args : Array Value} {below : List Frame} {meth : Method} {c : Code} {Q : State → Prop} {D : va_G} {G : GG} {A : Nat → Prop} {H0 : Heap} {ad : Nat → Nat} {lay : List KK} {X : va_W} {ρ : Type} {r0 : ρ} {x1 : Int32} {x2 : Int32} {h : PH} {H : Heap} {locs : List Loc} {ls : Array Slot} {K1 : Int32 → Option ρ} {REC : Int32 → Int32 → Option ρ} (hM : CallFix p0 m c cX11_slotsHeld 3 s args lw_g RX11) (ho : okX11 lay) (hk1 : ∀ (x1 : Int32), ∀ (H : Heap) (locs : List Loc) (ls : Array Slot), K1 x1 = some r0 → Wd D G A H0 ad lay X h s H locs → lv_has ls 3 [(1, .int x1)] → W p0 l e (rmN 0 0) s m args below meth c H locs 0 0 Q (F0 m 32 ls [])) (hrec : ∀ (x1 : Int32) (x2 : Int32), ∀ (H : Heap) (locs : List Loc) (ls : Array Slot), REC x1 x2 = some r0 → Wd D G A H0 ad lay X h s H locs → lv_has ls 3 [(0, .ref (ad 0)), (1, .int x1), (2, .int x2)] → W p0 l e (rmN 0 0) s m args below meth c H locs 0 0 Q (F0 m 4 ls [])) (hw : Wd D G A H0 ad lay X h s H locs) (hl : lv_has ls 3 [(0, .ref (ad 0)), (1, .int x1), (2, .int x2)]) (hf : c_X11_slotsHeld_L4b h K1 REC x1 x2 = some r0) : W p0 l e (rmN 0 0) s m args below meth c H locs 0 0 Q (F0 m 4 ls []) := by
  unfold c_X11_slotsHeld_L4b at hf
  refine lv_iload_n hM.1 hM.2.1 dX11_slotsHeld_4 rfl (lv_at hl 2 rfl) ?_
  refine lv_iconst (v := 3) hM.1 hM.2.1 dX11_slotsHeld_5 ic_3 ?_
  refine x_ic_ge (tgt := 32) hM hf dX11_slotsHeld_6 (by decide) (fun hf => ?_) (fun hf => ?_)
  · exact hk1 _ _ _ _ hf hw (lv_sub hl [1] rfl)
  refine lv_iload_n hM.1 hM.2.1 dX11_slotsHeld_9 rfl (lv_at hl 1 rfl) ?_
  refine lv_aload_n hM.1 hM.2.1 dX11_slotsHeld_10 rfl (lv_at hl 0 rfl) ?_
  refine gf_X11_held hM hw (okX11.o ho) fl_X11_55 dX11_slotsHeld_11 ?_
  refine lv_iload_n hM.1 hM.2.1 dX11_slotsHeld_14 rfl (lv_at hl 2 rfl) ?_
  refine x_zald hM hw (okX11.held ho) hf dX11_slotsHeld_15 (fun hf => ?_)
  refine x_if_eq (tgt := 23) hM hf dX11_slotsHeld_16 (by decide) (fun hf => ?_) (fun hf => ?_)
  · refine lv_iconst (v := 0) hM.1 hM.2.1 dX11_slotsHeld_23 ic_0 ?_
    refine lv_iadd hM.1 hM.2.1 dX11_slotsHeld_24 ?_
    refine x_istore_n hM hf dX11_slotsHeld_25 rfl hl (by decide) (fun v3 => [(1, .int v3), (0, .ref (ad 0)), (2, .int x2)]) (fun _ => rfl) (fun v3 ls hf hl => ?_)
    refine x_iinc (k := 2) (d := 1) hM hf dX11_slotsHeld_26 hl rfl (by decide) (by decide) (fun v4 => [(2, .int v4), (1, .int v3), (0, .ref (ad 0))]) (fun _ => rfl) (fun v4 ls hf hl => ?_)
    refine lv_goto (tgt := 4) hM.1 hM.2.1 dX11_slotsHeld_29 (by decide) ?_
    exact hrec _ _ _ _ _ hf hw (lv_sub hl [2, 1, 0] rfl)
  refine lv_iconst (v := 1) hM.1 hM.2.1 dX11_slotsHeld_19 ic_1 ?_
  refine lv_goto (tgt := 24) hM.1 hM.2.1 dX11_slotsHeld_20 (by decide) ?_
  refine lv_iadd hM.1 hM.2.1 dX11_slotsHeld_24 ?_
  refine x_istore_n hM hf dX11_slotsHeld_25 rfl hl (by decide) (fun v5 => [(1, .int v5), (0, .ref (ad 0)), (2, .int x2)]) (fun _ => rfl) (fun v5 ls hf hl => ?_)
  refine x_iinc (k := 2) (d := 1) hM hf dX11_slotsHeld_26 hl rfl (by decide) (by decide) (fun v6 => [(2, .int v6), (1, .int v5), (0, .ref (ad 0))]) (fun _ => rfl) (fun v6 ls hf hl => ?_)
  refine lv_goto (tgt := 4) hM.1 hM.2.1 dX11_slotsHeld_29 (by decide) ?_
  exact hrec _ _ _ _ _ hf hw (lv_sub hl [2, 1, 0] rfl)
set_option maxHeartbeats 4000000 in
set_option maxRecDepth 100000 in
theorem w_X11_slotsHeld_L4 {p0 : Program} {l : Launch} {e : Env} {s : State} {m : MethodId} {args : Array Value} {below : List Frame} {meth : Method} {c : Code} {Q : State → Prop} {D : va_G} {G : GG} {A : Nat → Prop} {H0 : Heap} {ad : Nat → Nat} {lay : List KK} {X : va_W} {ρ : Type} {r0 : ρ} {h : PH} {K1 : Int32 → Option ρ} (hM : CallFix p0 m c cX11_slotsHeld 3 s args lw_g RX11) (ho : okX11 lay) (hk1 : ∀ (x1 : Int32), ∀ (H : Heap) (locs : List Loc) (ls : Array Slot), K1 x1 = some r0 → Wd D G A H0 ad lay X h s H locs → lv_has ls 3 [(1, .int x1)] → W p0 l e (rmN 0 0) s m args below meth c H locs 0 0 Q (F0 m 32 ls [])) (n : Nat) (x1 : Int32) (x2 : Int32) (hf : lq2 (c_X11_slotsHeld_L4b h K1) n x1 x2 = some r0) : ∀ (H : Heap) (locs : List Loc) (ls : Array Slot), Wd D G A H0 ad lay X h s H locs → lv_has ls 3 [(0, .ref (ad 0)), (1, .int x1), (2, .int x2)] → W p0 l e (rmN 0 0) s m args below meth c H locs 0 0 Q (F0 m 4 ls []) := by
  exact lq2_i (fun (x1 : Int32) (x2 : Int32) => ∀ (H : Heap) (locs : List Loc) (ls : Array Slot), Wd D G A H0 ad lay X h s H locs → lv_has ls 3 [(0, .ref (ad 0)), (1, .int x1), (2, .int x2)] → W p0 l e (rmN 0 0) s m args below meth c H locs 0 0 Q (F0 m 4 ls [])) (fun REC x1 x2 ih hf H locs ls hw hl => w_X11_slotsHeld_L4b hM ho hk1 (fun x1 x2 H locs ls hf hw hl => ih x1 x2 hf H locs ls hw hl) hw hl hf) n x1 x2 hf
def c_X11_slotsHeld (h : PH) : Option (Int32) :=
  nm (0 : Int32) fun v1 =>
  nm (0 : Int32) fun v2 =>
  lq2 (c_X11_slotsHeld_L4b h
    (fun w7 =>
      some w7)) fu v1 v2
set_option maxHeartbeats 4000000 in
set_option maxRecDepth 100000 in
theorem ct_X11_slotsHeld (l : Launch) {lay : List KK} (ho : okX11 lay) : CtI l yX11_slotsHeld cX11_slotsHeld 3 (some .int) 0 0 lay (rd (fun h => c_X11_slotsHeld h)) (fun ad => [.ref (ad 0)]) := by
  refine CtI.mk' RX11 (by decide) rfl (fun _ => Nat.le_of_ble_eq_true rfl) ?_
  intro p0 e s m args below meth c D G A H0 ad X h r0 H ls Q hM hw hl hf hR
  have hl : lv_has ls 3 [(0, .ref (ad 0))] := hl
  obtain ⟨v0, hv0, hr0⟩ : ∃ v0, c_X11_slotsHeld h = some v0 ∧ r0 = (v0, h) := rd_some hf
  subst hr0
  have hf := hv0
  unfold c_X11_slotsHeld at hf
  refine lv_iconst (v := 0) hM.1 hM.2.1 dX11_slotsHeld_0 ic_0 ?_
  refine x_istore_n hM hf dX11_slotsHeld_1 rfl hl (by decide) (fun v1 => [(1, .int v1), (0, .ref (ad 0))]) (fun _ => rfl) (fun v1 ls hf hl => ?_)
  refine lv_iconst (v := 0) hM.1 hM.2.1 dX11_slotsHeld_2 ic_0 ?_
  refine x_istore_n hM hf dX11_slotsHeld_3 rfl hl (by decide) (fun v2 => [(2, .int v2), (1, .int v1), (0, .ref (ad 0))]) (fun _ => rfl) (fun v2 ls hf hl => ?_)
  refine w_X11_slotsHeld_L4 hM ho (fun w7 H locs ls hf hw hl => ?_) fu _ _ hf _ _ _ hw (lv_sub hl [2, 1, 0] rfl)
  refine lv_iload_n hM.1 hM.2.1 dX11_slotsHeld_32 rfl (lv_at hl 0 rfl) ?_
  exact hR _ _ _ _ _ _ _ (congrArg (fun z => (z, _)) (Option.some.inj hf)) rfl rfl hw dX11_slotsHeld_33
theorem hd_X11_slotsHeld : yX11_slotsHeld.cls = RX11 ∧ yX11_slotsHeld.cls ≠ "java/lang/invoke/MethodHandle" ∧ yX11_slotsHeld.cls ≠ "java/lang/invoke/VarHandle" ∧ (parseMethodDescriptor yX11_slotsHeld.desc).map (fun d => d.parameters.length) = some 0 := ⟨rfl, by decide, by decide, by decide +kernel⟩
theorem dX11_count_0 : decode cX11_count 0 = .ok (.iload_n 1, 1) := by decide +kernel
theorem dX11_count_1 : decode cX11_count 1 = .ok (.tableswitch 201 0 15 #[79, 87, 95, 103, 111, 119, 127, 135, 143, 151, 159, 167, 172, 180, 188, 196], 79) := by decide +kernel
theorem dX11_count_80 : decode cX11_count 80 = .ok (.aload_n 0, 1) := by decide +kernel
theorem dX11_count_81 : decode cX11_count 81 = .ok (.getfield 30, 3) := by decide +kernel
theorem dX11_count_84 : decode cX11_count 84 = .ok (.getfield 288, 3) := by decide +kernel
theorem dX11_count_87 : decode cX11_count 87 = .ok (.ireturn, 1) := by decide +kernel
theorem dX11_count_88 : decode cX11_count 88 = .ok (.aload_n 0, 1) := by decide +kernel
theorem dX11_count_89 : decode cX11_count 89 = .ok (.getfield 30, 3) := by decide +kernel
theorem dX11_count_92 : decode cX11_count 92 = .ok (.getfield 291, 3) := by decide +kernel
theorem dX11_count_95 : decode cX11_count 95 = .ok (.ireturn, 1) := by decide +kernel
theorem dX11_count_96 : decode cX11_count 96 = .ok (.aload_n 0, 1) := by decide +kernel
theorem dX11_count_97 : decode cX11_count 97 = .ok (.getfield 30, 3) := by decide +kernel
theorem dX11_count_100 : decode cX11_count 100 = .ok (.getfield 237, 3) := by decide +kernel
theorem dX11_count_103 : decode cX11_count 103 = .ok (.ireturn, 1) := by decide +kernel
theorem dX11_count_104 : decode cX11_count 104 = .ok (.aload_n 0, 1) := by decide +kernel
theorem dX11_count_105 : decode cX11_count 105 = .ok (.getfield 30, 3) := by decide +kernel
theorem dX11_count_108 : decode cX11_count 108 = .ok (.getfield 294, 3) := by decide +kernel
theorem dX11_count_111 : decode cX11_count 111 = .ok (.ireturn, 1) := by decide +kernel
theorem dX11_count_112 : decode cX11_count 112 = .ok (.aload_n 0, 1) := by decide +kernel
theorem dX11_count_113 : decode cX11_count 113 = .ok (.getfield 37, 3) := by decide +kernel
theorem dX11_count_116 : decode cX11_count 116 = .ok (.getfield 195, 3) := by decide +kernel
theorem dX11_count_119 : decode cX11_count 119 = .ok (.ireturn, 1) := by decide +kernel
theorem dX11_count_120 : decode cX11_count 120 = .ok (.aload_n 0, 1) := by decide +kernel
theorem dX11_count_121 : decode cX11_count 121 = .ok (.getfield 37, 3) := by decide +kernel
theorem dX11_count_124 : decode cX11_count 124 = .ok (.getfield 178, 3) := by decide +kernel
theorem dX11_count_127 : decode cX11_count 127 = .ok (.ireturn, 1) := by decide +kernel
theorem dX11_count_128 : decode cX11_count 128 = .ok (.aload_n 0, 1) := by decide +kernel
theorem dX11_count_129 : decode cX11_count 129 = .ok (.getfield 37, 3) := by decide +kernel
theorem dX11_count_132 : decode cX11_count 132 = .ok (.getfield 220, 3) := by decide +kernel
theorem dX11_count_135 : decode cX11_count 135 = .ok (.ireturn, 1) := by decide +kernel
theorem dX11_count_136 : decode cX11_count 136 = .ok (.aload_n 0, 1) := by decide +kernel
theorem dX11_count_137 : decode cX11_count 137 = .ok (.getfield 37, 3) := by decide +kernel
theorem dX11_count_140 : decode cX11_count 140 = .ok (.getfield 185, 3) := by decide +kernel
theorem dX11_count_143 : decode cX11_count 143 = .ok (.ireturn, 1) := by decide +kernel
theorem dX11_count_144 : decode cX11_count 144 = .ok (.aload_n 0, 1) := by decide +kernel
theorem dX11_count_145 : decode cX11_count 145 = .ok (.getfield 37, 3) := by decide +kernel
theorem dX11_count_148 : decode cX11_count 148 = .ok (.getfield 131, 3) := by decide +kernel
theorem dX11_count_151 : decode cX11_count 151 = .ok (.ireturn, 1) := by decide +kernel
theorem dX11_count_152 : decode cX11_count 152 = .ok (.aload_n 0, 1) := by decide +kernel
theorem dX11_count_153 : decode cX11_count 153 = .ok (.getfield 37, 3) := by decide +kernel
theorem dX11_count_156 : decode cX11_count 156 = .ok (.getfield 134, 3) := by decide +kernel
theorem dX11_count_159 : decode cX11_count 159 = .ok (.ireturn, 1) := by decide +kernel
theorem dX11_count_160 : decode cX11_count 160 = .ok (.aload_n 0, 1) := by decide +kernel
theorem dX11_count_161 : decode cX11_count 161 = .ok (.getfield 37, 3) := by decide +kernel
theorem dX11_count_164 : decode cX11_count 164 = .ok (.getfield 217, 3) := by decide +kernel
theorem dX11_count_167 : decode cX11_count 167 = .ok (.ireturn, 1) := by decide +kernel
theorem dX11_count_168 : decode cX11_count 168 = .ok (.aload_n 0, 1) := by decide +kernel
theorem dX11_count_169 : decode cX11_count 169 = .ok (.getfield 13, 3) := by decide +kernel
theorem dX11_count_172 : decode cX11_count 172 = .ok (.ireturn, 1) := by decide +kernel
theorem dX11_count_173 : decode cX11_count 173 = .ok (.aload_n 0, 1) := by decide +kernel
theorem dX11_count_174 : decode cX11_count 174 = .ok (.getfield 47, 3) := by decide +kernel
theorem dX11_count_177 : decode cX11_count 177 = .ok (.getfield 297, 3) := by decide +kernel
theorem dX11_count_180 : decode cX11_count 180 = .ok (.ireturn, 1) := by decide +kernel
theorem dX11_count_181 : decode cX11_count 181 = .ok (.aload_n 0, 1) := by decide +kernel
theorem dX11_count_182 : decode cX11_count 182 = .ok (.getfield 83, 3) := by decide +kernel
theorem dX11_count_185 : decode cX11_count 185 = .ok (.getfield 268, 3) := by decide +kernel
theorem dX11_count_188 : decode cX11_count 188 = .ok (.ireturn, 1) := by decide +kernel
theorem dX11_count_189 : decode cX11_count 189 = .ok (.aload_n 0, 1) := by decide +kernel
theorem dX11_count_190 : decode cX11_count 190 = .ok (.getfield 90, 3) := by decide +kernel
theorem dX11_count_193 : decode cX11_count 193 = .ok (.getfield 280, 3) := by decide +kernel
theorem dX11_count_196 : decode cX11_count 196 = .ok (.ireturn, 1) := by decide +kernel
theorem dX11_count_197 : decode cX11_count 197 = .ok (.aload_n 0, 1) := by decide +kernel
theorem dX11_count_198 : decode cX11_count 198 = .ok (.invokevirtual 298, 3) := by decide +kernel
theorem dX11_count_201 : decode cX11_count 201 = .ok (.ireturn, 1) := by decide +kernel
theorem dX11_count_202 : decode cX11_count 202 = .ok (.iconst (-1), 1) := by decide +kernel
theorem dX11_count_203 : decode cX11_count 203 = .ok (.ireturn, 1) := by decide +kernel
def c_X11_count (a1 : Int32) (h : PH) : Option (Int32) :=
  if a1 = 0 then
    nm (h.2.2 0 4) fun t1 =>
    gd (tOK t1) <|
    some (h.1 t1 0)
  else
  if a1 = 1 then
    nm (h.2.2 0 4) fun t2 =>
    gd (tOK t2) <|
    some (h.1 t2 1)
  else
  if a1 = 2 then
    nm (h.2.2 0 4) fun t3 =>
    gd (tOK t3) <|
    some (h.1 t3 2)
  else
  if a1 = 3 then
    nm (h.2.2 0 4) fun t4 =>
    gd (tOK t4) <|
    some (h.1 t4 3)
  else
  if a1 = 4 then
    some (h.1 78 0)
  else
  if a1 = 5 then
    some (h.1 78 1)
  else
  if a1 = 6 then
    some (h.1 78 2)
  else
  if a1 = 7 then
    some (h.1 78 3)
  else
  if a1 = 8 then
    some (h.1 78 4)
  else
  if a1 = 9 then
    some (h.1 78 5)
  else
  if a1 = 10 then
    some (h.1 78 6)
  else
  if a1 = 11 then
    some (h.1 0 1)
  else
  if a1 = 12 then
    some (h.1 84 2)
  else
  if a1 = 13 then
    some (h.1 229 4)
  else
  if a1 = 14 then
    some (h.1 234 4)
  else
  if a1 = 15 then
    (c_X11_slotsHeld h).bind fun r5 =>
    some r5
  else
    some (-1)
set_option maxHeartbeats 4000000 in
set_option maxRecDepth 100000 in
theorem ct_X11_count (l : Launch) {lay : List KK} (ho : okX11 lay) (a1 : Int32) : CtI l yX11_count cX11_count 2 (some .int) 1 22 lay (rd (fun h => c_X11_count a1 h)) (fun ad => [.ref (ad 0), .int a1]) := by
  refine CtI.mk' RX11 (by decide) rfl (fun _ => Nat.le_of_ble_eq_true rfl) ?_
  intro p0 e s m args below meth c D G A H0 ad X h r0 H ls Q hM hw hl hf hR
  have hl : lv_has ls 2 [(0, .ref (ad 0)), (1, .int a1)] := hl
  obtain ⟨v0, hv0, hr0⟩ : ∃ v0, c_X11_count a1 h = some v0 ∧ r0 = (v0, h) := rd_some hf
  subst hr0
  have hf := hv0
  unfold c_X11_count at hf
  refine lv_iload_n hM.1 hM.2.1 dX11_count_0 rfl (lv_at hl 1 rfl) ?_
  refine x_sw hf (fun hx hf => ?_) (fun n0 hf => ?_)
  · refine x_tabIn (tgt := 80) hM hx dX11_count_1 (by decide) (by decide) rfl (by decide) ?_
    refine lv_aload_n hM.1 hM.2.1 dX11_count_80 rfl (lv_at hl 0 rfl) ?_
    refine gf_X11_text hM hw (okX11.o ho) fl_X11_30 dX11_count_81 ?_
    refine x_nmr hf (fun t1 hf => ?_)
    obtain ⟨hok_t1, hf⟩ := x_cond hf
    refine gf_X9_men hM hw (okX9.o (okX11.textOf ho hok_t1)) fl_X11_288 dX11_count_84 ?_
    exact hR _ _ _ _ _ _ _ (congrArg (fun z => (z, _)) (Option.some.inj hf)) rfl rfl hw dX11_count_87
  refine x_sw hf (fun hx hf => ?_) (fun n1 hf => ?_)
  · refine x_tabIn (tgt := 88) hM hx dX11_count_1 (by decide) (by decide) rfl (by decide) ?_
    refine lv_aload_n hM.1 hM.2.1 dX11_count_88 rfl (lv_at hl 0 rfl) ?_
    refine gf_X11_text hM hw (okX11.o ho) fl_X11_30 dX11_count_89 ?_
    refine x_nmr hf (fun t2 hf => ?_)
    obtain ⟨hok_t2, hf⟩ := x_cond hf
    refine gf_X9_excuses hM hw (okX9.o (okX11.textOf ho hok_t2)) fl_X11_291 dX11_count_92 ?_
    exact hR _ _ _ _ _ _ _ (congrArg (fun z => (z, _)) (Option.some.inj hf)) rfl rfl hw dX11_count_95
  refine x_sw hf (fun hx hf => ?_) (fun n2 hf => ?_)
  · refine x_tabIn (tgt := 96) hM hx dX11_count_1 (by decide) (by decide) rfl (by decide) ?_
    refine lv_aload_n hM.1 hM.2.1 dX11_count_96 rfl (lv_at hl 0 rfl) ?_
    refine gf_X11_text hM hw (okX11.o ho) fl_X11_30 dX11_count_97 ?_
    refine x_nmr hf (fun t3 hf => ?_)
    obtain ⟨hok_t3, hf⟩ := x_cond hf
    refine gf_X9_duties hM hw (okX9.o (okX11.textOf ho hok_t3)) fl_X11_237 dX11_count_100 ?_
    exact hR _ _ _ _ _ _ _ (congrArg (fun z => (z, _)) (Option.some.inj hf)) rfl rfl hw dX11_count_103
  refine x_sw hf (fun hx hf => ?_) (fun n3 hf => ?_)
  · refine x_tabIn (tgt := 104) hM hx dX11_count_1 (by decide) (by decide) rfl (by decide) ?_
    refine lv_aload_n hM.1 hM.2.1 dX11_count_104 rfl (lv_at hl 0 rfl) ?_
    refine gf_X11_text hM hw (okX11.o ho) fl_X11_30 dX11_count_105 ?_
    refine x_nmr hf (fun t4 hf => ?_)
    obtain ⟨hok_t4, hf⟩ := x_cond hf
    refine gf_X9_tests hM hw (okX9.o (okX11.textOf ho hok_t4)) fl_X11_294 dX11_count_108 ?_
    exact hR _ _ _ _ _ _ _ (congrArg (fun z => (z, _)) (Option.some.inj hf)) rfl rfl hw dX11_count_111
  refine x_sw hf (fun hx hf => ?_) (fun n4 hf => ?_)
  · refine x_tabIn (tgt := 112) hM hx dX11_count_1 (by decide) (by decide) rfl (by decide) ?_
    refine lv_aload_n hM.1 hM.2.1 dX11_count_112 rfl (lv_at hl 0 rfl) ?_
    refine gf_X11_now hM hw (okX11.o ho) fl_X11_37 dX11_count_113 ?_
    refine gf_X8_today hM hw (okX8.o (okX11.now ho)) fl_X11_195 dX11_count_116 ?_
    exact hR _ _ _ _ _ _ _ (congrArg (fun z => (z, _)) (Option.some.inj hf)) rfl rfl hw dX11_count_119
  refine x_sw hf (fun hx hf => ?_) (fun n5 hf => ?_)
  · refine x_tabIn (tgt := 120) hM hx dX11_count_1 (by decide) (by decide) rfl (by decide) ?_
    refine lv_aload_n hM.1 hM.2.1 dX11_count_120 rfl (lv_at hl 0 rfl) ?_
    refine gf_X11_now hM hw (okX11.o ho) fl_X11_37 dX11_count_121 ?_
    refine gf_X8_coins hM hw (okX8.o (okX11.now ho)) fl_X11_178 dX11_count_124 ?_
    exact hR _ _ _ _ _ _ _ (congrArg (fun z => (z, _)) (Option.some.inj hf)) rfl rfl hw dX11_count_127
  refine x_sw hf (fun hx hf => ?_) (fun n6 hf => ?_)
  · refine x_tabIn (tgt := 128) hM hx dX11_count_1 (by decide) (by decide) rfl (by decide) ?_
    refine lv_aload_n hM.1 hM.2.1 dX11_count_128 rfl (lv_at hl 0 rfl) ?_
    refine gf_X11_now hM hw (okX11.o ho) fl_X11_37 dX11_count_129 ?_
    refine gf_X8_hours hM hw (okX8.o (okX11.now ho)) fl_X11_220 dX11_count_132 ?_
    exact hR _ _ _ _ _ _ _ (congrArg (fun z => (z, _)) (Option.some.inj hf)) rfl rfl hw dX11_count_135
  refine x_sw hf (fun hx hf => ?_) (fun n7 hf => ?_)
  · refine x_tabIn (tgt := 136) hM hx dX11_count_1 (by decide) (by decide) rfl (by decide) ?_
    refine lv_aload_n hM.1 hM.2.1 dX11_count_136 rfl (lv_at hl 0 rfl) ?_
    refine gf_X11_now hM hw (okX11.o ho) fl_X11_37 dX11_count_137 ?_
    refine gf_X8_owned hM hw (okX8.o (okX11.now ho)) fl_X11_185 dX11_count_140 ?_
    exact hR _ _ _ _ _ _ _ (congrArg (fun z => (z, _)) (Option.some.inj hf)) rfl rfl hw dX11_count_143
  refine x_sw hf (fun hx hf => ?_) (fun n8 hf => ?_)
  · refine x_tabIn (tgt := 144) hM hx dX11_count_1 (by decide) (by decide) rfl (by decide) ?_
    refine lv_aload_n hM.1 hM.2.1 dX11_count_144 rfl (lv_at hl 0 rfl) ?_
    refine gf_X11_now hM hw (okX11.o ho) fl_X11_37 dX11_count_145 ?_
    refine gf_X8_freed hM hw (okX8.o (okX11.now ho)) fl_X11_131 dX11_count_148 ?_
    exact hR _ _ _ _ _ _ _ (congrArg (fun z => (z, _)) (Option.some.inj hf)) rfl rfl hw dX11_count_151
  refine x_sw hf (fun hx hf => ?_) (fun n9 hf => ?_)
  · refine x_tabIn (tgt := 152) hM hx dX11_count_1 (by decide) (by decide) rfl (by decide) ?_
    refine lv_aload_n hM.1 hM.2.1 dX11_count_152 rfl (lv_at hl 0 rfl) ?_
    refine gf_X11_now hM hw (okX11.o ho) fl_X11_37 dX11_count_153 ?_
    refine gf_X8_caught hM hw (okX8.o (okX11.now ho)) fl_X11_134 dX11_count_156 ?_
    exact hR _ _ _ _ _ _ _ (congrArg (fun z => (z, _)) (Option.some.inj hf)) rfl rfl hw dX11_count_159
  refine x_sw hf (fun hx hf => ?_) (fun n10 hf => ?_)
  · refine x_tabIn (tgt := 160) hM hx dX11_count_1 (by decide) (by decide) rfl (by decide) ?_
    refine lv_aload_n hM.1 hM.2.1 dX11_count_160 rfl (lv_at hl 0 rfl) ?_
    refine gf_X11_now hM hw (okX11.o ho) fl_X11_37 dX11_count_161 ?_
    refine gf_X8_done hM hw (okX8.o (okX11.now ho)) fl_X11_217 dX11_count_164 ?_
    exact hR _ _ _ _ _ _ _ (congrArg (fun z => (z, _)) (Option.some.inj hf)) rfl rfl hw dX11_count_167
  refine x_sw hf (fun hx hf => ?_) (fun n11 hf => ?_)
  · refine x_tabIn (tgt := 168) hM hx dX11_count_1 (by decide) (by decide) rfl (by decide) ?_
    refine lv_aload_n hM.1 hM.2.1 dX11_count_168 rfl (lv_at hl 0 rfl) ?_
    refine gf_X11_tapeLength hM hw (okX11.o ho) fl_X11_13 dX11_count_169 ?_
    exact hR _ _ _ _ _ _ _ (congrArg (fun z => (z, _)) (Option.some.inj hf)) rfl rfl hw dX11_count_172
  refine x_sw hf (fun hx hf => ?_) (fun n12 hf => ?_)
  · refine x_tabIn (tgt := 173) hM hx dX11_count_1 (by decide) (by decide) rfl (by decide) ?_
    refine lv_aload_n hM.1 hM.2.1 dX11_count_173 rfl (lv_at hl 0 rfl) ?_
    refine gf_X11_past hM hw (okX11.o ho) fl_X11_47 dX11_count_174 ?_
    refine gf_X5_count hM hw (okX5.o (okX11.past ho)) fl_X11_297 dX11_count_177 ?_
    exact hR _ _ _ _ _ _ _ (congrArg (fun z => (z, _)) (Option.some.inj hf)) rfl rfl hw dX11_count_180
  refine x_sw hf (fun hx hf => ?_) (fun n13 hf => ?_)
  · refine x_tabIn (tgt := 181) hM hx dX11_count_1 (by decide) (by decide) rfl (by decide) ?_
    refine lv_aload_n hM.1 hM.2.1 dX11_count_181 rfl (lv_at hl 0 rfl) ?_
    refine gf_X11_aunts hM hw (okX11.o ho) fl_X11_83 dX11_count_182 ?_
    refine gf_X0_count hM hw (okX0.o (okX11.aunts ho)) fl_X11_268 dX11_count_185 ?_
    exact hR _ _ _ _ _ _ _ (congrArg (fun z => (z, _)) (Option.some.inj hf)) rfl rfl hw dX11_count_188
  refine x_sw hf (fun hx hf => ?_) (fun n14 hf => ?_)
  · refine x_tabIn (tgt := 189) hM hx dX11_count_1 (by decide) (by decide) rfl (by decide) ?_
    refine lv_aload_n hM.1 hM.2.1 dX11_count_189 rfl (lv_at hl 0 rfl) ?_
    refine gf_X11_records hM hw (okX11.o ho) fl_X11_90 dX11_count_190 ?_
    refine gf_X6_count hM hw (okX6.o (okX11.records ho)) fl_X11_280 dX11_count_193 ?_
    exact hR _ _ _ _ _ _ _ (congrArg (fun z => (z, _)) (Option.some.inj hf)) rfl rfl hw dX11_count_196
  refine x_sw hf (fun hx hf => ?_) (fun n15 hf => ?_)
  · refine x_tabIn (tgt := 197) hM hx dX11_count_1 (by decide) (by decide) rfl (by decide) ?_
    refine lv_aload_n hM.1 hM.2.1 dX11_count_197 rfl (lv_at hl 0 rfl) ?_
    refine x_callVIr (rest := []) hM hw (ct_X11_slotsHeld l ho) [] (okX11.o ho) rfl rfl rfl (gi_V ml_X11_298 im_X11_slotsHeld sl_X11_slotsHeld in_X11 kc_X11_slotsHeld) hd_X11_slotsHeld rfl ⟨Nat.le_of_ble_eq_true rfl, Nat.le_of_ble_eq_true rfl⟩ rfl (Nat.le_of_ble_eq_true rfl) hl.1 hcs0 hf dX11_count_198 (fun r5 H locs hf hw => ?_)
    exact hR _ _ _ _ _ _ _ (congrArg (fun z => (z, _)) (Option.some.inj hf)) rfl rfl hw dX11_count_201
  refine lv_tableOut (tgt := 202) hM.1 hM.2.1 dX11_count_1 (by have := sw_ne n0 (k := 0) (by decide); have := sw_ne n1 (k := 1) (by decide); have := sw_ne n2 (k := 2) (by decide); have := sw_ne n3 (k := 3) (by decide); have := sw_ne n4 (k := 4) (by decide); have := sw_ne n5 (k := 5) (by decide); have := sw_ne n6 (k := 6) (by decide); have := sw_ne n7 (k := 7) (by decide); have := sw_ne n8 (k := 8) (by decide); have := sw_ne n9 (k := 9) (by decide); have := sw_ne n10 (k := 10) (by decide); have := sw_ne n11 (k := 11) (by decide); have := sw_ne n12 (k := 12) (by decide); have := sw_ne n13 (k := 13) (by decide); have := sw_ne n14 (k := 14) (by decide); have := sw_ne n15 (k := 15) (by decide); omega) (by decide) ?_
  refine lv_iconst (v := (-1)) hM.1 hM.2.1 dX11_count_202 ic_m1 ?_
  exact hR _ _ _ _ _ _ _ (congrArg (fun z => (z, _)) (Option.some.inj hf)) rfl rfl hw dX11_count_203
theorem hd_X11_count : yX11_count.cls = RX11 ∧ yX11_count.cls ≠ "java/lang/invoke/MethodHandle" ∧ yX11_count.cls ≠ "java/lang/invoke/VarHandle" ∧ (parseMethodDescriptor yX11_count.desc).map (fun d => d.parameters.length) = some 1 := ⟨rfl, by decide, by decide, by decide +kernel⟩
