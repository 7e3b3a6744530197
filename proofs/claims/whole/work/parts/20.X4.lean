theorem dX4_kind_0 : decode cX4_kind 0 = .ok (.aload_n 0, 1) := by decide +kernel
theorem dX4_kind_1 : decode cX4_kind 1 = .ok (.getfield 29, 3) := by decide +kernel
theorem dX4_kind_4 : decode cX4_kind 4 = .ok (.ifCond .eq 7, 3) := by decide +kernel
theorem dX4_kind_7 : decode cX4_kind 7 = .ok (.iconst 1, 1) := by decide +kernel
theorem dX4_kind_8 : decode cX4_kind 8 = .ok (.goto 15, 3) := by decide +kernel
theorem dX4_kind_11 : decode cX4_kind 11 = .ok (.aload_n 0, 1) := by decide +kernel
theorem dX4_kind_12 : decode cX4_kind 12 = .ok (.getfield 12, 3) := by decide +kernel
theorem dX4_kind_15 : decode cX4_kind 15 = .ok (.getfield 176, 3) := by decide +kernel
theorem dX4_kind_18 : decode cX4_kind 18 = .ok (.aload_n 0, 1) := by decide +kernel
theorem dX4_kind_19 : decode cX4_kind 19 = .ok (.getfield 25, 3) := by decide +kernel
theorem dX4_kind_22 : decode cX4_kind 22 = .ok (.iaload, 1) := by decide +kernel
theorem dX4_kind_23 : decode cX4_kind 23 = .ok (.ireturn, 1) := by decide +kernel
def c_X4_kind (p : Nat) (h : PH) : Option (Int32) :=
  if (h.1 p 3) = 0 then
    gd (ixOK (h.1 p 2) 401) <|
    some (h.1 (p + 1 + 1) (h.1 p 2).toNatClampNeg)
  else
    some 1
set_option maxHeartbeats 4000000 in
set_option maxRecDepth 100000 in
theorem ct_X4_kind (l : Launch) {lay : List KK} {p : Nat} (ho : okX4 lay p) : CtI l yX4_kind cX4_kind 1 (some .int) 0 0 lay (rd (fun h => c_X4_kind p h)) (fun ad => [.ref (ad p)]) := by
  refine CtI.mk' RX4 (by decide) rfl (fun _ => Nat.le_of_ble_eq_true rfl) ?_
  intro p0 e s m args below meth c D G A H0 ad X h r0 H ls Q hM hw hl hf hR
  have hl : lv_has ls 1 [(0, .ref (ad p))] := hl
  obtain ⟨v0, hv0, hr0⟩ : ∃ v0, c_X4_kind p h = some v0 ∧ r0 = (v0, h) := rd_some hf
  subst hr0
  have hf := hv0
  unfold c_X4_kind at hf
  refine lv_aload_n hM.1 hM.2.1 dX4_kind_0 rfl (lv_at hl 0 rfl) ?_
  refine gf_X4_broken hM hw (okX4.o ho) fl_X4_29 dX4_kind_1 ?_
  refine x_if_eq (tgt := 11) hM hf dX4_kind_4 (by decide) (fun hf => ?_) (fun hf => ?_)
  · refine lv_aload_n hM.1 hM.2.1 dX4_kind_11 rfl (lv_at hl 0 rfl) ?_
    refine gf_X4_tokens hM hw (okX4.o ho) fl_X4_12 dX4_kind_12 ?_
    refine gf_X10_kinds hM hw (okX10.o (okX4.tokens ho)) fl_X4_176 dX4_kind_15 ?_
    refine lv_aload_n hM.1 hM.2.1 dX4_kind_18 rfl (lv_at hl 0 rfl) ?_
    refine gf_X4_at hM hw (okX4.o ho) fl_X4_25 dX4_kind_19 ?_
    refine x_iald hM hw (okX10.kinds (okX4.tokens ho)) hf dX4_kind_22 (fun hf => ?_)
    exact hR _ _ _ _ _ _ _ (congrArg (fun z => (z, _)) (Option.some.inj hf)) rfl rfl hw dX4_kind_23
  refine lv_iconst (v := 1) hM.1 hM.2.1 dX4_kind_7 ic_1 ?_
  refine lv_goto (tgt := 23) hM.1 hM.2.1 dX4_kind_8 (by decide) ?_
  exact hR _ _ _ _ _ _ _ (congrArg (fun z => (z, _)) (Option.some.inj hf)) rfl rfl hw dX4_kind_23
theorem hd_X4_kind : yX4_kind.cls = RX4 ∧ yX4_kind.cls ≠ "java/lang/invoke/MethodHandle" ∧ yX4_kind.cls ≠ "java/lang/invoke/VarHandle" ∧ (parseMethodDescriptor yX4_kind.desc).map (fun d => d.parameters.length) = some 0 := ⟨rfl, by decide, by decide, by decide +kernel⟩
theorem dX4_breakOff_0 : decode cX4_breakOff 0 = .ok (.aload_n 0, 1) := by decide +kernel
theorem dX4_breakOff_1 : decode cX4_breakOff 1 = .ok (.getfield 29, 3) := by decide +kernel
theorem dX4_breakOff_4 : decode cX4_breakOff 4 = .ok (.ifCond .ne 24, 3) := by decide +kernel
theorem dX4_breakOff_7 : decode cX4_breakOff 7 = .ok (.aload_n 0, 1) := by decide +kernel
theorem dX4_breakOff_8 : decode cX4_breakOff 8 = .ok (.iload_n 1, 1) := by decide +kernel
theorem dX4_breakOff_9 : decode cX4_breakOff 9 = .ok (.putfield 29, 3) := by decide +kernel
theorem dX4_breakOff_12 : decode cX4_breakOff 12 = .ok (.aload_n 0, 1) := by decide +kernel
theorem dX4_breakOff_13 : decode cX4_breakOff 13 = .ok (.aload_n 0, 1) := by decide +kernel
theorem dX4_breakOff_14 : decode cX4_breakOff 14 = .ok (.getfield 12, 3) := by decide +kernel
theorem dX4_breakOff_17 : decode cX4_breakOff 17 = .ok (.getfield 180, 3) := by decide +kernel
theorem dX4_breakOff_20 : decode cX4_breakOff 20 = .ok (.aload_n 0, 1) := by decide +kernel
theorem dX4_breakOff_21 : decode cX4_breakOff 21 = .ok (.getfield 25, 3) := by decide +kernel
theorem dX4_breakOff_24 : decode cX4_breakOff 24 = .ok (.iaload, 1) := by decide +kernel
theorem dX4_breakOff_25 : decode cX4_breakOff 25 = .ok (.putfield 32, 3) := by decide +kernel
theorem dX4_breakOff_28 : decode cX4_breakOff 28 = .ok (.return_, 1) := by decide +kernel
def c_X4_breakOff (p : Nat) (a1 : Int32) (h : PH) : Option (PH) :=
  if (h.1 p 3) = 0 then
    nm (setI h p 3 a1) fun h1 =>
    gd (ixOK (h1.1 p 2) 401) <|
    nm (setI h1 p 4 (h1.1 (p + 1 + 2) (h1.1 p 2).toNatClampNeg)) fun h2 =>
    some h2
  else
    some h
set_option maxHeartbeats 4000000 in
set_option maxRecDepth 100000 in
theorem ct_X4_breakOff (l : Launch) {lay : List KK} {p : Nat} (ho : okX4 lay p) (a1 : Int32) : CtV l yX4_breakOff cX4_breakOff 2 (none) 0 0 lay (fun h => c_X4_breakOff p a1 h) (fun ad => [.ref (ad p), .int a1]) := by
  refine CtV.mk' RX4 (by decide) rfl (fun _ => Nat.le_of_ble_eq_true rfl) ?_
  intro p0 e s m args below meth c D G A H0 ad X h r0 H ls Q hM hw hl hf hR
  have hl : lv_has ls 2 [(0, .ref (ad p)), (1, .int a1)] := hl
  unfold c_X4_breakOff at hf
  refine lv_aload_n hM.1 hM.2.1 dX4_breakOff_0 rfl (lv_at hl 0 rfl) ?_
  refine gf_X4_broken hM hw (okX4.o ho) fl_X4_29 dX4_breakOff_1 ?_
  refine x_if_ne (tgt := 28) hM hf dX4_breakOff_4 (by decide) (fun hf => ?_) (fun hf => ?_)
  · exact hR _ _ _ _ _ (Option.some.inj hf) rfl hw dX4_breakOff_28
  refine lv_aload_n hM.1 hM.2.1 dX4_breakOff_7 rfl (lv_at hl 0 rfl) ?_
  refine lv_iload_n hM.1 hM.2.1 dX4_breakOff_8 rfl (lv_at hl 1 rfl) ?_
  refine pf_X4_broken hM hw (okX4.o ho) fl_X4_29 hf dX4_breakOff_9 (fun h1 H locs hf hw => ?_)
  refine lv_aload_n hM.1 hM.2.1 dX4_breakOff_12 rfl (lv_at hl 0 rfl) ?_
  refine lv_aload_n hM.1 hM.2.1 dX4_breakOff_13 rfl (lv_at hl 0 rfl) ?_
  refine gf_X4_tokens hM hw (okX4.o ho) fl_X4_12 dX4_breakOff_14 ?_
  refine gf_X10_starts hM hw (okX10.o (okX4.tokens ho)) fl_X4_180 dX4_breakOff_17 ?_
  refine lv_aload_n hM.1 hM.2.1 dX4_breakOff_20 rfl (lv_at hl 0 rfl) ?_
  refine gf_X4_at hM hw (okX4.o ho) fl_X4_25 dX4_breakOff_21 ?_
  refine x_iald hM hw (okX10.starts (okX4.tokens ho)) hf dX4_breakOff_24 (fun hf => ?_)
  refine pf_X4_brokenPlace hM hw (okX4.o ho) fl_X4_32 hf dX4_breakOff_25 (fun h2 H locs hf hw => ?_)
  exact hR _ _ _ _ _ (Option.some.inj hf) rfl hw dX4_breakOff_28
theorem hd_X4_breakOff : yX4_breakOff.cls = RX4 ∧ yX4_breakOff.cls ≠ "java/lang/invoke/MethodHandle" ∧ yX4_breakOff.cls ≠ "java/lang/invoke/VarHandle" ∧ (parseMethodDescriptor yX4_breakOff.desc).map (fun d => d.parameters.length) = some 1 := ⟨rfl, by decide, by decide, by decide +kernel⟩
theorem dX4_accept_0 : decode cX4_accept 0 = .ok (.aload_n 0, 1) := by decide +kernel
theorem dX4_accept_1 : decode cX4_accept 1 = .ok (.getfield 29, 3) := by decide +kernel
theorem dX4_accept_4 : decode cX4_accept 4 = .ok (.ifCond .eq 4, 3) := by decide +kernel
theorem dX4_accept_7 : decode cX4_accept 7 = .ok (.return_, 1) := by decide +kernel
theorem dX4_accept_8 : decode cX4_accept 8 = .ok (.aload_n 0, 1) := by decide +kernel
theorem dX4_accept_9 : decode cX4_accept 9 = .ok (.getfield 12, 3) := by decide +kernel
theorem dX4_accept_12 : decode cX4_accept 12 = .ok (.getfield 176, 3) := by decide +kernel
theorem dX4_accept_15 : decode cX4_accept 15 = .ok (.aload_n 0, 1) := by decide +kernel
theorem dX4_accept_16 : decode cX4_accept 16 = .ok (.getfield 25, 3) := by decide +kernel
theorem dX4_accept_19 : decode cX4_accept 19 = .ok (.iaload, 1) := by decide +kernel
theorem dX4_accept_20 : decode cX4_accept 20 = .ok (.iload_n 1, 1) := by decide +kernel
theorem dX4_accept_21 : decode cX4_accept 21 = .ok (.if_icmp .ne 24, 3) := by decide +kernel
theorem dX4_accept_24 : decode cX4_accept 24 = .ok (.aload_n 0, 1) := by decide +kernel
theorem dX4_accept_25 : decode cX4_accept 25 = .ok (.getfield 25, 3) := by decide +kernel
theorem dX4_accept_28 : decode cX4_accept 28 = .ok (.sipush 400, 3) := by decide +kernel
theorem dX4_accept_31 : decode cX4_accept 31 = .ok (.if_icmp .ge 14, 3) := by decide +kernel
theorem dX4_accept_34 : decode cX4_accept 34 = .ok (.aload_n 0, 1) := by decide +kernel
theorem dX4_accept_35 : decode cX4_accept 35 = .ok (.dup, 1) := by decide +kernel
theorem dX4_accept_36 : decode cX4_accept 36 = .ok (.getfield 25, 3) := by decide +kernel
theorem dX4_accept_39 : decode cX4_accept 39 = .ok (.iconst 1, 1) := by decide +kernel
theorem dX4_accept_40 : decode cX4_accept 40 = .ok (.iadd, 1) := by decide +kernel
theorem dX4_accept_41 : decode cX4_accept 41 = .ok (.putfield 25, 3) := by decide +kernel
theorem dX4_accept_44 : decode cX4_accept 44 = .ok (.return_, 1) := by decide +kernel
theorem dX4_accept_45 : decode cX4_accept 45 = .ok (.aload_n 0, 1) := by decide +kernel
theorem dX4_accept_46 : decode cX4_accept 46 = .ok (.aload_n 0, 1) := by decide +kernel
theorem dX4_accept_47 : decode cX4_accept 47 = .ok (.getfield 12, 3) := by decide +kernel
theorem dX4_accept_50 : decode cX4_accept 50 = .ok (.getfield 176, 3) := by decide +kernel
theorem dX4_accept_53 : decode cX4_accept 53 = .ok (.aload_n 0, 1) := by decide +kernel
theorem dX4_accept_54 : decode cX4_accept 54 = .ok (.getfield 25, 3) := by decide +kernel
theorem dX4_accept_57 : decode cX4_accept 57 = .ok (.iaload, 1) := by decide +kernel
theorem dX4_accept_58 : decode cX4_accept 58 = .ok (.iload_n 1, 1) := by decide +kernel
theorem dX4_accept_59 : decode cX4_accept 59 = .ok (.if_icmp .ne 7, 3) := by decide +kernel
theorem dX4_accept_62 : decode cX4_accept 62 = .ok (.iconst 2, 1) := by decide +kernel
theorem dX4_accept_63 : decode cX4_accept 63 = .ok (.goto 4, 3) := by decide +kernel
theorem dX4_accept_66 : decode cX4_accept 66 = .ok (.iconst 1, 1) := by decide +kernel
theorem dX4_accept_67 : decode cX4_accept 67 = .ok (.putfield 29, 3) := by decide +kernel
theorem dX4_accept_70 : decode cX4_accept 70 = .ok (.aload_n 0, 1) := by decide +kernel
theorem dX4_accept_71 : decode cX4_accept 71 = .ok (.aload_n 0, 1) := by decide +kernel
theorem dX4_accept_72 : decode cX4_accept 72 = .ok (.getfield 12, 3) := by decide +kernel
theorem dX4_accept_75 : decode cX4_accept 75 = .ok (.getfield 180, 3) := by decide +kernel
theorem dX4_accept_78 : decode cX4_accept 78 = .ok (.aload_n 0, 1) := by decide +kernel
theorem dX4_accept_79 : decode cX4_accept 79 = .ok (.getfield 25, 3) := by decide +kernel
theorem dX4_accept_82 : decode cX4_accept 82 = .ok (.iaload, 1) := by decide +kernel
theorem dX4_accept_83 : decode cX4_accept 83 = .ok (.putfield 32, 3) := by decide +kernel
theorem dX4_accept_86 : decode cX4_accept 86 = .ok (.return_, 1) := by decide +kernel
def c_X4_accept_j45  (p : Nat) (x1 : Int32) (h : PH) : Option (PH) :=
  gd (ixOK (h.1 p 2) 401) <|
  if (h.1 (p + 1 + 1) (h.1 p 2).toNatClampNeg) = x1 then
    nm (setI h p 3 2) fun h3 =>
    gd (ixOK (h3.1 p 2) 401) <|
    nm (setI h3 p 4 (h3.1 (p + 1 + 2) (h3.1 p 2).toNatClampNeg)) fun h4 =>
    some h4
  else
    nm (setI h p 3 1) fun h1 =>
    gd (ixOK (h1.1 p 2) 401) <|
    nm (setI h1 p 4 (h1.1 (p + 1 + 2) (h1.1 p 2).toNatClampNeg)) fun h2 =>
    some h2
set_option maxHeartbeats 4000000 in
set_option maxRecDepth 100000 in
theorem w_X4_accept_j45 {p0 : Program} {l : Launch} {e : Env} {s : State} {m : MethodId} {args : Array Value} {below : List Frame} {meth : Method} {c : Code} {Q : State → Prop} {D : va_G} {G : GG} {A : Nat → Prop} {H0 : Heap} {ad : Nat → Nat} {lay : List KK} {X : va_W} {p : Nat} {r0 : PH} {x1 : Int32} {h : PH} {H : Heap} {locs : List Loc} {ls : Array Slot} (hM : CallFix p0 m c cX4_accept 2 s args lw_g RX4) (ho : okX4 lay p) (hR : RtV p0 l e (rmN 0 0) s m args below meth c cX4_accept D G A H0 ad lay X (none) r0 Q 0 0) (hw : Wd D G A H0 ad lay X h s H locs) (hl : lv_has ls 2 [(0, .ref (ad p)), (1, .int x1)]) (hf : c_X4_accept_j45 p x1 h = some r0) : W p0 l e (rmN 0 0) s m args below meth c H locs 0 0 Q (F0 m 45 ls []) := by
  unfold c_X4_accept_j45 at hf
  refine lv_aload_n hM.1 hM.2.1 dX4_accept_45 rfl (lv_at hl 0 rfl) ?_
  refine lv_aload_n hM.1 hM.2.1 dX4_accept_46 rfl (lv_at hl 0 rfl) ?_
  refine gf_X4_tokens hM hw (okX4.o ho) fl_X4_12 dX4_accept_47 ?_
  refine gf_X10_kinds hM hw (okX10.o (okX4.tokens ho)) fl_X4_176 dX4_accept_50 ?_
  refine lv_aload_n hM.1 hM.2.1 dX4_accept_53 rfl (lv_at hl 0 rfl) ?_
  refine gf_X4_at hM hw (okX4.o ho) fl_X4_25 dX4_accept_54 ?_
  refine x_iald hM hw (okX10.kinds (okX4.tokens ho)) hf dX4_accept_57 (fun hf => ?_)
  refine lv_iload_n hM.1 hM.2.1 dX4_accept_58 rfl (lv_at hl 1 rfl) ?_
  refine x_ic_ne (tgt := 66) hM hf dX4_accept_59 (by decide) (fun hf => ?_) (fun hf => ?_)
  · refine lv_iconst (v := 1) hM.1 hM.2.1 dX4_accept_66 ic_1 ?_
    refine pf_X4_broken hM hw (okX4.o ho) fl_X4_29 hf dX4_accept_67 (fun h1 H locs hf hw => ?_)
    refine lv_aload_n hM.1 hM.2.1 dX4_accept_70 rfl (lv_at hl 0 rfl) ?_
    refine lv_aload_n hM.1 hM.2.1 dX4_accept_71 rfl (lv_at hl 0 rfl) ?_
    refine gf_X4_tokens hM hw (okX4.o ho) fl_X4_12 dX4_accept_72 ?_
    refine gf_X10_starts hM hw (okX10.o (okX4.tokens ho)) fl_X4_180 dX4_accept_75 ?_
    refine lv_aload_n hM.1 hM.2.1 dX4_accept_78 rfl (lv_at hl 0 rfl) ?_
    refine gf_X4_at hM hw (okX4.o ho) fl_X4_25 dX4_accept_79 ?_
    refine x_iald hM hw (okX10.starts (okX4.tokens ho)) hf dX4_accept_82 (fun hf => ?_)
    refine pf_X4_brokenPlace hM hw (okX4.o ho) fl_X4_32 hf dX4_accept_83 (fun h2 H locs hf hw => ?_)
    exact hR _ _ _ _ _ (Option.some.inj hf) rfl hw dX4_accept_86
  refine lv_iconst (v := 2) hM.1 hM.2.1 dX4_accept_62 ic_2 ?_
  refine lv_goto (tgt := 67) hM.1 hM.2.1 dX4_accept_63 (by decide) ?_
  refine pf_X4_broken hM hw (okX4.o ho) fl_X4_29 hf dX4_accept_67 (fun h3 H locs hf hw => ?_)
  refine lv_aload_n hM.1 hM.2.1 dX4_accept_70 rfl (lv_at hl 0 rfl) ?_
  refine lv_aload_n hM.1 hM.2.1 dX4_accept_71 rfl (lv_at hl 0 rfl) ?_
  refine gf_X4_tokens hM hw (okX4.o ho) fl_X4_12 dX4_accept_72 ?_
  refine gf_X10_starts hM hw (okX10.o (okX4.tokens ho)) fl_X4_180 dX4_accept_75 ?_
  refine lv_aload_n hM.1 hM.2.1 dX4_accept_78 rfl (lv_at hl 0 rfl) ?_
  refine gf_X4_at hM hw (okX4.o ho) fl_X4_25 dX4_accept_79 ?_
  refine x_iald hM hw (okX10.starts (okX4.tokens ho)) hf dX4_accept_82 (fun hf => ?_)
  refine pf_X4_brokenPlace hM hw (okX4.o ho) fl_X4_32 hf dX4_accept_83 (fun h4 H locs hf hw => ?_)
  exact hR _ _ _ _ _ (Option.some.inj hf) rfl hw dX4_accept_86
def c_X4_accept (p : Nat) (a1 : Int32) (h : PH) : Option (PH) :=
  if (h.1 p 3) = 0 then
    gd (ixOK (h.1 p 2) 401) <|
    if (h.1 (p + 1 + 1) (h.1 p 2).toNatClampNeg) = a1 then
      if 400 ≤ (h.1 p 2) then
        c_X4_accept_j45 p a1 h
      else
        nm (setI h p 2 ((h.1 p 2) + 1)) fun h5 =>
        some h5
    else
      c_X4_accept_j45 p a1 h
  else
    some h
set_option maxHeartbeats 4000000 in
set_option maxRecDepth 100000 in
theorem ct_X4_accept (l : Launch) {lay : List KK} {p : Nat} (ho : okX4 lay p) (a1 : Int32) : CtV l yX4_accept cX4_accept 2 (none) 0 0 lay (fun h => c_X4_accept p a1 h) (fun ad => [.ref (ad p), .int a1]) := by
  refine CtV.mk' RX4 (by decide) rfl (fun _ => Nat.le_of_ble_eq_true rfl) ?_
  intro p0 e s m args below meth c D G A H0 ad X h r0 H ls Q hM hw hl hf hR
  have hl : lv_has ls 2 [(0, .ref (ad p)), (1, .int a1)] := hl
  unfold c_X4_accept at hf
  refine lv_aload_n hM.1 hM.2.1 dX4_accept_0 rfl (lv_at hl 0 rfl) ?_
  refine gf_X4_broken hM hw (okX4.o ho) fl_X4_29 dX4_accept_1 ?_
  refine x_if_eq (tgt := 8) hM hf dX4_accept_4 (by decide) (fun hf => ?_) (fun hf => ?_)
  · refine lv_aload_n hM.1 hM.2.1 dX4_accept_8 rfl (lv_at hl 0 rfl) ?_
    refine gf_X4_tokens hM hw (okX4.o ho) fl_X4_12 dX4_accept_9 ?_
    refine gf_X10_kinds hM hw (okX10.o (okX4.tokens ho)) fl_X4_176 dX4_accept_12 ?_
    refine lv_aload_n hM.1 hM.2.1 dX4_accept_15 rfl (lv_at hl 0 rfl) ?_
    refine gf_X4_at hM hw (okX4.o ho) fl_X4_25 dX4_accept_16 ?_
    refine x_iald hM hw (okX10.kinds (okX4.tokens ho)) hf dX4_accept_19 (fun hf => ?_)
    refine lv_iload_n hM.1 hM.2.1 dX4_accept_20 rfl (lv_at hl 1 rfl) ?_
    refine x_ic_ne (tgt := 45) hM hf dX4_accept_21 (by decide) (fun hf => ?_) (fun hf => ?_)
    · exact w_X4_accept_j45 hM ho hR hw hl hf
    refine lv_aload_n hM.1 hM.2.1 dX4_accept_24 rfl (lv_at hl 0 rfl) ?_
    refine gf_X4_at hM hw (okX4.o ho) fl_X4_25 dX4_accept_25 ?_
    refine lv_sipush (v := 400) hM.1 hM.2.1 dX4_accept_28 (by decide) ?_
    refine x_ic_ge (tgt := 45) hM hf dX4_accept_31 (by decide) (fun hf => ?_) (fun hf => ?_)
    · exact w_X4_accept_j45 hM ho hR hw hl hf
    refine lv_aload_n hM.1 hM.2.1 dX4_accept_34 rfl (lv_at hl 0 rfl) ?_
    refine lv_dup hM.1 hM.2.1 dX4_accept_35 rfl ?_
    refine gf_X4_at hM hw (okX4.o ho) fl_X4_25 dX4_accept_36 ?_
    refine lv_iconst (v := 1) hM.1 hM.2.1 dX4_accept_39 ic_1 ?_
    refine lv_iadd hM.1 hM.2.1 dX4_accept_40 ?_
    refine pf_X4_at hM hw (okX4.o ho) fl_X4_25 hf dX4_accept_41 (fun h5 H locs hf hw => ?_)
    exact hR _ _ _ _ _ (Option.some.inj hf) rfl hw dX4_accept_44
  exact hR _ _ _ _ _ (Option.some.inj hf) rfl hw dX4_accept_7
theorem hd_X4_accept : yX4_accept.cls = RX4 ∧ yX4_accept.cls ≠ "java/lang/invoke/MethodHandle" ∧ yX4_accept.cls ≠ "java/lang/invoke/VarHandle" ∧ (parseMethodDescriptor yX4_accept.desc).map (fun d => d.parameters.length) = some 1 := ⟨rfl, by decide, by decide, by decide +kernel⟩
theorem dX4_open_0 : decode cX4_open 0 = .ok (.iload_n 2, 1) := by decide +kernel
theorem dX4_open_1 : decode cX4_open 1 = .ok (.iload_n 3, 1) := by decide +kernel
theorem dX4_open_2 : decode cX4_open 2 = .ok (.if_icmp .lt 8, 3) := by decide +kernel
theorem dX4_open_5 : decode cX4_open 5 = .ok (.aload_n 0, 1) := by decide +kernel
theorem dX4_open_6 : decode cX4_open 6 = .ok (.iconst 2, 1) := by decide +kernel
theorem dX4_open_7 : decode cX4_open 7 = .ok (.invokevirtual 91, 3) := by decide +kernel
theorem dX4_open_10 : decode cX4_open 10 = .ok (.aload_n 0, 1) := by decide +kernel
theorem dX4_open_11 : decode cX4_open 11 = .ok (.iload_n 1, 1) := by decide +kernel
theorem dX4_open_12 : decode cX4_open 12 = .ok (.invokevirtual 95, 3) := by decide +kernel
theorem dX4_open_15 : decode cX4_open 15 = .ok (.return_, 1) := by decide +kernel
def c_X4_open (p : Nat) (a1 : Int32) (a2 : Int32) (a3 : Int32) (h : PH) : Option (PH) :=
  if a2 < a3 then
    (c_X4_accept p a1 h).bind fun h1 =>
    some h1
  else
    (c_X4_breakOff p 2 h).bind fun h2 =>
    (c_X4_accept p a1 h2).bind fun h3 =>
    some h3
set_option maxHeartbeats 4000000 in
set_option maxRecDepth 100000 in
theorem ct_X4_open (l : Launch) {lay : List KK} {p : Nat} (ho : okX4 lay p) (a1 : Int32) (a2 : Int32) (a3 : Int32) : CtV l yX4_open cX4_open 4 (none) 1 21 lay (fun h => c_X4_open p a1 a2 a3 h) (fun ad => [.ref (ad p), .int a1, .int a2, .int a3]) := by
  refine CtV.mk' RX4 (by decide) rfl (fun _ => Nat.le_of_ble_eq_true rfl) ?_
  intro p0 e s m args below meth c D G A H0 ad X h r0 H ls Q hM hw hl hf hR
  have hl : lv_has ls 4 [(0, .ref (ad p)), (1, .int a1), (2, .int a2), (3, .int a3)] := hl
  unfold c_X4_open at hf
  refine lv_iload_n hM.1 hM.2.1 dX4_open_0 rfl (lv_at hl 2 rfl) ?_
  refine lv_iload_n hM.1 hM.2.1 dX4_open_1 rfl (lv_at hl 3 rfl) ?_
  refine x_ic_lt (tgt := 10) hM hf dX4_open_2 (by decide) (fun hf => ?_) (fun hf => ?_)
  · refine lv_aload_n hM.1 hM.2.1 dX4_open_10 rfl (lv_at hl 0 rfl) ?_
    refine lv_iload_n hM.1 hM.2.1 dX4_open_11 rfl (lv_at hl 1 rfl) ?_
    refine x_callVV (rest := []) hM hw (ct_X4_accept l ho a1) [.int a1] (okX4.o ho) rfl rfl rfl (gi_V ml_X4_95 im_X4_accept sl_X4_accept in_X4 kc_X4_accept) hd_X4_accept rfl ⟨Nat.le_of_ble_eq_true rfl, Nat.le_of_ble_eq_true rfl⟩ rfl (Nat.le_of_ble_eq_true rfl) hl.1 hcs0 hf dX4_open_12 (fun h1 H locs hf hw => ?_)
    exact hR _ _ _ _ _ (Option.some.inj hf) rfl hw dX4_open_15
  refine lv_aload_n hM.1 hM.2.1 dX4_open_5 rfl (lv_at hl 0 rfl) ?_
  refine lv_iconst (v := 2) hM.1 hM.2.1 dX4_open_6 ic_2 ?_
  refine x_callVV (rest := []) hM hw (ct_X4_breakOff l ho 2) [.int 2] (okX4.o ho) rfl rfl rfl (gi_V ml_X4_91 im_X4_breakOff sl_X4_breakOff in_X4 kc_X4_breakOff) hd_X4_breakOff rfl ⟨Nat.le_of_ble_eq_true rfl, Nat.le_of_ble_eq_true rfl⟩ rfl (Nat.le_of_ble_eq_true rfl) hl.1 hcs0 hf dX4_open_7 (fun h2 H locs hf hw => ?_)
  refine lv_aload_n hM.1 hM.2.1 dX4_open_10 rfl (lv_at hl 0 rfl) ?_
  refine lv_iload_n hM.1 hM.2.1 dX4_open_11 rfl (lv_at hl 1 rfl) ?_
  refine x_callVV (rest := []) hM hw (ct_X4_accept l ho a1) [.int a1] (okX4.o ho) rfl rfl rfl (gi_V ml_X4_95 im_X4_accept sl_X4_accept in_X4 kc_X4_accept) hd_X4_accept rfl ⟨Nat.le_of_ble_eq_true rfl, Nat.le_of_ble_eq_true rfl⟩ rfl (Nat.le_of_ble_eq_true rfl) hl.1 hcs0 hf dX4_open_12 (fun h3 H locs hf hw => ?_)
  exact hR _ _ _ _ _ (Option.some.inj hf) rfl hw dX4_open_15
theorem hd_X4_open : yX4_open.cls = RX4 ∧ yX4_open.cls ≠ "java/lang/invoke/MethodHandle" ∧ yX4_open.cls ≠ "java/lang/invoke/VarHandle" ∧ (parseMethodDescriptor yX4_open.desc).map (fun d => d.parameters.length) = some 3 := ⟨rfl, by decide, by decide, by decide +kernel⟩
theorem dX4_placeHere_0 : decode cX4_placeHere 0 = .ok (.aload_n 0, 1) := by decide +kernel
theorem dX4_placeHere_1 : decode cX4_placeHere 1 = .ok (.getfield 12, 3) := by decide +kernel
theorem dX4_placeHere_4 : decode cX4_placeHere 4 = .ok (.getfield 180, 3) := by decide +kernel
theorem dX4_placeHere_7 : decode cX4_placeHere 7 = .ok (.aload_n 0, 1) := by decide +kernel
theorem dX4_placeHere_8 : decode cX4_placeHere 8 = .ok (.getfield 25, 3) := by decide +kernel
theorem dX4_placeHere_11 : decode cX4_placeHere 11 = .ok (.iaload, 1) := by decide +kernel
theorem dX4_placeHere_12 : decode cX4_placeHere 12 = .ok (.ireturn, 1) := by decide +kernel
def c_X4_placeHere (p : Nat) (h : PH) : Option (Int32) :=
  gd (ixOK (h.1 p 2) 401) <|
  some (h.1 (p + 1 + 2) (h.1 p 2).toNatClampNeg)
set_option maxHeartbeats 4000000 in
set_option maxRecDepth 100000 in
theorem ct_X4_placeHere (l : Launch) {lay : List KK} {p : Nat} (ho : okX4 lay p) : CtI l yX4_placeHere cX4_placeHere 1 (some .int) 0 0 lay (rd (fun h => c_X4_placeHere p h)) (fun ad => [.ref (ad p)]) := by
  refine CtI.mk' RX4 (by decide) rfl (fun _ => Nat.le_of_ble_eq_true rfl) ?_
  intro p0 e s m args below meth c D G A H0 ad X h r0 H ls Q hM hw hl hf hR
  have hl : lv_has ls 1 [(0, .ref (ad p))] := hl
  obtain ⟨v0, hv0, hr0⟩ : ∃ v0, c_X4_placeHere p h = some v0 ∧ r0 = (v0, h) := rd_some hf
  subst hr0
  have hf := hv0
  unfold c_X4_placeHere at hf
  refine lv_aload_n hM.1 hM.2.1 dX4_placeHere_0 rfl (lv_at hl 0 rfl) ?_
  refine gf_X4_tokens hM hw (okX4.o ho) fl_X4_12 dX4_placeHere_1 ?_
  refine gf_X10_starts hM hw (okX10.o (okX4.tokens ho)) fl_X4_180 dX4_placeHere_4 ?_
  refine lv_aload_n hM.1 hM.2.1 dX4_placeHere_7 rfl (lv_at hl 0 rfl) ?_
  refine gf_X4_at hM hw (okX4.o ho) fl_X4_25 dX4_placeHere_8 ?_
  refine x_iald hM hw (okX10.starts (okX4.tokens ho)) hf dX4_placeHere_11 (fun hf => ?_)
  exact hR _ _ _ _ _ _ _ (congrArg (fun z => (z, _)) (Option.some.inj hf)) rfl rfl hw dX4_placeHere_12
theorem hd_X4_placeHere : yX4_placeHere.cls = RX4 ∧ yX4_placeHere.cls ≠ "java/lang/invoke/MethodHandle" ∧ yX4_placeHere.cls ≠ "java/lang/invoke/VarHandle" ∧ (parseMethodDescriptor yX4_placeHere.desc).map (fun d => d.parameters.length) = some 0 := ⟨rfl, by decide, by decide, by decide +kernel⟩
theorem dX4_complain_0 : decode cX4_complain 0 = .ok (.aload_n 0, 1) := by decide +kernel
theorem dX4_complain_1 : decode cX4_complain 1 = .ok (.getfield 35, 3) := by decide +kernel
theorem dX4_complain_4 : decode cX4_complain 4 = .ok (.ifCond .ne 13, 3) := by decide +kernel
theorem dX4_complain_7 : decode cX4_complain 7 = .ok (.aload_n 0, 1) := by decide +kernel
theorem dX4_complain_8 : decode cX4_complain 8 = .ok (.iload_n 1, 1) := by decide +kernel
theorem dX4_complain_9 : decode cX4_complain 9 = .ok (.putfield 35, 3) := by decide +kernel
theorem dX4_complain_12 : decode cX4_complain 12 = .ok (.aload_n 0, 1) := by decide +kernel
theorem dX4_complain_13 : decode cX4_complain 13 = .ok (.iload_n 2, 1) := by decide +kernel
theorem dX4_complain_14 : decode cX4_complain 14 = .ok (.putfield 38, 3) := by decide +kernel
theorem dX4_complain_17 : decode cX4_complain 17 = .ok (.return_, 1) := by decide +kernel
def c_X4_complain (p : Nat) (a1 : Int32) (a2 : Int32) (h : PH) : Option (PH) :=
  if (h.1 p 5) = 0 then
    nm (setI h p 5 a1) fun h1 =>
    nm (setI h1 p 6 a2) fun h2 =>
    some h2
  else
    some h
set_option maxHeartbeats 4000000 in
set_option maxRecDepth 100000 in
theorem ct_X4_complain (l : Launch) {lay : List KK} {p : Nat} (ho : okX4 lay p) (a1 : Int32) (a2 : Int32) : CtV l yX4_complain cX4_complain 3 (none) 0 0 lay (fun h => c_X4_complain p a1 a2 h) (fun ad => [.ref (ad p), .int a1, .int a2]) := by
  refine CtV.mk' RX4 (by decide) rfl (fun _ => Nat.le_of_ble_eq_true rfl) ?_
  intro p0 e s m args below meth c D G A H0 ad X h r0 H ls Q hM hw hl hf hR
  have hl : lv_has ls 3 [(0, .ref (ad p)), (1, .int a1), (2, .int a2)] := hl
  unfold c_X4_complain at hf
  refine lv_aload_n hM.1 hM.2.1 dX4_complain_0 rfl (lv_at hl 0 rfl) ?_
  refine gf_X4_unsound hM hw (okX4.o ho) fl_X4_35 dX4_complain_1 ?_
  refine x_if_ne (tgt := 17) hM hf dX4_complain_4 (by decide) (fun hf => ?_) (fun hf => ?_)
  · exact hR _ _ _ _ _ (Option.some.inj hf) rfl hw dX4_complain_17
  refine lv_aload_n hM.1 hM.2.1 dX4_complain_7 rfl (lv_at hl 0 rfl) ?_
  refine lv_iload_n hM.1 hM.2.1 dX4_complain_8 rfl (lv_at hl 1 rfl) ?_
  refine pf_X4_unsound hM hw (okX4.o ho) fl_X4_35 hf dX4_complain_9 (fun h1 H locs hf hw => ?_)
  refine lv_aload_n hM.1 hM.2.1 dX4_complain_12 rfl (lv_at hl 0 rfl) ?_
  refine lv_iload_n hM.1 hM.2.1 dX4_complain_13 rfl (lv_at hl 2 rfl) ?_
  refine pf_X4_unsoundPlace hM hw (okX4.o ho) fl_X4_38 hf dX4_complain_14 (fun h2 H locs hf hw => ?_)
  exact hR _ _ _ _ _ (Option.some.inj hf) rfl hw dX4_complain_17
theorem hd_X4_complain : yX4_complain.cls = RX4 ∧ yX4_complain.cls ≠ "java/lang/invoke/MethodHandle" ∧ yX4_complain.cls ≠ "java/lang/invoke/VarHandle" ∧ (parseMethodDescriptor yX4_complain.desc).map (fun d => d.parameters.length) = some 2 := ⟨rfl, by decide, by decide, by decide +kernel⟩
theorem dX4_newName_0 : decode cX4_newName 0 = .ok (.aload_n 0, 1) := by decide +kernel
theorem dX4_newName_1 : decode cX4_newName 1 = .ok (.invokevirtual 135, 3) := by decide +kernel
theorem dX4_newName_4 : decode cX4_newName 4 = .ok (.istore_n 3, 1) := by decide +kernel
theorem dX4_newName_5 : decode cX4_newName 5 = .ok (.aload_n 0, 1) := by decide +kernel
theorem dX4_newName_6 : decode cX4_newName 6 = .ok (.getfield 12, 3) := by decide +kernel
theorem dX4_newName_9 : decode cX4_newName 9 = .ok (.getfield 172, 3) := by decide +kernel
theorem dX4_newName_12 : decode cX4_newName 12 = .ok (.aload_n 0, 1) := by decide +kernel
theorem dX4_newName_13 : decode cX4_newName 13 = .ok (.getfield 25, 3) := by decide +kernel
theorem dX4_newName_16 : decode cX4_newName 16 = .ok (.laload, 1) := by decide +kernel
theorem dX4_newName_17 : decode cX4_newName 17 = .ok (.lstore 4, 2) := by decide +kernel
theorem dX4_newName_19 : decode cX4_newName 19 = .ok (.aload_n 0, 1) := by decide +kernel
theorem dX4_newName_20 : decode cX4_newName 20 = .ok (.iconst 2, 1) := by decide +kernel
theorem dX4_newName_21 : decode cX4_newName 21 = .ok (.invokevirtual 95, 3) := by decide +kernel
theorem dX4_newName_24 : decode cX4_newName 24 = .ok (.aload_n 0, 1) := by decide +kernel
theorem dX4_newName_25 : decode cX4_newName 25 = .ok (.getfield 29, 3) := by decide +kernel
theorem dX4_newName_28 : decode cX4_newName 28 = .ok (.ifCond .eq 4, 3) := by decide +kernel
theorem dX4_newName_31 : decode cX4_newName 31 = .ok (.return_, 1) := by decide +kernel
theorem dX4_newName_32 : decode cX4_newName 32 = .ok (.aload_n 0, 1) := by decide +kernel
theorem dX4_newName_33 : decode cX4_newName 33 = .ok (.getfield 21, 3) := by decide +kernel
theorem dX4_newName_36 : decode cX4_newName 36 = .ok (.lload 4, 2) := by decide +kernel
theorem dX4_newName_38 : decode cX4_newName 38 = .ok (.invokevirtual 183, 3) := by decide +kernel
theorem dX4_newName_41 : decode cX4_newName 41 = .ok (.iconst (-1), 1) := by decide +kernel
theorem dX4_newName_42 : decode cX4_newName 42 = .ok (.if_icmp .eq 9, 3) := by decide +kernel
theorem dX4_newName_45 : decode cX4_newName 45 = .ok (.aload_n 0, 1) := by decide +kernel
theorem dX4_newName_46 : decode cX4_newName 46 = .ok (.iconst 3, 1) := by decide +kernel
theorem dX4_newName_47 : decode cX4_newName 47 = .ok (.iload_n 3, 1) := by decide +kernel
theorem dX4_newName_48 : decode cX4_newName 48 = .ok (.invokevirtual 138, 3) := by decide +kernel
theorem dX4_newName_51 : decode cX4_newName 51 = .ok (.aload_n 0, 1) := by decide +kernel
theorem dX4_newName_52 : decode cX4_newName 52 = .ok (.getfield 21, 3) := by decide +kernel
theorem dX4_newName_55 : decode cX4_newName 55 = .ok (.lload 4, 2) := by decide +kernel
theorem dX4_newName_57 : decode cX4_newName 57 = .ok (.iload_n 1, 1) := by decide +kernel
theorem dX4_newName_58 : decode cX4_newName 58 = .ok (.iload_n 2, 1) := by decide +kernel
theorem dX4_newName_59 : decode cX4_newName 59 = .ok (.invokevirtual 187, 3) := by decide +kernel
theorem dX4_newName_62 : decode cX4_newName 62 = .ok (.return_, 1) := by decide +kernel
def c_X4_newName (p : Nat) (a1 : Int32) (a2 : Int32) (h : PH) : Option (PH) :=
  (c_X4_placeHere p h).bind fun r1 =>
  nm r1 fun v2 =>
  gd (ixOK (h.1 p 2) 401) <|
  nm (h.2.1 (p + 1 + 3) (h.1 p 2).toNatClampNeg) fun v3 =>
  (c_X4_accept p 2 h).bind fun h4 =>
  if (h4.1 p 3) = 0 then
    nm (h4.2.2 p 1) fun t5 =>
    gd (tOK t5) <|
    (c_X9_findName t5 v3 h4).bind fun r6 =>
    if r6 = (-1) then
      nm (h4.2.2 p 1) fun t7 =>
      gd (tOK t7) <|
      (c_X9_addName t7 v3 a1 a2 h4).bind fun h8 =>
      some h8
    else
      (c_X4_complain p 3 v2 h4).bind fun h9 =>
      nm (h9.2.2 p 1) fun t10 =>
      gd (tOK t10) <|
      (c_X9_addName t10 v3 a1 a2 h9).bind fun h11 =>
      some h11
  else
    some h4
set_option maxHeartbeats 4000000 in
set_option maxRecDepth 100000 in
theorem ct_X4_newName (l : Launch) {lay : List KK} {p : Nat} (ho : okX4 lay p) (a1 : Int32) (a2 : Int32) : CtV l yX4_newName cX4_newName 6 (none) 1 24 lay (fun h => c_X4_newName p a1 a2 h) (fun ad => [.ref (ad p), .int a1, .int a2]) := by
  refine CtV.mk' RX4 (by decide) rfl (fun _ => Nat.le_of_ble_eq_true rfl) ?_
  intro p0 e s m args below meth c D G A H0 ad X h r0 H ls Q hM hw hl hf hR
  have hl : lv_has ls 6 [(0, .ref (ad p)), (1, .int a1), (2, .int a2)] := hl
  unfold c_X4_newName at hf
  refine lv_aload_n hM.1 hM.2.1 dX4_newName_0 rfl (lv_at hl 0 rfl) ?_
  refine x_callVIr (rest := []) hM hw (ct_X4_placeHere l ho) [] (okX4.o ho) rfl rfl rfl (gi_V ml_X4_135 im_X4_placeHere sl_X4_placeHere in_X4 kc_X4_placeHere) hd_X4_placeHere rfl ⟨Nat.le_of_ble_eq_true rfl, Nat.le_of_ble_eq_true rfl⟩ rfl (Nat.le_of_ble_eq_true rfl) hl.1 hcs0 hf dX4_newName_1 (fun r1 H locs hf hw => ?_)
  refine x_istore_n hM hf dX4_newName_4 rfl hl (by decide) (fun v2 => [(3, .int v2), (0, .ref (ad p)), (1, .int a1), (2, .int a2)]) (fun _ => rfl) (fun v2 ls hf hl => ?_)
  refine lv_aload_n hM.1 hM.2.1 dX4_newName_5 rfl (lv_at hl 1 rfl) ?_
  refine gf_X4_tokens hM hw (okX4.o ho) fl_X4_12 dX4_newName_6 ?_
  refine gf_X10_values hM hw (okX10.o (okX4.tokens ho)) fl_X4_172 dX4_newName_9 ?_
  refine lv_aload_n hM.1 hM.2.1 dX4_newName_12 rfl (lv_at hl 1 rfl) ?_
  refine gf_X4_at hM hw (okX4.o ho) fl_X4_25 dX4_newName_13 ?_
  refine x_lald hM hw (okX10.values (okX4.tokens ho)) hf dX4_newName_16 (fun hf => ?_)
  refine x_lstore hM hf dX4_newName_17 hl (by decide) (fun v3 => [(4, .long v3), (3, .int v2), (0, .ref (ad p)), (1, .int a1), (2, .int a2)]) (fun _ => rfl) (fun v3 ls hf hl => ?_)
  refine lv_aload_n hM.1 hM.2.1 dX4_newName_19 rfl (lv_at hl 2 rfl) ?_
  refine lv_iconst (v := 2) hM.1 hM.2.1 dX4_newName_20 ic_2 ?_
  refine x_callVV (rest := []) hM hw (ct_X4_accept l ho 2) [.int 2] (okX4.o ho) rfl rfl rfl (gi_V ml_X4_95 im_X4_accept sl_X4_accept in_X4 kc_X4_accept) hd_X4_accept rfl ⟨Nat.le_of_ble_eq_true rfl, Nat.le_of_ble_eq_true rfl⟩ rfl (Nat.le_of_ble_eq_true rfl) hl.1 hcs0 hf dX4_newName_21 (fun h4 H locs hf hw => ?_)
  refine lv_aload_n hM.1 hM.2.1 dX4_newName_24 rfl (lv_at hl 2 rfl) ?_
  refine gf_X4_broken hM hw (okX4.o ho) fl_X4_29 dX4_newName_25 ?_
  refine x_if_eq (tgt := 32) hM hf dX4_newName_28 (by decide) (fun hf => ?_) (fun hf => ?_)
  · refine lv_aload_n hM.1 hM.2.1 dX4_newName_32 rfl (lv_at hl 2 rfl) ?_
    refine gf_X4_text hM hw (okX4.o ho) fl_X4_21 dX4_newName_33 ?_
    refine x_nmr hf (fun t5 hf => ?_)
    obtain ⟨hok_t5, hf⟩ := x_cond hf
    refine lv_lload hM.1 hM.2.1 dX4_newName_36 (lv_at hl 0 rfl) ?_
    refine x_callVIr (rest := []) hM hw (ct_X9_findName l (okX4.textOf ho hok_t5) v3) [.long v3] (okX9.o (okX4.textOf ho hok_t5)) rfl rfl rfl (gi_V ml_X4_183 im_X9_findName sl_X9_findName in_X9 kc_X9_findName) hd_X9_findName rfl ⟨Nat.le_of_ble_eq_true rfl, Nat.le_of_ble_eq_true rfl⟩ rfl (Nat.le_of_ble_eq_true rfl) hl.1 hcs0 hf dX4_newName_38 (fun r6 H locs hf hw => ?_)
    refine lv_iconst (v := (-1)) hM.1 hM.2.1 dX4_newName_41 ic_m1 ?_
    refine x_ic_eq (tgt := 51) hM hf dX4_newName_42 (by decide) (fun hf => ?_) (fun hf => ?_)
    · refine lv_aload_n hM.1 hM.2.1 dX4_newName_51 rfl (lv_at hl 2 rfl) ?_
      refine gf_X4_text hM hw (okX4.o ho) fl_X4_21 dX4_newName_52 ?_
      refine x_nmr hf (fun t7 hf => ?_)
      obtain ⟨hok_t7, hf⟩ := x_cond hf
      refine lv_lload hM.1 hM.2.1 dX4_newName_55 (lv_at hl 0 rfl) ?_
      refine lv_iload_n hM.1 hM.2.1 dX4_newName_57 rfl (lv_at hl 3 rfl) ?_
      refine lv_iload_n hM.1 hM.2.1 dX4_newName_58 rfl (lv_at hl 4 rfl) ?_
      refine x_callVV (rest := []) hM hw (ct_X9_addName l (okX4.textOf ho hok_t7) v3 a1 a2) [.long v3, .int a1, .int a2] (okX9.o (okX4.textOf ho hok_t7)) rfl rfl rfl (gi_V ml_X4_187 im_X9_addName sl_X9_addName in_X9 kc_X9_addName) hd_X9_addName rfl ⟨Nat.le_of_ble_eq_true rfl, Nat.le_of_ble_eq_true rfl⟩ rfl (Nat.le_of_ble_eq_true rfl) hl.1 hcs0 hf dX4_newName_59 (fun h8 H locs hf hw => ?_)
      exact hR _ _ _ _ _ (Option.some.inj hf) rfl hw dX4_newName_62
    refine lv_aload_n hM.1 hM.2.1 dX4_newName_45 rfl (lv_at hl 2 rfl) ?_
    refine lv_iconst (v := 3) hM.1 hM.2.1 dX4_newName_46 ic_3 ?_
    refine lv_iload_n hM.1 hM.2.1 dX4_newName_47 rfl (lv_at hl 1 rfl) ?_
    refine x_callVV (rest := []) hM hw (ct_X4_complain l ho 3 v2) [.int 3, .int v2] (okX4.o ho) rfl rfl rfl (gi_V ml_X4_138 im_X4_complain sl_X4_complain in_X4 kc_X4_complain) hd_X4_complain rfl ⟨Nat.le_of_ble_eq_true rfl, Nat.le_of_ble_eq_true rfl⟩ rfl (Nat.le_of_ble_eq_true rfl) hl.1 hcs0 hf dX4_newName_48 (fun h9 H locs hf hw => ?_)
    refine lv_aload_n hM.1 hM.2.1 dX4_newName_51 rfl (lv_at hl 2 rfl) ?_
    refine gf_X4_text hM hw (okX4.o ho) fl_X4_21 dX4_newName_52 ?_
    refine x_nmr hf (fun t10 hf => ?_)
    obtain ⟨hok_t10, hf⟩ := x_cond hf
    refine lv_lload hM.1 hM.2.1 dX4_newName_55 (lv_at hl 0 rfl) ?_
    refine lv_iload_n hM.1 hM.2.1 dX4_newName_57 rfl (lv_at hl 3 rfl) ?_
    refine lv_iload_n hM.1 hM.2.1 dX4_newName_58 rfl (lv_at hl 4 rfl) ?_
    refine x_callVV (rest := []) hM hw (ct_X9_addName l (okX4.textOf ho hok_t10) v3 a1 a2) [.long v3, .int a1, .int a2] (okX9.o (okX4.textOf ho hok_t10)) rfl rfl rfl (gi_V ml_X4_187 im_X9_addName sl_X9_addName in_X9 kc_X9_addName) hd_X9_addName rfl ⟨Nat.le_of_ble_eq_true rfl, Nat.le_of_ble_eq_true rfl⟩ rfl (Nat.le_of_ble_eq_true rfl) hl.1 hcs0 hf dX4_newName_59 (fun h11 H locs hf hw => ?_)
    exact hR _ _ _ _ _ (Option.some.inj hf) rfl hw dX4_newName_62
  exact hR _ _ _ _ _ (Option.some.inj hf) rfl hw dX4_newName_31
theorem hd_X4_newName : yX4_newName.cls = RX4 ∧ yX4_newName.cls ≠ "java/lang/invoke/MethodHandle" ∧ yX4_newName.cls ≠ "java/lang/invoke/VarHandle" ∧ (parseMethodDescriptor yX4_newName.desc).map (fun d => d.parameters.length) = some 2 := ⟨rfl, by decide, by decide, by decide +kernel⟩
theorem dX4_number_0 : decode cX4_number 0 = .ok (.aload_n 0, 1) := by decide +kernel
theorem dX4_number_1 : decode cX4_number 1 = .ok (.invokevirtual 135, 3) := by decide +kernel
theorem dX4_number_4 : decode cX4_number 4 = .ok (.istore_n 3, 1) := by decide +kernel
theorem dX4_number_5 : decode cX4_number 5 = .ok (.aload_n 0, 1) := by decide +kernel
theorem dX4_number_6 : decode cX4_number 6 = .ok (.getfield 12, 3) := by decide +kernel
theorem dX4_number_9 : decode cX4_number 9 = .ok (.getfield 172, 3) := by decide +kernel
theorem dX4_number_12 : decode cX4_number 12 = .ok (.aload_n 0, 1) := by decide +kernel
theorem dX4_number_13 : decode cX4_number 13 = .ok (.getfield 25, 3) := by decide +kernel
theorem dX4_number_16 : decode cX4_number 16 = .ok (.laload, 1) := by decide +kernel
theorem dX4_number_17 : decode cX4_number 17 = .ok (.l2i, 1) := by decide +kernel
theorem dX4_number_18 : decode cX4_number 18 = .ok (.istore 4, 2) := by decide +kernel
theorem dX4_number_20 : decode cX4_number 20 = .ok (.aload_n 0, 1) := by decide +kernel
theorem dX4_number_21 : decode cX4_number 21 = .ok (.iconst 3, 1) := by decide +kernel
theorem dX4_number_22 : decode cX4_number 22 = .ok (.invokevirtual 95, 3) := by decide +kernel
theorem dX4_number_25 : decode cX4_number 25 = .ok (.aload_n 0, 1) := by decide +kernel
theorem dX4_number_26 : decode cX4_number 26 = .ok (.getfield 29, 3) := by decide +kernel
theorem dX4_number_29 : decode cX4_number 29 = .ok (.ifCond .ne 21, 3) := by decide +kernel
theorem dX4_number_32 : decode cX4_number 32 = .ok (.iload 4, 2) := by decide +kernel
theorem dX4_number_34 : decode cX4_number 34 = .ok (.iload_n 1, 1) := by decide +kernel
theorem dX4_number_35 : decode cX4_number 35 = .ok (.if_icmp .lt 9, 3) := by decide +kernel
theorem dX4_number_38 : decode cX4_number 38 = .ok (.iload 4, 2) := by decide +kernel
theorem dX4_number_40 : decode cX4_number 40 = .ok (.iload_n 2, 1) := by decide +kernel
theorem dX4_number_41 : decode cX4_number 41 = .ok (.if_icmp .le 9, 3) := by decide +kernel
theorem dX4_number_44 : decode cX4_number 44 = .ok (.aload_n 0, 1) := by decide +kernel
theorem dX4_number_45 : decode cX4_number 45 = .ok (.iconst 5, 1) := by decide +kernel
theorem dX4_number_46 : decode cX4_number 46 = .ok (.iload_n 3, 1) := by decide +kernel
theorem dX4_number_47 : decode cX4_number 47 = .ok (.invokevirtual 138, 3) := by decide +kernel
theorem dX4_number_50 : decode cX4_number 50 = .ok (.iload 4, 2) := by decide +kernel
theorem dX4_number_52 : decode cX4_number 52 = .ok (.ireturn, 1) := by decide +kernel
def c_X4_number (p : Nat) (a1 : Int32) (a2 : Int32) (h : PH) : Option (Int32 × PH) :=
  (c_X4_placeHere p h).bind fun r1 =>
  nm r1 fun v2 =>
  gd (ixOK (h.1 p 2) 401) <|
  nm ((h.2.1 (p + 1 + 3) (h.1 p 2).toNatClampNeg).toInt32) fun v3 =>
  (c_X4_accept p 3 h).bind fun h4 =>
  if (h4.1 p 3) = 0 then
    if v3 < a1 then
      (c_X4_complain p 5 v2 h4).bind fun h5 =>
      some (v3, h5)
    else
      if v3 ≤ a2 then
        some (v3, h4)
      else
        (c_X4_complain p 5 v2 h4).bind fun h6 =>
        some (v3, h6)
  else
    some (v3, h4)
set_option maxHeartbeats 4000000 in
set_option maxRecDepth 100000 in
theorem ct_X4_number (l : Launch) {lay : List KK} {p : Nat} (ho : okX4 lay p) (a1 : Int32) (a2 : Int32) : CtI l yX4_number cX4_number 5 (some .int) 1 22 lay (fun h => c_X4_number p a1 a2 h) (fun ad => [.ref (ad p), .int a1, .int a2]) := by
  refine CtI.mk' RX4 (by decide) rfl (fun _ => Nat.le_of_ble_eq_true rfl) ?_
  intro p0 e s m args below meth c D G A H0 ad X h r0 H ls Q hM hw hl hf hR
  have hl : lv_has ls 5 [(0, .ref (ad p)), (1, .int a1), (2, .int a2)] := hl
  unfold c_X4_number at hf
  refine lv_aload_n hM.1 hM.2.1 dX4_number_0 rfl (lv_at hl 0 rfl) ?_
  refine x_callVIr (rest := []) hM hw (ct_X4_placeHere l ho) [] (okX4.o ho) rfl rfl rfl (gi_V ml_X4_135 im_X4_placeHere sl_X4_placeHere in_X4 kc_X4_placeHere) hd_X4_placeHere rfl ⟨Nat.le_of_ble_eq_true rfl, Nat.le_of_ble_eq_true rfl⟩ rfl (Nat.le_of_ble_eq_true rfl) hl.1 hcs0 hf dX4_number_1 (fun r1 H locs hf hw => ?_)
  refine x_istore_n hM hf dX4_number_4 rfl hl (by decide) (fun v2 => [(3, .int v2), (0, .ref (ad p)), (1, .int a1), (2, .int a2)]) (fun _ => rfl) (fun v2 ls hf hl => ?_)
  refine lv_aload_n hM.1 hM.2.1 dX4_number_5 rfl (lv_at hl 1 rfl) ?_
  refine gf_X4_tokens hM hw (okX4.o ho) fl_X4_12 dX4_number_6 ?_
  refine gf_X10_values hM hw (okX10.o (okX4.tokens ho)) fl_X4_172 dX4_number_9 ?_
  refine lv_aload_n hM.1 hM.2.1 dX4_number_12 rfl (lv_at hl 1 rfl) ?_
  refine gf_X4_at hM hw (okX4.o ho) fl_X4_25 dX4_number_13 ?_
  refine x_lald hM hw (okX10.values (okX4.tokens ho)) hf dX4_number_16 (fun hf => ?_)
  refine lv_l2i hM.1 hM.2.1 dX4_number_17 rfl ?_
  refine x_istore hM hf dX4_number_18 hl (by decide) (fun v3 => [(4, .int v3), (3, .int v2), (0, .ref (ad p)), (1, .int a1), (2, .int a2)]) (fun _ => rfl) (fun v3 ls hf hl => ?_)
  refine lv_aload_n hM.1 hM.2.1 dX4_number_20 rfl (lv_at hl 2 rfl) ?_
  refine lv_iconst (v := 3) hM.1 hM.2.1 dX4_number_21 ic_3 ?_
  refine x_callVV (rest := []) hM hw (ct_X4_accept l ho 3) [.int 3] (okX4.o ho) rfl rfl rfl (gi_V ml_X4_95 im_X4_accept sl_X4_accept in_X4 kc_X4_accept) hd_X4_accept rfl ⟨Nat.le_of_ble_eq_true rfl, Nat.le_of_ble_eq_true rfl⟩ rfl (Nat.le_of_ble_eq_true rfl) hl.1 hcs0 hf dX4_number_22 (fun h4 H locs hf hw => ?_)
  refine lv_aload_n hM.1 hM.2.1 dX4_number_25 rfl (lv_at hl 2 rfl) ?_
  refine gf_X4_broken hM hw (okX4.o ho) fl_X4_29 dX4_number_26 ?_
  refine x_if_ne (tgt := 50) hM hf dX4_number_29 (by decide) (fun hf => ?_) (fun hf => ?_)
  · refine lv_iload hM.1 hM.2.1 dX4_number_50 (lv_at hl 0 rfl) ?_
    exact hR _ _ _ _ _ _ _ (Option.some.inj hf) rfl rfl hw dX4_number_52
  refine lv_iload hM.1 hM.2.1 dX4_number_32 (lv_at hl 0 rfl) ?_
  refine lv_iload_n hM.1 hM.2.1 dX4_number_34 rfl (lv_at hl 3 rfl) ?_
  refine x_ic_lt (tgt := 44) hM hf dX4_number_35 (by decide) (fun hf => ?_) (fun hf => ?_)
  · refine lv_aload_n hM.1 hM.2.1 dX4_number_44 rfl (lv_at hl 2 rfl) ?_
    refine lv_iconst (v := 5) hM.1 hM.2.1 dX4_number_45 ic_5 ?_
    refine lv_iload_n hM.1 hM.2.1 dX4_number_46 rfl (lv_at hl 1 rfl) ?_
    refine x_callVV (rest := []) hM hw (ct_X4_complain l ho 5 v2) [.int 5, .int v2] (okX4.o ho) rfl rfl rfl (gi_V ml_X4_138 im_X4_complain sl_X4_complain in_X4 kc_X4_complain) hd_X4_complain rfl ⟨Nat.le_of_ble_eq_true rfl, Nat.le_of_ble_eq_true rfl⟩ rfl (Nat.le_of_ble_eq_true rfl) hl.1 hcs0 hf dX4_number_47 (fun h5 H locs hf hw => ?_)
    refine lv_iload hM.1 hM.2.1 dX4_number_50 (lv_at hl 0 rfl) ?_
    exact hR _ _ _ _ _ _ _ (Option.some.inj hf) rfl rfl hw dX4_number_52
  refine lv_iload hM.1 hM.2.1 dX4_number_38 (lv_at hl 0 rfl) ?_
  refine lv_iload_n hM.1 hM.2.1 dX4_number_40 rfl (lv_at hl 4 rfl) ?_
  refine x_ic_le (tgt := 50) hM hf dX4_number_41 (by decide) (fun hf => ?_) (fun hf => ?_)
  · refine lv_iload hM.1 hM.2.1 dX4_number_50 (lv_at hl 0 rfl) ?_
    exact hR _ _ _ _ _ _ _ (Option.some.inj hf) rfl rfl hw dX4_number_52
  refine lv_aload_n hM.1 hM.2.1 dX4_number_44 rfl (lv_at hl 2 rfl) ?_
  refine lv_iconst (v := 5) hM.1 hM.2.1 dX4_number_45 ic_5 ?_
  refine lv_iload_n hM.1 hM.2.1 dX4_number_46 rfl (lv_at hl 1 rfl) ?_
  refine x_callVV (rest := []) hM hw (ct_X4_complain l ho 5 v2) [.int 5, .int v2] (okX4.o ho) rfl rfl rfl (gi_V ml_X4_138 im_X4_complain sl_X4_complain in_X4 kc_X4_complain) hd_X4_complain rfl ⟨Nat.le_of_ble_eq_true rfl, Nat.le_of_ble_eq_true rfl⟩ rfl (Nat.le_of_ble_eq_true rfl) hl.1 hcs0 hf dX4_number_47 (fun h6 H locs hf hw => ?_)
  refine lv_iload hM.1 hM.2.1 dX4_number_50 (lv_at hl 0 rfl) ?_
  exact hR _ _ _ _ _ _ _ (Option.some.inj hf) rfl rfl hw dX4_number_52
theorem hd_X4_number : yX4_number.cls = RX4 ∧ yX4_number.cls ≠ "java/lang/invoke/MethodHandle" ∧ yX4_number.cls ≠ "java/lang/invoke/VarHandle" ∧ (parseMethodDescriptor yX4_number.desc).map (fun d => d.parameters.length) = some 2 := ⟨rfl, by decide, by decide, by decide +kernel⟩
theorem dX4_tellMan_0 : decode cX4_tellMan 0 = .ok (.aload_n 0, 1) := by decide +kernel
theorem dX4_tellMan_1 : decode cX4_tellMan 1 = .ok (.bipush 64, 2) := by decide +kernel
theorem dX4_tellMan_3 : decode cX4_tellMan 3 = .ok (.aload_n 0, 1) := by decide +kernel
theorem dX4_tellMan_4 : decode cX4_tellMan 4 = .ok (.getfield 21, 3) := by decide +kernel
theorem dX4_tellMan_7 : decode cX4_tellMan 7 = .ok (.getfield 98, 3) := by decide +kernel
theorem dX4_tellMan_10 : decode cX4_tellMan 10 = .ok (.iconst 5, 1) := by decide +kernel
theorem dX4_tellMan_11 : decode cX4_tellMan 11 = .ok (.invokevirtual 101, 3) := by decide +kernel
theorem dX4_tellMan_14 : decode cX4_tellMan 14 = .ok (.aload_n 0, 1) := by decide +kernel
theorem dX4_tellMan_15 : decode cX4_tellMan 15 = .ok (.bipush 64, 2) := by decide +kernel
theorem dX4_tellMan_17 : decode cX4_tellMan 17 = .ok (.aload_n 0, 1) := by decide +kernel
theorem dX4_tellMan_18 : decode cX4_tellMan 18 = .ok (.getfield 21, 3) := by decide +kernel
theorem dX4_tellMan_21 : decode cX4_tellMan 21 = .ok (.getfield 98, 3) := by decide +kernel
theorem dX4_tellMan_24 : decode cX4_tellMan 24 = .ok (.invokevirtual 105, 3) := by decide +kernel
theorem dX4_tellMan_27 : decode cX4_tellMan 27 = .ok (.aload_n 0, 1) := by decide +kernel
theorem dX4_tellMan_28 : decode cX4_tellMan 28 = .ok (.iconst 0, 1) := by decide +kernel
theorem dX4_tellMan_29 : decode cX4_tellMan 29 = .ok (.bipush 99, 2) := by decide +kernel
theorem dX4_tellMan_31 : decode cX4_tellMan 31 = .ok (.invokevirtual 109, 3) := by decide +kernel
theorem dX4_tellMan_34 : decode cX4_tellMan 34 = .ok (.istore_n 1, 1) := by decide +kernel
theorem dX4_tellMan_35 : decode cX4_tellMan 35 = .ok (.aload_n 0, 1) := by decide +kernel
theorem dX4_tellMan_36 : decode cX4_tellMan 36 = .ok (.iconst 0, 1) := by decide +kernel
theorem dX4_tellMan_37 : decode cX4_tellMan 37 = .ok (.bipush 9, 2) := by decide +kernel
theorem dX4_tellMan_39 : decode cX4_tellMan 39 = .ok (.invokevirtual 109, 3) := by decide +kernel
theorem dX4_tellMan_42 : decode cX4_tellMan 42 = .ok (.istore_n 2, 1) := by decide +kernel
theorem dX4_tellMan_43 : decode cX4_tellMan 43 = .ok (.aload_n 0, 1) := by decide +kernel
theorem dX4_tellMan_44 : decode cX4_tellMan 44 = .ok (.getfield 29, 3) := by decide +kernel
theorem dX4_tellMan_47 : decode cX4_tellMan 47 = .ok (.ifCond .ne 12, 3) := by decide +kernel
theorem dX4_tellMan_50 : decode cX4_tellMan 50 = .ok (.aload_n 0, 1) := by decide +kernel
theorem dX4_tellMan_51 : decode cX4_tellMan 51 = .ok (.getfield 21, 3) := by decide +kernel
theorem dX4_tellMan_54 : decode cX4_tellMan 54 = .ok (.iload_n 1, 1) := by decide +kernel
theorem dX4_tellMan_55 : decode cX4_tellMan 55 = .ok (.iload_n 2, 1) := by decide +kernel
theorem dX4_tellMan_56 : decode cX4_tellMan 56 = .ok (.invokevirtual 112, 3) := by decide +kernel
theorem dX4_tellMan_59 : decode cX4_tellMan 59 = .ok (.return_, 1) := by decide +kernel
def c_X4_tellMan (p : Nat) (h : PH) : Option (PH) :=
  nm (h.2.2 p 1) fun t1 =>
  gd (tOK t1) <|
  (c_X4_open p 64 (h.1 t1 0) 5 h).bind fun h2 =>
  nm (h2.2.2 p 1) fun t3 =>
  gd (tOK t3) <|
  (c_X4_newName p 64 (h2.1 t3 0) h2).bind fun h4 =>
  bind2 (c_X4_number p 0 99 h4) fun r5 h6 =>
  nm r5 fun v7 =>
  bind2 (c_X4_number p 0 9 h6) fun r8 h9 =>
  nm r8 fun v10 =>
  if (h9.1 p 3) = 0 then
    nm (h9.2.2 p 1) fun t11 =>
    gd (tOK t11) <|
    (c_X9_addMan t11 v7 v10 h9).bind fun h12 =>
    some h12
  else
    some h9
set_option maxHeartbeats 4000000 in
set_option maxRecDepth 100000 in
theorem ct_X4_tellMan (l : Launch) {lay : List KK} {p : Nat} (ho : okX4 lay p) : CtV l yX4_tellMan cX4_tellMan 3 (none) 2 49 lay (fun h => c_X4_tellMan p h) (fun ad => [.ref (ad p)]) := by
  refine CtV.mk' RX4 (by decide) rfl (fun _ => Nat.le_of_ble_eq_true rfl) ?_
  intro p0 e s m args below meth c D G A H0 ad X h r0 H ls Q hM hw hl hf hR
  have hl : lv_has ls 3 [(0, .ref (ad p))] := hl
  unfold c_X4_tellMan at hf
  refine lv_aload_n hM.1 hM.2.1 dX4_tellMan_0 rfl (lv_at hl 0 rfl) ?_
  refine lv_bipush (v := 64) hM.1 hM.2.1 dX4_tellMan_1 (by decide) ?_
  refine lv_aload_n hM.1 hM.2.1 dX4_tellMan_3 rfl (lv_at hl 0 rfl) ?_
  refine gf_X4_text hM hw (okX4.o ho) fl_X4_21 dX4_tellMan_4 ?_
  refine x_nmr hf (fun t1 hf => ?_)
  obtain ⟨hok_t1, hf⟩ := x_cond hf
  refine gf_X9_men hM hw (okX9.o (okX4.textOf ho hok_t1)) fl_X4_98 dX4_tellMan_7 ?_
  refine lv_iconst (v := 5) hM.1 hM.2.1 dX4_tellMan_10 ic_5 ?_
  refine x_callVV (rest := []) hM hw (ct_X4_open l ho 64 (h.1 t1 0) 5) [.int 64, .int (h.1 t1 0), .int 5] (okX4.o ho) rfl rfl rfl (gi_V ml_X4_101 im_X4_open sl_X4_open in_X4 kc_X4_open) hd_X4_open rfl ⟨Nat.le_of_ble_eq_true rfl, Nat.le_of_ble_eq_true rfl⟩ rfl (Nat.le_of_ble_eq_true rfl) hl.1 hcs0 hf dX4_tellMan_11 (fun h2 H locs hf hw => ?_)
  refine lv_aload_n hM.1 hM.2.1 dX4_tellMan_14 rfl (lv_at hl 0 rfl) ?_
  refine lv_bipush (v := 64) hM.1 hM.2.1 dX4_tellMan_15 (by decide) ?_
  refine lv_aload_n hM.1 hM.2.1 dX4_tellMan_17 rfl (lv_at hl 0 rfl) ?_
  refine gf_X4_text hM hw (okX4.o ho) fl_X4_21 dX4_tellMan_18 ?_
  refine x_nmr hf (fun t3 hf => ?_)
  obtain ⟨hok_t3, hf⟩ := x_cond hf
  refine gf_X9_men hM hw (okX9.o (okX4.textOf ho hok_t3)) fl_X4_98 dX4_tellMan_21 ?_
  refine x_callVV (rest := []) hM hw (ct_X4_newName l ho 64 (h2.1 t3 0)) [.int 64, .int (h2.1 t3 0)] (okX4.o ho) rfl rfl rfl (gi_V ml_X4_105 im_X4_newName sl_X4_newName in_X4 kc_X4_newName) hd_X4_newName rfl ⟨Nat.le_of_ble_eq_true rfl, Nat.le_of_ble_eq_true rfl⟩ rfl (Nat.le_of_ble_eq_true rfl) hl.1 hcs0 hf dX4_tellMan_24 (fun h4 H locs hf hw => ?_)
  refine lv_aload_n hM.1 hM.2.1 dX4_tellMan_27 rfl (lv_at hl 0 rfl) ?_
  refine lv_iconst (v := 0) hM.1 hM.2.1 dX4_tellMan_28 ic_0 ?_
  refine lv_bipush (v := 99) hM.1 hM.2.1 dX4_tellMan_29 (by decide) ?_
  refine x_callVI (rest := []) hM hw (ct_X4_number l ho 0 99) [.int 0, .int 99] (okX4.o ho) rfl rfl rfl (gi_V ml_X4_109 im_X4_number sl_X4_number in_X4 kc_X4_number) hd_X4_number rfl ⟨Nat.le_of_ble_eq_true rfl, Nat.le_of_ble_eq_true rfl⟩ rfl (Nat.le_of_ble_eq_true rfl) hl.1 hcs0 hf dX4_tellMan_31 (fun r5 h6 H locs hf hw => ?_)
  refine x_istore_n hM hf dX4_tellMan_34 rfl hl (by decide) (fun v7 => [(1, .int v7), (0, .ref (ad p))]) (fun _ => rfl) (fun v7 ls hf hl => ?_)
  refine lv_aload_n hM.1 hM.2.1 dX4_tellMan_35 rfl (lv_at hl 1 rfl) ?_
  refine lv_iconst (v := 0) hM.1 hM.2.1 dX4_tellMan_36 ic_0 ?_
  refine lv_bipush (v := 9) hM.1 hM.2.1 dX4_tellMan_37 (by decide) ?_
  refine x_callVI (rest := []) hM hw (ct_X4_number l ho 0 9) [.int 0, .int 9] (okX4.o ho) rfl rfl rfl (gi_V ml_X4_109 im_X4_number sl_X4_number in_X4 kc_X4_number) hd_X4_number rfl ⟨Nat.le_of_ble_eq_true rfl, Nat.le_of_ble_eq_true rfl⟩ rfl (Nat.le_of_ble_eq_true rfl) hl.1 hcs0 hf dX4_tellMan_39 (fun r8 h9 H locs hf hw => ?_)
  refine x_istore_n hM hf dX4_tellMan_42 rfl hl (by decide) (fun v10 => [(2, .int v10), (1, .int v7), (0, .ref (ad p))]) (fun _ => rfl) (fun v10 ls hf hl => ?_)
  refine lv_aload_n hM.1 hM.2.1 dX4_tellMan_43 rfl (lv_at hl 2 rfl) ?_
  refine gf_X4_broken hM hw (okX4.o ho) fl_X4_29 dX4_tellMan_44 ?_
  refine x_if_ne (tgt := 59) hM hf dX4_tellMan_47 (by decide) (fun hf => ?_) (fun hf => ?_)
  · exact hR _ _ _ _ _ (Option.some.inj hf) rfl hw dX4_tellMan_59
  refine lv_aload_n hM.1 hM.2.1 dX4_tellMan_50 rfl (lv_at hl 2 rfl) ?_
  refine gf_X4_text hM hw (okX4.o ho) fl_X4_21 dX4_tellMan_51 ?_
  refine x_nmr hf (fun t11 hf => ?_)
  obtain ⟨hok_t11, hf⟩ := x_cond hf
  refine lv_iload_n hM.1 hM.2.1 dX4_tellMan_54 rfl (lv_at hl 1 rfl) ?_
  refine lv_iload_n hM.1 hM.2.1 dX4_tellMan_55 rfl (lv_at hl 0 rfl) ?_
  refine x_callVV (rest := []) hM hw (ct_X9_addMan l (okX4.textOf ho hok_t11) v7 v10) [.int v7, .int v10] (okX9.o (okX4.textOf ho hok_t11)) rfl rfl rfl (gi_V ml_X4_112 im_X9_addMan sl_X9_addMan in_X9 kc_X9_addMan) hd_X9_addMan rfl ⟨Nat.le_of_ble_eq_true rfl, Nat.le_of_ble_eq_true rfl⟩ rfl (Nat.le_of_ble_eq_true rfl) hl.1 hcs0 hf dX4_tellMan_56 (fun h12 H locs hf hw => ?_)
  exact hR _ _ _ _ _ (Option.some.inj hf) rfl hw dX4_tellMan_59
theorem hd_X4_tellMan : yX4_tellMan.cls = RX4 ∧ yX4_tellMan.cls ≠ "java/lang/invoke/MethodHandle" ∧ yX4_tellMan.cls ≠ "java/lang/invoke/VarHandle" ∧ (parseMethodDescriptor yX4_tellMan.desc).map (fun d => d.parameters.length) = some 0 := ⟨rfl, by decide, by decide, by decide +kernel⟩
theorem dX4_tellExcuse_0 : decode cX4_tellExcuse 0 = .ok (.aload_n 0, 1) := by decide +kernel
theorem dX4_tellExcuse_1 : decode cX4_tellExcuse 1 = .ok (.bipush 65, 2) := by decide +kernel
theorem dX4_tellExcuse_3 : decode cX4_tellExcuse 3 = .ok (.aload_n 0, 1) := by decide +kernel
theorem dX4_tellExcuse_4 : decode cX4_tellExcuse 4 = .ok (.getfield 21, 3) := by decide +kernel
theorem dX4_tellExcuse_7 : decode cX4_tellExcuse 7 = .ok (.getfield 115, 3) := by decide +kernel
theorem dX4_tellExcuse_10 : decode cX4_tellExcuse 10 = .ok (.bipush 7, 2) := by decide +kernel
theorem dX4_tellExcuse_12 : decode cX4_tellExcuse 12 = .ok (.invokevirtual 101, 3) := by decide +kernel
theorem dX4_tellExcuse_15 : decode cX4_tellExcuse 15 = .ok (.aload_n 0, 1) := by decide +kernel
theorem dX4_tellExcuse_16 : decode cX4_tellExcuse 16 = .ok (.bipush 65, 2) := by decide +kernel
theorem dX4_tellExcuse_18 : decode cX4_tellExcuse 18 = .ok (.aload_n 0, 1) := by decide +kernel
theorem dX4_tellExcuse_19 : decode cX4_tellExcuse 19 = .ok (.getfield 21, 3) := by decide +kernel
theorem dX4_tellExcuse_22 : decode cX4_tellExcuse 22 = .ok (.getfield 115, 3) := by decide +kernel
theorem dX4_tellExcuse_25 : decode cX4_tellExcuse 25 = .ok (.invokevirtual 105, 3) := by decide +kernel
theorem dX4_tellExcuse_28 : decode cX4_tellExcuse 28 = .ok (.aload_n 0, 1) := by decide +kernel
theorem dX4_tellExcuse_29 : decode cX4_tellExcuse 29 = .ok (.iconst 0, 1) := by decide +kernel
theorem dX4_tellExcuse_30 : decode cX4_tellExcuse 30 = .ok (.bipush 99, 2) := by decide +kernel
theorem dX4_tellExcuse_32 : decode cX4_tellExcuse 32 = .ok (.invokevirtual 109, 3) := by decide +kernel
theorem dX4_tellExcuse_35 : decode cX4_tellExcuse 35 = .ok (.istore_n 1, 1) := by decide +kernel
theorem dX4_tellExcuse_36 : decode cX4_tellExcuse 36 = .ok (.aload_n 0, 1) := by decide +kernel
theorem dX4_tellExcuse_37 : decode cX4_tellExcuse 37 = .ok (.iconst 0, 1) := by decide +kernel
theorem dX4_tellExcuse_38 : decode cX4_tellExcuse 38 = .ok (.bipush 99, 2) := by decide +kernel
theorem dX4_tellExcuse_40 : decode cX4_tellExcuse 40 = .ok (.invokevirtual 109, 3) := by decide +kernel
theorem dX4_tellExcuse_43 : decode cX4_tellExcuse 43 = .ok (.istore_n 2, 1) := by decide +kernel
theorem dX4_tellExcuse_44 : decode cX4_tellExcuse 44 = .ok (.aload_n 0, 1) := by decide +kernel
theorem dX4_tellExcuse_45 : decode cX4_tellExcuse 45 = .ok (.iconst 0, 1) := by decide +kernel
theorem dX4_tellExcuse_46 : decode cX4_tellExcuse 46 = .ok (.bipush 9, 2) := by decide +kernel
theorem dX4_tellExcuse_48 : decode cX4_tellExcuse 48 = .ok (.invokevirtual 109, 3) := by decide +kernel
theorem dX4_tellExcuse_51 : decode cX4_tellExcuse 51 = .ok (.istore_n 3, 1) := by decide +kernel
theorem dX4_tellExcuse_52 : decode cX4_tellExcuse 52 = .ok (.aload_n 0, 1) := by decide +kernel
theorem dX4_tellExcuse_53 : decode cX4_tellExcuse 53 = .ok (.iconst 0, 1) := by decide +kernel
theorem dX4_tellExcuse_54 : decode cX4_tellExcuse 54 = .ok (.bipush 99, 2) := by decide +kernel
theorem dX4_tellExcuse_56 : decode cX4_tellExcuse 56 = .ok (.invokevirtual 109, 3) := by decide +kernel
theorem dX4_tellExcuse_59 : decode cX4_tellExcuse 59 = .ok (.istore 4, 2) := by decide +kernel
theorem dX4_tellExcuse_61 : decode cX4_tellExcuse 61 = .ok (.aload_n 0, 1) := by decide +kernel
theorem dX4_tellExcuse_62 : decode cX4_tellExcuse 62 = .ok (.invokevirtual 48, 3) := by decide +kernel
theorem dX4_tellExcuse_65 : decode cX4_tellExcuse 65 = .ok (.bipush 74, 2) := by decide +kernel
theorem dX4_tellExcuse_67 : decode cX4_tellExcuse 67 = .ok (.if_icmp .ne 7, 3) := by decide +kernel
theorem dX4_tellExcuse_70 : decode cX4_tellExcuse 70 = .ok (.iconst 1, 1) := by decide +kernel
theorem dX4_tellExcuse_71 : decode cX4_tellExcuse 71 = .ok (.goto 4, 3) := by decide +kernel
theorem dX4_tellExcuse_74 : decode cX4_tellExcuse 74 = .ok (.iconst 0, 1) := by decide +kernel
theorem dX4_tellExcuse_75 : decode cX4_tellExcuse 75 = .ok (.istore 5, 2) := by decide +kernel
theorem dX4_tellExcuse_77 : decode cX4_tellExcuse 77 = .ok (.iload 5, 2) := by decide +kernel
theorem dX4_tellExcuse_79 : decode cX4_tellExcuse 79 = .ok (.ifCond .eq 9, 3) := by decide +kernel
theorem dX4_tellExcuse_82 : decode cX4_tellExcuse 82 = .ok (.aload_n 0, 1) := by decide +kernel
theorem dX4_tellExcuse_83 : decode cX4_tellExcuse 83 = .ok (.bipush 74, 2) := by decide +kernel
theorem dX4_tellExcuse_85 : decode cX4_tellExcuse 85 = .ok (.invokevirtual 95, 3) := by decide +kernel
theorem dX4_tellExcuse_88 : decode cX4_tellExcuse 88 = .ok (.aload_n 0, 1) := by decide +kernel
theorem dX4_tellExcuse_89 : decode cX4_tellExcuse 89 = .ok (.getfield 29, 3) := by decide +kernel
theorem dX4_tellExcuse_92 : decode cX4_tellExcuse 92 = .ok (.ifCond .ne 25, 3) := by decide +kernel
theorem dX4_tellExcuse_95 : decode cX4_tellExcuse 95 = .ok (.aload_n 0, 1) := by decide +kernel
theorem dX4_tellExcuse_96 : decode cX4_tellExcuse 96 = .ok (.getfield 21, 3) := by decide +kernel
theorem dX4_tellExcuse_99 : decode cX4_tellExcuse 99 = .ok (.iload_n 1, 1) := by decide +kernel
theorem dX4_tellExcuse_100 : decode cX4_tellExcuse 100 = .ok (.iload_n 2, 1) := by decide +kernel
theorem dX4_tellExcuse_101 : decode cX4_tellExcuse 101 = .ok (.iload_n 3, 1) := by decide +kernel
theorem dX4_tellExcuse_102 : decode cX4_tellExcuse 102 = .ok (.iload 4, 2) := by decide +kernel
theorem dX4_tellExcuse_104 : decode cX4_tellExcuse 104 = .ok (.iload 5, 2) := by decide +kernel
theorem dX4_tellExcuse_106 : decode cX4_tellExcuse 106 = .ok (.ifCond .eq 7, 3) := by decide +kernel
theorem dX4_tellExcuse_109 : decode cX4_tellExcuse 109 = .ok (.iconst 1, 1) := by decide +kernel
theorem dX4_tellExcuse_110 : decode cX4_tellExcuse 110 = .ok (.goto 4, 3) := by decide +kernel
theorem dX4_tellExcuse_113 : decode cX4_tellExcuse 113 = .ok (.iconst 0, 1) := by decide +kernel
theorem dX4_tellExcuse_114 : decode cX4_tellExcuse 114 = .ok (.invokevirtual 118, 3) := by decide +kernel
theorem dX4_tellExcuse_117 : decode cX4_tellExcuse 117 = .ok (.return_, 1) := by decide +kernel
def c_X4_tellExcuse_j88  (p : Nat) (x1 : Int32) (x2 : Int32) (x3 : Int32) (x4 : Int32) (x5 : Int32) (h : PH) : Option (PH) :=
  if (h.1 p 3) = 0 then
    nm (h.2.2 p 1) fun t19 =>
    gd (tOK t19) <|
    if x5 = 0 then
      (c_X9_addExcuse t19 x1 x2 x3 x4 0 h).bind fun h20 =>
      some h20
    else
      (c_X9_addExcuse t19 x1 x2 x3 x4 1 h).bind fun h21 =>
      some h21
  else
    some h
set_option maxHeartbeats 4000000 in
set_option maxRecDepth 100000 in
theorem w_X4_tellExcuse_j88 {p0 : Program} {l : Launch} {e : Env} {s : State} {m : MethodId} {args : Array Value} {below : List Frame} {meth : Method} {c : Code} {Q : State → Prop} {D : va_G} {G : GG} {A : Nat → Prop} {H0 : Heap} {ad : Nat → Nat} {lay : List KK} {X : va_W} {p : Nat} {r0 : PH} {x1 : Int32} {x2 : Int32} {x3 : Int32} {x4 : Int32} {x5 : Int32} {h : PH} {H : Heap} {locs : List Loc} {ls : Array Slot} (hM : CallFix p0 m c cX4_tellExcuse 6 s args lw_g RX4) (ho : okX4 lay p) (hR : RtV p0 l e (rmN 2 49) s m args below meth c cX4_tellExcuse D G A H0 ad lay X (none) r0 Q 0 0) (hw : Wd D G A H0 ad lay X h s H locs) (hl : lv_has ls 6 [(0, .ref (ad p)), (1, .int x1), (2, .int x2), (3, .int x3), (4, .int x4), (5, .int x5)]) (hf : c_X4_tellExcuse_j88 p x1 x2 x3 x4 x5 h = some r0) : W p0 l e (rmN 2 49) s m args below meth c H locs 0 0 Q (F0 m 88 ls []) := by
  unfold c_X4_tellExcuse_j88 at hf
  refine lv_aload_n hM.1 hM.2.1 dX4_tellExcuse_88 rfl (lv_at hl 0 rfl) ?_
  refine gf_X4_broken hM hw (okX4.o ho) fl_X4_29 dX4_tellExcuse_89 ?_
  refine x_if_ne (tgt := 117) hM hf dX4_tellExcuse_92 (by decide) (fun hf => ?_) (fun hf => ?_)
  · exact hR _ _ _ _ _ (Option.some.inj hf) rfl hw dX4_tellExcuse_117
  refine lv_aload_n hM.1 hM.2.1 dX4_tellExcuse_95 rfl (lv_at hl 0 rfl) ?_
  refine gf_X4_text hM hw (okX4.o ho) fl_X4_21 dX4_tellExcuse_96 ?_
  refine x_nmr hf (fun t19 hf => ?_)
  obtain ⟨hok_t19, hf⟩ := x_cond hf
  refine lv_iload_n hM.1 hM.2.1 dX4_tellExcuse_99 rfl (lv_at hl 1 rfl) ?_
  refine lv_iload_n hM.1 hM.2.1 dX4_tellExcuse_100 rfl (lv_at hl 2 rfl) ?_
  refine lv_iload_n hM.1 hM.2.1 dX4_tellExcuse_101 rfl (lv_at hl 3 rfl) ?_
  refine lv_iload hM.1 hM.2.1 dX4_tellExcuse_102 (lv_at hl 4 rfl) ?_
  refine lv_iload hM.1 hM.2.1 dX4_tellExcuse_104 (lv_at hl 5 rfl) ?_
  refine x_if_eq (tgt := 113) hM hf dX4_tellExcuse_106 (by decide) (fun hf => ?_) (fun hf => ?_)
  · refine lv_iconst (v := 0) hM.1 hM.2.1 dX4_tellExcuse_113 ic_0 ?_
    refine x_callVV (rest := []) hM hw (ct_X9_addExcuse l (okX4.textOf ho hok_t19) x1 x2 x3 x4 0) [.int x1, .int x2, .int x3, .int x4, .int 0] (okX9.o (okX4.textOf ho hok_t19)) rfl rfl rfl (gi_V ml_X4_118 im_X9_addExcuse sl_X9_addExcuse in_X9 kc_X9_addExcuse) hd_X9_addExcuse rfl ⟨Nat.le_of_ble_eq_true rfl, Nat.le_of_ble_eq_true rfl⟩ rfl (Nat.le_of_ble_eq_true rfl) hl.1 hcs0 hf dX4_tellExcuse_114 (fun h20 H locs hf hw => ?_)
    exact hR _ _ _ _ _ (Option.some.inj hf) rfl hw dX4_tellExcuse_117
  refine lv_iconst (v := 1) hM.1 hM.2.1 dX4_tellExcuse_109 ic_1 ?_
  refine lv_goto (tgt := 114) hM.1 hM.2.1 dX4_tellExcuse_110 (by decide) ?_
  refine x_callVV (rest := []) hM hw (ct_X9_addExcuse l (okX4.textOf ho hok_t19) x1 x2 x3 x4 1) [.int x1, .int x2, .int x3, .int x4, .int 1] (okX9.o (okX4.textOf ho hok_t19)) rfl rfl rfl (gi_V ml_X4_118 im_X9_addExcuse sl_X9_addExcuse in_X9 kc_X9_addExcuse) hd_X9_addExcuse rfl ⟨Nat.le_of_ble_eq_true rfl, Nat.le_of_ble_eq_true rfl⟩ rfl (Nat.le_of_ble_eq_true rfl) hl.1 hcs0 hf dX4_tellExcuse_114 (fun h21 H locs hf hw => ?_)
  exact hR _ _ _ _ _ (Option.some.inj hf) rfl hw dX4_tellExcuse_117
def c_X4_tellExcuse (p : Nat) (h : PH) : Option (PH) :=
  nm (h.2.2 p 1) fun t1 =>
  gd (tOK t1) <|
  (c_X4_open p 65 (h.1 t1 1) 7 h).bind fun h2 =>
  nm (h2.2.2 p 1) fun t3 =>
  gd (tOK t3) <|
  (c_X4_newName p 65 (h2.1 t3 1) h2).bind fun h4 =>
  bind2 (c_X4_number p 0 99 h4) fun r5 h6 =>
  nm r5 fun v7 =>
  bind2 (c_X4_number p 0 99 h6) fun r8 h9 =>
  nm r8 fun v10 =>
  bind2 (c_X4_number p 0 9 h9) fun r11 h12 =>
  nm r11 fun v13 =>
  bind2 (c_X4_number p 0 99 h12) fun r14 h15 =>
  nm r14 fun v16 =>
  (c_X4_kind p h15).bind fun r17 =>
  if r17 = 74 then
    nm (1 : Int32) fun v23 =>
    if v23 = 0 then
      c_X4_tellExcuse_j88 p v7 v10 v13 v16 v23 h15
    else
      (c_X4_accept p 74 h15).bind fun h24 =>
      c_X4_tellExcuse_j88 p v7 v10 v13 v16 v23 h24
  else
    nm (0 : Int32) fun v18 =>
    if v18 = 0 then
      c_X4_tellExcuse_j88 p v7 v10 v13 v16 v18 h15
    else
      (c_X4_accept p 74 h15).bind fun h22 =>
      c_X4_tellExcuse_j88 p v7 v10 v13 v16 v18 h22
set_option maxHeartbeats 4000000 in
set_option maxRecDepth 100000 in
theorem ct_X4_tellExcuse (l : Launch) {lay : List KK} {p : Nat} (ho : okX4 lay p) : CtV l yX4_tellExcuse cX4_tellExcuse 6 (none) 2 49 lay (fun h => c_X4_tellExcuse p h) (fun ad => [.ref (ad p)]) := by
  refine CtV.mk' RX4 (by decide) rfl (fun _ => Nat.le_of_ble_eq_true rfl) ?_
  intro p0 e s m args below meth c D G A H0 ad X h r0 H ls Q hM hw hl hf hR
  have hl : lv_has ls 6 [(0, .ref (ad p))] := hl
  unfold c_X4_tellExcuse at hf
  refine lv_aload_n hM.1 hM.2.1 dX4_tellExcuse_0 rfl (lv_at hl 0 rfl) ?_
  refine lv_bipush (v := 65) hM.1 hM.2.1 dX4_tellExcuse_1 (by decide) ?_
  refine lv_aload_n hM.1 hM.2.1 dX4_tellExcuse_3 rfl (lv_at hl 0 rfl) ?_
  refine gf_X4_text hM hw (okX4.o ho) fl_X4_21 dX4_tellExcuse_4 ?_
  refine x_nmr hf (fun t1 hf => ?_)
  obtain ⟨hok_t1, hf⟩ := x_cond hf
  refine gf_X9_excuses hM hw (okX9.o (okX4.textOf ho hok_t1)) fl_X4_115 dX4_tellExcuse_7 ?_
  refine lv_bipush (v := 7) hM.1 hM.2.1 dX4_tellExcuse_10 (by decide) ?_
  refine x_callVV (rest := []) hM hw (ct_X4_open l ho 65 (h.1 t1 1) 7) [.int 65, .int (h.1 t1 1), .int 7] (okX4.o ho) rfl rfl rfl (gi_V ml_X4_101 im_X4_open sl_X4_open in_X4 kc_X4_open) hd_X4_open rfl ⟨Nat.le_of_ble_eq_true rfl, Nat.le_of_ble_eq_true rfl⟩ rfl (Nat.le_of_ble_eq_true rfl) hl.1 hcs0 hf dX4_tellExcuse_12 (fun h2 H locs hf hw => ?_)
  refine lv_aload_n hM.1 hM.2.1 dX4_tellExcuse_15 rfl (lv_at hl 0 rfl) ?_
  refine lv_bipush (v := 65) hM.1 hM.2.1 dX4_tellExcuse_16 (by decide) ?_
  refine lv_aload_n hM.1 hM.2.1 dX4_tellExcuse_18 rfl (lv_at hl 0 rfl) ?_
  refine gf_X4_text hM hw (okX4.o ho) fl_X4_21 dX4_tellExcuse_19 ?_
  refine x_nmr hf (fun t3 hf => ?_)
  obtain ⟨hok_t3, hf⟩ := x_cond hf
  refine gf_X9_excuses hM hw (okX9.o (okX4.textOf ho hok_t3)) fl_X4_115 dX4_tellExcuse_22 ?_
  refine x_callVV (rest := []) hM hw (ct_X4_newName l ho 65 (h2.1 t3 1)) [.int 65, .int (h2.1 t3 1)] (okX4.o ho) rfl rfl rfl (gi_V ml_X4_105 im_X4_newName sl_X4_newName in_X4 kc_X4_newName) hd_X4_newName rfl ⟨Nat.le_of_ble_eq_true rfl, Nat.le_of_ble_eq_true rfl⟩ rfl (Nat.le_of_ble_eq_true rfl) hl.1 hcs0 hf dX4_tellExcuse_25 (fun h4 H locs hf hw => ?_)
  refine lv_aload_n hM.1 hM.2.1 dX4_tellExcuse_28 rfl (lv_at hl 0 rfl) ?_
  refine lv_iconst (v := 0) hM.1 hM.2.1 dX4_tellExcuse_29 ic_0 ?_
  refine lv_bipush (v := 99) hM.1 hM.2.1 dX4_tellExcuse_30 (by decide) ?_
  refine x_callVI (rest := []) hM hw (ct_X4_number l ho 0 99) [.int 0, .int 99] (okX4.o ho) rfl rfl rfl (gi_V ml_X4_109 im_X4_number sl_X4_number in_X4 kc_X4_number) hd_X4_number rfl ⟨Nat.le_of_ble_eq_true rfl, Nat.le_of_ble_eq_true rfl⟩ rfl (Nat.le_of_ble_eq_true rfl) hl.1 hcs0 hf dX4_tellExcuse_32 (fun r5 h6 H locs hf hw => ?_)
  refine x_istore_n hM hf dX4_tellExcuse_35 rfl hl (by decide) (fun v7 => [(1, .int v7), (0, .ref (ad p))]) (fun _ => rfl) (fun v7 ls hf hl => ?_)
  refine lv_aload_n hM.1 hM.2.1 dX4_tellExcuse_36 rfl (lv_at hl 1 rfl) ?_
  refine lv_iconst (v := 0) hM.1 hM.2.1 dX4_tellExcuse_37 ic_0 ?_
  refine lv_bipush (v := 99) hM.1 hM.2.1 dX4_tellExcuse_38 (by decide) ?_
  refine x_callVI (rest := []) hM hw (ct_X4_number l ho 0 99) [.int 0, .int 99] (okX4.o ho) rfl rfl rfl (gi_V ml_X4_109 im_X4_number sl_X4_number in_X4 kc_X4_number) hd_X4_number rfl ⟨Nat.le_of_ble_eq_true rfl, Nat.le_of_ble_eq_true rfl⟩ rfl (Nat.le_of_ble_eq_true rfl) hl.1 hcs0 hf dX4_tellExcuse_40 (fun r8 h9 H locs hf hw => ?_)
  refine x_istore_n hM hf dX4_tellExcuse_43 rfl hl (by decide) (fun v10 => [(2, .int v10), (1, .int v7), (0, .ref (ad p))]) (fun _ => rfl) (fun v10 ls hf hl => ?_)
  refine lv_aload_n hM.1 hM.2.1 dX4_tellExcuse_44 rfl (lv_at hl 2 rfl) ?_
  refine lv_iconst (v := 0) hM.1 hM.2.1 dX4_tellExcuse_45 ic_0 ?_
  refine lv_bipush (v := 9) hM.1 hM.2.1 dX4_tellExcuse_46 (by decide) ?_
  refine x_callVI (rest := []) hM hw (ct_X4_number l ho 0 9) [.int 0, .int 9] (okX4.o ho) rfl rfl rfl (gi_V ml_X4_109 im_X4_number sl_X4_number in_X4 kc_X4_number) hd_X4_number rfl ⟨Nat.le_of_ble_eq_true rfl, Nat.le_of_ble_eq_true rfl⟩ rfl (Nat.le_of_ble_eq_true rfl) hl.1 hcs0 hf dX4_tellExcuse_48 (fun r11 h12 H locs hf hw => ?_)
  refine x_istore_n hM hf dX4_tellExcuse_51 rfl hl (by decide) (fun v13 => [(3, .int v13), (2, .int v10), (1, .int v7), (0, .ref (ad p))]) (fun _ => rfl) (fun v13 ls hf hl => ?_)
  refine lv_aload_n hM.1 hM.2.1 dX4_tellExcuse_52 rfl (lv_at hl 3 rfl) ?_
  refine lv_iconst (v := 0) hM.1 hM.2.1 dX4_tellExcuse_53 ic_0 ?_
  refine lv_bipush (v := 99) hM.1 hM.2.1 dX4_tellExcuse_54 (by decide) ?_
  refine x_callVI (rest := []) hM hw (ct_X4_number l ho 0 99) [.int 0, .int 99] (okX4.o ho) rfl rfl rfl (gi_V ml_X4_109 im_X4_number sl_X4_number in_X4 kc_X4_number) hd_X4_number rfl ⟨Nat.le_of_ble_eq_true rfl, Nat.le_of_ble_eq_true rfl⟩ rfl (Nat.le_of_ble_eq_true rfl) hl.1 hcs0 hf dX4_tellExcuse_56 (fun r14 h15 H locs hf hw => ?_)
  refine x_istore hM hf dX4_tellExcuse_59 hl (by decide) (fun v16 => [(4, .int v16), (3, .int v13), (2, .int v10), (1, .int v7), (0, .ref (ad p))]) (fun _ => rfl) (fun v16 ls hf hl => ?_)
  refine lv_aload_n hM.1 hM.2.1 dX4_tellExcuse_61 rfl (lv_at hl 4 rfl) ?_
  refine x_callVIr (rest := []) hM hw (ct_X4_kind l ho) [] (okX4.o ho) rfl rfl rfl (gi_V ml_X4_48 im_X4_kind sl_X4_kind in_X4 kc_X4_kind) hd_X4_kind rfl ⟨Nat.le_of_ble_eq_true rfl, Nat.le_of_ble_eq_true rfl⟩ rfl (Nat.le_of_ble_eq_true rfl) hl.1 hcs0 hf dX4_tellExcuse_62 (fun r17 H locs hf hw => ?_)
  refine lv_bipush (v := 74) hM.1 hM.2.1 dX4_tellExcuse_65 (by decide) ?_
  refine x_ic_ne (tgt := 74) hM hf dX4_tellExcuse_67 (by decide) (fun hf => ?_) (fun hf => ?_)
  · refine lv_iconst (v := 0) hM.1 hM.2.1 dX4_tellExcuse_74 ic_0 ?_
    refine x_istore hM hf dX4_tellExcuse_75 hl (by decide) (fun v18 => [(5, .int v18), (4, .int v16), (3, .int v13), (2, .int v10), (1, .int v7), (0, .ref (ad p))]) (fun _ => rfl) (fun v18 ls hf hl => ?_)
    refine lv_iload hM.1 hM.2.1 dX4_tellExcuse_77 (lv_at hl 0 rfl) ?_
    refine x_if_eq (tgt := 88) hM hf dX4_tellExcuse_79 (by decide) (fun hf => ?_) (fun hf => ?_)
    · exact w_X4_tellExcuse_j88 hM ho hR hw (lv_sub hl [5, 4, 3, 2, 1, 0] rfl) hf
    refine lv_aload_n hM.1 hM.2.1 dX4_tellExcuse_82 rfl (lv_at hl 5 rfl) ?_
    refine lv_bipush (v := 74) hM.1 hM.2.1 dX4_tellExcuse_83 (by decide) ?_
    refine x_callVV (rest := []) hM hw (ct_X4_accept l ho 74) [.int 74] (okX4.o ho) rfl rfl rfl (gi_V ml_X4_95 im_X4_accept sl_X4_accept in_X4 kc_X4_accept) hd_X4_accept rfl ⟨Nat.le_of_ble_eq_true rfl, Nat.le_of_ble_eq_true rfl⟩ rfl (Nat.le_of_ble_eq_true rfl) hl.1 hcs0 hf dX4_tellExcuse_85 (fun h22 H locs hf hw => ?_)
    exact w_X4_tellExcuse_j88 hM ho hR hw (lv_sub hl [5, 4, 3, 2, 1, 0] rfl) hf
  refine lv_iconst (v := 1) hM.1 hM.2.1 dX4_tellExcuse_70 ic_1 ?_
  refine lv_goto (tgt := 75) hM.1 hM.2.1 dX4_tellExcuse_71 (by decide) ?_
  refine x_istore hM hf dX4_tellExcuse_75 hl (by decide) (fun v23 => [(5, .int v23), (4, .int v16), (3, .int v13), (2, .int v10), (1, .int v7), (0, .ref (ad p))]) (fun _ => rfl) (fun v23 ls hf hl => ?_)
  refine lv_iload hM.1 hM.2.1 dX4_tellExcuse_77 (lv_at hl 0 rfl) ?_
  refine x_if_eq (tgt := 88) hM hf dX4_tellExcuse_79 (by decide) (fun hf => ?_) (fun hf => ?_)
  · exact w_X4_tellExcuse_j88 hM ho hR hw (lv_sub hl [5, 4, 3, 2, 1, 0] rfl) hf
  refine lv_aload_n hM.1 hM.2.1 dX4_tellExcuse_82 rfl (lv_at hl 5 rfl) ?_
  refine lv_bipush (v := 74) hM.1 hM.2.1 dX4_tellExcuse_83 (by decide) ?_
  refine x_callVV (rest := []) hM hw (ct_X4_accept l ho 74) [.int 74] (okX4.o ho) rfl rfl rfl (gi_V ml_X4_95 im_X4_accept sl_X4_accept in_X4 kc_X4_accept) hd_X4_accept rfl ⟨Nat.le_of_ble_eq_true rfl, Nat.le_of_ble_eq_true rfl⟩ rfl (Nat.le_of_ble_eq_true rfl) hl.1 hcs0 hf dX4_tellExcuse_85 (fun h24 H locs hf hw => ?_)
  exact w_X4_tellExcuse_j88 hM ho hR hw (lv_sub hl [5, 4, 3, 2, 1, 0] rfl) hf
theorem hd_X4_tellExcuse : yX4_tellExcuse.cls = RX4 ∧ yX4_tellExcuse.cls ≠ "java/lang/invoke/MethodHandle" ∧ yX4_tellExcuse.cls ≠ "java/lang/invoke/VarHandle" ∧ (parseMethodDescriptor yX4_tellExcuse.desc).map (fun d => d.parameters.length) = some 0 := ⟨rfl, by decide, by decide, by decide +kernel⟩
theorem dX4_toldName_0 : decode cX4_toldName 0 = .ok (.aload_n 0, 1) := by decide +kernel
theorem dX4_toldName_1 : decode cX4_toldName 1 = .ok (.invokevirtual 135, 3) := by decide +kernel
theorem dX4_toldName_4 : decode cX4_toldName 4 = .ok (.istore_n 2, 1) := by decide +kernel
theorem dX4_toldName_5 : decode cX4_toldName 5 = .ok (.aload_n 0, 1) := by decide +kernel
theorem dX4_toldName_6 : decode cX4_toldName 6 = .ok (.getfield 12, 3) := by decide +kernel
theorem dX4_toldName_9 : decode cX4_toldName 9 = .ok (.getfield 172, 3) := by decide +kernel
theorem dX4_toldName_12 : decode cX4_toldName 12 = .ok (.aload_n 0, 1) := by decide +kernel
theorem dX4_toldName_13 : decode cX4_toldName 13 = .ok (.getfield 25, 3) := by decide +kernel
theorem dX4_toldName_16 : decode cX4_toldName 16 = .ok (.laload, 1) := by decide +kernel
theorem dX4_toldName_17 : decode cX4_toldName 17 = .ok (.lstore_n 3, 1) := by decide +kernel
theorem dX4_toldName_18 : decode cX4_toldName 18 = .ok (.aload_n 0, 1) := by decide +kernel
theorem dX4_toldName_19 : decode cX4_toldName 19 = .ok (.iconst 2, 1) := by decide +kernel
theorem dX4_toldName_20 : decode cX4_toldName 20 = .ok (.invokevirtual 95, 3) := by decide +kernel
theorem dX4_toldName_23 : decode cX4_toldName 23 = .ok (.aload_n 0, 1) := by decide +kernel
theorem dX4_toldName_24 : decode cX4_toldName 24 = .ok (.getfield 29, 3) := by decide +kernel
theorem dX4_toldName_27 : decode cX4_toldName 27 = .ok (.ifCond .eq 5, 3) := by decide +kernel
theorem dX4_toldName_30 : decode cX4_toldName 30 = .ok (.iconst (-1), 1) := by decide +kernel
theorem dX4_toldName_31 : decode cX4_toldName 31 = .ok (.ireturn, 1) := by decide +kernel
theorem dX4_toldName_32 : decode cX4_toldName 32 = .ok (.aload_n 0, 1) := by decide +kernel
theorem dX4_toldName_33 : decode cX4_toldName 33 = .ok (.getfield 21, 3) := by decide +kernel
theorem dX4_toldName_36 : decode cX4_toldName 36 = .ok (.aload_n 0, 1) := by decide +kernel
theorem dX4_toldName_37 : decode cX4_toldName 37 = .ok (.getfield 21, 3) := by decide +kernel
theorem dX4_toldName_40 : decode cX4_toldName 40 = .ok (.lload_n 3, 1) := by decide +kernel
theorem dX4_toldName_41 : decode cX4_toldName 41 = .ok (.invokevirtual 183, 3) := by decide +kernel
theorem dX4_toldName_44 : decode cX4_toldName 44 = .ok (.iload_n 1, 1) := by decide +kernel
theorem dX4_toldName_45 : decode cX4_toldName 45 = .ok (.invokevirtual 191, 3) := by decide +kernel
theorem dX4_toldName_48 : decode cX4_toldName 48 = .ok (.istore 5, 2) := by decide +kernel
theorem dX4_toldName_50 : decode cX4_toldName 50 = .ok (.iload 5, 2) := by decide +kernel
theorem dX4_toldName_52 : decode cX4_toldName 52 = .ok (.iconst (-1), 1) := by decide +kernel
theorem dX4_toldName_53 : decode cX4_toldName 53 = .ok (.if_icmp .ne 9, 3) := by decide +kernel
theorem dX4_toldName_56 : decode cX4_toldName 56 = .ok (.aload_n 0, 1) := by decide +kernel
theorem dX4_toldName_57 : decode cX4_toldName 57 = .ok (.iconst 4, 1) := by decide +kernel
theorem dX4_toldName_58 : decode cX4_toldName 58 = .ok (.iload_n 2, 1) := by decide +kernel
theorem dX4_toldName_59 : decode cX4_toldName 59 = .ok (.invokevirtual 138, 3) := by decide +kernel
theorem dX4_toldName_62 : decode cX4_toldName 62 = .ok (.iload 5, 2) := by decide +kernel
theorem dX4_toldName_64 : decode cX4_toldName 64 = .ok (.ireturn, 1) := by decide +kernel
def c_X4_toldName (p : Nat) (a1 : Int32) (h : PH) : Option (Int32 × PH) :=
  (c_X4_placeHere p h).bind fun r1 =>
  nm r1 fun v2 =>
  gd (ixOK (h.1 p 2) 401) <|
  nm (h.2.1 (p + 1 + 3) (h.1 p 2).toNatClampNeg) fun v3 =>
  (c_X4_accept p 2 h).bind fun h4 =>
  if (h4.1 p 3) = 0 then
    nm (h4.2.2 p 1) fun t5 =>
    gd (tOK t5) <|
    nm (h4.2.2 p 1) fun t6 =>
    gd (tOK t6) <|
    (c_X9_findName t6 v3 h4).bind fun r7 =>
    (c_X9_numberOf t5 r7 a1 h4).bind fun r8 =>
    nm r8 fun v9 =>
    if v9 = (-1) then
      (c_X4_complain p 4 v2 h4).bind fun h10 =>
      some (v9, h10)
    else
      some (v9, h4)
  else
    some ((-1), h4)
set_option maxHeartbeats 4000000 in
set_option maxRecDepth 100000 in
theorem ct_X4_toldName (l : Launch) {lay : List KK} {p : Nat} (ho : okX4 lay p) (a1 : Int32) : CtI l yX4_toldName cX4_toldName 6 (some .int) 1 23 lay (fun h => c_X4_toldName p a1 h) (fun ad => [.ref (ad p), .int a1]) := by
  refine CtI.mk' RX4 (by decide) rfl (fun _ => Nat.le_of_ble_eq_true rfl) ?_
  intro p0 e s m args below meth c D G A H0 ad X h r0 H ls Q hM hw hl hf hR
  have hl : lv_has ls 6 [(0, .ref (ad p)), (1, .int a1)] := hl
  unfold c_X4_toldName at hf
  refine lv_aload_n hM.1 hM.2.1 dX4_toldName_0 rfl (lv_at hl 0 rfl) ?_
  refine x_callVIr (rest := []) hM hw (ct_X4_placeHere l ho) [] (okX4.o ho) rfl rfl rfl (gi_V ml_X4_135 im_X4_placeHere sl_X4_placeHere in_X4 kc_X4_placeHere) hd_X4_placeHere rfl ⟨Nat.le_of_ble_eq_true rfl, Nat.le_of_ble_eq_true rfl⟩ rfl (Nat.le_of_ble_eq_true rfl) hl.1 hcs0 hf dX4_toldName_1 (fun r1 H locs hf hw => ?_)
  refine x_istore_n hM hf dX4_toldName_4 rfl hl (by decide) (fun v2 => [(2, .int v2), (0, .ref (ad p)), (1, .int a1)]) (fun _ => rfl) (fun v2 ls hf hl => ?_)
  refine lv_aload_n hM.1 hM.2.1 dX4_toldName_5 rfl (lv_at hl 1 rfl) ?_
  refine gf_X4_tokens hM hw (okX4.o ho) fl_X4_12 dX4_toldName_6 ?_
  refine gf_X10_values hM hw (okX10.o (okX4.tokens ho)) fl_X4_172 dX4_toldName_9 ?_
  refine lv_aload_n hM.1 hM.2.1 dX4_toldName_12 rfl (lv_at hl 1 rfl) ?_
  refine gf_X4_at hM hw (okX4.o ho) fl_X4_25 dX4_toldName_13 ?_
  refine x_lald hM hw (okX10.values (okX4.tokens ho)) hf dX4_toldName_16 (fun hf => ?_)
  refine x_lstore_n hM hf dX4_toldName_17 rfl hl (by decide) (fun v3 => [(3, .long v3), (2, .int v2), (0, .ref (ad p)), (1, .int a1)]) (fun _ => rfl) (fun v3 ls hf hl => ?_)
  refine lv_aload_n hM.1 hM.2.1 dX4_toldName_18 rfl (lv_at hl 2 rfl) ?_
  refine lv_iconst (v := 2) hM.1 hM.2.1 dX4_toldName_19 ic_2 ?_
  refine x_callVV (rest := []) hM hw (ct_X4_accept l ho 2) [.int 2] (okX4.o ho) rfl rfl rfl (gi_V ml_X4_95 im_X4_accept sl_X4_accept in_X4 kc_X4_accept) hd_X4_accept rfl ⟨Nat.le_of_ble_eq_true rfl, Nat.le_of_ble_eq_true rfl⟩ rfl (Nat.le_of_ble_eq_true rfl) hl.1 hcs0 hf dX4_toldName_20 (fun h4 H locs hf hw => ?_)
  refine lv_aload_n hM.1 hM.2.1 dX4_toldName_23 rfl (lv_at hl 2 rfl) ?_
  refine gf_X4_broken hM hw (okX4.o ho) fl_X4_29 dX4_toldName_24 ?_
  refine x_if_eq (tgt := 32) hM hf dX4_toldName_27 (by decide) (fun hf => ?_) (fun hf => ?_)
  · refine lv_aload_n hM.1 hM.2.1 dX4_toldName_32 rfl (lv_at hl 2 rfl) ?_
    refine gf_X4_text hM hw (okX4.o ho) fl_X4_21 dX4_toldName_33 ?_
    refine x_nmr hf (fun t5 hf => ?_)
    obtain ⟨hok_t5, hf⟩ := x_cond hf
    refine lv_aload_n hM.1 hM.2.1 dX4_toldName_36 rfl (lv_at hl 2 rfl) ?_
    refine gf_X4_text hM hw (okX4.o ho) fl_X4_21 dX4_toldName_37 ?_
    refine x_nmr hf (fun t6 hf => ?_)
    obtain ⟨hok_t6, hf⟩ := x_cond hf
    refine lv_lload_n hM.1 hM.2.1 dX4_toldName_40 rfl (lv_at hl 0 rfl) ?_
    refine x_callVIr (rest := [.ref (ad t5)]) hM hw (ct_X9_findName l (okX4.textOf ho hok_t6) v3) [.long v3] (okX9.o (okX4.textOf ho hok_t6)) rfl rfl rfl (gi_V ml_X4_183 im_X9_findName sl_X9_findName in_X9 kc_X9_findName) hd_X9_findName rfl ⟨Nat.le_of_ble_eq_true rfl, Nat.le_of_ble_eq_true rfl⟩ rfl (Nat.le_of_ble_eq_true rfl) hl.1 hcs0 hf dX4_toldName_41 (fun r7 H locs hf hw => ?_)
    refine lv_iload_n hM.1 hM.2.1 dX4_toldName_44 rfl (lv_at hl 3 rfl) ?_
    refine x_callVIr (rest := []) hM hw (ct_X9_numberOf l (okX4.textOf ho hok_t5) r7 a1) [.int r7, .int a1] (okX9.o (okX4.textOf ho hok_t5)) rfl rfl rfl (gi_V ml_X4_191 im_X9_numberOf sl_X9_numberOf in_X9 kc_X9_numberOf) hd_X9_numberOf rfl ⟨Nat.le_of_ble_eq_true rfl, Nat.le_of_ble_eq_true rfl⟩ rfl (Nat.le_of_ble_eq_true rfl) hl.1 hcs0 hf dX4_toldName_45 (fun r8 H locs hf hw => ?_)
    refine x_istore hM hf dX4_toldName_48 hl (by decide) (fun v9 => [(5, .int v9), (3, .long v3), (2, .int v2), (0, .ref (ad p)), (1, .int a1)]) (fun _ => rfl) (fun v9 ls hf hl => ?_)
    refine lv_iload hM.1 hM.2.1 dX4_toldName_50 (lv_at hl 0 rfl) ?_
    refine lv_iconst (v := (-1)) hM.1 hM.2.1 dX4_toldName_52 ic_m1 ?_
    refine x_ic_ne (tgt := 62) hM hf dX4_toldName_53 (by decide) (fun hf => ?_) (fun hf => ?_)
    · refine lv_iload hM.1 hM.2.1 dX4_toldName_62 (lv_at hl 0 rfl) ?_
      exact hR _ _ _ _ _ _ _ (Option.some.inj hf) rfl rfl hw dX4_toldName_64
    refine lv_aload_n hM.1 hM.2.1 dX4_toldName_56 rfl (lv_at hl 3 rfl) ?_
    refine lv_iconst (v := 4) hM.1 hM.2.1 dX4_toldName_57 ic_4 ?_
    refine lv_iload_n hM.1 hM.2.1 dX4_toldName_58 rfl (lv_at hl 2 rfl) ?_
    refine x_callVV (rest := []) hM hw (ct_X4_complain l ho 4 v2) [.int 4, .int v2] (okX4.o ho) rfl rfl rfl (gi_V ml_X4_138 im_X4_complain sl_X4_complain in_X4 kc_X4_complain) hd_X4_complain rfl ⟨Nat.le_of_ble_eq_true rfl, Nat.le_of_ble_eq_true rfl⟩ rfl (Nat.le_of_ble_eq_true rfl) hl.1 hcs0 hf dX4_toldName_59 (fun h10 H locs hf hw => ?_)
    refine lv_iload hM.1 hM.2.1 dX4_toldName_62 (lv_at hl 0 rfl) ?_
    exact hR _ _ _ _ _ _ _ (Option.some.inj hf) rfl rfl hw dX4_toldName_64
  refine lv_iconst (v := (-1)) hM.1 hM.2.1 dX4_toldName_30 ic_m1 ?_
  exact hR _ _ _ _ _ _ _ (Option.some.inj hf) rfl rfl hw dX4_toldName_31
theorem hd_X4_toldName : yX4_toldName.cls = RX4 ∧ yX4_toldName.cls ≠ "java/lang/invoke/MethodHandle" ∧ yX4_toldName.cls ≠ "java/lang/invoke/VarHandle" ∧ (parseMethodDescriptor yX4_toldName.desc).map (fun d => d.parameters.length) = some 1 := ⟨rfl, by decide, by decide, by decide +kernel⟩
theorem dX4_tellDuty_0 : decode cX4_tellDuty 0 = .ok (.aload_n 0, 1) := by decide +kernel
theorem dX4_tellDuty_1 : decode cX4_tellDuty 1 = .ok (.bipush 66, 2) := by decide +kernel
theorem dX4_tellDuty_3 : decode cX4_tellDuty 3 = .ok (.aload_n 0, 1) := by decide +kernel
theorem dX4_tellDuty_4 : decode cX4_tellDuty 4 = .ok (.getfield 21, 3) := by decide +kernel
theorem dX4_tellDuty_7 : decode cX4_tellDuty 7 = .ok (.getfield 122, 3) := by decide +kernel
theorem dX4_tellDuty_10 : decode cX4_tellDuty 10 = .ok (.bipush 9, 2) := by decide +kernel
theorem dX4_tellDuty_12 : decode cX4_tellDuty 12 = .ok (.invokevirtual 101, 3) := by decide +kernel
theorem dX4_tellDuty_15 : decode cX4_tellDuty 15 = .ok (.aload_n 0, 1) := by decide +kernel
theorem dX4_tellDuty_16 : decode cX4_tellDuty 16 = .ok (.bipush 66, 2) := by decide +kernel
theorem dX4_tellDuty_18 : decode cX4_tellDuty 18 = .ok (.aload_n 0, 1) := by decide +kernel
theorem dX4_tellDuty_19 : decode cX4_tellDuty 19 = .ok (.getfield 21, 3) := by decide +kernel
theorem dX4_tellDuty_22 : decode cX4_tellDuty 22 = .ok (.getfield 122, 3) := by decide +kernel
theorem dX4_tellDuty_25 : decode cX4_tellDuty 25 = .ok (.invokevirtual 105, 3) := by decide +kernel
theorem dX4_tellDuty_28 : decode cX4_tellDuty 28 = .ok (.aload_n 0, 1) := by decide +kernel
theorem dX4_tellDuty_29 : decode cX4_tellDuty 29 = .ok (.bipush 64, 2) := by decide +kernel
theorem dX4_tellDuty_31 : decode cX4_tellDuty 31 = .ok (.invokevirtual 125, 3) := by decide +kernel
theorem dX4_tellDuty_34 : decode cX4_tellDuty 34 = .ok (.istore_n 1, 1) := by decide +kernel
theorem dX4_tellDuty_35 : decode cX4_tellDuty 35 = .ok (.aload_n 0, 1) := by decide +kernel
theorem dX4_tellDuty_36 : decode cX4_tellDuty 36 = .ok (.iconst 0, 1) := by decide +kernel
theorem dX4_tellDuty_37 : decode cX4_tellDuty 37 = .ok (.bipush 99, 2) := by decide +kernel
theorem dX4_tellDuty_39 : decode cX4_tellDuty 39 = .ok (.invokevirtual 109, 3) := by decide +kernel
theorem dX4_tellDuty_42 : decode cX4_tellDuty 42 = .ok (.istore_n 2, 1) := by decide +kernel
theorem dX4_tellDuty_43 : decode cX4_tellDuty 43 = .ok (.aload_n 0, 1) := by decide +kernel
theorem dX4_tellDuty_44 : decode cX4_tellDuty 44 = .ok (.iconst 1, 1) := by decide +kernel
theorem dX4_tellDuty_45 : decode cX4_tellDuty 45 = .ok (.bipush 9, 2) := by decide +kernel
theorem dX4_tellDuty_47 : decode cX4_tellDuty 47 = .ok (.invokevirtual 109, 3) := by decide +kernel
theorem dX4_tellDuty_50 : decode cX4_tellDuty 50 = .ok (.istore_n 3, 1) := by decide +kernel
theorem dX4_tellDuty_51 : decode cX4_tellDuty 51 = .ok (.aload_n 0, 1) := by decide +kernel
theorem dX4_tellDuty_52 : decode cX4_tellDuty 52 = .ok (.getfield 29, 3) := by decide +kernel
theorem dX4_tellDuty_55 : decode cX4_tellDuty 55 = .ok (.ifCond .ne 13, 3) := by decide +kernel
theorem dX4_tellDuty_58 : decode cX4_tellDuty 58 = .ok (.aload_n 0, 1) := by decide +kernel
theorem dX4_tellDuty_59 : decode cX4_tellDuty 59 = .ok (.getfield 21, 3) := by decide +kernel
theorem dX4_tellDuty_62 : decode cX4_tellDuty 62 = .ok (.iload_n 1, 1) := by decide +kernel
theorem dX4_tellDuty_63 : decode cX4_tellDuty 63 = .ok (.iload_n 2, 1) := by decide +kernel
theorem dX4_tellDuty_64 : decode cX4_tellDuty 64 = .ok (.iload_n 3, 1) := by decide +kernel
theorem dX4_tellDuty_65 : decode cX4_tellDuty 65 = .ok (.invokevirtual 129, 3) := by decide +kernel
theorem dX4_tellDuty_68 : decode cX4_tellDuty 68 = .ok (.return_, 1) := by decide +kernel
def c_X4_tellDuty (p : Nat) (h : PH) : Option (PH) :=
  nm (h.2.2 p 1) fun t1 =>
  gd (tOK t1) <|
  (c_X4_open p 66 (h.1 t1 2) 9 h).bind fun h2 =>
  nm (h2.2.2 p 1) fun t3 =>
  gd (tOK t3) <|
  (c_X4_newName p 66 (h2.1 t3 2) h2).bind fun h4 =>
  bind2 (c_X4_toldName p 64 h4) fun r5 h6 =>
  nm r5 fun v7 =>
  bind2 (c_X4_number p 0 99 h6) fun r8 h9 =>
  nm r8 fun v10 =>
  bind2 (c_X4_number p 1 9 h9) fun r11 h12 =>
  nm r11 fun v13 =>
  if (h12.1 p 3) = 0 then
    nm (h12.2.2 p 1) fun t14 =>
    gd (tOK t14) <|
    (c_X9_addDuty t14 v7 v10 v13 h12).bind fun h15 =>
    some h15
  else
    some h12
set_option maxHeartbeats 4000000 in
set_option maxRecDepth 100000 in
theorem ct_X4_tellDuty (l : Launch) {lay : List KK} {p : Nat} (ho : okX4 lay p) : CtV l yX4_tellDuty cX4_tellDuty 4 (none) 2 49 lay (fun h => c_X4_tellDuty p h) (fun ad => [.ref (ad p)]) := by
  refine CtV.mk' RX4 (by decide) rfl (fun _ => Nat.le_of_ble_eq_true rfl) ?_
  intro p0 e s m args below meth c D G A H0 ad X h r0 H ls Q hM hw hl hf hR
  have hl : lv_has ls 4 [(0, .ref (ad p))] := hl
  unfold c_X4_tellDuty at hf
  refine lv_aload_n hM.1 hM.2.1 dX4_tellDuty_0 rfl (lv_at hl 0 rfl) ?_
  refine lv_bipush (v := 66) hM.1 hM.2.1 dX4_tellDuty_1 (by decide) ?_
  refine lv_aload_n hM.1 hM.2.1 dX4_tellDuty_3 rfl (lv_at hl 0 rfl) ?_
  refine gf_X4_text hM hw (okX4.o ho) fl_X4_21 dX4_tellDuty_4 ?_
  refine x_nmr hf (fun t1 hf => ?_)
  obtain ⟨hok_t1, hf⟩ := x_cond hf
  refine gf_X9_duties hM hw (okX9.o (okX4.textOf ho hok_t1)) fl_X4_122 dX4_tellDuty_7 ?_
  refine lv_bipush (v := 9) hM.1 hM.2.1 dX4_tellDuty_10 (by decide) ?_
  refine x_callVV (rest := []) hM hw (ct_X4_open l ho 66 (h.1 t1 2) 9) [.int 66, .int (h.1 t1 2), .int 9] (okX4.o ho) rfl rfl rfl (gi_V ml_X4_101 im_X4_open sl_X4_open in_X4 kc_X4_open) hd_X4_open rfl ⟨Nat.le_of_ble_eq_true rfl, Nat.le_of_ble_eq_true rfl⟩ rfl (Nat.le_of_ble_eq_true rfl) hl.1 hcs0 hf dX4_tellDuty_12 (fun h2 H locs hf hw => ?_)
  refine lv_aload_n hM.1 hM.2.1 dX4_tellDuty_15 rfl (lv_at hl 0 rfl) ?_
  refine lv_bipush (v := 66) hM.1 hM.2.1 dX4_tellDuty_16 (by decide) ?_
  refine lv_aload_n hM.1 hM.2.1 dX4_tellDuty_18 rfl (lv_at hl 0 rfl) ?_
  refine gf_X4_text hM hw (okX4.o ho) fl_X4_21 dX4_tellDuty_19 ?_
  refine x_nmr hf (fun t3 hf => ?_)
  obtain ⟨hok_t3, hf⟩ := x_cond hf
  refine gf_X9_duties hM hw (okX9.o (okX4.textOf ho hok_t3)) fl_X4_122 dX4_tellDuty_22 ?_
  refine x_callVV (rest := []) hM hw (ct_X4_newName l ho 66 (h2.1 t3 2)) [.int 66, .int (h2.1 t3 2)] (okX4.o ho) rfl rfl rfl (gi_V ml_X4_105 im_X4_newName sl_X4_newName in_X4 kc_X4_newName) hd_X4_newName rfl ⟨Nat.le_of_ble_eq_true rfl, Nat.le_of_ble_eq_true rfl⟩ rfl (Nat.le_of_ble_eq_true rfl) hl.1 hcs0 hf dX4_tellDuty_25 (fun h4 H locs hf hw => ?_)
  refine lv_aload_n hM.1 hM.2.1 dX4_tellDuty_28 rfl (lv_at hl 0 rfl) ?_
  refine lv_bipush (v := 64) hM.1 hM.2.1 dX4_tellDuty_29 (by decide) ?_
  refine x_callVI (rest := []) hM hw (ct_X4_toldName l ho 64) [.int 64] (okX4.o ho) rfl rfl rfl (gi_V ml_X4_125 im_X4_toldName sl_X4_toldName in_X4 kc_X4_toldName) hd_X4_toldName rfl ⟨Nat.le_of_ble_eq_true rfl, Nat.le_of_ble_eq_true rfl⟩ rfl (Nat.le_of_ble_eq_true rfl) hl.1 hcs0 hf dX4_tellDuty_31 (fun r5 h6 H locs hf hw => ?_)
  refine x_istore_n hM hf dX4_tellDuty_34 rfl hl (by decide) (fun v7 => [(1, .int v7), (0, .ref (ad p))]) (fun _ => rfl) (fun v7 ls hf hl => ?_)
  refine lv_aload_n hM.1 hM.2.1 dX4_tellDuty_35 rfl (lv_at hl 1 rfl) ?_
  refine lv_iconst (v := 0) hM.1 hM.2.1 dX4_tellDuty_36 ic_0 ?_
  refine lv_bipush (v := 99) hM.1 hM.2.1 dX4_tellDuty_37 (by decide) ?_
  refine x_callVI (rest := []) hM hw (ct_X4_number l ho 0 99) [.int 0, .int 99] (okX4.o ho) rfl rfl rfl (gi_V ml_X4_109 im_X4_number sl_X4_number in_X4 kc_X4_number) hd_X4_number rfl ⟨Nat.le_of_ble_eq_true rfl, Nat.le_of_ble_eq_true rfl⟩ rfl (Nat.le_of_ble_eq_true rfl) hl.1 hcs0 hf dX4_tellDuty_39 (fun r8 h9 H locs hf hw => ?_)
  refine x_istore_n hM hf dX4_tellDuty_42 rfl hl (by decide) (fun v10 => [(2, .int v10), (1, .int v7), (0, .ref (ad p))]) (fun _ => rfl) (fun v10 ls hf hl => ?_)
  refine lv_aload_n hM.1 hM.2.1 dX4_tellDuty_43 rfl (lv_at hl 2 rfl) ?_
  refine lv_iconst (v := 1) hM.1 hM.2.1 dX4_tellDuty_44 ic_1 ?_
  refine lv_bipush (v := 9) hM.1 hM.2.1 dX4_tellDuty_45 (by decide) ?_
  refine x_callVI (rest := []) hM hw (ct_X4_number l ho 1 9) [.int 1, .int 9] (okX4.o ho) rfl rfl rfl (gi_V ml_X4_109 im_X4_number sl_X4_number in_X4 kc_X4_number) hd_X4_number rfl ⟨Nat.le_of_ble_eq_true rfl, Nat.le_of_ble_eq_true rfl⟩ rfl (Nat.le_of_ble_eq_true rfl) hl.1 hcs0 hf dX4_tellDuty_47 (fun r11 h12 H locs hf hw => ?_)
  refine x_istore_n hM hf dX4_tellDuty_50 rfl hl (by decide) (fun v13 => [(3, .int v13), (2, .int v10), (1, .int v7), (0, .ref (ad p))]) (fun _ => rfl) (fun v13 ls hf hl => ?_)
  refine lv_aload_n hM.1 hM.2.1 dX4_tellDuty_51 rfl (lv_at hl 3 rfl) ?_
  refine gf_X4_broken hM hw (okX4.o ho) fl_X4_29 dX4_tellDuty_52 ?_
  refine x_if_ne (tgt := 68) hM hf dX4_tellDuty_55 (by decide) (fun hf => ?_) (fun hf => ?_)
  · exact hR _ _ _ _ _ (Option.some.inj hf) rfl hw dX4_tellDuty_68
  refine lv_aload_n hM.1 hM.2.1 dX4_tellDuty_58 rfl (lv_at hl 3 rfl) ?_
  refine gf_X4_text hM hw (okX4.o ho) fl_X4_21 dX4_tellDuty_59 ?_
  refine x_nmr hf (fun t14 hf => ?_)
  obtain ⟨hok_t14, hf⟩ := x_cond hf
  refine lv_iload_n hM.1 hM.2.1 dX4_tellDuty_62 rfl (lv_at hl 2 rfl) ?_
  refine lv_iload_n hM.1 hM.2.1 dX4_tellDuty_63 rfl (lv_at hl 1 rfl) ?_
  refine lv_iload_n hM.1 hM.2.1 dX4_tellDuty_64 rfl (lv_at hl 0 rfl) ?_
  refine x_callVV (rest := []) hM hw (ct_X9_addDuty l (okX4.textOf ho hok_t14) v7 v10 v13) [.int v7, .int v10, .int v13] (okX9.o (okX4.textOf ho hok_t14)) rfl rfl rfl (gi_V ml_X4_129 im_X9_addDuty sl_X9_addDuty in_X9 kc_X9_addDuty) hd_X9_addDuty rfl ⟨Nat.le_of_ble_eq_true rfl, Nat.le_of_ble_eq_true rfl⟩ rfl (Nat.le_of_ble_eq_true rfl) hl.1 hcs0 hf dX4_tellDuty_65 (fun h15 H locs hf hw => ?_)
  exact hR _ _ _ _ _ (Option.some.inj hf) rfl hw dX4_tellDuty_68
theorem hd_X4_tellDuty : yX4_tellDuty.cls = RX4 ∧ yX4_tellDuty.cls ≠ "java/lang/invoke/MethodHandle" ∧ yX4_tellDuty.cls ≠ "java/lang/invoke/VarHandle" ∧ (parseMethodDescriptor yX4_tellDuty.desc).map (fun d => d.parameters.length) = some 0 := ⟨rfl, by decide, by decide, by decide +kernel⟩
theorem dX4_tellKnows_0 : decode cX4_tellKnows 0 = .ok (.aload_n 0, 1) := by decide +kernel
theorem dX4_tellKnows_1 : decode cX4_tellKnows 1 = .ok (.bipush 67, 2) := by decide +kernel
theorem dX4_tellKnows_3 : decode cX4_tellKnows 3 = .ok (.aload_n 0, 1) := by decide +kernel
theorem dX4_tellKnows_4 : decode cX4_tellKnows 4 = .ok (.getfield 21, 3) := by decide +kernel
theorem dX4_tellKnows_7 : decode cX4_tellKnows 7 = .ok (.getfield 132, 3) := by decide +kernel
theorem dX4_tellKnows_10 : decode cX4_tellKnows 10 = .ok (.bipush 8, 2) := by decide +kernel
theorem dX4_tellKnows_12 : decode cX4_tellKnows 12 = .ok (.invokevirtual 101, 3) := by decide +kernel
theorem dX4_tellKnows_15 : decode cX4_tellKnows 15 = .ok (.aload_n 0, 1) := by decide +kernel
theorem dX4_tellKnows_16 : decode cX4_tellKnows 16 = .ok (.bipush 64, 2) := by decide +kernel
theorem dX4_tellKnows_18 : decode cX4_tellKnows 18 = .ok (.invokevirtual 125, 3) := by decide +kernel
theorem dX4_tellKnows_21 : decode cX4_tellKnows 21 = .ok (.istore_n 1, 1) := by decide +kernel
theorem dX4_tellKnows_22 : decode cX4_tellKnows 22 = .ok (.aload_n 0, 1) := by decide +kernel
theorem dX4_tellKnows_23 : decode cX4_tellKnows 23 = .ok (.invokevirtual 135, 3) := by decide +kernel
theorem dX4_tellKnows_26 : decode cX4_tellKnows 26 = .ok (.istore_n 2, 1) := by decide +kernel
theorem dX4_tellKnows_27 : decode cX4_tellKnows 27 = .ok (.aload_n 0, 1) := by decide +kernel
theorem dX4_tellKnows_28 : decode cX4_tellKnows 28 = .ok (.bipush 64, 2) := by decide +kernel
theorem dX4_tellKnows_30 : decode cX4_tellKnows 30 = .ok (.invokevirtual 125, 3) := by decide +kernel
theorem dX4_tellKnows_33 : decode cX4_tellKnows 33 = .ok (.istore_n 3, 1) := by decide +kernel
theorem dX4_tellKnows_34 : decode cX4_tellKnows 34 = .ok (.aload_n 0, 1) := by decide +kernel
theorem dX4_tellKnows_35 : decode cX4_tellKnows 35 = .ok (.getfield 29, 3) := by decide +kernel
theorem dX4_tellKnows_38 : decode cX4_tellKnows 38 = .ok (.ifCond .ne 28, 3) := by decide +kernel
theorem dX4_tellKnows_41 : decode cX4_tellKnows 41 = .ok (.iload_n 1, 1) := by decide +kernel
theorem dX4_tellKnows_42 : decode cX4_tellKnows 42 = .ok (.iload_n 3, 1) := by decide +kernel
theorem dX4_tellKnows_43 : decode cX4_tellKnows 43 = .ok (.if_icmp .ne 14, 3) := by decide +kernel
theorem dX4_tellKnows_46 : decode cX4_tellKnows 46 = .ok (.iload_n 1, 1) := by decide +kernel
theorem dX4_tellKnows_47 : decode cX4_tellKnows 47 = .ok (.iconst (-1), 1) := by decide +kernel
theorem dX4_tellKnows_48 : decode cX4_tellKnows 48 = .ok (.if_icmp .eq 9, 3) := by decide +kernel
theorem dX4_tellKnows_51 : decode cX4_tellKnows 51 = .ok (.aload_n 0, 1) := by decide +kernel
theorem dX4_tellKnows_52 : decode cX4_tellKnows 52 = .ok (.iconst 3, 1) := by decide +kernel
theorem dX4_tellKnows_53 : decode cX4_tellKnows 53 = .ok (.iload_n 2, 1) := by decide +kernel
theorem dX4_tellKnows_54 : decode cX4_tellKnows 54 = .ok (.invokevirtual 138, 3) := by decide +kernel
theorem dX4_tellKnows_57 : decode cX4_tellKnows 57 = .ok (.aload_n 0, 1) := by decide +kernel
theorem dX4_tellKnows_58 : decode cX4_tellKnows 58 = .ok (.getfield 21, 3) := by decide +kernel
theorem dX4_tellKnows_61 : decode cX4_tellKnows 61 = .ok (.iload_n 1, 1) := by decide +kernel
theorem dX4_tellKnows_62 : decode cX4_tellKnows 62 = .ok (.iload_n 3, 1) := by decide +kernel
theorem dX4_tellKnows_63 : decode cX4_tellKnows 63 = .ok (.invokevirtual 141, 3) := by decide +kernel
theorem dX4_tellKnows_66 : decode cX4_tellKnows 66 = .ok (.return_, 1) := by decide +kernel
def c_X4_tellKnows (p : Nat) (h : PH) : Option (PH) :=
  nm (h.2.2 p 1) fun t1 =>
  gd (tOK t1) <|
  (c_X4_open p 67 (h.1 t1 4) 8 h).bind fun h2 =>
  bind2 (c_X4_toldName p 64 h2) fun r3 h4 =>
  nm r3 fun v5 =>
  (c_X4_placeHere p h4).bind fun r6 =>
  nm r6 fun v7 =>
  bind2 (c_X4_toldName p 64 h4) fun r8 h9 =>
  nm r8 fun v10 =>
  if (h9.1 p 3) = 0 then
    if v5 = v10 then
      if v5 = (-1) then
        nm (h9.2.2 p 1) fun t13 =>
        gd (tOK t13) <|
        (c_X9_addKnows t13 v5 v10 h9).bind fun h14 =>
        some h14
      else
        (c_X4_complain p 3 v7 h9).bind fun h15 =>
        nm (h15.2.2 p 1) fun t16 =>
        gd (tOK t16) <|
        (c_X9_addKnows t16 v5 v10 h15).bind fun h17 =>
        some h17
    else
      nm (h9.2.2 p 1) fun t11 =>
      gd (tOK t11) <|
      (c_X9_addKnows t11 v5 v10 h9).bind fun h12 =>
      some h12
  else
    some h9
set_option maxHeartbeats 4000000 in
set_option maxRecDepth 100000 in
theorem ct_X4_tellKnows (l : Launch) {lay : List KK} {p : Nat} (ho : okX4 lay p) : CtV l yX4_tellKnows cX4_tellKnows 4 (none) 2 48 lay (fun h => c_X4_tellKnows p h) (fun ad => [.ref (ad p)]) := by
  refine CtV.mk' RX4 (by decide) rfl (fun _ => Nat.le_of_ble_eq_true rfl) ?_
  intro p0 e s m args below meth c D G A H0 ad X h r0 H ls Q hM hw hl hf hR
  have hl : lv_has ls 4 [(0, .ref (ad p))] := hl
  unfold c_X4_tellKnows at hf
  refine lv_aload_n hM.1 hM.2.1 dX4_tellKnows_0 rfl (lv_at hl 0 rfl) ?_
  refine lv_bipush (v := 67) hM.1 hM.2.1 dX4_tellKnows_1 (by decide) ?_
  refine lv_aload_n hM.1 hM.2.1 dX4_tellKnows_3 rfl (lv_at hl 0 rfl) ?_
  refine gf_X4_text hM hw (okX4.o ho) fl_X4_21 dX4_tellKnows_4 ?_
  refine x_nmr hf (fun t1 hf => ?_)
  obtain ⟨hok_t1, hf⟩ := x_cond hf
  refine gf_X9_knows hM hw (okX9.o (okX4.textOf ho hok_t1)) fl_X4_132 dX4_tellKnows_7 ?_
  refine lv_bipush (v := 8) hM.1 hM.2.1 dX4_tellKnows_10 (by decide) ?_
  refine x_callVV (rest := []) hM hw (ct_X4_open l ho 67 (h.1 t1 4) 8) [.int 67, .int (h.1 t1 4), .int 8] (okX4.o ho) rfl rfl rfl (gi_V ml_X4_101 im_X4_open sl_X4_open in_X4 kc_X4_open) hd_X4_open rfl ⟨Nat.le_of_ble_eq_true rfl, Nat.le_of_ble_eq_true rfl⟩ rfl (Nat.le_of_ble_eq_true rfl) hl.1 hcs0 hf dX4_tellKnows_12 (fun h2 H locs hf hw => ?_)
  refine lv_aload_n hM.1 hM.2.1 dX4_tellKnows_15 rfl (lv_at hl 0 rfl) ?_
  refine lv_bipush (v := 64) hM.1 hM.2.1 dX4_tellKnows_16 (by decide) ?_
  refine x_callVI (rest := []) hM hw (ct_X4_toldName l ho 64) [.int 64] (okX4.o ho) rfl rfl rfl (gi_V ml_X4_125 im_X4_toldName sl_X4_toldName in_X4 kc_X4_toldName) hd_X4_toldName rfl ⟨Nat.le_of_ble_eq_true rfl, Nat.le_of_ble_eq_true rfl⟩ rfl (Nat.le_of_ble_eq_true rfl) hl.1 hcs0 hf dX4_tellKnows_18 (fun r3 h4 H locs hf hw => ?_)
  refine x_istore_n hM hf dX4_tellKnows_21 rfl hl (by decide) (fun v5 => [(1, .int v5), (0, .ref (ad p))]) (fun _ => rfl) (fun v5 ls hf hl => ?_)
  refine lv_aload_n hM.1 hM.2.1 dX4_tellKnows_22 rfl (lv_at hl 1 rfl) ?_
  refine x_callVIr (rest := []) hM hw (ct_X4_placeHere l ho) [] (okX4.o ho) rfl rfl rfl (gi_V ml_X4_135 im_X4_placeHere sl_X4_placeHere in_X4 kc_X4_placeHere) hd_X4_placeHere rfl ⟨Nat.le_of_ble_eq_true rfl, Nat.le_of_ble_eq_true rfl⟩ rfl (Nat.le_of_ble_eq_true rfl) hl.1 hcs0 hf dX4_tellKnows_23 (fun r6 H locs hf hw => ?_)
  refine x_istore_n hM hf dX4_tellKnows_26 rfl hl (by decide) (fun v7 => [(2, .int v7), (1, .int v5), (0, .ref (ad p))]) (fun _ => rfl) (fun v7 ls hf hl => ?_)
  refine lv_aload_n hM.1 hM.2.1 dX4_tellKnows_27 rfl (lv_at hl 2 rfl) ?_
  refine lv_bipush (v := 64) hM.1 hM.2.1 dX4_tellKnows_28 (by decide) ?_
  refine x_callVI (rest := []) hM hw (ct_X4_toldName l ho 64) [.int 64] (okX4.o ho) rfl rfl rfl (gi_V ml_X4_125 im_X4_toldName sl_X4_toldName in_X4 kc_X4_toldName) hd_X4_toldName rfl ⟨Nat.le_of_ble_eq_true rfl, Nat.le_of_ble_eq_true rfl⟩ rfl (Nat.le_of_ble_eq_true rfl) hl.1 hcs0 hf dX4_tellKnows_30 (fun r8 h9 H locs hf hw => ?_)
  refine x_istore_n hM hf dX4_tellKnows_33 rfl hl (by decide) (fun v10 => [(3, .int v10), (2, .int v7), (1, .int v5), (0, .ref (ad p))]) (fun _ => rfl) (fun v10 ls hf hl => ?_)
  refine lv_aload_n hM.1 hM.2.1 dX4_tellKnows_34 rfl (lv_at hl 3 rfl) ?_
  refine gf_X4_broken hM hw (okX4.o ho) fl_X4_29 dX4_tellKnows_35 ?_
  refine x_if_ne (tgt := 66) hM hf dX4_tellKnows_38 (by decide) (fun hf => ?_) (fun hf => ?_)
  · exact hR _ _ _ _ _ (Option.some.inj hf) rfl hw dX4_tellKnows_66
  refine lv_iload_n hM.1 hM.2.1 dX4_tellKnows_41 rfl (lv_at hl 2 rfl) ?_
  refine lv_iload_n hM.1 hM.2.1 dX4_tellKnows_42 rfl (lv_at hl 0 rfl) ?_
  refine x_ic_ne (tgt := 57) hM hf dX4_tellKnows_43 (by decide) (fun hf => ?_) (fun hf => ?_)
  · refine lv_aload_n hM.1 hM.2.1 dX4_tellKnows_57 rfl (lv_at hl 3 rfl) ?_
    refine gf_X4_text hM hw (okX4.o ho) fl_X4_21 dX4_tellKnows_58 ?_
    refine x_nmr hf (fun t11 hf => ?_)
    obtain ⟨hok_t11, hf⟩ := x_cond hf
    refine lv_iload_n hM.1 hM.2.1 dX4_tellKnows_61 rfl (lv_at hl 2 rfl) ?_
    refine lv_iload_n hM.1 hM.2.1 dX4_tellKnows_62 rfl (lv_at hl 0 rfl) ?_
    refine x_callVV (rest := []) hM hw (ct_X9_addKnows l (okX4.textOf ho hok_t11) v5 v10) [.int v5, .int v10] (okX9.o (okX4.textOf ho hok_t11)) rfl rfl rfl (gi_V ml_X4_141 im_X9_addKnows sl_X9_addKnows in_X9 kc_X9_addKnows) hd_X9_addKnows rfl ⟨Nat.le_of_ble_eq_true rfl, Nat.le_of_ble_eq_true rfl⟩ rfl (Nat.le_of_ble_eq_true rfl) hl.1 hcs0 hf dX4_tellKnows_63 (fun h12 H locs hf hw => ?_)
    exact hR _ _ _ _ _ (Option.some.inj hf) rfl hw dX4_tellKnows_66
  refine lv_iload_n hM.1 hM.2.1 dX4_tellKnows_46 rfl (lv_at hl 2 rfl) ?_
  refine lv_iconst (v := (-1)) hM.1 hM.2.1 dX4_tellKnows_47 ic_m1 ?_
  refine x_ic_eq (tgt := 57) hM hf dX4_tellKnows_48 (by decide) (fun hf => ?_) (fun hf => ?_)
  · refine lv_aload_n hM.1 hM.2.1 dX4_tellKnows_57 rfl (lv_at hl 3 rfl) ?_
    refine gf_X4_text hM hw (okX4.o ho) fl_X4_21 dX4_tellKnows_58 ?_
    refine x_nmr hf (fun t13 hf => ?_)
    obtain ⟨hok_t13, hf⟩ := x_cond hf
    refine lv_iload_n hM.1 hM.2.1 dX4_tellKnows_61 rfl (lv_at hl 2 rfl) ?_
    refine lv_iload_n hM.1 hM.2.1 dX4_tellKnows_62 rfl (lv_at hl 0 rfl) ?_
    refine x_callVV (rest := []) hM hw (ct_X9_addKnows l (okX4.textOf ho hok_t13) v5 v10) [.int v5, .int v10] (okX9.o (okX4.textOf ho hok_t13)) rfl rfl rfl (gi_V ml_X4_141 im_X9_addKnows sl_X9_addKnows in_X9 kc_X9_addKnows) hd_X9_addKnows rfl ⟨Nat.le_of_ble_eq_true rfl, Nat.le_of_ble_eq_true rfl⟩ rfl (Nat.le_of_ble_eq_true rfl) hl.1 hcs0 hf dX4_tellKnows_63 (fun h14 H locs hf hw => ?_)
    exact hR _ _ _ _ _ (Option.some.inj hf) rfl hw dX4_tellKnows_66
  refine lv_aload_n hM.1 hM.2.1 dX4_tellKnows_51 rfl (lv_at hl 3 rfl) ?_
  refine lv_iconst (v := 3) hM.1 hM.2.1 dX4_tellKnows_52 ic_3 ?_
  refine lv_iload_n hM.1 hM.2.1 dX4_tellKnows_53 rfl (lv_at hl 1 rfl) ?_
  refine x_callVV (rest := []) hM hw (ct_X4_complain l ho 3 v7) [.int 3, .int v7] (okX4.o ho) rfl rfl rfl (gi_V ml_X4_138 im_X4_complain sl_X4_complain in_X4 kc_X4_complain) hd_X4_complain rfl ⟨Nat.le_of_ble_eq_true rfl, Nat.le_of_ble_eq_true rfl⟩ rfl (Nat.le_of_ble_eq_true rfl) hl.1 hcs0 hf dX4_tellKnows_54 (fun h15 H locs hf hw => ?_)
  refine lv_aload_n hM.1 hM.2.1 dX4_tellKnows_57 rfl (lv_at hl 3 rfl) ?_
  refine gf_X4_text hM hw (okX4.o ho) fl_X4_21 dX4_tellKnows_58 ?_
  refine x_nmr hf (fun t16 hf => ?_)
  obtain ⟨hok_t16, hf⟩ := x_cond hf
  refine lv_iload_n hM.1 hM.2.1 dX4_tellKnows_61 rfl (lv_at hl 2 rfl) ?_
  refine lv_iload_n hM.1 hM.2.1 dX4_tellKnows_62 rfl (lv_at hl 0 rfl) ?_
  refine x_callVV (rest := []) hM hw (ct_X9_addKnows l (okX4.textOf ho hok_t16) v5 v10) [.int v5, .int v10] (okX9.o (okX4.textOf ho hok_t16)) rfl rfl rfl (gi_V ml_X4_141 im_X9_addKnows sl_X9_addKnows in_X9 kc_X9_addKnows) hd_X9_addKnows rfl ⟨Nat.le_of_ble_eq_true rfl, Nat.le_of_ble_eq_true rfl⟩ rfl (Nat.le_of_ble_eq_true rfl) hl.1 hcs0 hf dX4_tellKnows_63 (fun h17 H locs hf hw => ?_)
  exact hR _ _ _ _ _ (Option.some.inj hf) rfl hw dX4_tellKnows_66
theorem hd_X4_tellKnows : yX4_tellKnows.cls = RX4 ∧ yX4_tellKnows.cls ≠ "java/lang/invoke/MethodHandle" ∧ yX4_tellKnows.cls ≠ "java/lang/invoke/VarHandle" ∧ (parseMethodDescriptor yX4_tellKnows.desc).map (fun d => d.parameters.length) = some 0 := ⟨rfl, by decide, by decide, by decide +kernel⟩
theorem dX4_tellTest_0 : decode cX4_tellTest 0 = .ok (.aload_n 0, 1) := by decide +kernel
theorem dX4_tellTest_1 : decode cX4_tellTest 1 = .ok (.bipush 68, 2) := by decide +kernel
theorem dX4_tellTest_3 : decode cX4_tellTest 3 = .ok (.aload_n 0, 1) := by decide +kernel
theorem dX4_tellTest_4 : decode cX4_tellTest 4 = .ok (.getfield 21, 3) := by decide +kernel
theorem dX4_tellTest_7 : decode cX4_tellTest 7 = .ok (.getfield 144, 3) := by decide +kernel
theorem dX4_tellTest_10 : decode cX4_tellTest 10 = .ok (.bipush 6, 2) := by decide +kernel
theorem dX4_tellTest_12 : decode cX4_tellTest 12 = .ok (.invokevirtual 101, 3) := by decide +kernel
theorem dX4_tellTest_15 : decode cX4_tellTest 15 = .ok (.aload_n 0, 1) := by decide +kernel
theorem dX4_tellTest_16 : decode cX4_tellTest 16 = .ok (.bipush 68, 2) := by decide +kernel
theorem dX4_tellTest_18 : decode cX4_tellTest 18 = .ok (.aload_n 0, 1) := by decide +kernel
theorem dX4_tellTest_19 : decode cX4_tellTest 19 = .ok (.getfield 21, 3) := by decide +kernel
theorem dX4_tellTest_22 : decode cX4_tellTest 22 = .ok (.getfield 144, 3) := by decide +kernel
theorem dX4_tellTest_25 : decode cX4_tellTest 25 = .ok (.invokevirtual 105, 3) := by decide +kernel
theorem dX4_tellTest_28 : decode cX4_tellTest 28 = .ok (.iconst 0, 1) := by decide +kernel
theorem dX4_tellTest_29 : decode cX4_tellTest 29 = .ok (.istore_n 1, 1) := by decide +kernel
theorem dX4_tellTest_30 : decode cX4_tellTest 30 = .ok (.iconst 0, 1) := by decide +kernel
theorem dX4_tellTest_31 : decode cX4_tellTest 31 = .ok (.istore_n 2, 1) := by decide +kernel
theorem dX4_tellTest_32 : decode cX4_tellTest 32 = .ok (.iload_n 2, 1) := by decide +kernel
theorem dX4_tellTest_33 : decode cX4_tellTest 33 = .ok (.sipush 400, 3) := by decide +kernel
theorem dX4_tellTest_36 : decode cX4_tellTest 36 = .ok (.if_icmp .gt 68, 3) := by decide +kernel
theorem dX4_tellTest_39 : decode cX4_tellTest 39 = .ok (.aload_n 0, 1) := by decide +kernel
theorem dX4_tellTest_40 : decode cX4_tellTest 40 = .ok (.invokevirtual 48, 3) := by decide +kernel
theorem dX4_tellTest_43 : decode cX4_tellTest 43 = .ok (.iconst 2, 1) := by decide +kernel
theorem dX4_tellTest_44 : decode cX4_tellTest 44 = .ok (.if_icmp .ne 60, 3) := by decide +kernel
theorem dX4_tellTest_47 : decode cX4_tellTest 47 = .ok (.aload_n 0, 1) := by decide +kernel
theorem dX4_tellTest_48 : decode cX4_tellTest 48 = .ok (.invokevirtual 135, 3) := by decide +kernel
theorem dX4_tellTest_51 : decode cX4_tellTest 51 = .ok (.istore_n 3, 1) := by decide +kernel
theorem dX4_tellTest_52 : decode cX4_tellTest 52 = .ok (.aload_n 0, 1) := by decide +kernel
theorem dX4_tellTest_53 : decode cX4_tellTest 53 = .ok (.bipush 65, 2) := by decide +kernel
theorem dX4_tellTest_55 : decode cX4_tellTest 55 = .ok (.invokevirtual 125, 3) := by decide +kernel
theorem dX4_tellTest_58 : decode cX4_tellTest 58 = .ok (.istore 4, 2) := by decide +kernel
theorem dX4_tellTest_60 : decode cX4_tellTest 60 = .ok (.iload 4, 2) := by decide +kernel
theorem dX4_tellTest_62 : decode cX4_tellTest 62 = .ok (.iconst (-1), 1) := by decide +kernel
theorem dX4_tellTest_63 : decode cX4_tellTest 63 = .ok (.if_icmp .eq 18, 3) := by decide +kernel
theorem dX4_tellTest_66 : decode cX4_tellTest 66 = .ok (.iload_n 1, 1) := by decide +kernel
theorem dX4_tellTest_67 : decode cX4_tellTest 67 = .ok (.iload 4, 2) := by decide +kernel
theorem dX4_tellTest_69 : decode cX4_tellTest 69 = .ok (.ishr, 1) := by decide +kernel
theorem dX4_tellTest_70 : decode cX4_tellTest 70 = .ok (.iconst 1, 1) := by decide +kernel
theorem dX4_tellTest_71 : decode cX4_tellTest 71 = .ok (.iand, 1) := by decide +kernel
theorem dX4_tellTest_72 : decode cX4_tellTest 72 = .ok (.ifCond .eq 9, 3) := by decide +kernel
theorem dX4_tellTest_75 : decode cX4_tellTest 75 = .ok (.aload_n 0, 1) := by decide +kernel
theorem dX4_tellTest_76 : decode cX4_tellTest 76 = .ok (.iconst 3, 1) := by decide +kernel
theorem dX4_tellTest_77 : decode cX4_tellTest 77 = .ok (.iload_n 3, 1) := by decide +kernel
theorem dX4_tellTest_78 : decode cX4_tellTest 78 = .ok (.invokevirtual 138, 3) := by decide +kernel
theorem dX4_tellTest_81 : decode cX4_tellTest 81 = .ok (.iload_n 1, 1) := by decide +kernel
theorem dX4_tellTest_82 : decode cX4_tellTest 82 = .ok (.iload 4, 2) := by decide +kernel
theorem dX4_tellTest_84 : decode cX4_tellTest 84 = .ok (.iconst (-1), 1) := by decide +kernel
theorem dX4_tellTest_85 : decode cX4_tellTest 85 = .ok (.if_icmp .eq 10, 3) := by decide +kernel
theorem dX4_tellTest_88 : decode cX4_tellTest 88 = .ok (.iconst 1, 1) := by decide +kernel
theorem dX4_tellTest_89 : decode cX4_tellTest 89 = .ok (.iload 4, 2) := by decide +kernel
theorem dX4_tellTest_91 : decode cX4_tellTest 91 = .ok (.ishl, 1) := by decide +kernel
theorem dX4_tellTest_92 : decode cX4_tellTest 92 = .ok (.goto 4, 3) := by decide +kernel
theorem dX4_tellTest_95 : decode cX4_tellTest 95 = .ok (.iconst 0, 1) := by decide +kernel
theorem dX4_tellTest_96 : decode cX4_tellTest 96 = .ok (.ior, 1) := by decide +kernel
theorem dX4_tellTest_97 : decode cX4_tellTest 97 = .ok (.istore_n 1, 1) := by decide +kernel
theorem dX4_tellTest_98 : decode cX4_tellTest 98 = .ok (.iinc 2 1, 3) := by decide +kernel
theorem dX4_tellTest_101 : decode cX4_tellTest 101 = .ok (.goto (-69), 3) := by decide +kernel
theorem dX4_tellTest_104 : decode cX4_tellTest 104 = .ok (.aload_n 0, 1) := by decide +kernel
theorem dX4_tellTest_105 : decode cX4_tellTest 105 = .ok (.getfield 29, 3) := by decide +kernel
theorem dX4_tellTest_108 : decode cX4_tellTest 108 = .ok (.ifCond .ne 11, 3) := by decide +kernel
theorem dX4_tellTest_111 : decode cX4_tellTest 111 = .ok (.aload_n 0, 1) := by decide +kernel
theorem dX4_tellTest_112 : decode cX4_tellTest 112 = .ok (.getfield 21, 3) := by decide +kernel
theorem dX4_tellTest_115 : decode cX4_tellTest 115 = .ok (.iload_n 1, 1) := by decide +kernel
theorem dX4_tellTest_116 : decode cX4_tellTest 116 = .ok (.invokevirtual 147, 3) := by decide +kernel
theorem dX4_tellTest_119 : decode cX4_tellTest 119 = .ok (.return_, 1) := by decide +kernel
def c_X4_tellTest_j81 {ρ : Type}  (p : Nat) (K1 : Int32 → PH → Option ρ) (REC : Int32 → Int32 → PH → Option ρ) (x1 : Int32) (x2 : Int32) (x4 : Int32) (h : PH) : Option (ρ) :=
  if x4 = (-1) then
    nm (x1 ||| 0) fun v13 =>
    nm (x2 + 1) fun v14 =>
    REC v13 v14 h
  else
    nm (x1 ||| ((1 : Int32) <<< (x4 &&& 31))) fun v15 =>
    nm (x2 + 1) fun v16 =>
    REC v15 v16 h
set_option maxHeartbeats 4000000 in
set_option maxRecDepth 100000 in
theorem w_X4_tellTest_j81 {p0 : Program} {l : Launch} {e : Env} {s : State} {m : MethodId} {args : Array Value} {below : List Frame} {meth : Method} {c : Code} {Q : State → Prop} {D : va_G} {G : GG} {A : Nat → Prop} {H0 : Heap} {ad : Nat → Nat} {lay : List KK} {X : va_W} {ρ : Type} {p : Nat} {r0 : ρ} {x1 : Int32} {x2 : Int32} {x4 : Int32} {h : PH} {H : Heap} {locs : List Loc} {ls : Array Slot} {K1 : Int32 → PH → Option ρ} {REC : Int32 → Int32 → PH → Option ρ} (hM : CallFix p0 m c cX4_tellTest 5 s args lw_g RX4) (ho : okX4 lay p) (hk1 : ∀ (x1 : Int32) (h : PH), ∀ (H : Heap) (locs : List Loc) (ls : Array Slot), K1 x1 h = some r0 → Wd D G A H0 ad lay X h s H locs → lv_has ls 5 [(0, .ref (ad p)), (1, .int x1)] → W p0 l e (rmN 2 49) s m args below meth c H locs 0 0 Q (F0 m 104 ls [])) (hrec : ∀ (x1 : Int32) (x2 : Int32) (h : PH), ∀ (H : Heap) (locs : List Loc) (ls : Array Slot), REC x1 x2 h = some r0 → Wd D G A H0 ad lay X h s H locs → lv_has ls 5 [(0, .ref (ad p)), (1, .int x1), (2, .int x2)] → W p0 l e (rmN 2 49) s m args below meth c H locs 0 0 Q (F0 m 32 ls [])) (hw : Wd D G A H0 ad lay X h s H locs) (hl : lv_has ls 5 [(0, .ref (ad p)), (1, .int x1), (2, .int x2), (4, .int x4)]) (hf : c_X4_tellTest_j81 p K1 REC x1 x2 x4 h = some r0) : W p0 l e (rmN 2 49) s m args below meth c H locs 0 0 Q (F0 m 81 ls []) := by
  unfold c_X4_tellTest_j81 at hf
  refine lv_iload_n hM.1 hM.2.1 dX4_tellTest_81 rfl (lv_at hl 1 rfl) ?_
  refine lv_iload hM.1 hM.2.1 dX4_tellTest_82 (lv_at hl 3 rfl) ?_
  refine lv_iconst (v := (-1)) hM.1 hM.2.1 dX4_tellTest_84 ic_m1 ?_
  refine x_ic_eq (tgt := 95) hM hf dX4_tellTest_85 (by decide) (fun hf => ?_) (fun hf => ?_)
  · refine lv_iconst (v := 0) hM.1 hM.2.1 dX4_tellTest_95 ic_0 ?_
    refine lv_ior hM.1 hM.2.1 dX4_tellTest_96 ?_
    refine x_istore_n hM hf dX4_tellTest_97 rfl hl (by decide) (fun v13 => [(1, .int v13), (0, .ref (ad p)), (2, .int x2), (4, .int x4)]) (fun _ => rfl) (fun v13 ls hf hl => ?_)
    refine x_iinc (k := 2) (d := 1) hM hf dX4_tellTest_98 hl rfl (by decide) (by decide) (fun v14 => [(2, .int v14), (1, .int v13), (0, .ref (ad p)), (4, .int x4)]) (fun _ => rfl) (fun v14 ls hf hl => ?_)
    refine lv_goto (tgt := 32) hM.1 hM.2.1 dX4_tellTest_101 (by decide) ?_
    exact hrec _ _ _ _ _ _ hf hw (lv_sub hl [2, 1, 0] rfl)
  refine lv_iconst (v := 1) hM.1 hM.2.1 dX4_tellTest_88 ic_1 ?_
  refine lv_iload hM.1 hM.2.1 dX4_tellTest_89 (lv_at hl 3 rfl) ?_
  refine lv_ishl hM.1 hM.2.1 dX4_tellTest_91 ?_
  refine lv_goto (tgt := 96) hM.1 hM.2.1 dX4_tellTest_92 (by decide) ?_
  refine lv_ior hM.1 hM.2.1 dX4_tellTest_96 ?_
  refine x_istore_n hM hf dX4_tellTest_97 rfl hl (by decide) (fun v15 => [(1, .int v15), (0, .ref (ad p)), (2, .int x2), (4, .int x4)]) (fun _ => rfl) (fun v15 ls hf hl => ?_)
  refine x_iinc (k := 2) (d := 1) hM hf dX4_tellTest_98 hl rfl (by decide) (by decide) (fun v16 => [(2, .int v16), (1, .int v15), (0, .ref (ad p)), (4, .int x4)]) (fun _ => rfl) (fun v16 ls hf hl => ?_)
  refine lv_goto (tgt := 32) hM.1 hM.2.1 dX4_tellTest_101 (by decide) ?_
  exact hrec _ _ _ _ _ _ hf hw (lv_sub hl [2, 1, 0] rfl)
def c_X4_tellTest_L32b {ρ : Type}  (p : Nat) (K1 : Int32 → PH → Option ρ) (REC : Int32 → Int32 → PH → Option ρ) (x1 : Int32) (x2 : Int32) (h : PH) : Option ρ :=
  if 400 < x2 then
    K1 x1 h
  else
    (c_X4_kind p h).bind fun r7 =>
    if r7 = 2 then
      (c_X4_placeHere p h).bind fun r8 =>
      nm r8 fun v9 =>
      bind2 (c_X4_toldName p 65 h) fun r10 h11 =>
      nm r10 fun v12 =>
      if v12 = (-1) then
        c_X4_tellTest_j81 p K1 REC x1 x2 v12 h11
      else
        if ((x1 >>> (v12 &&& 31)) &&& 1) = 0 then
          c_X4_tellTest_j81 p K1 REC x1 x2 v12 h11
        else
          (c_X4_complain p 3 v9 h11).bind fun h17 =>
          c_X4_tellTest_j81 p K1 REC x1 x2 v12 h17
    else
      K1 x1 h
set_option maxHeartbeats 4000000 in
set_option maxRecDepth 100000 in
theorem w_X4_tellTest_L32b {p0 : Program} {l : Launch} {e : Env} {s : State} {m : MethodId} {args : Array Value} {below : List Frame} {meth : Method} {c : Code} {Q : State → Prop} {D : va_G} {G : GG} {A : Nat → Prop} {H0 : Heap} {ad : Nat → Nat} {lay : List KK} {X : va_W} {ρ : Type} {p : Nat} {r0 : ρ} {x1 : Int32} {x2 : Int32} {h : PH} {H : Heap} {locs : List Loc} {ls : Array Slot} {K1 : Int32 → PH → Option ρ} {REC : Int32 → Int32 → PH → Option ρ} (hM : CallFix p0 m c cX4_tellTest 5 s args lw_g RX4) (ho : okX4 lay p) (hk1 : ∀ (x1 : Int32) (h : PH), ∀ (H : Heap) (locs : List Loc) (ls : Array Slot), K1 x1 h = some r0 → Wd D G A H0 ad lay X h s H locs → lv_has ls 5 [(0, .ref (ad p)), (1, .int x1)] → W p0 l e (rmN 2 49) s m args below meth c H locs 0 0 Q (F0 m 104 ls [])) (hrec : ∀ (x1 : Int32) (x2 : Int32) (h : PH), ∀ (H : Heap) (locs : List Loc) (ls : Array Slot), REC x1 x2 h = some r0 → Wd D G A H0 ad lay X h s H locs → lv_has ls 5 [(0, .ref (ad p)), (1, .int x1), (2, .int x2)] → W p0 l e (rmN 2 49) s m args below meth c H locs 0 0 Q (F0 m 32 ls [])) (hw : Wd D G A H0 ad lay X h s H locs) (hl : lv_has ls 5 [(0, .ref (ad p)), (1, .int x1), (2, .int x2)]) (hf : c_X4_tellTest_L32b p K1 REC x1 x2 h = some r0) : W p0 l e (rmN 2 49) s m args below meth c H locs 0 0 Q (F0 m 32 ls []) := by
  unfold c_X4_tellTest_L32b at hf
  refine lv_iload_n hM.1 hM.2.1 dX4_tellTest_32 rfl (lv_at hl 2 rfl) ?_
  refine lv_sipush (v := 400) hM.1 hM.2.1 dX4_tellTest_33 (by decide) ?_
  refine x_ic_gt (tgt := 104) hM hf dX4_tellTest_36 (by decide) (fun hf => ?_) (fun hf => ?_)
  · exact hk1 _ _ _ _ _ hf hw (lv_sub hl [0, 1] rfl)
  refine lv_aload_n hM.1 hM.2.1 dX4_tellTest_39 rfl (lv_at hl 0 rfl) ?_
  refine x_callVIr (rest := []) hM hw (ct_X4_kind l ho) [] (okX4.o ho) rfl rfl rfl (gi_V ml_X4_48 im_X4_kind sl_X4_kind in_X4 kc_X4_kind) hd_X4_kind rfl ⟨Nat.le_of_ble_eq_true rfl, Nat.le_of_ble_eq_true rfl⟩ rfl (Nat.le_of_ble_eq_true rfl) hl.1 hcs0 hf dX4_tellTest_40 (fun r7 H locs hf hw => ?_)
  refine lv_iconst (v := 2) hM.1 hM.2.1 dX4_tellTest_43 ic_2 ?_
  refine x_ic_ne (tgt := 104) hM hf dX4_tellTest_44 (by decide) (fun hf => ?_) (fun hf => ?_)
  · exact hk1 _ _ _ _ _ hf hw (lv_sub hl [0, 1] rfl)
  refine lv_aload_n hM.1 hM.2.1 dX4_tellTest_47 rfl (lv_at hl 0 rfl) ?_
  refine x_callVIr (rest := []) hM hw (ct_X4_placeHere l ho) [] (okX4.o ho) rfl rfl rfl (gi_V ml_X4_135 im_X4_placeHere sl_X4_placeHere in_X4 kc_X4_placeHere) hd_X4_placeHere rfl ⟨Nat.le_of_ble_eq_true rfl, Nat.le_of_ble_eq_true rfl⟩ rfl (Nat.le_of_ble_eq_true rfl) hl.1 hcs0 hf dX4_tellTest_48 (fun r8 H locs hf hw => ?_)
  refine x_istore_n hM hf dX4_tellTest_51 rfl hl (by decide) (fun v9 => [(3, .int v9), (0, .ref (ad p)), (1, .int x1), (2, .int x2)]) (fun _ => rfl) (fun v9 ls hf hl => ?_)
  refine lv_aload_n hM.1 hM.2.1 dX4_tellTest_52 rfl (lv_at hl 1 rfl) ?_
  refine lv_bipush (v := 65) hM.1 hM.2.1 dX4_tellTest_53 (by decide) ?_
  refine x_callVI (rest := []) hM hw (ct_X4_toldName l ho 65) [.int 65] (okX4.o ho) rfl rfl rfl (gi_V ml_X4_125 im_X4_toldName sl_X4_toldName in_X4 kc_X4_toldName) hd_X4_toldName rfl ⟨Nat.le_of_ble_eq_true rfl, Nat.le_of_ble_eq_true rfl⟩ rfl (Nat.le_of_ble_eq_true rfl) hl.1 hcs0 hf dX4_tellTest_55 (fun r10 h11 H locs hf hw => ?_)
  refine x_istore hM hf dX4_tellTest_58 hl (by decide) (fun v12 => [(4, .int v12), (3, .int v9), (0, .ref (ad p)), (1, .int x1), (2, .int x2)]) (fun _ => rfl) (fun v12 ls hf hl => ?_)
  refine lv_iload hM.1 hM.2.1 dX4_tellTest_60 (lv_at hl 0 rfl) ?_
  refine lv_iconst (v := (-1)) hM.1 hM.2.1 dX4_tellTest_62 ic_m1 ?_
  refine x_ic_eq (tgt := 81) hM hf dX4_tellTest_63 (by decide) (fun hf => ?_) (fun hf => ?_)
  · exact w_X4_tellTest_j81 hM ho hk1 hrec hw (lv_sub hl [2, 3, 4, 0] rfl) hf
  refine lv_iload_n hM.1 hM.2.1 dX4_tellTest_66 rfl (lv_at hl 3 rfl) ?_
  refine lv_iload hM.1 hM.2.1 dX4_tellTest_67 (lv_at hl 0 rfl) ?_
  refine lv_ishr hM.1 hM.2.1 dX4_tellTest_69 ?_
  refine lv_iconst (v := 1) hM.1 hM.2.1 dX4_tellTest_70 ic_1 ?_
  refine lv_iand hM.1 hM.2.1 dX4_tellTest_71 ?_
  refine x_if_eq (tgt := 81) hM hf dX4_tellTest_72 (by decide) (fun hf => ?_) (fun hf => ?_)
  · exact w_X4_tellTest_j81 hM ho hk1 hrec hw (lv_sub hl [2, 3, 4, 0] rfl) hf
  refine lv_aload_n hM.1 hM.2.1 dX4_tellTest_75 rfl (lv_at hl 2 rfl) ?_
  refine lv_iconst (v := 3) hM.1 hM.2.1 dX4_tellTest_76 ic_3 ?_
  refine lv_iload_n hM.1 hM.2.1 dX4_tellTest_77 rfl (lv_at hl 1 rfl) ?_
  refine x_callVV (rest := []) hM hw (ct_X4_complain l ho 3 v9) [.int 3, .int v9] (okX4.o ho) rfl rfl rfl (gi_V ml_X4_138 im_X4_complain sl_X4_complain in_X4 kc_X4_complain) hd_X4_complain rfl ⟨Nat.le_of_ble_eq_true rfl, Nat.le_of_ble_eq_true rfl⟩ rfl (Nat.le_of_ble_eq_true rfl) hl.1 hcs0 hf dX4_tellTest_78 (fun h17 H locs hf hw => ?_)
  exact w_X4_tellTest_j81 hM ho hk1 hrec hw (lv_sub hl [2, 3, 4, 0] rfl) hf
set_option maxHeartbeats 4000000 in
set_option maxRecDepth 100000 in
theorem w_X4_tellTest_L32 {p0 : Program} {l : Launch} {e : Env} {s : State} {m : MethodId} {args : Array Value} {below : List Frame} {meth : Method} {c : Code} {Q : State → Prop} {D : va_G} {G : GG} {A : Nat → Prop} {H0 : Heap} {ad : Nat → Nat} {lay : List KK} {X : va_W} {ρ : Type} {p : Nat} {r0 : ρ} {K1 : Int32 → PH → Option ρ} (hM : CallFix p0 m c cX4_tellTest 5 s args lw_g RX4) (ho : okX4 lay p) (hk1 : ∀ (x1 : Int32) (h : PH), ∀ (H : Heap) (locs : List Loc) (ls : Array Slot), K1 x1 h = some r0 → Wd D G A H0 ad lay X h s H locs → lv_has ls 5 [(0, .ref (ad p)), (1, .int x1)] → W p0 l e (rmN 2 49) s m args below meth c H locs 0 0 Q (F0 m 104 ls [])) (n : Nat) (x1 : Int32) (x2 : Int32) (h : PH) (hf : lq3 (c_X4_tellTest_L32b p K1) n x1 x2 h = some r0) : ∀ (H : Heap) (locs : List Loc) (ls : Array Slot), Wd D G A H0 ad lay X h s H locs → lv_has ls 5 [(0, .ref (ad p)), (1, .int x1), (2, .int x2)] → W p0 l e (rmN 2 49) s m args below meth c H locs 0 0 Q (F0 m 32 ls []) := by
  exact lq3_i (fun (x1 : Int32) (x2 : Int32) (h : PH) => ∀ (H : Heap) (locs : List Loc) (ls : Array Slot), Wd D G A H0 ad lay X h s H locs → lv_has ls 5 [(0, .ref (ad p)), (1, .int x1), (2, .int x2)] → W p0 l e (rmN 2 49) s m args below meth c H locs 0 0 Q (F0 m 32 ls [])) (fun REC x1 x2 h ih hf H locs ls hw hl => w_X4_tellTest_L32b hM ho hk1 (fun x1 x2 h H locs ls hf hw hl => ih x1 x2 h hf H locs ls hw hl) hw hl hf) n x1 x2 h hf
def c_X4_tellTest (p : Nat) (h : PH) : Option (PH) :=
  nm (h.2.2 p 1) fun t1 =>
  gd (tOK t1) <|
  (c_X4_open p 68 (h.1 t1 3) 6 h).bind fun h2 =>
  nm (h2.2.2 p 1) fun t3 =>
  gd (tOK t3) <|
  (c_X4_newName p 68 (h2.1 t3 3) h2).bind fun h4 =>
  nm (0 : Int32) fun v5 =>
  nm (0 : Int32) fun v6 =>
  lq3 (c_X4_tellTest_L32b p
    (fun w18 h19 =>
      if (h19.1 p 3) = 0 then
        nm (h19.2.2 p 1) fun t20 =>
        gd (tOK t20) <|
        (c_X9_addTest t20 w18 h19).bind fun h21 =>
        some h21
      else
        some h19)) fu v5 v6 h4
set_option maxHeartbeats 4000000 in
set_option maxRecDepth 100000 in
theorem ct_X4_tellTest (l : Launch) {lay : List KK} {p : Nat} (ho : okX4 lay p) : CtV l yX4_tellTest cX4_tellTest 5 (none) 2 49 lay (fun h => c_X4_tellTest p h) (fun ad => [.ref (ad p)]) := by
  refine CtV.mk' RX4 (by decide) rfl (fun _ => Nat.le_of_ble_eq_true rfl) ?_
  intro p0 e s m args below meth c D G A H0 ad X h r0 H ls Q hM hw hl hf hR
  have hl : lv_has ls 5 [(0, .ref (ad p))] := hl
  unfold c_X4_tellTest at hf
  refine lv_aload_n hM.1 hM.2.1 dX4_tellTest_0 rfl (lv_at hl 0 rfl) ?_
  refine lv_bipush (v := 68) hM.1 hM.2.1 dX4_tellTest_1 (by decide) ?_
  refine lv_aload_n hM.1 hM.2.1 dX4_tellTest_3 rfl (lv_at hl 0 rfl) ?_
  refine gf_X4_text hM hw (okX4.o ho) fl_X4_21 dX4_tellTest_4 ?_
  refine x_nmr hf (fun t1 hf => ?_)
  obtain ⟨hok_t1, hf⟩ := x_cond hf
  refine gf_X9_tests hM hw (okX9.o (okX4.textOf ho hok_t1)) fl_X4_144 dX4_tellTest_7 ?_
  refine lv_bipush (v := 6) hM.1 hM.2.1 dX4_tellTest_10 (by decide) ?_
  refine x_callVV (rest := []) hM hw (ct_X4_open l ho 68 (h.1 t1 3) 6) [.int 68, .int (h.1 t1 3), .int 6] (okX4.o ho) rfl rfl rfl (gi_V ml_X4_101 im_X4_open sl_X4_open in_X4 kc_X4_open) hd_X4_open rfl ⟨Nat.le_of_ble_eq_true rfl, Nat.le_of_ble_eq_true rfl⟩ rfl (Nat.le_of_ble_eq_true rfl) hl.1 hcs0 hf dX4_tellTest_12 (fun h2 H locs hf hw => ?_)
  refine lv_aload_n hM.1 hM.2.1 dX4_tellTest_15 rfl (lv_at hl 0 rfl) ?_
  refine lv_bipush (v := 68) hM.1 hM.2.1 dX4_tellTest_16 (by decide) ?_
  refine lv_aload_n hM.1 hM.2.1 dX4_tellTest_18 rfl (lv_at hl 0 rfl) ?_
  refine gf_X4_text hM hw (okX4.o ho) fl_X4_21 dX4_tellTest_19 ?_
  refine x_nmr hf (fun t3 hf => ?_)
  obtain ⟨hok_t3, hf⟩ := x_cond hf
  refine gf_X9_tests hM hw (okX9.o (okX4.textOf ho hok_t3)) fl_X4_144 dX4_tellTest_22 ?_
  refine x_callVV (rest := []) hM hw (ct_X4_newName l ho 68 (h2.1 t3 3)) [.int 68, .int (h2.1 t3 3)] (okX4.o ho) rfl rfl rfl (gi_V ml_X4_105 im_X4_newName sl_X4_newName in_X4 kc_X4_newName) hd_X4_newName rfl ⟨Nat.le_of_ble_eq_true rfl, Nat.le_of_ble_eq_true rfl⟩ rfl (Nat.le_of_ble_eq_true rfl) hl.1 hcs0 hf dX4_tellTest_25 (fun h4 H locs hf hw => ?_)
  refine lv_iconst (v := 0) hM.1 hM.2.1 dX4_tellTest_28 ic_0 ?_
  refine x_istore_n hM hf dX4_tellTest_29 rfl hl (by decide) (fun v5 => [(1, .int v5), (0, .ref (ad p))]) (fun _ => rfl) (fun v5 ls hf hl => ?_)
  refine lv_iconst (v := 0) hM.1 hM.2.1 dX4_tellTest_30 ic_0 ?_
  refine x_istore_n hM hf dX4_tellTest_31 rfl hl (by decide) (fun v6 => [(2, .int v6), (1, .int v5), (0, .ref (ad p))]) (fun _ => rfl) (fun v6 ls hf hl => ?_)
  refine w_X4_tellTest_L32 hM ho (fun w18 h19 H locs ls hf hw hl => ?_) fu _ _ _ hf _ _ _ hw (lv_sub hl [2, 1, 0] rfl)
  refine lv_aload_n hM.1 hM.2.1 dX4_tellTest_104 rfl (lv_at hl 0 rfl) ?_
  refine gf_X4_broken hM hw (okX4.o ho) fl_X4_29 dX4_tellTest_105 ?_
  refine x_if_ne (tgt := 119) hM hf dX4_tellTest_108 (by decide) (fun hf => ?_) (fun hf => ?_)
  · exact hR _ _ _ _ _ (Option.some.inj hf) rfl hw dX4_tellTest_119
  refine lv_aload_n hM.1 hM.2.1 dX4_tellTest_111 rfl (lv_at hl 0 rfl) ?_
  refine gf_X4_text hM hw (okX4.o ho) fl_X4_21 dX4_tellTest_112 ?_
  refine x_nmr hf (fun t20 hf => ?_)
  obtain ⟨hok_t20, hf⟩ := x_cond hf
  refine lv_iload_n hM.1 hM.2.1 dX4_tellTest_115 rfl (lv_at hl 1 rfl) ?_
  refine x_callVV (rest := []) hM hw (ct_X9_addTest l (okX4.textOf ho hok_t20) w18) [.int w18] (okX9.o (okX4.textOf ho hok_t20)) rfl rfl rfl (gi_V ml_X4_147 im_X9_addTest sl_X9_addTest in_X9 kc_X9_addTest) hd_X9_addTest rfl ⟨Nat.le_of_ble_eq_true rfl, Nat.le_of_ble_eq_true rfl⟩ rfl (Nat.le_of_ble_eq_true rfl) hl.1 hcs0 hf dX4_tellTest_116 (fun h21 H locs hf hw => ?_)
  exact hR _ _ _ _ _ (Option.some.inj hf) rfl hw dX4_tellTest_119
theorem hd_X4_tellTest : yX4_tellTest.cls = RX4 ∧ yX4_tellTest.cls ≠ "java/lang/invoke/MethodHandle" ∧ yX4_tellTest.cls ≠ "java/lang/invoke/VarHandle" ∧ (parseMethodDescriptor yX4_tellTest.desc).map (fun d => d.parameters.length) = some 0 := ⟨rfl, by decide, by decide, by decide +kernel⟩
theorem dX4_unit_0 : decode cX4_unit 0 = .ok (.aload_n 0, 1) := by decide +kernel
theorem dX4_unit_1 : decode cX4_unit 1 = .ok (.invokevirtual 48, 3) := by decide +kernel
theorem dX4_unit_4 : decode cX4_unit 4 = .ok (.istore_n 3, 1) := by decide +kernel
theorem dX4_unit_5 : decode cX4_unit 5 = .ok (.iload_n 3, 1) := by decide +kernel
theorem dX4_unit_6 : decode cX4_unit 6 = .ok (.bipush 40, 2) := by decide +kernel
theorem dX4_unit_8 : decode cX4_unit 8 = .ok (.if_icmp .ne 17, 3) := by decide +kernel
theorem dX4_unit_11 : decode cX4_unit 11 = .ok (.iload_n 2, 1) := by decide +kernel
theorem dX4_unit_12 : decode cX4_unit 12 = .ok (.bipush 6, 2) := by decide +kernel
theorem dX4_unit_14 : decode cX4_unit 14 = .ok (.if_icmp .lt 11, 3) := by decide +kernel
theorem dX4_unit_17 : decode cX4_unit 17 = .ok (.aload_n 0, 1) := by decide +kernel
theorem dX4_unit_18 : decode cX4_unit 18 = .ok (.iconst 2, 1) := by decide +kernel
theorem dX4_unit_19 : decode cX4_unit 19 = .ok (.invokevirtual 91, 3) := by decide +kernel
theorem dX4_unit_22 : decode cX4_unit 22 = .ok (.goto 80, 3) := by decide +kernel
theorem dX4_unit_25 : decode cX4_unit 25 = .ok (.iload_n 3, 1) := by decide +kernel
theorem dX4_unit_26 : decode cX4_unit 26 = .ok (.bipush 40, 2) := by decide +kernel
theorem dX4_unit_28 : decode cX4_unit 28 = .ok (.if_icmp .ne 26, 3) := by decide +kernel
theorem dX4_unit_31 : decode cX4_unit 31 = .ok (.aload_n 0, 1) := by decide +kernel
theorem dX4_unit_32 : decode cX4_unit 32 = .ok (.bipush 40, 2) := by decide +kernel
theorem dX4_unit_34 : decode cX4_unit 34 = .ok (.invokevirtual 95, 3) := by decide +kernel
theorem dX4_unit_37 : decode cX4_unit 37 = .ok (.aload_n 0, 1) := by decide +kernel
theorem dX4_unit_38 : decode cX4_unit 38 = .ok (.aload_n 1, 1) := by decide +kernel
theorem dX4_unit_39 : decode cX4_unit 39 = .ok (.iload_n 2, 1) := by decide +kernel
theorem dX4_unit_40 : decode cX4_unit 40 = .ok (.iconst 1, 1) := by decide +kernel
theorem dX4_unit_41 : decode cX4_unit 41 = .ok (.iadd, 1) := by decide +kernel
theorem dX4_unit_42 : decode cX4_unit 42 = .ok (.invokevirtual 153, 3) := by decide +kernel
theorem dX4_unit_45 : decode cX4_unit 45 = .ok (.aload_n 0, 1) := by decide +kernel
theorem dX4_unit_46 : decode cX4_unit 46 = .ok (.bipush 41, 2) := by decide +kernel
theorem dX4_unit_48 : decode cX4_unit 48 = .ok (.invokevirtual 95, 3) := by decide +kernel
theorem dX4_unit_51 : decode cX4_unit 51 = .ok (.goto 51, 3) := by decide +kernel
theorem dX4_unit_54 : decode cX4_unit 54 = .ok (.iload_n 3, 1) := by decide +kernel
theorem dX4_unit_55 : decode cX4_unit 55 = .ok (.bipush 78, 2) := by decide +kernel
theorem dX4_unit_57 : decode cX4_unit 57 = .ok (.if_icmp .lt 23, 3) := by decide +kernel
theorem dX4_unit_60 : decode cX4_unit 60 = .ok (.aload_n 1, 1) := by decide +kernel
theorem dX4_unit_61 : decode cX4_unit 61 = .ok (.sipush 10000, 3) := by decide +kernel
theorem dX4_unit_64 : decode cX4_unit 64 = .ok (.iload_n 3, 1) := by decide +kernel
theorem dX4_unit_65 : decode cX4_unit 65 = .ok (.iadd, 1) := by decide +kernel
theorem dX4_unit_66 : decode cX4_unit 66 = .ok (.bipush 78, 2) := by decide +kernel
theorem dX4_unit_68 : decode cX4_unit 68 = .ok (.isub, 1) := by decide +kernel
theorem dX4_unit_69 : decode cX4_unit 69 = .ok (.invokevirtual 160, 3) := by decide +kernel
theorem dX4_unit_72 : decode cX4_unit 72 = .ok (.aload_n 0, 1) := by decide +kernel
theorem dX4_unit_73 : decode cX4_unit 73 = .ok (.iload_n 3, 1) := by decide +kernel
theorem dX4_unit_74 : decode cX4_unit 74 = .ok (.invokevirtual 95, 3) := by decide +kernel
theorem dX4_unit_77 : decode cX4_unit 77 = .ok (.goto 25, 3) := by decide +kernel
theorem dX4_unit_80 : decode cX4_unit 80 = .ok (.aload_n 1, 1) := by decide +kernel
theorem dX4_unit_81 : decode cX4_unit 81 = .ok (.aload_n 0, 1) := by decide +kernel
theorem dX4_unit_82 : decode cX4_unit 82 = .ok (.getfield 12, 3) := by decide +kernel
theorem dX4_unit_85 : decode cX4_unit 85 = .ok (.getfield 172, 3) := by decide +kernel
theorem dX4_unit_88 : decode cX4_unit 88 = .ok (.aload_n 0, 1) := by decide +kernel
theorem dX4_unit_89 : decode cX4_unit 89 = .ok (.getfield 25, 3) := by decide +kernel
theorem dX4_unit_92 : decode cX4_unit 92 = .ok (.laload, 1) := by decide +kernel
theorem dX4_unit_93 : decode cX4_unit 93 = .ok (.l2i, 1) := by decide +kernel
theorem dX4_unit_94 : decode cX4_unit 94 = .ok (.invokevirtual 160, 3) := by decide +kernel
theorem dX4_unit_97 : decode cX4_unit 97 = .ok (.aload_n 0, 1) := by decide +kernel
theorem dX4_unit_98 : decode cX4_unit 98 = .ok (.iconst 3, 1) := by decide +kernel
theorem dX4_unit_99 : decode cX4_unit 99 = .ok (.invokevirtual 95, 3) := by decide +kernel
theorem dX4_unit_102 : decode cX4_unit 102 = .ok (.return_, 1) := by decide +kernel
theorem hd_X4_sum : yX4_sum.cls = RX4 ∧ yX4_sum.cls ≠ "java/lang/invoke/MethodHandle" ∧ yX4_sum.cls ≠ "java/lang/invoke/VarHandle" ∧ (parseMethodDescriptor yX4_sum.desc).map (fun d => d.parameters.length) = some 2 := ⟨rfl, by decide, by decide, by decide +kernel⟩
def c_X4_unit_j25  (p : Nat) (q1 : Nat) (rc : Nat → Int32 → PH → Option PH) (x2 : Int32) (x3 : Int32) (h : PH) : Option (PH) :=
  if x3 = 40 then
    (c_X4_accept p 40 h).bind fun h7 =>
    (rc q1 (x2 + 1) h7).bind fun h8 =>
    (c_X4_accept p 41 h8).bind fun h9 =>
    some h9
  else
    if x3 < 78 then
      gd (ixOK (h.1 p 2) 401) <|
      (c_X2_add q1 ((h.2.1 (p + 1 + 3) (h.1 p 2).toNatClampNeg).toInt32) h).bind fun h3 =>
      (c_X4_accept p 3 h3).bind fun h4 =>
      some h4
    else
      (c_X2_add q1 ((10000 + x3) - 78) h).bind fun h5 =>
      (c_X4_accept p x3 h5).bind fun h6 =>
      some h6
set_option maxHeartbeats 4000000 in
set_option maxRecDepth 100000 in
theorem w_X4_unit_j25 {p0 : Program} {l : Launch} {e : Env} {s : State} {m : MethodId} {args : Array Value} {below : List Frame} {meth : Method} {c : Code} {Q : State → Prop} {D : va_G} {G : GG} {A : Nat → Prop} {H0 : Heap} {ad : Nat → Nat} {lay : List KK} {X : va_W} {p : Nat} {q1 : Nat} {r0 : PH} {x2 : Int32} {x3 : Int32} {h : PH} {H : Heap} {locs : List Loc} {ls : Array Slot} (hM : CallFix p0 m c cX4_unit 4 s args lw_g RX4) (ho : okX4 lay p) (ho1 : okX2 lay q1) {fr0 lo0 : Nat} {rc : Nat → Int32 → PH → Option PH} (hrc : ∀ (q1 : Nat) (a2 : Int32), okX2 lay q1 → CtV l yX4_sum cX4_sum 5 (none) fr0 lo0 lay (rc q1 a2) (fun ad => [.ref (ad p), .ref (ad q1), .int a2])) (hR : RtV p0 l e (rmN (fr0 + 1) (lo0 + 100)) s m args below meth c cX4_unit D G A H0 ad lay X (none) r0 Q 0 0) (hw : Wd D G A H0 ad lay X h s H locs) (hl : lv_has ls 4 [(0, .ref (ad p)), (1, .ref (ad q1)), (2, .int x2), (3, .int x3)]) (hf : c_X4_unit_j25 p q1 rc x2 x3 h = some r0) : W p0 l e (rmN (fr0 + 1) (lo0 + 100)) s m args below meth c H locs 0 0 Q (F0 m 25 ls []) := by
  unfold c_X4_unit_j25 at hf
  refine lv_iload_n hM.1 hM.2.1 dX4_unit_25 rfl (lv_at hl 3 rfl) ?_
  refine lv_bipush (v := 40) hM.1 hM.2.1 dX4_unit_26 (by decide) ?_
  refine x_ic_ne (tgt := 54) hM hf dX4_unit_28 (by decide) (fun hf => ?_) (fun hf => ?_)
  · refine lv_iload_n hM.1 hM.2.1 dX4_unit_54 rfl (lv_at hl 3 rfl) ?_
    refine lv_bipush (v := 78) hM.1 hM.2.1 dX4_unit_55 (by decide) ?_
    refine x_ic_lt (tgt := 80) hM hf dX4_unit_57 (by decide) (fun hf => ?_) (fun hf => ?_)
    · refine lv_aload_n hM.1 hM.2.1 dX4_unit_80 rfl (lv_at hl 1 rfl) ?_
      refine lv_aload_n hM.1 hM.2.1 dX4_unit_81 rfl (lv_at hl 0 rfl) ?_
      refine gf_X4_tokens hM hw (okX4.o ho) fl_X4_12 dX4_unit_82 ?_
      refine gf_X10_values hM hw (okX10.o (okX4.tokens ho)) fl_X4_172 dX4_unit_85 ?_
      refine lv_aload_n hM.1 hM.2.1 dX4_unit_88 rfl (lv_at hl 0 rfl) ?_
      refine gf_X4_at hM hw (okX4.o ho) fl_X4_25 dX4_unit_89 ?_
      refine x_lald hM hw (okX10.values (okX4.tokens ho)) hf dX4_unit_92 (fun hf => ?_)
      refine lv_l2i hM.1 hM.2.1 dX4_unit_93 rfl ?_
      refine x_callVV (rest := []) hM hw (ct_X2_add l ho1 ((h.2.1 (p + 1 + 3) (h.1 p 2).toNatClampNeg).toInt32)) [.int ((h.2.1 (p + 1 + 3) (h.1 p 2).toNatClampNeg).toInt32)] (okX2.o ho1) rfl rfl rfl (gi_V ml_X4_160 im_X2_add sl_X2_add in_X2 kc_X2_add) hd_X2_add rfl (rec_room (by omega) (by omega)) rfl (Nat.le_of_ble_eq_true rfl) hl.1 hcs0 hf dX4_unit_94 (fun h3 H locs hf hw => ?_)
      refine lv_aload_n hM.1 hM.2.1 dX4_unit_97 rfl (lv_at hl 0 rfl) ?_
      refine lv_iconst (v := 3) hM.1 hM.2.1 dX4_unit_98 ic_3 ?_
      refine x_callVV (rest := []) hM hw (ct_X4_accept l ho 3) [.int 3] (okX4.o ho) rfl rfl rfl (gi_V ml_X4_95 im_X4_accept sl_X4_accept in_X4 kc_X4_accept) hd_X4_accept rfl (rec_room (by omega) (by omega)) rfl (Nat.le_of_ble_eq_true rfl) hl.1 hcs0 hf dX4_unit_99 (fun h4 H locs hf hw => ?_)
      exact hR _ _ _ _ _ (Option.some.inj hf) rfl hw dX4_unit_102
    refine lv_aload_n hM.1 hM.2.1 dX4_unit_60 rfl (lv_at hl 1 rfl) ?_
    refine lv_sipush (v := 10000) hM.1 hM.2.1 dX4_unit_61 (by decide) ?_
    refine lv_iload_n hM.1 hM.2.1 dX4_unit_64 rfl (lv_at hl 3 rfl) ?_
    refine lv_iadd hM.1 hM.2.1 dX4_unit_65 ?_
    refine lv_bipush (v := 78) hM.1 hM.2.1 dX4_unit_66 (by decide) ?_
    refine lv_isub hM.1 hM.2.1 dX4_unit_68 ?_
    refine x_callVV (rest := []) hM hw (ct_X2_add l ho1 ((10000 + x3) - 78)) [.int ((10000 + x3) - 78)] (okX2.o ho1) rfl rfl rfl (gi_V ml_X4_160 im_X2_add sl_X2_add in_X2 kc_X2_add) hd_X2_add rfl (rec_room (by omega) (by omega)) rfl (Nat.le_of_ble_eq_true rfl) hl.1 hcs0 hf dX4_unit_69 (fun h5 H locs hf hw => ?_)
    refine lv_aload_n hM.1 hM.2.1 dX4_unit_72 rfl (lv_at hl 0 rfl) ?_
    refine lv_iload_n hM.1 hM.2.1 dX4_unit_73 rfl (lv_at hl 3 rfl) ?_
    refine x_callVV (rest := []) hM hw (ct_X4_accept l ho x3) [.int x3] (okX4.o ho) rfl rfl rfl (gi_V ml_X4_95 im_X4_accept sl_X4_accept in_X4 kc_X4_accept) hd_X4_accept rfl (rec_room (by omega) (by omega)) rfl (Nat.le_of_ble_eq_true rfl) hl.1 hcs0 hf dX4_unit_74 (fun h6 H locs hf hw => ?_)
    refine lv_goto (tgt := 102) hM.1 hM.2.1 dX4_unit_77 (by decide) ?_
    exact hR _ _ _ _ _ (Option.some.inj hf) rfl hw dX4_unit_102
  refine lv_aload_n hM.1 hM.2.1 dX4_unit_31 rfl (lv_at hl 0 rfl) ?_
  refine lv_bipush (v := 40) hM.1 hM.2.1 dX4_unit_32 (by decide) ?_
  refine x_callVV (rest := []) hM hw (ct_X4_accept l ho 40) [.int 40] (okX4.o ho) rfl rfl rfl (gi_V ml_X4_95 im_X4_accept sl_X4_accept in_X4 kc_X4_accept) hd_X4_accept rfl (rec_room (by omega) (by omega)) rfl (Nat.le_of_ble_eq_true rfl) hl.1 hcs0 hf dX4_unit_34 (fun h7 H locs hf hw => ?_)
  refine lv_aload_n hM.1 hM.2.1 dX4_unit_37 rfl (lv_at hl 0 rfl) ?_
  refine lv_aload_n hM.1 hM.2.1 dX4_unit_38 rfl (lv_at hl 1 rfl) ?_
  refine lv_iload_n hM.1 hM.2.1 dX4_unit_39 rfl (lv_at hl 2 rfl) ?_
  refine lv_iconst (v := 1) hM.1 hM.2.1 dX4_unit_40 ic_1 ?_
  refine lv_iadd hM.1 hM.2.1 dX4_unit_41 ?_
  refine x_callVV (rest := []) hM hw (hrc _ _ ho1) [.ref (ad q1), .int (x2 + 1)] (okX4.o ho) rfl rfl rfl (gi_V ml_X4_153 im_X4_sum sl_X4_sum in_X4 kc_X4_sum) hd_X4_sum rfl (rec_room (by omega) (by omega)) rfl (Nat.le_of_ble_eq_true rfl) hl.1 hcs0 hf dX4_unit_42 (fun h8 H locs hf hw => ?_)
  refine lv_aload_n hM.1 hM.2.1 dX4_unit_45 rfl (lv_at hl 0 rfl) ?_
  refine lv_bipush (v := 41) hM.1 hM.2.1 dX4_unit_46 (by decide) ?_
  refine x_callVV (rest := []) hM hw (ct_X4_accept l ho 41) [.int 41] (okX4.o ho) rfl rfl rfl (gi_V ml_X4_95 im_X4_accept sl_X4_accept in_X4 kc_X4_accept) hd_X4_accept rfl (rec_room (by omega) (by omega)) rfl (Nat.le_of_ble_eq_true rfl) hl.1 hcs0 hf dX4_unit_48 (fun h9 H locs hf hw => ?_)
  refine lv_goto (tgt := 102) hM.1 hM.2.1 dX4_unit_51 (by decide) ?_
  exact hR _ _ _ _ _ (Option.some.inj hf) rfl hw dX4_unit_102
def c_X4_unit (p : Nat) (q1 : Nat) (rc : Nat → Int32 → PH → Option PH) (a2 : Int32) (h : PH) : Option (PH) :=
  (c_X4_kind p h).bind fun r1 =>
  nm r1 fun v2 =>
  if v2 = 40 then
    if a2 < 6 then
      c_X4_unit_j25 p q1 rc a2 v2 h
    else
      (c_X4_breakOff p 2 h).bind fun h10 =>
      some h10
  else
    c_X4_unit_j25 p q1 rc a2 v2 h
set_option maxHeartbeats 4000000 in
set_option maxRecDepth 100000 in
theorem ct_X4_unit (l : Launch) {lay : List KK} {p : Nat} {q1 : Nat} (ho : okX4 lay p) (ho1 : okX2 lay q1) {fr0 lo0 : Nat} {rc : Nat → Int32 → PH → Option PH} (hrc : ∀ (q1 : Nat) (a2 : Int32), okX2 lay q1 → CtV l yX4_sum cX4_sum 5 (none) fr0 lo0 lay (rc q1 a2) (fun ad => [.ref (ad p), .ref (ad q1), .int a2])) (a2 : Int32) : CtV l yX4_unit cX4_unit 4 (none) (fr0 + 1) (lo0 + 100) lay (fun h => c_X4_unit p q1 rc a2 h) (fun ad => [.ref (ad p), .ref (ad q1), .int a2]) := by
  refine CtV.mk' RX4 (by decide) rfl (fun _ => Nat.le_of_ble_eq_true rfl) ?_
  intro p0 e s m args below meth c D G A H0 ad X h r0 H ls Q hM hw hl hf hR
  have hl : lv_has ls 4 [(0, .ref (ad p)), (1, .ref (ad q1)), (2, .int a2)] := hl
  unfold c_X4_unit at hf
  refine lv_aload_n hM.1 hM.2.1 dX4_unit_0 rfl (lv_at hl 0 rfl) ?_
  refine x_callVIr (rest := []) hM hw (ct_X4_kind l ho) [] (okX4.o ho) rfl rfl rfl (gi_V ml_X4_48 im_X4_kind sl_X4_kind in_X4 kc_X4_kind) hd_X4_kind rfl (rec_room (by omega) (by omega)) rfl (Nat.le_of_ble_eq_true rfl) hl.1 hcs0 hf dX4_unit_1 (fun r1 H locs hf hw => ?_)
  refine x_istore_n hM hf dX4_unit_4 rfl hl (by decide) (fun v2 => [(3, .int v2), (0, .ref (ad p)), (1, .ref (ad q1)), (2, .int a2)]) (fun _ => rfl) (fun v2 ls hf hl => ?_)
  refine lv_iload_n hM.1 hM.2.1 dX4_unit_5 rfl (lv_at hl 0 rfl) ?_
  refine lv_bipush (v := 40) hM.1 hM.2.1 dX4_unit_6 (by decide) ?_
  refine x_ic_ne (tgt := 25) hM hf dX4_unit_8 (by decide) (fun hf => ?_) (fun hf => ?_)
  · exact w_X4_unit_j25 hM ho ho1 hrc hR hw (lv_sub hl [1, 2, 3, 0] rfl) hf
  refine lv_iload_n hM.1 hM.2.1 dX4_unit_11 rfl (lv_at hl 3 rfl) ?_
  refine lv_bipush (v := 6) hM.1 hM.2.1 dX4_unit_12 (by decide) ?_
  refine x_ic_lt (tgt := 25) hM hf dX4_unit_14 (by decide) (fun hf => ?_) (fun hf => ?_)
  · exact w_X4_unit_j25 hM ho ho1 hrc hR hw (lv_sub hl [1, 2, 3, 0] rfl) hf
  refine lv_aload_n hM.1 hM.2.1 dX4_unit_17 rfl (lv_at hl 1 rfl) ?_
  refine lv_iconst (v := 2) hM.1 hM.2.1 dX4_unit_18 ic_2 ?_
  refine x_callVV (rest := []) hM hw (ct_X4_breakOff l ho 2) [.int 2] (okX4.o ho) rfl rfl rfl (gi_V ml_X4_91 im_X4_breakOff sl_X4_breakOff in_X4 kc_X4_breakOff) hd_X4_breakOff rfl (rec_room (by omega) (by omega)) rfl (Nat.le_of_ble_eq_true rfl) hl.1 hcs0 hf dX4_unit_19 (fun h10 H locs hf hw => ?_)
  refine lv_goto (tgt := 102) hM.1 hM.2.1 dX4_unit_22 (by decide) ?_
  exact hR _ _ _ _ _ (Option.some.inj hf) rfl hw dX4_unit_102
theorem hd_X4_unit : yX4_unit.cls = RX4 ∧ yX4_unit.cls ≠ "java/lang/invoke/MethodHandle" ∧ yX4_unit.cls ≠ "java/lang/invoke/VarHandle" ∧ (parseMethodDescriptor yX4_unit.desc).map (fun d => d.parameters.length) = some 2 := ⟨rfl, by decide, by decide, by decide +kernel⟩
theorem dX4_product_0 : decode cX4_product 0 = .ok (.aload_n 0, 1) := by decide +kernel
theorem dX4_product_1 : decode cX4_product 1 = .ok (.aload_n 1, 1) := by decide +kernel
theorem dX4_product_2 : decode cX4_product 2 = .ok (.iload_n 2, 1) := by decide +kernel
theorem dX4_product_3 : decode cX4_product 3 = .ok (.invokevirtual 169, 3) := by decide +kernel
theorem dX4_product_6 : decode cX4_product 6 = .ok (.iconst 0, 1) := by decide +kernel
theorem dX4_product_7 : decode cX4_product 7 = .ok (.istore_n 3, 1) := by decide +kernel
theorem dX4_product_8 : decode cX4_product 8 = .ok (.iload_n 3, 1) := by decide +kernel
theorem dX4_product_9 : decode cX4_product 9 = .ok (.sipush 400, 3) := by decide +kernel
theorem dX4_product_12 : decode cX4_product 12 = .ok (.if_icmp .gt 52, 3) := by decide +kernel
theorem dX4_product_15 : decode cX4_product 15 = .ok (.aload_n 0, 1) := by decide +kernel
theorem dX4_product_16 : decode cX4_product 16 = .ok (.invokevirtual 48, 3) := by decide +kernel
theorem dX4_product_19 : decode cX4_product 19 = .ok (.bipush 42, 2) := by decide +kernel
theorem dX4_product_21 : decode cX4_product 21 = .ok (.if_icmp .eq 12, 3) := by decide +kernel
theorem dX4_product_24 : decode cX4_product 24 = .ok (.aload_n 0, 1) := by decide +kernel
theorem dX4_product_25 : decode cX4_product 25 = .ok (.invokevirtual 48, 3) := by decide +kernel
theorem dX4_product_28 : decode cX4_product 28 = .ok (.bipush 47, 2) := by decide +kernel
theorem dX4_product_30 : decode cX4_product 30 = .ok (.if_icmp .ne 34, 3) := by decide +kernel
theorem dX4_product_33 : decode cX4_product 33 = .ok (.aload_n 0, 1) := by decide +kernel
theorem dX4_product_34 : decode cX4_product 34 = .ok (.invokevirtual 48, 3) := by decide +kernel
theorem dX4_product_37 : decode cX4_product 37 = .ok (.istore 4, 2) := by decide +kernel
theorem dX4_product_39 : decode cX4_product 39 = .ok (.aload_n 0, 1) := by decide +kernel
theorem dX4_product_40 : decode cX4_product 40 = .ok (.iload 4, 2) := by decide +kernel
theorem dX4_product_42 : decode cX4_product 42 = .ok (.invokevirtual 95, 3) := by decide +kernel
theorem dX4_product_45 : decode cX4_product 45 = .ok (.aload_n 0, 1) := by decide +kernel
theorem dX4_product_46 : decode cX4_product 46 = .ok (.aload_n 1, 1) := by decide +kernel
theorem dX4_product_47 : decode cX4_product 47 = .ok (.iload_n 2, 1) := by decide +kernel
theorem dX4_product_48 : decode cX4_product 48 = .ok (.invokevirtual 169, 3) := by decide +kernel
theorem dX4_product_51 : decode cX4_product 51 = .ok (.aload_n 1, 1) := by decide +kernel
theorem dX4_product_52 : decode cX4_product 52 = .ok (.iload 4, 2) := by decide +kernel
theorem dX4_product_54 : decode cX4_product 54 = .ok (.ineg, 1) := by decide +kernel
theorem dX4_product_55 : decode cX4_product 55 = .ok (.invokevirtual 160, 3) := by decide +kernel
theorem dX4_product_58 : decode cX4_product 58 = .ok (.iinc 3 1, 3) := by decide +kernel
theorem dX4_product_61 : decode cX4_product 61 = .ok (.goto (-53), 3) := by decide +kernel
theorem dX4_product_64 : decode cX4_product 64 = .ok (.return_, 1) := by decide +kernel
def c_X4_product_j33 {ρ : Type}  (p : Nat) (q1 : Nat) (rc : Nat → Int32 → PH → Option PH) (z2 : Int32) (K1 : PH → Option ρ) (REC : Int32 → PH → Option ρ) (x3 : Int32) (h : PH) : Option (ρ) :=
  (c_X4_kind p h).bind fun r4 =>
  nm r4 fun v5 =>
  (c_X4_accept p v5 h).bind fun h6 =>
  (c_X4_unit p q1 rc z2 h6).bind fun h7 =>
  (c_X2_add q1 (-v5) h7).bind fun h8 =>
  nm (x3 + 1) fun v9 =>
  REC v9 h8
set_option maxHeartbeats 4000000 in
set_option maxRecDepth 100000 in
theorem w_X4_product_j33 {p0 : Program} {l : Launch} {e : Env} {s : State} {m : MethodId} {args : Array Value} {below : List Frame} {meth : Method} {c : Code} {Q : State → Prop} {D : va_G} {G : GG} {A : Nat → Prop} {H0 : Heap} {ad : Nat → Nat} {lay : List KK} {X : va_W} {ρ : Type} {p : Nat} {q1 : Nat} {r0 : ρ} {x3 : Int32} {z2 : Int32} {h : PH} {H : Heap} {locs : List Loc} {ls : Array Slot} {K1 : PH → Option ρ} {REC : Int32 → PH → Option ρ} (hM : CallFix p0 m c cX4_product 5 s args lw_g RX4) (ho : okX4 lay p) (ho1 : okX2 lay q1) {fr0 lo0 : Nat} {rc : Nat → Int32 → PH → Option PH} (hrc : ∀ (q1 : Nat) (a2 : Int32), okX2 lay q1 → CtV l yX4_sum cX4_sum 5 (none) fr0 lo0 lay (rc q1 a2) (fun ad => [.ref (ad p), .ref (ad q1), .int a2])) (hk1 : ∀ (h : PH), ∀ (H : Heap) (locs : List Loc) (ls : Array Slot), K1 h = some r0 → Wd D G A H0 ad lay X h s H locs → lv_has ls 5 [] → W p0 l e (rmN (fr0 + 2) (lo0 + 200)) s m args below meth c H locs 0 0 Q (F0 m 64 ls [])) (hrec : ∀ (x3 : Int32) (h : PH), ∀ (H : Heap) (locs : List Loc) (ls : Array Slot), REC x3 h = some r0 → Wd D G A H0 ad lay X h s H locs → lv_has ls 5 [(0, .ref (ad p)), (1, .ref (ad q1)), (2, .int z2), (3, .int x3)] → W p0 l e (rmN (fr0 + 2) (lo0 + 200)) s m args below meth c H locs 0 0 Q (F0 m 8 ls [])) (hw : Wd D G A H0 ad lay X h s H locs) (hl : lv_has ls 5 [(0, .ref (ad p)), (1, .ref (ad q1)), (2, .int z2), (3, .int x3)]) (hf : c_X4_product_j33 p q1 rc z2 K1 REC x3 h = some r0) : W p0 l e (rmN (fr0 + 2) (lo0 + 200)) s m args below meth c H locs 0 0 Q (F0 m 33 ls []) := by
  unfold c_X4_product_j33 at hf
  refine lv_aload_n hM.1 hM.2.1 dX4_product_33 rfl (lv_at hl 0 rfl) ?_
  refine x_callVIr (rest := []) hM hw (ct_X4_kind l ho) [] (okX4.o ho) rfl rfl rfl (gi_V ml_X4_48 im_X4_kind sl_X4_kind in_X4 kc_X4_kind) hd_X4_kind rfl (rec_room (by omega) (by omega)) rfl (Nat.le_of_ble_eq_true rfl) hl.1 hcs0 hf dX4_product_34 (fun r4 H locs hf hw => ?_)
  refine x_istore hM hf dX4_product_37 hl (by decide) (fun v5 => [(4, .int v5), (0, .ref (ad p)), (1, .ref (ad q1)), (2, .int z2), (3, .int x3)]) (fun _ => rfl) (fun v5 ls hf hl => ?_)
  refine lv_aload_n hM.1 hM.2.1 dX4_product_39 rfl (lv_at hl 1 rfl) ?_
  refine lv_iload hM.1 hM.2.1 dX4_product_40 (lv_at hl 0 rfl) ?_
  refine x_callVV (rest := []) hM hw (ct_X4_accept l ho v5) [.int v5] (okX4.o ho) rfl rfl rfl (gi_V ml_X4_95 im_X4_accept sl_X4_accept in_X4 kc_X4_accept) hd_X4_accept rfl (rec_room (by omega) (by omega)) rfl (Nat.le_of_ble_eq_true rfl) hl.1 hcs0 hf dX4_product_42 (fun h6 H locs hf hw => ?_)
  refine lv_aload_n hM.1 hM.2.1 dX4_product_45 rfl (lv_at hl 1 rfl) ?_
  refine lv_aload_n hM.1 hM.2.1 dX4_product_46 rfl (lv_at hl 2 rfl) ?_
  refine lv_iload_n hM.1 hM.2.1 dX4_product_47 rfl (lv_at hl 3 rfl) ?_
  refine x_callVV (rest := []) hM hw (ct_X4_unit l ho ho1 hrc z2) [.ref (ad q1), .int z2] (okX4.o ho) rfl rfl rfl (gi_V ml_X4_169 im_X4_unit sl_X4_unit in_X4 kc_X4_unit) hd_X4_unit rfl (rec_room (by omega) (by omega)) rfl (Nat.le_of_ble_eq_true rfl) hl.1 hcs0 hf dX4_product_48 (fun h7 H locs hf hw => ?_)
  refine lv_aload_n hM.1 hM.2.1 dX4_product_51 rfl (lv_at hl 2 rfl) ?_
  refine lv_iload hM.1 hM.2.1 dX4_product_52 (lv_at hl 0 rfl) ?_
  refine lv_ineg hM.1 hM.2.1 dX4_product_54 ?_
  refine x_callVV (rest := []) hM hw (ct_X2_add l ho1 (-v5)) [.int (-v5)] (okX2.o ho1) rfl rfl rfl (gi_V ml_X4_160 im_X2_add sl_X2_add in_X2 kc_X2_add) hd_X2_add rfl (rec_room (by omega) (by omega)) rfl (Nat.le_of_ble_eq_true rfl) hl.1 hcs0 hf dX4_product_55 (fun h8 H locs hf hw => ?_)
  refine x_iinc (k := 4) (d := 1) hM hf dX4_product_58 hl rfl (by decide) (by decide) (fun v9 => [(3, .int v9), (4, .int v5), (0, .ref (ad p)), (1, .ref (ad q1)), (2, .int z2)]) (fun _ => rfl) (fun v9 ls hf hl => ?_)
  refine lv_goto (tgt := 8) hM.1 hM.2.1 dX4_product_61 (by decide) ?_
  exact hrec _ _ _ _ _ hf hw (lv_sub hl [2, 3, 4, 0] rfl)
def c_X4_product_L8b {ρ : Type}  (p : Nat) (q1 : Nat) (rc : Nat → Int32 → PH → Option PH) (z2 : Int32) (K1 : PH → Option ρ) (REC : Int32 → PH → Option ρ) (x3 : Int32) (h : PH) : Option ρ :=
  if 400 < x3 then
    K1 h
  else
    (c_X4_kind p h).bind fun r3 =>
    if r3 = 42 then
      c_X4_product_j33 p q1 rc z2 K1 REC x3 h
    else
      (c_X4_kind p h).bind fun r10 =>
      if r10 = 47 then
        c_X4_product_j33 p q1 rc z2 K1 REC x3 h
      else
        K1 h
set_option maxHeartbeats 4000000 in
set_option maxRecDepth 100000 in
theorem w_X4_product_L8b {p0 : Program} {l : Launch} {e : Env} {s : State} {m : MethodId} {args : Array Value} {below : List Frame} {meth : Method} {c : Code} {Q : State → Prop} {D : va_G} {G : GG} {A : Nat → Prop} {H0 : Heap} {ad : Nat → Nat} {lay : List KK} {X : va_W} {ρ : Type} {p : Nat} {q1 : Nat} {r0 : ρ} {z2 : Int32} {x3 : Int32} {h : PH} {H : Heap} {locs : List Loc} {ls : Array Slot} {K1 : PH → Option ρ} {REC : Int32 → PH → Option ρ} (hM : CallFix p0 m c cX4_product 5 s args lw_g RX4) (ho : okX4 lay p) (ho1 : okX2 lay q1) {fr0 lo0 : Nat} {rc : Nat → Int32 → PH → Option PH} (hrc : ∀ (q1 : Nat) (a2 : Int32), okX2 lay q1 → CtV l yX4_sum cX4_sum 5 (none) fr0 lo0 lay (rc q1 a2) (fun ad => [.ref (ad p), .ref (ad q1), .int a2])) (hk1 : ∀ (h : PH), ∀ (H : Heap) (locs : List Loc) (ls : Array Slot), K1 h = some r0 → Wd D G A H0 ad lay X h s H locs → lv_has ls 5 [] → W p0 l e (rmN (fr0 + 2) (lo0 + 200)) s m args below meth c H locs 0 0 Q (F0 m 64 ls [])) (hrec : ∀ (x3 : Int32) (h : PH), ∀ (H : Heap) (locs : List Loc) (ls : Array Slot), REC x3 h = some r0 → Wd D G A H0 ad lay X h s H locs → lv_has ls 5 [(0, .ref (ad p)), (1, .ref (ad q1)), (2, .int z2), (3, .int x3)] → W p0 l e (rmN (fr0 + 2) (lo0 + 200)) s m args below meth c H locs 0 0 Q (F0 m 8 ls [])) (hw : Wd D G A H0 ad lay X h s H locs) (hl : lv_has ls 5 [(0, .ref (ad p)), (1, .ref (ad q1)), (2, .int z2), (3, .int x3)]) (hf : c_X4_product_L8b p q1 rc z2 K1 REC x3 h = some r0) : W p0 l e (rmN (fr0 + 2) (lo0 + 200)) s m args below meth c H locs 0 0 Q (F0 m 8 ls []) := by
  unfold c_X4_product_L8b at hf
  refine lv_iload_n hM.1 hM.2.1 dX4_product_8 rfl (lv_at hl 3 rfl) ?_
  refine lv_sipush (v := 400) hM.1 hM.2.1 dX4_product_9 (by decide) ?_
  refine x_ic_gt (tgt := 64) hM hf dX4_product_12 (by decide) (fun hf => ?_) (fun hf => ?_)
  · exact hk1 _ _ _ _ hf hw (lv_sub hl [] rfl)
  refine lv_aload_n hM.1 hM.2.1 dX4_product_15 rfl (lv_at hl 0 rfl) ?_
  refine x_callVIr (rest := []) hM hw (ct_X4_kind l ho) [] (okX4.o ho) rfl rfl rfl (gi_V ml_X4_48 im_X4_kind sl_X4_kind in_X4 kc_X4_kind) hd_X4_kind rfl (rec_room (by omega) (by omega)) rfl (Nat.le_of_ble_eq_true rfl) hl.1 hcs0 hf dX4_product_16 (fun r3 H locs hf hw => ?_)
  refine lv_bipush (v := 42) hM.1 hM.2.1 dX4_product_19 (by decide) ?_
  refine x_ic_eq (tgt := 33) hM hf dX4_product_21 (by decide) (fun hf => ?_) (fun hf => ?_)
  · exact w_X4_product_j33 hM ho ho1 hrc hk1 hrec hw hl hf
  refine lv_aload_n hM.1 hM.2.1 dX4_product_24 rfl (lv_at hl 0 rfl) ?_
  refine x_callVIr (rest := []) hM hw (ct_X4_kind l ho) [] (okX4.o ho) rfl rfl rfl (gi_V ml_X4_48 im_X4_kind sl_X4_kind in_X4 kc_X4_kind) hd_X4_kind rfl (rec_room (by omega) (by omega)) rfl (Nat.le_of_ble_eq_true rfl) hl.1 hcs0 hf dX4_product_25 (fun r10 H locs hf hw => ?_)
  refine lv_bipush (v := 47) hM.1 hM.2.1 dX4_product_28 (by decide) ?_
  refine x_ic_ne (tgt := 64) hM hf dX4_product_30 (by decide) (fun hf => ?_) (fun hf => ?_)
  · exact hk1 _ _ _ _ hf hw (lv_sub hl [] rfl)
  exact w_X4_product_j33 hM ho ho1 hrc hk1 hrec hw hl hf
set_option maxHeartbeats 4000000 in
set_option maxRecDepth 100000 in
theorem w_X4_product_L8 {p0 : Program} {l : Launch} {e : Env} {s : State} {m : MethodId} {args : Array Value} {below : List Frame} {meth : Method} {c : Code} {Q : State → Prop} {D : va_G} {G : GG} {A : Nat → Prop} {H0 : Heap} {ad : Nat → Nat} {lay : List KK} {X : va_W} {ρ : Type} {p : Nat} {q1 : Nat} {r0 : ρ} {z2 : Int32} {K1 : PH → Option ρ} (hM : CallFix p0 m c cX4_product 5 s args lw_g RX4) (ho : okX4 lay p) (ho1 : okX2 lay q1) {fr0 lo0 : Nat} {rc : Nat → Int32 → PH → Option PH} (hrc : ∀ (q1 : Nat) (a2 : Int32), okX2 lay q1 → CtV l yX4_sum cX4_sum 5 (none) fr0 lo0 lay (rc q1 a2) (fun ad => [.ref (ad p), .ref (ad q1), .int a2])) (hk1 : ∀ (h : PH), ∀ (H : Heap) (locs : List Loc) (ls : Array Slot), K1 h = some r0 → Wd D G A H0 ad lay X h s H locs → lv_has ls 5 [] → W p0 l e (rmN (fr0 + 2) (lo0 + 200)) s m args below meth c H locs 0 0 Q (F0 m 64 ls [])) (n : Nat) (x3 : Int32) (h : PH) (hf : lq2 (c_X4_product_L8b p q1 rc z2 K1) n x3 h = some r0) : ∀ (H : Heap) (locs : List Loc) (ls : Array Slot), Wd D G A H0 ad lay X h s H locs → lv_has ls 5 [(0, .ref (ad p)), (1, .ref (ad q1)), (2, .int z2), (3, .int x3)] → W p0 l e (rmN (fr0 + 2) (lo0 + 200)) s m args below meth c H locs 0 0 Q (F0 m 8 ls []) := by
  exact lq2_i (fun (x3 : Int32) (h : PH) => ∀ (H : Heap) (locs : List Loc) (ls : Array Slot), Wd D G A H0 ad lay X h s H locs → lv_has ls 5 [(0, .ref (ad p)), (1, .ref (ad q1)), (2, .int z2), (3, .int x3)] → W p0 l e (rmN (fr0 + 2) (lo0 + 200)) s m args below meth c H locs 0 0 Q (F0 m 8 ls [])) (fun REC x3 h ih hf H locs ls hw hl => w_X4_product_L8b hM ho ho1 hrc hk1 (fun x3 h H locs ls hf hw hl => ih x3 h hf H locs ls hw hl) hw hl hf) n x3 h hf
def c_X4_product (p : Nat) (q1 : Nat) (rc : Nat → Int32 → PH → Option PH) (a2 : Int32) (h : PH) : Option (PH) :=
  (c_X4_unit p q1 rc a2 h).bind fun h1 =>
  nm (0 : Int32) fun v2 =>
  lq2 (c_X4_product_L8b p q1 rc a2
    (fun h11 =>
      some h11)) fu v2 h1
set_option maxHeartbeats 4000000 in
set_option maxRecDepth 100000 in
theorem ct_X4_product (l : Launch) {lay : List KK} {p : Nat} {q1 : Nat} (ho : okX4 lay p) (ho1 : okX2 lay q1) {fr0 lo0 : Nat} {rc : Nat → Int32 → PH → Option PH} (hrc : ∀ (q1 : Nat) (a2 : Int32), okX2 lay q1 → CtV l yX4_sum cX4_sum 5 (none) fr0 lo0 lay (rc q1 a2) (fun ad => [.ref (ad p), .ref (ad q1), .int a2])) (a2 : Int32) : CtV l yX4_product cX4_product 5 (none) (fr0 + 2) (lo0 + 200) lay (fun h => c_X4_product p q1 rc a2 h) (fun ad => [.ref (ad p), .ref (ad q1), .int a2]) := by
  refine CtV.mk' RX4 (by decide) rfl (fun _ => Nat.le_of_ble_eq_true rfl) ?_
  intro p0 e s m args below meth c D G A H0 ad X h r0 H ls Q hM hw hl hf hR
  have hl : lv_has ls 5 [(0, .ref (ad p)), (1, .ref (ad q1)), (2, .int a2)] := hl
  unfold c_X4_product at hf
  refine lv_aload_n hM.1 hM.2.1 dX4_product_0 rfl (lv_at hl 0 rfl) ?_
  refine lv_aload_n hM.1 hM.2.1 dX4_product_1 rfl (lv_at hl 1 rfl) ?_
  refine lv_iload_n hM.1 hM.2.1 dX4_product_2 rfl (lv_at hl 2 rfl) ?_
  refine x_callVV (rest := []) hM hw (ct_X4_unit l ho ho1 hrc a2) [.ref (ad q1), .int a2] (okX4.o ho) rfl rfl rfl (gi_V ml_X4_169 im_X4_unit sl_X4_unit in_X4 kc_X4_unit) hd_X4_unit rfl (rec_room (by omega) (by omega)) rfl (Nat.le_of_ble_eq_true rfl) hl.1 hcs0 hf dX4_product_3 (fun h1 H locs hf hw => ?_)
  refine lv_iconst (v := 0) hM.1 hM.2.1 dX4_product_6 ic_0 ?_
  refine x_istore_n hM hf dX4_product_7 rfl hl (by decide) (fun v2 => [(3, .int v2), (0, .ref (ad p)), (1, .ref (ad q1)), (2, .int a2)]) (fun _ => rfl) (fun v2 ls hf hl => ?_)
  refine w_X4_product_L8 hM ho ho1 hrc (fun h11 H locs ls hf hw hl => ?_) fu _ _ hf _ _ _ hw (lv_sub hl [1, 2, 3, 0] rfl)
  exact hR _ _ _ _ _ (Option.some.inj hf) rfl hw dX4_product_64
theorem hd_X4_product : yX4_product.cls = RX4 ∧ yX4_product.cls ≠ "java/lang/invoke/MethodHandle" ∧ yX4_product.cls ≠ "java/lang/invoke/VarHandle" ∧ (parseMethodDescriptor yX4_product.desc).map (fun d => d.parameters.length) = some 2 := ⟨rfl, by decide, by decide, by decide +kernel⟩
theorem dX4_sum_0 : decode cX4_sum 0 = .ok (.aload_n 0, 1) := by decide +kernel
theorem dX4_sum_1 : decode cX4_sum 1 = .ok (.aload_n 1, 1) := by decide +kernel
theorem dX4_sum_2 : decode cX4_sum 2 = .ok (.iload_n 2, 1) := by decide +kernel
theorem dX4_sum_3 : decode cX4_sum 3 = .ok (.invokevirtual 166, 3) := by decide +kernel
theorem dX4_sum_6 : decode cX4_sum 6 = .ok (.iconst 0, 1) := by decide +kernel
theorem dX4_sum_7 : decode cX4_sum 7 = .ok (.istore_n 3, 1) := by decide +kernel
theorem dX4_sum_8 : decode cX4_sum 8 = .ok (.iload_n 3, 1) := by decide +kernel
theorem dX4_sum_9 : decode cX4_sum 9 = .ok (.sipush 400, 3) := by decide +kernel
theorem dX4_sum_12 : decode cX4_sum 12 = .ok (.if_icmp .gt 52, 3) := by decide +kernel
theorem dX4_sum_15 : decode cX4_sum 15 = .ok (.aload_n 0, 1) := by decide +kernel
theorem dX4_sum_16 : decode cX4_sum 16 = .ok (.invokevirtual 48, 3) := by decide +kernel
theorem dX4_sum_19 : decode cX4_sum 19 = .ok (.bipush 43, 2) := by decide +kernel
theorem dX4_sum_21 : decode cX4_sum 21 = .ok (.if_icmp .eq 12, 3) := by decide +kernel
theorem dX4_sum_24 : decode cX4_sum 24 = .ok (.aload_n 0, 1) := by decide +kernel
theorem dX4_sum_25 : decode cX4_sum 25 = .ok (.invokevirtual 48, 3) := by decide +kernel
theorem dX4_sum_28 : decode cX4_sum 28 = .ok (.bipush 45, 2) := by decide +kernel
theorem dX4_sum_30 : decode cX4_sum 30 = .ok (.if_icmp .ne 34, 3) := by decide +kernel
theorem dX4_sum_33 : decode cX4_sum 33 = .ok (.aload_n 0, 1) := by decide +kernel
theorem dX4_sum_34 : decode cX4_sum 34 = .ok (.invokevirtual 48, 3) := by decide +kernel
theorem dX4_sum_37 : decode cX4_sum 37 = .ok (.istore 4, 2) := by decide +kernel
theorem dX4_sum_39 : decode cX4_sum 39 = .ok (.aload_n 0, 1) := by decide +kernel
theorem dX4_sum_40 : decode cX4_sum 40 = .ok (.iload 4, 2) := by decide +kernel
theorem dX4_sum_42 : decode cX4_sum 42 = .ok (.invokevirtual 95, 3) := by decide +kernel
theorem dX4_sum_45 : decode cX4_sum 45 = .ok (.aload_n 0, 1) := by decide +kernel
theorem dX4_sum_46 : decode cX4_sum 46 = .ok (.aload_n 1, 1) := by decide +kernel
theorem dX4_sum_47 : decode cX4_sum 47 = .ok (.iload_n 2, 1) := by decide +kernel
theorem dX4_sum_48 : decode cX4_sum 48 = .ok (.invokevirtual 166, 3) := by decide +kernel
theorem dX4_sum_51 : decode cX4_sum 51 = .ok (.aload_n 1, 1) := by decide +kernel
theorem dX4_sum_52 : decode cX4_sum 52 = .ok (.iload 4, 2) := by decide +kernel
theorem dX4_sum_54 : decode cX4_sum 54 = .ok (.ineg, 1) := by decide +kernel
theorem dX4_sum_55 : decode cX4_sum 55 = .ok (.invokevirtual 160, 3) := by decide +kernel
theorem dX4_sum_58 : decode cX4_sum 58 = .ok (.iinc 3 1, 3) := by decide +kernel
theorem dX4_sum_61 : decode cX4_sum 61 = .ok (.goto (-53), 3) := by decide +kernel
theorem dX4_sum_64 : decode cX4_sum 64 = .ok (.return_, 1) := by decide +kernel
def c_X4_sum_j33 {ρ : Type}  (p : Nat) (q1 : Nat) (rc : Nat → Int32 → PH → Option PH) (z2 : Int32) (K1 : PH → Option ρ) (REC : Int32 → PH → Option ρ) (x3 : Int32) (h : PH) : Option (ρ) :=
  (c_X4_kind p h).bind fun r4 =>
  nm r4 fun v5 =>
  (c_X4_accept p v5 h).bind fun h6 =>
  (c_X4_product p q1 rc z2 h6).bind fun h7 =>
  (c_X2_add q1 (-v5) h7).bind fun h8 =>
  nm (x3 + 1) fun v9 =>
  REC v9 h8
set_option maxHeartbeats 4000000 in
set_option maxRecDepth 100000 in
theorem w_X4_sum_j33 {p0 : Program} {l : Launch} {e : Env} {s : State} {m : MethodId} {args : Array Value} {below : List Frame} {meth : Method} {c : Code} {Q : State → Prop} {D : va_G} {G : GG} {A : Nat → Prop} {H0 : Heap} {ad : Nat → Nat} {lay : List KK} {X : va_W} {ρ : Type} {p : Nat} {q1 : Nat} {r0 : ρ} {x3 : Int32} {z2 : Int32} {h : PH} {H : Heap} {locs : List Loc} {ls : Array Slot} {K1 : PH → Option ρ} {REC : Int32 → PH → Option ρ} (hM : CallFix p0 m c cX4_sum 5 s args lw_g RX4) (ho : okX4 lay p) (ho1 : okX2 lay q1) {fr0 lo0 : Nat} {rc : Nat → Int32 → PH → Option PH} (hrc : ∀ (q1 : Nat) (a2 : Int32), okX2 lay q1 → CtV l yX4_sum cX4_sum 5 (none) fr0 lo0 lay (rc q1 a2) (fun ad => [.ref (ad p), .ref (ad q1), .int a2])) (hk1 : ∀ (h : PH), ∀ (H : Heap) (locs : List Loc) (ls : Array Slot), K1 h = some r0 → Wd D G A H0 ad lay X h s H locs → lv_has ls 5 [] → W p0 l e (rmN (fr0 + 3) (lo0 + 300)) s m args below meth c H locs 0 0 Q (F0 m 64 ls [])) (hrec : ∀ (x3 : Int32) (h : PH), ∀ (H : Heap) (locs : List Loc) (ls : Array Slot), REC x3 h = some r0 → Wd D G A H0 ad lay X h s H locs → lv_has ls 5 [(0, .ref (ad p)), (1, .ref (ad q1)), (2, .int z2), (3, .int x3)] → W p0 l e (rmN (fr0 + 3) (lo0 + 300)) s m args below meth c H locs 0 0 Q (F0 m 8 ls [])) (hw : Wd D G A H0 ad lay X h s H locs) (hl : lv_has ls 5 [(0, .ref (ad p)), (1, .ref (ad q1)), (2, .int z2), (3, .int x3)]) (hf : c_X4_sum_j33 p q1 rc z2 K1 REC x3 h = some r0) : W p0 l e (rmN (fr0 + 3) (lo0 + 300)) s m args below meth c H locs 0 0 Q (F0 m 33 ls []) := by
  unfold c_X4_sum_j33 at hf
  refine lv_aload_n hM.1 hM.2.1 dX4_sum_33 rfl (lv_at hl 0 rfl) ?_
  refine x_callVIr (rest := []) hM hw (ct_X4_kind l ho) [] (okX4.o ho) rfl rfl rfl (gi_V ml_X4_48 im_X4_kind sl_X4_kind in_X4 kc_X4_kind) hd_X4_kind rfl (rec_room (by omega) (by omega)) rfl (Nat.le_of_ble_eq_true rfl) hl.1 hcs0 hf dX4_sum_34 (fun r4 H locs hf hw => ?_)
  refine x_istore hM hf dX4_sum_37 hl (by decide) (fun v5 => [(4, .int v5), (0, .ref (ad p)), (1, .ref (ad q1)), (2, .int z2), (3, .int x3)]) (fun _ => rfl) (fun v5 ls hf hl => ?_)
  refine lv_aload_n hM.1 hM.2.1 dX4_sum_39 rfl (lv_at hl 1 rfl) ?_
  refine lv_iload hM.1 hM.2.1 dX4_sum_40 (lv_at hl 0 rfl) ?_
  refine x_callVV (rest := []) hM hw (ct_X4_accept l ho v5) [.int v5] (okX4.o ho) rfl rfl rfl (gi_V ml_X4_95 im_X4_accept sl_X4_accept in_X4 kc_X4_accept) hd_X4_accept rfl (rec_room (by omega) (by omega)) rfl (Nat.le_of_ble_eq_true rfl) hl.1 hcs0 hf dX4_sum_42 (fun h6 H locs hf hw => ?_)
  refine lv_aload_n hM.1 hM.2.1 dX4_sum_45 rfl (lv_at hl 1 rfl) ?_
  refine lv_aload_n hM.1 hM.2.1 dX4_sum_46 rfl (lv_at hl 2 rfl) ?_
  refine lv_iload_n hM.1 hM.2.1 dX4_sum_47 rfl (lv_at hl 3 rfl) ?_
  refine x_callVV (rest := []) hM hw (ct_X4_product l ho ho1 hrc z2) [.ref (ad q1), .int z2] (okX4.o ho) rfl rfl rfl (gi_V ml_X4_166 im_X4_product sl_X4_product in_X4 kc_X4_product) hd_X4_product rfl (rec_room (by omega) (by omega)) rfl (Nat.le_of_ble_eq_true rfl) hl.1 hcs0 hf dX4_sum_48 (fun h7 H locs hf hw => ?_)
  refine lv_aload_n hM.1 hM.2.1 dX4_sum_51 rfl (lv_at hl 2 rfl) ?_
  refine lv_iload hM.1 hM.2.1 dX4_sum_52 (lv_at hl 0 rfl) ?_
  refine lv_ineg hM.1 hM.2.1 dX4_sum_54 ?_
  refine x_callVV (rest := []) hM hw (ct_X2_add l ho1 (-v5)) [.int (-v5)] (okX2.o ho1) rfl rfl rfl (gi_V ml_X4_160 im_X2_add sl_X2_add in_X2 kc_X2_add) hd_X2_add rfl (rec_room (by omega) (by omega)) rfl (Nat.le_of_ble_eq_true rfl) hl.1 hcs0 hf dX4_sum_55 (fun h8 H locs hf hw => ?_)
  refine x_iinc (k := 4) (d := 1) hM hf dX4_sum_58 hl rfl (by decide) (by decide) (fun v9 => [(3, .int v9), (4, .int v5), (0, .ref (ad p)), (1, .ref (ad q1)), (2, .int z2)]) (fun _ => rfl) (fun v9 ls hf hl => ?_)
  refine lv_goto (tgt := 8) hM.1 hM.2.1 dX4_sum_61 (by decide) ?_
  exact hrec _ _ _ _ _ hf hw (lv_sub hl [2, 3, 4, 0] rfl)
def c_X4_sum_L8b {ρ : Type}  (p : Nat) (q1 : Nat) (rc : Nat → Int32 → PH → Option PH) (z2 : Int32) (K1 : PH → Option ρ) (REC : Int32 → PH → Option ρ) (x3 : Int32) (h : PH) : Option ρ :=
  if 400 < x3 then
    K1 h
  else
    (c_X4_kind p h).bind fun r3 =>
    if r3 = 43 then
      c_X4_sum_j33 p q1 rc z2 K1 REC x3 h
    else
      (c_X4_kind p h).bind fun r10 =>
      if r10 = 45 then
        c_X4_sum_j33 p q1 rc z2 K1 REC x3 h
      else
        K1 h
set_option maxHeartbeats 4000000 in
set_option maxRecDepth 100000 in
theorem w_X4_sum_L8b {p0 : Program} {l : Launch} {e : Env} {s : State} {m : MethodId} {args : Array Value} {below : List Frame} {meth : Method} {c : Code} {Q : State → Prop} {D : va_G} {G : GG} {A : Nat → Prop} {H0 : Heap} {ad : Nat → Nat} {lay : List KK} {X : va_W} {ρ : Type} {p : Nat} {q1 : Nat} {r0 : ρ} {z2 : Int32} {x3 : Int32} {h : PH} {H : Heap} {locs : List Loc} {ls : Array Slot} {K1 : PH → Option ρ} {REC : Int32 → PH → Option ρ} (hM : CallFix p0 m c cX4_sum 5 s args lw_g RX4) (ho : okX4 lay p) (ho1 : okX2 lay q1) {fr0 lo0 : Nat} {rc : Nat → Int32 → PH → Option PH} (hrc : ∀ (q1 : Nat) (a2 : Int32), okX2 lay q1 → CtV l yX4_sum cX4_sum 5 (none) fr0 lo0 lay (rc q1 a2) (fun ad => [.ref (ad p), .ref (ad q1), .int a2])) (hk1 : ∀ (h : PH), ∀ (H : Heap) (locs : List Loc) (ls : Array Slot), K1 h = some r0 → Wd D G A H0 ad lay X h s H locs → lv_has ls 5 [] → W p0 l e (rmN (fr0 + 3) (lo0 + 300)) s m args below meth c H locs 0 0 Q (F0 m 64 ls [])) (hrec : ∀ (x3 : Int32) (h : PH), ∀ (H : Heap) (locs : List Loc) (ls : Array Slot), REC x3 h = some r0 → Wd D G A H0 ad lay X h s H locs → lv_has ls 5 [(0, .ref (ad p)), (1, .ref (ad q1)), (2, .int z2), (3, .int x3)] → W p0 l e (rmN (fr0 + 3) (lo0 + 300)) s m args below meth c H locs 0 0 Q (F0 m 8 ls [])) (hw : Wd D G A H0 ad lay X h s H locs) (hl : lv_has ls 5 [(0, .ref (ad p)), (1, .ref (ad q1)), (2, .int z2), (3, .int x3)]) (hf : c_X4_sum_L8b p q1 rc z2 K1 REC x3 h = some r0) : W p0 l e (rmN (fr0 + 3) (lo0 + 300)) s m args below meth c H locs 0 0 Q (F0 m 8 ls []) := by
  unfold c_X4_sum_L8b at hf
  refine lv_iload_n hM.1 hM.2.1 dX4_sum_8 rfl (lv_at hl 3 rfl) ?_
  refine lv_sipush (v := 400) hM.1 hM.2.1 dX4_sum_9 (by decide) ?_
  refine x_ic_gt (tgt := 64) hM hf dX4_sum_12 (by decide) (fun hf => ?_) (fun hf => ?_)
  · exact hk1 _ _ _ _ hf hw (lv_sub hl [] rfl)
  refine lv_aload_n hM.1 hM.2.1 dX4_sum_15 rfl (lv_at hl 0 rfl) ?_
  refine x_callVIr (rest := []) hM hw (ct_X4_kind l ho) [] (okX4.o ho) rfl rfl rfl (gi_V ml_X4_48 im_X4_kind sl_X4_kind in_X4 kc_X4_kind) hd_X4_kind rfl (rec_room (by omega) (by omega)) rfl (Nat.le_of_ble_eq_true rfl) hl.1 hcs0 hf dX4_sum_16 (fun r3 H locs hf hw => ?_)
  refine lv_bipush (v := 43) hM.1 hM.2.1 dX4_sum_19 (by decide) ?_
  refine x_ic_eq (tgt := 33) hM hf dX4_sum_21 (by decide) (fun hf => ?_) (fun hf => ?_)
  · exact w_X4_sum_j33 hM ho ho1 hrc hk1 hrec hw hl hf
  refine lv_aload_n hM.1 hM.2.1 dX4_sum_24 rfl (lv_at hl 0 rfl) ?_
  refine x_callVIr (rest := []) hM hw (ct_X4_kind l ho) [] (okX4.o ho) rfl rfl rfl (gi_V ml_X4_48 im_X4_kind sl_X4_kind in_X4 kc_X4_kind) hd_X4_kind rfl (rec_room (by omega) (by omega)) rfl (Nat.le_of_ble_eq_true rfl) hl.1 hcs0 hf dX4_sum_25 (fun r10 H locs hf hw => ?_)
  refine lv_bipush (v := 45) hM.1 hM.2.1 dX4_sum_28 (by decide) ?_
  refine x_ic_ne (tgt := 64) hM hf dX4_sum_30 (by decide) (fun hf => ?_) (fun hf => ?_)
  · exact hk1 _ _ _ _ hf hw (lv_sub hl [] rfl)
  exact w_X4_sum_j33 hM ho ho1 hrc hk1 hrec hw hl hf
set_option maxHeartbeats 4000000 in
set_option maxRecDepth 100000 in
theorem w_X4_sum_L8 {p0 : Program} {l : Launch} {e : Env} {s : State} {m : MethodId} {args : Array Value} {below : List Frame} {meth : Method} {c : Code} {Q : State → Prop} {D : va_G} {G : GG} {A : Nat → Prop} {H0 : Heap} {ad : Nat → Nat} {lay : List KK} {X : va_W} {ρ : Type} {p : Nat} {q1 : Nat} {r0 : ρ} {z2 : Int32} {K1 : PH → Option ρ} (hM : CallFix p0 m c cX4_sum 5 s args lw_g RX4) (ho : okX4 lay p) (ho1 : okX2 lay q1) {fr0 lo0 : Nat} {rc : Nat → Int32 → PH → Option PH} (hrc : ∀ (q1 : Nat) (a2 : Int32), okX2 lay q1 → CtV l yX4_sum cX4_sum 5 (none) fr0 lo0 lay (rc q1 a2) (fun ad => [.ref (ad p), .ref (ad q1), .int a2])) (hk1 : ∀ (h : PH), ∀ (H : Heap) (locs : List Loc) (ls : Array Slot), K1 h = some r0 → Wd D G A H0 ad lay X h s H locs → lv_has ls 5 [] → W p0 l e (rmN (fr0 + 3) (lo0 + 300)) s m args below meth c H locs 0 0 Q (F0 m 64 ls [])) (n : Nat) (x3 : Int32) (h : PH) (hf : lq2 (c_X4_sum_L8b p q1 rc z2 K1) n x3 h = some r0) : ∀ (H : Heap) (locs : List Loc) (ls : Array Slot), Wd D G A H0 ad lay X h s H locs → lv_has ls 5 [(0, .ref (ad p)), (1, .ref (ad q1)), (2, .int z2), (3, .int x3)] → W p0 l e (rmN (fr0 + 3) (lo0 + 300)) s m args below meth c H locs 0 0 Q (F0 m 8 ls []) := by
  exact lq2_i (fun (x3 : Int32) (h : PH) => ∀ (H : Heap) (locs : List Loc) (ls : Array Slot), Wd D G A H0 ad lay X h s H locs → lv_has ls 5 [(0, .ref (ad p)), (1, .ref (ad q1)), (2, .int z2), (3, .int x3)] → W p0 l e (rmN (fr0 + 3) (lo0 + 300)) s m args below meth c H locs 0 0 Q (F0 m 8 ls [])) (fun REC x3 h ih hf H locs ls hw hl => w_X4_sum_L8b hM ho ho1 hrc hk1 (fun x3 h H locs ls hf hw hl => ih x3 h hf H locs ls hw hl) hw hl hf) n x3 h hf
def c_X4_sumB (p : Nat) (q1 : Nat) (rc : Nat → Int32 → PH → Option PH) (a2 : Int32) (h : PH) : Option (PH) :=
  (c_X4_product p q1 rc a2 h).bind fun h1 =>
  nm (0 : Int32) fun v2 =>
  lq2 (c_X4_sum_L8b p q1 rc a2
    (fun h11 =>
      some h11)) fu v2 h1
set_option maxHeartbeats 4000000 in
set_option maxRecDepth 100000 in
theorem ct_X4_sumB (l : Launch) {lay : List KK} {p : Nat} {q1 : Nat} (ho : okX4 lay p) (ho1 : okX2 lay q1) {fr0 lo0 : Nat} {rc : Nat → Int32 → PH → Option PH} (hrc : ∀ (q1 : Nat) (a2 : Int32), okX2 lay q1 → CtV l yX4_sum cX4_sum 5 (none) fr0 lo0 lay (rc q1 a2) (fun ad => [.ref (ad p), .ref (ad q1), .int a2])) (a2 : Int32) : CtV l yX4_sum cX4_sum 5 (none) (fr0 + 3) (lo0 + 300) lay (fun h => c_X4_sumB p q1 rc a2 h) (fun ad => [.ref (ad p), .ref (ad q1), .int a2]) := by
  refine CtV.mk' RX4 (by decide) rfl (fun _ => Nat.le_of_ble_eq_true rfl) ?_
  intro p0 e s m args below meth c D G A H0 ad X h r0 H ls Q hM hw hl hf hR
  have hl : lv_has ls 5 [(0, .ref (ad p)), (1, .ref (ad q1)), (2, .int a2)] := hl
  unfold c_X4_sumB at hf
  refine lv_aload_n hM.1 hM.2.1 dX4_sum_0 rfl (lv_at hl 0 rfl) ?_
  refine lv_aload_n hM.1 hM.2.1 dX4_sum_1 rfl (lv_at hl 1 rfl) ?_
  refine lv_iload_n hM.1 hM.2.1 dX4_sum_2 rfl (lv_at hl 2 rfl) ?_
  refine x_callVV (rest := []) hM hw (ct_X4_product l ho ho1 hrc a2) [.ref (ad q1), .int a2] (okX4.o ho) rfl rfl rfl (gi_V ml_X4_166 im_X4_product sl_X4_product in_X4 kc_X4_product) hd_X4_product rfl (rec_room (by omega) (by omega)) rfl (Nat.le_of_ble_eq_true rfl) hl.1 hcs0 hf dX4_sum_3 (fun h1 H locs hf hw => ?_)
  refine lv_iconst (v := 0) hM.1 hM.2.1 dX4_sum_6 ic_0 ?_
  refine x_istore_n hM hf dX4_sum_7 rfl hl (by decide) (fun v2 => [(3, .int v2), (0, .ref (ad p)), (1, .ref (ad q1)), (2, .int a2)]) (fun _ => rfl) (fun v2 ls hf hl => ?_)
  refine w_X4_sum_L8 hM ho ho1 hrc (fun h11 H locs ls hf hw hl => ?_) fu _ _ hf _ _ _ hw (lv_sub hl [1, 2, 3, 0] rfl)
  exact hR _ _ _ _ _ (Option.some.inj hf) rfl hw dX4_sum_64
/-- sums within one another: by their depth -/
def c_X4_sumN (p : Nat) : Nat → Nat → Int32 → PH → Option PH
  | 0, _, _, _ => none
  | n + 1, q1, a2, h => c_X4_sumB p q1 (c_X4_sumN p n) a2 h
def c_X4_sum (p q1 : Nat) (a2 : Int32) (h : PH) : Option PH := c_X4_sumN p 8 q1 a2 h
theorem ct_X4_sumN (l : Launch) {lay : List KK} {p : Nat} (ho : okX4 lay p) : ∀ (n q1 : Nat) (a2 : Int32), okX2 lay q1 → CtV l yX4_sum cX4_sum 5 (none) (3 * n) (300 * n) lay (fun h => c_X4_sumN p n q1 a2 h) (fun ad => [.ref (ad p), .ref (ad q1), .int a2])
  | 0, _, _, _ => fun _ _ _ _ _ _ _ hF => by cases hF
  | n + 1, q1, a2, h1 => ct_X4_sumB l ho h1 (fun q a hq => ct_X4_sumN l ho n q a hq) a2
theorem ct_X4_sum (l : Launch) {lay : List KK} {p q1 : Nat} (ho : okX4 lay p) (ho1 : okX2 lay q1) (a2 : Int32) : CtV l yX4_sum cX4_sum 5 (none) 24 2400 lay (fun h => c_X4_sum p q1 a2 h) (fun ad => [.ref (ad p), .ref (ad q1), .int a2]) := ct_X4_sumN l ho 8 q1 a2 ho1
theorem dX4_tellLaw_0 : decode cX4_tellLaw 0 = .ok (.aload_n 2, 1) := by decide +kernel
theorem dX4_tellLaw_1 : decode cX4_tellLaw 1 = .ok (.invokevirtual 150, 3) := by decide +kernel
theorem dX4_tellLaw_4 : decode cX4_tellLaw 4 = .ok (.aload_n 0, 1) := by decide +kernel
theorem dX4_tellLaw_5 : decode cX4_tellLaw 5 = .ok (.iload_n 1, 1) := by decide +kernel
theorem dX4_tellLaw_6 : decode cX4_tellLaw 6 = .ok (.invokevirtual 95, 3) := by decide +kernel
theorem dX4_tellLaw_9 : decode cX4_tellLaw 9 = .ok (.aload_n 0, 1) := by decide +kernel
theorem dX4_tellLaw_10 : decode cX4_tellLaw 10 = .ok (.bipush 61, 2) := by decide +kernel
theorem dX4_tellLaw_12 : decode cX4_tellLaw 12 = .ok (.invokevirtual 95, 3) := by decide +kernel
theorem dX4_tellLaw_15 : decode cX4_tellLaw 15 = .ok (.iconst 0, 1) := by decide +kernel
theorem dX4_tellLaw_16 : decode cX4_tellLaw 16 = .ok (.istore_n 3, 1) := by decide +kernel
theorem dX4_tellLaw_17 : decode cX4_tellLaw 17 = .ok (.iload_n 3, 1) := by decide +kernel
theorem dX4_tellLaw_18 : decode cX4_tellLaw 18 = .ok (.iconst 4, 1) := by decide +kernel
theorem dX4_tellLaw_19 : decode cX4_tellLaw 19 = .ok (.if_icmp .gt 79, 3) := by decide +kernel
theorem dX4_tellLaw_22 : decode cX4_tellLaw 22 = .ok (.aload_n 0, 1) := by decide +kernel
theorem dX4_tellLaw_23 : decode cX4_tellLaw 23 = .ok (.invokevirtual 48, 3) := by decide +kernel
theorem dX4_tellLaw_26 : decode cX4_tellLaw 26 = .ok (.bipush 75, 2) := by decide +kernel
theorem dX4_tellLaw_28 : decode cX4_tellLaw 28 = .ok (.if_icmp .ne 70, 3) := by decide +kernel
theorem dX4_tellLaw_31 : decode cX4_tellLaw 31 = .ok (.aload_n 0, 1) := by decide +kernel
theorem dX4_tellLaw_32 : decode cX4_tellLaw 32 = .ok (.bipush 75, 2) := by decide +kernel
theorem dX4_tellLaw_34 : decode cX4_tellLaw 34 = .ok (.iload_n 3, 1) := by decide +kernel
theorem dX4_tellLaw_35 : decode cX4_tellLaw 35 = .ok (.iconst 4, 1) := by decide +kernel
theorem dX4_tellLaw_36 : decode cX4_tellLaw 36 = .ok (.invokevirtual 101, 3) := by decide +kernel
theorem dX4_tellLaw_39 : decode cX4_tellLaw 39 = .ok (.aload_n 0, 1) := by decide +kernel
theorem dX4_tellLaw_40 : decode cX4_tellLaw 40 = .ok (.aload_n 2, 1) := by decide +kernel
theorem dX4_tellLaw_41 : decode cX4_tellLaw 41 = .ok (.iconst 0, 1) := by decide +kernel
theorem dX4_tellLaw_42 : decode cX4_tellLaw 42 = .ok (.invokevirtual 153, 3) := by decide +kernel
theorem dX4_tellLaw_45 : decode cX4_tellLaw 45 = .ok (.aload_n 0, 1) := by decide +kernel
theorem dX4_tellLaw_46 : decode cX4_tellLaw 46 = .ok (.bipush 60, 2) := by decide +kernel
theorem dX4_tellLaw_48 : decode cX4_tellLaw 48 = .ok (.invokevirtual 95, 3) := by decide +kernel
theorem dX4_tellLaw_51 : decode cX4_tellLaw 51 = .ok (.aload_n 0, 1) := by decide +kernel
theorem dX4_tellLaw_52 : decode cX4_tellLaw 52 = .ok (.aload_n 2, 1) := by decide +kernel
theorem dX4_tellLaw_53 : decode cX4_tellLaw 53 = .ok (.iconst 0, 1) := by decide +kernel
theorem dX4_tellLaw_54 : decode cX4_tellLaw 54 = .ok (.invokevirtual 153, 3) := by decide +kernel
theorem dX4_tellLaw_57 : decode cX4_tellLaw 57 = .ok (.aload_n 0, 1) := by decide +kernel
theorem dX4_tellLaw_58 : decode cX4_tellLaw 58 = .ok (.bipush 76, 2) := by decide +kernel
theorem dX4_tellLaw_60 : decode cX4_tellLaw 60 = .ok (.invokevirtual 95, 3) := by decide +kernel
theorem dX4_tellLaw_63 : decode cX4_tellLaw 63 = .ok (.aload_n 2, 1) := by decide +kernel
theorem dX4_tellLaw_64 : decode cX4_tellLaw 64 = .ok (.invokevirtual 157, 3) := by decide +kernel
theorem dX4_tellLaw_67 : decode cX4_tellLaw 67 = .ok (.istore 4, 2) := by decide +kernel
theorem dX4_tellLaw_69 : decode cX4_tellLaw 69 = .ok (.aload_n 0, 1) := by decide +kernel
theorem dX4_tellLaw_70 : decode cX4_tellLaw 70 = .ok (.aload_n 2, 1) := by decide +kernel
theorem dX4_tellLaw_71 : decode cX4_tellLaw 71 = .ok (.iconst 0, 1) := by decide +kernel
theorem dX4_tellLaw_72 : decode cX4_tellLaw 72 = .ok (.invokevirtual 153, 3) := by decide +kernel
theorem dX4_tellLaw_75 : decode cX4_tellLaw 75 = .ok (.aload_n 2, 1) := by decide +kernel
theorem dX4_tellLaw_76 : decode cX4_tellLaw 76 = .ok (.iconst (-1), 1) := by decide +kernel
theorem dX4_tellLaw_77 : decode cX4_tellLaw 77 = .ok (.invokevirtual 160, 3) := by decide +kernel
theorem dX4_tellLaw_80 : decode cX4_tellLaw 80 = .ok (.aload_n 0, 1) := by decide +kernel
theorem dX4_tellLaw_81 : decode cX4_tellLaw 81 = .ok (.bipush 77, 2) := by decide +kernel
theorem dX4_tellLaw_83 : decode cX4_tellLaw 83 = .ok (.invokevirtual 95, 3) := by decide +kernel
theorem dX4_tellLaw_86 : decode cX4_tellLaw 86 = .ok (.aload_n 2, 1) := by decide +kernel
theorem dX4_tellLaw_87 : decode cX4_tellLaw 87 = .ok (.iload 4, 2) := by decide +kernel
theorem dX4_tellLaw_89 : decode cX4_tellLaw 89 = .ok (.invokevirtual 163, 3) := by decide +kernel
theorem dX4_tellLaw_92 : decode cX4_tellLaw 92 = .ok (.iinc 3 1, 3) := by decide +kernel
theorem dX4_tellLaw_95 : decode cX4_tellLaw 95 = .ok (.goto (-78), 3) := by decide +kernel
theorem dX4_tellLaw_98 : decode cX4_tellLaw 98 = .ok (.aload_n 0, 1) := by decide +kernel
theorem dX4_tellLaw_99 : decode cX4_tellLaw 99 = .ok (.aload_n 2, 1) := by decide +kernel
theorem dX4_tellLaw_100 : decode cX4_tellLaw 100 = .ok (.iconst 0, 1) := by decide +kernel
theorem dX4_tellLaw_101 : decode cX4_tellLaw 101 = .ok (.invokevirtual 153, 3) := by decide +kernel
theorem dX4_tellLaw_104 : decode cX4_tellLaw 104 = .ok (.aload_n 2, 1) := by decide +kernel
theorem dX4_tellLaw_105 : decode cX4_tellLaw 105 = .ok (.iconst (-1), 1) := by decide +kernel
theorem dX4_tellLaw_106 : decode cX4_tellLaw 106 = .ok (.invokevirtual 160, 3) := by decide +kernel
theorem dX4_tellLaw_109 : decode cX4_tellLaw 109 = .ok (.return_, 1) := by decide +kernel
def c_X4_tellLaw_L17b {ρ : Type}  (p : Nat) (q2 : Nat) (K1 : PH → Option ρ) (REC : Int32 → PH → Option ρ) (x3 : Int32) (h : PH) : Option ρ :=
  if 4 < x3 then
    K1 h
  else
    (c_X4_kind p h).bind fun r5 =>
    if r5 = 75 then
      (c_X4_open p 75 x3 4 h).bind fun h6 =>
      (c_X4_sum p q2 0 h6).bind fun h7 =>
      (c_X4_accept p 60 h7).bind fun h8 =>
      (c_X4_sum p q2 0 h8).bind fun h9 =>
      (c_X4_accept p 76 h9).bind fun h10 =>
      bind2 (c_X2_addUnlessLess q2 h10) fun r11 h12 =>
      nm r11 fun v13 =>
      (c_X4_sum p q2 0 h12).bind fun h14 =>
      (c_X2_add q2 (-1) h14).bind fun h15 =>
      (c_X4_accept p 77 h15).bind fun h16 =>
      (c_X2_landHere q2 v13 h16).bind fun h17 =>
      nm (x3 + 1) fun v18 =>
      REC v18 h17
    else
      K1 h
set_option maxHeartbeats 4000000 in
set_option maxRecDepth 100000 in
theorem w_X4_tellLaw_L17b {p0 : Program} {l : Launch} {e : Env} {s : State} {m : MethodId} {args : Array Value} {below : List Frame} {meth : Method} {c : Code} {Q : State → Prop} {D : va_G} {G : GG} {A : Nat → Prop} {H0 : Heap} {ad : Nat → Nat} {lay : List KK} {X : va_W} {ρ : Type} {p : Nat} {q2 : Nat} {r0 : ρ} {x3 : Int32} {h : PH} {H : Heap} {locs : List Loc} {ls : Array Slot} {K1 : PH → Option ρ} {REC : Int32 → PH → Option ρ} (hM : CallFix p0 m c cX4_tellLaw 5 s args lw_g RX4) (ho : okX4 lay p) (ho2 : okX2 lay q2) (hk1 : ∀ (h : PH), ∀ (H : Heap) (locs : List Loc) (ls : Array Slot), K1 h = some r0 → Wd D G A H0 ad lay X h s H locs → lv_has ls 5 [(0, .ref (ad p)), (2, .ref (ad q2))] → W p0 l e (rmN 25 2424) s m args below meth c H locs 0 0 Q (F0 m 98 ls [])) (hrec : ∀ (x3 : Int32) (h : PH), ∀ (H : Heap) (locs : List Loc) (ls : Array Slot), REC x3 h = some r0 → Wd D G A H0 ad lay X h s H locs → lv_has ls 5 [(0, .ref (ad p)), (2, .ref (ad q2)), (3, .int x3)] → W p0 l e (rmN 25 2424) s m args below meth c H locs 0 0 Q (F0 m 17 ls [])) (hw : Wd D G A H0 ad lay X h s H locs) (hl : lv_has ls 5 [(0, .ref (ad p)), (2, .ref (ad q2)), (3, .int x3)]) (hf : c_X4_tellLaw_L17b p q2 K1 REC x3 h = some r0) : W p0 l e (rmN 25 2424) s m args below meth c H locs 0 0 Q (F0 m 17 ls []) := by
  unfold c_X4_tellLaw_L17b at hf
  refine lv_iload_n hM.1 hM.2.1 dX4_tellLaw_17 rfl (lv_at hl 2 rfl) ?_
  refine lv_iconst (v := 4) hM.1 hM.2.1 dX4_tellLaw_18 ic_4 ?_
  refine x_ic_gt (tgt := 98) hM hf dX4_tellLaw_19 (by decide) (fun hf => ?_) (fun hf => ?_)
  · exact hk1 _ _ _ _ hf hw (lv_sub hl [0, 1] rfl)
  refine lv_aload_n hM.1 hM.2.1 dX4_tellLaw_22 rfl (lv_at hl 0 rfl) ?_
  refine x_callVIr (rest := []) hM hw (ct_X4_kind l ho) [] (okX4.o ho) rfl rfl rfl (gi_V ml_X4_48 im_X4_kind sl_X4_kind in_X4 kc_X4_kind) hd_X4_kind rfl ⟨Nat.le_of_ble_eq_true rfl, Nat.le_of_ble_eq_true rfl⟩ rfl (Nat.le_of_ble_eq_true rfl) hl.1 hcs0 hf dX4_tellLaw_23 (fun r5 H locs hf hw => ?_)
  refine lv_bipush (v := 75) hM.1 hM.2.1 dX4_tellLaw_26 (by decide) ?_
  refine x_ic_ne (tgt := 98) hM hf dX4_tellLaw_28 (by decide) (fun hf => ?_) (fun hf => ?_)
  · exact hk1 _ _ _ _ hf hw (lv_sub hl [0, 1] rfl)
  refine lv_aload_n hM.1 hM.2.1 dX4_tellLaw_31 rfl (lv_at hl 0 rfl) ?_
  refine lv_bipush (v := 75) hM.1 hM.2.1 dX4_tellLaw_32 (by decide) ?_
  refine lv_iload_n hM.1 hM.2.1 dX4_tellLaw_34 rfl (lv_at hl 2 rfl) ?_
  refine lv_iconst (v := 4) hM.1 hM.2.1 dX4_tellLaw_35 ic_4 ?_
  refine x_callVV (rest := []) hM hw (ct_X4_open l ho 75 x3 4) [.int 75, .int x3, .int 4] (okX4.o ho) rfl rfl rfl (gi_V ml_X4_101 im_X4_open sl_X4_open in_X4 kc_X4_open) hd_X4_open rfl ⟨Nat.le_of_ble_eq_true rfl, Nat.le_of_ble_eq_true rfl⟩ rfl (Nat.le_of_ble_eq_true rfl) hl.1 hcs0 hf dX4_tellLaw_36 (fun h6 H locs hf hw => ?_)
  refine lv_aload_n hM.1 hM.2.1 dX4_tellLaw_39 rfl (lv_at hl 0 rfl) ?_
  refine lv_aload_n hM.1 hM.2.1 dX4_tellLaw_40 rfl (lv_at hl 1 rfl) ?_
  refine lv_iconst (v := 0) hM.1 hM.2.1 dX4_tellLaw_41 ic_0 ?_
  refine x_callVV (rest := []) hM hw (ct_X4_sum l ho ho2 0) [.ref (ad q2), .int 0] (okX4.o ho) rfl rfl rfl (gi_V ml_X4_153 im_X4_sum sl_X4_sum in_X4 kc_X4_sum) hd_X4_sum rfl ⟨Nat.le_of_ble_eq_true rfl, Nat.le_of_ble_eq_true rfl⟩ rfl (Nat.le_of_ble_eq_true rfl) hl.1 hcs0 hf dX4_tellLaw_42 (fun h7 H locs hf hw => ?_)
  refine lv_aload_n hM.1 hM.2.1 dX4_tellLaw_45 rfl (lv_at hl 0 rfl) ?_
  refine lv_bipush (v := 60) hM.1 hM.2.1 dX4_tellLaw_46 (by decide) ?_
  refine x_callVV (rest := []) hM hw (ct_X4_accept l ho 60) [.int 60] (okX4.o ho) rfl rfl rfl (gi_V ml_X4_95 im_X4_accept sl_X4_accept in_X4 kc_X4_accept) hd_X4_accept rfl ⟨Nat.le_of_ble_eq_true rfl, Nat.le_of_ble_eq_true rfl⟩ rfl (Nat.le_of_ble_eq_true rfl) hl.1 hcs0 hf dX4_tellLaw_48 (fun h8 H locs hf hw => ?_)
  refine lv_aload_n hM.1 hM.2.1 dX4_tellLaw_51 rfl (lv_at hl 0 rfl) ?_
  refine lv_aload_n hM.1 hM.2.1 dX4_tellLaw_52 rfl (lv_at hl 1 rfl) ?_
  refine lv_iconst (v := 0) hM.1 hM.2.1 dX4_tellLaw_53 ic_0 ?_
  refine x_callVV (rest := []) hM hw (ct_X4_sum l ho ho2 0) [.ref (ad q2), .int 0] (okX4.o ho) rfl rfl rfl (gi_V ml_X4_153 im_X4_sum sl_X4_sum in_X4 kc_X4_sum) hd_X4_sum rfl ⟨Nat.le_of_ble_eq_true rfl, Nat.le_of_ble_eq_true rfl⟩ rfl (Nat.le_of_ble_eq_true rfl) hl.1 hcs0 hf dX4_tellLaw_54 (fun h9 H locs hf hw => ?_)
  refine lv_aload_n hM.1 hM.2.1 dX4_tellLaw_57 rfl (lv_at hl 0 rfl) ?_
  refine lv_bipush (v := 76) hM.1 hM.2.1 dX4_tellLaw_58 (by decide) ?_
  refine x_callVV (rest := []) hM hw (ct_X4_accept l ho 76) [.int 76] (okX4.o ho) rfl rfl rfl (gi_V ml_X4_95 im_X4_accept sl_X4_accept in_X4 kc_X4_accept) hd_X4_accept rfl ⟨Nat.le_of_ble_eq_true rfl, Nat.le_of_ble_eq_true rfl⟩ rfl (Nat.le_of_ble_eq_true rfl) hl.1 hcs0 hf dX4_tellLaw_60 (fun h10 H locs hf hw => ?_)
  refine lv_aload_n hM.1 hM.2.1 dX4_tellLaw_63 rfl (lv_at hl 1 rfl) ?_
  refine x_callVI (rest := []) hM hw (ct_X2_addUnlessLess l ho2) [] (okX2.o ho2) rfl rfl rfl (gi_V ml_X4_157 im_X2_addUnlessLess sl_X2_addUnlessLess in_X2 kc_X2_addUnlessLess) hd_X2_addUnlessLess rfl ⟨Nat.le_of_ble_eq_true rfl, Nat.le_of_ble_eq_true rfl⟩ rfl (Nat.le_of_ble_eq_true rfl) hl.1 hcs0 hf dX4_tellLaw_64 (fun r11 h12 H locs hf hw => ?_)
  refine x_istore hM hf dX4_tellLaw_67 hl (by decide) (fun v13 => [(4, .int v13), (0, .ref (ad p)), (2, .ref (ad q2)), (3, .int x3)]) (fun _ => rfl) (fun v13 ls hf hl => ?_)
  refine lv_aload_n hM.1 hM.2.1 dX4_tellLaw_69 rfl (lv_at hl 1 rfl) ?_
  refine lv_aload_n hM.1 hM.2.1 dX4_tellLaw_70 rfl (lv_at hl 2 rfl) ?_
  refine lv_iconst (v := 0) hM.1 hM.2.1 dX4_tellLaw_71 ic_0 ?_
  refine x_callVV (rest := []) hM hw (ct_X4_sum l ho ho2 0) [.ref (ad q2), .int 0] (okX4.o ho) rfl rfl rfl (gi_V ml_X4_153 im_X4_sum sl_X4_sum in_X4 kc_X4_sum) hd_X4_sum rfl ⟨Nat.le_of_ble_eq_true rfl, Nat.le_of_ble_eq_true rfl⟩ rfl (Nat.le_of_ble_eq_true rfl) hl.1 hcs0 hf dX4_tellLaw_72 (fun h14 H locs hf hw => ?_)
  refine lv_aload_n hM.1 hM.2.1 dX4_tellLaw_75 rfl (lv_at hl 2 rfl) ?_
  refine lv_iconst (v := (-1)) hM.1 hM.2.1 dX4_tellLaw_76 ic_m1 ?_
  refine x_callVV (rest := []) hM hw (ct_X2_add l ho2 (-1)) [.int (-1)] (okX2.o ho2) rfl rfl rfl (gi_V ml_X4_160 im_X2_add sl_X2_add in_X2 kc_X2_add) hd_X2_add rfl ⟨Nat.le_of_ble_eq_true rfl, Nat.le_of_ble_eq_true rfl⟩ rfl (Nat.le_of_ble_eq_true rfl) hl.1 hcs0 hf dX4_tellLaw_77 (fun h15 H locs hf hw => ?_)
  refine lv_aload_n hM.1 hM.2.1 dX4_tellLaw_80 rfl (lv_at hl 1 rfl) ?_
  refine lv_bipush (v := 77) hM.1 hM.2.1 dX4_tellLaw_81 (by decide) ?_
  refine x_callVV (rest := []) hM hw (ct_X4_accept l ho 77) [.int 77] (okX4.o ho) rfl rfl rfl (gi_V ml_X4_95 im_X4_accept sl_X4_accept in_X4 kc_X4_accept) hd_X4_accept rfl ⟨Nat.le_of_ble_eq_true rfl, Nat.le_of_ble_eq_true rfl⟩ rfl (Nat.le_of_ble_eq_true rfl) hl.1 hcs0 hf dX4_tellLaw_83 (fun h16 H locs hf hw => ?_)
  refine lv_aload_n hM.1 hM.2.1 dX4_tellLaw_86 rfl (lv_at hl 2 rfl) ?_
  refine lv_iload hM.1 hM.2.1 dX4_tellLaw_87 (lv_at hl 0 rfl) ?_
  refine x_callVV (rest := []) hM hw (ct_X2_landHere l ho2 v13) [.int v13] (okX2.o ho2) rfl rfl rfl (gi_V ml_X4_163 im_X2_landHere sl_X2_landHere in_X2 kc_X2_landHere) hd_X2_landHere rfl ⟨Nat.le_of_ble_eq_true rfl, Nat.le_of_ble_eq_true rfl⟩ rfl (Nat.le_of_ble_eq_true rfl) hl.1 hcs0 hf dX4_tellLaw_89 (fun h17 H locs hf hw => ?_)
  refine x_iinc (k := 3) (d := 1) hM hf dX4_tellLaw_92 hl rfl (by decide) (by decide) (fun v18 => [(3, .int v18), (4, .int v13), (0, .ref (ad p)), (2, .ref (ad q2))]) (fun _ => rfl) (fun v18 ls hf hl => ?_)
  refine lv_goto (tgt := 17) hM.1 hM.2.1 dX4_tellLaw_95 (by decide) ?_
  exact hrec _ _ _ _ _ hf hw (lv_sub hl [2, 3, 0] rfl)
set_option maxHeartbeats 4000000 in
set_option maxRecDepth 100000 in
theorem w_X4_tellLaw_L17 {p0 : Program} {l : Launch} {e : Env} {s : State} {m : MethodId} {args : Array Value} {below : List Frame} {meth : Method} {c : Code} {Q : State → Prop} {D : va_G} {G : GG} {A : Nat → Prop} {H0 : Heap} {ad : Nat → Nat} {lay : List KK} {X : va_W} {ρ : Type} {p : Nat} {q2 : Nat} {r0 : ρ} {K1 : PH → Option ρ} (hM : CallFix p0 m c cX4_tellLaw 5 s args lw_g RX4) (ho : okX4 lay p) (ho2 : okX2 lay q2) (hk1 : ∀ (h : PH), ∀ (H : Heap) (locs : List Loc) (ls : Array Slot), K1 h = some r0 → Wd D G A H0 ad lay X h s H locs → lv_has ls 5 [(0, .ref (ad p)), (2, .ref (ad q2))] → W p0 l e (rmN 25 2424) s m args below meth c H locs 0 0 Q (F0 m 98 ls [])) (n : Nat) (x3 : Int32) (h : PH) (hf : lq2 (c_X4_tellLaw_L17b p q2 K1) n x3 h = some r0) : ∀ (H : Heap) (locs : List Loc) (ls : Array Slot), Wd D G A H0 ad lay X h s H locs → lv_has ls 5 [(0, .ref (ad p)), (2, .ref (ad q2)), (3, .int x3)] → W p0 l e (rmN 25 2424) s m args below meth c H locs 0 0 Q (F0 m 17 ls []) := by
  exact lq2_i (fun (x3 : Int32) (h : PH) => ∀ (H : Heap) (locs : List Loc) (ls : Array Slot), Wd D G A H0 ad lay X h s H locs → lv_has ls 5 [(0, .ref (ad p)), (2, .ref (ad q2)), (3, .int x3)] → W p0 l e (rmN 25 2424) s m args below meth c H locs 0 0 Q (F0 m 17 ls [])) (fun REC x3 h ih hf H locs ls hw hl => w_X4_tellLaw_L17b hM ho ho2 hk1 (fun x3 h H locs ls hf hw hl => ih x3 h hf H locs ls hw hl) hw hl hf) n x3 h hf
def c_X4_tellLaw (p : Nat) (q2 : Nat) (a1 : Int32) (h : PH) : Option (PH) :=
  (c_X2_clear q2 h).bind fun h1 =>
  (c_X4_accept p a1 h1).bind fun h2 =>
  (c_X4_accept p 61 h2).bind fun h3 =>
  nm (0 : Int32) fun v4 =>
  lq2 (c_X4_tellLaw_L17b p q2
    (fun h19 =>
      (c_X4_sum p q2 0 h19).bind fun h20 =>
      (c_X2_add q2 (-1) h20).bind fun h21 =>
      some h21)) fu v4 h3
set_option maxHeartbeats 4000000 in
set_option maxRecDepth 100000 in
theorem ct_X4_tellLaw (l : Launch) {lay : List KK} {p : Nat} {q2 : Nat} (ho : okX4 lay p) (ho2 : okX2 lay q2) (a1 : Int32) : CtV l yX4_tellLaw cX4_tellLaw 5 (none) 25 2424 lay (fun h => c_X4_tellLaw p q2 a1 h) (fun ad => [.ref (ad p), .int a1, .ref (ad q2)]) := by
  refine CtV.mk' RX4 (by decide) rfl (fun _ => Nat.le_of_ble_eq_true rfl) ?_
  intro p0 e s m args below meth c D G A H0 ad X h r0 H ls Q hM hw hl hf hR
  have hl : lv_has ls 5 [(0, .ref (ad p)), (1, .int a1), (2, .ref (ad q2))] := hl
  unfold c_X4_tellLaw at hf
  refine lv_aload_n hM.1 hM.2.1 dX4_tellLaw_0 rfl (lv_at hl 2 rfl) ?_
  refine x_callVV (rest := []) hM hw (ct_X2_clear l ho2) [] (okX2.o ho2) rfl rfl rfl (gi_V ml_X4_150 im_X2_clear sl_X2_clear in_X2 kc_X2_clear) hd_X2_clear rfl ⟨Nat.le_of_ble_eq_true rfl, Nat.le_of_ble_eq_true rfl⟩ rfl (Nat.le_of_ble_eq_true rfl) hl.1 hcs0 hf dX4_tellLaw_1 (fun h1 H locs hf hw => ?_)
  refine lv_aload_n hM.1 hM.2.1 dX4_tellLaw_4 rfl (lv_at hl 0 rfl) ?_
  refine lv_iload_n hM.1 hM.2.1 dX4_tellLaw_5 rfl (lv_at hl 1 rfl) ?_
  refine x_callVV (rest := []) hM hw (ct_X4_accept l ho a1) [.int a1] (okX4.o ho) rfl rfl rfl (gi_V ml_X4_95 im_X4_accept sl_X4_accept in_X4 kc_X4_accept) hd_X4_accept rfl ⟨Nat.le_of_ble_eq_true rfl, Nat.le_of_ble_eq_true rfl⟩ rfl (Nat.le_of_ble_eq_true rfl) hl.1 hcs0 hf dX4_tellLaw_6 (fun h2 H locs hf hw => ?_)
  refine lv_aload_n hM.1 hM.2.1 dX4_tellLaw_9 rfl (lv_at hl 0 rfl) ?_
  refine lv_bipush (v := 61) hM.1 hM.2.1 dX4_tellLaw_10 (by decide) ?_
  refine x_callVV (rest := []) hM hw (ct_X4_accept l ho 61) [.int 61] (okX4.o ho) rfl rfl rfl (gi_V ml_X4_95 im_X4_accept sl_X4_accept in_X4 kc_X4_accept) hd_X4_accept rfl ⟨Nat.le_of_ble_eq_true rfl, Nat.le_of_ble_eq_true rfl⟩ rfl (Nat.le_of_ble_eq_true rfl) hl.1 hcs0 hf dX4_tellLaw_12 (fun h3 H locs hf hw => ?_)
  refine lv_iconst (v := 0) hM.1 hM.2.1 dX4_tellLaw_15 ic_0 ?_
  refine x_istore_n hM hf dX4_tellLaw_16 rfl hl (by decide) (fun v4 => [(3, .int v4), (0, .ref (ad p)), (1, .int a1), (2, .ref (ad q2))]) (fun _ => rfl) (fun v4 ls hf hl => ?_)
  refine w_X4_tellLaw_L17 hM ho ho2 (fun h19 H locs ls hf hw hl => ?_) fu _ _ hf _ _ _ hw (lv_sub hl [1, 3, 0] rfl)
  refine lv_aload_n hM.1 hM.2.1 dX4_tellLaw_98 rfl (lv_at hl 0 rfl) ?_
  refine lv_aload_n hM.1 hM.2.1 dX4_tellLaw_99 rfl (lv_at hl 1 rfl) ?_
  refine lv_iconst (v := 0) hM.1 hM.2.1 dX4_tellLaw_100 ic_0 ?_
  refine x_callVV (rest := []) hM hw (ct_X4_sum l ho ho2 0) [.ref (ad q2), .int 0] (okX4.o ho) rfl rfl rfl (gi_V ml_X4_153 im_X4_sum sl_X4_sum in_X4 kc_X4_sum) hd_X4_sum rfl ⟨Nat.le_of_ble_eq_true rfl, Nat.le_of_ble_eq_true rfl⟩ rfl (Nat.le_of_ble_eq_true rfl) hl.1 hcs0 hf dX4_tellLaw_101 (fun h20 H locs hf hw => ?_)
  refine lv_aload_n hM.1 hM.2.1 dX4_tellLaw_104 rfl (lv_at hl 1 rfl) ?_
  refine lv_iconst (v := (-1)) hM.1 hM.2.1 dX4_tellLaw_105 ic_m1 ?_
  refine x_callVV (rest := []) hM hw (ct_X2_add l ho2 (-1)) [.int (-1)] (okX2.o ho2) rfl rfl rfl (gi_V ml_X4_160 im_X2_add sl_X2_add in_X2 kc_X2_add) hd_X2_add rfl ⟨Nat.le_of_ble_eq_true rfl, Nat.le_of_ble_eq_true rfl⟩ rfl (Nat.le_of_ble_eq_true rfl) hl.1 hcs0 hf dX4_tellLaw_106 (fun h21 H locs hf hw => ?_)
  exact hR _ _ _ _ _ (Option.some.inj hf) rfl hw dX4_tellLaw_109
theorem hd_X4_tellLaw : yX4_tellLaw.cls = RX4 ∧ yX4_tellLaw.cls ≠ "java/lang/invoke/MethodHandle" ∧ yX4_tellLaw.cls ≠ "java/lang/invoke/VarHandle" ∧ (parseMethodDescriptor yX4_tellLaw.desc).map (fun d => d.parameters.length) = some 2 := ⟨rfl, by decide, by decide, by decide +kernel⟩
theorem dX4_setting_0 : decode cX4_setting 0 = .ok (.aload_n 0, 1) := by decide +kernel
theorem dX4_setting_1 : decode cX4_setting 1 = .ok (.iload_n 1, 1) := by decide +kernel
theorem dX4_setting_2 : decode cX4_setting 2 = .ok (.invokevirtual 95, 3) := by decide +kernel
theorem dX4_setting_5 : decode cX4_setting 5 = .ok (.aload_n 0, 1) := by decide +kernel
theorem dX4_setting_6 : decode cX4_setting 6 = .ok (.iconst 0, 1) := by decide +kernel
theorem dX4_setting_7 : decode cX4_setting 7 = .ok (.iload_n 2, 1) := by decide +kernel
theorem dX4_setting_8 : decode cX4_setting 8 = .ok (.invokevirtual 109, 3) := by decide +kernel
theorem dX4_setting_11 : decode cX4_setting 11 = .ok (.ireturn, 1) := by decide +kernel
def c_X4_setting (p : Nat) (a1 : Int32) (a2 : Int32) (h : PH) : Option (Int32 × PH) :=
  (c_X4_accept p a1 h).bind fun h1 =>
  bind2 (c_X4_number p 0 a2 h1) fun r2 h3 =>
  some (r2, h3)
set_option maxHeartbeats 4000000 in
set_option maxRecDepth 100000 in
theorem ct_X4_setting (l : Launch) {lay : List KK} {p : Nat} (ho : okX4 lay p) (a1 : Int32) (a2 : Int32) : CtI l yX4_setting cX4_setting 3 (some .int) 2 46 lay (fun h => c_X4_setting p a1 a2 h) (fun ad => [.ref (ad p), .int a1, .int a2]) := by
  refine CtI.mk' RX4 (by decide) rfl (fun _ => Nat.le_of_ble_eq_true rfl) ?_
  intro p0 e s m args below meth c D G A H0 ad X h r0 H ls Q hM hw hl hf hR
  have hl : lv_has ls 3 [(0, .ref (ad p)), (1, .int a1), (2, .int a2)] := hl
  unfold c_X4_setting at hf
  refine lv_aload_n hM.1 hM.2.1 dX4_setting_0 rfl (lv_at hl 0 rfl) ?_
  refine lv_iload_n hM.1 hM.2.1 dX4_setting_1 rfl (lv_at hl 1 rfl) ?_
  refine x_callVV (rest := []) hM hw (ct_X4_accept l ho a1) [.int a1] (okX4.o ho) rfl rfl rfl (gi_V ml_X4_95 im_X4_accept sl_X4_accept in_X4 kc_X4_accept) hd_X4_accept rfl ⟨Nat.le_of_ble_eq_true rfl, Nat.le_of_ble_eq_true rfl⟩ rfl (Nat.le_of_ble_eq_true rfl) hl.1 hcs0 hf dX4_setting_2 (fun h1 H locs hf hw => ?_)
  refine lv_aload_n hM.1 hM.2.1 dX4_setting_5 rfl (lv_at hl 0 rfl) ?_
  refine lv_iconst (v := 0) hM.1 hM.2.1 dX4_setting_6 ic_0 ?_
  refine lv_iload_n hM.1 hM.2.1 dX4_setting_7 rfl (lv_at hl 2 rfl) ?_
  refine x_callVI (rest := []) hM hw (ct_X4_number l ho 0 a2) [.int 0, .int a2] (okX4.o ho) rfl rfl rfl (gi_V ml_X4_109 im_X4_number sl_X4_number in_X4 kc_X4_number) hd_X4_number rfl ⟨Nat.le_of_ble_eq_true rfl, Nat.le_of_ble_eq_true rfl⟩ rfl (Nat.le_of_ble_eq_true rfl) hl.1 hcs0 hf dX4_setting_8 (fun r2 h3 H locs hf hw => ?_)
  exact hR _ _ _ _ _ _ _ (Option.some.inj hf) rfl rfl hw dX4_setting_11
theorem hd_X4_setting : yX4_setting.cls = RX4 ∧ yX4_setting.cls ≠ "java/lang/invoke/MethodHandle" ∧ yX4_setting.cls ≠ "java/lang/invoke/VarHandle" ∧ (parseMethodDescriptor yX4_setting.desc).map (fun d => d.parameters.length) = some 2 := ⟨rfl, by decide, by decide, by decide +kernel⟩
theorem dX4_parse_0 : decode cX4_parse 0 = .ok (.aload_n 0, 1) := by decide +kernel
theorem dX4_parse_1 : decode cX4_parse 1 = .ok (.getfield 12, 3) := by decide +kernel
theorem dX4_parse_4 : decode cX4_parse 4 = .ok (.aload_n 1, 1) := by decide +kernel
theorem dX4_parse_5 : decode cX4_parse 5 = .ok (.iload_n 2, 1) := by decide +kernel
theorem dX4_parse_6 : decode cX4_parse 6 = .ok (.invokevirtual 41, 3) := by decide +kernel
theorem dX4_parse_9 : decode cX4_parse 9 = .ok (.aload_n 0, 1) := by decide +kernel
theorem dX4_parse_10 : decode cX4_parse 10 = .ok (.getfield 21, 3) := by decide +kernel
theorem dX4_parse_13 : decode cX4_parse 13 = .ok (.invokevirtual 45, 3) := by decide +kernel
theorem dX4_parse_16 : decode cX4_parse 16 = .ok (.aload_n 0, 1) := by decide +kernel
theorem dX4_parse_17 : decode cX4_parse 17 = .ok (.iconst 0, 1) := by decide +kernel
theorem dX4_parse_18 : decode cX4_parse 18 = .ok (.putfield 25, 3) := by decide +kernel
theorem dX4_parse_21 : decode cX4_parse 21 = .ok (.aload_n 0, 1) := by decide +kernel
theorem dX4_parse_22 : decode cX4_parse 22 = .ok (.iconst 0, 1) := by decide +kernel
theorem dX4_parse_23 : decode cX4_parse 23 = .ok (.putfield 29, 3) := by decide +kernel
theorem dX4_parse_26 : decode cX4_parse 26 = .ok (.aload_n 0, 1) := by decide +kernel
theorem dX4_parse_27 : decode cX4_parse 27 = .ok (.iconst (-1), 1) := by decide +kernel
theorem dX4_parse_28 : decode cX4_parse 28 = .ok (.putfield 32, 3) := by decide +kernel
theorem dX4_parse_31 : decode cX4_parse 31 = .ok (.aload_n 0, 1) := by decide +kernel
theorem dX4_parse_32 : decode cX4_parse 32 = .ok (.iconst 0, 1) := by decide +kernel
theorem dX4_parse_33 : decode cX4_parse 33 = .ok (.putfield 35, 3) := by decide +kernel
theorem dX4_parse_36 : decode cX4_parse 36 = .ok (.aload_n 0, 1) := by decide +kernel
theorem dX4_parse_37 : decode cX4_parse 37 = .ok (.iconst (-1), 1) := by decide +kernel
theorem dX4_parse_38 : decode cX4_parse 38 = .ok (.putfield 38, 3) := by decide +kernel
theorem dX4_parse_41 : decode cX4_parse 41 = .ok (.iconst 0, 1) := by decide +kernel
theorem dX4_parse_42 : decode cX4_parse 42 = .ok (.istore_n 3, 1) := by decide +kernel
theorem dX4_parse_43 : decode cX4_parse 43 = .ok (.iload_n 3, 1) := by decide +kernel
theorem dX4_parse_44 : decode cX4_parse 44 = .ok (.sipush 400, 3) := by decide +kernel
theorem dX4_parse_47 : decode cX4_parse 47 = .ok (.if_icmp .gt 217, 3) := by decide +kernel
theorem dX4_parse_50 : decode cX4_parse 50 = .ok (.aload_n 0, 1) := by decide +kernel
theorem dX4_parse_51 : decode cX4_parse 51 = .ok (.getfield 29, 3) := by decide +kernel
theorem dX4_parse_54 : decode cX4_parse 54 = .ok (.ifCond .ne 210, 3) := by decide +kernel
theorem dX4_parse_57 : decode cX4_parse 57 = .ok (.aload_n 0, 1) := by decide +kernel
theorem dX4_parse_58 : decode cX4_parse 58 = .ok (.invokevirtual 48, 3) := by decide +kernel
theorem dX4_parse_61 : decode cX4_parse 61 = .ok (.ifCond .eq 203, 3) := by decide +kernel
theorem dX4_parse_64 : decode cX4_parse 64 = .ok (.aload_n 0, 1) := by decide +kernel
theorem dX4_parse_65 : decode cX4_parse 65 = .ok (.invokevirtual 48, 3) := by decide +kernel
theorem dX4_parse_68 : decode cX4_parse 68 = .ok (.tableswitch 179 64 73 #[56, 63, 70, 77, 84, 91, 107, 123, 141, 160], 56) := by decide +kernel
theorem dX4_parse_124 : decode cX4_parse 124 = .ok (.aload_n 0, 1) := by decide +kernel
theorem dX4_parse_125 : decode cX4_parse 125 = .ok (.invokevirtual 52, 3) := by decide +kernel
theorem dX4_parse_128 : decode cX4_parse 128 = .ok (.goto 124, 3) := by decide +kernel
theorem dX4_parse_131 : decode cX4_parse 131 = .ok (.aload_n 0, 1) := by decide +kernel
theorem dX4_parse_132 : decode cX4_parse 132 = .ok (.invokevirtual 55, 3) := by decide +kernel
theorem dX4_parse_135 : decode cX4_parse 135 = .ok (.goto 117, 3) := by decide +kernel
theorem dX4_parse_138 : decode cX4_parse 138 = .ok (.aload_n 0, 1) := by decide +kernel
theorem dX4_parse_139 : decode cX4_parse 139 = .ok (.invokevirtual 58, 3) := by decide +kernel
theorem dX4_parse_142 : decode cX4_parse 142 = .ok (.goto 110, 3) := by decide +kernel
theorem dX4_parse_145 : decode cX4_parse 145 = .ok (.aload_n 0, 1) := by decide +kernel
theorem dX4_parse_146 : decode cX4_parse 146 = .ok (.invokevirtual 61, 3) := by decide +kernel
theorem dX4_parse_149 : decode cX4_parse 149 = .ok (.goto 103, 3) := by decide +kernel
theorem dX4_parse_152 : decode cX4_parse 152 = .ok (.aload_n 0, 1) := by decide +kernel
theorem dX4_parse_153 : decode cX4_parse 153 = .ok (.invokevirtual 64, 3) := by decide +kernel
theorem dX4_parse_156 : decode cX4_parse 156 = .ok (.goto 96, 3) := by decide +kernel
theorem dX4_parse_159 : decode cX4_parse 159 = .ok (.aload_n 0, 1) := by decide +kernel
theorem dX4_parse_160 : decode cX4_parse 160 = .ok (.bipush 69, 2) := by decide +kernel
theorem dX4_parse_162 : decode cX4_parse 162 = .ok (.aload_n 0, 1) := by decide +kernel
theorem dX4_parse_163 : decode cX4_parse 163 = .ok (.getfield 21, 3) := by decide +kernel
theorem dX4_parse_166 : decode cX4_parse 166 = .ok (.getfield 67, 3) := by decide +kernel
theorem dX4_parse_169 : decode cX4_parse 169 = .ok (.invokevirtual 71, 3) := by decide +kernel
theorem dX4_parse_172 : decode cX4_parse 172 = .ok (.goto 80, 3) := by decide +kernel
theorem dX4_parse_175 : decode cX4_parse 175 = .ok (.aload_n 0, 1) := by decide +kernel
theorem dX4_parse_176 : decode cX4_parse 176 = .ok (.bipush 70, 2) := by decide +kernel
theorem dX4_parse_178 : decode cX4_parse 178 = .ok (.aload_n 0, 1) := by decide +kernel
theorem dX4_parse_179 : decode cX4_parse 179 = .ok (.getfield 21, 3) := by decide +kernel
theorem dX4_parse_182 : decode cX4_parse 182 = .ok (.getfield 75, 3) := by decide +kernel
theorem dX4_parse_185 : decode cX4_parse 185 = .ok (.invokevirtual 71, 3) := by decide +kernel
theorem dX4_parse_188 : decode cX4_parse 188 = .ok (.goto 64, 3) := by decide +kernel
theorem dX4_parse_191 : decode cX4_parse 191 = .ok (.aload_n 0, 1) := by decide +kernel
theorem dX4_parse_192 : decode cX4_parse 192 = .ok (.getfield 21, 3) := by decide +kernel
theorem dX4_parse_195 : decode cX4_parse 195 = .ok (.aload_n 0, 1) := by decide +kernel
theorem dX4_parse_196 : decode cX4_parse 196 = .ok (.bipush 71, 2) := by decide +kernel
theorem dX4_parse_198 : decode cX4_parse 198 = .ok (.bipush 100, 2) := by decide +kernel
theorem dX4_parse_200 : decode cX4_parse 200 = .ok (.invokevirtual 78, 3) := by decide +kernel
theorem dX4_parse_203 : decode cX4_parse 203 = .ok (.putfield 82, 3) := by decide +kernel
theorem dX4_parse_206 : decode cX4_parse 206 = .ok (.goto 46, 3) := by decide +kernel
theorem dX4_parse_209 : decode cX4_parse 209 = .ok (.aload_n 0, 1) := by decide +kernel
theorem dX4_parse_210 : decode cX4_parse 210 = .ok (.getfield 21, 3) := by decide +kernel
theorem dX4_parse_213 : decode cX4_parse 213 = .ok (.aload_n 0, 1) := by decide +kernel
theorem dX4_parse_214 : decode cX4_parse 214 = .ok (.bipush 72, 2) := by decide +kernel
theorem dX4_parse_216 : decode cX4_parse 216 = .ok (.sipush 999, 3) := by decide +kernel
theorem dX4_parse_219 : decode cX4_parse 219 = .ok (.invokevirtual 78, 3) := by decide +kernel
theorem dX4_parse_222 : decode cX4_parse 222 = .ok (.putfield 85, 3) := by decide +kernel
theorem dX4_parse_225 : decode cX4_parse 225 = .ok (.goto 27, 3) := by decide +kernel
theorem dX4_parse_228 : decode cX4_parse 228 = .ok (.aload_n 0, 1) := by decide +kernel
theorem dX4_parse_229 : decode cX4_parse 229 = .ok (.getfield 21, 3) := by decide +kernel
theorem dX4_parse_232 : decode cX4_parse 232 = .ok (.aload_n 0, 1) := by decide +kernel
theorem dX4_parse_233 : decode cX4_parse 233 = .ok (.bipush 73, 2) := by decide +kernel
theorem dX4_parse_235 : decode cX4_parse 235 = .ok (.sipush 9999, 3) := by decide +kernel
theorem dX4_parse_238 : decode cX4_parse 238 = .ok (.invokevirtual 78, 3) := by decide +kernel
theorem dX4_parse_241 : decode cX4_parse 241 = .ok (.putfield 88, 3) := by decide +kernel
theorem dX4_parse_244 : decode cX4_parse 244 = .ok (.goto 8, 3) := by decide +kernel
theorem dX4_parse_247 : decode cX4_parse 247 = .ok (.aload_n 0, 1) := by decide +kernel
theorem dX4_parse_248 : decode cX4_parse 248 = .ok (.iconst 1, 1) := by decide +kernel
theorem dX4_parse_249 : decode cX4_parse 249 = .ok (.invokevirtual 91, 3) := by decide +kernel
theorem dX4_parse_252 : decode cX4_parse 252 = .ok (.aload_n 0, 1) := by decide +kernel
theorem dX4_parse_253 : decode cX4_parse 253 = .ok (.bipush 59, 2) := by decide +kernel
theorem dX4_parse_255 : decode cX4_parse 255 = .ok (.invokevirtual 95, 3) := by decide +kernel
theorem dX4_parse_258 : decode cX4_parse 258 = .ok (.iinc 3 1, 3) := by decide +kernel
theorem dX4_parse_261 : decode cX4_parse 261 = .ok (.goto (-218), 3) := by decide +kernel
theorem dX4_parse_264 : decode cX4_parse 264 = .ok (.aload_n 0, 1) := by decide +kernel
theorem dX4_parse_265 : decode cX4_parse 265 = .ok (.getfield 29, 3) := by decide +kernel
theorem dX4_parse_268 : decode cX4_parse 268 = .ok (.ifCond .eq 10, 3) := by decide +kernel
theorem dX4_parse_271 : decode cX4_parse 271 = .ok (.aload_n 0, 1) := by decide +kernel
theorem dX4_parse_272 : decode cX4_parse 272 = .ok (.getfield 29, 3) := by decide +kernel
theorem dX4_parse_275 : decode cX4_parse 275 = .ok (.goto 7, 3) := by decide +kernel
theorem dX4_parse_278 : decode cX4_parse 278 = .ok (.aload_n 0, 1) := by decide +kernel
theorem dX4_parse_279 : decode cX4_parse 279 = .ok (.getfield 35, 3) := by decide +kernel
theorem dX4_parse_282 : decode cX4_parse 282 = .ok (.ireturn, 1) := by decide +kernel
def c_X4_parse_j252 {ρ : Type}  (p : Nat) (q1 : Nat) (K1 : PH → Option ρ) (REC : Int32 → PH → Option ρ) (x3 : Int32) (h : PH) : Option (ρ) :=
  (c_X4_accept p 59 h).bind fun h13 =>
  nm (x3 + 1) fun v14 =>
  REC v14 h13
set_option maxHeartbeats 4000000 in
set_option maxRecDepth 100000 in
theorem w_X4_parse_j252 {p0 : Program} {l : Launch} {e : Env} {s : State} {m : MethodId} {args : Array Value} {below : List Frame} {meth : Method} {c : Code} {Q : State → Prop} {D : va_G} {G : GG} {A : Nat → Prop} {H0 : Heap} {ad : Nat → Nat} {lay : List KK} {X : va_W} {ρ : Type} {p : Nat} {q1 : Nat} {r0 : ρ} {x3 : Int32} {h : PH} {H : Heap} {locs : List Loc} {ls : Array Slot} {K1 : PH → Option ρ} {REC : Int32 → PH → Option ρ} (hM : CallFix p0 m c cX4_parse 4 s args lw_g RX4) (ho : okX4 lay p) (ho1 : lay[q1]? = some (kB 2000)) (hk1 : ∀ (h : PH), ∀ (H : Heap) (locs : List Loc) (ls : Array Slot), K1 h = some r0 → Wd D G A H0 ad lay X h s H locs → lv_has ls 4 [(0, .ref (ad p))] → W p0 l e (rmN 26 2448) s m args below meth c H locs 0 0 Q (F0 m 264 ls [])) (hrec : ∀ (x3 : Int32) (h : PH), ∀ (H : Heap) (locs : List Loc) (ls : Array Slot), REC x3 h = some r0 → Wd D G A H0 ad lay X h s H locs → lv_has ls 4 [(0, .ref (ad p)), (3, .int x3)] → W p0 l e (rmN 26 2448) s m args below meth c H locs 0 0 Q (F0 m 43 ls [])) (hw : Wd D G A H0 ad lay X h s H locs) (hl : lv_has ls 4 [(0, .ref (ad p)), (3, .int x3)]) (hf : c_X4_parse_j252 p q1 K1 REC x3 h = some r0) : W p0 l e (rmN 26 2448) s m args below meth c H locs 0 0 Q (F0 m 252 ls []) := by
  unfold c_X4_parse_j252 at hf
  refine lv_aload_n hM.1 hM.2.1 dX4_parse_252 rfl (lv_at hl 0 rfl) ?_
  refine lv_bipush (v := 59) hM.1 hM.2.1 dX4_parse_253 (by decide) ?_
  refine x_callVV (rest := []) hM hw (ct_X4_accept l ho 59) [.int 59] (okX4.o ho) rfl rfl rfl (gi_V ml_X4_95 im_X4_accept sl_X4_accept in_X4 kc_X4_accept) hd_X4_accept rfl ⟨Nat.le_of_ble_eq_true rfl, Nat.le_of_ble_eq_true rfl⟩ rfl (Nat.le_of_ble_eq_true rfl) hl.1 hcs0 hf dX4_parse_255 (fun h13 H locs hf hw => ?_)
  refine x_iinc (k := 1) (d := 1) hM hf dX4_parse_258 hl rfl (by decide) (by decide) (fun v14 => [(3, .int v14), (0, .ref (ad p))]) (fun _ => rfl) (fun v14 ls hf hl => ?_)
  refine lv_goto (tgt := 43) hM.1 hM.2.1 dX4_parse_261 (by decide) ?_
  exact hrec _ _ _ _ _ hf hw (lv_sub hl [1, 0] rfl)
def c_X4_parse_L43b {ρ : Type}  (p : Nat) (q1 : Nat) (K1 : PH → Option ρ) (REC : Int32 → PH → Option ρ) (x3 : Int32) (h : PH) : Option ρ :=
  if 400 < x3 then
    K1 h
  else
    if (h.1 p 3) = 0 then
      (c_X4_kind p h).bind fun r10 =>
      if r10 = 0 then
        K1 h
      else
        (c_X4_kind p h).bind fun r11 =>
        if r11 = 64 then
          (c_X4_tellMan p h).bind fun h12 =>
          c_X4_parse_j252 p q1 K1 REC x3 h12
        else
        if r11 = 65 then
          (c_X4_tellExcuse p h).bind fun h15 =>
          c_X4_parse_j252 p q1 K1 REC x3 h15
        else
        if r11 = 66 then
          (c_X4_tellDuty p h).bind fun h16 =>
          c_X4_parse_j252 p q1 K1 REC x3 h16
        else
        if r11 = 67 then
          (c_X4_tellKnows p h).bind fun h17 =>
          c_X4_parse_j252 p q1 K1 REC x3 h17
        else
        if r11 = 68 then
          (c_X4_tellTest p h).bind fun h18 =>
          c_X4_parse_j252 p q1 K1 REC x3 h18
        else
        if r11 = 69 then
          nm (h.2.2 p 1) fun t19 =>
          gd (tOK t19) <|
          (c_X4_tellLaw p (t19 + 1) 69 h).bind fun h20 =>
          c_X4_parse_j252 p q1 K1 REC x3 h20
        else
        if r11 = 70 then
          nm (h.2.2 p 1) fun t21 =>
          gd (tOK t21) <|
          (c_X4_tellLaw p (t21 + 4) 70 h).bind fun h22 =>
          c_X4_parse_j252 p q1 K1 REC x3 h22
        else
        if r11 = 71 then
          nm (h.2.2 p 1) fun t23 =>
          gd (tOK t23) <|
          bind2 (c_X4_setting p 71 100 h) fun r24 h25 =>
          nm (setI h25 t23 5 r24) fun h26 =>
          c_X4_parse_j252 p q1 K1 REC x3 h26
        else
        if r11 = 72 then
          nm (h.2.2 p 1) fun t27 =>
          gd (tOK t27) <|
          bind2 (c_X4_setting p 72 999 h) fun r28 h29 =>
          nm (setI h29 t27 6 r28) fun h30 =>
          c_X4_parse_j252 p q1 K1 REC x3 h30
        else
        if r11 = 73 then
          nm (h.2.2 p 1) fun t31 =>
          gd (tOK t31) <|
          bind2 (c_X4_setting p 73 9999 h) fun r32 h33 =>
          nm (setI h33 t31 7 r32) fun h34 =>
          c_X4_parse_j252 p q1 K1 REC x3 h34
        else
          (c_X4_breakOff p 1 h).bind fun h35 =>
          c_X4_parse_j252 p q1 K1 REC x3 h35
    else
      K1 h
set_option maxHeartbeats 4000000 in
set_option maxRecDepth 100000 in
theorem w_X4_parse_L43b {p0 : Program} {l : Launch} {e : Env} {s : State} {m : MethodId} {args : Array Value} {below : List Frame} {meth : Method} {c : Code} {Q : State → Prop} {D : va_G} {G : GG} {A : Nat → Prop} {H0 : Heap} {ad : Nat → Nat} {lay : List KK} {X : va_W} {ρ : Type} {p : Nat} {q1 : Nat} {r0 : ρ} {x3 : Int32} {h : PH} {H : Heap} {locs : List Loc} {ls : Array Slot} {K1 : PH → Option ρ} {REC : Int32 → PH → Option ρ} (hM : CallFix p0 m c cX4_parse 4 s args lw_g RX4) (ho : okX4 lay p) (ho1 : lay[q1]? = some (kB 2000)) (hk1 : ∀ (h : PH), ∀ (H : Heap) (locs : List Loc) (ls : Array Slot), K1 h = some r0 → Wd D G A H0 ad lay X h s H locs → lv_has ls 4 [(0, .ref (ad p))] → W p0 l e (rmN 26 2448) s m args below meth c H locs 0 0 Q (F0 m 264 ls [])) (hrec : ∀ (x3 : Int32) (h : PH), ∀ (H : Heap) (locs : List Loc) (ls : Array Slot), REC x3 h = some r0 → Wd D G A H0 ad lay X h s H locs → lv_has ls 4 [(0, .ref (ad p)), (3, .int x3)] → W p0 l e (rmN 26 2448) s m args below meth c H locs 0 0 Q (F0 m 43 ls [])) (hw : Wd D G A H0 ad lay X h s H locs) (hl : lv_has ls 4 [(0, .ref (ad p)), (3, .int x3)]) (hf : c_X4_parse_L43b p q1 K1 REC x3 h = some r0) : W p0 l e (rmN 26 2448) s m args below meth c H locs 0 0 Q (F0 m 43 ls []) := by
  unfold c_X4_parse_L43b at hf
  refine lv_iload_n hM.1 hM.2.1 dX4_parse_43 rfl (lv_at hl 1 rfl) ?_
  refine lv_sipush (v := 400) hM.1 hM.2.1 dX4_parse_44 (by decide) ?_
  refine x_ic_gt (tgt := 264) hM hf dX4_parse_47 (by decide) (fun hf => ?_) (fun hf => ?_)
  · exact hk1 _ _ _ _ hf hw (lv_sub hl [0] rfl)
  refine lv_aload_n hM.1 hM.2.1 dX4_parse_50 rfl (lv_at hl 0 rfl) ?_
  refine gf_X4_broken hM hw (okX4.o ho) fl_X4_29 dX4_parse_51 ?_
  refine x_if_ne (tgt := 264) hM hf dX4_parse_54 (by decide) (fun hf => ?_) (fun hf => ?_)
  · exact hk1 _ _ _ _ hf hw (lv_sub hl [0] rfl)
  refine lv_aload_n hM.1 hM.2.1 dX4_parse_57 rfl (lv_at hl 0 rfl) ?_
  refine x_callVIr (rest := []) hM hw (ct_X4_kind l ho) [] (okX4.o ho) rfl rfl rfl (gi_V ml_X4_48 im_X4_kind sl_X4_kind in_X4 kc_X4_kind) hd_X4_kind rfl ⟨Nat.le_of_ble_eq_true rfl, Nat.le_of_ble_eq_true rfl⟩ rfl (Nat.le_of_ble_eq_true rfl) hl.1 hcs0 hf dX4_parse_58 (fun r10 H locs hf hw => ?_)
  refine x_if_eq (tgt := 264) hM hf dX4_parse_61 (by decide) (fun hf => ?_) (fun hf => ?_)
  · exact hk1 _ _ _ _ hf hw (lv_sub hl [0] rfl)
  refine lv_aload_n hM.1 hM.2.1 dX4_parse_64 rfl (lv_at hl 0 rfl) ?_
  refine x_callVIr (rest := []) hM hw (ct_X4_kind l ho) [] (okX4.o ho) rfl rfl rfl (gi_V ml_X4_48 im_X4_kind sl_X4_kind in_X4 kc_X4_kind) hd_X4_kind rfl ⟨Nat.le_of_ble_eq_true rfl, Nat.le_of_ble_eq_true rfl⟩ rfl (Nat.le_of_ble_eq_true rfl) hl.1 hcs0 hf dX4_parse_65 (fun r11 H locs hf hw => ?_)
  refine x_sw hf (fun hx hf => ?_) (fun n64 hf => ?_)
  · refine x_tabIn (tgt := 124) hM hx dX4_parse_68 (by decide) (by decide) rfl (by decide) ?_
    refine lv_aload_n hM.1 hM.2.1 dX4_parse_124 rfl (lv_at hl 0 rfl) ?_
    refine x_callVV (rest := []) hM hw (ct_X4_tellMan l ho) [] (okX4.o ho) rfl rfl rfl (gi_V ml_X4_52 im_X4_tellMan sl_X4_tellMan in_X4 kc_X4_tellMan) hd_X4_tellMan rfl ⟨Nat.le_of_ble_eq_true rfl, Nat.le_of_ble_eq_true rfl⟩ rfl (Nat.le_of_ble_eq_true rfl) hl.1 hcs0 hf dX4_parse_125 (fun h12 H locs hf hw => ?_)
    refine lv_goto (tgt := 252) hM.1 hM.2.1 dX4_parse_128 (by decide) ?_
    exact w_X4_parse_j252 hM ho ho1 hk1 hrec hw hl hf
  refine x_sw hf (fun hx hf => ?_) (fun n65 hf => ?_)
  · refine x_tabIn (tgt := 131) hM hx dX4_parse_68 (by decide) (by decide) rfl (by decide) ?_
    refine lv_aload_n hM.1 hM.2.1 dX4_parse_131 rfl (lv_at hl 0 rfl) ?_
    refine x_callVV (rest := []) hM hw (ct_X4_tellExcuse l ho) [] (okX4.o ho) rfl rfl rfl (gi_V ml_X4_55 im_X4_tellExcuse sl_X4_tellExcuse in_X4 kc_X4_tellExcuse) hd_X4_tellExcuse rfl ⟨Nat.le_of_ble_eq_true rfl, Nat.le_of_ble_eq_true rfl⟩ rfl (Nat.le_of_ble_eq_true rfl) hl.1 hcs0 hf dX4_parse_132 (fun h15 H locs hf hw => ?_)
    refine lv_goto (tgt := 252) hM.1 hM.2.1 dX4_parse_135 (by decide) ?_
    exact w_X4_parse_j252 hM ho ho1 hk1 hrec hw hl hf
  refine x_sw hf (fun hx hf => ?_) (fun n66 hf => ?_)
  · refine x_tabIn (tgt := 138) hM hx dX4_parse_68 (by decide) (by decide) rfl (by decide) ?_
    refine lv_aload_n hM.1 hM.2.1 dX4_parse_138 rfl (lv_at hl 0 rfl) ?_
    refine x_callVV (rest := []) hM hw (ct_X4_tellDuty l ho) [] (okX4.o ho) rfl rfl rfl (gi_V ml_X4_58 im_X4_tellDuty sl_X4_tellDuty in_X4 kc_X4_tellDuty) hd_X4_tellDuty rfl ⟨Nat.le_of_ble_eq_true rfl, Nat.le_of_ble_eq_true rfl⟩ rfl (Nat.le_of_ble_eq_true rfl) hl.1 hcs0 hf dX4_parse_139 (fun h16 H locs hf hw => ?_)
    refine lv_goto (tgt := 252) hM.1 hM.2.1 dX4_parse_142 (by decide) ?_
    exact w_X4_parse_j252 hM ho ho1 hk1 hrec hw hl hf
  refine x_sw hf (fun hx hf => ?_) (fun n67 hf => ?_)
  · refine x_tabIn (tgt := 145) hM hx dX4_parse_68 (by decide) (by decide) rfl (by decide) ?_
    refine lv_aload_n hM.1 hM.2.1 dX4_parse_145 rfl (lv_at hl 0 rfl) ?_
    refine x_callVV (rest := []) hM hw (ct_X4_tellKnows l ho) [] (okX4.o ho) rfl rfl rfl (gi_V ml_X4_61 im_X4_tellKnows sl_X4_tellKnows in_X4 kc_X4_tellKnows) hd_X4_tellKnows rfl ⟨Nat.le_of_ble_eq_true rfl, Nat.le_of_ble_eq_true rfl⟩ rfl (Nat.le_of_ble_eq_true rfl) hl.1 hcs0 hf dX4_parse_146 (fun h17 H locs hf hw => ?_)
    refine lv_goto (tgt := 252) hM.1 hM.2.1 dX4_parse_149 (by decide) ?_
    exact w_X4_parse_j252 hM ho ho1 hk1 hrec hw hl hf
  refine x_sw hf (fun hx hf => ?_) (fun n68 hf => ?_)
  · refine x_tabIn (tgt := 152) hM hx dX4_parse_68 (by decide) (by decide) rfl (by decide) ?_
    refine lv_aload_n hM.1 hM.2.1 dX4_parse_152 rfl (lv_at hl 0 rfl) ?_
    refine x_callVV (rest := []) hM hw (ct_X4_tellTest l ho) [] (okX4.o ho) rfl rfl rfl (gi_V ml_X4_64 im_X4_tellTest sl_X4_tellTest in_X4 kc_X4_tellTest) hd_X4_tellTest rfl ⟨Nat.le_of_ble_eq_true rfl, Nat.le_of_ble_eq_true rfl⟩ rfl (Nat.le_of_ble_eq_true rfl) hl.1 hcs0 hf dX4_parse_153 (fun h18 H locs hf hw => ?_)
    refine lv_goto (tgt := 252) hM.1 hM.2.1 dX4_parse_156 (by decide) ?_
    exact w_X4_parse_j252 hM ho ho1 hk1 hrec hw hl hf
  refine x_sw hf (fun hx hf => ?_) (fun n69 hf => ?_)
  · refine x_tabIn (tgt := 159) hM hx dX4_parse_68 (by decide) (by decide) rfl (by decide) ?_
    refine lv_aload_n hM.1 hM.2.1 dX4_parse_159 rfl (lv_at hl 0 rfl) ?_
    refine lv_bipush (v := 69) hM.1 hM.2.1 dX4_parse_160 (by decide) ?_
    refine lv_aload_n hM.1 hM.2.1 dX4_parse_162 rfl (lv_at hl 0 rfl) ?_
    refine gf_X4_text hM hw (okX4.o ho) fl_X4_21 dX4_parse_163 ?_
    refine x_nmr hf (fun t19 hf => ?_)
    obtain ⟨hok_t19, hf⟩ := x_cond hf
    refine gf_X9_passes hM hw (okX9.o (okX4.textOf ho hok_t19)) fl_X4_67 dX4_parse_166 ?_
    refine x_callVV (rest := []) hM hw (ct_X4_tellLaw l ho (okX9.passes (okX4.textOf ho hok_t19)) 69) [.int 69, .ref (ad (t19 + 1))] (okX4.o ho) rfl rfl rfl (gi_V ml_X4_71 im_X4_tellLaw sl_X4_tellLaw in_X4 kc_X4_tellLaw) hd_X4_tellLaw rfl ⟨Nat.le_of_ble_eq_true rfl, Nat.le_of_ble_eq_true rfl⟩ rfl (Nat.le_of_ble_eq_true rfl) hl.1 hcs0 hf dX4_parse_169 (fun h20 H locs hf hw => ?_)
    refine lv_goto (tgt := 252) hM.1 hM.2.1 dX4_parse_172 (by decide) ?_
    exact w_X4_parse_j252 hM ho ho1 hk1 hrec hw hl hf
  refine x_sw hf (fun hx hf => ?_) (fun n70 hf => ?_)
  · refine x_tabIn (tgt := 175) hM hx dX4_parse_68 (by decide) (by decide) rfl (by decide) ?_
    refine lv_aload_n hM.1 hM.2.1 dX4_parse_175 rfl (lv_at hl 0 rfl) ?_
    refine lv_bipush (v := 70) hM.1 hM.2.1 dX4_parse_176 (by decide) ?_
    refine lv_aload_n hM.1 hM.2.1 dX4_parse_178 rfl (lv_at hl 0 rfl) ?_
    refine gf_X4_text hM hw (okX4.o ho) fl_X4_21 dX4_parse_179 ?_
    refine x_nmr hf (fun t21 hf => ?_)
    obtain ⟨hok_t21, hf⟩ := x_cond hf
    refine gf_X9_wears hM hw (okX9.o (okX4.textOf ho hok_t21)) fl_X4_75 dX4_parse_182 ?_
    refine x_callVV (rest := []) hM hw (ct_X4_tellLaw l ho (okX9.wears (okX4.textOf ho hok_t21)) 70) [.int 70, .ref (ad (t21 + 4))] (okX4.o ho) rfl rfl rfl (gi_V ml_X4_71 im_X4_tellLaw sl_X4_tellLaw in_X4 kc_X4_tellLaw) hd_X4_tellLaw rfl ⟨Nat.le_of_ble_eq_true rfl, Nat.le_of_ble_eq_true rfl⟩ rfl (Nat.le_of_ble_eq_true rfl) hl.1 hcs0 hf dX4_parse_185 (fun h22 H locs hf hw => ?_)
    refine lv_goto (tgt := 252) hM.1 hM.2.1 dX4_parse_188 (by decide) ?_
    exact w_X4_parse_j252 hM ho ho1 hk1 hrec hw hl hf
  refine x_sw hf (fun hx hf => ?_) (fun n71 hf => ?_)
  · refine x_tabIn (tgt := 191) hM hx dX4_parse_68 (by decide) (by decide) rfl (by decide) ?_
    refine lv_aload_n hM.1 hM.2.1 dX4_parse_191 rfl (lv_at hl 0 rfl) ?_
    refine gf_X4_text hM hw (okX4.o ho) fl_X4_21 dX4_parse_192 ?_
    refine x_nmr hf (fun t23 hf => ?_)
    obtain ⟨hok_t23, hf⟩ := x_cond hf
    refine lv_aload_n hM.1 hM.2.1 dX4_parse_195 rfl (lv_at hl 0 rfl) ?_
    refine lv_bipush (v := 71) hM.1 hM.2.1 dX4_parse_196 (by decide) ?_
    refine lv_bipush (v := 100) hM.1 hM.2.1 dX4_parse_198 (by decide) ?_
    refine x_callVI (rest := [.ref (ad t23)]) hM hw (ct_X4_setting l ho 71 100) [.int 71, .int 100] (okX4.o ho) rfl rfl rfl (gi_V ml_X4_78 im_X4_setting sl_X4_setting in_X4 kc_X4_setting) hd_X4_setting rfl ⟨Nat.le_of_ble_eq_true rfl, Nat.le_of_ble_eq_true rfl⟩ rfl (Nat.le_of_ble_eq_true rfl) hl.1 hcs0 hf dX4_parse_200 (fun r24 h25 H locs hf hw => ?_)
    refine pf_X9_rain hM hw (okX9.o (okX4.textOf ho hok_t23)) fl_X4_82 hf dX4_parse_203 (fun h26 H locs hf hw => ?_)
    refine lv_goto (tgt := 252) hM.1 hM.2.1 dX4_parse_206 (by decide) ?_
    exact w_X4_parse_j252 hM ho ho1 hk1 hrec hw hl hf
  refine x_sw hf (fun hx hf => ?_) (fun n72 hf => ?_)
  · refine x_tabIn (tgt := 209) hM hx dX4_parse_68 (by decide) (by decide) rfl (by decide) ?_
    refine lv_aload_n hM.1 hM.2.1 dX4_parse_209 rfl (lv_at hl 0 rfl) ?_
    refine gf_X4_text hM hw (okX4.o ho) fl_X4_21 dX4_parse_210 ?_
    refine x_nmr hf (fun t27 hf => ?_)
    obtain ⟨hok_t27, hf⟩ := x_cond hf
    refine lv_aload_n hM.1 hM.2.1 dX4_parse_213 rfl (lv_at hl 0 rfl) ?_
    refine lv_bipush (v := 72) hM.1 hM.2.1 dX4_parse_214 (by decide) ?_
    refine lv_sipush (v := 999) hM.1 hM.2.1 dX4_parse_216 (by decide) ?_
    refine x_callVI (rest := [.ref (ad t27)]) hM hw (ct_X4_setting l ho 72 999) [.int 72, .int 999] (okX4.o ho) rfl rfl rfl (gi_V ml_X4_78 im_X4_setting sl_X4_setting in_X4 kc_X4_setting) hd_X4_setting rfl ⟨Nat.le_of_ble_eq_true rfl, Nat.le_of_ble_eq_true rfl⟩ rfl (Nat.le_of_ble_eq_true rfl) hl.1 hcs0 hf dX4_parse_219 (fun r28 h29 H locs hf hw => ?_)
    refine pf_X9_coins hM hw (okX9.o (okX4.textOf ho hok_t27)) fl_X4_85 hf dX4_parse_222 (fun h30 H locs hf hw => ?_)
    refine lv_goto (tgt := 252) hM.1 hM.2.1 dX4_parse_225 (by decide) ?_
    exact w_X4_parse_j252 hM ho ho1 hk1 hrec hw hl hf
  refine x_sw hf (fun hx hf => ?_) (fun n73 hf => ?_)
  · refine x_tabIn (tgt := 228) hM hx dX4_parse_68 (by decide) (by decide) rfl (by decide) ?_
    refine lv_aload_n hM.1 hM.2.1 dX4_parse_228 rfl (lv_at hl 0 rfl) ?_
    refine gf_X4_text hM hw (okX4.o ho) fl_X4_21 dX4_parse_229 ?_
    refine x_nmr hf (fun t31 hf => ?_)
    obtain ⟨hok_t31, hf⟩ := x_cond hf
    refine lv_aload_n hM.1 hM.2.1 dX4_parse_232 rfl (lv_at hl 0 rfl) ?_
    refine lv_bipush (v := 73) hM.1 hM.2.1 dX4_parse_233 (by decide) ?_
    refine lv_sipush (v := 9999) hM.1 hM.2.1 dX4_parse_235 (by decide) ?_
    refine x_callVI (rest := [.ref (ad t31)]) hM hw (ct_X4_setting l ho 73 9999) [.int 73, .int 9999] (okX4.o ho) rfl rfl rfl (gi_V ml_X4_78 im_X4_setting sl_X4_setting in_X4 kc_X4_setting) hd_X4_setting rfl ⟨Nat.le_of_ble_eq_true rfl, Nat.le_of_ble_eq_true rfl⟩ rfl (Nat.le_of_ble_eq_true rfl) hl.1 hcs0 hf dX4_parse_238 (fun r32 h33 H locs hf hw => ?_)
    refine pf_X9_seed hM hw (okX9.o (okX4.textOf ho hok_t31)) fl_X4_88 hf dX4_parse_241 (fun h34 H locs hf hw => ?_)
    refine lv_goto (tgt := 252) hM.1 hM.2.1 dX4_parse_244 (by decide) ?_
    exact w_X4_parse_j252 hM ho ho1 hk1 hrec hw hl hf
  refine lv_tableOut (tgt := 247) hM.1 hM.2.1 dX4_parse_68 (by have := sw_ne n64 (k := 64) (by decide); have := sw_ne n65 (k := 65) (by decide); have := sw_ne n66 (k := 66) (by decide); have := sw_ne n67 (k := 67) (by decide); have := sw_ne n68 (k := 68) (by decide); have := sw_ne n69 (k := 69) (by decide); have := sw_ne n70 (k := 70) (by decide); have := sw_ne n71 (k := 71) (by decide); have := sw_ne n72 (k := 72) (by decide); have := sw_ne n73 (k := 73) (by decide); omega) (by decide) ?_
  refine lv_aload_n hM.1 hM.2.1 dX4_parse_247 rfl (lv_at hl 0 rfl) ?_
  refine lv_iconst (v := 1) hM.1 hM.2.1 dX4_parse_248 ic_1 ?_
  refine x_callVV (rest := []) hM hw (ct_X4_breakOff l ho 1) [.int 1] (okX4.o ho) rfl rfl rfl (gi_V ml_X4_91 im_X4_breakOff sl_X4_breakOff in_X4 kc_X4_breakOff) hd_X4_breakOff rfl ⟨Nat.le_of_ble_eq_true rfl, Nat.le_of_ble_eq_true rfl⟩ rfl (Nat.le_of_ble_eq_true rfl) hl.1 hcs0 hf dX4_parse_249 (fun h35 H locs hf hw => ?_)
  exact w_X4_parse_j252 hM ho ho1 hk1 hrec hw hl hf
set_option maxHeartbeats 4000000 in
set_option maxRecDepth 100000 in
theorem w_X4_parse_L43 {p0 : Program} {l : Launch} {e : Env} {s : State} {m : MethodId} {args : Array Value} {below : List Frame} {meth : Method} {c : Code} {Q : State → Prop} {D : va_G} {G : GG} {A : Nat → Prop} {H0 : Heap} {ad : Nat → Nat} {lay : List KK} {X : va_W} {ρ : Type} {p : Nat} {q1 : Nat} {r0 : ρ} {K1 : PH → Option ρ} (hM : CallFix p0 m c cX4_parse 4 s args lw_g RX4) (ho : okX4 lay p) (ho1 : lay[q1]? = some (kB 2000)) (hk1 : ∀ (h : PH), ∀ (H : Heap) (locs : List Loc) (ls : Array Slot), K1 h = some r0 → Wd D G A H0 ad lay X h s H locs → lv_has ls 4 [(0, .ref (ad p))] → W p0 l e (rmN 26 2448) s m args below meth c H locs 0 0 Q (F0 m 264 ls [])) (n : Nat) (x3 : Int32) (h : PH) (hf : lq2 (c_X4_parse_L43b p q1 K1) n x3 h = some r0) : ∀ (H : Heap) (locs : List Loc) (ls : Array Slot), Wd D G A H0 ad lay X h s H locs → lv_has ls 4 [(0, .ref (ad p)), (3, .int x3)] → W p0 l e (rmN 26 2448) s m args below meth c H locs 0 0 Q (F0 m 43 ls []) := by
  exact lq2_i (fun (x3 : Int32) (h : PH) => ∀ (H : Heap) (locs : List Loc) (ls : Array Slot), Wd D G A H0 ad lay X h s H locs → lv_has ls 4 [(0, .ref (ad p)), (3, .int x3)] → W p0 l e (rmN 26 2448) s m args below meth c H locs 0 0 Q (F0 m 43 ls [])) (fun REC x3 h ih hf H locs ls hw hl => w_X4_parse_L43b hM ho ho1 hk1 (fun x3 h H locs ls hf hw hl => ih x3 h hf H locs ls hw hl) hw hl hf) n x3 h hf
def c_X4_parse_j264  (p : Nat) (q1 : Nat) (h : PH) : Option (Int32 × PH) :=
  if (h.1 p 3) = 0 then
    some ((h.1 p 5), h)
  else
    some ((h.1 p 3), h)
set_option maxHeartbeats 4000000 in
set_option maxRecDepth 100000 in
theorem w_X4_parse_j264 {p0 : Program} {l : Launch} {e : Env} {s : State} {m : MethodId} {args : Array Value} {below : List Frame} {meth : Method} {c : Code} {Q : State → Prop} {D : va_G} {G : GG} {A : Nat → Prop} {H0 : Heap} {ad : Nat → Nat} {lay : List KK} {X : va_W} {p : Nat} {q1 : Nat} {r0 : Int32 × PH} {h : PH} {H : Heap} {locs : List Loc} {ls : Array Slot} (hM : CallFix p0 m c cX4_parse 4 s args lw_g RX4) (ho : okX4 lay p) (ho1 : lay[q1]? = some (kB 2000)) (hR : RtI p0 l e (rmN 26 2448) s m args below meth c cX4_parse D G A H0 ad lay X (some .int) r0 Q 0 0) (hw : Wd D G A H0 ad lay X h s H locs) (hl : lv_has ls 4 [(0, .ref (ad p))]) (hf : c_X4_parse_j264 p q1 h = some r0) : W p0 l e (rmN 26 2448) s m args below meth c H locs 0 0 Q (F0 m 264 ls []) := by
  unfold c_X4_parse_j264 at hf
  refine lv_aload_n hM.1 hM.2.1 dX4_parse_264 rfl (lv_at hl 0 rfl) ?_
  refine gf_X4_broken hM hw (okX4.o ho) fl_X4_29 dX4_parse_265 ?_
  refine x_if_eq (tgt := 278) hM hf dX4_parse_268 (by decide) (fun hf => ?_) (fun hf => ?_)
  · refine lv_aload_n hM.1 hM.2.1 dX4_parse_278 rfl (lv_at hl 0 rfl) ?_
    refine gf_X4_unsound hM hw (okX4.o ho) fl_X4_35 dX4_parse_279 ?_
    exact hR _ _ _ _ _ _ _ (Option.some.inj hf) rfl rfl hw dX4_parse_282
  refine lv_aload_n hM.1 hM.2.1 dX4_parse_271 rfl (lv_at hl 0 rfl) ?_
  refine gf_X4_broken hM hw (okX4.o ho) fl_X4_29 dX4_parse_272 ?_
  refine lv_goto (tgt := 282) hM.1 hM.2.1 dX4_parse_275 (by decide) ?_
  exact hR _ _ _ _ _ _ _ (Option.some.inj hf) rfl rfl hw dX4_parse_282
def c_X4_parse (p : Nat) (q1 : Nat) (a2 : Int32) (h : PH) : Option (Int32 × PH) :=
  (c_X10_cut (p + 1) q1 a2 h).bind fun h1 =>
  nm (h1.2.2 p 1) fun t2 =>
  gd (tOK t2) <|
  (c_X9_clear t2 h1).bind fun h3 =>
  nm (setI h3 p 2 0) fun h4 =>
  nm (setI h4 p 3 0) fun h5 =>
  nm (setI h5 p 4 (-1)) fun h6 =>
  nm (setI h6 p 5 0) fun h7 =>
  nm (setI h7 p 6 (-1)) fun h8 =>
  nm (0 : Int32) fun v9 =>
  lq2 (c_X4_parse_L43b p q1
    (fun h36 =>
      c_X4_parse_j264 p q1 h36)) fu v9 h8
set_option maxHeartbeats 4000000 in
set_option maxRecDepth 100000 in
theorem ct_X4_parse (l : Launch) {lay : List KK} {p : Nat} {q1 : Nat} (ho : okX4 lay p) (ho1 : lay[q1]? = some (kB 2000)) (a2 : Int32) : CtI l yX4_parse cX4_parse 4 (some .int) 26 2448 lay (fun h => c_X4_parse p q1 a2 h) (fun ad => [.ref (ad p), .ref (ad q1), .int a2]) := by
  refine CtI.mk' RX4 (by decide) rfl (fun _ => Nat.le_of_ble_eq_true rfl) ?_
  intro p0 e s m args below meth c D G A H0 ad X h r0 H ls Q hM hw hl hf hR
  have hl : lv_has ls 4 [(0, .ref (ad p)), (1, .ref (ad q1)), (2, .int a2)] := hl
  unfold c_X4_parse at hf
  refine lv_aload_n hM.1 hM.2.1 dX4_parse_0 rfl (lv_at hl 0 rfl) ?_
  refine gf_X4_tokens hM hw (okX4.o ho) fl_X4_12 dX4_parse_1 ?_
  refine lv_aload_n hM.1 hM.2.1 dX4_parse_4 rfl (lv_at hl 1 rfl) ?_
  refine lv_iload_n hM.1 hM.2.1 dX4_parse_5 rfl (lv_at hl 2 rfl) ?_
  refine x_callVV (rest := []) hM hw (ct_X10_cut l (okX4.tokens ho) ho1 a2) [.ref (ad q1), .int a2] (okX10.o (okX4.tokens ho)) rfl rfl rfl (gi_V ml_X4_41 im_X10_cut sl_X10_cut in_X10 kc_X10_cut) hd_X10_cut rfl ⟨Nat.le_of_ble_eq_true rfl, Nat.le_of_ble_eq_true rfl⟩ rfl (Nat.le_of_ble_eq_true rfl) hl.1 hcs0 hf dX4_parse_6 (fun h1 H locs hf hw => ?_)
  refine lv_aload_n hM.1 hM.2.1 dX4_parse_9 rfl (lv_at hl 0 rfl) ?_
  refine gf_X4_text hM hw (okX4.o ho) fl_X4_21 dX4_parse_10 ?_
  refine x_nmr hf (fun t2 hf => ?_)
  obtain ⟨hok_t2, hf⟩ := x_cond hf
  refine x_callVV (rest := []) hM hw (ct_X9_clear l (okX4.textOf ho hok_t2)) [] (okX9.o (okX4.textOf ho hok_t2)) rfl rfl rfl (gi_V ml_X4_45 im_X9_clear sl_X9_clear in_X9 kc_X9_clear) hd_X9_clear rfl ⟨Nat.le_of_ble_eq_true rfl, Nat.le_of_ble_eq_true rfl⟩ rfl (Nat.le_of_ble_eq_true rfl) hl.1 hcs0 hf dX4_parse_13 (fun h3 H locs hf hw => ?_)
  refine lv_aload_n hM.1 hM.2.1 dX4_parse_16 rfl (lv_at hl 0 rfl) ?_
  refine lv_iconst (v := 0) hM.1 hM.2.1 dX4_parse_17 ic_0 ?_
  refine pf_X4_at hM hw (okX4.o ho) fl_X4_25 hf dX4_parse_18 (fun h4 H locs hf hw => ?_)
  refine lv_aload_n hM.1 hM.2.1 dX4_parse_21 rfl (lv_at hl 0 rfl) ?_
  refine lv_iconst (v := 0) hM.1 hM.2.1 dX4_parse_22 ic_0 ?_
  refine pf_X4_broken hM hw (okX4.o ho) fl_X4_29 hf dX4_parse_23 (fun h5 H locs hf hw => ?_)
  refine lv_aload_n hM.1 hM.2.1 dX4_parse_26 rfl (lv_at hl 0 rfl) ?_
  refine lv_iconst (v := (-1)) hM.1 hM.2.1 dX4_parse_27 ic_m1 ?_
  refine pf_X4_brokenPlace hM hw (okX4.o ho) fl_X4_32 hf dX4_parse_28 (fun h6 H locs hf hw => ?_)
  refine lv_aload_n hM.1 hM.2.1 dX4_parse_31 rfl (lv_at hl 0 rfl) ?_
  refine lv_iconst (v := 0) hM.1 hM.2.1 dX4_parse_32 ic_0 ?_
  refine pf_X4_unsound hM hw (okX4.o ho) fl_X4_35 hf dX4_parse_33 (fun h7 H locs hf hw => ?_)
  refine lv_aload_n hM.1 hM.2.1 dX4_parse_36 rfl (lv_at hl 0 rfl) ?_
  refine lv_iconst (v := (-1)) hM.1 hM.2.1 dX4_parse_37 ic_m1 ?_
  refine pf_X4_unsoundPlace hM hw (okX4.o ho) fl_X4_38 hf dX4_parse_38 (fun h8 H locs hf hw => ?_)
  refine lv_iconst (v := 0) hM.1 hM.2.1 dX4_parse_41 ic_0 ?_
  refine x_istore_n hM hf dX4_parse_42 rfl hl (by decide) (fun v9 => [(3, .int v9), (0, .ref (ad p)), (1, .ref (ad q1)), (2, .int a2)]) (fun _ => rfl) (fun v9 ls hf hl => ?_)
  refine w_X4_parse_L43 hM ho ho1 (fun h36 H locs ls hf hw hl => ?_) fu _ _ hf _ _ _ hw (lv_sub hl [1, 0] rfl)
  exact w_X4_parse_j264 hM ho ho1 hR hw hl hf
theorem hd_X4_parse : yX4_parse.cls = RX4 ∧ yX4_parse.cls ≠ "java/lang/invoke/MethodHandle" ∧ yX4_parse.cls ≠ "java/lang/invoke/VarHandle" ∧ (parseMethodDescriptor yX4_parse.desc).map (fun d => d.parameters.length) = some 2 := ⟨rfl, by decide, by decide, by decide +kernel⟩
theorem dX4_placeOfFault_0 : decode cX4_placeOfFault 0 = .ok (.aload_n 0, 1) := by decide +kernel
theorem dX4_placeOfFault_1 : decode cX4_placeOfFault 1 = .ok (.getfield 29, 3) := by decide +kernel
theorem dX4_placeOfFault_4 : decode cX4_placeOfFault 4 = .ok (.ifCond .eq 10, 3) := by decide +kernel
theorem dX4_placeOfFault_7 : decode cX4_placeOfFault 7 = .ok (.aload_n 0, 1) := by decide +kernel
theorem dX4_placeOfFault_8 : decode cX4_placeOfFault 8 = .ok (.getfield 32, 3) := by decide +kernel
theorem dX4_placeOfFault_11 : decode cX4_placeOfFault 11 = .ok (.goto 7, 3) := by decide +kernel
theorem dX4_placeOfFault_14 : decode cX4_placeOfFault 14 = .ok (.aload_n 0, 1) := by decide +kernel
theorem dX4_placeOfFault_15 : decode cX4_placeOfFault 15 = .ok (.getfield 38, 3) := by decide +kernel
theorem dX4_placeOfFault_18 : decode cX4_placeOfFault 18 = .ok (.ireturn, 1) := by decide +kernel
def c_X4_placeOfFault (p : Nat) (h : PH) : Option (Int32) :=
  if (h.1 p 3) = 0 then
    some (h.1 p 6)
  else
    some (h.1 p 4)
set_option maxHeartbeats 4000000 in
set_option maxRecDepth 100000 in
theorem ct_X4_placeOfFault (l : Launch) {lay : List KK} {p : Nat} (ho : okX4 lay p) : CtI l yX4_placeOfFault cX4_placeOfFault 1 (some .int) 0 0 lay (rd (fun h => c_X4_placeOfFault p h)) (fun ad => [.ref (ad p)]) := by
  refine CtI.mk' RX4 (by decide) rfl (fun _ => Nat.le_of_ble_eq_true rfl) ?_
  intro p0 e s m args below meth c D G A H0 ad X h r0 H ls Q hM hw hl hf hR
  have hl : lv_has ls 1 [(0, .ref (ad p))] := hl
  obtain ⟨v0, hv0, hr0⟩ : ∃ v0, c_X4_placeOfFault p h = some v0 ∧ r0 = (v0, h) := rd_some hf
  subst hr0
  have hf := hv0
  unfold c_X4_placeOfFault at hf
  refine lv_aload_n hM.1 hM.2.1 dX4_placeOfFault_0 rfl (lv_at hl 0 rfl) ?_
  refine gf_X4_broken hM hw (okX4.o ho) fl_X4_29 dX4_placeOfFault_1 ?_
  refine x_if_eq (tgt := 14) hM hf dX4_placeOfFault_4 (by decide) (fun hf => ?_) (fun hf => ?_)
  · refine lv_aload_n hM.1 hM.2.1 dX4_placeOfFault_14 rfl (lv_at hl 0 rfl) ?_
    refine gf_X4_unsoundPlace hM hw (okX4.o ho) fl_X4_38 dX4_placeOfFault_15 ?_
    exact hR _ _ _ _ _ _ _ (congrArg (fun z => (z, _)) (Option.some.inj hf)) rfl rfl hw dX4_placeOfFault_18
  refine lv_aload_n hM.1 hM.2.1 dX4_placeOfFault_7 rfl (lv_at hl 0 rfl) ?_
  refine gf_X4_brokenPlace hM hw (okX4.o ho) fl_X4_32 dX4_placeOfFault_8 ?_
  refine lv_goto (tgt := 18) hM.1 hM.2.1 dX4_placeOfFault_11 (by decide) ?_
  exact hR _ _ _ _ _ _ _ (congrArg (fun z => (z, _)) (Option.some.inj hf)) rfl rfl hw dX4_placeOfFault_18
theorem hd_X4_placeOfFault : yX4_placeOfFault.cls = RX4 ∧ yX4_placeOfFault.cls ≠ "java/lang/invoke/MethodHandle" ∧ yX4_placeOfFault.cls ≠ "java/lang/invoke/VarHandle" ∧ (parseMethodDescriptor yX4_placeOfFault.desc).map (fun d => d.parameters.length) = some 0 := ⟨rfl, by decide, by decide, by decide +kernel⟩
