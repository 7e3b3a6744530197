theorem dX8_begin_0 : decode cX8_begin 0 = .ok (.aload_n 0, 1) := by decide +kernel
theorem dX8_begin_1 : decode cX8_begin 1 = .ok (.iconst 0, 1) := by decide +kernel
theorem dX8_begin_2 : decode cX8_begin 2 = .ok (.putfield 9, 3) := by decide +kernel
theorem dX8_begin_5 : decode cX8_begin 5 = .ok (.aload_n 0, 1) := by decide +kernel
theorem dX8_begin_6 : decode cX8_begin 6 = .ok (.aload_n 1, 1) := by decide +kernel
theorem dX8_begin_7 : decode cX8_begin 7 = .ok (.getfield 40, 3) := by decide +kernel
theorem dX8_begin_10 : decode cX8_begin 10 = .ok (.putfield 15, 3) := by decide +kernel
theorem dX8_begin_13 : decode cX8_begin 13 = .ok (.aload_n 0, 1) := by decide +kernel
theorem dX8_begin_14 : decode cX8_begin 14 = .ok (.iconst 0, 1) := by decide +kernel
theorem dX8_begin_15 : decode cX8_begin 15 = .ok (.putfield 18, 3) := by decide +kernel
theorem dX8_begin_18 : decode cX8_begin 18 = .ok (.aload_n 0, 1) := by decide +kernel
theorem dX8_begin_19 : decode cX8_begin 19 = .ok (.iconst 0, 1) := by decide +kernel
theorem dX8_begin_20 : decode cX8_begin 20 = .ok (.putfield 21, 3) := by decide +kernel
theorem dX8_begin_23 : decode cX8_begin 23 = .ok (.aload_n 0, 1) := by decide +kernel
theorem dX8_begin_24 : decode cX8_begin 24 = .ok (.iconst 0, 1) := by decide +kernel
theorem dX8_begin_25 : decode cX8_begin 25 = .ok (.putfield 24, 3) := by decide +kernel
theorem dX8_begin_28 : decode cX8_begin 28 = .ok (.aload_n 0, 1) := by decide +kernel
theorem dX8_begin_29 : decode cX8_begin 29 = .ok (.iconst 0, 1) := by decide +kernel
theorem dX8_begin_30 : decode cX8_begin 30 = .ok (.putfield 27, 3) := by decide +kernel
theorem dX8_begin_33 : decode cX8_begin 33 = .ok (.aload_n 0, 1) := by decide +kernel
theorem dX8_begin_34 : decode cX8_begin 34 = .ok (.iconst 0, 1) := by decide +kernel
theorem dX8_begin_35 : decode cX8_begin 35 = .ok (.putfield 30, 3) := by decide +kernel
theorem dX8_begin_38 : decode cX8_begin 38 = .ok (.iconst 0, 1) := by decide +kernel
theorem dX8_begin_39 : decode cX8_begin 39 = .ok (.istore_n 2, 1) := by decide +kernel
theorem dX8_begin_40 : decode cX8_begin 40 = .ok (.iload_n 2, 1) := by decide +kernel
theorem dX8_begin_41 : decode cX8_begin 41 = .ok (.iconst 5, 1) := by decide +kernel
theorem dX8_begin_42 : decode cX8_begin 42 = .ok (.if_icmp .ge 35, 3) := by decide +kernel
theorem dX8_begin_45 : decode cX8_begin 45 = .ok (.aload_n 0, 1) := by decide +kernel
theorem dX8_begin_46 : decode cX8_begin 46 = .ok (.getfield 33, 3) := by decide +kernel
theorem dX8_begin_49 : decode cX8_begin 49 = .ok (.iload_n 2, 1) := by decide +kernel
theorem dX8_begin_50 : decode cX8_begin 50 = .ok (.aload_n 1, 1) := by decide +kernel
theorem dX8_begin_51 : decode cX8_begin 51 = .ok (.iload_n 2, 1) := by decide +kernel
theorem dX8_begin_52 : decode cX8_begin 52 = .ok (.invokevirtual 43, 3) := by decide +kernel
theorem dX8_begin_55 : decode cX8_begin 55 = .ok (.ifCond .eq 14, 3) := by decide +kernel
theorem dX8_begin_58 : decode cX8_begin 58 = .ok (.aload_n 1, 1) := by decide +kernel
theorem dX8_begin_59 : decode cX8_begin 59 = .ok (.getfield 47, 3) := by decide +kernel
theorem dX8_begin_62 : decode cX8_begin 62 = .ok (.iload_n 2, 1) := by decide +kernel
theorem dX8_begin_63 : decode cX8_begin 63 = .ok (.aaload, 1) := by decide +kernel
theorem dX8_begin_64 : decode cX8_begin 64 = .ok (.iconst 0, 1) := by decide +kernel
theorem dX8_begin_65 : decode cX8_begin 65 = .ok (.iaload, 1) := by decide +kernel
theorem dX8_begin_66 : decode cX8_begin 66 = .ok (.goto 4, 3) := by decide +kernel
theorem dX8_begin_69 : decode cX8_begin 69 = .ok (.iconst 0, 1) := by decide +kernel
theorem dX8_begin_70 : decode cX8_begin 70 = .ok (.iastore, 1) := by decide +kernel
theorem dX8_begin_71 : decode cX8_begin 71 = .ok (.iinc 2 1, 3) := by decide +kernel
theorem dX8_begin_74 : decode cX8_begin 74 = .ok (.goto (-34), 3) := by decide +kernel
theorem dX8_begin_77 : decode cX8_begin 77 = .ok (.iconst 0, 1) := by decide +kernel
theorem dX8_begin_78 : decode cX8_begin 78 = .ok (.istore_n 2, 1) := by decide +kernel
theorem dX8_begin_79 : decode cX8_begin 79 = .ok (.iload_n 2, 1) := by decide +kernel
theorem dX8_begin_80 : decode cX8_begin 80 = .ok (.bipush 9, 2) := by decide +kernel
theorem dX8_begin_82 : decode cX8_begin 82 = .ok (.if_icmp .ge 17, 3) := by decide +kernel
theorem dX8_begin_85 : decode cX8_begin 85 = .ok (.aload_n 0, 1) := by decide +kernel
theorem dX8_begin_86 : decode cX8_begin 86 = .ok (.getfield 37, 3) := by decide +kernel
theorem dX8_begin_89 : decode cX8_begin 89 = .ok (.iload_n 2, 1) := by decide +kernel
theorem dX8_begin_90 : decode cX8_begin 90 = .ok (.bipush (-2), 2) := by decide +kernel
theorem dX8_begin_92 : decode cX8_begin 92 = .ok (.iastore, 1) := by decide +kernel
theorem dX8_begin_93 : decode cX8_begin 93 = .ok (.iinc 2 1, 3) := by decide +kernel
theorem dX8_begin_96 : decode cX8_begin 96 = .ok (.goto (-17), 3) := by decide +kernel
theorem dX8_begin_99 : decode cX8_begin 99 = .ok (.return_, 1) := by decide +kernel
def c_X8_begin_L40b {ρ : Type}  (p : Nat) (q1 : Nat) (K1 : PH → Option ρ) (REC : Int32 → PH → Option ρ) (x2 : Int32) (h : PH) : Option ρ :=
  if 5 ≤ x2 then
    K1 h
  else
    (c_X9_isMan q1 x2 h).bind fun r9 =>
    if r9 = 0 then
      gd (ixOK x2 5) <| nm (setI h (p + 1) x2.toNatClampNeg 0) fun h10 =>
      nm (x2 + 1) fun v11 =>
      REC v11 h10
    else
      gd (ixOK x2 5) <|
      gd (ixOK x2 5) <| nm (setI h (p + 1) x2.toNatClampNeg (h.1 (q1 + 7 + 1 + x2.toNatClampNeg) 0)) fun h13 =>
      nm (x2 + 1) fun v14 =>
      REC v14 h13
set_option maxHeartbeats 4000000 in
set_option maxRecDepth 100000 in
theorem w_X8_begin_L40b {p0 : Program} {l : Launch} {e : Env} {s : State} {m : MethodId} {args : Array Value} {below : List Frame} {meth : Method} {c : Code} {Q : State → Prop} {D : va_G} {G : GG} {A : Nat → Prop} {H0 : Heap} {ad : Nat → Nat} {lay : List KK} {X : va_W} {ρ : Type} {p : Nat} {q1 : Nat} {r0 : ρ} {x2 : Int32} {h : PH} {H : Heap} {locs : List Loc} {ls : Array Slot} {K1 : PH → Option ρ} {REC : Int32 → PH → Option ρ} (hM : CallFix p0 m c cX8_begin 3 s args lw_g RX8) (ho : okX8 lay p) (ho1 : okX9 lay q1) (hk1 : ∀ (h : PH), ∀ (H : Heap) (locs : List Loc) (ls : Array Slot), K1 h = some r0 → Wd D G A H0 ad lay X h s H locs → lv_has ls 3 [(0, .ref (ad p))] → W p0 l e (rmN 1 21) s m args below meth c H locs 0 0 Q (F0 m 77 ls [])) (hrec : ∀ (x2 : Int32) (h : PH), ∀ (H : Heap) (locs : List Loc) (ls : Array Slot), REC x2 h = some r0 → Wd D G A H0 ad lay X h s H locs → lv_has ls 3 [(0, .ref (ad p)), (1, .ref (ad q1)), (2, .int x2)] → W p0 l e (rmN 1 21) s m args below meth c H locs 0 0 Q (F0 m 40 ls [])) (hw : Wd D G A H0 ad lay X h s H locs) (hl : lv_has ls 3 [(0, .ref (ad p)), (1, .ref (ad q1)), (2, .int x2)]) (hf : c_X8_begin_L40b p q1 K1 REC x2 h = some r0) : W p0 l e (rmN 1 21) s m args below meth c H locs 0 0 Q (F0 m 40 ls []) := by
  unfold c_X8_begin_L40b at hf
  refine lv_iload_n hM.1 hM.2.1 dX8_begin_40 rfl (lv_at hl 2 rfl) ?_
  refine lv_iconst (v := 5) hM.1 hM.2.1 dX8_begin_41 ic_5 ?_
  refine x_ic_ge (tgt := 77) hM hf dX8_begin_42 (by decide) (fun hf => ?_) (fun hf => ?_)
  · exact hk1 _ _ _ _ hf hw (lv_sub hl [0] rfl)
  refine lv_aload_n hM.1 hM.2.1 dX8_begin_45 rfl (lv_at hl 0 rfl) ?_
  refine gf_X8_trustOf hM hw (okX8.o ho) fl_X8_33 dX8_begin_46 ?_
  refine lv_iload_n hM.1 hM.2.1 dX8_begin_49 rfl (lv_at hl 2 rfl) ?_
  refine lv_aload_n hM.1 hM.2.1 dX8_begin_50 rfl (lv_at hl 1 rfl) ?_
  refine lv_iload_n hM.1 hM.2.1 dX8_begin_51 rfl (lv_at hl 2 rfl) ?_
  refine x_callVIr (rest := [.int x2, .ref (ad (p + 1))]) hM hw (ct_X9_isMan l ho1 x2) [.int x2] (okX9.o ho1) rfl rfl rfl (gi_V ml_X8_43 im_X9_isMan sl_X9_isMan in_X9 kc_X9_isMan) hd_X9_isMan rfl ⟨Nat.le_of_ble_eq_true rfl, Nat.le_of_ble_eq_true rfl⟩ rfl (Nat.le_of_ble_eq_true rfl) hl.1 hcs0 hf dX8_begin_52 (fun r9 H locs hf hw => ?_)
  refine x_if_eq (tgt := 69) hM hf dX8_begin_55 (by decide) (fun hf => ?_) (fun hf => ?_)
  · refine lv_iconst (v := 0) hM.1 hM.2.1 dX8_begin_69 ic_0 ?_
    refine x_iast hM hw (okX8.trustOf ho) hf dX8_begin_70 (fun h10 H locs hf hw => ?_)
    refine x_iinc (k := 2) (d := 1) hM hf dX8_begin_71 hl rfl (by decide) (by decide) (fun v11 => [(2, .int v11), (0, .ref (ad p)), (1, .ref (ad q1))]) (fun _ => rfl) (fun v11 ls hf hl => ?_)
    refine lv_goto (tgt := 40) hM.1 hM.2.1 dX8_begin_74 (by decide) ?_
    exact hrec _ _ _ _ _ hf hw (lv_sub hl [1, 2, 0] rfl)
  refine lv_aload_n hM.1 hM.2.1 dX8_begin_58 rfl (lv_at hl 1 rfl) ?_
  refine gf_X9_manRows hM hw (okX9.o ho1) fl_X8_47 dX8_begin_59 ?_
  refine lv_iload_n hM.1 hM.2.1 dX8_begin_62 rfl (lv_at hl 2 rfl) ?_
  refine x_aaldI hM hw (okX9.manRows ho1) hf dX8_begin_63 (fun hi12 hf => ?_)
  refine lv_iconst (v := 0) hM.1 hM.2.1 dX8_begin_64 ic_0 ?_
  refine x_ialdK hM hw (okX9.manRows_atI ho1 hi12) 0 (by decide) (by decide) dX8_begin_65 ?_
  refine lv_goto (tgt := 70) hM.1 hM.2.1 dX8_begin_66 (by decide) ?_
  refine x_iast hM hw (okX8.trustOf ho) hf dX8_begin_70 (fun h13 H locs hf hw => ?_)
  refine x_iinc (k := 2) (d := 1) hM hf dX8_begin_71 hl rfl (by decide) (by decide) (fun v14 => [(2, .int v14), (0, .ref (ad p)), (1, .ref (ad q1))]) (fun _ => rfl) (fun v14 ls hf hl => ?_)
  refine lv_goto (tgt := 40) hM.1 hM.2.1 dX8_begin_74 (by decide) ?_
  exact hrec _ _ _ _ _ hf hw (lv_sub hl [1, 2, 0] rfl)
set_option maxHeartbeats 4000000 in
set_option maxRecDepth 100000 in
theorem w_X8_begin_L40 {p0 : Program} {l : Launch} {e : Env} {s : State} {m : MethodId} {args : Array Value} {below : List Frame} {meth : Method} {c : Code} {Q : State → Prop} {D : va_G} {G : GG} {A : Nat → Prop} {H0 : Heap} {ad : Nat → Nat} {lay : List KK} {X : va_W} {ρ : Type} {p : Nat} {q1 : Nat} {r0 : ρ} {K1 : PH → Option ρ} (hM : CallFix p0 m c cX8_begin 3 s args lw_g RX8) (ho : okX8 lay p) (ho1 : okX9 lay q1) (hk1 : ∀ (h : PH), ∀ (H : Heap) (locs : List Loc) (ls : Array Slot), K1 h = some r0 → Wd D G A H0 ad lay X h s H locs → lv_has ls 3 [(0, .ref (ad p))] → W p0 l e (rmN 1 21) s m args below meth c H locs 0 0 Q (F0 m 77 ls [])) (n : Nat) (x2 : Int32) (h : PH) (hf : lq2 (c_X8_begin_L40b p q1 K1) n x2 h = some r0) : ∀ (H : Heap) (locs : List Loc) (ls : Array Slot), Wd D G A H0 ad lay X h s H locs → lv_has ls 3 [(0, .ref (ad p)), (1, .ref (ad q1)), (2, .int x2)] → W p0 l e (rmN 1 21) s m args below meth c H locs 0 0 Q (F0 m 40 ls []) := by
  exact lq2_i (fun (x2 : Int32) (h : PH) => ∀ (H : Heap) (locs : List Loc) (ls : Array Slot), Wd D G A H0 ad lay X h s H locs → lv_has ls 3 [(0, .ref (ad p)), (1, .ref (ad q1)), (2, .int x2)] → W p0 l e (rmN 1 21) s m args below meth c H locs 0 0 Q (F0 m 40 ls [])) (fun REC x2 h ih hf H locs ls hw hl => w_X8_begin_L40b hM ho ho1 hk1 (fun x2 h H locs ls hf hw hl => ih x2 h hf H locs ls hw hl) hw hl hf) n x2 h hf
def c_X8_begin_L79b {ρ : Type}  (p : Nat) (q1 : Nat) (K1 : PH → Option ρ) (REC : Int32 → PH → Option ρ) (x2 : Int32) (h : PH) : Option ρ :=
  if 9 ≤ x2 then
    K1 h
  else
    gd (ixOK x2 9) <| nm (setI h (p + 2) x2.toNatClampNeg (-2)) fun h17 =>
    nm (x2 + 1) fun v18 =>
    REC v18 h17
set_option maxHeartbeats 4000000 in
set_option maxRecDepth 100000 in
theorem w_X8_begin_L79b {p0 : Program} {l : Launch} {e : Env} {s : State} {m : MethodId} {args : Array Value} {below : List Frame} {meth : Method} {c : Code} {Q : State → Prop} {D : va_G} {G : GG} {A : Nat → Prop} {H0 : Heap} {ad : Nat → Nat} {lay : List KK} {X : va_W} {ρ : Type} {p : Nat} {q1 : Nat} {r0 : ρ} {x2 : Int32} {h : PH} {H : Heap} {locs : List Loc} {ls : Array Slot} {K1 : PH → Option ρ} {REC : Int32 → PH → Option ρ} (hM : CallFix p0 m c cX8_begin 3 s args lw_g RX8) (ho : okX8 lay p) (ho1 : okX9 lay q1) (hk1 : ∀ (h : PH), ∀ (H : Heap) (locs : List Loc) (ls : Array Slot), K1 h = some r0 → Wd D G A H0 ad lay X h s H locs → lv_has ls 3 [] → W p0 l e (rmN 1 21) s m args below meth c H locs 0 0 Q (F0 m 99 ls [])) (hrec : ∀ (x2 : Int32) (h : PH), ∀ (H : Heap) (locs : List Loc) (ls : Array Slot), REC x2 h = some r0 → Wd D G A H0 ad lay X h s H locs → lv_has ls 3 [(0, .ref (ad p)), (2, .int x2)] → W p0 l e (rmN 1 21) s m args below meth c H locs 0 0 Q (F0 m 79 ls [])) (hw : Wd D G A H0 ad lay X h s H locs) (hl : lv_has ls 3 [(0, .ref (ad p)), (2, .int x2)]) (hf : c_X8_begin_L79b p q1 K1 REC x2 h = some r0) : W p0 l e (rmN 1 21) s m args below meth c H locs 0 0 Q (F0 m 79 ls []) := by
  unfold c_X8_begin_L79b at hf
  refine lv_iload_n hM.1 hM.2.1 dX8_begin_79 rfl (lv_at hl 1 rfl) ?_
  refine lv_bipush (v := 9) hM.1 hM.2.1 dX8_begin_80 (by decide) ?_
  refine x_ic_ge (tgt := 99) hM hf dX8_begin_82 (by decide) (fun hf => ?_) (fun hf => ?_)
  · exact hk1 _ _ _ _ hf hw (lv_sub hl [] rfl)
  refine lv_aload_n hM.1 hM.2.1 dX8_begin_85 rfl (lv_at hl 0 rfl) ?_
  refine gf_X8_plans hM hw (okX8.o ho) fl_X8_37 dX8_begin_86 ?_
  refine lv_iload_n hM.1 hM.2.1 dX8_begin_89 rfl (lv_at hl 1 rfl) ?_
  refine lv_bipush (v := (-2)) hM.1 hM.2.1 dX8_begin_90 (by decide) ?_
  refine x_iast hM hw (okX8.plans ho) hf dX8_begin_92 (fun h17 H locs hf hw => ?_)
  refine x_iinc (k := 1) (d := 1) hM hf dX8_begin_93 hl rfl (by decide) (by decide) (fun v18 => [(2, .int v18), (0, .ref (ad p))]) (fun _ => rfl) (fun v18 ls hf hl => ?_)
  refine lv_goto (tgt := 79) hM.1 hM.2.1 dX8_begin_96 (by decide) ?_
  exact hrec _ _ _ _ _ hf hw (lv_sub hl [1, 0] rfl)
set_option maxHeartbeats 4000000 in
set_option maxRecDepth 100000 in
theorem w_X8_begin_L79 {p0 : Program} {l : Launch} {e : Env} {s : State} {m : MethodId} {args : Array Value} {below : List Frame} {meth : Method} {c : Code} {Q : State → Prop} {D : va_G} {G : GG} {A : Nat → Prop} {H0 : Heap} {ad : Nat → Nat} {lay : List KK} {X : va_W} {ρ : Type} {p : Nat} {q1 : Nat} {r0 : ρ} {K1 : PH → Option ρ} (hM : CallFix p0 m c cX8_begin 3 s args lw_g RX8) (ho : okX8 lay p) (ho1 : okX9 lay q1) (hk1 : ∀ (h : PH), ∀ (H : Heap) (locs : List Loc) (ls : Array Slot), K1 h = some r0 → Wd D G A H0 ad lay X h s H locs → lv_has ls 3 [] → W p0 l e (rmN 1 21) s m args below meth c H locs 0 0 Q (F0 m 99 ls [])) (n : Nat) (x2 : Int32) (h : PH) (hf : lq2 (c_X8_begin_L79b p q1 K1) n x2 h = some r0) : ∀ (H : Heap) (locs : List Loc) (ls : Array Slot), Wd D G A H0 ad lay X h s H locs → lv_has ls 3 [(0, .ref (ad p)), (2, .int x2)] → W p0 l e (rmN 1 21) s m args below meth c H locs 0 0 Q (F0 m 79 ls []) := by
  exact lq2_i (fun (x2 : Int32) (h : PH) => ∀ (H : Heap) (locs : List Loc) (ls : Array Slot), Wd D G A H0 ad lay X h s H locs → lv_has ls 3 [(0, .ref (ad p)), (2, .int x2)] → W p0 l e (rmN 1 21) s m args below meth c H locs 0 0 Q (F0 m 79 ls [])) (fun REC x2 h ih hf H locs ls hw hl => w_X8_begin_L79b hM ho ho1 hk1 (fun x2 h H locs ls hf hw hl => ih x2 h hf H locs ls hw hl) hw hl hf) n x2 h hf
def c_X8_begin (p : Nat) (q1 : Nat) (h : PH) : Option (PH) :=
  nm (setI h p 0 0) fun h1 =>
  nm (setI h1 p 1 (h1.1 q1 6)) fun h2 =>
  nm (setI h2 p 2 0) fun h3 =>
  nm (setI h3 p 3 0) fun h4 =>
  nm (setI h4 p 4 0) fun h5 =>
  nm (setI h5 p 5 0) fun h6 =>
  nm (setI h6 p 6 0) fun h7 =>
  nm (0 : Int32) fun v8 =>
  lq2 (c_X8_begin_L40b p q1
    (fun h15 =>
      nm (0 : Int32) fun v16 =>
      lq2 (c_X8_begin_L79b p q1
        (fun h19 =>
          some h19)) fu v16 h15)) fu v8 h7
set_option maxHeartbeats 4000000 in
set_option maxRecDepth 100000 in
theorem ct_X8_begin (l : Launch) {lay : List KK} {p : Nat} {q1 : Nat} (ho : okX8 lay p) (ho1 : okX9 lay q1) : CtV l yX8_begin cX8_begin 3 (none) 1 21 lay (fun h => c_X8_begin p q1 h) (fun ad => [.ref (ad p), .ref (ad q1)]) := by
  refine CtV.mk' RX8 (by decide) rfl (fun _ => Nat.le_of_ble_eq_true rfl) ?_
  intro p0 e s m args below meth c D G A H0 ad X h r0 H ls Q hM hw hl hf hR
  have hl : lv_has ls 3 [(0, .ref (ad p)), (1, .ref (ad q1))] := hl
  unfold c_X8_begin at hf
  refine lv_aload_n hM.1 hM.2.1 dX8_begin_0 rfl (lv_at hl 0 rfl) ?_
  refine lv_iconst (v := 0) hM.1 hM.2.1 dX8_begin_1 ic_0 ?_
  refine pf_X8_today hM hw (okX8.o ho) fl_X8_9 hf dX8_begin_2 (fun h1 H locs hf hw => ?_)
  refine lv_aload_n hM.1 hM.2.1 dX8_begin_5 rfl (lv_at hl 0 rfl) ?_
  refine lv_aload_n hM.1 hM.2.1 dX8_begin_6 rfl (lv_at hl 1 rfl) ?_
  refine gf_X9_coins hM hw (okX9.o ho1) fl_X8_40 dX8_begin_7 ?_
  refine pf_X8_coins hM hw (okX8.o ho) fl_X8_15 hf dX8_begin_10 (fun h2 H locs hf hw => ?_)
  refine lv_aload_n hM.1 hM.2.1 dX8_begin_13 rfl (lv_at hl 0 rfl) ?_
  refine lv_iconst (v := 0) hM.1 hM.2.1 dX8_begin_14 ic_0 ?_
  refine pf_X8_hours hM hw (okX8.o ho) fl_X8_18 hf dX8_begin_15 (fun h3 H locs hf hw => ?_)
  refine lv_aload_n hM.1 hM.2.1 dX8_begin_18 rfl (lv_at hl 0 rfl) ?_
  refine lv_iconst (v := 0) hM.1 hM.2.1 dX8_begin_19 ic_0 ?_
  refine pf_X8_owned hM hw (okX8.o ho) fl_X8_21 hf dX8_begin_20 (fun h4 H locs hf hw => ?_)
  refine lv_aload_n hM.1 hM.2.1 dX8_begin_23 rfl (lv_at hl 0 rfl) ?_
  refine lv_iconst (v := 0) hM.1 hM.2.1 dX8_begin_24 ic_0 ?_
  refine pf_X8_freed hM hw (okX8.o ho) fl_X8_24 hf dX8_begin_25 (fun h5 H locs hf hw => ?_)
  refine lv_aload_n hM.1 hM.2.1 dX8_begin_28 rfl (lv_at hl 0 rfl) ?_
  refine lv_iconst (v := 0) hM.1 hM.2.1 dX8_begin_29 ic_0 ?_
  refine pf_X8_caught hM hw (okX8.o ho) fl_X8_27 hf dX8_begin_30 (fun h6 H locs hf hw => ?_)
  refine lv_aload_n hM.1 hM.2.1 dX8_begin_33 rfl (lv_at hl 0 rfl) ?_
  refine lv_iconst (v := 0) hM.1 hM.2.1 dX8_begin_34 ic_0 ?_
  refine pf_X8_done hM hw (okX8.o ho) fl_X8_30 hf dX8_begin_35 (fun h7 H locs hf hw => ?_)
  refine lv_iconst (v := 0) hM.1 hM.2.1 dX8_begin_38 ic_0 ?_
  refine x_istore_n hM hf dX8_begin_39 rfl hl (by decide) (fun v8 => [(2, .int v8), (0, .ref (ad p)), (1, .ref (ad q1))]) (fun _ => rfl) (fun v8 ls hf hl => ?_)
  refine w_X8_begin_L40 hM ho ho1 (fun h15 H locs ls hf hw hl => ?_) fu _ _ hf _ _ _ hw (lv_sub hl [1, 2, 0] rfl)
  refine lv_iconst (v := 0) hM.1 hM.2.1 dX8_begin_77 ic_0 ?_
  refine x_istore_n hM hf dX8_begin_78 rfl hl (by decide) (fun v16 => [(2, .int v16), (0, .ref (ad p))]) (fun _ => rfl) (fun v16 ls hf hl => ?_)
  refine w_X8_begin_L79 hM ho ho1 (fun h19 H locs ls hf hw hl => ?_) fu _ _ hf _ _ _ hw (lv_sub hl [1, 0] rfl)
  exact hR _ _ _ _ _ (Option.some.inj hf) rfl hw dX8_begin_99
theorem hd_X8_begin : yX8_begin.cls = RX8 ∧ yX8_begin.cls ≠ "java/lang/invoke/MethodHandle" ∧ yX8_begin.cls ≠ "java/lang/invoke/VarHandle" ∧ (parseMethodDescriptor yX8_begin.desc).map (fun d => d.parameters.length) = some 1 := ⟨rfl, by decide, by decide, by decide +kernel⟩
theorem dX8_copy_0 : decode cX8_copy 0 = .ok (.aload_n 0, 1) := by decide +kernel
theorem dX8_copy_1 : decode cX8_copy 1 = .ok (.aload_n 1, 1) := by decide +kernel
theorem dX8_copy_2 : decode cX8_copy 2 = .ok (.getfield 9, 3) := by decide +kernel
theorem dX8_copy_5 : decode cX8_copy 5 = .ok (.putfield 9, 3) := by decide +kernel
theorem dX8_copy_8 : decode cX8_copy 8 = .ok (.aload_n 0, 1) := by decide +kernel
theorem dX8_copy_9 : decode cX8_copy 9 = .ok (.aload_n 1, 1) := by decide +kernel
theorem dX8_copy_10 : decode cX8_copy 10 = .ok (.getfield 15, 3) := by decide +kernel
theorem dX8_copy_13 : decode cX8_copy 13 = .ok (.putfield 15, 3) := by decide +kernel
theorem dX8_copy_16 : decode cX8_copy 16 = .ok (.aload_n 0, 1) := by decide +kernel
theorem dX8_copy_17 : decode cX8_copy 17 = .ok (.aload_n 1, 1) := by decide +kernel
theorem dX8_copy_18 : decode cX8_copy 18 = .ok (.getfield 18, 3) := by decide +kernel
theorem dX8_copy_21 : decode cX8_copy 21 = .ok (.putfield 18, 3) := by decide +kernel
theorem dX8_copy_24 : decode cX8_copy 24 = .ok (.aload_n 0, 1) := by decide +kernel
theorem dX8_copy_25 : decode cX8_copy 25 = .ok (.aload_n 1, 1) := by decide +kernel
theorem dX8_copy_26 : decode cX8_copy 26 = .ok (.getfield 21, 3) := by decide +kernel
theorem dX8_copy_29 : decode cX8_copy 29 = .ok (.putfield 21, 3) := by decide +kernel
theorem dX8_copy_32 : decode cX8_copy 32 = .ok (.aload_n 0, 1) := by decide +kernel
theorem dX8_copy_33 : decode cX8_copy 33 = .ok (.aload_n 1, 1) := by decide +kernel
theorem dX8_copy_34 : decode cX8_copy 34 = .ok (.getfield 24, 3) := by decide +kernel
theorem dX8_copy_37 : decode cX8_copy 37 = .ok (.putfield 24, 3) := by decide +kernel
theorem dX8_copy_40 : decode cX8_copy 40 = .ok (.aload_n 0, 1) := by decide +kernel
theorem dX8_copy_41 : decode cX8_copy 41 = .ok (.aload_n 1, 1) := by decide +kernel
theorem dX8_copy_42 : decode cX8_copy 42 = .ok (.getfield 27, 3) := by decide +kernel
theorem dX8_copy_45 : decode cX8_copy 45 = .ok (.putfield 27, 3) := by decide +kernel
theorem dX8_copy_48 : decode cX8_copy 48 = .ok (.aload_n 0, 1) := by decide +kernel
theorem dX8_copy_49 : decode cX8_copy 49 = .ok (.aload_n 1, 1) := by decide +kernel
theorem dX8_copy_50 : decode cX8_copy 50 = .ok (.getfield 30, 3) := by decide +kernel
theorem dX8_copy_53 : decode cX8_copy 53 = .ok (.putfield 30, 3) := by decide +kernel
theorem dX8_copy_56 : decode cX8_copy 56 = .ok (.iconst 0, 1) := by decide +kernel
theorem dX8_copy_57 : decode cX8_copy 57 = .ok (.istore_n 2, 1) := by decide +kernel
theorem dX8_copy_58 : decode cX8_copy 58 = .ok (.iload_n 2, 1) := by decide +kernel
theorem dX8_copy_59 : decode cX8_copy 59 = .ok (.iconst 5, 1) := by decide +kernel
theorem dX8_copy_60 : decode cX8_copy 60 = .ok (.if_icmp .ge 21, 3) := by decide +kernel
theorem dX8_copy_63 : decode cX8_copy 63 = .ok (.aload_n 0, 1) := by decide +kernel
theorem dX8_copy_64 : decode cX8_copy 64 = .ok (.getfield 33, 3) := by decide +kernel
theorem dX8_copy_67 : decode cX8_copy 67 = .ok (.iload_n 2, 1) := by decide +kernel
theorem dX8_copy_68 : decode cX8_copy 68 = .ok (.aload_n 1, 1) := by decide +kernel
theorem dX8_copy_69 : decode cX8_copy 69 = .ok (.getfield 33, 3) := by decide +kernel
theorem dX8_copy_72 : decode cX8_copy 72 = .ok (.iload_n 2, 1) := by decide +kernel
theorem dX8_copy_73 : decode cX8_copy 73 = .ok (.iaload, 1) := by decide +kernel
theorem dX8_copy_74 : decode cX8_copy 74 = .ok (.iastore, 1) := by decide +kernel
theorem dX8_copy_75 : decode cX8_copy 75 = .ok (.iinc 2 1, 3) := by decide +kernel
theorem dX8_copy_78 : decode cX8_copy 78 = .ok (.goto (-20), 3) := by decide +kernel
theorem dX8_copy_81 : decode cX8_copy 81 = .ok (.iconst 0, 1) := by decide +kernel
theorem dX8_copy_82 : decode cX8_copy 82 = .ok (.istore_n 2, 1) := by decide +kernel
theorem dX8_copy_83 : decode cX8_copy 83 = .ok (.iload_n 2, 1) := by decide +kernel
theorem dX8_copy_84 : decode cX8_copy 84 = .ok (.bipush 9, 2) := by decide +kernel
theorem dX8_copy_86 : decode cX8_copy 86 = .ok (.if_icmp .ge 21, 3) := by decide +kernel
theorem dX8_copy_89 : decode cX8_copy 89 = .ok (.aload_n 0, 1) := by decide +kernel
theorem dX8_copy_90 : decode cX8_copy 90 = .ok (.getfield 37, 3) := by decide +kernel
theorem dX8_copy_93 : decode cX8_copy 93 = .ok (.iload_n 2, 1) := by decide +kernel
theorem dX8_copy_94 : decode cX8_copy 94 = .ok (.aload_n 1, 1) := by decide +kernel
theorem dX8_copy_95 : decode cX8_copy 95 = .ok (.getfield 37, 3) := by decide +kernel
theorem dX8_copy_98 : decode cX8_copy 98 = .ok (.iload_n 2, 1) := by decide +kernel
theorem dX8_copy_99 : decode cX8_copy 99 = .ok (.iaload, 1) := by decide +kernel
theorem dX8_copy_100 : decode cX8_copy 100 = .ok (.iastore, 1) := by decide +kernel
theorem dX8_copy_101 : decode cX8_copy 101 = .ok (.iinc 2 1, 3) := by decide +kernel
theorem dX8_copy_104 : decode cX8_copy 104 = .ok (.goto (-21), 3) := by decide +kernel
theorem dX8_copy_107 : decode cX8_copy 107 = .ok (.return_, 1) := by decide +kernel
def c_X8_copy_L58b {ρ : Type}  (p : Nat) (q1 : Nat) (K1 : PH → Option ρ) (REC : Int32 → PH → Option ρ) (x2 : Int32) (h : PH) : Option ρ :=
  if 5 ≤ x2 then
    K1 h
  else
    gd (ixOK x2 5) <|
    gd (ixOK x2 5) <| nm (setI h (p + 1) x2.toNatClampNeg (h.1 (q1 + 1) x2.toNatClampNeg)) fun h9 =>
    nm (x2 + 1) fun v10 =>
    REC v10 h9
set_option maxHeartbeats 4000000 in
set_option maxRecDepth 100000 in
theorem w_X8_copy_L58b {p0 : Program} {l : Launch} {e : Env} {s : State} {m : MethodId} {args : Array Value} {below : List Frame} {meth : Method} {c : Code} {Q : State → Prop} {D : va_G} {G : GG} {A : Nat → Prop} {H0 : Heap} {ad : Nat → Nat} {lay : List KK} {X : va_W} {ρ : Type} {p : Nat} {q1 : Nat} {r0 : ρ} {x2 : Int32} {h : PH} {H : Heap} {locs : List Loc} {ls : Array Slot} {K1 : PH → Option ρ} {REC : Int32 → PH → Option ρ} (hM : CallFix p0 m c cX8_copy 3 s args lw_g RX8) (ho : okX8 lay p) (ho1 : okX8 lay q1) (hk1 : ∀ (h : PH), ∀ (H : Heap) (locs : List Loc) (ls : Array Slot), K1 h = some r0 → Wd D G A H0 ad lay X h s H locs → lv_has ls 3 [(0, .ref (ad p)), (1, .ref (ad q1))] → W p0 l e (rmN 0 0) s m args below meth c H locs 0 0 Q (F0 m 81 ls [])) (hrec : ∀ (x2 : Int32) (h : PH), ∀ (H : Heap) (locs : List Loc) (ls : Array Slot), REC x2 h = some r0 → Wd D G A H0 ad lay X h s H locs → lv_has ls 3 [(0, .ref (ad p)), (1, .ref (ad q1)), (2, .int x2)] → W p0 l e (rmN 0 0) s m args below meth c H locs 0 0 Q (F0 m 58 ls [])) (hw : Wd D G A H0 ad lay X h s H locs) (hl : lv_has ls 3 [(0, .ref (ad p)), (1, .ref (ad q1)), (2, .int x2)]) (hf : c_X8_copy_L58b p q1 K1 REC x2 h = some r0) : W p0 l e (rmN 0 0) s m args below meth c H locs 0 0 Q (F0 m 58 ls []) := by
  unfold c_X8_copy_L58b at hf
  refine lv_iload_n hM.1 hM.2.1 dX8_copy_58 rfl (lv_at hl 2 rfl) ?_
  refine lv_iconst (v := 5) hM.1 hM.2.1 dX8_copy_59 ic_5 ?_
  refine x_ic_ge (tgt := 81) hM hf dX8_copy_60 (by decide) (fun hf => ?_) (fun hf => ?_)
  · exact hk1 _ _ _ _ hf hw (lv_sub hl [0, 1] rfl)
  refine lv_aload_n hM.1 hM.2.1 dX8_copy_63 rfl (lv_at hl 0 rfl) ?_
  refine gf_X8_trustOf hM hw (okX8.o ho) fl_X8_33 dX8_copy_64 ?_
  refine lv_iload_n hM.1 hM.2.1 dX8_copy_67 rfl (lv_at hl 2 rfl) ?_
  refine lv_aload_n hM.1 hM.2.1 dX8_copy_68 rfl (lv_at hl 1 rfl) ?_
  refine gf_X8_trustOf hM hw (okX8.o ho1) fl_X8_33 dX8_copy_69 ?_
  refine lv_iload_n hM.1 hM.2.1 dX8_copy_72 rfl (lv_at hl 2 rfl) ?_
  refine x_iald hM hw (okX8.trustOf ho1) hf dX8_copy_73 (fun hf => ?_)
  refine x_iast hM hw (okX8.trustOf ho) hf dX8_copy_74 (fun h9 H locs hf hw => ?_)
  refine x_iinc (k := 2) (d := 1) hM hf dX8_copy_75 hl rfl (by decide) (by decide) (fun v10 => [(2, .int v10), (0, .ref (ad p)), (1, .ref (ad q1))]) (fun _ => rfl) (fun v10 ls hf hl => ?_)
  refine lv_goto (tgt := 58) hM.1 hM.2.1 dX8_copy_78 (by decide) ?_
  exact hrec _ _ _ _ _ hf hw (lv_sub hl [1, 2, 0] rfl)
set_option maxHeartbeats 4000000 in
set_option maxRecDepth 100000 in
theorem w_X8_copy_L58 {p0 : Program} {l : Launch} {e : Env} {s : State} {m : MethodId} {args : Array Value} {below : List Frame} {meth : Method} {c : Code} {Q : State → Prop} {D : va_G} {G : GG} {A : Nat → Prop} {H0 : Heap} {ad : Nat → Nat} {lay : List KK} {X : va_W} {ρ : Type} {p : Nat} {q1 : Nat} {r0 : ρ} {K1 : PH → Option ρ} (hM : CallFix p0 m c cX8_copy 3 s args lw_g RX8) (ho : okX8 lay p) (ho1 : okX8 lay q1) (hk1 : ∀ (h : PH), ∀ (H : Heap) (locs : List Loc) (ls : Array Slot), K1 h = some r0 → Wd D G A H0 ad lay X h s H locs → lv_has ls 3 [(0, .ref (ad p)), (1, .ref (ad q1))] → W p0 l e (rmN 0 0) s m args below meth c H locs 0 0 Q (F0 m 81 ls [])) (n : Nat) (x2 : Int32) (h : PH) (hf : lq2 (c_X8_copy_L58b p q1 K1) n x2 h = some r0) : ∀ (H : Heap) (locs : List Loc) (ls : Array Slot), Wd D G A H0 ad lay X h s H locs → lv_has ls 3 [(0, .ref (ad p)), (1, .ref (ad q1)), (2, .int x2)] → W p0 l e (rmN 0 0) s m args below meth c H locs 0 0 Q (F0 m 58 ls []) := by
  exact lq2_i (fun (x2 : Int32) (h : PH) => ∀ (H : Heap) (locs : List Loc) (ls : Array Slot), Wd D G A H0 ad lay X h s H locs → lv_has ls 3 [(0, .ref (ad p)), (1, .ref (ad q1)), (2, .int x2)] → W p0 l e (rmN 0 0) s m args below meth c H locs 0 0 Q (F0 m 58 ls [])) (fun REC x2 h ih hf H locs ls hw hl => w_X8_copy_L58b hM ho ho1 hk1 (fun x2 h H locs ls hf hw hl => ih x2 h hf H locs ls hw hl) hw hl hf) n x2 h hf
def c_X8_copy_L83b {ρ : Type}  (p : Nat) (q1 : Nat) (K1 : PH → Option ρ) (REC : Int32 → PH → Option ρ) (x2 : Int32) (h : PH) : Option ρ :=
  if 9 ≤ x2 then
    K1 h
  else
    gd (ixOK x2 9) <|
    gd (ixOK x2 9) <| nm (setI h (p + 2) x2.toNatClampNeg (h.1 (q1 + 2) x2.toNatClampNeg)) fun h13 =>
    nm (x2 + 1) fun v14 =>
    REC v14 h13
set_option maxHeartbeats 4000000 in
set_option maxRecDepth 100000 in
theorem w_X8_copy_L83b {p0 : Program} {l : Launch} {e : Env} {s : State} {m : MethodId} {args : Array Value} {below : List Frame} {meth : Method} {c : Code} {Q : State → Prop} {D : va_G} {G : GG} {A : Nat → Prop} {H0 : Heap} {ad : Nat → Nat} {lay : List KK} {X : va_W} {ρ : Type} {p : Nat} {q1 : Nat} {r0 : ρ} {x2 : Int32} {h : PH} {H : Heap} {locs : List Loc} {ls : Array Slot} {K1 : PH → Option ρ} {REC : Int32 → PH → Option ρ} (hM : CallFix p0 m c cX8_copy 3 s args lw_g RX8) (ho : okX8 lay p) (ho1 : okX8 lay q1) (hk1 : ∀ (h : PH), ∀ (H : Heap) (locs : List Loc) (ls : Array Slot), K1 h = some r0 → Wd D G A H0 ad lay X h s H locs → lv_has ls 3 [] → W p0 l e (rmN 0 0) s m args below meth c H locs 0 0 Q (F0 m 107 ls [])) (hrec : ∀ (x2 : Int32) (h : PH), ∀ (H : Heap) (locs : List Loc) (ls : Array Slot), REC x2 h = some r0 → Wd D G A H0 ad lay X h s H locs → lv_has ls 3 [(0, .ref (ad p)), (1, .ref (ad q1)), (2, .int x2)] → W p0 l e (rmN 0 0) s m args below meth c H locs 0 0 Q (F0 m 83 ls [])) (hw : Wd D G A H0 ad lay X h s H locs) (hl : lv_has ls 3 [(0, .ref (ad p)), (1, .ref (ad q1)), (2, .int x2)]) (hf : c_X8_copy_L83b p q1 K1 REC x2 h = some r0) : W p0 l e (rmN 0 0) s m args below meth c H locs 0 0 Q (F0 m 83 ls []) := by
  unfold c_X8_copy_L83b at hf
  refine lv_iload_n hM.1 hM.2.1 dX8_copy_83 rfl (lv_at hl 2 rfl) ?_
  refine lv_bipush (v := 9) hM.1 hM.2.1 dX8_copy_84 (by decide) ?_
  refine x_ic_ge (tgt := 107) hM hf dX8_copy_86 (by decide) (fun hf => ?_) (fun hf => ?_)
  · exact hk1 _ _ _ _ hf hw (lv_sub hl [] rfl)
  refine lv_aload_n hM.1 hM.2.1 dX8_copy_89 rfl (lv_at hl 0 rfl) ?_
  refine gf_X8_plans hM hw (okX8.o ho) fl_X8_37 dX8_copy_90 ?_
  refine lv_iload_n hM.1 hM.2.1 dX8_copy_93 rfl (lv_at hl 2 rfl) ?_
  refine lv_aload_n hM.1 hM.2.1 dX8_copy_94 rfl (lv_at hl 1 rfl) ?_
  refine gf_X8_plans hM hw (okX8.o ho1) fl_X8_37 dX8_copy_95 ?_
  refine lv_iload_n hM.1 hM.2.1 dX8_copy_98 rfl (lv_at hl 2 rfl) ?_
  refine x_iald hM hw (okX8.plans ho1) hf dX8_copy_99 (fun hf => ?_)
  refine x_iast hM hw (okX8.plans ho) hf dX8_copy_100 (fun h13 H locs hf hw => ?_)
  refine x_iinc (k := 2) (d := 1) hM hf dX8_copy_101 hl rfl (by decide) (by decide) (fun v14 => [(2, .int v14), (0, .ref (ad p)), (1, .ref (ad q1))]) (fun _ => rfl) (fun v14 ls hf hl => ?_)
  refine lv_goto (tgt := 83) hM.1 hM.2.1 dX8_copy_104 (by decide) ?_
  exact hrec _ _ _ _ _ hf hw (lv_sub hl [1, 2, 0] rfl)
set_option maxHeartbeats 4000000 in
set_option maxRecDepth 100000 in
theorem w_X8_copy_L83 {p0 : Program} {l : Launch} {e : Env} {s : State} {m : MethodId} {args : Array Value} {below : List Frame} {meth : Method} {c : Code} {Q : State → Prop} {D : va_G} {G : GG} {A : Nat → Prop} {H0 : Heap} {ad : Nat → Nat} {lay : List KK} {X : va_W} {ρ : Type} {p : Nat} {q1 : Nat} {r0 : ρ} {K1 : PH → Option ρ} (hM : CallFix p0 m c cX8_copy 3 s args lw_g RX8) (ho : okX8 lay p) (ho1 : okX8 lay q1) (hk1 : ∀ (h : PH), ∀ (H : Heap) (locs : List Loc) (ls : Array Slot), K1 h = some r0 → Wd D G A H0 ad lay X h s H locs → lv_has ls 3 [] → W p0 l e (rmN 0 0) s m args below meth c H locs 0 0 Q (F0 m 107 ls [])) (n : Nat) (x2 : Int32) (h : PH) (hf : lq2 (c_X8_copy_L83b p q1 K1) n x2 h = some r0) : ∀ (H : Heap) (locs : List Loc) (ls : Array Slot), Wd D G A H0 ad lay X h s H locs → lv_has ls 3 [(0, .ref (ad p)), (1, .ref (ad q1)), (2, .int x2)] → W p0 l e (rmN 0 0) s m args below meth c H locs 0 0 Q (F0 m 83 ls []) := by
  exact lq2_i (fun (x2 : Int32) (h : PH) => ∀ (H : Heap) (locs : List Loc) (ls : Array Slot), Wd D G A H0 ad lay X h s H locs → lv_has ls 3 [(0, .ref (ad p)), (1, .ref (ad q1)), (2, .int x2)] → W p0 l e (rmN 0 0) s m args below meth c H locs 0 0 Q (F0 m 83 ls [])) (fun REC x2 h ih hf H locs ls hw hl => w_X8_copy_L83b hM ho ho1 hk1 (fun x2 h H locs ls hf hw hl => ih x2 h hf H locs ls hw hl) hw hl hf) n x2 h hf
def c_X8_copy (p : Nat) (q1 : Nat) (h : PH) : Option (PH) :=
  nm (setI h p 0 (h.1 q1 0)) fun h1 =>
  nm (setI h1 p 1 (h1.1 q1 1)) fun h2 =>
  nm (setI h2 p 2 (h2.1 q1 2)) fun h3 =>
  nm (setI h3 p 3 (h3.1 q1 3)) fun h4 =>
  nm (setI h4 p 4 (h4.1 q1 4)) fun h5 =>
  nm (setI h5 p 5 (h5.1 q1 5)) fun h6 =>
  nm (setI h6 p 6 (h6.1 q1 6)) fun h7 =>
  nm (0 : Int32) fun v8 =>
  lq2 (c_X8_copy_L58b p q1
    (fun h11 =>
      nm (0 : Int32) fun v12 =>
      lq2 (c_X8_copy_L83b p q1
        (fun h15 =>
          some h15)) fu v12 h11)) fu v8 h7
set_option maxHeartbeats 4000000 in
set_option maxRecDepth 100000 in
theorem ct_X8_copy (l : Launch) {lay : List KK} {p : Nat} {q1 : Nat} (ho : okX8 lay p) (ho1 : okX8 lay q1) : CtV l yX8_copy cX8_copy 3 (none) 0 0 lay (fun h => c_X8_copy p q1 h) (fun ad => [.ref (ad p), .ref (ad q1)]) := by
  refine CtV.mk' RX8 (by decide) rfl (fun _ => Nat.le_of_ble_eq_true rfl) ?_
  intro p0 e s m args below meth c D G A H0 ad X h r0 H ls Q hM hw hl hf hR
  have hl : lv_has ls 3 [(0, .ref (ad p)), (1, .ref (ad q1))] := hl
  unfold c_X8_copy at hf
  refine lv_aload_n hM.1 hM.2.1 dX8_copy_0 rfl (lv_at hl 0 rfl) ?_
  refine lv_aload_n hM.1 hM.2.1 dX8_copy_1 rfl (lv_at hl 1 rfl) ?_
  refine gf_X8_today hM hw (okX8.o ho1) fl_X8_9 dX8_copy_2 ?_
  refine pf_X8_today hM hw (okX8.o ho) fl_X8_9 hf dX8_copy_5 (fun h1 H locs hf hw => ?_)
  refine lv_aload_n hM.1 hM.2.1 dX8_copy_8 rfl (lv_at hl 0 rfl) ?_
  refine lv_aload_n hM.1 hM.2.1 dX8_copy_9 rfl (lv_at hl 1 rfl) ?_
  refine gf_X8_coins hM hw (okX8.o ho1) fl_X8_15 dX8_copy_10 ?_
  refine pf_X8_coins hM hw (okX8.o ho) fl_X8_15 hf dX8_copy_13 (fun h2 H locs hf hw => ?_)
  refine lv_aload_n hM.1 hM.2.1 dX8_copy_16 rfl (lv_at hl 0 rfl) ?_
  refine lv_aload_n hM.1 hM.2.1 dX8_copy_17 rfl (lv_at hl 1 rfl) ?_
  refine gf_X8_hours hM hw (okX8.o ho1) fl_X8_18 dX8_copy_18 ?_
  refine pf_X8_hours hM hw (okX8.o ho) fl_X8_18 hf dX8_copy_21 (fun h3 H locs hf hw => ?_)
  refine lv_aload_n hM.1 hM.2.1 dX8_copy_24 rfl (lv_at hl 0 rfl) ?_
  refine lv_aload_n hM.1 hM.2.1 dX8_copy_25 rfl (lv_at hl 1 rfl) ?_
  refine gf_X8_owned hM hw (okX8.o ho1) fl_X8_21 dX8_copy_26 ?_
  refine pf_X8_owned hM hw (okX8.o ho) fl_X8_21 hf dX8_copy_29 (fun h4 H locs hf hw => ?_)
  refine lv_aload_n hM.1 hM.2.1 dX8_copy_32 rfl (lv_at hl 0 rfl) ?_
  refine lv_aload_n hM.1 hM.2.1 dX8_copy_33 rfl (lv_at hl 1 rfl) ?_
  refine gf_X8_freed hM hw (okX8.o ho1) fl_X8_24 dX8_copy_34 ?_
  refine pf_X8_freed hM hw (okX8.o ho) fl_X8_24 hf dX8_copy_37 (fun h5 H locs hf hw => ?_)
  refine lv_aload_n hM.1 hM.2.1 dX8_copy_40 rfl (lv_at hl 0 rfl) ?_
  refine lv_aload_n hM.1 hM.2.1 dX8_copy_41 rfl (lv_at hl 1 rfl) ?_
  refine gf_X8_caught hM hw (okX8.o ho1) fl_X8_27 dX8_copy_42 ?_
  refine pf_X8_caught hM hw (okX8.o ho) fl_X8_27 hf dX8_copy_45 (fun h6 H locs hf hw => ?_)
  refine lv_aload_n hM.1 hM.2.1 dX8_copy_48 rfl (lv_at hl 0 rfl) ?_
  refine lv_aload_n hM.1 hM.2.1 dX8_copy_49 rfl (lv_at hl 1 rfl) ?_
  refine gf_X8_done hM hw (okX8.o ho1) fl_X8_30 dX8_copy_50 ?_
  refine pf_X8_done hM hw (okX8.o ho) fl_X8_30 hf dX8_copy_53 (fun h7 H locs hf hw => ?_)
  refine lv_iconst (v := 0) hM.1 hM.2.1 dX8_copy_56 ic_0 ?_
  refine x_istore_n hM hf dX8_copy_57 rfl hl (by decide) (fun v8 => [(2, .int v8), (0, .ref (ad p)), (1, .ref (ad q1))]) (fun _ => rfl) (fun v8 ls hf hl => ?_)
  refine w_X8_copy_L58 hM ho ho1 (fun h11 H locs ls hf hw hl => ?_) fu _ _ hf _ _ _ hw (lv_sub hl [1, 2, 0] rfl)
  refine lv_iconst (v := 0) hM.1 hM.2.1 dX8_copy_81 ic_0 ?_
  refine x_istore_n hM hf dX8_copy_82 rfl hl (by decide) (fun v12 => [(2, .int v12), (0, .ref (ad p)), (1, .ref (ad q1))]) (fun _ => rfl) (fun v12 ls hf hl => ?_)
  refine w_X8_copy_L83 hM ho ho1 (fun h15 H locs ls hf hw hl => ?_) fu _ _ hf _ _ _ hw (lv_sub hl [1, 2, 0] rfl)
  exact hR _ _ _ _ _ (Option.some.inj hf) rfl hw dX8_copy_107
theorem hd_X8_copy : yX8_copy.cls = RX8 ∧ yX8_copy.cls ≠ "java/lang/invoke/MethodHandle" ∧ yX8_copy.cls ≠ "java/lang/invoke/VarHandle" ∧ (parseMethodDescriptor yX8_copy.desc).map (fun d => d.parameters.length) = some 1 := ⟨rfl, by decide, by decide, by decide +kernel⟩
theorem dX8_owns_0 : decode cX8_owns 0 = .ok (.aload_n 0, 1) := by decide +kernel
theorem dX8_owns_1 : decode cX8_owns 1 = .ok (.getfield 21, 3) := by decide +kernel
theorem dX8_owns_4 : decode cX8_owns 4 = .ok (.iload_n 1, 1) := by decide +kernel
theorem dX8_owns_5 : decode cX8_owns 5 = .ok (.ishr, 1) := by decide +kernel
theorem dX8_owns_6 : decode cX8_owns 6 = .ok (.iconst 1, 1) := by decide +kernel
theorem dX8_owns_7 : decode cX8_owns 7 = .ok (.iand, 1) := by decide +kernel
theorem dX8_owns_8 : decode cX8_owns 8 = .ok (.ifCond .eq 7, 3) := by decide +kernel
theorem dX8_owns_11 : decode cX8_owns 11 = .ok (.iconst 1, 1) := by decide +kernel
theorem dX8_owns_12 : decode cX8_owns 12 = .ok (.goto 4, 3) := by decide +kernel
theorem dX8_owns_15 : decode cX8_owns 15 = .ok (.iconst 0, 1) := by decide +kernel
theorem dX8_owns_16 : decode cX8_owns 16 = .ok (.ireturn, 1) := by decide +kernel
def c_X8_owns (p : Nat) (a1 : Int32) (h : PH) : Option (Int32) :=
  if (((h.1 p 3) >>> (a1 &&& 31)) &&& 1) = 0 then
    some 0
  else
    some 1
set_option maxHeartbeats 4000000 in
set_option maxRecDepth 100000 in
theorem ct_X8_owns (l : Launch) {lay : List KK} {p : Nat} (ho : okX8 lay p) (a1 : Int32) : CtI l yX8_owns cX8_owns 2 (some .boolean) 0 0 lay (rd (fun h => c_X8_owns p a1 h)) (fun ad => [.ref (ad p), .int a1]) := by
  refine CtI.mk' RX8 (by decide) rfl (fun _ => Nat.le_of_ble_eq_true rfl) ?_
  intro p0 e s m args below meth c D G A H0 ad X h r0 H ls Q hM hw hl hf hR
  have hl : lv_has ls 2 [(0, .ref (ad p)), (1, .int a1)] := hl
  obtain ⟨v0, hv0, hr0⟩ : ∃ v0, c_X8_owns p a1 h = some v0 ∧ r0 = (v0, h) := rd_some hf
  subst hr0
  have hf := hv0
  unfold c_X8_owns at hf
  refine lv_aload_n hM.1 hM.2.1 dX8_owns_0 rfl (lv_at hl 0 rfl) ?_
  refine gf_X8_owned hM hw (okX8.o ho) fl_X8_21 dX8_owns_1 ?_
  refine lv_iload_n hM.1 hM.2.1 dX8_owns_4 rfl (lv_at hl 1 rfl) ?_
  refine lv_ishr hM.1 hM.2.1 dX8_owns_5 ?_
  refine lv_iconst (v := 1) hM.1 hM.2.1 dX8_owns_6 ic_1 ?_
  refine lv_iand hM.1 hM.2.1 dX8_owns_7 ?_
  refine x_if_eq (tgt := 15) hM hf dX8_owns_8 (by decide) (fun hf => ?_) (fun hf => ?_)
  · refine lv_iconst (v := 0) hM.1 hM.2.1 dX8_owns_15 ic_0 ?_
    exact hR _ _ _ _ _ _ _ (congrArg (fun z => (z, _)) (Option.some.inj hf)) rfl (nar_z (by decide)) hw dX8_owns_16
  refine lv_iconst (v := 1) hM.1 hM.2.1 dX8_owns_11 ic_1 ?_
  refine lv_goto (tgt := 16) hM.1 hM.2.1 dX8_owns_12 (by decide) ?_
  exact hR _ _ _ _ _ _ _ (congrArg (fun z => (z, _)) (Option.some.inj hf)) rfl (nar_z (by decide)) hw dX8_owns_16
theorem hd_X8_owns : yX8_owns.cls = RX8 ∧ yX8_owns.cls ≠ "java/lang/invoke/MethodHandle" ∧ yX8_owns.cls ≠ "java/lang/invoke/VarHandle" ∧ (parseMethodDescriptor yX8_owns.desc).map (fun d => d.parameters.length) = some 1 := ⟨rfl, by decide, by decide, by decide +kernel⟩
theorem dX8_over_0 : decode cX8_over 0 = .ok (.aload_n 0, 1) := by decide +kernel
theorem dX8_over_1 : decode cX8_over 1 = .ok (.getfield 24, 3) := by decide +kernel
theorem dX8_over_4 : decode cX8_over 4 = .ok (.aload_n 0, 1) := by decide +kernel
theorem dX8_over_5 : decode cX8_over 5 = .ok (.getfield 27, 3) := by decide +kernel
theorem dX8_over_8 : decode cX8_over 8 = .ok (.ior, 1) := by decide +kernel
theorem dX8_over_9 : decode cX8_over 9 = .ok (.aload_n 0, 1) := by decide +kernel
theorem dX8_over_10 : decode cX8_over 10 = .ok (.getfield 30, 3) := by decide +kernel
theorem dX8_over_13 : decode cX8_over 13 = .ok (.ior, 1) := by decide +kernel
theorem dX8_over_14 : decode cX8_over 14 = .ok (.ireturn, 1) := by decide +kernel
def c_X8_over (p : Nat) (h : PH) : Option (Int32) :=
  some (((h.1 p 4) ||| (h.1 p 5)) ||| (h.1 p 6))
set_option maxHeartbeats 4000000 in
set_option maxRecDepth 100000 in
theorem ct_X8_over (l : Launch) {lay : List KK} {p : Nat} (ho : okX8 lay p) : CtI l yX8_over cX8_over 1 (some .int) 0 0 lay (rd (fun h => c_X8_over p h)) (fun ad => [.ref (ad p)]) := by
  refine CtI.mk' RX8 (by decide) rfl (fun _ => Nat.le_of_ble_eq_true rfl) ?_
  intro p0 e s m args below meth c D G A H0 ad X h r0 H ls Q hM hw hl hf hR
  have hl : lv_has ls 1 [(0, .ref (ad p))] := hl
  obtain ⟨v0, hv0, hr0⟩ : ∃ v0, c_X8_over p h = some v0 ∧ r0 = (v0, h) := rd_some hf
  subst hr0
  have hf := hv0
  unfold c_X8_over at hf
  refine lv_aload_n hM.1 hM.2.1 dX8_over_0 rfl (lv_at hl 0 rfl) ?_
  refine gf_X8_freed hM hw (okX8.o ho) fl_X8_24 dX8_over_1 ?_
  refine lv_aload_n hM.1 hM.2.1 dX8_over_4 rfl (lv_at hl 0 rfl) ?_
  refine gf_X8_caught hM hw (okX8.o ho) fl_X8_27 dX8_over_5 ?_
  refine lv_ior hM.1 hM.2.1 dX8_over_8 ?_
  refine lv_aload_n hM.1 hM.2.1 dX8_over_9 rfl (lv_at hl 0 rfl) ?_
  refine gf_X8_done hM hw (okX8.o ho) fl_X8_30 dX8_over_10 ?_
  refine lv_ior hM.1 hM.2.1 dX8_over_13 ?_
  exact hR _ _ _ _ _ _ _ (congrArg (fun z => (z, _)) (Option.some.inj hf)) rfl rfl hw dX8_over_14
theorem hd_X8_over : yX8_over.cls = RX8 ∧ yX8_over.cls ≠ "java/lang/invoke/MethodHandle" ∧ yX8_over.cls ≠ "java/lang/invoke/VarHandle" ∧ (parseMethodDescriptor yX8_over.desc).map (fun d => d.parameters.length) = some 0 := ⟨rfl, by decide, by decide, by decide +kernel⟩
theorem dX8_isOver_0 : decode cX8_isOver 0 = .ok (.aload_n 0, 1) := by decide +kernel
theorem dX8_isOver_1 : decode cX8_isOver 1 = .ok (.invokevirtual 51, 3) := by decide +kernel
theorem dX8_isOver_4 : decode cX8_isOver 4 = .ok (.iload_n 1, 1) := by decide +kernel
theorem dX8_isOver_5 : decode cX8_isOver 5 = .ok (.ishr, 1) := by decide +kernel
theorem dX8_isOver_6 : decode cX8_isOver 6 = .ok (.iconst 1, 1) := by decide +kernel
theorem dX8_isOver_7 : decode cX8_isOver 7 = .ok (.iand, 1) := by decide +kernel
theorem dX8_isOver_8 : decode cX8_isOver 8 = .ok (.ifCond .eq 7, 3) := by decide +kernel
theorem dX8_isOver_11 : decode cX8_isOver 11 = .ok (.iconst 1, 1) := by decide +kernel
theorem dX8_isOver_12 : decode cX8_isOver 12 = .ok (.goto 4, 3) := by decide +kernel
theorem dX8_isOver_15 : decode cX8_isOver 15 = .ok (.iconst 0, 1) := by decide +kernel
theorem dX8_isOver_16 : decode cX8_isOver 16 = .ok (.ireturn, 1) := by decide +kernel
def c_X8_isOver (p : Nat) (a1 : Int32) (h : PH) : Option (Int32) :=
  (c_X8_over p h).bind fun r1 =>
  if ((r1 >>> (a1 &&& 31)) &&& 1) = 0 then
    some 0
  else
    some 1
set_option maxHeartbeats 4000000 in
set_option maxRecDepth 100000 in
theorem ct_X8_isOver (l : Launch) {lay : List KK} {p : Nat} (ho : okX8 lay p) (a1 : Int32) : CtI l yX8_isOver cX8_isOver 2 (some .boolean) 1 20 lay (rd (fun h => c_X8_isOver p a1 h)) (fun ad => [.ref (ad p), .int a1]) := by
  refine CtI.mk' RX8 (by decide) rfl (fun _ => Nat.le_of_ble_eq_true rfl) ?_
  intro p0 e s m args below meth c D G A H0 ad X h r0 H ls Q hM hw hl hf hR
  have hl : lv_has ls 2 [(0, .ref (ad p)), (1, .int a1)] := hl
  obtain ⟨v0, hv0, hr0⟩ : ∃ v0, c_X8_isOver p a1 h = some v0 ∧ r0 = (v0, h) := rd_some hf
  subst hr0
  have hf := hv0
  unfold c_X8_isOver at hf
  refine lv_aload_n hM.1 hM.2.1 dX8_isOver_0 rfl (lv_at hl 0 rfl) ?_
  refine x_callVIr (rest := []) hM hw (ct_X8_over l ho) [] (okX8.o ho) rfl rfl rfl (gi_V ml_X8_51 im_X8_over sl_X8_over in_X8 kc_X8_over) hd_X8_over rfl ⟨Nat.le_of_ble_eq_true rfl, Nat.le_of_ble_eq_true rfl⟩ rfl (Nat.le_of_ble_eq_true rfl) hl.1 hcs0 hf dX8_isOver_1 (fun r1 H locs hf hw => ?_)
  refine lv_iload_n hM.1 hM.2.1 dX8_isOver_4 rfl (lv_at hl 1 rfl) ?_
  refine lv_ishr hM.1 hM.2.1 dX8_isOver_5 ?_
  refine lv_iconst (v := 1) hM.1 hM.2.1 dX8_isOver_6 ic_1 ?_
  refine lv_iand hM.1 hM.2.1 dX8_isOver_7 ?_
  refine x_if_eq (tgt := 15) hM hf dX8_isOver_8 (by decide) (fun hf => ?_) (fun hf => ?_)
  · refine lv_iconst (v := 0) hM.1 hM.2.1 dX8_isOver_15 ic_0 ?_
    exact hR _ _ _ _ _ _ _ (congrArg (fun z => (z, _)) (Option.some.inj hf)) rfl (nar_z (by decide)) hw dX8_isOver_16
  refine lv_iconst (v := 1) hM.1 hM.2.1 dX8_isOver_11 ic_1 ?_
  refine lv_goto (tgt := 16) hM.1 hM.2.1 dX8_isOver_12 (by decide) ?_
  exact hR _ _ _ _ _ _ _ (congrArg (fun z => (z, _)) (Option.some.inj hf)) rfl (nar_z (by decide)) hw dX8_isOver_16
theorem hd_X8_isOver : yX8_isOver.cls = RX8 ∧ yX8_isOver.cls ≠ "java/lang/invoke/MethodHandle" ∧ yX8_isOver.cls ≠ "java/lang/invoke/VarHandle" ∧ (parseMethodDescriptor yX8_isOver.desc).map (fun d => d.parameters.length) = some 1 := ⟨rfl, by decide, by decide, by decide +kernel⟩
theorem dX8_outcome_0 : decode cX8_outcome 0 = .ok (.iconst 1, 1) := by decide +kernel
theorem dX8_outcome_1 : decode cX8_outcome 1 = .ok (.iload_n 1, 1) := by decide +kernel
theorem dX8_outcome_2 : decode cX8_outcome 2 = .ok (.ishl, 1) := by decide +kernel
theorem dX8_outcome_3 : decode cX8_outcome 3 = .ok (.istore_n 2, 1) := by decide +kernel
theorem dX8_outcome_4 : decode cX8_outcome 4 = .ok (.aload_n 0, 1) := by decide +kernel
theorem dX8_outcome_5 : decode cX8_outcome 5 = .ok (.getfield 24, 3) := by decide +kernel
theorem dX8_outcome_8 : decode cX8_outcome 8 = .ok (.iload_n 2, 1) := by decide +kernel
theorem dX8_outcome_9 : decode cX8_outcome 9 = .ok (.iand, 1) := by decide +kernel
theorem dX8_outcome_10 : decode cX8_outcome 10 = .ok (.ifCond .eq 7, 3) := by decide +kernel
theorem dX8_outcome_13 : decode cX8_outcome 13 = .ok (.iconst 1, 1) := by decide +kernel
theorem dX8_outcome_14 : decode cX8_outcome 14 = .ok (.goto 30, 3) := by decide +kernel
theorem dX8_outcome_17 : decode cX8_outcome 17 = .ok (.aload_n 0, 1) := by decide +kernel
theorem dX8_outcome_18 : decode cX8_outcome 18 = .ok (.getfield 27, 3) := by decide +kernel
theorem dX8_outcome_21 : decode cX8_outcome 21 = .ok (.iload_n 2, 1) := by decide +kernel
theorem dX8_outcome_22 : decode cX8_outcome 22 = .ok (.iand, 1) := by decide +kernel
theorem dX8_outcome_23 : decode cX8_outcome 23 = .ok (.ifCond .eq 7, 3) := by decide +kernel
theorem dX8_outcome_26 : decode cX8_outcome 26 = .ok (.iconst 2, 1) := by decide +kernel
theorem dX8_outcome_27 : decode cX8_outcome 27 = .ok (.goto 17, 3) := by decide +kernel
theorem dX8_outcome_30 : decode cX8_outcome 30 = .ok (.aload_n 0, 1) := by decide +kernel
theorem dX8_outcome_31 : decode cX8_outcome 31 = .ok (.getfield 30, 3) := by decide +kernel
theorem dX8_outcome_34 : decode cX8_outcome 34 = .ok (.iload_n 2, 1) := by decide +kernel
theorem dX8_outcome_35 : decode cX8_outcome 35 = .ok (.iand, 1) := by decide +kernel
theorem dX8_outcome_36 : decode cX8_outcome 36 = .ok (.ifCond .eq 7, 3) := by decide +kernel
theorem dX8_outcome_39 : decode cX8_outcome 39 = .ok (.iconst 3, 1) := by decide +kernel
theorem dX8_outcome_40 : decode cX8_outcome 40 = .ok (.goto 4, 3) := by decide +kernel
theorem dX8_outcome_43 : decode cX8_outcome 43 = .ok (.iconst 0, 1) := by decide +kernel
theorem dX8_outcome_44 : decode cX8_outcome 44 = .ok (.ireturn, 1) := by decide +kernel
def c_X8_outcome (p : Nat) (a1 : Int32) (h : PH) : Option (Int32) :=
  nm ((1 : Int32) <<< (a1 &&& 31)) fun v1 =>
  if ((h.1 p 4) &&& v1) = 0 then
    if ((h.1 p 5) &&& v1) = 0 then
      if ((h.1 p 6) &&& v1) = 0 then
        some 0
      else
        some 3
    else
      some 2
  else
    some 1
set_option maxHeartbeats 4000000 in
set_option maxRecDepth 100000 in
theorem ct_X8_outcome (l : Launch) {lay : List KK} {p : Nat} (ho : okX8 lay p) (a1 : Int32) : CtI l yX8_outcome cX8_outcome 3 (some .int) 0 0 lay (rd (fun h => c_X8_outcome p a1 h)) (fun ad => [.ref (ad p), .int a1]) := by
  refine CtI.mk' RX8 (by decide) rfl (fun _ => Nat.le_of_ble_eq_true rfl) ?_
  intro p0 e s m args below meth c D G A H0 ad X h r0 H ls Q hM hw hl hf hR
  have hl : lv_has ls 3 [(0, .ref (ad p)), (1, .int a1)] := hl
  obtain ⟨v0, hv0, hr0⟩ : ∃ v0, c_X8_outcome p a1 h = some v0 ∧ r0 = (v0, h) := rd_some hf
  subst hr0
  have hf := hv0
  unfold c_X8_outcome at hf
  refine lv_iconst (v := 1) hM.1 hM.2.1 dX8_outcome_0 ic_1 ?_
  refine lv_iload_n hM.1 hM.2.1 dX8_outcome_1 rfl (lv_at hl 1 rfl) ?_
  refine lv_ishl hM.1 hM.2.1 dX8_outcome_2 ?_
  refine x_istore_n hM hf dX8_outcome_3 rfl hl (by decide) (fun v1 => [(2, .int v1), (0, .ref (ad p)), (1, .int a1)]) (fun _ => rfl) (fun v1 ls hf hl => ?_)
  refine lv_aload_n hM.1 hM.2.1 dX8_outcome_4 rfl (lv_at hl 1 rfl) ?_
  refine gf_X8_freed hM hw (okX8.o ho) fl_X8_24 dX8_outcome_5 ?_
  refine lv_iload_n hM.1 hM.2.1 dX8_outcome_8 rfl (lv_at hl 0 rfl) ?_
  refine lv_iand hM.1 hM.2.1 dX8_outcome_9 ?_
  refine x_if_eq (tgt := 17) hM hf dX8_outcome_10 (by decide) (fun hf => ?_) (fun hf => ?_)
  · refine lv_aload_n hM.1 hM.2.1 dX8_outcome_17 rfl (lv_at hl 1 rfl) ?_
    refine gf_X8_caught hM hw (okX8.o ho) fl_X8_27 dX8_outcome_18 ?_
    refine lv_iload_n hM.1 hM.2.1 dX8_outcome_21 rfl (lv_at hl 0 rfl) ?_
    refine lv_iand hM.1 hM.2.1 dX8_outcome_22 ?_
    refine x_if_eq (tgt := 30) hM hf dX8_outcome_23 (by decide) (fun hf => ?_) (fun hf => ?_)
    · refine lv_aload_n hM.1 hM.2.1 dX8_outcome_30 rfl (lv_at hl 1 rfl) ?_
      refine gf_X8_done hM hw (okX8.o ho) fl_X8_30 dX8_outcome_31 ?_
      refine lv_iload_n hM.1 hM.2.1 dX8_outcome_34 rfl (lv_at hl 0 rfl) ?_
      refine lv_iand hM.1 hM.2.1 dX8_outcome_35 ?_
      refine x_if_eq (tgt := 43) hM hf dX8_outcome_36 (by decide) (fun hf => ?_) (fun hf => ?_)
      · refine lv_iconst (v := 0) hM.1 hM.2.1 dX8_outcome_43 ic_0 ?_
        exact hR _ _ _ _ _ _ _ (congrArg (fun z => (z, _)) (Option.some.inj hf)) rfl rfl hw dX8_outcome_44
      refine lv_iconst (v := 3) hM.1 hM.2.1 dX8_outcome_39 ic_3 ?_
      refine lv_goto (tgt := 44) hM.1 hM.2.1 dX8_outcome_40 (by decide) ?_
      exact hR _ _ _ _ _ _ _ (congrArg (fun z => (z, _)) (Option.some.inj hf)) rfl rfl hw dX8_outcome_44
    refine lv_iconst (v := 2) hM.1 hM.2.1 dX8_outcome_26 ic_2 ?_
    refine lv_goto (tgt := 44) hM.1 hM.2.1 dX8_outcome_27 (by decide) ?_
    exact hR _ _ _ _ _ _ _ (congrArg (fun z => (z, _)) (Option.some.inj hf)) rfl rfl hw dX8_outcome_44
  refine lv_iconst (v := 1) hM.1 hM.2.1 dX8_outcome_13 ic_1 ?_
  refine lv_goto (tgt := 44) hM.1 hM.2.1 dX8_outcome_14 (by decide) ?_
  exact hR _ _ _ _ _ _ _ (congrArg (fun z => (z, _)) (Option.some.inj hf)) rfl rfl hw dX8_outcome_44
theorem hd_X8_outcome : yX8_outcome.cls = RX8 ∧ yX8_outcome.cls ≠ "java/lang/invoke/MethodHandle" ∧ yX8_outcome.cls ≠ "java/lang/invoke/VarHandle" ∧ (parseMethodDescriptor yX8_outcome.desc).map (fun d => d.parameters.length) = some 1 := ⟨rfl, by decide, by decide, by decide +kernel⟩
theorem dX8_plannedFor_0 : decode cX8_plannedFor 0 = .ok (.iconst 0, 1) := by decide +kernel
theorem dX8_plannedFor_1 : decode cX8_plannedFor 1 = .ok (.istore_n 3, 1) := by decide +kernel
theorem dX8_plannedFor_2 : decode cX8_plannedFor 2 = .ok (.iconst 0, 1) := by decide +kernel
theorem dX8_plannedFor_3 : decode cX8_plannedFor 3 = .ok (.istore 4, 2) := by decide +kernel
theorem dX8_plannedFor_5 : decode cX8_plannedFor 5 = .ok (.iload 4, 2) := by decide +kernel
theorem dX8_plannedFor_7 : decode cX8_plannedFor 7 = .ok (.aload_n 1, 1) := by decide +kernel
theorem dX8_plannedFor_8 : decode cX8_plannedFor 8 = .ok (.getfield 55, 3) := by decide +kernel
theorem dX8_plannedFor_11 : decode cX8_plannedFor 11 = .ok (.if_icmp .ge 31, 3) := by decide +kernel
theorem dX8_plannedFor_14 : decode cX8_plannedFor 14 = .ok (.iload_n 3, 1) := by decide +kernel
theorem dX8_plannedFor_15 : decode cX8_plannedFor 15 = .ok (.aload_n 0, 1) := by decide +kernel
theorem dX8_plannedFor_16 : decode cX8_plannedFor 16 = .ok (.getfield 37, 3) := by decide +kernel
theorem dX8_plannedFor_19 : decode cX8_plannedFor 19 = .ok (.iload 4, 2) := by decide +kernel
theorem dX8_plannedFor_21 : decode cX8_plannedFor 21 = .ok (.iaload, 1) := by decide +kernel
theorem dX8_plannedFor_22 : decode cX8_plannedFor 22 = .ok (.iload_n 2, 1) := by decide +kernel
theorem dX8_plannedFor_23 : decode cX8_plannedFor 23 = .ok (.if_icmp .ne 10, 3) := by decide +kernel
theorem dX8_plannedFor_26 : decode cX8_plannedFor 26 = .ok (.iconst 1, 1) := by decide +kernel
theorem dX8_plannedFor_27 : decode cX8_plannedFor 27 = .ok (.iload 4, 2) := by decide +kernel
theorem dX8_plannedFor_29 : decode cX8_plannedFor 29 = .ok (.ishl, 1) := by decide +kernel
theorem dX8_plannedFor_30 : decode cX8_plannedFor 30 = .ok (.goto 4, 3) := by decide +kernel
theorem dX8_plannedFor_33 : decode cX8_plannedFor 33 = .ok (.iconst 0, 1) := by decide +kernel
theorem dX8_plannedFor_34 : decode cX8_plannedFor 34 = .ok (.ior, 1) := by decide +kernel
theorem dX8_plannedFor_35 : decode cX8_plannedFor 35 = .ok (.istore_n 3, 1) := by decide +kernel
theorem dX8_plannedFor_36 : decode cX8_plannedFor 36 = .ok (.iinc 4 1, 3) := by decide +kernel
theorem dX8_plannedFor_39 : decode cX8_plannedFor 39 = .ok (.goto (-34), 3) := by decide +kernel
theorem dX8_plannedFor_42 : decode cX8_plannedFor 42 = .ok (.iload_n 3, 1) := by decide +kernel
theorem dX8_plannedFor_43 : decode cX8_plannedFor 43 = .ok (.ireturn, 1) := by decide +kernel
def c_X8_plannedFor_L5b {ρ : Type}  (p : Nat) (q1 : Nat) (z2 : Int32) (h : PH) (K1 : Int32 → Option ρ) (REC : Int32 → Int32 → Option ρ) (x3 : Int32) (x4 : Int32) : Option ρ :=
  if (h.1 q1 2) ≤ x4 then
    K1 x3
  else
    gd (ixOK x4 9) <|
    if (h.1 (p + 2) x4.toNatClampNeg) = z2 then
      nm (x3 ||| ((1 : Int32) <<< (x4 &&& 31))) fun v5 =>
      nm (x4 + 1) fun v6 =>
      REC v5 v6
    else
      nm (x3 ||| 0) fun v3 =>
      nm (x4 + 1) fun v4 =>
      REC v3 v4
set_option maxHeartbeats 4000000 in
set_option maxRecDepth 100000 in
theorem w_X8_plannedFor_L5b {p0 : Program} {l : Launch} {e : Env} {s : State} {m : MethodId} {args : Array Value} {below : List Frame} {meth : Method} {c : Code} {Q : State → Prop} {D : va_G} {G : GG} {A : Nat → Prop} {H0 : Heap} {ad : Nat → Nat} {lay : List KK} {X : va_W} {ρ : Type} {p : Nat} {q1 : Nat} {r0 : ρ} {z2 : Int32} {x3 : Int32} {x4 : Int32} {h : PH} {H : Heap} {locs : List Loc} {ls : Array Slot} {K1 : Int32 → Option ρ} {REC : Int32 → Int32 → Option ρ} (hM : CallFix p0 m c cX8_plannedFor 5 s args lw_g RX8) (ho : okX8 lay p) (ho1 : okX9 lay q1) (hk1 : ∀ (x3 : Int32), ∀ (H : Heap) (locs : List Loc) (ls : Array Slot), K1 x3 = some r0 → Wd D G A H0 ad lay X h s H locs → lv_has ls 5 [(3, .int x3)] → W p0 l e (rmN 0 0) s m args below meth c H locs 0 0 Q (F0 m 42 ls [])) (hrec : ∀ (x3 : Int32) (x4 : Int32), ∀ (H : Heap) (locs : List Loc) (ls : Array Slot), REC x3 x4 = some r0 → Wd D G A H0 ad lay X h s H locs → lv_has ls 5 [(0, .ref (ad p)), (1, .ref (ad q1)), (2, .int z2), (3, .int x3), (4, .int x4)] → W p0 l e (rmN 0 0) s m args below meth c H locs 0 0 Q (F0 m 5 ls [])) (hw : Wd D G A H0 ad lay X h s H locs) (hl : lv_has ls 5 [(0, .ref (ad p)), (1, .ref (ad q1)), (2, .int z2), (3, .int x3), (4, .int x4)]) (hf : c_X8_plannedFor_L5b p q1 z2 h K1 REC x3 x4 = some r0) : W p0 l e (rmN 0 0) s m args below meth c H locs 0 0 Q (F0 m 5 ls []) := by
  unfold c_X8_plannedFor_L5b at hf
  refine lv_iload hM.1 hM.2.1 dX8_plannedFor_5 (lv_at hl 4 rfl) ?_
  refine lv_aload_n hM.1 hM.2.1 dX8_plannedFor_7 rfl (lv_at hl 1 rfl) ?_
  refine gf_X9_duties hM hw (okX9.o ho1) fl_X8_55 dX8_plannedFor_8 ?_
  refine x_ic_ge (tgt := 42) hM hf dX8_plannedFor_11 (by decide) (fun hf => ?_) (fun hf => ?_)
  · exact hk1 _ _ _ _ hf hw (lv_sub hl [3] rfl)
  refine lv_iload_n hM.1 hM.2.1 dX8_plannedFor_14 rfl (lv_at hl 3 rfl) ?_
  refine lv_aload_n hM.1 hM.2.1 dX8_plannedFor_15 rfl (lv_at hl 0 rfl) ?_
  refine gf_X8_plans hM hw (okX8.o ho) fl_X8_37 dX8_plannedFor_16 ?_
  refine lv_iload hM.1 hM.2.1 dX8_plannedFor_19 (lv_at hl 4 rfl) ?_
  refine x_iald hM hw (okX8.plans ho) hf dX8_plannedFor_21 (fun hf => ?_)
  refine lv_iload_n hM.1 hM.2.1 dX8_plannedFor_22 rfl (lv_at hl 2 rfl) ?_
  refine x_ic_ne (tgt := 33) hM hf dX8_plannedFor_23 (by decide) (fun hf => ?_) (fun hf => ?_)
  · refine lv_iconst (v := 0) hM.1 hM.2.1 dX8_plannedFor_33 ic_0 ?_
    refine lv_ior hM.1 hM.2.1 dX8_plannedFor_34 ?_
    refine x_istore_n hM hf dX8_plannedFor_35 rfl hl (by decide) (fun v3 => [(3, .int v3), (0, .ref (ad p)), (1, .ref (ad q1)), (2, .int z2), (4, .int x4)]) (fun _ => rfl) (fun v3 ls hf hl => ?_)
    refine x_iinc (k := 4) (d := 1) hM hf dX8_plannedFor_36 hl rfl (by decide) (by decide) (fun v4 => [(4, .int v4), (3, .int v3), (0, .ref (ad p)), (1, .ref (ad q1)), (2, .int z2)]) (fun _ => rfl) (fun v4 ls hf hl => ?_)
    refine lv_goto (tgt := 5) hM.1 hM.2.1 dX8_plannedFor_39 (by decide) ?_
    exact hrec _ _ _ _ _ hf hw (lv_sub hl [2, 3, 4, 1, 0] rfl)
  refine lv_iconst (v := 1) hM.1 hM.2.1 dX8_plannedFor_26 ic_1 ?_
  refine lv_iload hM.1 hM.2.1 dX8_plannedFor_27 (lv_at hl 4 rfl) ?_
  refine lv_ishl hM.1 hM.2.1 dX8_plannedFor_29 ?_
  refine lv_goto (tgt := 34) hM.1 hM.2.1 dX8_plannedFor_30 (by decide) ?_
  refine lv_ior hM.1 hM.2.1 dX8_plannedFor_34 ?_
  refine x_istore_n hM hf dX8_plannedFor_35 rfl hl (by decide) (fun v5 => [(3, .int v5), (0, .ref (ad p)), (1, .ref (ad q1)), (2, .int z2), (4, .int x4)]) (fun _ => rfl) (fun v5 ls hf hl => ?_)
  refine x_iinc (k := 4) (d := 1) hM hf dX8_plannedFor_36 hl rfl (by decide) (by decide) (fun v6 => [(4, .int v6), (3, .int v5), (0, .ref (ad p)), (1, .ref (ad q1)), (2, .int z2)]) (fun _ => rfl) (fun v6 ls hf hl => ?_)
  refine lv_goto (tgt := 5) hM.1 hM.2.1 dX8_plannedFor_39 (by decide) ?_
  exact hrec _ _ _ _ _ hf hw (lv_sub hl [2, 3, 4, 1, 0] rfl)
set_option maxHeartbeats 4000000 in
set_option maxRecDepth 100000 in
theorem w_X8_plannedFor_L5 {p0 : Program} {l : Launch} {e : Env} {s : State} {m : MethodId} {args : Array Value} {below : List Frame} {meth : Method} {c : Code} {Q : State → Prop} {D : va_G} {G : GG} {A : Nat → Prop} {H0 : Heap} {ad : Nat → Nat} {lay : List KK} {X : va_W} {ρ : Type} {p : Nat} {q1 : Nat} {r0 : ρ} {z2 : Int32} {h : PH} {K1 : Int32 → Option ρ} (hM : CallFix p0 m c cX8_plannedFor 5 s args lw_g RX8) (ho : okX8 lay p) (ho1 : okX9 lay q1) (hk1 : ∀ (x3 : Int32), ∀ (H : Heap) (locs : List Loc) (ls : Array Slot), K1 x3 = some r0 → Wd D G A H0 ad lay X h s H locs → lv_has ls 5 [(3, .int x3)] → W p0 l e (rmN 0 0) s m args below meth c H locs 0 0 Q (F0 m 42 ls [])) (n : Nat) (x3 : Int32) (x4 : Int32) (hf : lq2 (c_X8_plannedFor_L5b p q1 z2 h K1) n x3 x4 = some r0) : ∀ (H : Heap) (locs : List Loc) (ls : Array Slot), Wd D G A H0 ad lay X h s H locs → lv_has ls 5 [(0, .ref (ad p)), (1, .ref (ad q1)), (2, .int z2), (3, .int x3), (4, .int x4)] → W p0 l e (rmN 0 0) s m args below meth c H locs 0 0 Q (F0 m 5 ls []) := by
  exact lq2_i (fun (x3 : Int32) (x4 : Int32) => ∀ (H : Heap) (locs : List Loc) (ls : Array Slot), Wd D G A H0 ad lay X h s H locs → lv_has ls 5 [(0, .ref (ad p)), (1, .ref (ad q1)), (2, .int z2), (3, .int x3), (4, .int x4)] → W p0 l e (rmN 0 0) s m args below meth c H locs 0 0 Q (F0 m 5 ls [])) (fun REC x3 x4 ih hf H locs ls hw hl => w_X8_plannedFor_L5b hM ho ho1 hk1 (fun x3 x4 H locs ls hf hw hl => ih x3 x4 hf H locs ls hw hl) hw hl hf) n x3 x4 hf
def c_X8_plannedFor (p : Nat) (q1 : Nat) (a2 : Int32) (h : PH) : Option (Int32) :=
  nm (0 : Int32) fun v1 =>
  nm (0 : Int32) fun v2 =>
  lq2 (c_X8_plannedFor_L5b p q1 a2 h
    (fun w7 =>
      some w7)) fu v1 v2
set_option maxHeartbeats 4000000 in
set_option maxRecDepth 100000 in
theorem ct_X8_plannedFor (l : Launch) {lay : List KK} {p : Nat} {q1 : Nat} (ho : okX8 lay p) (ho1 : okX9 lay q1) (a2 : Int32) : CtI l yX8_plannedFor cX8_plannedFor 5 (some .int) 0 0 lay (rd (fun h => c_X8_plannedFor p q1 a2 h)) (fun ad => [.ref (ad p), .ref (ad q1), .int a2]) := by
  refine CtI.mk' RX8 (by decide) rfl (fun _ => Nat.le_of_ble_eq_true rfl) ?_
  intro p0 e s m args below meth c D G A H0 ad X h r0 H ls Q hM hw hl hf hR
  have hl : lv_has ls 5 [(0, .ref (ad p)), (1, .ref (ad q1)), (2, .int a2)] := hl
  obtain ⟨v0, hv0, hr0⟩ : ∃ v0, c_X8_plannedFor p q1 a2 h = some v0 ∧ r0 = (v0, h) := rd_some hf
  subst hr0
  have hf := hv0
  unfold c_X8_plannedFor at hf
  refine lv_iconst (v := 0) hM.1 hM.2.1 dX8_plannedFor_0 ic_0 ?_
  refine x_istore_n hM hf dX8_plannedFor_1 rfl hl (by decide) (fun v1 => [(3, .int v1), (0, .ref (ad p)), (1, .ref (ad q1)), (2, .int a2)]) (fun _ => rfl) (fun v1 ls hf hl => ?_)
  refine lv_iconst (v := 0) hM.1 hM.2.1 dX8_plannedFor_2 ic_0 ?_
  refine x_istore hM hf dX8_plannedFor_3 hl (by decide) (fun v2 => [(4, .int v2), (3, .int v1), (0, .ref (ad p)), (1, .ref (ad q1)), (2, .int a2)]) (fun _ => rfl) (fun v2 ls hf hl => ?_)
  refine w_X8_plannedFor_L5 hM ho ho1 (fun w7 H locs ls hf hw hl => ?_) fu _ _ hf _ _ _ hw (lv_sub hl [2, 3, 4, 1, 0] rfl)
  refine lv_iload_n hM.1 hM.2.1 dX8_plannedFor_42 rfl (lv_at hl 0 rfl) ?_
  exact hR _ _ _ _ _ _ _ (congrArg (fun z => (z, _)) (Option.some.inj hf)) rfl rfl hw dX8_plannedFor_43
theorem hd_X8_plannedFor : yX8_plannedFor.cls = RX8 ∧ yX8_plannedFor.cls ≠ "java/lang/invoke/MethodHandle" ∧ yX8_plannedFor.cls ≠ "java/lang/invoke/VarHandle" ∧ (parseMethodDescriptor yX8_plannedFor.desc).map (fun d => d.parameters.length) = some 2 := ⟨rfl, by decide, by decide, by decide +kernel⟩
theorem dX8_tales_0 : decode cX8_tales 0 = .ok (.iconst 0, 1) := by decide +kernel
theorem dX8_tales_1 : decode cX8_tales 1 = .ok (.istore 5, 2) := by decide +kernel
theorem dX8_tales_3 : decode cX8_tales 3 = .ok (.iconst 0, 1) := by decide +kernel
theorem dX8_tales_4 : decode cX8_tales 4 = .ok (.istore 6, 2) := by decide +kernel
theorem dX8_tales_6 : decode cX8_tales 6 = .ok (.iload 6, 2) := by decide +kernel
theorem dX8_tales_8 : decode cX8_tales 8 = .ok (.aload_n 1, 1) := by decide +kernel
theorem dX8_tales_9 : decode cX8_tales 9 = .ok (.getfield 55, 3) := by decide +kernel
theorem dX8_tales_12 : decode cX8_tales 12 = .ok (.if_icmp .ge 100, 3) := by decide +kernel
theorem dX8_tales_15 : decode cX8_tales 15 = .ok (.iload_n 2, 1) := by decide +kernel
theorem dX8_tales_16 : decode cX8_tales 16 = .ok (.iload 6, 2) := by decide +kernel
theorem dX8_tales_18 : decode cX8_tales 18 = .ok (.ishr, 1) := by decide +kernel
theorem dX8_tales_19 : decode cX8_tales 19 = .ok (.iconst 1, 1) := by decide +kernel
theorem dX8_tales_20 : decode cX8_tales 20 = .ok (.iand, 1) := by decide +kernel
theorem dX8_tales_21 : decode cX8_tales 21 = .ok (.ifCond .eq 7, 3) := by decide +kernel
theorem dX8_tales_24 : decode cX8_tales 24 = .ok (.iconst 1, 1) := by decide +kernel
theorem dX8_tales_25 : decode cX8_tales 25 = .ok (.goto 4, 3) := by decide +kernel
theorem dX8_tales_28 : decode cX8_tales 28 = .ok (.iconst 0, 1) := by decide +kernel
theorem dX8_tales_29 : decode cX8_tales 29 = .ok (.istore 7, 2) := by decide +kernel
theorem dX8_tales_31 : decode cX8_tales 31 = .ok (.iload_n 3, 1) := by decide +kernel
theorem dX8_tales_32 : decode cX8_tales 32 = .ok (.iconst (-1), 1) := by decide +kernel
theorem dX8_tales_33 : decode cX8_tales 33 = .ok (.if_icmp .eq 14, 3) := by decide +kernel
theorem dX8_tales_36 : decode cX8_tales 36 = .ok (.aload_n 0, 1) := by decide +kernel
theorem dX8_tales_37 : decode cX8_tales 37 = .ok (.getfield 37, 3) := by decide +kernel
theorem dX8_tales_40 : decode cX8_tales 40 = .ok (.iload 6, 2) := by decide +kernel
theorem dX8_tales_42 : decode cX8_tales 42 = .ok (.iaload, 1) := by decide +kernel
theorem dX8_tales_43 : decode cX8_tales 43 = .ok (.iload_n 3, 1) := by decide +kernel
theorem dX8_tales_44 : decode cX8_tales 44 = .ok (.if_icmp .ne 7, 3) := by decide +kernel
theorem dX8_tales_47 : decode cX8_tales 47 = .ok (.iconst 1, 1) := by decide +kernel
theorem dX8_tales_48 : decode cX8_tales 48 = .ok (.goto 4, 3) := by decide +kernel
theorem dX8_tales_51 : decode cX8_tales 51 = .ok (.iconst 0, 1) := by decide +kernel
theorem dX8_tales_52 : decode cX8_tales 52 = .ok (.istore 8, 2) := by decide +kernel
theorem dX8_tales_54 : decode cX8_tales 54 = .ok (.iload 4, 2) := by decide +kernel
theorem dX8_tales_56 : decode cX8_tales 56 = .ok (.iconst (-1), 1) := by decide +kernel
theorem dX8_tales_57 : decode cX8_tales 57 = .ok (.if_icmp .eq 17, 3) := by decide +kernel
theorem dX8_tales_60 : decode cX8_tales 60 = .ok (.aload_n 1, 1) := by decide +kernel
theorem dX8_tales_61 : decode cX8_tales 61 = .ok (.getfield 58, 3) := by decide +kernel
theorem dX8_tales_64 : decode cX8_tales 64 = .ok (.iload 6, 2) := by decide +kernel
theorem dX8_tales_66 : decode cX8_tales 66 = .ok (.aaload, 1) := by decide +kernel
theorem dX8_tales_67 : decode cX8_tales 67 = .ok (.iconst 0, 1) := by decide +kernel
theorem dX8_tales_68 : decode cX8_tales 68 = .ok (.iaload, 1) := by decide +kernel
theorem dX8_tales_69 : decode cX8_tales 69 = .ok (.iload 4, 2) := by decide +kernel
theorem dX8_tales_71 : decode cX8_tales 71 = .ok (.if_icmp .ne 7, 3) := by decide +kernel
theorem dX8_tales_74 : decode cX8_tales 74 = .ok (.iconst 1, 1) := by decide +kernel
theorem dX8_tales_75 : decode cX8_tales 75 = .ok (.goto 4, 3) := by decide +kernel
theorem dX8_tales_78 : decode cX8_tales 78 = .ok (.iconst 0, 1) := by decide +kernel
theorem dX8_tales_79 : decode cX8_tales 79 = .ok (.istore 9, 2) := by decide +kernel
theorem dX8_tales_81 : decode cX8_tales 81 = .ok (.iload 5, 2) := by decide +kernel
theorem dX8_tales_83 : decode cX8_tales 83 = .ok (.iload 7, 2) := by decide +kernel
theorem dX8_tales_85 : decode cX8_tales 85 = .ok (.ifCond .eq 17, 3) := by decide +kernel
theorem dX8_tales_88 : decode cX8_tales 88 = .ok (.iload 8, 2) := by decide +kernel
theorem dX8_tales_90 : decode cX8_tales 90 = .ok (.ifCond .eq 12, 3) := by decide +kernel
theorem dX8_tales_93 : decode cX8_tales 93 = .ok (.iload 9, 2) := by decide +kernel
theorem dX8_tales_95 : decode cX8_tales 95 = .ok (.ifCond .eq 7, 3) := by decide +kernel
theorem dX8_tales_98 : decode cX8_tales 98 = .ok (.iconst 1, 1) := by decide +kernel
theorem dX8_tales_99 : decode cX8_tales 99 = .ok (.goto 4, 3) := by decide +kernel
theorem dX8_tales_102 : decode cX8_tales 102 = .ok (.iconst 0, 1) := by decide +kernel
theorem dX8_tales_103 : decode cX8_tales 103 = .ok (.iadd, 1) := by decide +kernel
theorem dX8_tales_104 : decode cX8_tales 104 = .ok (.istore 5, 2) := by decide +kernel
theorem dX8_tales_106 : decode cX8_tales 106 = .ok (.iinc 6 1, 3) := by decide +kernel
theorem dX8_tales_109 : decode cX8_tales 109 = .ok (.goto (-103), 3) := by decide +kernel
theorem dX8_tales_112 : decode cX8_tales 112 = .ok (.iload 5, 2) := by decide +kernel
theorem dX8_tales_114 : decode cX8_tales 114 = .ok (.ireturn, 1) := by decide +kernel
def c_X8_tales_j79 {ρ : Type}  (p : Nat) (q1 : Nat) (z2 : Int32) (z3 : Int32) (z4 : Int32) (K1 : Int32 → Option ρ) (REC : Int32 → Int32 → Option ρ) (x5 : Int32) (x6 : Int32) (x7 : Int32) (x8 : Int32) (y0 : Int32) (h : PH) : Option (ρ) :=
  nm y0 fun v5 =>
  if x7 = 0 then
    nm (x5 + 0) fun v6 =>
    nm (x6 + 1) fun v7 =>
    REC v6 v7
  else
    if x8 = 0 then
      nm (x5 + 0) fun v8 =>
      nm (x6 + 1) fun v9 =>
      REC v8 v9
    else
      if v5 = 0 then
        nm (x5 + 0) fun v10 =>
        nm (x6 + 1) fun v11 =>
        REC v10 v11
      else
        nm (x5 + 1) fun v12 =>
        nm (x6 + 1) fun v13 =>
        REC v12 v13
set_option maxHeartbeats 4000000 in
set_option maxRecDepth 100000 in
theorem w_X8_tales_j79 {p0 : Program} {l : Launch} {e : Env} {s : State} {m : MethodId} {args : Array Value} {below : List Frame} {meth : Method} {c : Code} {Q : State → Prop} {D : va_G} {G : GG} {A : Nat → Prop} {H0 : Heap} {ad : Nat → Nat} {lay : List KK} {X : va_W} {ρ : Type} {p : Nat} {q1 : Nat} {r0 : ρ} {x5 : Int32} {x6 : Int32} {x7 : Int32} {x8 : Int32} {z2 : Int32} {z3 : Int32} {z4 : Int32} {y0 : Int32} {h : PH} {H : Heap} {locs : List Loc} {ls : Array Slot} {K1 : Int32 → Option ρ} {REC : Int32 → Int32 → Option ρ} (hM : CallFix p0 m c cX8_tales 10 s args lw_g RX8) (ho : okX8 lay p) (ho1 : okX9 lay q1) (hk1 : ∀ (x5 : Int32), ∀ (H : Heap) (locs : List Loc) (ls : Array Slot), K1 x5 = some r0 → Wd D G A H0 ad lay X h s H locs → lv_has ls 10 [(5, .int x5)] → W p0 l e (rmN 0 0) s m args below meth c H locs 0 0 Q (F0 m 112 ls [])) (hrec : ∀ (x5 : Int32) (x6 : Int32), ∀ (H : Heap) (locs : List Loc) (ls : Array Slot), REC x5 x6 = some r0 → Wd D G A H0 ad lay X h s H locs → lv_has ls 10 [(0, .ref (ad p)), (1, .ref (ad q1)), (2, .int z2), (3, .int z3), (4, .int z4), (5, .int x5), (6, .int x6)] → W p0 l e (rmN 0 0) s m args below meth c H locs 0 0 Q (F0 m 6 ls [])) (hw : Wd D G A H0 ad lay X h s H locs) (hl : lv_has ls 10 [(0, .ref (ad p)), (1, .ref (ad q1)), (2, .int z2), (3, .int z3), (4, .int z4), (5, .int x5), (6, .int x6), (7, .int x7), (8, .int x8)]) (hf : c_X8_tales_j79 p q1 z2 z3 z4 K1 REC x5 x6 x7 x8 y0 h = some r0) : W p0 l e (rmN 0 0) s m args below meth c H locs 0 0 Q (F0 m 79 ls [.int y0]) := by
  unfold c_X8_tales_j79 at hf
  refine x_istore hM hf dX8_tales_79 hl (by decide) (fun v5 => [(9, .int v5), (0, .ref (ad p)), (1, .ref (ad q1)), (2, .int z2), (3, .int z3), (4, .int z4), (5, .int x5), (6, .int x6), (7, .int x7), (8, .int x8)]) (fun _ => rfl) (fun v5 ls hf hl => ?_)
  refine lv_iload hM.1 hM.2.1 dX8_tales_81 (lv_at hl 6 rfl) ?_
  refine lv_iload hM.1 hM.2.1 dX8_tales_83 (lv_at hl 8 rfl) ?_
  refine x_if_eq (tgt := 102) hM hf dX8_tales_85 (by decide) (fun hf => ?_) (fun hf => ?_)
  · refine lv_iconst (v := 0) hM.1 hM.2.1 dX8_tales_102 ic_0 ?_
    refine lv_iadd hM.1 hM.2.1 dX8_tales_103 ?_
    refine x_istore hM hf dX8_tales_104 hl (by decide) (fun v6 => [(5, .int v6), (9, .int v5), (0, .ref (ad p)), (1, .ref (ad q1)), (2, .int z2), (3, .int z3), (4, .int z4), (6, .int x6), (7, .int x7), (8, .int x8)]) (fun _ => rfl) (fun v6 ls hf hl => ?_)
    refine x_iinc (k := 7) (d := 1) hM hf dX8_tales_106 hl rfl (by decide) (by decide) (fun v7 => [(6, .int v7), (5, .int v6), (9, .int v5), (0, .ref (ad p)), (1, .ref (ad q1)), (2, .int z2), (3, .int z3), (4, .int z4), (7, .int x7), (8, .int x8)]) (fun _ => rfl) (fun v7 ls hf hl => ?_)
    refine lv_goto (tgt := 6) hM.1 hM.2.1 dX8_tales_109 (by decide) ?_
    exact hrec _ _ _ _ _ hf hw (lv_sub hl [3, 4, 5, 6, 7, 1, 0] rfl)
  refine lv_iload hM.1 hM.2.1 dX8_tales_88 (lv_at hl 9 rfl) ?_
  refine x_if_eq (tgt := 102) hM hf dX8_tales_90 (by decide) (fun hf => ?_) (fun hf => ?_)
  · refine lv_iconst (v := 0) hM.1 hM.2.1 dX8_tales_102 ic_0 ?_
    refine lv_iadd hM.1 hM.2.1 dX8_tales_103 ?_
    refine x_istore hM hf dX8_tales_104 hl (by decide) (fun v8 => [(5, .int v8), (9, .int v5), (0, .ref (ad p)), (1, .ref (ad q1)), (2, .int z2), (3, .int z3), (4, .int z4), (6, .int x6), (7, .int x7), (8, .int x8)]) (fun _ => rfl) (fun v8 ls hf hl => ?_)
    refine x_iinc (k := 7) (d := 1) hM hf dX8_tales_106 hl rfl (by decide) (by decide) (fun v9 => [(6, .int v9), (5, .int v8), (9, .int v5), (0, .ref (ad p)), (1, .ref (ad q1)), (2, .int z2), (3, .int z3), (4, .int z4), (7, .int x7), (8, .int x8)]) (fun _ => rfl) (fun v9 ls hf hl => ?_)
    refine lv_goto (tgt := 6) hM.1 hM.2.1 dX8_tales_109 (by decide) ?_
    exact hrec _ _ _ _ _ hf hw (lv_sub hl [3, 4, 5, 6, 7, 1, 0] rfl)
  refine lv_iload hM.1 hM.2.1 dX8_tales_93 (lv_at hl 0 rfl) ?_
  refine x_if_eq (tgt := 102) hM hf dX8_tales_95 (by decide) (fun hf => ?_) (fun hf => ?_)
  · refine lv_iconst (v := 0) hM.1 hM.2.1 dX8_tales_102 ic_0 ?_
    refine lv_iadd hM.1 hM.2.1 dX8_tales_103 ?_
    refine x_istore hM hf dX8_tales_104 hl (by decide) (fun v10 => [(5, .int v10), (9, .int v5), (0, .ref (ad p)), (1, .ref (ad q1)), (2, .int z2), (3, .int z3), (4, .int z4), (6, .int x6), (7, .int x7), (8, .int x8)]) (fun _ => rfl) (fun v10 ls hf hl => ?_)
    refine x_iinc (k := 7) (d := 1) hM hf dX8_tales_106 hl rfl (by decide) (by decide) (fun v11 => [(6, .int v11), (5, .int v10), (9, .int v5), (0, .ref (ad p)), (1, .ref (ad q1)), (2, .int z2), (3, .int z3), (4, .int z4), (7, .int x7), (8, .int x8)]) (fun _ => rfl) (fun v11 ls hf hl => ?_)
    refine lv_goto (tgt := 6) hM.1 hM.2.1 dX8_tales_109 (by decide) ?_
    exact hrec _ _ _ _ _ hf hw (lv_sub hl [3, 4, 5, 6, 7, 1, 0] rfl)
  refine lv_iconst (v := 1) hM.1 hM.2.1 dX8_tales_98 ic_1 ?_
  refine lv_goto (tgt := 103) hM.1 hM.2.1 dX8_tales_99 (by decide) ?_
  refine lv_iadd hM.1 hM.2.1 dX8_tales_103 ?_
  refine x_istore hM hf dX8_tales_104 hl (by decide) (fun v12 => [(5, .int v12), (9, .int v5), (0, .ref (ad p)), (1, .ref (ad q1)), (2, .int z2), (3, .int z3), (4, .int z4), (6, .int x6), (7, .int x7), (8, .int x8)]) (fun _ => rfl) (fun v12 ls hf hl => ?_)
  refine x_iinc (k := 7) (d := 1) hM hf dX8_tales_106 hl rfl (by decide) (by decide) (fun v13 => [(6, .int v13), (5, .int v12), (9, .int v5), (0, .ref (ad p)), (1, .ref (ad q1)), (2, .int z2), (3, .int z3), (4, .int z4), (7, .int x7), (8, .int x8)]) (fun _ => rfl) (fun v13 ls hf hl => ?_)
  refine lv_goto (tgt := 6) hM.1 hM.2.1 dX8_tales_109 (by decide) ?_
  exact hrec _ _ _ _ _ hf hw (lv_sub hl [3, 4, 5, 6, 7, 1, 0] rfl)
def c_X8_tales_j52 {ρ : Type}  (p : Nat) (q1 : Nat) (z2 : Int32) (z3 : Int32) (z4 : Int32) (K1 : Int32 → Option ρ) (REC : Int32 → Int32 → Option ρ) (x5 : Int32) (x6 : Int32) (x7 : Int32) (y0 : Int32) (h : PH) : Option (ρ) :=
  nm y0 fun v4 =>
  if z4 = (-1) then
    c_X8_tales_j79 p q1 z2 z3 z4 K1 REC x5 x6 x7 v4 1 h
  else
    gd (ixOK x6 9) <|
    if (h.1 (q1 + 21 + 1 + x6.toNatClampNeg) 0) = z4 then
      c_X8_tales_j79 p q1 z2 z3 z4 K1 REC x5 x6 x7 v4 1 h
    else
      c_X8_tales_j79 p q1 z2 z3 z4 K1 REC x5 x6 x7 v4 0 h
set_option maxHeartbeats 4000000 in
set_option maxRecDepth 100000 in
theorem w_X8_tales_j52 {p0 : Program} {l : Launch} {e : Env} {s : State} {m : MethodId} {args : Array Value} {below : List Frame} {meth : Method} {c : Code} {Q : State → Prop} {D : va_G} {G : GG} {A : Nat → Prop} {H0 : Heap} {ad : Nat → Nat} {lay : List KK} {X : va_W} {ρ : Type} {p : Nat} {q1 : Nat} {r0 : ρ} {x5 : Int32} {x6 : Int32} {x7 : Int32} {z2 : Int32} {z3 : Int32} {z4 : Int32} {y0 : Int32} {h : PH} {H : Heap} {locs : List Loc} {ls : Array Slot} {K1 : Int32 → Option ρ} {REC : Int32 → Int32 → Option ρ} (hM : CallFix p0 m c cX8_tales 10 s args lw_g RX8) (ho : okX8 lay p) (ho1 : okX9 lay q1) (hk1 : ∀ (x5 : Int32), ∀ (H : Heap) (locs : List Loc) (ls : Array Slot), K1 x5 = some r0 → Wd D G A H0 ad lay X h s H locs → lv_has ls 10 [(5, .int x5)] → W p0 l e (rmN 0 0) s m args below meth c H locs 0 0 Q (F0 m 112 ls [])) (hrec : ∀ (x5 : Int32) (x6 : Int32), ∀ (H : Heap) (locs : List Loc) (ls : Array Slot), REC x5 x6 = some r0 → Wd D G A H0 ad lay X h s H locs → lv_has ls 10 [(0, .ref (ad p)), (1, .ref (ad q1)), (2, .int z2), (3, .int z3), (4, .int z4), (5, .int x5), (6, .int x6)] → W p0 l e (rmN 0 0) s m args below meth c H locs 0 0 Q (F0 m 6 ls [])) (hw : Wd D G A H0 ad lay X h s H locs) (hl : lv_has ls 10 [(0, .ref (ad p)), (1, .ref (ad q1)), (2, .int z2), (3, .int z3), (4, .int z4), (5, .int x5), (6, .int x6), (7, .int x7)]) (hf : c_X8_tales_j52 p q1 z2 z3 z4 K1 REC x5 x6 x7 y0 h = some r0) : W p0 l e (rmN 0 0) s m args below meth c H locs 0 0 Q (F0 m 52 ls [.int y0]) := by
  unfold c_X8_tales_j52 at hf
  refine x_istore hM hf dX8_tales_52 hl (by decide) (fun v4 => [(8, .int v4), (0, .ref (ad p)), (1, .ref (ad q1)), (2, .int z2), (3, .int z3), (4, .int z4), (5, .int x5), (6, .int x6), (7, .int x7)]) (fun _ => rfl) (fun v4 ls hf hl => ?_)
  refine lv_iload hM.1 hM.2.1 dX8_tales_54 (lv_at hl 5 rfl) ?_
  refine lv_iconst (v := (-1)) hM.1 hM.2.1 dX8_tales_56 ic_m1 ?_
  refine x_ic_eq (tgt := 74) hM hf dX8_tales_57 (by decide) (fun hf => ?_) (fun hf => ?_)
  · refine lv_iconst (v := 1) hM.1 hM.2.1 dX8_tales_74 ic_1 ?_
    refine lv_goto (tgt := 79) hM.1 hM.2.1 dX8_tales_75 (by decide) ?_
    exact w_X8_tales_j79 hM ho ho1 hk1 hrec hw (lv_sub hl [1, 2, 3, 4, 5, 6, 7, 8, 0] rfl) hf
  refine lv_aload_n hM.1 hM.2.1 dX8_tales_60 rfl (lv_at hl 2 rfl) ?_
  refine gf_X9_dutyRows hM hw (okX9.o ho1) fl_X8_58 dX8_tales_61 ?_
  refine lv_iload hM.1 hM.2.1 dX8_tales_64 (lv_at hl 7 rfl) ?_
  refine x_aaldI hM hw (okX9.dutyRows ho1) hf dX8_tales_66 (fun hi14 hf => ?_)
  refine lv_iconst (v := 0) hM.1 hM.2.1 dX8_tales_67 ic_0 ?_
  refine x_ialdK hM hw (okX9.dutyRows_atI ho1 hi14) 0 (by decide) (by decide) dX8_tales_68 ?_
  refine lv_iload hM.1 hM.2.1 dX8_tales_69 (lv_at hl 5 rfl) ?_
  refine x_ic_ne (tgt := 78) hM hf dX8_tales_71 (by decide) (fun hf => ?_) (fun hf => ?_)
  · refine lv_iconst (v := 0) hM.1 hM.2.1 dX8_tales_78 ic_0 ?_
    exact w_X8_tales_j79 hM ho ho1 hk1 hrec hw (lv_sub hl [1, 2, 3, 4, 5, 6, 7, 8, 0] rfl) hf
  refine lv_iconst (v := 1) hM.1 hM.2.1 dX8_tales_74 ic_1 ?_
  refine lv_goto (tgt := 79) hM.1 hM.2.1 dX8_tales_75 (by decide) ?_
  exact w_X8_tales_j79 hM ho ho1 hk1 hrec hw (lv_sub hl [1, 2, 3, 4, 5, 6, 7, 8, 0] rfl) hf
def c_X8_tales_j29 {ρ : Type}  (p : Nat) (q1 : Nat) (z2 : Int32) (z3 : Int32) (z4 : Int32) (K1 : Int32 → Option ρ) (REC : Int32 → Int32 → Option ρ) (x5 : Int32) (x6 : Int32) (y0 : Int32) (h : PH) : Option (ρ) :=
  nm y0 fun v3 =>
  if z3 = (-1) then
    c_X8_tales_j52 p q1 z2 z3 z4 K1 REC x5 x6 v3 1 h
  else
    gd (ixOK x6 9) <|
    if (h.1 (p + 2) x6.toNatClampNeg) = z3 then
      c_X8_tales_j52 p q1 z2 z3 z4 K1 REC x5 x6 v3 1 h
    else
      c_X8_tales_j52 p q1 z2 z3 z4 K1 REC x5 x6 v3 0 h
set_option maxHeartbeats 4000000 in
set_option maxRecDepth 100000 in
theorem w_X8_tales_j29 {p0 : Program} {l : Launch} {e : Env} {s : State} {m : MethodId} {args : Array Value} {below : List Frame} {meth : Method} {c : Code} {Q : State → Prop} {D : va_G} {G : GG} {A : Nat → Prop} {H0 : Heap} {ad : Nat → Nat} {lay : List KK} {X : va_W} {ρ : Type} {p : Nat} {q1 : Nat} {r0 : ρ} {x5 : Int32} {x6 : Int32} {z2 : Int32} {z3 : Int32} {z4 : Int32} {y0 : Int32} {h : PH} {H : Heap} {locs : List Loc} {ls : Array Slot} {K1 : Int32 → Option ρ} {REC : Int32 → Int32 → Option ρ} (hM : CallFix p0 m c cX8_tales 10 s args lw_g RX8) (ho : okX8 lay p) (ho1 : okX9 lay q1) (hk1 : ∀ (x5 : Int32), ∀ (H : Heap) (locs : List Loc) (ls : Array Slot), K1 x5 = some r0 → Wd D G A H0 ad lay X h s H locs → lv_has ls 10 [(5, .int x5)] → W p0 l e (rmN 0 0) s m args below meth c H locs 0 0 Q (F0 m 112 ls [])) (hrec : ∀ (x5 : Int32) (x6 : Int32), ∀ (H : Heap) (locs : List Loc) (ls : Array Slot), REC x5 x6 = some r0 → Wd D G A H0 ad lay X h s H locs → lv_has ls 10 [(0, .ref (ad p)), (1, .ref (ad q1)), (2, .int z2), (3, .int z3), (4, .int z4), (5, .int x5), (6, .int x6)] → W p0 l e (rmN 0 0) s m args below meth c H locs 0 0 Q (F0 m 6 ls [])) (hw : Wd D G A H0 ad lay X h s H locs) (hl : lv_has ls 10 [(0, .ref (ad p)), (1, .ref (ad q1)), (2, .int z2), (3, .int z3), (4, .int z4), (5, .int x5), (6, .int x6)]) (hf : c_X8_tales_j29 p q1 z2 z3 z4 K1 REC x5 x6 y0 h = some r0) : W p0 l e (rmN 0 0) s m args below meth c H locs 0 0 Q (F0 m 29 ls [.int y0]) := by
  unfold c_X8_tales_j29 at hf
  refine x_istore hM hf dX8_tales_29 hl (by decide) (fun v3 => [(7, .int v3), (0, .ref (ad p)), (1, .ref (ad q1)), (2, .int z2), (3, .int z3), (4, .int z4), (5, .int x5), (6, .int x6)]) (fun _ => rfl) (fun v3 ls hf hl => ?_)
  refine lv_iload_n hM.1 hM.2.1 dX8_tales_31 rfl (lv_at hl 4 rfl) ?_
  refine lv_iconst (v := (-1)) hM.1 hM.2.1 dX8_tales_32 ic_m1 ?_
  refine x_ic_eq (tgt := 47) hM hf dX8_tales_33 (by decide) (fun hf => ?_) (fun hf => ?_)
  · refine lv_iconst (v := 1) hM.1 hM.2.1 dX8_tales_47 ic_1 ?_
    refine lv_goto (tgt := 52) hM.1 hM.2.1 dX8_tales_48 (by decide) ?_
    exact w_X8_tales_j52 hM ho ho1 hk1 hrec hw (lv_sub hl [1, 2, 3, 4, 5, 6, 7, 0] rfl) hf
  refine lv_aload_n hM.1 hM.2.1 dX8_tales_36 rfl (lv_at hl 1 rfl) ?_
  refine gf_X8_plans hM hw (okX8.o ho) fl_X8_37 dX8_tales_37 ?_
  refine lv_iload hM.1 hM.2.1 dX8_tales_40 (lv_at hl 7 rfl) ?_
  refine x_iald hM hw (okX8.plans ho) hf dX8_tales_42 (fun hf => ?_)
  refine lv_iload_n hM.1 hM.2.1 dX8_tales_43 rfl (lv_at hl 4 rfl) ?_
  refine x_ic_ne (tgt := 51) hM hf dX8_tales_44 (by decide) (fun hf => ?_) (fun hf => ?_)
  · refine lv_iconst (v := 0) hM.1 hM.2.1 dX8_tales_51 ic_0 ?_
    exact w_X8_tales_j52 hM ho ho1 hk1 hrec hw (lv_sub hl [1, 2, 3, 4, 5, 6, 7, 0] rfl) hf
  refine lv_iconst (v := 1) hM.1 hM.2.1 dX8_tales_47 ic_1 ?_
  refine lv_goto (tgt := 52) hM.1 hM.2.1 dX8_tales_48 (by decide) ?_
  exact w_X8_tales_j52 hM ho ho1 hk1 hrec hw (lv_sub hl [1, 2, 3, 4, 5, 6, 7, 0] rfl) hf
def c_X8_tales_L6b {ρ : Type}  (p : Nat) (q1 : Nat) (z2 : Int32) (z3 : Int32) (z4 : Int32) (h : PH) (K1 : Int32 → Option ρ) (REC : Int32 → Int32 → Option ρ) (x5 : Int32) (x6 : Int32) : Option ρ :=
  if (h.1 q1 2) ≤ x6 then
    K1 x5
  else
    if ((z2 >>> (x6 &&& 31)) &&& 1) = 0 then
      c_X8_tales_j29 p q1 z2 z3 z4 K1 REC x5 x6 0 h
    else
      c_X8_tales_j29 p q1 z2 z3 z4 K1 REC x5 x6 1 h
set_option maxHeartbeats 4000000 in
set_option maxRecDepth 100000 in
theorem w_X8_tales_L6b {p0 : Program} {l : Launch} {e : Env} {s : State} {m : MethodId} {args : Array Value} {below : List Frame} {meth : Method} {c : Code} {Q : State → Prop} {D : va_G} {G : GG} {A : Nat → Prop} {H0 : Heap} {ad : Nat → Nat} {lay : List KK} {X : va_W} {ρ : Type} {p : Nat} {q1 : Nat} {r0 : ρ} {z2 : Int32} {z3 : Int32} {z4 : Int32} {x5 : Int32} {x6 : Int32} {h : PH} {H : Heap} {locs : List Loc} {ls : Array Slot} {K1 : Int32 → Option ρ} {REC : Int32 → Int32 → Option ρ} (hM : CallFix p0 m c cX8_tales 10 s args lw_g RX8) (ho : okX8 lay p) (ho1 : okX9 lay q1) (hk1 : ∀ (x5 : Int32), ∀ (H : Heap) (locs : List Loc) (ls : Array Slot), K1 x5 = some r0 → Wd D G A H0 ad lay X h s H locs → lv_has ls 10 [(5, .int x5)] → W p0 l e (rmN 0 0) s m args below meth c H locs 0 0 Q (F0 m 112 ls [])) (hrec : ∀ (x5 : Int32) (x6 : Int32), ∀ (H : Heap) (locs : List Loc) (ls : Array Slot), REC x5 x6 = some r0 → Wd D G A H0 ad lay X h s H locs → lv_has ls 10 [(0, .ref (ad p)), (1, .ref (ad q1)), (2, .int z2), (3, .int z3), (4, .int z4), (5, .int x5), (6, .int x6)] → W p0 l e (rmN 0 0) s m args below meth c H locs 0 0 Q (F0 m 6 ls [])) (hw : Wd D G A H0 ad lay X h s H locs) (hl : lv_has ls 10 [(0, .ref (ad p)), (1, .ref (ad q1)), (2, .int z2), (3, .int z3), (4, .int z4), (5, .int x5), (6, .int x6)]) (hf : c_X8_tales_L6b p q1 z2 z3 z4 h K1 REC x5 x6 = some r0) : W p0 l e (rmN 0 0) s m args below meth c H locs 0 0 Q (F0 m 6 ls []) := by
  unfold c_X8_tales_L6b at hf
  refine lv_iload hM.1 hM.2.1 dX8_tales_6 (lv_at hl 6 rfl) ?_
  refine lv_aload_n hM.1 hM.2.1 dX8_tales_8 rfl (lv_at hl 1 rfl) ?_
  refine gf_X9_duties hM hw (okX9.o ho1) fl_X8_55 dX8_tales_9 ?_
  refine x_ic_ge (tgt := 112) hM hf dX8_tales_12 (by decide) (fun hf => ?_) (fun hf => ?_)
  · exact hk1 _ _ _ _ hf hw (lv_sub hl [5] rfl)
  refine lv_iload_n hM.1 hM.2.1 dX8_tales_15 rfl (lv_at hl 2 rfl) ?_
  refine lv_iload hM.1 hM.2.1 dX8_tales_16 (lv_at hl 6 rfl) ?_
  refine lv_ishr hM.1 hM.2.1 dX8_tales_18 ?_
  refine lv_iconst (v := 1) hM.1 hM.2.1 dX8_tales_19 ic_1 ?_
  refine lv_iand hM.1 hM.2.1 dX8_tales_20 ?_
  refine x_if_eq (tgt := 28) hM hf dX8_tales_21 (by decide) (fun hf => ?_) (fun hf => ?_)
  · refine lv_iconst (v := 0) hM.1 hM.2.1 dX8_tales_28 ic_0 ?_
    exact w_X8_tales_j29 hM ho ho1 hk1 hrec hw hl hf
  refine lv_iconst (v := 1) hM.1 hM.2.1 dX8_tales_24 ic_1 ?_
  refine lv_goto (tgt := 29) hM.1 hM.2.1 dX8_tales_25 (by decide) ?_
  exact w_X8_tales_j29 hM ho ho1 hk1 hrec hw hl hf
set_option maxHeartbeats 4000000 in
set_option maxRecDepth 100000 in
theorem w_X8_tales_L6 {p0 : Program} {l : Launch} {e : Env} {s : State} {m : MethodId} {args : Array Value} {below : List Frame} {meth : Method} {c : Code} {Q : State → Prop} {D : va_G} {G : GG} {A : Nat → Prop} {H0 : Heap} {ad : Nat → Nat} {lay : List KK} {X : va_W} {ρ : Type} {p : Nat} {q1 : Nat} {r0 : ρ} {z2 : Int32} {z3 : Int32} {z4 : Int32} {h : PH} {K1 : Int32 → Option ρ} (hM : CallFix p0 m c cX8_tales 10 s args lw_g RX8) (ho : okX8 lay p) (ho1 : okX9 lay q1) (hk1 : ∀ (x5 : Int32), ∀ (H : Heap) (locs : List Loc) (ls : Array Slot), K1 x5 = some r0 → Wd D G A H0 ad lay X h s H locs → lv_has ls 10 [(5, .int x5)] → W p0 l e (rmN 0 0) s m args below meth c H locs 0 0 Q (F0 m 112 ls [])) (n : Nat) (x5 : Int32) (x6 : Int32) (hf : lq2 (c_X8_tales_L6b p q1 z2 z3 z4 h K1) n x5 x6 = some r0) : ∀ (H : Heap) (locs : List Loc) (ls : Array Slot), Wd D G A H0 ad lay X h s H locs → lv_has ls 10 [(0, .ref (ad p)), (1, .ref (ad q1)), (2, .int z2), (3, .int z3), (4, .int z4), (5, .int x5), (6, .int x6)] → W p0 l e (rmN 0 0) s m args below meth c H locs 0 0 Q (F0 m 6 ls []) := by
  exact lq2_i (fun (x5 : Int32) (x6 : Int32) => ∀ (H : Heap) (locs : List Loc) (ls : Array Slot), Wd D G A H0 ad lay X h s H locs → lv_has ls 10 [(0, .ref (ad p)), (1, .ref (ad q1)), (2, .int z2), (3, .int z3), (4, .int z4), (5, .int x5), (6, .int x6)] → W p0 l e (rmN 0 0) s m args below meth c H locs 0 0 Q (F0 m 6 ls [])) (fun REC x5 x6 ih hf H locs ls hw hl => w_X8_tales_L6b hM ho ho1 hk1 (fun x5 x6 H locs ls hf hw hl => ih x5 x6 hf H locs ls hw hl) hw hl hf) n x5 x6 hf
def c_X8_tales (p : Nat) (q1 : Nat) (a2 : Int32) (a3 : Int32) (a4 : Int32) (h : PH) : Option (Int32) :=
  nm (0 : Int32) fun v1 =>
  nm (0 : Int32) fun v2 =>
  lq2 (c_X8_tales_L6b p q1 a2 a3 a4 h
    (fun w15 =>
      some w15)) fu v1 v2
set_option maxHeartbeats 4000000 in
set_option maxRecDepth 100000 in
theorem ct_X8_tales (l : Launch) {lay : List KK} {p : Nat} {q1 : Nat} (ho : okX8 lay p) (ho1 : okX9 lay q1) (a2 : Int32) (a3 : Int32) (a4 : Int32) : CtI l yX8_tales cX8_tales 10 (some .int) 0 0 lay (rd (fun h => c_X8_tales p q1 a2 a3 a4 h)) (fun ad => [.ref (ad p), .ref (ad q1), .int a2, .int a3, .int a4]) := by
  refine CtI.mk' RX8 (by decide) rfl (fun _ => Nat.le_of_ble_eq_true rfl) ?_
  intro p0 e s m args below meth c D G A H0 ad X h r0 H ls Q hM hw hl hf hR
  have hl : lv_has ls 10 [(0, .ref (ad p)), (1, .ref (ad q1)), (2, .int a2), (3, .int a3), (4, .int a4)] := hl
  obtain ⟨v0, hv0, hr0⟩ : ∃ v0, c_X8_tales p q1 a2 a3 a4 h = some v0 ∧ r0 = (v0, h) := rd_some hf
  subst hr0
  have hf := hv0
  unfold c_X8_tales at hf
  refine lv_iconst (v := 0) hM.1 hM.2.1 dX8_tales_0 ic_0 ?_
  refine x_istore hM hf dX8_tales_1 hl (by decide) (fun v1 => [(5, .int v1), (0, .ref (ad p)), (1, .ref (ad q1)), (2, .int a2), (3, .int a3), (4, .int a4)]) (fun _ => rfl) (fun v1 ls hf hl => ?_)
  refine lv_iconst (v := 0) hM.1 hM.2.1 dX8_tales_3 ic_0 ?_
  refine x_istore hM hf dX8_tales_4 hl (by decide) (fun v2 => [(6, .int v2), (5, .int v1), (0, .ref (ad p)), (1, .ref (ad q1)), (2, .int a2), (3, .int a3), (4, .int a4)]) (fun _ => rfl) (fun v2 ls hf hl => ?_)
  refine w_X8_tales_L6 hM ho ho1 (fun w15 H locs ls hf hw hl => ?_) fu _ _ hf _ _ _ hw (lv_sub hl [2, 3, 4, 5, 6, 1, 0] rfl)
  refine lv_iload hM.1 hM.2.1 dX8_tales_112 (lv_at hl 0 rfl) ?_
  exact hR _ _ _ _ _ _ _ (congrArg (fun z => (z, _)) (Option.some.inj hf)) rfl rfl hw dX8_tales_114
theorem hd_X8_tales : yX8_tales.cls = RX8 ∧ yX8_tales.cls ≠ "java/lang/invoke/MethodHandle" ∧ yX8_tales.cls ≠ "java/lang/invoke/VarHandle" ∧ (parseMethodDescriptor yX8_tales.desc).map (fun d => d.parameters.length) = some 4 := ⟨rfl, by decide, by decide, by decide +kernel⟩
theorem dX8_lastTold_0 : decode cX8_lastTold 0 = .ok (.bipush (-2), 2) := by decide +kernel
theorem dX8_lastTold_2 : decode cX8_lastTold 2 = .ok (.istore 4, 2) := by decide +kernel
theorem dX8_lastTold_4 : decode cX8_lastTold 4 = .ok (.aload_n 0, 1) := by decide +kernel
theorem dX8_lastTold_5 : decode cX8_lastTold 5 = .ok (.getfield 24, 3) := by decide +kernel
theorem dX8_lastTold_8 : decode cX8_lastTold 8 = .ok (.aload_n 0, 1) := by decide +kernel
theorem dX8_lastTold_9 : decode cX8_lastTold 9 = .ok (.getfield 27, 3) := by decide +kernel
theorem dX8_lastTold_12 : decode cX8_lastTold 12 = .ok (.ior, 1) := by decide +kernel
theorem dX8_lastTold_13 : decode cX8_lastTold 13 = .ok (.istore 5, 2) := by decide +kernel
theorem dX8_lastTold_15 : decode cX8_lastTold 15 = .ok (.iconst 0, 1) := by decide +kernel
theorem dX8_lastTold_16 : decode cX8_lastTold 16 = .ok (.istore 6, 2) := by decide +kernel
theorem dX8_lastTold_18 : decode cX8_lastTold 18 = .ok (.iload 6, 2) := by decide +kernel
theorem dX8_lastTold_20 : decode cX8_lastTold 20 = .ok (.aload_n 1, 1) := by decide +kernel
theorem dX8_lastTold_21 : decode cX8_lastTold 21 = .ok (.getfield 55, 3) := by decide +kernel
theorem dX8_lastTold_24 : decode cX8_lastTold 24 = .ok (.if_icmp .ge 59, 3) := by decide +kernel
theorem dX8_lastTold_27 : decode cX8_lastTold 27 = .ok (.iload 5, 2) := by decide +kernel
theorem dX8_lastTold_29 : decode cX8_lastTold 29 = .ok (.iload 6, 2) := by decide +kernel
theorem dX8_lastTold_31 : decode cX8_lastTold 31 = .ok (.ishr, 1) := by decide +kernel
theorem dX8_lastTold_32 : decode cX8_lastTold 32 = .ok (.iconst 1, 1) := by decide +kernel
theorem dX8_lastTold_33 : decode cX8_lastTold 33 = .ok (.iand, 1) := by decide +kernel
theorem dX8_lastTold_34 : decode cX8_lastTold 34 = .ok (.ifCond .eq 43, 3) := by decide +kernel
theorem dX8_lastTold_37 : decode cX8_lastTold 37 = .ok (.aload_n 0, 1) := by decide +kernel
theorem dX8_lastTold_38 : decode cX8_lastTold 38 = .ok (.getfield 37, 3) := by decide +kernel
theorem dX8_lastTold_41 : decode cX8_lastTold 41 = .ok (.iload 6, 2) := by decide +kernel
theorem dX8_lastTold_43 : decode cX8_lastTold 43 = .ok (.iaload, 1) := by decide +kernel
theorem dX8_lastTold_44 : decode cX8_lastTold 44 = .ok (.iload_n 2, 1) := by decide +kernel
theorem dX8_lastTold_45 : decode cX8_lastTold 45 = .ok (.if_icmp .ne 32, 3) := by decide +kernel
theorem dX8_lastTold_48 : decode cX8_lastTold 48 = .ok (.aload_n 1, 1) := by decide +kernel
theorem dX8_lastTold_49 : decode cX8_lastTold 49 = .ok (.getfield 58, 3) := by decide +kernel
theorem dX8_lastTold_52 : decode cX8_lastTold 52 = .ok (.iload 6, 2) := by decide +kernel
theorem dX8_lastTold_54 : decode cX8_lastTold 54 = .ok (.aaload, 1) := by decide +kernel
theorem dX8_lastTold_55 : decode cX8_lastTold 55 = .ok (.iconst 0, 1) := by decide +kernel
theorem dX8_lastTold_56 : decode cX8_lastTold 56 = .ok (.iaload, 1) := by decide +kernel
theorem dX8_lastTold_57 : decode cX8_lastTold 57 = .ok (.iload_n 3, 1) := by decide +kernel
theorem dX8_lastTold_58 : decode cX8_lastTold 58 = .ok (.if_icmp .ne 19, 3) := by decide +kernel
theorem dX8_lastTold_61 : decode cX8_lastTold 61 = .ok (.iload 4, 2) := by decide +kernel
theorem dX8_lastTold_63 : decode cX8_lastTold 63 = .ok (.aload_n 1, 1) := by decide +kernel
theorem dX8_lastTold_64 : decode cX8_lastTold 64 = .ok (.getfield 58, 3) := by decide +kernel
theorem dX8_lastTold_67 : decode cX8_lastTold 67 = .ok (.iload 6, 2) := by decide +kernel
theorem dX8_lastTold_69 : decode cX8_lastTold 69 = .ok (.aaload, 1) := by decide +kernel
theorem dX8_lastTold_70 : decode cX8_lastTold 70 = .ok (.iconst 1, 1) := by decide +kernel
theorem dX8_lastTold_71 : decode cX8_lastTold 71 = .ok (.iaload, 1) := by decide +kernel
theorem dX8_lastTold_72 : decode cX8_lastTold 72 = .ok (.invokestatic 61, 3) := by decide +kernel
theorem dX8_lastTold_75 : decode cX8_lastTold 75 = .ok (.istore 4, 2) := by decide +kernel
theorem dX8_lastTold_77 : decode cX8_lastTold 77 = .ok (.iinc 6 1, 3) := by decide +kernel
theorem dX8_lastTold_80 : decode cX8_lastTold 80 = .ok (.goto (-62), 3) := by decide +kernel
theorem dX8_lastTold_83 : decode cX8_lastTold 83 = .ok (.iload 4, 2) := by decide +kernel
theorem dX8_lastTold_85 : decode cX8_lastTold 85 = .ok (.ireturn, 1) := by decide +kernel
def c_X8_lastTold_L18b {ρ : Type}  (p : Nat) (q1 : Nat) (z2 : Int32) (z3 : Int32) (z5 : Int32) (h : PH) (K1 : Int32 → Option ρ) (REC : Int32 → Int32 → Option ρ) (x4 : Int32) (x6 : Int32) : Option ρ :=
  if (h.1 q1 2) ≤ x6 then
    K1 x4
  else
    if ((z5 >>> (x6 &&& 31)) &&& 1) = 0 then
      nm (x6 + 1) fun v4 =>
      REC x4 v4
    else
      gd (ixOK x6 9) <|
      if (h.1 (p + 2) x6.toNatClampNeg) = z2 then
        gd (ixOK x6 9) <|
        if (h.1 (q1 + 21 + 1 + x6.toNatClampNeg) 0) = z3 then
          gd (ixOK x6 9) <|
          nm (jmax x4 (h.1 (q1 + 21 + 1 + x6.toNatClampNeg) 1)) fun v9 =>
          nm (x6 + 1) fun v10 =>
          REC v9 v10
        else
          nm (x6 + 1) fun v7 =>
          REC x4 v7
      else
        nm (x6 + 1) fun v5 =>
        REC x4 v5
set_option maxHeartbeats 4000000 in
set_option maxRecDepth 100000 in
theorem w_X8_lastTold_L18b {p0 : Program} {l : Launch} {e : Env} {s : State} {m : MethodId} {args : Array Value} {below : List Frame} {meth : Method} {c : Code} {Q : State → Prop} {D : va_G} {G : GG} {A : Nat → Prop} {H0 : Heap} {ad : Nat → Nat} {lay : List KK} {X : va_W} {ρ : Type} {p : Nat} {q1 : Nat} {r0 : ρ} {z2 : Int32} {z3 : Int32} {z5 : Int32} {x4 : Int32} {x6 : Int32} {h : PH} {H : Heap} {locs : List Loc} {ls : Array Slot} {K1 : Int32 → Option ρ} {REC : Int32 → Int32 → Option ρ} (hM : CallFix p0 m c cX8_lastTold 7 s args lw_g RX8) (ho : okX8 lay p) (ho1 : okX9 lay q1) (hk1 : ∀ (x4 : Int32), ∀ (H : Heap) (locs : List Loc) (ls : Array Slot), K1 x4 = some r0 → Wd D G A H0 ad lay X h s H locs → lv_has ls 7 [(4, .int x4)] → W p0 l e (rmN 1 21) s m args below meth c H locs 0 0 Q (F0 m 83 ls [])) (hrec : ∀ (x4 : Int32) (x6 : Int32), ∀ (H : Heap) (locs : List Loc) (ls : Array Slot), REC x4 x6 = some r0 → Wd D G A H0 ad lay X h s H locs → lv_has ls 7 [(0, .ref (ad p)), (1, .ref (ad q1)), (2, .int z2), (3, .int z3), (4, .int x4), (5, .int z5), (6, .int x6)] → W p0 l e (rmN 1 21) s m args below meth c H locs 0 0 Q (F0 m 18 ls [])) (hw : Wd D G A H0 ad lay X h s H locs) (hl : lv_has ls 7 [(0, .ref (ad p)), (1, .ref (ad q1)), (2, .int z2), (3, .int z3), (4, .int x4), (5, .int z5), (6, .int x6)]) (hf : c_X8_lastTold_L18b p q1 z2 z3 z5 h K1 REC x4 x6 = some r0) : W p0 l e (rmN 1 21) s m args below meth c H locs 0 0 Q (F0 m 18 ls []) := by
  unfold c_X8_lastTold_L18b at hf
  refine lv_iload hM.1 hM.2.1 dX8_lastTold_18 (lv_at hl 6 rfl) ?_
  refine lv_aload_n hM.1 hM.2.1 dX8_lastTold_20 rfl (lv_at hl 1 rfl) ?_
  refine gf_X9_duties hM hw (okX9.o ho1) fl_X8_55 dX8_lastTold_21 ?_
  refine x_ic_ge (tgt := 83) hM hf dX8_lastTold_24 (by decide) (fun hf => ?_) (fun hf => ?_)
  · exact hk1 _ _ _ _ hf hw (lv_sub hl [4] rfl)
  refine lv_iload hM.1 hM.2.1 dX8_lastTold_27 (lv_at hl 5 rfl) ?_
  refine lv_iload hM.1 hM.2.1 dX8_lastTold_29 (lv_at hl 6 rfl) ?_
  refine lv_ishr hM.1 hM.2.1 dX8_lastTold_31 ?_
  refine lv_iconst (v := 1) hM.1 hM.2.1 dX8_lastTold_32 ic_1 ?_
  refine lv_iand hM.1 hM.2.1 dX8_lastTold_33 ?_
  refine x_if_eq (tgt := 77) hM hf dX8_lastTold_34 (by decide) (fun hf => ?_) (fun hf => ?_)
  · refine x_iinc (k := 6) (d := 1) hM hf dX8_lastTold_77 hl rfl (by decide) (by decide) (fun v4 => [(6, .int v4), (0, .ref (ad p)), (1, .ref (ad q1)), (2, .int z2), (3, .int z3), (4, .int x4), (5, .int z5)]) (fun _ => rfl) (fun v4 ls hf hl => ?_)
    refine lv_goto (tgt := 18) hM.1 hM.2.1 dX8_lastTold_80 (by decide) ?_
    exact hrec _ _ _ _ _ hf hw (lv_sub hl [1, 2, 3, 4, 5, 6, 0] rfl)
  refine lv_aload_n hM.1 hM.2.1 dX8_lastTold_37 rfl (lv_at hl 0 rfl) ?_
  refine gf_X8_plans hM hw (okX8.o ho) fl_X8_37 dX8_lastTold_38 ?_
  refine lv_iload hM.1 hM.2.1 dX8_lastTold_41 (lv_at hl 6 rfl) ?_
  refine x_iald hM hw (okX8.plans ho) hf dX8_lastTold_43 (fun hf => ?_)
  refine lv_iload_n hM.1 hM.2.1 dX8_lastTold_44 rfl (lv_at hl 2 rfl) ?_
  refine x_ic_ne (tgt := 77) hM hf dX8_lastTold_45 (by decide) (fun hf => ?_) (fun hf => ?_)
  · refine x_iinc (k := 6) (d := 1) hM hf dX8_lastTold_77 hl rfl (by decide) (by decide) (fun v5 => [(6, .int v5), (0, .ref (ad p)), (1, .ref (ad q1)), (2, .int z2), (3, .int z3), (4, .int x4), (5, .int z5)]) (fun _ => rfl) (fun v5 ls hf hl => ?_)
    refine lv_goto (tgt := 18) hM.1 hM.2.1 dX8_lastTold_80 (by decide) ?_
    exact hrec _ _ _ _ _ hf hw (lv_sub hl [1, 2, 3, 4, 5, 6, 0] rfl)
  refine lv_aload_n hM.1 hM.2.1 dX8_lastTold_48 rfl (lv_at hl 1 rfl) ?_
  refine gf_X9_dutyRows hM hw (okX9.o ho1) fl_X8_58 dX8_lastTold_49 ?_
  refine lv_iload hM.1 hM.2.1 dX8_lastTold_52 (lv_at hl 6 rfl) ?_
  refine x_aaldI hM hw (okX9.dutyRows ho1) hf dX8_lastTold_54 (fun hi6 hf => ?_)
  refine lv_iconst (v := 0) hM.1 hM.2.1 dX8_lastTold_55 ic_0 ?_
  refine x_ialdK hM hw (okX9.dutyRows_atI ho1 hi6) 0 (by decide) (by decide) dX8_lastTold_56 ?_
  refine lv_iload_n hM.1 hM.2.1 dX8_lastTold_57 rfl (lv_at hl 3 rfl) ?_
  refine x_ic_ne (tgt := 77) hM hf dX8_lastTold_58 (by decide) (fun hf => ?_) (fun hf => ?_)
  · refine x_iinc (k := 6) (d := 1) hM hf dX8_lastTold_77 hl rfl (by decide) (by decide) (fun v7 => [(6, .int v7), (0, .ref (ad p)), (1, .ref (ad q1)), (2, .int z2), (3, .int z3), (4, .int x4), (5, .int z5)]) (fun _ => rfl) (fun v7 ls hf hl => ?_)
    refine lv_goto (tgt := 18) hM.1 hM.2.1 dX8_lastTold_80 (by decide) ?_
    exact hrec _ _ _ _ _ hf hw (lv_sub hl [1, 2, 3, 4, 5, 6, 0] rfl)
  refine lv_iload hM.1 hM.2.1 dX8_lastTold_61 (lv_at hl 4 rfl) ?_
  refine lv_aload_n hM.1 hM.2.1 dX8_lastTold_63 rfl (lv_at hl 1 rfl) ?_
  refine gf_X9_dutyRows hM hw (okX9.o ho1) fl_X8_58 dX8_lastTold_64 ?_
  refine lv_iload hM.1 hM.2.1 dX8_lastTold_67 (lv_at hl 6 rfl) ?_
  refine x_aaldI hM hw (okX9.dutyRows ho1) hf dX8_lastTold_69 (fun hi8 hf => ?_)
  refine lv_iconst (v := 1) hM.1 hM.2.1 dX8_lastTold_70 ic_1 ?_
  refine x_ialdK hM hw (okX9.dutyRows_atI ho1 hi8) 1 (by decide) (by decide) dX8_lastTold_71 ?_
  refine x_mmax hM hl.1 hcs0 ml_X8_61 sm_J9_max_7cf53 in_J9 kc_J9_max_7cf53 (Nat.le_of_ble_eq_true rfl) (Nat.le_of_ble_eq_true rfl) dX8_lastTold_72 ?_
  refine x_istore hM hf dX8_lastTold_75 hl (by decide) (fun v9 => [(4, .int v9), (0, .ref (ad p)), (1, .ref (ad q1)), (2, .int z2), (3, .int z3), (5, .int z5), (6, .int x6)]) (fun _ => rfl) (fun v9 ls hf hl => ?_)
  refine x_iinc (k := 6) (d := 1) hM hf dX8_lastTold_77 hl rfl (by decide) (by decide) (fun v10 => [(6, .int v10), (4, .int v9), (0, .ref (ad p)), (1, .ref (ad q1)), (2, .int z2), (3, .int z3), (5, .int z5)]) (fun _ => rfl) (fun v10 ls hf hl => ?_)
  refine lv_goto (tgt := 18) hM.1 hM.2.1 dX8_lastTold_80 (by decide) ?_
  exact hrec _ _ _ _ _ hf hw (lv_sub hl [2, 3, 4, 5, 1, 6, 0] rfl)
set_option maxHeartbeats 4000000 in
set_option maxRecDepth 100000 in
theorem w_X8_lastTold_L18 {p0 : Program} {l : Launch} {e : Env} {s : State} {m : MethodId} {args : Array Value} {below : List Frame} {meth : Method} {c : Code} {Q : State → Prop} {D : va_G} {G : GG} {A : Nat → Prop} {H0 : Heap} {ad : Nat → Nat} {lay : List KK} {X : va_W} {ρ : Type} {p : Nat} {q1 : Nat} {r0 : ρ} {z2 : Int32} {z3 : Int32} {z5 : Int32} {h : PH} {K1 : Int32 → Option ρ} (hM : CallFix p0 m c cX8_lastTold 7 s args lw_g RX8) (ho : okX8 lay p) (ho1 : okX9 lay q1) (hk1 : ∀ (x4 : Int32), ∀ (H : Heap) (locs : List Loc) (ls : Array Slot), K1 x4 = some r0 → Wd D G A H0 ad lay X h s H locs → lv_has ls 7 [(4, .int x4)] → W p0 l e (rmN 1 21) s m args below meth c H locs 0 0 Q (F0 m 83 ls [])) (n : Nat) (x4 : Int32) (x6 : Int32) (hf : lq2 (c_X8_lastTold_L18b p q1 z2 z3 z5 h K1) n x4 x6 = some r0) : ∀ (H : Heap) (locs : List Loc) (ls : Array Slot), Wd D G A H0 ad lay X h s H locs → lv_has ls 7 [(0, .ref (ad p)), (1, .ref (ad q1)), (2, .int z2), (3, .int z3), (4, .int x4), (5, .int z5), (6, .int x6)] → W p0 l e (rmN 1 21) s m args below meth c H locs 0 0 Q (F0 m 18 ls []) := by
  exact lq2_i (fun (x4 : Int32) (x6 : Int32) => ∀ (H : Heap) (locs : List Loc) (ls : Array Slot), Wd D G A H0 ad lay X h s H locs → lv_has ls 7 [(0, .ref (ad p)), (1, .ref (ad q1)), (2, .int z2), (3, .int z3), (4, .int x4), (5, .int z5), (6, .int x6)] → W p0 l e (rmN 1 21) s m args below meth c H locs 0 0 Q (F0 m 18 ls [])) (fun REC x4 x6 ih hf H locs ls hw hl => w_X8_lastTold_L18b hM ho ho1 hk1 (fun x4 x6 H locs ls hf hw hl => ih x4 x6 hf H locs ls hw hl) hw hl hf) n x4 x6 hf
def c_X8_lastTold (p : Nat) (q1 : Nat) (a2 : Int32) (a3 : Int32) (h : PH) : Option (Int32) :=
  nm ((-2) : Int32) fun v1 =>
  nm ((h.1 p 4) ||| (h.1 p 5)) fun v2 =>
  nm (0 : Int32) fun v3 =>
  lq2 (c_X8_lastTold_L18b p q1 a2 a3 v2 h
    (fun w11 =>
      some w11)) fu v1 v3
set_option maxHeartbeats 4000000 in
set_option maxRecDepth 100000 in
theorem ct_X8_lastTold (l : Launch) {lay : List KK} {p : Nat} {q1 : Nat} (ho : okX8 lay p) (ho1 : okX9 lay q1) (a2 : Int32) (a3 : Int32) : CtI l yX8_lastTold cX8_lastTold 7 (some .int) 1 21 lay (rd (fun h => c_X8_lastTold p q1 a2 a3 h)) (fun ad => [.ref (ad p), .ref (ad q1), .int a2, .int a3]) := by
  refine CtI.mk' RX8 (by decide) rfl (fun _ => Nat.le_of_ble_eq_true rfl) ?_
  intro p0 e s m args below meth c D G A H0 ad X h r0 H ls Q hM hw hl hf hR
  have hl : lv_has ls 7 [(0, .ref (ad p)), (1, .ref (ad q1)), (2, .int a2), (3, .int a3)] := hl
  obtain ⟨v0, hv0, hr0⟩ : ∃ v0, c_X8_lastTold p q1 a2 a3 h = some v0 ∧ r0 = (v0, h) := rd_some hf
  subst hr0
  have hf := hv0
  unfold c_X8_lastTold at hf
  refine lv_bipush (v := (-2)) hM.1 hM.2.1 dX8_lastTold_0 (by decide) ?_
  refine x_istore hM hf dX8_lastTold_2 hl (by decide) (fun v1 => [(4, .int v1), (0, .ref (ad p)), (1, .ref (ad q1)), (2, .int a2), (3, .int a3)]) (fun _ => rfl) (fun v1 ls hf hl => ?_)
  refine lv_aload_n hM.1 hM.2.1 dX8_lastTold_4 rfl (lv_at hl 1 rfl) ?_
  refine gf_X8_freed hM hw (okX8.o ho) fl_X8_24 dX8_lastTold_5 ?_
  refine lv_aload_n hM.1 hM.2.1 dX8_lastTold_8 rfl (lv_at hl 1 rfl) ?_
  refine gf_X8_caught hM hw (okX8.o ho) fl_X8_27 dX8_lastTold_9 ?_
  refine lv_ior hM.1 hM.2.1 dX8_lastTold_12 ?_
  refine x_istore hM hf dX8_lastTold_13 hl (by decide) (fun v2 => [(5, .int v2), (4, .int v1), (0, .ref (ad p)), (1, .ref (ad q1)), (2, .int a2), (3, .int a3)]) (fun _ => rfl) (fun v2 ls hf hl => ?_)
  refine lv_iconst (v := 0) hM.1 hM.2.1 dX8_lastTold_15 ic_0 ?_
  refine x_istore hM hf dX8_lastTold_16 hl (by decide) (fun v3 => [(6, .int v3), (5, .int v2), (4, .int v1), (0, .ref (ad p)), (1, .ref (ad q1)), (2, .int a2), (3, .int a3)]) (fun _ => rfl) (fun v3 ls hf hl => ?_)
  refine w_X8_lastTold_L18 hM ho ho1 (fun w11 H locs ls hf hw hl => ?_) fu _ _ hf _ _ _ hw (lv_sub hl [3, 4, 5, 6, 2, 1, 0] rfl)
  refine lv_iload hM.1 hM.2.1 dX8_lastTold_83 (lv_at hl 0 rfl) ?_
  exact hR _ _ _ _ _ _ _ (congrArg (fun z => (z, _)) (Option.some.inj hf)) rfl rfl hw dX8_lastTold_85
theorem hd_X8_lastTold : yX8_lastTold.cls = RX8 ∧ yX8_lastTold.cls ≠ "java/lang/invoke/MethodHandle" ∧ yX8_lastTold.cls ≠ "java/lang/invoke/VarHandle" ∧ (parseMethodDescriptor yX8_lastTold.desc).map (fun d => d.parameters.length) = some 3 := ⟨rfl, by decide, by decide, by decide +kernel⟩
theorem dX8_kindTold_0 : decode cX8_kindTold 0 = .ok (.aload_n 0, 1) := by decide +kernel
theorem dX8_kindTold_1 : decode cX8_kindTold 1 = .ok (.getfield 37, 3) := by decide +kernel
theorem dX8_kindTold_4 : decode cX8_kindTold 4 = .ok (.iload_n 2, 1) := by decide +kernel
theorem dX8_kindTold_5 : decode cX8_kindTold 5 = .ok (.iaload, 1) := by decide +kernel
theorem dX8_kindTold_6 : decode cX8_kindTold 6 = .ok (.istore_n 3, 1) := by decide +kernel
theorem dX8_kindTold_7 : decode cX8_kindTold 7 = .ok (.aload_n 0, 1) := by decide +kernel
theorem dX8_kindTold_8 : decode cX8_kindTold 8 = .ok (.getfield 24, 3) := by decide +kernel
theorem dX8_kindTold_11 : decode cX8_kindTold 11 = .ok (.aload_n 0, 1) := by decide +kernel
theorem dX8_kindTold_12 : decode cX8_kindTold 12 = .ok (.getfield 27, 3) := by decide +kernel
theorem dX8_kindTold_15 : decode cX8_kindTold 15 = .ok (.ior, 1) := by decide +kernel
theorem dX8_kindTold_16 : decode cX8_kindTold 16 = .ok (.iload_n 2, 1) := by decide +kernel
theorem dX8_kindTold_17 : decode cX8_kindTold 17 = .ok (.ishr, 1) := by decide +kernel
theorem dX8_kindTold_18 : decode cX8_kindTold 18 = .ok (.iconst 1, 1) := by decide +kernel
theorem dX8_kindTold_19 : decode cX8_kindTold 19 = .ok (.iand, 1) := by decide +kernel
theorem dX8_kindTold_20 : decode cX8_kindTold 20 = .ok (.ifCond .eq 19, 3) := by decide +kernel
theorem dX8_kindTold_23 : decode cX8_kindTold 23 = .ok (.iload_n 3, 1) := by decide +kernel
theorem dX8_kindTold_24 : decode cX8_kindTold 24 = .ok (.ifCond .lt 15, 3) := by decide +kernel
theorem dX8_kindTold_27 : decode cX8_kindTold 27 = .ok (.iload_n 3, 1) := by decide +kernel
theorem dX8_kindTold_28 : decode cX8_kindTold 28 = .ok (.aload_n 1, 1) := by decide +kernel
theorem dX8_kindTold_29 : decode cX8_kindTold 29 = .ok (.getfield 67, 3) := by decide +kernel
theorem dX8_kindTold_32 : decode cX8_kindTold 32 = .ok (.if_icmp .ge 7, 3) := by decide +kernel
theorem dX8_kindTold_35 : decode cX8_kindTold 35 = .ok (.iconst 1, 1) := by decide +kernel
theorem dX8_kindTold_36 : decode cX8_kindTold 36 = .ok (.goto 4, 3) := by decide +kernel
theorem dX8_kindTold_39 : decode cX8_kindTold 39 = .ok (.iconst 0, 1) := by decide +kernel
theorem dX8_kindTold_40 : decode cX8_kindTold 40 = .ok (.istore 4, 2) := by decide +kernel
theorem dX8_kindTold_42 : decode cX8_kindTold 42 = .ok (.iload 4, 2) := by decide +kernel
theorem dX8_kindTold_44 : decode cX8_kindTold 44 = .ok (.ifCond .eq 14, 3) := by decide +kernel
theorem dX8_kindTold_47 : decode cX8_kindTold 47 = .ok (.aload_n 1, 1) := by decide +kernel
theorem dX8_kindTold_48 : decode cX8_kindTold 48 = .ok (.getfield 70, 3) := by decide +kernel
theorem dX8_kindTold_51 : decode cX8_kindTold 51 = .ok (.iload_n 3, 1) := by decide +kernel
theorem dX8_kindTold_52 : decode cX8_kindTold 52 = .ok (.aaload, 1) := by decide +kernel
theorem dX8_kindTold_53 : decode cX8_kindTold 53 = .ok (.iconst 2, 1) := by decide +kernel
theorem dX8_kindTold_54 : decode cX8_kindTold 54 = .ok (.iaload, 1) := by decide +kernel
theorem dX8_kindTold_55 : decode cX8_kindTold 55 = .ok (.goto 4, 3) := by decide +kernel
theorem dX8_kindTold_58 : decode cX8_kindTold 58 = .ok (.iconst (-1), 1) := by decide +kernel
theorem dX8_kindTold_59 : decode cX8_kindTold 59 = .ok (.ireturn, 1) := by decide +kernel
def c_X8_kindTold_j39  (p : Nat) (q1 : Nat) (x3 : Int32) (h : PH) : Option (Int32) :=
  nm (0 : Int32) fun v2 =>
  if v2 = 0 then
    some (-1)
  else
    gd (ixOK x3 7) <|
    some (h.1 (q1 + 13 + 1 + x3.toNatClampNeg) 2)
set_option maxHeartbeats 4000000 in
set_option maxRecDepth 100000 in
theorem w_X8_kindTold_j39 {p0 : Program} {l : Launch} {e : Env} {s : State} {m : MethodId} {args : Array Value} {below : List Frame} {meth : Method} {c : Code} {Q : State → Prop} {D : va_G} {G : GG} {A : Nat → Prop} {H0 : Heap} {ad : Nat → Nat} {lay : List KK} {X : va_W} {p : Nat} {q1 : Nat} {r0 : Int32} {x3 : Int32} {h : PH} {H : Heap} {locs : List Loc} {ls : Array Slot} (hM : CallFix p0 m c cX8_kindTold 5 s args lw_g RX8) (ho : okX8 lay p) (ho1 : okX9 lay q1) (hR : RtI p0 l e (rmN 0 0) s m args below meth c cX8_kindTold D G A H0 ad lay X (some .int) (r0, h) Q 0 0) (hw : Wd D G A H0 ad lay X h s H locs) (hl : lv_has ls 5 [(1, .ref (ad q1)), (3, .int x3)]) (hf : c_X8_kindTold_j39 p q1 x3 h = some r0) : W p0 l e (rmN 0 0) s m args below meth c H locs 0 0 Q (F0 m 39 ls []) := by
  unfold c_X8_kindTold_j39 at hf
  refine lv_iconst (v := 0) hM.1 hM.2.1 dX8_kindTold_39 ic_0 ?_
  refine x_istore hM hf dX8_kindTold_40 hl (by decide) (fun v2 => [(4, .int v2), (1, .ref (ad q1)), (3, .int x3)]) (fun _ => rfl) (fun v2 ls hf hl => ?_)
  refine lv_iload hM.1 hM.2.1 dX8_kindTold_42 (lv_at hl 0 rfl) ?_
  refine x_if_eq (tgt := 58) hM hf dX8_kindTold_44 (by decide) (fun hf => ?_) (fun hf => ?_)
  · refine lv_iconst (v := (-1)) hM.1 hM.2.1 dX8_kindTold_58 ic_m1 ?_
    exact hR _ _ _ _ _ _ _ (congrArg (fun z => (z, _)) (Option.some.inj hf)) rfl rfl hw dX8_kindTold_59
  refine lv_aload_n hM.1 hM.2.1 dX8_kindTold_47 rfl (lv_at hl 1 rfl) ?_
  refine gf_X9_excuseRows hM hw (okX9.o ho1) fl_X8_70 dX8_kindTold_48 ?_
  refine lv_iload_n hM.1 hM.2.1 dX8_kindTold_51 rfl (lv_at hl 2 rfl) ?_
  refine x_aaldI hM hw (okX9.excuseRows ho1) hf dX8_kindTold_52 (fun hi3 hf => ?_)
  refine lv_iconst (v := 2) hM.1 hM.2.1 dX8_kindTold_53 ic_2 ?_
  refine x_ialdK hM hw (okX9.excuseRows_atI ho1 hi3) 2 (by decide) (by decide) dX8_kindTold_54 ?_
  refine lv_goto (tgt := 59) hM.1 hM.2.1 dX8_kindTold_55 (by decide) ?_
  exact hR _ _ _ _ _ _ _ (congrArg (fun z => (z, _)) (Option.some.inj hf)) rfl rfl hw dX8_kindTold_59
def c_X8_kindTold (p : Nat) (q1 : Nat) (a2 : Int32) (h : PH) : Option (Int32) :=
  gd (ixOK a2 9) <|
  nm (h.1 (p + 2) a2.toNatClampNeg) fun v1 =>
  if ((((h.1 p 4) ||| (h.1 p 5)) >>> (a2 &&& 31)) &&& 1) = 0 then
    c_X8_kindTold_j39 p q1 v1 h
  else
    if v1 < 0 then
      c_X8_kindTold_j39 p q1 v1 h
    else
      if (h.1 q1 1) ≤ v1 then
        c_X8_kindTold_j39 p q1 v1 h
      else
        nm (1 : Int32) fun v4 =>
        if v4 = 0 then
          some (-1)
        else
          gd (ixOK v1 7) <|
          some (h.1 (q1 + 13 + 1 + v1.toNatClampNeg) 2)
set_option maxHeartbeats 4000000 in
set_option maxRecDepth 100000 in
theorem ct_X8_kindTold (l : Launch) {lay : List KK} {p : Nat} {q1 : Nat} (ho : okX8 lay p) (ho1 : okX9 lay q1) (a2 : Int32) : CtI l yX8_kindTold cX8_kindTold 5 (some .int) 0 0 lay (rd (fun h => c_X8_kindTold p q1 a2 h)) (fun ad => [.ref (ad p), .ref (ad q1), .int a2]) := by
  refine CtI.mk' RX8 (by decide) rfl (fun _ => Nat.le_of_ble_eq_true rfl) ?_
  intro p0 e s m args below meth c D G A H0 ad X h r0 H ls Q hM hw hl hf hR
  have hl : lv_has ls 5 [(0, .ref (ad p)), (1, .ref (ad q1)), (2, .int a2)] := hl
  obtain ⟨v0, hv0, hr0⟩ : ∃ v0, c_X8_kindTold p q1 a2 h = some v0 ∧ r0 = (v0, h) := rd_some hf
  subst hr0
  have hf := hv0
  unfold c_X8_kindTold at hf
  refine lv_aload_n hM.1 hM.2.1 dX8_kindTold_0 rfl (lv_at hl 0 rfl) ?_
  refine gf_X8_plans hM hw (okX8.o ho) fl_X8_37 dX8_kindTold_1 ?_
  refine lv_iload_n hM.1 hM.2.1 dX8_kindTold_4 rfl (lv_at hl 2 rfl) ?_
  refine x_iald hM hw (okX8.plans ho) hf dX8_kindTold_5 (fun hf => ?_)
  refine x_istore_n hM hf dX8_kindTold_6 rfl hl (by decide) (fun v1 => [(3, .int v1), (0, .ref (ad p)), (1, .ref (ad q1)), (2, .int a2)]) (fun _ => rfl) (fun v1 ls hf hl => ?_)
  refine lv_aload_n hM.1 hM.2.1 dX8_kindTold_7 rfl (lv_at hl 1 rfl) ?_
  refine gf_X8_freed hM hw (okX8.o ho) fl_X8_24 dX8_kindTold_8 ?_
  refine lv_aload_n hM.1 hM.2.1 dX8_kindTold_11 rfl (lv_at hl 1 rfl) ?_
  refine gf_X8_caught hM hw (okX8.o ho) fl_X8_27 dX8_kindTold_12 ?_
  refine lv_ior hM.1 hM.2.1 dX8_kindTold_15 ?_
  refine lv_iload_n hM.1 hM.2.1 dX8_kindTold_16 rfl (lv_at hl 3 rfl) ?_
  refine lv_ishr hM.1 hM.2.1 dX8_kindTold_17 ?_
  refine lv_iconst (v := 1) hM.1 hM.2.1 dX8_kindTold_18 ic_1 ?_
  refine lv_iand hM.1 hM.2.1 dX8_kindTold_19 ?_
  refine x_if_eq (tgt := 39) hM hf dX8_kindTold_20 (by decide) (fun hf => ?_) (fun hf => ?_)
  · exact w_X8_kindTold_j39 hM ho ho1 hR hw (lv_sub hl [2, 0] rfl) hf
  refine lv_iload_n hM.1 hM.2.1 dX8_kindTold_23 rfl (lv_at hl 0 rfl) ?_
  refine x_if_lt (tgt := 39) hM hf dX8_kindTold_24 (by decide) (fun hf => ?_) (fun hf => ?_)
  · exact w_X8_kindTold_j39 hM ho ho1 hR hw (lv_sub hl [2, 0] rfl) hf
  refine lv_iload_n hM.1 hM.2.1 dX8_kindTold_27 rfl (lv_at hl 0 rfl) ?_
  refine lv_aload_n hM.1 hM.2.1 dX8_kindTold_28 rfl (lv_at hl 2 rfl) ?_
  refine gf_X9_excuses hM hw (okX9.o ho1) fl_X8_67 dX8_kindTold_29 ?_
  refine x_ic_ge (tgt := 39) hM hf dX8_kindTold_32 (by decide) (fun hf => ?_) (fun hf => ?_)
  · exact w_X8_kindTold_j39 hM ho ho1 hR hw (lv_sub hl [2, 0] rfl) hf
  refine lv_iconst (v := 1) hM.1 hM.2.1 dX8_kindTold_35 ic_1 ?_
  refine lv_goto (tgt := 40) hM.1 hM.2.1 dX8_kindTold_36 (by decide) ?_
  refine x_istore hM hf dX8_kindTold_40 hl (by decide) (fun v4 => [(4, .int v4), (3, .int v1), (0, .ref (ad p)), (1, .ref (ad q1)), (2, .int a2)]) (fun _ => rfl) (fun v4 ls hf hl => ?_)
  refine lv_iload hM.1 hM.2.1 dX8_kindTold_42 (lv_at hl 0 rfl) ?_
  refine x_if_eq (tgt := 58) hM hf dX8_kindTold_44 (by decide) (fun hf => ?_) (fun hf => ?_)
  · refine lv_iconst (v := (-1)) hM.1 hM.2.1 dX8_kindTold_58 ic_m1 ?_
    exact hR _ _ _ _ _ _ _ (congrArg (fun z => (z, _)) (Option.some.inj hf)) rfl rfl hw dX8_kindTold_59
  refine lv_aload_n hM.1 hM.2.1 dX8_kindTold_47 rfl (lv_at hl 3 rfl) ?_
  refine gf_X9_excuseRows hM hw (okX9.o ho1) fl_X8_70 dX8_kindTold_48 ?_
  refine lv_iload_n hM.1 hM.2.1 dX8_kindTold_51 rfl (lv_at hl 1 rfl) ?_
  refine x_aaldI hM hw (okX9.excuseRows ho1) hf dX8_kindTold_52 (fun hi5 hf => ?_)
  refine lv_iconst (v := 2) hM.1 hM.2.1 dX8_kindTold_53 ic_2 ?_
  refine x_ialdK hM hw (okX9.excuseRows_atI ho1 hi5) 2 (by decide) (by decide) dX8_kindTold_54 ?_
  refine lv_goto (tgt := 59) hM.1 hM.2.1 dX8_kindTold_55 (by decide) ?_
  exact hR _ _ _ _ _ _ _ (congrArg (fun z => (z, _)) (Option.some.inj hf)) rfl rfl hw dX8_kindTold_59
theorem hd_X8_kindTold : yX8_kindTold.cls = RX8 ∧ yX8_kindTold.cls ≠ "java/lang/invoke/MethodHandle" ∧ yX8_kindTold.cls ≠ "java/lang/invoke/VarHandle" ∧ (parseMethodDescriptor yX8_kindTold.desc).map (fun d => d.parameters.length) = some 2 := ⟨rfl, by decide, by decide, by decide +kernel⟩
theorem dX8_differ_0 : decode cX8_differ 0 = .ok (.iload_n 0, 1) := by decide +kernel
theorem dX8_differ_1 : decode cX8_differ 1 = .ok (.iconst (-1), 1) := by decide +kernel
theorem dX8_differ_2 : decode cX8_differ 2 = .ok (.if_icmp .eq 17, 3) := by decide +kernel
theorem dX8_differ_5 : decode cX8_differ 5 = .ok (.iload_n 1, 1) := by decide +kernel
theorem dX8_differ_6 : decode cX8_differ 6 = .ok (.iconst (-1), 1) := by decide +kernel
theorem dX8_differ_7 : decode cX8_differ 7 = .ok (.if_icmp .eq 12, 3) := by decide +kernel
theorem dX8_differ_10 : decode cX8_differ 10 = .ok (.iload_n 0, 1) := by decide +kernel
theorem dX8_differ_11 : decode cX8_differ 11 = .ok (.iload_n 1, 1) := by decide +kernel
theorem dX8_differ_12 : decode cX8_differ 12 = .ok (.if_icmp .eq 7, 3) := by decide +kernel
theorem dX8_differ_15 : decode cX8_differ 15 = .ok (.iconst 1, 1) := by decide +kernel
theorem dX8_differ_16 : decode cX8_differ 16 = .ok (.goto 4, 3) := by decide +kernel
theorem dX8_differ_19 : decode cX8_differ 19 = .ok (.iconst 0, 1) := by decide +kernel
theorem dX8_differ_20 : decode cX8_differ 20 = .ok (.ireturn, 1) := by decide +kernel
def c_X8_differ (a0 : Int32) (a1 : Int32) : Option (Int32) :=
  if a0 = (-1) then
    some 0
  else
    if a1 = (-1) then
      some 0
    else
      if a0 = a1 then
        some 0
      else
        some 1
set_option maxHeartbeats 4000000 in
set_option maxRecDepth 100000 in
theorem ct_X8_differ (l : Launch) {lay : List KK} (a0 : Int32) (a1 : Int32) : CtI l yX8_differ cX8_differ 2 (some .boolean) 0 0 lay (rd (fun _ => c_X8_differ a0 a1)) (fun _ => [.int a0, .int a1]) := by
  refine CtI.mk' RX8 (by decide) rfl (fun _ => Nat.le_of_ble_eq_true rfl) ?_
  intro p0 e s m args below meth c D G A H0 ad X h r0 H ls Q hM hw hl hf hR
  have hl : lv_has ls 2 [(0, .int a0), (1, .int a1)] := hl
  obtain ⟨v0, hv0, hr0⟩ : ∃ v0, c_X8_differ a0 a1 = some v0 ∧ r0 = (v0, h) := rd_some hf
  subst hr0
  have hf := hv0
  unfold c_X8_differ at hf
  refine lv_iload_n hM.1 hM.2.1 dX8_differ_0 rfl (lv_at hl 0 rfl) ?_
  refine lv_iconst (v := (-1)) hM.1 hM.2.1 dX8_differ_1 ic_m1 ?_
  refine x_ic_eq (tgt := 19) hM hf dX8_differ_2 (by decide) (fun hf => ?_) (fun hf => ?_)
  · refine lv_iconst (v := 0) hM.1 hM.2.1 dX8_differ_19 ic_0 ?_
    exact hR _ _ _ _ _ _ _ (congrArg (fun z => (z, _)) (Option.some.inj hf)) rfl (nar_z (by decide)) hw dX8_differ_20
  refine lv_iload_n hM.1 hM.2.1 dX8_differ_5 rfl (lv_at hl 1 rfl) ?_
  refine lv_iconst (v := (-1)) hM.1 hM.2.1 dX8_differ_6 ic_m1 ?_
  refine x_ic_eq (tgt := 19) hM hf dX8_differ_7 (by decide) (fun hf => ?_) (fun hf => ?_)
  · refine lv_iconst (v := 0) hM.1 hM.2.1 dX8_differ_19 ic_0 ?_
    exact hR _ _ _ _ _ _ _ (congrArg (fun z => (z, _)) (Option.some.inj hf)) rfl (nar_z (by decide)) hw dX8_differ_20
  refine lv_iload_n hM.1 hM.2.1 dX8_differ_10 rfl (lv_at hl 0 rfl) ?_
  refine lv_iload_n hM.1 hM.2.1 dX8_differ_11 rfl (lv_at hl 1 rfl) ?_
  refine x_ic_eq (tgt := 19) hM hf dX8_differ_12 (by decide) (fun hf => ?_) (fun hf => ?_)
  · refine lv_iconst (v := 0) hM.1 hM.2.1 dX8_differ_19 ic_0 ?_
    exact hR _ _ _ _ _ _ _ (congrArg (fun z => (z, _)) (Option.some.inj hf)) rfl (nar_z (by decide)) hw dX8_differ_20
  refine lv_iconst (v := 1) hM.1 hM.2.1 dX8_differ_15 ic_1 ?_
  refine lv_goto (tgt := 20) hM.1 hM.2.1 dX8_differ_16 (by decide) ?_
  exact hR _ _ _ _ _ _ _ (congrArg (fun z => (z, _)) (Option.some.inj hf)) rfl (nar_z (by decide)) hw dX8_differ_20
theorem hd_X8_differ : yX8_differ.cls ≠ "java/lang/invoke/MethodHandle" ∧ yX8_differ.cls ≠ "java/lang/invoke/VarHandle" ∧ (parseMethodDescriptor yX8_differ.desc).map (fun d => d.parameters.length) = some 2 := ⟨by decide, by decide, by decide +kernel⟩
theorem dX8_toldOtherwise_0 : decode cX8_toldOtherwise 0 = .ok (.iconst 0, 1) := by decide +kernel
theorem dX8_toldOtherwise_1 : decode cX8_toldOtherwise 1 = .ok (.istore 4, 2) := by decide +kernel
theorem dX8_toldOtherwise_3 : decode cX8_toldOtherwise 3 = .ok (.iconst 0, 1) := by decide +kernel
theorem dX8_toldOtherwise_4 : decode cX8_toldOtherwise 4 = .ok (.istore 5, 2) := by decide +kernel
theorem dX8_toldOtherwise_6 : decode cX8_toldOtherwise 6 = .ok (.iload 5, 2) := by decide +kernel
theorem dX8_toldOtherwise_8 : decode cX8_toldOtherwise 8 = .ok (.aload_n 1, 1) := by decide +kernel
theorem dX8_toldOtherwise_9 : decode cX8_toldOtherwise 9 = .ok (.getfield 55, 3) := by decide +kernel
theorem dX8_toldOtherwise_12 : decode cX8_toldOtherwise 12 = .ok (.if_icmp .ge 59, 3) := by decide +kernel
theorem dX8_toldOtherwise_15 : decode cX8_toldOtherwise 15 = .ok (.aload_n 0, 1) := by decide +kernel
theorem dX8_toldOtherwise_16 : decode cX8_toldOtherwise 16 = .ok (.aload_n 1, 1) := by decide +kernel
theorem dX8_toldOtherwise_17 : decode cX8_toldOtherwise 17 = .ok (.iload 5, 2) := by decide +kernel
theorem dX8_toldOtherwise_19 : decode cX8_toldOtherwise 19 = .ok (.invokevirtual 73, 3) := by decide +kernel
theorem dX8_toldOtherwise_22 : decode cX8_toldOtherwise 22 = .ok (.istore 6, 2) := by decide +kernel
theorem dX8_toldOtherwise_24 : decode cX8_toldOtherwise 24 = .ok (.aload_n 1, 1) := by decide +kernel
theorem dX8_toldOtherwise_25 : decode cX8_toldOtherwise 25 = .ok (.getfield 58, 3) := by decide +kernel
theorem dX8_toldOtherwise_28 : decode cX8_toldOtherwise 28 = .ok (.iload 5, 2) := by decide +kernel
theorem dX8_toldOtherwise_30 : decode cX8_toldOtherwise 30 = .ok (.aaload, 1) := by decide +kernel
theorem dX8_toldOtherwise_31 : decode cX8_toldOtherwise 31 = .ok (.iconst 1, 1) := by decide +kernel
theorem dX8_toldOtherwise_32 : decode cX8_toldOtherwise 32 = .ok (.iaload, 1) := by decide +kernel
theorem dX8_toldOtherwise_33 : decode cX8_toldOtherwise 33 = .ok (.aload_n 0, 1) := by decide +kernel
theorem dX8_toldOtherwise_34 : decode cX8_toldOtherwise 34 = .ok (.getfield 9, 3) := by decide +kernel
theorem dX8_toldOtherwise_37 : decode cX8_toldOtherwise 37 = .ok (.if_icmp .ne 28, 3) := by decide +kernel
theorem dX8_toldOtherwise_40 : decode cX8_toldOtherwise 40 = .ok (.iload 6, 2) := by decide +kernel
theorem dX8_toldOtherwise_42 : decode cX8_toldOtherwise 42 = .ok (.iload_n 3, 1) := by decide +kernel
theorem dX8_toldOtherwise_43 : decode cX8_toldOtherwise 43 = .ok (.invokestatic 77, 3) := by decide +kernel
theorem dX8_toldOtherwise_46 : decode cX8_toldOtherwise 46 = .ok (.ifCond .eq 19, 3) := by decide +kernel
theorem dX8_toldOtherwise_49 : decode cX8_toldOtherwise 49 = .ok (.iload 4, 2) := by decide +kernel
theorem dX8_toldOtherwise_51 : decode cX8_toldOtherwise 51 = .ok (.iconst 1, 1) := by decide +kernel
theorem dX8_toldOtherwise_52 : decode cX8_toldOtherwise 52 = .ok (.aload_n 1, 1) := by decide +kernel
theorem dX8_toldOtherwise_53 : decode cX8_toldOtherwise 53 = .ok (.getfield 58, 3) := by decide +kernel
theorem dX8_toldOtherwise_56 : decode cX8_toldOtherwise 56 = .ok (.iload 5, 2) := by decide +kernel
theorem dX8_toldOtherwise_58 : decode cX8_toldOtherwise 58 = .ok (.aaload, 1) := by decide +kernel
theorem dX8_toldOtherwise_59 : decode cX8_toldOtherwise 59 = .ok (.iconst 0, 1) := by decide +kernel
theorem dX8_toldOtherwise_60 : decode cX8_toldOtherwise 60 = .ok (.iaload, 1) := by decide +kernel
theorem dX8_toldOtherwise_61 : decode cX8_toldOtherwise 61 = .ok (.ishl, 1) := by decide +kernel
theorem dX8_toldOtherwise_62 : decode cX8_toldOtherwise 62 = .ok (.ior, 1) := by decide +kernel
theorem dX8_toldOtherwise_63 : decode cX8_toldOtherwise 63 = .ok (.istore 4, 2) := by decide +kernel
theorem dX8_toldOtherwise_65 : decode cX8_toldOtherwise 65 = .ok (.iinc 5 1, 3) := by decide +kernel
theorem dX8_toldOtherwise_68 : decode cX8_toldOtherwise 68 = .ok (.goto (-62), 3) := by decide +kernel
theorem dX8_toldOtherwise_71 : decode cX8_toldOtherwise 71 = .ok (.aload_n 1, 1) := by decide +kernel
theorem dX8_toldOtherwise_72 : decode cX8_toldOtherwise 72 = .ok (.iload_n 2, 1) := by decide +kernel
theorem dX8_toldOtherwise_73 : decode cX8_toldOtherwise 73 = .ok (.invokevirtual 43, 3) := by decide +kernel
theorem dX8_toldOtherwise_76 : decode cX8_toldOtherwise 76 = .ok (.ifCond .eq 20, 3) := by decide +kernel
theorem dX8_toldOtherwise_79 : decode cX8_toldOtherwise 79 = .ok (.iload 4, 2) := by decide +kernel
theorem dX8_toldOtherwise_81 : decode cX8_toldOtherwise 81 = .ok (.aload_n 1, 1) := by decide +kernel
theorem dX8_toldOtherwise_82 : decode cX8_toldOtherwise 82 = .ok (.getfield 47, 3) := by decide +kernel
theorem dX8_toldOtherwise_85 : decode cX8_toldOtherwise 85 = .ok (.iload_n 2, 1) := by decide +kernel
theorem dX8_toldOtherwise_86 : decode cX8_toldOtherwise 86 = .ok (.aaload, 1) := by decide +kernel
theorem dX8_toldOtherwise_87 : decode cX8_toldOtherwise 87 = .ok (.iconst 2, 1) := by decide +kernel
theorem dX8_toldOtherwise_88 : decode cX8_toldOtherwise 88 = .ok (.iaload, 1) := by decide +kernel
theorem dX8_toldOtherwise_89 : decode cX8_toldOtherwise 89 = .ok (.iand, 1) := by decide +kernel
theorem dX8_toldOtherwise_90 : decode cX8_toldOtherwise 90 = .ok (.invokestatic 81, 3) := by decide +kernel
theorem dX8_toldOtherwise_93 : decode cX8_toldOtherwise 93 = .ok (.goto 4, 3) := by decide +kernel
theorem dX8_toldOtherwise_96 : decode cX8_toldOtherwise 96 = .ok (.iconst 0, 1) := by decide +kernel
theorem dX8_toldOtherwise_97 : decode cX8_toldOtherwise 97 = .ok (.ireturn, 1) := by decide +kernel
def c_X8_toldOtherwise_L6b {ρ : Type}  (p : Nat) (q1 : Nat) (z2 : Int32) (z3 : Int32) (h : PH) (K1 : Int32 → Option ρ) (REC : Int32 → Int32 → Option ρ) (x4 : Int32) (x5 : Int32) : Option ρ :=
  if (h.1 q1 2) ≤ x5 then
    K1 x4
  else
    (c_X8_kindTold p q1 x5 h).bind fun r3 =>
    nm r3 fun v4 =>
    gd (ixOK x5 9) <|
    if (h.1 (q1 + 21 + 1 + x5.toNatClampNeg) 1) = (h.1 p 0) then
      (c_X8_differ v4 z3).bind fun r7 =>
      if r7 = 0 then
        nm (x5 + 1) fun v8 =>
        REC x4 v8
      else
        gd (ixOK x5 9) <|
        nm (x4 ||| ((1 : Int32) <<< ((h.1 (q1 + 21 + 1 + x5.toNatClampNeg) 0) &&& 31))) fun v10 =>
        nm (x5 + 1) fun v11 =>
        REC v10 v11
    else
      nm (x5 + 1) fun v6 =>
      REC x4 v6
set_option maxHeartbeats 4000000 in
set_option maxRecDepth 100000 in
theorem w_X8_toldOtherwise_L6b {p0 : Program} {l : Launch} {e : Env} {s : State} {m : MethodId} {args : Array Value} {below : List Frame} {meth : Method} {c : Code} {Q : State → Prop} {D : va_G} {G : GG} {A : Nat → Prop} {H0 : Heap} {ad : Nat → Nat} {lay : List KK} {X : va_W} {ρ : Type} {p : Nat} {q1 : Nat} {r0 : ρ} {z2 : Int32} {z3 : Int32} {x4 : Int32} {x5 : Int32} {h : PH} {H : Heap} {locs : List Loc} {ls : Array Slot} {K1 : Int32 → Option ρ} {REC : Int32 → Int32 → Option ρ} (hM : CallFix p0 m c cX8_toldOtherwise 7 s args lw_g RX8) (ho : okX8 lay p) (ho1 : okX9 lay q1) (hk1 : ∀ (x4 : Int32), ∀ (H : Heap) (locs : List Loc) (ls : Array Slot), K1 x4 = some r0 → Wd D G A H0 ad lay X h s H locs → lv_has ls 7 [(1, .ref (ad q1)), (2, .int z2), (4, .int x4)] → W p0 l e (rmN 1 24) s m args below meth c H locs 0 0 Q (F0 m 71 ls [])) (hrec : ∀ (x4 : Int32) (x5 : Int32), ∀ (H : Heap) (locs : List Loc) (ls : Array Slot), REC x4 x5 = some r0 → Wd D G A H0 ad lay X h s H locs → lv_has ls 7 [(0, .ref (ad p)), (1, .ref (ad q1)), (2, .int z2), (3, .int z3), (4, .int x4), (5, .int x5)] → W p0 l e (rmN 1 24) s m args below meth c H locs 0 0 Q (F0 m 6 ls [])) (hw : Wd D G A H0 ad lay X h s H locs) (hl : lv_has ls 7 [(0, .ref (ad p)), (1, .ref (ad q1)), (2, .int z2), (3, .int z3), (4, .int x4), (5, .int x5)]) (hf : c_X8_toldOtherwise_L6b p q1 z2 z3 h K1 REC x4 x5 = some r0) : W p0 l e (rmN 1 24) s m args below meth c H locs 0 0 Q (F0 m 6 ls []) := by
  unfold c_X8_toldOtherwise_L6b at hf
  refine lv_iload hM.1 hM.2.1 dX8_toldOtherwise_6 (lv_at hl 5 rfl) ?_
  refine lv_aload_n hM.1 hM.2.1 dX8_toldOtherwise_8 rfl (lv_at hl 1 rfl) ?_
  refine gf_X9_duties hM hw (okX9.o ho1) fl_X8_55 dX8_toldOtherwise_9 ?_
  refine x_ic_ge (tgt := 71) hM hf dX8_toldOtherwise_12 (by decide) (fun hf => ?_) (fun hf => ?_)
  · exact hk1 _ _ _ _ hf hw (lv_sub hl [1, 2, 4] rfl)
  refine lv_aload_n hM.1 hM.2.1 dX8_toldOtherwise_15 rfl (lv_at hl 0 rfl) ?_
  refine lv_aload_n hM.1 hM.2.1 dX8_toldOtherwise_16 rfl (lv_at hl 1 rfl) ?_
  refine lv_iload hM.1 hM.2.1 dX8_toldOtherwise_17 (lv_at hl 5 rfl) ?_
  refine x_callVIr (rest := []) hM hw (ct_X8_kindTold l ho ho1 x5) [.ref (ad q1), .int x5] (okX8.o ho) rfl rfl rfl (gi_V ml_X8_73 im_X8_kindTold sl_X8_kindTold in_X8 kc_X8_kindTold) hd_X8_kindTold rfl ⟨Nat.le_of_ble_eq_true rfl, Nat.le_of_ble_eq_true rfl⟩ rfl (Nat.le_of_ble_eq_true rfl) hl.1 hcs0 hf dX8_toldOtherwise_19 (fun r3 H locs hf hw => ?_)
  refine x_istore hM hf dX8_toldOtherwise_22 hl (by decide) (fun v4 => [(6, .int v4), (0, .ref (ad p)), (1, .ref (ad q1)), (2, .int z2), (3, .int z3), (4, .int x4), (5, .int x5)]) (fun _ => rfl) (fun v4 ls hf hl => ?_)
  refine lv_aload_n hM.1 hM.2.1 dX8_toldOtherwise_24 rfl (lv_at hl 2 rfl) ?_
  refine gf_X9_dutyRows hM hw (okX9.o ho1) fl_X8_58 dX8_toldOtherwise_25 ?_
  refine lv_iload hM.1 hM.2.1 dX8_toldOtherwise_28 (lv_at hl 6 rfl) ?_
  refine x_aaldI hM hw (okX9.dutyRows ho1) hf dX8_toldOtherwise_30 (fun hi5 hf => ?_)
  refine lv_iconst (v := 1) hM.1 hM.2.1 dX8_toldOtherwise_31 ic_1 ?_
  refine x_ialdK hM hw (okX9.dutyRows_atI ho1 hi5) 1 (by decide) (by decide) dX8_toldOtherwise_32 ?_
  refine lv_aload_n hM.1 hM.2.1 dX8_toldOtherwise_33 rfl (lv_at hl 1 rfl) ?_
  refine gf_X8_today hM hw (okX8.o ho) fl_X8_9 dX8_toldOtherwise_34 ?_
  refine x_ic_ne (tgt := 65) hM hf dX8_toldOtherwise_37 (by decide) (fun hf => ?_) (fun hf => ?_)
  · refine x_iinc (k := 6) (d := 1) hM hf dX8_toldOtherwise_65 hl rfl (by decide) (by decide) (fun v6 => [(5, .int v6), (6, .int v4), (0, .ref (ad p)), (1, .ref (ad q1)), (2, .int z2), (3, .int z3), (4, .int x4)]) (fun _ => rfl) (fun v6 ls hf hl => ?_)
    refine lv_goto (tgt := 6) hM.1 hM.2.1 dX8_toldOtherwise_68 (by decide) ?_
    exact hrec _ _ _ _ _ hf hw (lv_sub hl [2, 3, 4, 5, 6, 0] rfl)
  refine lv_iload hM.1 hM.2.1 dX8_toldOtherwise_40 (lv_at hl 0 rfl) ?_
  refine lv_iload_n hM.1 hM.2.1 dX8_toldOtherwise_42 rfl (lv_at hl 4 rfl) ?_
  refine x_callSIr (rest := []) hM hw (ct_X8_differ l v4 z3) [.int v4, .int z3] rfl (gi_S ml_X8_77 sm_X8_differ in_X8 kc_X8_differ) hd_X8_differ rfl ⟨Nat.le_of_ble_eq_true rfl, Nat.le_of_ble_eq_true rfl⟩ rfl (Nat.le_of_ble_eq_true rfl) hl.1 hcs0 hf dX8_toldOtherwise_43 (fun r7 H locs hf hw => ?_)
  refine x_if_eq (tgt := 65) hM hf dX8_toldOtherwise_46 (by decide) (fun hf => ?_) (fun hf => ?_)
  · refine x_iinc (k := 6) (d := 1) hM hf dX8_toldOtherwise_65 hl rfl (by decide) (by decide) (fun v8 => [(5, .int v8), (6, .int v4), (0, .ref (ad p)), (1, .ref (ad q1)), (2, .int z2), (3, .int z3), (4, .int x4)]) (fun _ => rfl) (fun v8 ls hf hl => ?_)
    refine lv_goto (tgt := 6) hM.1 hM.2.1 dX8_toldOtherwise_68 (by decide) ?_
    exact hrec _ _ _ _ _ hf hw (lv_sub hl [2, 3, 4, 5, 6, 0] rfl)
  refine lv_iload hM.1 hM.2.1 dX8_toldOtherwise_49 (lv_at hl 5 rfl) ?_
  refine lv_iconst (v := 1) hM.1 hM.2.1 dX8_toldOtherwise_51 ic_1 ?_
  refine lv_aload_n hM.1 hM.2.1 dX8_toldOtherwise_52 rfl (lv_at hl 2 rfl) ?_
  refine gf_X9_dutyRows hM hw (okX9.o ho1) fl_X8_58 dX8_toldOtherwise_53 ?_
  refine lv_iload hM.1 hM.2.1 dX8_toldOtherwise_56 (lv_at hl 6 rfl) ?_
  refine x_aaldI hM hw (okX9.dutyRows ho1) hf dX8_toldOtherwise_58 (fun hi9 hf => ?_)
  refine lv_iconst (v := 0) hM.1 hM.2.1 dX8_toldOtherwise_59 ic_0 ?_
  refine x_ialdK hM hw (okX9.dutyRows_atI ho1 hi9) 0 (by decide) (by decide) dX8_toldOtherwise_60 ?_
  refine lv_ishl hM.1 hM.2.1 dX8_toldOtherwise_61 ?_
  refine lv_ior hM.1 hM.2.1 dX8_toldOtherwise_62 ?_
  refine x_istore hM hf dX8_toldOtherwise_63 hl (by decide) (fun v10 => [(4, .int v10), (6, .int v4), (0, .ref (ad p)), (1, .ref (ad q1)), (2, .int z2), (3, .int z3), (5, .int x5)]) (fun _ => rfl) (fun v10 ls hf hl => ?_)
  refine x_iinc (k := 6) (d := 1) hM hf dX8_toldOtherwise_65 hl rfl (by decide) (by decide) (fun v11 => [(5, .int v11), (4, .int v10), (6, .int v4), (0, .ref (ad p)), (1, .ref (ad q1)), (2, .int z2), (3, .int z3)]) (fun _ => rfl) (fun v11 ls hf hl => ?_)
  refine lv_goto (tgt := 6) hM.1 hM.2.1 dX8_toldOtherwise_68 (by decide) ?_
  exact hrec _ _ _ _ _ hf hw (lv_sub hl [3, 4, 5, 6, 1, 0] rfl)
set_option maxHeartbeats 4000000 in
set_option maxRecDepth 100000 in
theorem w_X8_toldOtherwise_L6 {p0 : Program} {l : Launch} {e : Env} {s : State} {m : MethodId} {args : Array Value} {below : List Frame} {meth : Method} {c : Code} {Q : State → Prop} {D : va_G} {G : GG} {A : Nat → Prop} {H0 : Heap} {ad : Nat → Nat} {lay : List KK} {X : va_W} {ρ : Type} {p : Nat} {q1 : Nat} {r0 : ρ} {z2 : Int32} {z3 : Int32} {h : PH} {K1 : Int32 → Option ρ} (hM : CallFix p0 m c cX8_toldOtherwise 7 s args lw_g RX8) (ho : okX8 lay p) (ho1 : okX9 lay q1) (hk1 : ∀ (x4 : Int32), ∀ (H : Heap) (locs : List Loc) (ls : Array Slot), K1 x4 = some r0 → Wd D G A H0 ad lay X h s H locs → lv_has ls 7 [(1, .ref (ad q1)), (2, .int z2), (4, .int x4)] → W p0 l e (rmN 1 24) s m args below meth c H locs 0 0 Q (F0 m 71 ls [])) (n : Nat) (x4 : Int32) (x5 : Int32) (hf : lq2 (c_X8_toldOtherwise_L6b p q1 z2 z3 h K1) n x4 x5 = some r0) : ∀ (H : Heap) (locs : List Loc) (ls : Array Slot), Wd D G A H0 ad lay X h s H locs → lv_has ls 7 [(0, .ref (ad p)), (1, .ref (ad q1)), (2, .int z2), (3, .int z3), (4, .int x4), (5, .int x5)] → W p0 l e (rmN 1 24) s m args below meth c H locs 0 0 Q (F0 m 6 ls []) := by
  exact lq2_i (fun (x4 : Int32) (x5 : Int32) => ∀ (H : Heap) (locs : List Loc) (ls : Array Slot), Wd D G A H0 ad lay X h s H locs → lv_has ls 7 [(0, .ref (ad p)), (1, .ref (ad q1)), (2, .int z2), (3, .int z3), (4, .int x4), (5, .int x5)] → W p0 l e (rmN 1 24) s m args below meth c H locs 0 0 Q (F0 m 6 ls [])) (fun REC x4 x5 ih hf H locs ls hw hl => w_X8_toldOtherwise_L6b hM ho ho1 hk1 (fun x4 x5 H locs ls hf hw hl => ih x4 x5 hf H locs ls hw hl) hw hl hf) n x4 x5 hf
def c_X8_toldOtherwise (p : Nat) (q1 : Nat) (a2 : Int32) (a3 : Int32) (h : PH) : Option (Int32) :=
  nm (0 : Int32) fun v1 =>
  nm (0 : Int32) fun v2 =>
  lq2 (c_X8_toldOtherwise_L6b p q1 a2 a3 h
    (fun w12 =>
      (c_X9_isMan q1 a2 h).bind fun r13 =>
      if r13 = 0 then
        some 0
      else
        gd (ixOK a2 5) <|
        (c_J6_bitCount_0f7a4 (w12 &&& (h.1 (q1 + 7 + 1 + a2.toNatClampNeg) 2))).bind fun r15 =>
        some r15)) fu v1 v2
set_option maxHeartbeats 4000000 in
set_option maxRecDepth 100000 in
theorem ct_X8_toldOtherwise (l : Launch) {lay : List KK} {p : Nat} {q1 : Nat} (ho : okX8 lay p) (ho1 : okX9 lay q1) (a2 : Int32) (a3 : Int32) : CtI l yX8_toldOtherwise cX8_toldOtherwise 7 (some .int) 1 24 lay (rd (fun h => c_X8_toldOtherwise p q1 a2 a3 h)) (fun ad => [.ref (ad p), .ref (ad q1), .int a2, .int a3]) := by
  refine CtI.mk' RX8 (by decide) rfl (fun _ => Nat.le_of_ble_eq_true rfl) ?_
  intro p0 e s m args below meth c D G A H0 ad X h r0 H ls Q hM hw hl hf hR
  have hl : lv_has ls 7 [(0, .ref (ad p)), (1, .ref (ad q1)), (2, .int a2), (3, .int a3)] := hl
  obtain ⟨v0, hv0, hr0⟩ : ∃ v0, c_X8_toldOtherwise p q1 a2 a3 h = some v0 ∧ r0 = (v0, h) := rd_some hf
  subst hr0
  have hf := hv0
  unfold c_X8_toldOtherwise at hf
  refine lv_iconst (v := 0) hM.1 hM.2.1 dX8_toldOtherwise_0 ic_0 ?_
  refine x_istore hM hf dX8_toldOtherwise_1 hl (by decide) (fun v1 => [(4, .int v1), (0, .ref (ad p)), (1, .ref (ad q1)), (2, .int a2), (3, .int a3)]) (fun _ => rfl) (fun v1 ls hf hl => ?_)
  refine lv_iconst (v := 0) hM.1 hM.2.1 dX8_toldOtherwise_3 ic_0 ?_
  refine x_istore hM hf dX8_toldOtherwise_4 hl (by decide) (fun v2 => [(5, .int v2), (4, .int v1), (0, .ref (ad p)), (1, .ref (ad q1)), (2, .int a2), (3, .int a3)]) (fun _ => rfl) (fun v2 ls hf hl => ?_)
  refine w_X8_toldOtherwise_L6 hM ho ho1 (fun w12 H locs ls hf hw hl => ?_) fu _ _ hf _ _ _ hw (lv_sub hl [2, 3, 4, 5, 1, 0] rfl)
  refine lv_aload_n hM.1 hM.2.1 dX8_toldOtherwise_71 rfl (lv_at hl 0 rfl) ?_
  refine lv_iload_n hM.1 hM.2.1 dX8_toldOtherwise_72 rfl (lv_at hl 1 rfl) ?_
  refine x_callVIr (rest := []) hM hw (ct_X9_isMan l ho1 a2) [.int a2] (okX9.o ho1) rfl rfl rfl (gi_V ml_X8_43 im_X9_isMan sl_X9_isMan in_X9 kc_X9_isMan) hd_X9_isMan rfl ⟨Nat.le_of_ble_eq_true rfl, Nat.le_of_ble_eq_true rfl⟩ rfl (Nat.le_of_ble_eq_true rfl) hl.1 hcs0 hf dX8_toldOtherwise_73 (fun r13 H locs hf hw => ?_)
  refine x_if_eq (tgt := 96) hM hf dX8_toldOtherwise_76 (by decide) (fun hf => ?_) (fun hf => ?_)
  · refine lv_iconst (v := 0) hM.1 hM.2.1 dX8_toldOtherwise_96 ic_0 ?_
    exact hR _ _ _ _ _ _ _ (congrArg (fun z => (z, _)) (Option.some.inj hf)) rfl rfl hw dX8_toldOtherwise_97
  refine lv_iload hM.1 hM.2.1 dX8_toldOtherwise_79 (lv_at hl 2 rfl) ?_
  refine lv_aload_n hM.1 hM.2.1 dX8_toldOtherwise_81 rfl (lv_at hl 0 rfl) ?_
  refine gf_X9_manRows hM hw (okX9.o ho1) fl_X8_47 dX8_toldOtherwise_82 ?_
  refine lv_iload_n hM.1 hM.2.1 dX8_toldOtherwise_85 rfl (lv_at hl 1 rfl) ?_
  refine x_aaldI hM hw (okX9.manRows ho1) hf dX8_toldOtherwise_86 (fun hi14 hf => ?_)
  refine lv_iconst (v := 2) hM.1 hM.2.1 dX8_toldOtherwise_87 ic_2 ?_
  refine x_ialdK hM hw (okX9.manRows_atI ho1 hi14) 2 (by decide) (by decide) dX8_toldOtherwise_88 ?_
  refine lv_iand hM.1 hM.2.1 dX8_toldOtherwise_89 ?_
  refine x_callSIr (rest := []) hM hw (ct_J6_bitCount_0f7a4 l (w12 &&& (h.1 (q1 + 7 + 1 + a2.toNatClampNeg) 2))) [.int (w12 &&& (h.1 (q1 + 7 + 1 + a2.toNatClampNeg) 2))] rfl (gi_S ml_X8_81 sm_J6_bitCount_0f7a4 in_J6 kc_J6_bitCount_0f7a4) hd_J6_bitCount_0f7a4 rfl ⟨Nat.le_of_ble_eq_true rfl, Nat.le_of_ble_eq_true rfl⟩ rfl (Nat.le_of_ble_eq_true rfl) hl.1 hcs0 hf dX8_toldOtherwise_90 (fun r15 H locs hf hw => ?_)
  refine lv_goto (tgt := 97) hM.1 hM.2.1 dX8_toldOtherwise_93 (by decide) ?_
  exact hR _ _ _ _ _ _ _ (congrArg (fun z => (z, _)) (Option.some.inj hf)) rfl rfl hw dX8_toldOtherwise_97
theorem hd_X8_toldOtherwise : yX8_toldOtherwise.cls = RX8 ∧ yX8_toldOtherwise.cls ≠ "java/lang/invoke/MethodHandle" ∧ yX8_toldOtherwise.cls ≠ "java/lang/invoke/VarHandle" ∧ (parseMethodDescriptor yX8_toldOtherwise.desc).map (fun d => d.parameters.length) = some 3 := ⟨rfl, by decide, by decide, by decide +kernel⟩
theorem dX8_toldTwoThings_0 : decode cX8_toldTwoThings 0 = .ok (.iconst 0, 1) := by decide +kernel
theorem dX8_toldTwoThings_1 : decode cX8_toldTwoThings 1 = .ok (.istore 4, 2) := by decide +kernel
theorem dX8_toldTwoThings_3 : decode cX8_toldTwoThings 3 = .ok (.iload 4, 2) := by decide +kernel
theorem dX8_toldTwoThings_5 : decode cX8_toldTwoThings 5 = .ok (.aload_n 1, 1) := by decide +kernel
theorem dX8_toldTwoThings_6 : decode cX8_toldTwoThings 6 = .ok (.getfield 55, 3) := by decide +kernel
theorem dX8_toldTwoThings_9 : decode cX8_toldTwoThings 9 = .ok (.if_icmp .ge 120, 3) := by decide +kernel
theorem dX8_toldTwoThings_12 : decode cX8_toldTwoThings 12 = .ok (.iconst 0, 1) := by decide +kernel
theorem dX8_toldTwoThings_13 : decode cX8_toldTwoThings 13 = .ok (.istore 5, 2) := by decide +kernel
theorem dX8_toldTwoThings_15 : decode cX8_toldTwoThings 15 = .ok (.iload 5, 2) := by decide +kernel
theorem dX8_toldTwoThings_17 : decode cX8_toldTwoThings 17 = .ok (.aload_n 1, 1) := by decide +kernel
theorem dX8_toldTwoThings_18 : decode cX8_toldTwoThings 18 = .ok (.getfield 55, 3) := by decide +kernel
theorem dX8_toldTwoThings_21 : decode cX8_toldTwoThings 21 = .ok (.if_icmp .ge 102, 3) := by decide +kernel
theorem dX8_toldTwoThings_24 : decode cX8_toldTwoThings 24 = .ok (.aload_n 1, 1) := by decide +kernel
theorem dX8_toldTwoThings_25 : decode cX8_toldTwoThings 25 = .ok (.getfield 58, 3) := by decide +kernel
theorem dX8_toldTwoThings_28 : decode cX8_toldTwoThings 28 = .ok (.iload 4, 2) := by decide +kernel
theorem dX8_toldTwoThings_30 : decode cX8_toldTwoThings 30 = .ok (.aaload, 1) := by decide +kernel
theorem dX8_toldTwoThings_31 : decode cX8_toldTwoThings 31 = .ok (.iconst 0, 1) := by decide +kernel
theorem dX8_toldTwoThings_32 : decode cX8_toldTwoThings 32 = .ok (.iaload, 1) := by decide +kernel
theorem dX8_toldTwoThings_33 : decode cX8_toldTwoThings 33 = .ok (.iload_n 2, 1) := by decide +kernel
theorem dX8_toldTwoThings_34 : decode cX8_toldTwoThings 34 = .ok (.if_icmp .ne 20, 3) := by decide +kernel
theorem dX8_toldTwoThings_37 : decode cX8_toldTwoThings 37 = .ok (.aload_n 1, 1) := by decide +kernel
theorem dX8_toldTwoThings_38 : decode cX8_toldTwoThings 38 = .ok (.getfield 58, 3) := by decide +kernel
theorem dX8_toldTwoThings_41 : decode cX8_toldTwoThings 41 = .ok (.iload 5, 2) := by decide +kernel
theorem dX8_toldTwoThings_43 : decode cX8_toldTwoThings 43 = .ok (.aaload, 1) := by decide +kernel
theorem dX8_toldTwoThings_44 : decode cX8_toldTwoThings 44 = .ok (.iconst 0, 1) := by decide +kernel
theorem dX8_toldTwoThings_45 : decode cX8_toldTwoThings 45 = .ok (.iaload, 1) := by decide +kernel
theorem dX8_toldTwoThings_46 : decode cX8_toldTwoThings 46 = .ok (.iload_n 3, 1) := by decide +kernel
theorem dX8_toldTwoThings_47 : decode cX8_toldTwoThings 47 = .ok (.if_icmp .ne 7, 3) := by decide +kernel
theorem dX8_toldTwoThings_50 : decode cX8_toldTwoThings 50 = .ok (.iconst 1, 1) := by decide +kernel
theorem dX8_toldTwoThings_51 : decode cX8_toldTwoThings 51 = .ok (.goto 4, 3) := by decide +kernel
theorem dX8_toldTwoThings_54 : decode cX8_toldTwoThings 54 = .ok (.iconst 0, 1) := by decide +kernel
theorem dX8_toldTwoThings_55 : decode cX8_toldTwoThings 55 = .ok (.istore 6, 2) := by decide +kernel
theorem dX8_toldTwoThings_57 : decode cX8_toldTwoThings 57 = .ok (.aload_n 1, 1) := by decide +kernel
theorem dX8_toldTwoThings_58 : decode cX8_toldTwoThings 58 = .ok (.getfield 58, 3) := by decide +kernel
theorem dX8_toldTwoThings_61 : decode cX8_toldTwoThings 61 = .ok (.iload 4, 2) := by decide +kernel
theorem dX8_toldTwoThings_63 : decode cX8_toldTwoThings 63 = .ok (.aaload, 1) := by decide +kernel
theorem dX8_toldTwoThings_64 : decode cX8_toldTwoThings 64 = .ok (.iconst 1, 1) := by decide +kernel
theorem dX8_toldTwoThings_65 : decode cX8_toldTwoThings 65 = .ok (.iaload, 1) := by decide +kernel
theorem dX8_toldTwoThings_66 : decode cX8_toldTwoThings 66 = .ok (.aload_n 1, 1) := by decide +kernel
theorem dX8_toldTwoThings_67 : decode cX8_toldTwoThings 67 = .ok (.getfield 58, 3) := by decide +kernel
theorem dX8_toldTwoThings_70 : decode cX8_toldTwoThings 70 = .ok (.iload 5, 2) := by decide +kernel
theorem dX8_toldTwoThings_72 : decode cX8_toldTwoThings 72 = .ok (.aaload, 1) := by decide +kernel
theorem dX8_toldTwoThings_73 : decode cX8_toldTwoThings 73 = .ok (.iconst 1, 1) := by decide +kernel
theorem dX8_toldTwoThings_74 : decode cX8_toldTwoThings 74 = .ok (.iaload, 1) := by decide +kernel
theorem dX8_toldTwoThings_75 : decode cX8_toldTwoThings 75 = .ok (.if_icmp .ne 7, 3) := by decide +kernel
theorem dX8_toldTwoThings_78 : decode cX8_toldTwoThings 78 = .ok (.iconst 1, 1) := by decide +kernel
theorem dX8_toldTwoThings_79 : decode cX8_toldTwoThings 79 = .ok (.goto 4, 3) := by decide +kernel
theorem dX8_toldTwoThings_82 : decode cX8_toldTwoThings 82 = .ok (.iconst 0, 1) := by decide +kernel
theorem dX8_toldTwoThings_83 : decode cX8_toldTwoThings 83 = .ok (.istore 7, 2) := by decide +kernel
theorem dX8_toldTwoThings_85 : decode cX8_toldTwoThings 85 = .ok (.iload 6, 2) := by decide +kernel
theorem dX8_toldTwoThings_87 : decode cX8_toldTwoThings 87 = .ok (.ifCond .eq 30, 3) := by decide +kernel
theorem dX8_toldTwoThings_90 : decode cX8_toldTwoThings 90 = .ok (.iload 7, 2) := by decide +kernel
theorem dX8_toldTwoThings_92 : decode cX8_toldTwoThings 92 = .ok (.ifCond .eq 25, 3) := by decide +kernel
theorem dX8_toldTwoThings_95 : decode cX8_toldTwoThings 95 = .ok (.aload_n 0, 1) := by decide +kernel
theorem dX8_toldTwoThings_96 : decode cX8_toldTwoThings 96 = .ok (.aload_n 1, 1) := by decide +kernel
theorem dX8_toldTwoThings_97 : decode cX8_toldTwoThings 97 = .ok (.iload 4, 2) := by decide +kernel
theorem dX8_toldTwoThings_99 : decode cX8_toldTwoThings 99 = .ok (.invokevirtual 73, 3) := by decide +kernel
theorem dX8_toldTwoThings_102 : decode cX8_toldTwoThings 102 = .ok (.aload_n 0, 1) := by decide +kernel
theorem dX8_toldTwoThings_103 : decode cX8_toldTwoThings 103 = .ok (.aload_n 1, 1) := by decide +kernel
theorem dX8_toldTwoThings_104 : decode cX8_toldTwoThings 104 = .ok (.iload 5, 2) := by decide +kernel
theorem dX8_toldTwoThings_106 : decode cX8_toldTwoThings 106 = .ok (.invokevirtual 73, 3) := by decide +kernel
theorem dX8_toldTwoThings_109 : decode cX8_toldTwoThings 109 = .ok (.invokestatic 77, 3) := by decide +kernel
theorem dX8_toldTwoThings_112 : decode cX8_toldTwoThings 112 = .ok (.ifCond .eq 5, 3) := by decide +kernel
theorem dX8_toldTwoThings_115 : decode cX8_toldTwoThings 115 = .ok (.iconst 1, 1) := by decide +kernel
theorem dX8_toldTwoThings_116 : decode cX8_toldTwoThings 116 = .ok (.ireturn, 1) := by decide +kernel
theorem dX8_toldTwoThings_117 : decode cX8_toldTwoThings 117 = .ok (.iinc 5 1, 3) := by decide +kernel
theorem dX8_toldTwoThings_120 : decode cX8_toldTwoThings 120 = .ok (.goto (-105), 3) := by decide +kernel
theorem dX8_toldTwoThings_123 : decode cX8_toldTwoThings 123 = .ok (.iinc 4 1, 3) := by decide +kernel
theorem dX8_toldTwoThings_126 : decode cX8_toldTwoThings 126 = .ok (.goto (-123), 3) := by decide +kernel
theorem dX8_toldTwoThings_129 : decode cX8_toldTwoThings 129 = .ok (.iconst 0, 1) := by decide +kernel
theorem dX8_toldTwoThings_130 : decode cX8_toldTwoThings 130 = .ok (.ireturn, 1) := by decide +kernel
def c_X8_toldTwoThings_j83 {ρ : Type}  (p : Nat) (q1 : Nat) (z2 : Int32) (z3 : Int32) (z4 : Int32) (K1 : Option ρ) (K2 : Option ρ) (REC : Int32 → Option ρ) (x5 : Int32) (x6 : Int32) (y0 : Int32) (h : PH) : Option (ρ) :=
  nm y0 fun v7 =>
  if x6 = 0 then
    nm (x5 + 1) fun v8 =>
    REC v8
  else
    if v7 = 0 then
      nm (x5 + 1) fun v9 =>
      REC v9
    else
      (c_X8_kindTold p q1 z4 h).bind fun r10 =>
      (c_X8_kindTold p q1 x5 h).bind fun r11 =>
      (c_X8_differ r10 r11).bind fun r12 =>
      if r12 = 0 then
        nm (x5 + 1) fun v13 =>
        REC v13
      else
        K1
set_option maxHeartbeats 4000000 in
set_option maxRecDepth 100000 in
theorem w_X8_toldTwoThings_j83 {p0 : Program} {l : Launch} {e : Env} {s : State} {m : MethodId} {args : Array Value} {below : List Frame} {meth : Method} {c : Code} {Q : State → Prop} {D : va_G} {G : GG} {A : Nat → Prop} {H0 : Heap} {ad : Nat → Nat} {lay : List KK} {X : va_W} {ρ : Type} {p : Nat} {q1 : Nat} {r0 : ρ} {x5 : Int32} {x6 : Int32} {z2 : Int32} {z3 : Int32} {z4 : Int32} {y0 : Int32} {h : PH} {H : Heap} {locs : List Loc} {ls : Array Slot} {K1 : Option ρ} {K2 : Option ρ} {REC : Int32 → Option ρ} (hM : CallFix p0 m c cX8_toldTwoThings 8 s args lw_g RX8) (ho : okX8 lay p) (ho1 : okX9 lay q1) (hk1 : ∀ (H : Heap) (locs : List Loc) (ls : Array Slot), K1 = some r0 → Wd D G A H0 ad lay X h s H locs → lv_has ls 8 [] → W p0 l e (rmN 1 24) s m args below meth c H locs 0 0 Q (F0 m 115 ls [])) (hk2 : ∀ (H : Heap) (locs : List Loc) (ls : Array Slot), K2 = some r0 → Wd D G A H0 ad lay X h s H locs → lv_has ls 8 [(0, .ref (ad p)), (1, .ref (ad q1)), (2, .int z2), (3, .int z3), (4, .int z4)] → W p0 l e (rmN 1 24) s m args below meth c H locs 0 0 Q (F0 m 123 ls [])) (hrec : ∀ (x5 : Int32), ∀ (H : Heap) (locs : List Loc) (ls : Array Slot), REC x5 = some r0 → Wd D G A H0 ad lay X h s H locs → lv_has ls 8 [(0, .ref (ad p)), (1, .ref (ad q1)), (2, .int z2), (3, .int z3), (4, .int z4), (5, .int x5)] → W p0 l e (rmN 1 24) s m args below meth c H locs 0 0 Q (F0 m 15 ls [])) (hw : Wd D G A H0 ad lay X h s H locs) (hl : lv_has ls 8 [(0, .ref (ad p)), (1, .ref (ad q1)), (2, .int z2), (3, .int z3), (4, .int z4), (5, .int x5), (6, .int x6)]) (hf : c_X8_toldTwoThings_j83 p q1 z2 z3 z4 K1 K2 REC x5 x6 y0 h = some r0) : W p0 l e (rmN 1 24) s m args below meth c H locs 0 0 Q (F0 m 83 ls [.int y0]) := by
  unfold c_X8_toldTwoThings_j83 at hf
  refine x_istore hM hf dX8_toldTwoThings_83 hl (by decide) (fun v7 => [(7, .int v7), (0, .ref (ad p)), (1, .ref (ad q1)), (2, .int z2), (3, .int z3), (4, .int z4), (5, .int x5), (6, .int x6)]) (fun _ => rfl) (fun v7 ls hf hl => ?_)
  refine lv_iload hM.1 hM.2.1 dX8_toldTwoThings_85 (lv_at hl 7 rfl) ?_
  refine x_if_eq (tgt := 117) hM hf dX8_toldTwoThings_87 (by decide) (fun hf => ?_) (fun hf => ?_)
  · refine x_iinc (k := 6) (d := 1) hM hf dX8_toldTwoThings_117 hl rfl (by decide) (by decide) (fun v8 => [(5, .int v8), (7, .int v7), (0, .ref (ad p)), (1, .ref (ad q1)), (2, .int z2), (3, .int z3), (4, .int z4), (6, .int x6)]) (fun _ => rfl) (fun v8 ls hf hl => ?_)
    refine lv_goto (tgt := 15) hM.1 hM.2.1 dX8_toldTwoThings_120 (by decide) ?_
    exact hrec _ _ _ _ hf hw (lv_sub hl [2, 3, 4, 5, 6, 0] rfl)
  refine lv_iload hM.1 hM.2.1 dX8_toldTwoThings_90 (lv_at hl 0 rfl) ?_
  refine x_if_eq (tgt := 117) hM hf dX8_toldTwoThings_92 (by decide) (fun hf => ?_) (fun hf => ?_)
  · refine x_iinc (k := 6) (d := 1) hM hf dX8_toldTwoThings_117 hl rfl (by decide) (by decide) (fun v9 => [(5, .int v9), (7, .int v7), (0, .ref (ad p)), (1, .ref (ad q1)), (2, .int z2), (3, .int z3), (4, .int z4), (6, .int x6)]) (fun _ => rfl) (fun v9 ls hf hl => ?_)
    refine lv_goto (tgt := 15) hM.1 hM.2.1 dX8_toldTwoThings_120 (by decide) ?_
    exact hrec _ _ _ _ hf hw (lv_sub hl [2, 3, 4, 5, 6, 0] rfl)
  refine lv_aload_n hM.1 hM.2.1 dX8_toldTwoThings_95 rfl (lv_at hl 1 rfl) ?_
  refine lv_aload_n hM.1 hM.2.1 dX8_toldTwoThings_96 rfl (lv_at hl 2 rfl) ?_
  refine lv_iload hM.1 hM.2.1 dX8_toldTwoThings_97 (lv_at hl 5 rfl) ?_
  refine x_callVIr (rest := []) hM hw (ct_X8_kindTold l ho ho1 z4) [.ref (ad q1), .int z4] (okX8.o ho) rfl rfl rfl (gi_V ml_X8_73 im_X8_kindTold sl_X8_kindTold in_X8 kc_X8_kindTold) hd_X8_kindTold rfl ⟨Nat.le_of_ble_eq_true rfl, Nat.le_of_ble_eq_true rfl⟩ rfl (Nat.le_of_ble_eq_true rfl) hl.1 hcs0 hf dX8_toldTwoThings_99 (fun r10 H locs hf hw => ?_)
  refine lv_aload_n hM.1 hM.2.1 dX8_toldTwoThings_102 rfl (lv_at hl 1 rfl) ?_
  refine lv_aload_n hM.1 hM.2.1 dX8_toldTwoThings_103 rfl (lv_at hl 2 rfl) ?_
  refine lv_iload hM.1 hM.2.1 dX8_toldTwoThings_104 (lv_at hl 6 rfl) ?_
  refine x_callVIr (rest := [.int r10]) hM hw (ct_X8_kindTold l ho ho1 x5) [.ref (ad q1), .int x5] (okX8.o ho) rfl rfl rfl (gi_V ml_X8_73 im_X8_kindTold sl_X8_kindTold in_X8 kc_X8_kindTold) hd_X8_kindTold rfl ⟨Nat.le_of_ble_eq_true rfl, Nat.le_of_ble_eq_true rfl⟩ rfl (Nat.le_of_ble_eq_true rfl) hl.1 hcs0 hf dX8_toldTwoThings_106 (fun r11 H locs hf hw => ?_)
  refine x_callSIr (rest := []) hM hw (ct_X8_differ l r10 r11) [.int r10, .int r11] rfl (gi_S ml_X8_77 sm_X8_differ in_X8 kc_X8_differ) hd_X8_differ rfl ⟨Nat.le_of_ble_eq_true rfl, Nat.le_of_ble_eq_true rfl⟩ rfl (Nat.le_of_ble_eq_true rfl) hl.1 hcs0 hf dX8_toldTwoThings_109 (fun r12 H locs hf hw => ?_)
  refine x_if_eq (tgt := 117) hM hf dX8_toldTwoThings_112 (by decide) (fun hf => ?_) (fun hf => ?_)
  · refine x_iinc (k := 6) (d := 1) hM hf dX8_toldTwoThings_117 hl rfl (by decide) (by decide) (fun v13 => [(5, .int v13), (7, .int v7), (0, .ref (ad p)), (1, .ref (ad q1)), (2, .int z2), (3, .int z3), (4, .int z4), (6, .int x6)]) (fun _ => rfl) (fun v13 ls hf hl => ?_)
    refine lv_goto (tgt := 15) hM.1 hM.2.1 dX8_toldTwoThings_120 (by decide) ?_
    exact hrec _ _ _ _ hf hw (lv_sub hl [2, 3, 4, 5, 6, 0] rfl)
  exact hk1 _ _ _ hf hw (lv_sub hl [] rfl)
def c_X8_toldTwoThings_j55 {ρ : Type}  (p : Nat) (q1 : Nat) (z2 : Int32) (z3 : Int32) (z4 : Int32) (K1 : Option ρ) (K2 : Option ρ) (REC : Int32 → Option ρ) (x5 : Int32) (y0 : Int32) (h : PH) : Option (ρ) :=
  nm y0 fun v4 =>
  gd (ixOK z4 9) <|
  gd (ixOK x5 9) <|
  if (h.1 (q1 + 21 + 1 + z4.toNatClampNeg) 1) = (h.1 (q1 + 21 + 1 + x5.toNatClampNeg) 1) then
    c_X8_toldTwoThings_j83 p q1 z2 z3 z4 K1 K2 REC x5 v4 1 h
  else
    c_X8_toldTwoThings_j83 p q1 z2 z3 z4 K1 K2 REC x5 v4 0 h
set_option maxHeartbeats 4000000 in
set_option maxRecDepth 100000 in
theorem w_X8_toldTwoThings_j55 {p0 : Program} {l : Launch} {e : Env} {s : State} {m : MethodId} {args : Array Value} {below : List Frame} {meth : Method} {c : Code} {Q : State → Prop} {D : va_G} {G : GG} {A : Nat → Prop} {H0 : Heap} {ad : Nat → Nat} {lay : List KK} {X : va_W} {ρ : Type} {p : Nat} {q1 : Nat} {r0 : ρ} {x5 : Int32} {z2 : Int32} {z3 : Int32} {z4 : Int32} {y0 : Int32} {h : PH} {H : Heap} {locs : List Loc} {ls : Array Slot} {K1 : Option ρ} {K2 : Option ρ} {REC : Int32 → Option ρ} (hM : CallFix p0 m c cX8_toldTwoThings 8 s args lw_g RX8) (ho : okX8 lay p) (ho1 : okX9 lay q1) (hk1 : ∀ (H : Heap) (locs : List Loc) (ls : Array Slot), K1 = some r0 → Wd D G A H0 ad lay X h s H locs → lv_has ls 8 [] → W p0 l e (rmN 1 24) s m args below meth c H locs 0 0 Q (F0 m 115 ls [])) (hk2 : ∀ (H : Heap) (locs : List Loc) (ls : Array Slot), K2 = some r0 → Wd D G A H0 ad lay X h s H locs → lv_has ls 8 [(0, .ref (ad p)), (1, .ref (ad q1)), (2, .int z2), (3, .int z3), (4, .int z4)] → W p0 l e (rmN 1 24) s m args below meth c H locs 0 0 Q (F0 m 123 ls [])) (hrec : ∀ (x5 : Int32), ∀ (H : Heap) (locs : List Loc) (ls : Array Slot), REC x5 = some r0 → Wd D G A H0 ad lay X h s H locs → lv_has ls 8 [(0, .ref (ad p)), (1, .ref (ad q1)), (2, .int z2), (3, .int z3), (4, .int z4), (5, .int x5)] → W p0 l e (rmN 1 24) s m args below meth c H locs 0 0 Q (F0 m 15 ls [])) (hw : Wd D G A H0 ad lay X h s H locs) (hl : lv_has ls 8 [(0, .ref (ad p)), (1, .ref (ad q1)), (2, .int z2), (3, .int z3), (4, .int z4), (5, .int x5)]) (hf : c_X8_toldTwoThings_j55 p q1 z2 z3 z4 K1 K2 REC x5 y0 h = some r0) : W p0 l e (rmN 1 24) s m args below meth c H locs 0 0 Q (F0 m 55 ls [.int y0]) := by
  unfold c_X8_toldTwoThings_j55 at hf
  refine x_istore hM hf dX8_toldTwoThings_55 hl (by decide) (fun v4 => [(6, .int v4), (0, .ref (ad p)), (1, .ref (ad q1)), (2, .int z2), (3, .int z3), (4, .int z4), (5, .int x5)]) (fun _ => rfl) (fun v4 ls hf hl => ?_)
  refine lv_aload_n hM.1 hM.2.1 dX8_toldTwoThings_57 rfl (lv_at hl 2 rfl) ?_
  refine gf_X9_dutyRows hM hw (okX9.o ho1) fl_X8_58 dX8_toldTwoThings_58 ?_
  refine lv_iload hM.1 hM.2.1 dX8_toldTwoThings_61 (lv_at hl 5 rfl) ?_
  refine x_aaldI hM hw (okX9.dutyRows ho1) hf dX8_toldTwoThings_63 (fun hi5 hf => ?_)
  refine lv_iconst (v := 1) hM.1 hM.2.1 dX8_toldTwoThings_64 ic_1 ?_
  refine x_ialdK hM hw (okX9.dutyRows_atI ho1 hi5) 1 (by decide) (by decide) dX8_toldTwoThings_65 ?_
  refine lv_aload_n hM.1 hM.2.1 dX8_toldTwoThings_66 rfl (lv_at hl 2 rfl) ?_
  refine gf_X9_dutyRows hM hw (okX9.o ho1) fl_X8_58 dX8_toldTwoThings_67 ?_
  refine lv_iload hM.1 hM.2.1 dX8_toldTwoThings_70 (lv_at hl 6 rfl) ?_
  refine x_aaldI hM hw (okX9.dutyRows ho1) hf dX8_toldTwoThings_72 (fun hi6 hf => ?_)
  refine lv_iconst (v := 1) hM.1 hM.2.1 dX8_toldTwoThings_73 ic_1 ?_
  refine x_ialdK hM hw (okX9.dutyRows_atI ho1 hi6) 1 (by decide) (by decide) dX8_toldTwoThings_74 ?_
  refine x_ic_ne (tgt := 82) hM hf dX8_toldTwoThings_75 (by decide) (fun hf => ?_) (fun hf => ?_)
  · refine lv_iconst (v := 0) hM.1 hM.2.1 dX8_toldTwoThings_82 ic_0 ?_
    exact w_X8_toldTwoThings_j83 hM ho ho1 hk1 hk2 hrec hw (lv_sub hl [1, 2, 3, 4, 5, 6, 0] rfl) hf
  refine lv_iconst (v := 1) hM.1 hM.2.1 dX8_toldTwoThings_78 ic_1 ?_
  refine lv_goto (tgt := 83) hM.1 hM.2.1 dX8_toldTwoThings_79 (by decide) ?_
  exact w_X8_toldTwoThings_j83 hM ho ho1 hk1 hk2 hrec hw (lv_sub hl [1, 2, 3, 4, 5, 6, 0] rfl) hf
def c_X8_toldTwoThings_L15b {ρ : Type}  (p : Nat) (q1 : Nat) (z2 : Int32) (z3 : Int32) (z4 : Int32) (h : PH) (K1 : Option ρ) (K2 : Option ρ) (REC : Int32 → Option ρ) (x5 : Int32) : Option ρ :=
  if (h.1 q1 2) ≤ x5 then
    K2
  else
    gd (ixOK z4 9) <|
    if (h.1 (q1 + 21 + 1 + z4.toNatClampNeg) 0) = z2 then
      gd (ixOK x5 9) <|
      if (h.1 (q1 + 21 + 1 + x5.toNatClampNeg) 0) = z3 then
        c_X8_toldTwoThings_j55 p q1 z2 z3 z4 K1 K2 REC x5 1 h
      else
        c_X8_toldTwoThings_j55 p q1 z2 z3 z4 K1 K2 REC x5 0 h
    else
      c_X8_toldTwoThings_j55 p q1 z2 z3 z4 K1 K2 REC x5 0 h
set_option maxHeartbeats 4000000 in
set_option maxRecDepth 100000 in
theorem w_X8_toldTwoThings_L15b {p0 : Program} {l : Launch} {e : Env} {s : State} {m : MethodId} {args : Array Value} {below : List Frame} {meth : Method} {c : Code} {Q : State → Prop} {D : va_G} {G : GG} {A : Nat → Prop} {H0 : Heap} {ad : Nat → Nat} {lay : List KK} {X : va_W} {ρ : Type} {p : Nat} {q1 : Nat} {r0 : ρ} {z2 : Int32} {z3 : Int32} {z4 : Int32} {x5 : Int32} {h : PH} {H : Heap} {locs : List Loc} {ls : Array Slot} {K1 : Option ρ} {K2 : Option ρ} {REC : Int32 → Option ρ} (hM : CallFix p0 m c cX8_toldTwoThings 8 s args lw_g RX8) (ho : okX8 lay p) (ho1 : okX9 lay q1) (hk1 : ∀ (H : Heap) (locs : List Loc) (ls : Array Slot), K1 = some r0 → Wd D G A H0 ad lay X h s H locs → lv_has ls 8 [] → W p0 l e (rmN 1 24) s m args below meth c H locs 0 0 Q (F0 m 115 ls [])) (hk2 : ∀ (H : Heap) (locs : List Loc) (ls : Array Slot), K2 = some r0 → Wd D G A H0 ad lay X h s H locs → lv_has ls 8 [(0, .ref (ad p)), (1, .ref (ad q1)), (2, .int z2), (3, .int z3), (4, .int z4)] → W p0 l e (rmN 1 24) s m args below meth c H locs 0 0 Q (F0 m 123 ls [])) (hrec : ∀ (x5 : Int32), ∀ (H : Heap) (locs : List Loc) (ls : Array Slot), REC x5 = some r0 → Wd D G A H0 ad lay X h s H locs → lv_has ls 8 [(0, .ref (ad p)), (1, .ref (ad q1)), (2, .int z2), (3, .int z3), (4, .int z4), (5, .int x5)] → W p0 l e (rmN 1 24) s m args below meth c H locs 0 0 Q (F0 m 15 ls [])) (hw : Wd D G A H0 ad lay X h s H locs) (hl : lv_has ls 8 [(0, .ref (ad p)), (1, .ref (ad q1)), (2, .int z2), (3, .int z3), (4, .int z4), (5, .int x5)]) (hf : c_X8_toldTwoThings_L15b p q1 z2 z3 z4 h K1 K2 REC x5 = some r0) : W p0 l e (rmN 1 24) s m args below meth c H locs 0 0 Q (F0 m 15 ls []) := by
  unfold c_X8_toldTwoThings_L15b at hf
  refine lv_iload hM.1 hM.2.1 dX8_toldTwoThings_15 (lv_at hl 5 rfl) ?_
  refine lv_aload_n hM.1 hM.2.1 dX8_toldTwoThings_17 rfl (lv_at hl 1 rfl) ?_
  refine gf_X9_duties hM hw (okX9.o ho1) fl_X8_55 dX8_toldTwoThings_18 ?_
  refine x_ic_ge (tgt := 123) hM hf dX8_toldTwoThings_21 (by decide) (fun hf => ?_) (fun hf => ?_)
  · exact hk2 _ _ _ hf hw (lv_sub hl [0, 1, 2, 3, 4] rfl)
  refine lv_aload_n hM.1 hM.2.1 dX8_toldTwoThings_24 rfl (lv_at hl 1 rfl) ?_
  refine gf_X9_dutyRows hM hw (okX9.o ho1) fl_X8_58 dX8_toldTwoThings_25 ?_
  refine lv_iload hM.1 hM.2.1 dX8_toldTwoThings_28 (lv_at hl 4 rfl) ?_
  refine x_aaldI hM hw (okX9.dutyRows ho1) hf dX8_toldTwoThings_30 (fun hi3 hf => ?_)
  refine lv_iconst (v := 0) hM.1 hM.2.1 dX8_toldTwoThings_31 ic_0 ?_
  refine x_ialdK hM hw (okX9.dutyRows_atI ho1 hi3) 0 (by decide) (by decide) dX8_toldTwoThings_32 ?_
  refine lv_iload_n hM.1 hM.2.1 dX8_toldTwoThings_33 rfl (lv_at hl 2 rfl) ?_
  refine x_ic_ne (tgt := 54) hM hf dX8_toldTwoThings_34 (by decide) (fun hf => ?_) (fun hf => ?_)
  · refine lv_iconst (v := 0) hM.1 hM.2.1 dX8_toldTwoThings_54 ic_0 ?_
    exact w_X8_toldTwoThings_j55 hM ho ho1 hk1 hk2 hrec hw hl hf
  refine lv_aload_n hM.1 hM.2.1 dX8_toldTwoThings_37 rfl (lv_at hl 1 rfl) ?_
  refine gf_X9_dutyRows hM hw (okX9.o ho1) fl_X8_58 dX8_toldTwoThings_38 ?_
  refine lv_iload hM.1 hM.2.1 dX8_toldTwoThings_41 (lv_at hl 5 rfl) ?_
  refine x_aaldI hM hw (okX9.dutyRows ho1) hf dX8_toldTwoThings_43 (fun hi14 hf => ?_)
  refine lv_iconst (v := 0) hM.1 hM.2.1 dX8_toldTwoThings_44 ic_0 ?_
  refine x_ialdK hM hw (okX9.dutyRows_atI ho1 hi14) 0 (by decide) (by decide) dX8_toldTwoThings_45 ?_
  refine lv_iload_n hM.1 hM.2.1 dX8_toldTwoThings_46 rfl (lv_at hl 3 rfl) ?_
  refine x_ic_ne (tgt := 54) hM hf dX8_toldTwoThings_47 (by decide) (fun hf => ?_) (fun hf => ?_)
  · refine lv_iconst (v := 0) hM.1 hM.2.1 dX8_toldTwoThings_54 ic_0 ?_
    exact w_X8_toldTwoThings_j55 hM ho ho1 hk1 hk2 hrec hw hl hf
  refine lv_iconst (v := 1) hM.1 hM.2.1 dX8_toldTwoThings_50 ic_1 ?_
  refine lv_goto (tgt := 55) hM.1 hM.2.1 dX8_toldTwoThings_51 (by decide) ?_
  exact w_X8_toldTwoThings_j55 hM ho ho1 hk1 hk2 hrec hw hl hf
set_option maxHeartbeats 4000000 in
set_option maxRecDepth 100000 in
theorem w_X8_toldTwoThings_L15 {p0 : Program} {l : Launch} {e : Env} {s : State} {m : MethodId} {args : Array Value} {below : List Frame} {meth : Method} {c : Code} {Q : State → Prop} {D : va_G} {G : GG} {A : Nat → Prop} {H0 : Heap} {ad : Nat → Nat} {lay : List KK} {X : va_W} {ρ : Type} {p : Nat} {q1 : Nat} {r0 : ρ} {z2 : Int32} {z3 : Int32} {z4 : Int32} {h : PH} {K1 : Option ρ} {K2 : Option ρ} (hM : CallFix p0 m c cX8_toldTwoThings 8 s args lw_g RX8) (ho : okX8 lay p) (ho1 : okX9 lay q1) (hk1 : ∀ (H : Heap) (locs : List Loc) (ls : Array Slot), K1 = some r0 → Wd D G A H0 ad lay X h s H locs → lv_has ls 8 [] → W p0 l e (rmN 1 24) s m args below meth c H locs 0 0 Q (F0 m 115 ls [])) (hk2 : ∀ (H : Heap) (locs : List Loc) (ls : Array Slot), K2 = some r0 → Wd D G A H0 ad lay X h s H locs → lv_has ls 8 [(0, .ref (ad p)), (1, .ref (ad q1)), (2, .int z2), (3, .int z3), (4, .int z4)] → W p0 l e (rmN 1 24) s m args below meth c H locs 0 0 Q (F0 m 123 ls [])) (n : Nat) (x5 : Int32) (hf : lq1 (c_X8_toldTwoThings_L15b p q1 z2 z3 z4 h K1 K2) n x5 = some r0) : ∀ (H : Heap) (locs : List Loc) (ls : Array Slot), Wd D G A H0 ad lay X h s H locs → lv_has ls 8 [(0, .ref (ad p)), (1, .ref (ad q1)), (2, .int z2), (3, .int z3), (4, .int z4), (5, .int x5)] → W p0 l e (rmN 1 24) s m args below meth c H locs 0 0 Q (F0 m 15 ls []) := by
  exact lq1_i (fun (x5 : Int32) => ∀ (H : Heap) (locs : List Loc) (ls : Array Slot), Wd D G A H0 ad lay X h s H locs → lv_has ls 8 [(0, .ref (ad p)), (1, .ref (ad q1)), (2, .int z2), (3, .int z3), (4, .int z4), (5, .int x5)] → W p0 l e (rmN 1 24) s m args below meth c H locs 0 0 Q (F0 m 15 ls [])) (fun REC x5 ih hf H locs ls hw hl => w_X8_toldTwoThings_L15b hM ho ho1 hk1 hk2 (fun x5 H locs ls hf hw hl => ih x5 hf H locs ls hw hl) hw hl hf) n x5 hf
def c_X8_toldTwoThings_L3b {ρ : Type}  (p : Nat) (q1 : Nat) (z2 : Int32) (z3 : Int32) (h : PH) (K1 : Option ρ) (K2 : Option ρ) (REC : Int32 → Option ρ) (x4 : Int32) : Option ρ :=
  if (h.1 q1 2) ≤ x4 then
    K2
  else
    nm (0 : Int32) fun v2 =>
    lq1 (c_X8_toldTwoThings_L15b p q1 z2 z3 x4 h
      (K1)
      (nm (x4 + 1) fun v15 =>
      REC v15)) fu v2
set_option maxHeartbeats 4000000 in
set_option maxRecDepth 100000 in
theorem w_X8_toldTwoThings_L3b {p0 : Program} {l : Launch} {e : Env} {s : State} {m : MethodId} {args : Array Value} {below : List Frame} {meth : Method} {c : Code} {Q : State → Prop} {D : va_G} {G : GG} {A : Nat → Prop} {H0 : Heap} {ad : Nat → Nat} {lay : List KK} {X : va_W} {ρ : Type} {p : Nat} {q1 : Nat} {r0 : ρ} {z2 : Int32} {z3 : Int32} {x4 : Int32} {h : PH} {H : Heap} {locs : List Loc} {ls : Array Slot} {K1 : Option ρ} {K2 : Option ρ} {REC : Int32 → Option ρ} (hM : CallFix p0 m c cX8_toldTwoThings 8 s args lw_g RX8) (ho : okX8 lay p) (ho1 : okX9 lay q1) (hk1 : ∀ (H : Heap) (locs : List Loc) (ls : Array Slot), K1 = some r0 → Wd D G A H0 ad lay X h s H locs → lv_has ls 8 [] → W p0 l e (rmN 1 24) s m args below meth c H locs 0 0 Q (F0 m 115 ls [])) (hk2 : ∀ (H : Heap) (locs : List Loc) (ls : Array Slot), K2 = some r0 → Wd D G A H0 ad lay X h s H locs → lv_has ls 8 [] → W p0 l e (rmN 1 24) s m args below meth c H locs 0 0 Q (F0 m 129 ls [])) (hrec : ∀ (x4 : Int32), ∀ (H : Heap) (locs : List Loc) (ls : Array Slot), REC x4 = some r0 → Wd D G A H0 ad lay X h s H locs → lv_has ls 8 [(0, .ref (ad p)), (1, .ref (ad q1)), (2, .int z2), (3, .int z3), (4, .int x4)] → W p0 l e (rmN 1 24) s m args below meth c H locs 0 0 Q (F0 m 3 ls [])) (hw : Wd D G A H0 ad lay X h s H locs) (hl : lv_has ls 8 [(0, .ref (ad p)), (1, .ref (ad q1)), (2, .int z2), (3, .int z3), (4, .int x4)]) (hf : c_X8_toldTwoThings_L3b p q1 z2 z3 h K1 K2 REC x4 = some r0) : W p0 l e (rmN 1 24) s m args below meth c H locs 0 0 Q (F0 m 3 ls []) := by
  unfold c_X8_toldTwoThings_L3b at hf
  refine lv_iload hM.1 hM.2.1 dX8_toldTwoThings_3 (lv_at hl 4 rfl) ?_
  refine lv_aload_n hM.1 hM.2.1 dX8_toldTwoThings_5 rfl (lv_at hl 1 rfl) ?_
  refine gf_X9_duties hM hw (okX9.o ho1) fl_X8_55 dX8_toldTwoThings_6 ?_
  refine x_ic_ge (tgt := 129) hM hf dX8_toldTwoThings_9 (by decide) (fun hf => ?_) (fun hf => ?_)
  · exact hk2 _ _ _ hf hw (lv_sub hl [] rfl)
  refine lv_iconst (v := 0) hM.1 hM.2.1 dX8_toldTwoThings_12 ic_0 ?_
  refine x_istore hM hf dX8_toldTwoThings_13 hl (by decide) (fun v2 => [(5, .int v2), (0, .ref (ad p)), (1, .ref (ad q1)), (2, .int z2), (3, .int z3), (4, .int x4)]) (fun _ => rfl) (fun v2 ls hf hl => ?_)
  refine w_X8_toldTwoThings_L15 hM ho ho1 (fun H locs ls hf hw hl => ?_) (fun H locs ls hf hw hl => ?_) fu _ hf _ _ _ hw (lv_sub hl [1, 2, 3, 4, 5, 0] rfl)
  · exact hk1 _ _ _ hf hw hl
  · refine x_iinc (k := 4) (d := 1) hM hf dX8_toldTwoThings_123 hl rfl (by decide) (by decide) (fun v15 => [(4, .int v15), (0, .ref (ad p)), (1, .ref (ad q1)), (2, .int z2), (3, .int z3)]) (fun _ => rfl) (fun v15 ls hf hl => ?_)
    refine lv_goto (tgt := 3) hM.1 hM.2.1 dX8_toldTwoThings_126 (by decide) ?_
    exact hrec _ _ _ _ hf hw (lv_sub hl [1, 2, 3, 4, 0] rfl)
set_option maxHeartbeats 4000000 in
set_option maxRecDepth 100000 in
theorem w_X8_toldTwoThings_L3 {p0 : Program} {l : Launch} {e : Env} {s : State} {m : MethodId} {args : Array Value} {below : List Frame} {meth : Method} {c : Code} {Q : State → Prop} {D : va_G} {G : GG} {A : Nat → Prop} {H0 : Heap} {ad : Nat → Nat} {lay : List KK} {X : va_W} {ρ : Type} {p : Nat} {q1 : Nat} {r0 : ρ} {z2 : Int32} {z3 : Int32} {h : PH} {K1 : Option ρ} {K2 : Option ρ} (hM : CallFix p0 m c cX8_toldTwoThings 8 s args lw_g RX8) (ho : okX8 lay p) (ho1 : okX9 lay q1) (hk1 : ∀ (H : Heap) (locs : List Loc) (ls : Array Slot), K1 = some r0 → Wd D G A H0 ad lay X h s H locs → lv_has ls 8 [] → W p0 l e (rmN 1 24) s m args below meth c H locs 0 0 Q (F0 m 115 ls [])) (hk2 : ∀ (H : Heap) (locs : List Loc) (ls : Array Slot), K2 = some r0 → Wd D G A H0 ad lay X h s H locs → lv_has ls 8 [] → W p0 l e (rmN 1 24) s m args below meth c H locs 0 0 Q (F0 m 129 ls [])) (n : Nat) (x4 : Int32) (hf : lq1 (c_X8_toldTwoThings_L3b p q1 z2 z3 h K1 K2) n x4 = some r0) : ∀ (H : Heap) (locs : List Loc) (ls : Array Slot), Wd D G A H0 ad lay X h s H locs → lv_has ls 8 [(0, .ref (ad p)), (1, .ref (ad q1)), (2, .int z2), (3, .int z3), (4, .int x4)] → W p0 l e (rmN 1 24) s m args below meth c H locs 0 0 Q (F0 m 3 ls []) := by
  exact lq1_i (fun (x4 : Int32) => ∀ (H : Heap) (locs : List Loc) (ls : Array Slot), Wd D G A H0 ad lay X h s H locs → lv_has ls 8 [(0, .ref (ad p)), (1, .ref (ad q1)), (2, .int z2), (3, .int z3), (4, .int x4)] → W p0 l e (rmN 1 24) s m args below meth c H locs 0 0 Q (F0 m 3 ls [])) (fun REC x4 ih hf H locs ls hw hl => w_X8_toldTwoThings_L3b hM ho ho1 hk1 hk2 (fun x4 H locs ls hf hw hl => ih x4 hf H locs ls hw hl) hw hl hf) n x4 hf
def c_X8_toldTwoThings (p : Nat) (q1 : Nat) (a2 : Int32) (a3 : Int32) (h : PH) : Option (Int32) :=
  nm (0 : Int32) fun v1 =>
  lq1 (c_X8_toldTwoThings_L3b p q1 a2 a3 h
    (some 1)
    (some 0)) fu v1
set_option maxHeartbeats 4000000 in
set_option maxRecDepth 100000 in
theorem ct_X8_toldTwoThings (l : Launch) {lay : List KK} {p : Nat} {q1 : Nat} (ho : okX8 lay p) (ho1 : okX9 lay q1) (a2 : Int32) (a3 : Int32) : CtI l yX8_toldTwoThings cX8_toldTwoThings 8 (some .boolean) 1 24 lay (rd (fun h => c_X8_toldTwoThings p q1 a2 a3 h)) (fun ad => [.ref (ad p), .ref (ad q1), .int a2, .int a3]) := by
  refine CtI.mk' RX8 (by decide) rfl (fun _ => Nat.le_of_ble_eq_true rfl) ?_
  intro p0 e s m args below meth c D G A H0 ad X h r0 H ls Q hM hw hl hf hR
  have hl : lv_has ls 8 [(0, .ref (ad p)), (1, .ref (ad q1)), (2, .int a2), (3, .int a3)] := hl
  obtain ⟨v0, hv0, hr0⟩ : ∃ v0, c_X8_toldTwoThings p q1 a2 a3 h = some v0 ∧ r0 = (v0, h) := rd_some hf
  subst hr0
  have hf := hv0
  unfold c_X8_toldTwoThings at hf
  refine lv_iconst (v := 0) hM.1 hM.2.1 dX8_toldTwoThings_0 ic_0 ?_
  refine x_istore hM hf dX8_toldTwoThings_1 hl (by decide) (fun v1 => [(4, .int v1), (0, .ref (ad p)), (1, .ref (ad q1)), (2, .int a2), (3, .int a3)]) (fun _ => rfl) (fun v1 ls hf hl => ?_)
  refine w_X8_toldTwoThings_L3 hM ho ho1 (fun H locs ls hf hw hl => ?_) (fun H locs ls hf hw hl => ?_) fu _ hf _ _ _ hw (lv_sub hl [1, 2, 3, 4, 0] rfl)
  · refine lv_iconst (v := 1) hM.1 hM.2.1 dX8_toldTwoThings_115 ic_1 ?_
    exact hR _ _ _ _ _ _ _ (congrArg (fun z => (z, _)) (Option.some.inj hf)) rfl (nar_z (by decide)) hw dX8_toldTwoThings_116
  · refine lv_iconst (v := 0) hM.1 hM.2.1 dX8_toldTwoThings_129 ic_0 ?_
    exact hR _ _ _ _ _ _ _ (congrArg (fun z => (z, _)) (Option.some.inj hf)) rfl (nar_z (by decide)) hw dX8_toldTwoThings_130
theorem hd_X8_toldTwoThings : yX8_toldTwoThings.cls = RX8 ∧ yX8_toldTwoThings.cls ≠ "java/lang/invoke/MethodHandle" ∧ yX8_toldTwoThings.cls ≠ "java/lang/invoke/VarHandle" ∧ (parseMethodDescriptor yX8_toldTwoThings.desc).map (fun d => d.parameters.length) = some 3 := ⟨rfl, by decide, by decide, by decide +kernel⟩
theorem dX8_pairs_0 : decode cX8_pairs 0 = .ok (.iconst 0, 1) := by decide +kernel
theorem dX8_pairs_1 : decode cX8_pairs 1 = .ok (.istore_n 3, 1) := by decide +kernel
theorem dX8_pairs_2 : decode cX8_pairs 2 = .ok (.iconst 0, 1) := by decide +kernel
theorem dX8_pairs_3 : decode cX8_pairs 3 = .ok (.istore 4, 2) := by decide +kernel
theorem dX8_pairs_5 : decode cX8_pairs 5 = .ok (.iload 4, 2) := by decide +kernel
theorem dX8_pairs_7 : decode cX8_pairs 7 = .ok (.aload_n 1, 1) := by decide +kernel
theorem dX8_pairs_8 : decode cX8_pairs 8 = .ok (.getfield 87, 3) := by decide +kernel
theorem dX8_pairs_11 : decode cX8_pairs 11 = .ok (.if_icmp .ge 70, 3) := by decide +kernel
theorem dX8_pairs_14 : decode cX8_pairs 14 = .ok (.iload 4, 2) := by decide +kernel
theorem dX8_pairs_16 : decode cX8_pairs 16 = .ok (.iconst 1, 1) := by decide +kernel
theorem dX8_pairs_17 : decode cX8_pairs 17 = .ok (.iadd, 1) := by decide +kernel
theorem dX8_pairs_18 : decode cX8_pairs 18 = .ok (.istore 5, 2) := by decide +kernel
theorem dX8_pairs_20 : decode cX8_pairs 20 = .ok (.iload 5, 2) := by decide +kernel
theorem dX8_pairs_22 : decode cX8_pairs 22 = .ok (.aload_n 1, 1) := by decide +kernel
theorem dX8_pairs_23 : decode cX8_pairs 23 = .ok (.getfield 87, 3) := by decide +kernel
theorem dX8_pairs_26 : decode cX8_pairs 26 = .ok (.if_icmp .ge 49, 3) := by decide +kernel
theorem dX8_pairs_29 : decode cX8_pairs 29 = .ok (.aload_n 1, 1) := by decide +kernel
theorem dX8_pairs_30 : decode cX8_pairs 30 = .ok (.iload 4, 2) := by decide +kernel
theorem dX8_pairs_32 : decode cX8_pairs 32 = .ok (.iload 5, 2) := by decide +kernel
theorem dX8_pairs_34 : decode cX8_pairs 34 = .ok (.invokevirtual 90, 3) := by decide +kernel
theorem dX8_pairs_37 : decode cX8_pairs 37 = .ok (.ifCond .eq 32, 3) := by decide +kernel
theorem dX8_pairs_40 : decode cX8_pairs 40 = .ok (.aload_n 0, 1) := by decide +kernel
theorem dX8_pairs_41 : decode cX8_pairs 41 = .ok (.aload_n 1, 1) := by decide +kernel
theorem dX8_pairs_42 : decode cX8_pairs 42 = .ok (.iload 4, 2) := by decide +kernel
theorem dX8_pairs_44 : decode cX8_pairs 44 = .ok (.iload 5, 2) := by decide +kernel
theorem dX8_pairs_46 : decode cX8_pairs 46 = .ok (.invokevirtual 93, 3) := by decide +kernel
theorem dX8_pairs_49 : decode cX8_pairs 49 = .ok (.ifCond .eq 20, 3) := by decide +kernel
theorem dX8_pairs_52 : decode cX8_pairs 52 = .ok (.iload_n 3, 1) := by decide +kernel
theorem dX8_pairs_53 : decode cX8_pairs 53 = .ok (.iload_n 2, 1) := by decide +kernel
theorem dX8_pairs_54 : decode cX8_pairs 54 = .ok (.if_icmp .ne 12, 3) := by decide +kernel
theorem dX8_pairs_57 : decode cX8_pairs 57 = .ok (.bipush 10, 2) := by decide +kernel
theorem dX8_pairs_59 : decode cX8_pairs 59 = .ok (.iload 4, 2) := by decide +kernel
theorem dX8_pairs_61 : decode cX8_pairs 61 = .ok (.imul, 1) := by decide +kernel
theorem dX8_pairs_62 : decode cX8_pairs 62 = .ok (.iload 5, 2) := by decide +kernel
theorem dX8_pairs_64 : decode cX8_pairs 64 = .ok (.iadd, 1) := by decide +kernel
theorem dX8_pairs_65 : decode cX8_pairs 65 = .ok (.ireturn, 1) := by decide +kernel
theorem dX8_pairs_66 : decode cX8_pairs 66 = .ok (.iinc 3 1, 3) := by decide +kernel
theorem dX8_pairs_69 : decode cX8_pairs 69 = .ok (.iinc 5 1, 3) := by decide +kernel
theorem dX8_pairs_72 : decode cX8_pairs 72 = .ok (.goto (-52), 3) := by decide +kernel
theorem dX8_pairs_75 : decode cX8_pairs 75 = .ok (.iinc 4 1, 3) := by decide +kernel
theorem dX8_pairs_78 : decode cX8_pairs 78 = .ok (.goto (-73), 3) := by decide +kernel
theorem dX8_pairs_81 : decode cX8_pairs 81 = .ok (.iload_n 2, 1) := by decide +kernel
theorem dX8_pairs_82 : decode cX8_pairs 82 = .ok (.iconst (-1), 1) := by decide +kernel
theorem dX8_pairs_83 : decode cX8_pairs 83 = .ok (.if_icmp .ne 7, 3) := by decide +kernel
theorem dX8_pairs_86 : decode cX8_pairs 86 = .ok (.iload_n 3, 1) := by decide +kernel
theorem dX8_pairs_87 : decode cX8_pairs 87 = .ok (.goto 4, 3) := by decide +kernel
theorem dX8_pairs_90 : decode cX8_pairs 90 = .ok (.iconst (-1), 1) := by decide +kernel
theorem dX8_pairs_91 : decode cX8_pairs 91 = .ok (.ireturn, 1) := by decide +kernel
def c_X8_pairs_L20b {ρ : Type}  (p : Nat) (q1 : Nat) (z2 : Int32) (z4 : Int32) (h : PH) (K1 : Int32 → Option ρ) (K2 : Int32 → Option ρ) (REC : Int32 → Int32 → Option ρ) (x3 : Int32) (x5 : Int32) : Option ρ :=
  if (h.1 q1 0) ≤ x5 then
    K2 x3
  else
    (c_X9_knowEachOther q1 z4 x5 h).bind fun r4 =>
    if r4 = 0 then
      nm (x5 + 1) fun v5 =>
      REC x3 v5
    else
      (c_X8_toldTwoThings p q1 z4 x5 h).bind fun r6 =>
      if r6 = 0 then
        nm (x5 + 1) fun v7 =>
        REC x3 v7
      else
        if x3 = z2 then
          K1 x5
        else
          nm (x3 + 1) fun v8 =>
          nm (x5 + 1) fun v9 =>
          REC v8 v9
set_option maxHeartbeats 4000000 in
set_option maxRecDepth 100000 in
theorem w_X8_pairs_L20b {p0 : Program} {l : Launch} {e : Env} {s : State} {m : MethodId} {args : Array Value} {below : List Frame} {meth : Method} {c : Code} {Q : State → Prop} {D : va_G} {G : GG} {A : Nat → Prop} {H0 : Heap} {ad : Nat → Nat} {lay : List KK} {X : va_W} {ρ : Type} {p : Nat} {q1 : Nat} {r0 : ρ} {z2 : Int32} {z4 : Int32} {x3 : Int32} {x5 : Int32} {h : PH} {H : Heap} {locs : List Loc} {ls : Array Slot} {K1 : Int32 → Option ρ} {K2 : Int32 → Option ρ} {REC : Int32 → Int32 → Option ρ} (hM : CallFix p0 m c cX8_pairs 6 s args lw_g RX8) (ho : okX8 lay p) (ho1 : okX9 lay q1) (hk1 : ∀ (x5 : Int32), ∀ (H : Heap) (locs : List Loc) (ls : Array Slot), K1 x5 = some r0 → Wd D G A H0 ad lay X h s H locs → lv_has ls 6 [(4, .int z4), (5, .int x5)] → W p0 l e (rmN 2 51) s m args below meth c H locs 0 0 Q (F0 m 57 ls [])) (hk2 : ∀ (x3 : Int32), ∀ (H : Heap) (locs : List Loc) (ls : Array Slot), K2 x3 = some r0 → Wd D G A H0 ad lay X h s H locs → lv_has ls 6 [(0, .ref (ad p)), (1, .ref (ad q1)), (2, .int z2), (3, .int x3), (4, .int z4)] → W p0 l e (rmN 2 51) s m args below meth c H locs 0 0 Q (F0 m 75 ls [])) (hrec : ∀ (x3 : Int32) (x5 : Int32), ∀ (H : Heap) (locs : List Loc) (ls : Array Slot), REC x3 x5 = some r0 → Wd D G A H0 ad lay X h s H locs → lv_has ls 6 [(0, .ref (ad p)), (1, .ref (ad q1)), (2, .int z2), (3, .int x3), (4, .int z4), (5, .int x5)] → W p0 l e (rmN 2 51) s m args below meth c H locs 0 0 Q (F0 m 20 ls [])) (hw : Wd D G A H0 ad lay X h s H locs) (hl : lv_has ls 6 [(0, .ref (ad p)), (1, .ref (ad q1)), (2, .int z2), (3, .int x3), (4, .int z4), (5, .int x5)]) (hf : c_X8_pairs_L20b p q1 z2 z4 h K1 K2 REC x3 x5 = some r0) : W p0 l e (rmN 2 51) s m args below meth c H locs 0 0 Q (F0 m 20 ls []) := by
  unfold c_X8_pairs_L20b at hf
  refine lv_iload hM.1 hM.2.1 dX8_pairs_20 (lv_at hl 5 rfl) ?_
  refine lv_aload_n hM.1 hM.2.1 dX8_pairs_22 rfl (lv_at hl 1 rfl) ?_
  refine gf_X9_men hM hw (okX9.o ho1) fl_X8_87 dX8_pairs_23 ?_
  refine x_ic_ge (tgt := 75) hM hf dX8_pairs_26 (by decide) (fun hf => ?_) (fun hf => ?_)
  · exact hk2 _ _ _ _ hf hw (lv_sub hl [0, 1, 2, 3, 4] rfl)
  refine lv_aload_n hM.1 hM.2.1 dX8_pairs_29 rfl (lv_at hl 1 rfl) ?_
  refine lv_iload hM.1 hM.2.1 dX8_pairs_30 (lv_at hl 4 rfl) ?_
  refine lv_iload hM.1 hM.2.1 dX8_pairs_32 (lv_at hl 5 rfl) ?_
  refine x_callVIr (rest := []) hM hw (ct_X9_knowEachOther l ho1 z4 x5) [.int z4, .int x5] (okX9.o ho1) rfl rfl rfl (gi_V ml_X8_90 im_X9_knowEachOther sl_X9_knowEachOther in_X9 kc_X9_knowEachOther) hd_X9_knowEachOther rfl ⟨Nat.le_of_ble_eq_true rfl, Nat.le_of_ble_eq_true rfl⟩ rfl (Nat.le_of_ble_eq_true rfl) hl.1 hcs0 hf dX8_pairs_34 (fun r4 H locs hf hw => ?_)
  refine x_if_eq (tgt := 69) hM hf dX8_pairs_37 (by decide) (fun hf => ?_) (fun hf => ?_)
  · refine x_iinc (k := 5) (d := 1) hM hf dX8_pairs_69 hl rfl (by decide) (by decide) (fun v5 => [(5, .int v5), (0, .ref (ad p)), (1, .ref (ad q1)), (2, .int z2), (3, .int x3), (4, .int z4)]) (fun _ => rfl) (fun v5 ls hf hl => ?_)
    refine lv_goto (tgt := 20) hM.1 hM.2.1 dX8_pairs_72 (by decide) ?_
    exact hrec _ _ _ _ _ hf hw (lv_sub hl [1, 2, 3, 4, 5, 0] rfl)
  refine lv_aload_n hM.1 hM.2.1 dX8_pairs_40 rfl (lv_at hl 0 rfl) ?_
  refine lv_aload_n hM.1 hM.2.1 dX8_pairs_41 rfl (lv_at hl 1 rfl) ?_
  refine lv_iload hM.1 hM.2.1 dX8_pairs_42 (lv_at hl 4 rfl) ?_
  refine lv_iload hM.1 hM.2.1 dX8_pairs_44 (lv_at hl 5 rfl) ?_
  refine x_callVIr (rest := []) hM hw (ct_X8_toldTwoThings l ho ho1 z4 x5) [.ref (ad q1), .int z4, .int x5] (okX8.o ho) rfl rfl rfl (gi_V ml_X8_93 im_X8_toldTwoThings sl_X8_toldTwoThings in_X8 kc_X8_toldTwoThings) hd_X8_toldTwoThings rfl ⟨Nat.le_of_ble_eq_true rfl, Nat.le_of_ble_eq_true rfl⟩ rfl (Nat.le_of_ble_eq_true rfl) hl.1 hcs0 hf dX8_pairs_46 (fun r6 H locs hf hw => ?_)
  refine x_if_eq (tgt := 69) hM hf dX8_pairs_49 (by decide) (fun hf => ?_) (fun hf => ?_)
  · refine x_iinc (k := 5) (d := 1) hM hf dX8_pairs_69 hl rfl (by decide) (by decide) (fun v7 => [(5, .int v7), (0, .ref (ad p)), (1, .ref (ad q1)), (2, .int z2), (3, .int x3), (4, .int z4)]) (fun _ => rfl) (fun v7 ls hf hl => ?_)
    refine lv_goto (tgt := 20) hM.1 hM.2.1 dX8_pairs_72 (by decide) ?_
    exact hrec _ _ _ _ _ hf hw (lv_sub hl [1, 2, 3, 4, 5, 0] rfl)
  refine lv_iload_n hM.1 hM.2.1 dX8_pairs_52 rfl (lv_at hl 3 rfl) ?_
  refine lv_iload_n hM.1 hM.2.1 dX8_pairs_53 rfl (lv_at hl 2 rfl) ?_
  refine x_ic_ne (tgt := 66) hM hf dX8_pairs_54 (by decide) (fun hf => ?_) (fun hf => ?_)
  · refine x_iinc (k := 3) (d := 1) hM hf dX8_pairs_66 hl rfl (by decide) (by decide) (fun v8 => [(3, .int v8), (0, .ref (ad p)), (1, .ref (ad q1)), (2, .int z2), (4, .int z4), (5, .int x5)]) (fun _ => rfl) (fun v8 ls hf hl => ?_)
    refine x_iinc (k := 5) (d := 1) hM hf dX8_pairs_69 hl rfl (by decide) (by decide) (fun v9 => [(5, .int v9), (3, .int v8), (0, .ref (ad p)), (1, .ref (ad q1)), (2, .int z2), (4, .int z4)]) (fun _ => rfl) (fun v9 ls hf hl => ?_)
    refine lv_goto (tgt := 20) hM.1 hM.2.1 dX8_pairs_72 (by decide) ?_
    exact hrec _ _ _ _ _ hf hw (lv_sub hl [2, 3, 4, 1, 5, 0] rfl)
  exact hk1 _ _ _ _ hf hw (lv_sub hl [4, 5] rfl)
set_option maxHeartbeats 4000000 in
set_option maxRecDepth 100000 in
theorem w_X8_pairs_L20 {p0 : Program} {l : Launch} {e : Env} {s : State} {m : MethodId} {args : Array Value} {below : List Frame} {meth : Method} {c : Code} {Q : State → Prop} {D : va_G} {G : GG} {A : Nat → Prop} {H0 : Heap} {ad : Nat → Nat} {lay : List KK} {X : va_W} {ρ : Type} {p : Nat} {q1 : Nat} {r0 : ρ} {z2 : Int32} {z4 : Int32} {h : PH} {K1 : Int32 → Option ρ} {K2 : Int32 → Option ρ} (hM : CallFix p0 m c cX8_pairs 6 s args lw_g RX8) (ho : okX8 lay p) (ho1 : okX9 lay q1) (hk1 : ∀ (x5 : Int32), ∀ (H : Heap) (locs : List Loc) (ls : Array Slot), K1 x5 = some r0 → Wd D G A H0 ad lay X h s H locs → lv_has ls 6 [(4, .int z4), (5, .int x5)] → W p0 l e (rmN 2 51) s m args below meth c H locs 0 0 Q (F0 m 57 ls [])) (hk2 : ∀ (x3 : Int32), ∀ (H : Heap) (locs : List Loc) (ls : Array Slot), K2 x3 = some r0 → Wd D G A H0 ad lay X h s H locs → lv_has ls 6 [(0, .ref (ad p)), (1, .ref (ad q1)), (2, .int z2), (3, .int x3), (4, .int z4)] → W p0 l e (rmN 2 51) s m args below meth c H locs 0 0 Q (F0 m 75 ls [])) (n : Nat) (x3 : Int32) (x5 : Int32) (hf : lq2 (c_X8_pairs_L20b p q1 z2 z4 h K1 K2) n x3 x5 = some r0) : ∀ (H : Heap) (locs : List Loc) (ls : Array Slot), Wd D G A H0 ad lay X h s H locs → lv_has ls 6 [(0, .ref (ad p)), (1, .ref (ad q1)), (2, .int z2), (3, .int x3), (4, .int z4), (5, .int x5)] → W p0 l e (rmN 2 51) s m args below meth c H locs 0 0 Q (F0 m 20 ls []) := by
  exact lq2_i (fun (x3 : Int32) (x5 : Int32) => ∀ (H : Heap) (locs : List Loc) (ls : Array Slot), Wd D G A H0 ad lay X h s H locs → lv_has ls 6 [(0, .ref (ad p)), (1, .ref (ad q1)), (2, .int z2), (3, .int x3), (4, .int z4), (5, .int x5)] → W p0 l e (rmN 2 51) s m args below meth c H locs 0 0 Q (F0 m 20 ls [])) (fun REC x3 x5 ih hf H locs ls hw hl => w_X8_pairs_L20b hM ho ho1 hk1 hk2 (fun x3 x5 H locs ls hf hw hl => ih x3 x5 hf H locs ls hw hl) hw hl hf) n x3 x5 hf
def c_X8_pairs_L5b {ρ : Type}  (p : Nat) (q1 : Nat) (z2 : Int32) (h : PH) (K1 : Int32 → Int32 → Option ρ) (K2 : Int32 → Option ρ) (REC : Int32 → Int32 → Option ρ) (x3 : Int32) (x4 : Int32) : Option ρ :=
  if (h.1 q1 0) ≤ x4 then
    K2 x3
  else
    nm (x4 + 1) fun v3 =>
    lq2 (c_X8_pairs_L20b p q1 z2 x4 h
      (fun w10 =>
        K1 x4 w10)
      (fun w11 =>
        nm (x4 + 1) fun v12 =>
        REC w11 v12)) fu x3 v3
set_option maxHeartbeats 4000000 in
set_option maxRecDepth 100000 in
theorem w_X8_pairs_L5b {p0 : Program} {l : Launch} {e : Env} {s : State} {m : MethodId} {args : Array Value} {below : List Frame} {meth : Method} {c : Code} {Q : State → Prop} {D : va_G} {G : GG} {A : Nat → Prop} {H0 : Heap} {ad : Nat → Nat} {lay : List KK} {X : va_W} {ρ : Type} {p : Nat} {q1 : Nat} {r0 : ρ} {z2 : Int32} {x3 : Int32} {x4 : Int32} {h : PH} {H : Heap} {locs : List Loc} {ls : Array Slot} {K1 : Int32 → Int32 → Option ρ} {K2 : Int32 → Option ρ} {REC : Int32 → Int32 → Option ρ} (hM : CallFix p0 m c cX8_pairs 6 s args lw_g RX8) (ho : okX8 lay p) (ho1 : okX9 lay q1) (hk1 : ∀ (x4 : Int32) (x5 : Int32), ∀ (H : Heap) (locs : List Loc) (ls : Array Slot), K1 x4 x5 = some r0 → Wd D G A H0 ad lay X h s H locs → lv_has ls 6 [(4, .int x4), (5, .int x5)] → W p0 l e (rmN 2 51) s m args below meth c H locs 0 0 Q (F0 m 57 ls [])) (hk2 : ∀ (x3 : Int32), ∀ (H : Heap) (locs : List Loc) (ls : Array Slot), K2 x3 = some r0 → Wd D G A H0 ad lay X h s H locs → lv_has ls 6 [(2, .int z2), (3, .int x3)] → W p0 l e (rmN 2 51) s m args below meth c H locs 0 0 Q (F0 m 81 ls [])) (hrec : ∀ (x3 : Int32) (x4 : Int32), ∀ (H : Heap) (locs : List Loc) (ls : Array Slot), REC x3 x4 = some r0 → Wd D G A H0 ad lay X h s H locs → lv_has ls 6 [(0, .ref (ad p)), (1, .ref (ad q1)), (2, .int z2), (3, .int x3), (4, .int x4)] → W p0 l e (rmN 2 51) s m args below meth c H locs 0 0 Q (F0 m 5 ls [])) (hw : Wd D G A H0 ad lay X h s H locs) (hl : lv_has ls 6 [(0, .ref (ad p)), (1, .ref (ad q1)), (2, .int z2), (3, .int x3), (4, .int x4)]) (hf : c_X8_pairs_L5b p q1 z2 h K1 K2 REC x3 x4 = some r0) : W p0 l e (rmN 2 51) s m args below meth c H locs 0 0 Q (F0 m 5 ls []) := by
  unfold c_X8_pairs_L5b at hf
  refine lv_iload hM.1 hM.2.1 dX8_pairs_5 (lv_at hl 4 rfl) ?_
  refine lv_aload_n hM.1 hM.2.1 dX8_pairs_7 rfl (lv_at hl 1 rfl) ?_
  refine gf_X9_men hM hw (okX9.o ho1) fl_X8_87 dX8_pairs_8 ?_
  refine x_ic_ge (tgt := 81) hM hf dX8_pairs_11 (by decide) (fun hf => ?_) (fun hf => ?_)
  · exact hk2 _ _ _ _ hf hw (lv_sub hl [2, 3] rfl)
  refine lv_iload hM.1 hM.2.1 dX8_pairs_14 (lv_at hl 4 rfl) ?_
  refine lv_iconst (v := 1) hM.1 hM.2.1 dX8_pairs_16 ic_1 ?_
  refine lv_iadd hM.1 hM.2.1 dX8_pairs_17 ?_
  refine x_istore hM hf dX8_pairs_18 hl (by decide) (fun v3 => [(5, .int v3), (0, .ref (ad p)), (1, .ref (ad q1)), (2, .int z2), (3, .int x3), (4, .int x4)]) (fun _ => rfl) (fun v3 ls hf hl => ?_)
  refine w_X8_pairs_L20 hM ho ho1 (fun w10 H locs ls hf hw hl => ?_) (fun w11 H locs ls hf hw hl => ?_) fu _ _ hf _ _ _ hw (lv_sub hl [1, 2, 3, 4, 5, 0] rfl)
  · exact hk1 _ _ _ _ _ hf hw hl
  · refine x_iinc (k := 4) (d := 1) hM hf dX8_pairs_75 hl rfl (by decide) (by decide) (fun v12 => [(4, .int v12), (0, .ref (ad p)), (1, .ref (ad q1)), (2, .int z2), (3, .int w11)]) (fun _ => rfl) (fun v12 ls hf hl => ?_)
    refine lv_goto (tgt := 5) hM.1 hM.2.1 dX8_pairs_78 (by decide) ?_
    exact hrec _ _ _ _ _ hf hw (lv_sub hl [1, 2, 3, 4, 0] rfl)
set_option maxHeartbeats 4000000 in
set_option maxRecDepth 100000 in
theorem w_X8_pairs_L5 {p0 : Program} {l : Launch} {e : Env} {s : State} {m : MethodId} {args : Array Value} {below : List Frame} {meth : Method} {c : Code} {Q : State → Prop} {D : va_G} {G : GG} {A : Nat → Prop} {H0 : Heap} {ad : Nat → Nat} {lay : List KK} {X : va_W} {ρ : Type} {p : Nat} {q1 : Nat} {r0 : ρ} {z2 : Int32} {h : PH} {K1 : Int32 → Int32 → Option ρ} {K2 : Int32 → Option ρ} (hM : CallFix p0 m c cX8_pairs 6 s args lw_g RX8) (ho : okX8 lay p) (ho1 : okX9 lay q1) (hk1 : ∀ (x4 : Int32) (x5 : Int32), ∀ (H : Heap) (locs : List Loc) (ls : Array Slot), K1 x4 x5 = some r0 → Wd D G A H0 ad lay X h s H locs → lv_has ls 6 [(4, .int x4), (5, .int x5)] → W p0 l e (rmN 2 51) s m args below meth c H locs 0 0 Q (F0 m 57 ls [])) (hk2 : ∀ (x3 : Int32), ∀ (H : Heap) (locs : List Loc) (ls : Array Slot), K2 x3 = some r0 → Wd D G A H0 ad lay X h s H locs → lv_has ls 6 [(2, .int z2), (3, .int x3)] → W p0 l e (rmN 2 51) s m args below meth c H locs 0 0 Q (F0 m 81 ls [])) (n : Nat) (x3 : Int32) (x4 : Int32) (hf : lq2 (c_X8_pairs_L5b p q1 z2 h K1 K2) n x3 x4 = some r0) : ∀ (H : Heap) (locs : List Loc) (ls : Array Slot), Wd D G A H0 ad lay X h s H locs → lv_has ls 6 [(0, .ref (ad p)), (1, .ref (ad q1)), (2, .int z2), (3, .int x3), (4, .int x4)] → W p0 l e (rmN 2 51) s m args below meth c H locs 0 0 Q (F0 m 5 ls []) := by
  exact lq2_i (fun (x3 : Int32) (x4 : Int32) => ∀ (H : Heap) (locs : List Loc) (ls : Array Slot), Wd D G A H0 ad lay X h s H locs → lv_has ls 6 [(0, .ref (ad p)), (1, .ref (ad q1)), (2, .int z2), (3, .int x3), (4, .int x4)] → W p0 l e (rmN 2 51) s m args below meth c H locs 0 0 Q (F0 m 5 ls [])) (fun REC x3 x4 ih hf H locs ls hw hl => w_X8_pairs_L5b hM ho ho1 hk1 hk2 (fun x3 x4 H locs ls hf hw hl => ih x3 x4 hf H locs ls hw hl) hw hl hf) n x3 x4 hf
def c_X8_pairs (p : Nat) (q1 : Nat) (a2 : Int32) (h : PH) : Option (Int32) :=
  nm (0 : Int32) fun v1 =>
  nm (0 : Int32) fun v2 =>
  lq2 (c_X8_pairs_L5b p q1 a2 h
    (fun w13 w14 =>
      some ((10 * w13) + w14))
    (fun w15 =>
      if a2 = (-1) then
        some w15
      else
        some (-1))) fu v1 v2
set_option maxHeartbeats 4000000 in
set_option maxRecDepth 100000 in
theorem ct_X8_pairs (l : Launch) {lay : List KK} {p : Nat} {q1 : Nat} (ho : okX8 lay p) (ho1 : okX9 lay q1) (a2 : Int32) : CtI l yX8_pairs cX8_pairs 6 (some .int) 2 51 lay (rd (fun h => c_X8_pairs p q1 a2 h)) (fun ad => [.ref (ad p), .ref (ad q1), .int a2]) := by
  refine CtI.mk' RX8 (by decide) rfl (fun _ => Nat.le_of_ble_eq_true rfl) ?_
  intro p0 e s m args below meth c D G A H0 ad X h r0 H ls Q hM hw hl hf hR
  have hl : lv_has ls 6 [(0, .ref (ad p)), (1, .ref (ad q1)), (2, .int a2)] := hl
  obtain ⟨v0, hv0, hr0⟩ : ∃ v0, c_X8_pairs p q1 a2 h = some v0 ∧ r0 = (v0, h) := rd_some hf
  subst hr0
  have hf := hv0
  unfold c_X8_pairs at hf
  refine lv_iconst (v := 0) hM.1 hM.2.1 dX8_pairs_0 ic_0 ?_
  refine x_istore_n hM hf dX8_pairs_1 rfl hl (by decide) (fun v1 => [(3, .int v1), (0, .ref (ad p)), (1, .ref (ad q1)), (2, .int a2)]) (fun _ => rfl) (fun v1 ls hf hl => ?_)
  refine lv_iconst (v := 0) hM.1 hM.2.1 dX8_pairs_2 ic_0 ?_
  refine x_istore hM hf dX8_pairs_3 hl (by decide) (fun v2 => [(4, .int v2), (3, .int v1), (0, .ref (ad p)), (1, .ref (ad q1)), (2, .int a2)]) (fun _ => rfl) (fun v2 ls hf hl => ?_)
  refine w_X8_pairs_L5 hM ho ho1 (fun w13 w14 H locs ls hf hw hl => ?_) (fun w15 H locs ls hf hw hl => ?_) fu _ _ hf _ _ _ hw (lv_sub hl [2, 3, 4, 1, 0] rfl)
  · refine lv_bipush (v := 10) hM.1 hM.2.1 dX8_pairs_57 (by decide) ?_
    refine lv_iload hM.1 hM.2.1 dX8_pairs_59 (lv_at hl 0 rfl) ?_
    refine lv_imul hM.1 hM.2.1 dX8_pairs_61 ?_
    refine lv_iload hM.1 hM.2.1 dX8_pairs_62 (lv_at hl 1 rfl) ?_
    refine lv_iadd hM.1 hM.2.1 dX8_pairs_64 ?_
    exact hR _ _ _ _ _ _ _ (congrArg (fun z => (z, _)) (Option.some.inj hf)) rfl rfl hw dX8_pairs_65
  · refine lv_iload_n hM.1 hM.2.1 dX8_pairs_81 rfl (lv_at hl 0 rfl) ?_
    refine lv_iconst (v := (-1)) hM.1 hM.2.1 dX8_pairs_82 ic_m1 ?_
    refine x_ic_ne (tgt := 90) hM hf dX8_pairs_83 (by decide) (fun hf => ?_) (fun hf => ?_)
    · refine lv_iconst (v := (-1)) hM.1 hM.2.1 dX8_pairs_90 ic_m1 ?_
      exact hR _ _ _ _ _ _ _ (congrArg (fun z => (z, _)) (Option.some.inj hf)) rfl rfl hw dX8_pairs_91
    refine lv_iload_n hM.1 hM.2.1 dX8_pairs_86 rfl (lv_at hl 1 rfl) ?_
    refine lv_goto (tgt := 91) hM.1 hM.2.1 dX8_pairs_87 (by decide) ?_
    exact hR _ _ _ _ _ _ _ (congrArg (fun z => (z, _)) (Option.some.inj hf)) rfl rfl hw dX8_pairs_91
theorem hd_X8_pairs : yX8_pairs.cls = RX8 ∧ yX8_pairs.cls ≠ "java/lang/invoke/MethodHandle" ∧ yX8_pairs.cls ≠ "java/lang/invoke/VarHandle" ∧ (parseMethodDescriptor yX8_pairs.desc).map (fun d => d.parameters.length) = some 2 := ⟨rfl, by decide, by decide, by decide +kernel⟩
