theorem dX3_ask_0 : decode cX3_ask 0 = .ok (.iload_n 3, 1) := by decide +kernel
theorem dX3_ask_1 : decode cX3_ask 1 = .ok (.istore 4, 2) := by decide +kernel
theorem dX3_ask_3 : decode cX3_ask 3 = .ok (.iconst 1, 1) := by decide +kernel
theorem dX3_ask_4 : decode cX3_ask 4 = .ok (.istore 5, 2) := by decide +kernel
theorem dX3_ask_6 : decode cX3_ask 6 = .ok (.iload_n 1, 1) := by decide +kernel
theorem dX3_ask_7 : decode cX3_ask 7 = .ok (.aload_n 0, 1) := by decide +kernel
theorem dX3_ask_8 : decode cX3_ask 8 = .ok (.getfield 9, 3) := by decide +kernel
theorem dX3_ask_11 : decode cX3_ask 11 = .ok (.arraylength, 1) := by decide +kernel
theorem dX3_ask_12 : decode cX3_ask 12 = .ok (.invokestatic 23, 3) := by decide +kernel
theorem dX3_ask_15 : decode cX3_ask 15 = .ok (.iconst 1, 1) := by decide +kernel
theorem dX3_ask_16 : decode cX3_ask 16 = .ok (.isub, 1) := by decide +kernel
theorem dX3_ask_17 : decode cX3_ask 17 = .ok (.istore 6, 2) := by decide +kernel
theorem dX3_ask_19 : decode cX3_ask 19 = .ok (.iload 6, 2) := by decide +kernel
theorem dX3_ask_21 : decode cX3_ask 21 = .ok (.ifCond .lt 51, 3) := by decide +kernel
theorem dX3_ask_24 : decode cX3_ask 24 = .ok (.aload_n 0, 1) := by decide +kernel
theorem dX3_ask_25 : decode cX3_ask 25 = .ok (.getfield 9, 3) := by decide +kernel
theorem dX3_ask_28 : decode cX3_ask 28 = .ok (.iload 6, 2) := by decide +kernel
theorem dX3_ask_30 : decode cX3_ask 30 = .ok (.iload 4, 2) := by decide +kernel
theorem dX3_ask_32 : decode cX3_ask 32 = .ok (.bipush 7, 2) := by decide +kernel
theorem dX3_ask_34 : decode cX3_ask 34 = .ok (.irem, 1) := by decide +kernel
theorem dX3_ask_35 : decode cX3_ask 35 = .ok (.iastore, 1) := by decide +kernel
theorem dX3_ask_36 : decode cX3_ask 36 = .ok (.iload 4, 2) := by decide +kernel
theorem dX3_ask_38 : decode cX3_ask 38 = .ok (.bipush 7, 2) := by decide +kernel
theorem dX3_ask_40 : decode cX3_ask 40 = .ok (.idiv, 1) := by decide +kernel
theorem dX3_ask_41 : decode cX3_ask 41 = .ok (.istore 4, 2) := by decide +kernel
theorem dX3_ask_43 : decode cX3_ask 43 = .ok (.iload 5, 2) := by decide +kernel
theorem dX3_ask_45 : decode cX3_ask 45 = .ok (.ifCond .eq 18, 3) := by decide +kernel
theorem dX3_ask_48 : decode cX3_ask 48 = .ok (.aload_n 0, 1) := by decide +kernel
theorem dX3_ask_49 : decode cX3_ask 49 = .ok (.getfield 9, 3) := by decide +kernel
theorem dX3_ask_52 : decode cX3_ask 52 = .ok (.iload 6, 2) := by decide +kernel
theorem dX3_ask_54 : decode cX3_ask 54 = .ok (.iaload, 1) := by decide +kernel
theorem dX3_ask_55 : decode cX3_ask 55 = .ok (.iload_n 2, 1) := by decide +kernel
theorem dX3_ask_56 : decode cX3_ask 56 = .ok (.if_icmp .gt 7, 3) := by decide +kernel
theorem dX3_ask_59 : decode cX3_ask 59 = .ok (.iconst 1, 1) := by decide +kernel
theorem dX3_ask_60 : decode cX3_ask 60 = .ok (.goto 4, 3) := by decide +kernel
theorem dX3_ask_63 : decode cX3_ask 63 = .ok (.iconst 0, 1) := by decide +kernel
theorem dX3_ask_64 : decode cX3_ask 64 = .ok (.istore 5, 2) := by decide +kernel
theorem dX3_ask_66 : decode cX3_ask 66 = .ok (.iinc 6 (-1), 3) := by decide +kernel
theorem dX3_ask_69 : decode cX3_ask 69 = .ok (.goto (-50), 3) := by decide +kernel
theorem dX3_ask_72 : decode cX3_ask 72 = .ok (.iload 5, 2) := by decide +kernel
theorem dX3_ask_74 : decode cX3_ask 74 = .ok (.ireturn, 1) := by decide +kernel
def c_X3_ask_L19b {ρ : Type}  (p : Nat) (z2 : Int32) (K1 : Int32 → PH → Option ρ) (REC : Int32 → Int32 → Int32 → PH → Option ρ) (x4 : Int32) (x5 : Int32) (x6 : Int32) (h : PH) : Option ρ :=
  if x6 < 0 then
    K1 x5 h
  else
    gd (ixOK x6 3) <| nm (setI h (p + 1) x6.toNatClampNeg (jrem x4 7)) fun h4 =>
    nm (x4 / 7) fun v5 =>
    if x5 = 0 then
      nm (0 : Int32) fun v6 =>
      nm (x6 + (-1)) fun v7 =>
      REC v5 v6 v7 h4
    else
      gd (ixOK x6 3) <|
      if z2 < (h4.1 (p + 1) x6.toNatClampNeg) then
        nm (0 : Int32) fun v8 =>
        nm (x6 + (-1)) fun v9 =>
        REC v5 v8 v9 h4
      else
        nm (1 : Int32) fun v10 =>
        nm (x6 + (-1)) fun v11 =>
        REC v5 v10 v11 h4
set_option maxHeartbeats 4000000 in
set_option maxRecDepth 100000 in
theorem w_X3_ask_L19b {p0 : Program} {l : Launch} {e : Env} {s : State} {m : MethodId} {args : Array Value} {below : List Frame} {meth : Method} {c : Code} {Q : State → Prop} {D : va_G} {G : GG} {A : Nat → Prop} {H0 : Heap} {ad : Nat → Nat} {lay : List KK} {X : va_W} {ρ : Type} {p : Nat} {r0 : ρ} {z2 : Int32} {x4 : Int32} {x5 : Int32} {x6 : Int32} {h : PH} {H : Heap} {locs : List Loc} {ls : Array Slot} {K1 : Int32 → PH → Option ρ} {REC : Int32 → Int32 → Int32 → PH → Option ρ} (hM : CallFix p0 m c cX3_ask 7 s args lw_g RX3) (ho : okX3 lay p) (hk1 : ∀ (x5 : Int32) (h : PH), ∀ (H : Heap) (locs : List Loc) (ls : Array Slot), K1 x5 h = some r0 → Wd D G A H0 ad lay X h s H locs → lv_has ls 7 [(5, .int x5)] → W p0 l e (rmN 1 21) s m args below meth c H locs 0 0 Q (F0 m 72 ls [])) (hrec : ∀ (x4 : Int32) (x5 : Int32) (x6 : Int32) (h : PH), ∀ (H : Heap) (locs : List Loc) (ls : Array Slot), REC x4 x5 x6 h = some r0 → Wd D G A H0 ad lay X h s H locs → lv_has ls 7 [(0, .ref (ad p)), (2, .int z2), (4, .int x4), (5, .int x5), (6, .int x6)] → W p0 l e (rmN 1 21) s m args below meth c H locs 0 0 Q (F0 m 19 ls [])) (hw : Wd D G A H0 ad lay X h s H locs) (hl : lv_has ls 7 [(0, .ref (ad p)), (2, .int z2), (4, .int x4), (5, .int x5), (6, .int x6)]) (hf : c_X3_ask_L19b p z2 K1 REC x4 x5 x6 h = some r0) : W p0 l e (rmN 1 21) s m args below meth c H locs 0 0 Q (F0 m 19 ls []) := by
  unfold c_X3_ask_L19b at hf
  refine lv_iload hM.1 hM.2.1 dX3_ask_19 (lv_at hl 4 rfl) ?_
  refine x_if_lt (tgt := 72) hM hf dX3_ask_21 (by decide) (fun hf => ?_) (fun hf => ?_)
  · exact hk1 _ _ _ _ _ hf hw (lv_sub hl [3] rfl)
  refine lv_aload_n hM.1 hM.2.1 dX3_ask_24 rfl (lv_at hl 0 rfl) ?_
  refine gf_X3_prices hM hw (okX3.o ho) fl_X3_9 dX3_ask_25 ?_
  refine lv_iload hM.1 hM.2.1 dX3_ask_28 (lv_at hl 4 rfl) ?_
  refine lv_iload hM.1 hM.2.1 dX3_ask_30 (lv_at hl 2 rfl) ?_
  refine lv_bipush (v := 7) hM.1 hM.2.1 dX3_ask_32 (by decide) ?_
  refine x_iremK hM (by decide) dX3_ask_34 ?_
  refine x_iast hM hw (okX3.prices ho) hf dX3_ask_35 (fun h4 H locs hf hw => ?_)
  refine lv_iload hM.1 hM.2.1 dX3_ask_36 (lv_at hl 2 rfl) ?_
  refine lv_bipush (v := 7) hM.1 hM.2.1 dX3_ask_38 (by decide) ?_
  refine lv_idiv hM.1 hM.2.1 dX3_ask_40 (by decide) ?_
  refine x_istore hM hf dX3_ask_41 hl (by decide) (fun v5 => [(4, .int v5), (0, .ref (ad p)), (2, .int z2), (5, .int x5), (6, .int x6)]) (fun _ => rfl) (fun v5 ls hf hl => ?_)
  refine lv_iload hM.1 hM.2.1 dX3_ask_43 (lv_at hl 3 rfl) ?_
  refine x_if_eq (tgt := 63) hM hf dX3_ask_45 (by decide) (fun hf => ?_) (fun hf => ?_)
  · refine lv_iconst (v := 0) hM.1 hM.2.1 dX3_ask_63 ic_0 ?_
    refine x_istore hM hf dX3_ask_64 hl (by decide) (fun v6 => [(5, .int v6), (4, .int v5), (0, .ref (ad p)), (2, .int z2), (6, .int x6)]) (fun _ => rfl) (fun v6 ls hf hl => ?_)
    refine x_iinc (k := 4) (d := (-1)) hM hf dX3_ask_66 hl rfl (by decide) (by decide) (fun v7 => [(6, .int v7), (5, .int v6), (4, .int v5), (0, .ref (ad p)), (2, .int z2)]) (fun _ => rfl) (fun v7 ls hf hl => ?_)
    refine lv_goto (tgt := 19) hM.1 hM.2.1 dX3_ask_69 (by decide) ?_
    exact hrec _ _ _ _ _ _ _ hf hw (lv_sub hl [3, 4, 2, 1, 0] rfl)
  refine lv_aload_n hM.1 hM.2.1 dX3_ask_48 rfl (lv_at hl 1 rfl) ?_
  refine gf_X3_prices hM hw (okX3.o ho) fl_X3_9 dX3_ask_49 ?_
  refine lv_iload hM.1 hM.2.1 dX3_ask_52 (lv_at hl 4 rfl) ?_
  refine x_iald hM hw (okX3.prices ho) hf dX3_ask_54 (fun hf => ?_)
  refine lv_iload_n hM.1 hM.2.1 dX3_ask_55 rfl (lv_at hl 2 rfl) ?_
  refine x_ic_gt (tgt := 63) hM hf dX3_ask_56 (by decide) (fun hf => ?_) (fun hf => ?_)
  · refine lv_iconst (v := 0) hM.1 hM.2.1 dX3_ask_63 ic_0 ?_
    refine x_istore hM hf dX3_ask_64 hl (by decide) (fun v8 => [(5, .int v8), (4, .int v5), (0, .ref (ad p)), (2, .int z2), (6, .int x6)]) (fun _ => rfl) (fun v8 ls hf hl => ?_)
    refine x_iinc (k := 4) (d := (-1)) hM hf dX3_ask_66 hl rfl (by decide) (by decide) (fun v9 => [(6, .int v9), (5, .int v8), (4, .int v5), (0, .ref (ad p)), (2, .int z2)]) (fun _ => rfl) (fun v9 ls hf hl => ?_)
    refine lv_goto (tgt := 19) hM.1 hM.2.1 dX3_ask_69 (by decide) ?_
    exact hrec _ _ _ _ _ _ _ hf hw (lv_sub hl [3, 4, 2, 1, 0] rfl)
  refine lv_iconst (v := 1) hM.1 hM.2.1 dX3_ask_59 ic_1 ?_
  refine lv_goto (tgt := 64) hM.1 hM.2.1 dX3_ask_60 (by decide) ?_
  refine x_istore hM hf dX3_ask_64 hl (by decide) (fun v10 => [(5, .int v10), (4, .int v5), (0, .ref (ad p)), (2, .int z2), (6, .int x6)]) (fun _ => rfl) (fun v10 ls hf hl => ?_)
  refine x_iinc (k := 4) (d := (-1)) hM hf dX3_ask_66 hl rfl (by decide) (by decide) (fun v11 => [(6, .int v11), (5, .int v10), (4, .int v5), (0, .ref (ad p)), (2, .int z2)]) (fun _ => rfl) (fun v11 ls hf hl => ?_)
  refine lv_goto (tgt := 19) hM.1 hM.2.1 dX3_ask_69 (by decide) ?_
  exact hrec _ _ _ _ _ _ _ hf hw (lv_sub hl [3, 4, 2, 1, 0] rfl)
set_option maxHeartbeats 4000000 in
set_option maxRecDepth 100000 in
theorem w_X3_ask_L19 {p0 : Program} {l : Launch} {e : Env} {s : State} {m : MethodId} {args : Array Value} {below : List Frame} {meth : Method} {c : Code} {Q : State → Prop} {D : va_G} {G : GG} {A : Nat → Prop} {H0 : Heap} {ad : Nat → Nat} {lay : List KK} {X : va_W} {ρ : Type} {p : Nat} {r0 : ρ} {z2 : Int32} {K1 : Int32 → PH → Option ρ} (hM : CallFix p0 m c cX3_ask 7 s args lw_g RX3) (ho : okX3 lay p) (hk1 : ∀ (x5 : Int32) (h : PH), ∀ (H : Heap) (locs : List Loc) (ls : Array Slot), K1 x5 h = some r0 → Wd D G A H0 ad lay X h s H locs → lv_has ls 7 [(5, .int x5)] → W p0 l e (rmN 1 21) s m args below meth c H locs 0 0 Q (F0 m 72 ls [])) (n : Nat) (x4 : Int32) (x5 : Int32) (x6 : Int32) (h : PH) (hf : lq4 (c_X3_ask_L19b p z2 K1) n x4 x5 x6 h = some r0) : ∀ (H : Heap) (locs : List Loc) (ls : Array Slot), Wd D G A H0 ad lay X h s H locs → lv_has ls 7 [(0, .ref (ad p)), (2, .int z2), (4, .int x4), (5, .int x5), (6, .int x6)] → W p0 l e (rmN 1 21) s m args below meth c H locs 0 0 Q (F0 m 19 ls []) := by
  exact lq4_i (fun (x4 : Int32) (x5 : Int32) (x6 : Int32) (h : PH) => ∀ (H : Heap) (locs : List Loc) (ls : Array Slot), Wd D G A H0 ad lay X h s H locs → lv_has ls 7 [(0, .ref (ad p)), (2, .int z2), (4, .int x4), (5, .int x5), (6, .int x6)] → W p0 l e (rmN 1 21) s m args below meth c H locs 0 0 Q (F0 m 19 ls [])) (fun REC x4 x5 x6 h ih hf H locs ls hw hl => w_X3_ask_L19b hM ho hk1 (fun x4 x5 x6 h H locs ls hf hw hl => ih x4 x5 x6 h hf H locs ls hw hl) hw hl hf) n x4 x5 x6 h hf
def c_X3_ask (p : Nat) (a1 : Int32) (a2 : Int32) (a3 : Int32) (h : PH) : Option (Int32 × PH) :=
  nm a3 fun v1 =>
  nm (1 : Int32) fun v2 =>
  nm ((jmin a1 3) - 1) fun v3 =>
  lq4 (c_X3_ask_L19b p a2
    (fun w12 h13 =>
      gd (zOK w12) <| some (w12, h13))) fu v1 v2 v3 h
set_option maxHeartbeats 4000000 in
set_option maxRecDepth 100000 in
theorem ct_X3_ask (l : Launch) {lay : List KK} {p : Nat} (ho : okX3 lay p) (a1 : Int32) (a2 : Int32) (a3 : Int32) : CtI l yX3_ask cX3_ask 7 (some .boolean) 1 21 lay (fun h => c_X3_ask p a1 a2 a3 h) (fun ad => [.ref (ad p), .int a1, .int a2, .int a3]) := by
  refine CtI.mk' RX3 (by decide) rfl (fun _ => Nat.le_of_ble_eq_true rfl) ?_
  intro p0 e s m args below meth c D G A H0 ad X h r0 H ls Q hM hw hl hf hR
  have hl : lv_has ls 7 [(0, .ref (ad p)), (1, .int a1), (2, .int a2), (3, .int a3)] := hl
  unfold c_X3_ask at hf
  refine lv_iload_n hM.1 hM.2.1 dX3_ask_0 rfl (lv_at hl 3 rfl) ?_
  refine x_istore hM hf dX3_ask_1 hl (by decide) (fun v1 => [(4, .int v1), (0, .ref (ad p)), (1, .int a1), (2, .int a2), (3, .int a3)]) (fun _ => rfl) (fun v1 ls hf hl => ?_)
  refine lv_iconst (v := 1) hM.1 hM.2.1 dX3_ask_3 ic_1 ?_
  refine x_istore hM hf dX3_ask_4 hl (by decide) (fun v2 => [(5, .int v2), (4, .int v1), (0, .ref (ad p)), (1, .int a1), (2, .int a2), (3, .int a3)]) (fun _ => rfl) (fun v2 ls hf hl => ?_)
  refine lv_iload_n hM.1 hM.2.1 dX3_ask_6 rfl (lv_at hl 3 rfl) ?_
  refine lv_aload_n hM.1 hM.2.1 dX3_ask_7 rfl (lv_at hl 2 rfl) ?_
  refine gf_X3_prices hM hw (okX3.o ho) fl_X3_9 dX3_ask_8 ?_
  refine x_alen (v := 3) hM hw (okX3.prices ho) (by decide) dX3_ask_11 ?_
  refine x_mmin hM hl.1 hcs0 ml_X3_23 sm_J9_min_7cf53 in_J9 kc_J9_min_7cf53 (Nat.le_of_ble_eq_true rfl) (Nat.le_of_ble_eq_true rfl) dX3_ask_12 ?_
  refine lv_iconst (v := 1) hM.1 hM.2.1 dX3_ask_15 ic_1 ?_
  refine lv_isub hM.1 hM.2.1 dX3_ask_16 ?_
  refine x_istore hM hf dX3_ask_17 hl (by decide) (fun v3 => [(6, .int v3), (5, .int v2), (4, .int v1), (0, .ref (ad p)), (1, .int a1), (2, .int a2), (3, .int a3)]) (fun _ => rfl) (fun v3 ls hf hl => ?_)
  refine w_X3_ask_L19 hM ho (fun w12 h13 H locs ls hf hw hl => ?_) fu _ _ _ _ hf _ _ _ hw (lv_sub hl [3, 5, 2, 1, 0] rfl)
  refine lv_iload hM.1 hM.2.1 dX3_ask_72 (lv_at hl 0 rfl) ?_
  obtain ⟨hz, hf⟩ := x_cond hf
  exact hR _ _ _ _ _ _ _ (Option.some.inj hf) rfl (nar_z hz) hw dX3_ask_74
theorem hd_X3_ask : yX3_ask.cls = RX3 ∧ yX3_ask.cls ≠ "java/lang/invoke/MethodHandle" ∧ yX3_ask.cls ≠ "java/lang/invoke/VarHandle" ∧ (parseMethodDescriptor yX3_ask.desc).map (fun d => d.parameters.length) = some 3 := ⟨rfl, by decide, by decide, by decide +kernel⟩
theorem dX3_gain_0 : decode cX3_gain 0 = .ok (.iconst 0, 1) := by decide +kernel
theorem dX3_gain_1 : decode cX3_gain 1 = .ok (.istore 5, 2) := by decide +kernel
theorem dX3_gain_3 : decode cX3_gain 3 = .ok (.iconst 0, 1) := by decide +kernel
theorem dX3_gain_4 : decode cX3_gain 4 = .ok (.istore 6, 2) := by decide +kernel
theorem dX3_gain_6 : decode cX3_gain 6 = .ok (.iload 6, 2) := by decide +kernel
theorem dX3_gain_8 : decode cX3_gain 8 = .ok (.iload_n 1, 1) := by decide +kernel
theorem dX3_gain_9 : decode cX3_gain 9 = .ok (.if_icmp .ge 65, 3) := by decide +kernel
theorem dX3_gain_12 : decode cX3_gain 12 = .ok (.iload 6, 2) := by decide +kernel
theorem dX3_gain_14 : decode cX3_gain 14 = .ok (.aload_n 0, 1) := by decide +kernel
theorem dX3_gain_15 : decode cX3_gain 15 = .ok (.getfield 9, 3) := by decide +kernel
theorem dX3_gain_18 : decode cX3_gain 18 = .ok (.arraylength, 1) := by decide +kernel
theorem dX3_gain_19 : decode cX3_gain 19 = .ok (.if_icmp .ge 55, 3) := by decide +kernel
theorem dX3_gain_22 : decode cX3_gain 22 = .ok (.aload_n 0, 1) := by decide +kernel
theorem dX3_gain_23 : decode cX3_gain 23 = .ok (.getfield 9, 3) := by decide +kernel
theorem dX3_gain_26 : decode cX3_gain 26 = .ok (.iload 6, 2) := by decide +kernel
theorem dX3_gain_28 : decode cX3_gain 28 = .ok (.iaload, 1) := by decide +kernel
theorem dX3_gain_29 : decode cX3_gain 29 = .ok (.aload_n 0, 1) := by decide +kernel
theorem dX3_gain_30 : decode cX3_gain 30 = .ok (.getfield 9, 3) := by decide +kernel
theorem dX3_gain_33 : decode cX3_gain 33 = .ok (.iload 4, 2) := by decide +kernel
theorem dX3_gain_35 : decode cX3_gain 35 = .ok (.iaload, 1) := by decide +kernel
theorem dX3_gain_36 : decode cX3_gain 36 = .ok (.if_icmp .ge 5, 3) := by decide +kernel
theorem dX3_gain_39 : decode cX3_gain 39 = .ok (.iconst 0, 1) := by decide +kernel
theorem dX3_gain_40 : decode cX3_gain 40 = .ok (.ireturn, 1) := by decide +kernel
theorem dX3_gain_41 : decode cX3_gain 41 = .ok (.iload 5, 2) := by decide +kernel
theorem dX3_gain_43 : decode cX3_gain 43 = .ok (.aload_n 0, 1) := by decide +kernel
theorem dX3_gain_44 : decode cX3_gain 44 = .ok (.getfield 9, 3) := by decide +kernel
theorem dX3_gain_47 : decode cX3_gain 47 = .ok (.iload 6, 2) := by decide +kernel
theorem dX3_gain_49 : decode cX3_gain 49 = .ok (.iaload, 1) := by decide +kernel
theorem dX3_gain_50 : decode cX3_gain 50 = .ok (.aload_n 0, 1) := by decide +kernel
theorem dX3_gain_51 : decode cX3_gain 51 = .ok (.getfield 9, 3) := by decide +kernel
theorem dX3_gain_54 : decode cX3_gain 54 = .ok (.iload 4, 2) := by decide +kernel
theorem dX3_gain_56 : decode cX3_gain 56 = .ok (.iaload, 1) := by decide +kernel
theorem dX3_gain_57 : decode cX3_gain 57 = .ok (.if_icmp .ne 7, 3) := by decide +kernel
theorem dX3_gain_60 : decode cX3_gain 60 = .ok (.iconst 1, 1) := by decide +kernel
theorem dX3_gain_61 : decode cX3_gain 61 = .ok (.goto 4, 3) := by decide +kernel
theorem dX3_gain_64 : decode cX3_gain 64 = .ok (.iconst 0, 1) := by decide +kernel
theorem dX3_gain_65 : decode cX3_gain 65 = .ok (.iadd, 1) := by decide +kernel
theorem dX3_gain_66 : decode cX3_gain 66 = .ok (.istore 5, 2) := by decide +kernel
theorem dX3_gain_68 : decode cX3_gain 68 = .ok (.iinc 6 1, 3) := by decide +kernel
theorem dX3_gain_71 : decode cX3_gain 71 = .ok (.goto (-65), 3) := by decide +kernel
theorem dX3_gain_74 : decode cX3_gain 74 = .ok (.iload 5, 2) := by decide +kernel
theorem dX3_gain_76 : decode cX3_gain 76 = .ok (.ifCond .le 20, 3) := by decide +kernel
theorem dX3_gain_79 : decode cX3_gain 79 = .ok (.iload_n 3, 1) := by decide +kernel
theorem dX3_gain_80 : decode cX3_gain 80 = .ok (.iload 5, 2) := by decide +kernel
theorem dX3_gain_82 : decode cX3_gain 82 = .ok (.idiv, 1) := by decide +kernel
theorem dX3_gain_83 : decode cX3_gain 83 = .ok (.aload_n 0, 1) := by decide +kernel
theorem dX3_gain_84 : decode cX3_gain 84 = .ok (.getfield 9, 3) := by decide +kernel
theorem dX3_gain_87 : decode cX3_gain 87 = .ok (.iload 4, 2) := by decide +kernel
theorem dX3_gain_89 : decode cX3_gain 89 = .ok (.iaload, 1) := by decide +kernel
theorem dX3_gain_90 : decode cX3_gain 90 = .ok (.iload_n 2, 1) := by decide +kernel
theorem dX3_gain_91 : decode cX3_gain 91 = .ok (.isub, 1) := by decide +kernel
theorem dX3_gain_92 : decode cX3_gain 92 = .ok (.imul, 1) := by decide +kernel
theorem dX3_gain_93 : decode cX3_gain 93 = .ok (.goto 4, 3) := by decide +kernel
theorem dX3_gain_96 : decode cX3_gain 96 = .ok (.iconst 0, 1) := by decide +kernel
theorem dX3_gain_97 : decode cX3_gain 97 = .ok (.ireturn, 1) := by decide +kernel
def c_X3_gain_L6b {ρ : Type}  (p : Nat) (z1 : Int32) (z2 : Int32) (z3 : Int32) (z4 : Int32) (h : PH) (K1 : Option ρ) (K2 : Int32 → Option ρ) (REC : Int32 → Int32 → Option ρ) (x5 : Int32) (x6 : Int32) : Option ρ :=
  if z1 ≤ x6 then
    K2 x5
  else
    if 3 ≤ x6 then
      K2 x5
    else
      gd (ixOK x6 3) <|
      gd (ixOK z4 3) <|
      if (h.1 (p + 1) z4.toNatClampNeg) ≤ (h.1 (p + 1) x6.toNatClampNeg) then
        gd (ixOK x6 3) <|
        gd (ixOK z4 3) <|
        if (h.1 (p + 1) x6.toNatClampNeg) = (h.1 (p + 1) z4.toNatClampNeg) then
          nm (x5 + 1) fun v5 =>
          nm (x6 + 1) fun v6 =>
          REC v5 v6
        else
          nm (x5 + 0) fun v3 =>
          nm (x6 + 1) fun v4 =>
          REC v3 v4
      else
        K1
set_option maxHeartbeats 4000000 in
set_option maxRecDepth 100000 in
theorem w_X3_gain_L6b {p0 : Program} {l : Launch} {e : Env} {s : State} {m : MethodId} {args : Array Value} {below : List Frame} {meth : Method} {c : Code} {Q : State → Prop} {D : va_G} {G : GG} {A : Nat → Prop} {H0 : Heap} {ad : Nat → Nat} {lay : List KK} {X : va_W} {ρ : Type} {p : Nat} {r0 : ρ} {z1 : Int32} {z2 : Int32} {z3 : Int32} {z4 : Int32} {x5 : Int32} {x6 : Int32} {h : PH} {H : Heap} {locs : List Loc} {ls : Array Slot} {K1 : Option ρ} {K2 : Int32 → Option ρ} {REC : Int32 → Int32 → Option ρ} (hM : CallFix p0 m c cX3_gain 7 s args lw_g RX3) (ho : okX3 lay p) (hk1 : ∀ (H : Heap) (locs : List Loc) (ls : Array Slot), K1 = some r0 → Wd D G A H0 ad lay X h s H locs → lv_has ls 7 [] → W p0 l e (rmN 0 0) s m args below meth c H locs 0 0 Q (F0 m 39 ls [])) (hk2 : ∀ (x5 : Int32), ∀ (H : Heap) (locs : List Loc) (ls : Array Slot), K2 x5 = some r0 → Wd D G A H0 ad lay X h s H locs → lv_has ls 7 [(0, .ref (ad p)), (2, .int z2), (3, .int z3), (4, .int z4), (5, .int x5)] → W p0 l e (rmN 0 0) s m args below meth c H locs 0 0 Q (F0 m 74 ls [])) (hrec : ∀ (x5 : Int32) (x6 : Int32), ∀ (H : Heap) (locs : List Loc) (ls : Array Slot), REC x5 x6 = some r0 → Wd D G A H0 ad lay X h s H locs → lv_has ls 7 [(0, .ref (ad p)), (1, .int z1), (2, .int z2), (3, .int z3), (4, .int z4), (5, .int x5), (6, .int x6)] → W p0 l e (rmN 0 0) s m args below meth c H locs 0 0 Q (F0 m 6 ls [])) (hw : Wd D G A H0 ad lay X h s H locs) (hl : lv_has ls 7 [(0, .ref (ad p)), (1, .int z1), (2, .int z2), (3, .int z3), (4, .int z4), (5, .int x5), (6, .int x6)]) (hf : c_X3_gain_L6b p z1 z2 z3 z4 h K1 K2 REC x5 x6 = some r0) : W p0 l e (rmN 0 0) s m args below meth c H locs 0 0 Q (F0 m 6 ls []) := by
  unfold c_X3_gain_L6b at hf
  refine lv_iload hM.1 hM.2.1 dX3_gain_6 (lv_at hl 6 rfl) ?_
  refine lv_iload_n hM.1 hM.2.1 dX3_gain_8 rfl (lv_at hl 1 rfl) ?_
  refine x_ic_ge (tgt := 74) hM hf dX3_gain_9 (by decide) (fun hf => ?_) (fun hf => ?_)
  · exact hk2 _ _ _ _ hf hw (lv_sub hl [0, 2, 3, 4, 5] rfl)
  refine lv_iload hM.1 hM.2.1 dX3_gain_12 (lv_at hl 6 rfl) ?_
  refine lv_aload_n hM.1 hM.2.1 dX3_gain_14 rfl (lv_at hl 0 rfl) ?_
  refine gf_X3_prices hM hw (okX3.o ho) fl_X3_9 dX3_gain_15 ?_
  refine x_alen (v := 3) hM hw (okX3.prices ho) (by decide) dX3_gain_18 ?_
  refine x_ic_ge (tgt := 74) hM hf dX3_gain_19 (by decide) (fun hf => ?_) (fun hf => ?_)
  · exact hk2 _ _ _ _ hf hw (lv_sub hl [0, 2, 3, 4, 5] rfl)
  refine lv_aload_n hM.1 hM.2.1 dX3_gain_22 rfl (lv_at hl 0 rfl) ?_
  refine gf_X3_prices hM hw (okX3.o ho) fl_X3_9 dX3_gain_23 ?_
  refine lv_iload hM.1 hM.2.1 dX3_gain_26 (lv_at hl 6 rfl) ?_
  refine x_iald hM hw (okX3.prices ho) hf dX3_gain_28 (fun hf => ?_)
  refine lv_aload_n hM.1 hM.2.1 dX3_gain_29 rfl (lv_at hl 0 rfl) ?_
  refine gf_X3_prices hM hw (okX3.o ho) fl_X3_9 dX3_gain_30 ?_
  refine lv_iload hM.1 hM.2.1 dX3_gain_33 (lv_at hl 4 rfl) ?_
  refine x_iald hM hw (okX3.prices ho) hf dX3_gain_35 (fun hf => ?_)
  refine x_ic_ge (tgt := 41) hM hf dX3_gain_36 (by decide) (fun hf => ?_) (fun hf => ?_)
  · refine lv_iload hM.1 hM.2.1 dX3_gain_41 (lv_at hl 5 rfl) ?_
    refine lv_aload_n hM.1 hM.2.1 dX3_gain_43 rfl (lv_at hl 0 rfl) ?_
    refine gf_X3_prices hM hw (okX3.o ho) fl_X3_9 dX3_gain_44 ?_
    refine lv_iload hM.1 hM.2.1 dX3_gain_47 (lv_at hl 6 rfl) ?_
    refine x_iald hM hw (okX3.prices ho) hf dX3_gain_49 (fun hf => ?_)
    refine lv_aload_n hM.1 hM.2.1 dX3_gain_50 rfl (lv_at hl 0 rfl) ?_
    refine gf_X3_prices hM hw (okX3.o ho) fl_X3_9 dX3_gain_51 ?_
    refine lv_iload hM.1 hM.2.1 dX3_gain_54 (lv_at hl 4 rfl) ?_
    refine x_iald hM hw (okX3.prices ho) hf dX3_gain_56 (fun hf => ?_)
    refine x_ic_ne (tgt := 64) hM hf dX3_gain_57 (by decide) (fun hf => ?_) (fun hf => ?_)
    · refine lv_iconst (v := 0) hM.1 hM.2.1 dX3_gain_64 ic_0 ?_
      refine lv_iadd hM.1 hM.2.1 dX3_gain_65 ?_
      refine x_istore hM hf dX3_gain_66 hl (by decide) (fun v3 => [(5, .int v3), (0, .ref (ad p)), (1, .int z1), (2, .int z2), (3, .int z3), (4, .int z4), (6, .int x6)]) (fun _ => rfl) (fun v3 ls hf hl => ?_)
      refine x_iinc (k := 6) (d := 1) hM hf dX3_gain_68 hl rfl (by decide) (by decide) (fun v4 => [(6, .int v4), (5, .int v3), (0, .ref (ad p)), (1, .int z1), (2, .int z2), (3, .int z3), (4, .int z4)]) (fun _ => rfl) (fun v4 ls hf hl => ?_)
      refine lv_goto (tgt := 6) hM.1 hM.2.1 dX3_gain_71 (by decide) ?_
      exact hrec _ _ _ _ _ hf hw (lv_sub hl [2, 3, 4, 5, 6, 1, 0] rfl)
    refine lv_iconst (v := 1) hM.1 hM.2.1 dX3_gain_60 ic_1 ?_
    refine lv_goto (tgt := 65) hM.1 hM.2.1 dX3_gain_61 (by decide) ?_
    refine lv_iadd hM.1 hM.2.1 dX3_gain_65 ?_
    refine x_istore hM hf dX3_gain_66 hl (by decide) (fun v5 => [(5, .int v5), (0, .ref (ad p)), (1, .int z1), (2, .int z2), (3, .int z3), (4, .int z4), (6, .int x6)]) (fun _ => rfl) (fun v5 ls hf hl => ?_)
    refine x_iinc (k := 6) (d := 1) hM hf dX3_gain_68 hl rfl (by decide) (by decide) (fun v6 => [(6, .int v6), (5, .int v5), (0, .ref (ad p)), (1, .int z1), (2, .int z2), (3, .int z3), (4, .int z4)]) (fun _ => rfl) (fun v6 ls hf hl => ?_)
    refine lv_goto (tgt := 6) hM.1 hM.2.1 dX3_gain_71 (by decide) ?_
    exact hrec _ _ _ _ _ hf hw (lv_sub hl [2, 3, 4, 5, 6, 1, 0] rfl)
  exact hk1 _ _ _ hf hw (lv_sub hl [] rfl)
set_option maxHeartbeats 4000000 in
set_option maxRecDepth 100000 in
theorem w_X3_gain_L6 {p0 : Program} {l : Launch} {e : Env} {s : State} {m : MethodId} {args : Array Value} {below : List Frame} {meth : Method} {c : Code} {Q : State → Prop} {D : va_G} {G : GG} {A : Nat → Prop} {H0 : Heap} {ad : Nat → Nat} {lay : List KK} {X : va_W} {ρ : Type} {p : Nat} {r0 : ρ} {z1 : Int32} {z2 : Int32} {z3 : Int32} {z4 : Int32} {h : PH} {K1 : Option ρ} {K2 : Int32 → Option ρ} (hM : CallFix p0 m c cX3_gain 7 s args lw_g RX3) (ho : okX3 lay p) (hk1 : ∀ (H : Heap) (locs : List Loc) (ls : Array Slot), K1 = some r0 → Wd D G A H0 ad lay X h s H locs → lv_has ls 7 [] → W p0 l e (rmN 0 0) s m args below meth c H locs 0 0 Q (F0 m 39 ls [])) (hk2 : ∀ (x5 : Int32), ∀ (H : Heap) (locs : List Loc) (ls : Array Slot), K2 x5 = some r0 → Wd D G A H0 ad lay X h s H locs → lv_has ls 7 [(0, .ref (ad p)), (2, .int z2), (3, .int z3), (4, .int z4), (5, .int x5)] → W p0 l e (rmN 0 0) s m args below meth c H locs 0 0 Q (F0 m 74 ls [])) (n : Nat) (x5 : Int32) (x6 : Int32) (hf : lq2 (c_X3_gain_L6b p z1 z2 z3 z4 h K1 K2) n x5 x6 = some r0) : ∀ (H : Heap) (locs : List Loc) (ls : Array Slot), Wd D G A H0 ad lay X h s H locs → lv_has ls 7 [(0, .ref (ad p)), (1, .int z1), (2, .int z2), (3, .int z3), (4, .int z4), (5, .int x5), (6, .int x6)] → W p0 l e (rmN 0 0) s m args below meth c H locs 0 0 Q (F0 m 6 ls []) := by
  exact lq2_i (fun (x5 : Int32) (x6 : Int32) => ∀ (H : Heap) (locs : List Loc) (ls : Array Slot), Wd D G A H0 ad lay X h s H locs → lv_has ls 7 [(0, .ref (ad p)), (1, .int z1), (2, .int z2), (3, .int z3), (4, .int z4), (5, .int x5), (6, .int x6)] → W p0 l e (rmN 0 0) s m args below meth c H locs 0 0 Q (F0 m 6 ls [])) (fun REC x5 x6 ih hf H locs ls hw hl => w_X3_gain_L6b hM ho hk1 hk2 (fun x5 x6 H locs ls hf hw hl => ih x5 x6 hf H locs ls hw hl) hw hl hf) n x5 x6 hf
def c_X3_gain_j74  (p : Nat) (x2 : Int32) (x3 : Int32) (x4 : Int32) (x5 : Int32) (h : PH) : Option (Int32) :=
  if x5 ≤ 0 then
    some 0
  else
    if x5 = 0 then none else
    gd (ixOK x4 3) <|
    some ((x3 / x5) * ((h.1 (p + 1) x4.toNatClampNeg) - x2))
set_option maxHeartbeats 4000000 in
set_option maxRecDepth 100000 in
theorem w_X3_gain_j74 {p0 : Program} {l : Launch} {e : Env} {s : State} {m : MethodId} {args : Array Value} {below : List Frame} {meth : Method} {c : Code} {Q : State → Prop} {D : va_G} {G : GG} {A : Nat → Prop} {H0 : Heap} {ad : Nat → Nat} {lay : List KK} {X : va_W} {p : Nat} {r0 : Int32} {x2 : Int32} {x3 : Int32} {x4 : Int32} {x5 : Int32} {h : PH} {H : Heap} {locs : List Loc} {ls : Array Slot} (hM : CallFix p0 m c cX3_gain 7 s args lw_g RX3) (ho : okX3 lay p) (hR : RtI p0 l e (rmN 0 0) s m args below meth c cX3_gain D G A H0 ad lay X (some .int) (r0, h) Q 0 0) (hw : Wd D G A H0 ad lay X h s H locs) (hl : lv_has ls 7 [(0, .ref (ad p)), (2, .int x2), (3, .int x3), (4, .int x4), (5, .int x5)]) (hf : c_X3_gain_j74 p x2 x3 x4 x5 h = some r0) : W p0 l e (rmN 0 0) s m args below meth c H locs 0 0 Q (F0 m 74 ls []) := by
  unfold c_X3_gain_j74 at hf
  refine lv_iload hM.1 hM.2.1 dX3_gain_74 (lv_at hl 4 rfl) ?_
  refine x_if_le (tgt := 96) hM hf dX3_gain_76 (by decide) (fun hf => ?_) (fun hf => ?_)
  · refine lv_iconst (v := 0) hM.1 hM.2.1 dX3_gain_96 ic_0 ?_
    exact hR _ _ _ _ _ _ _ (congrArg (fun z => (z, _)) (Option.some.inj hf)) rfl rfl hw dX3_gain_97
  refine lv_iload_n hM.1 hM.2.1 dX3_gain_79 rfl (lv_at hl 2 rfl) ?_
  refine lv_iload hM.1 hM.2.1 dX3_gain_80 (lv_at hl 4 rfl) ?_
  refine x_idiv hM hf dX3_gain_82 (fun hf => ?_)
  refine lv_aload_n hM.1 hM.2.1 dX3_gain_83 rfl (lv_at hl 0 rfl) ?_
  refine gf_X3_prices hM hw (okX3.o ho) fl_X3_9 dX3_gain_84 ?_
  refine lv_iload hM.1 hM.2.1 dX3_gain_87 (lv_at hl 3 rfl) ?_
  refine x_iald hM hw (okX3.prices ho) hf dX3_gain_89 (fun hf => ?_)
  refine lv_iload_n hM.1 hM.2.1 dX3_gain_90 rfl (lv_at hl 1 rfl) ?_
  refine lv_isub hM.1 hM.2.1 dX3_gain_91 ?_
  refine lv_imul hM.1 hM.2.1 dX3_gain_92 ?_
  refine lv_goto (tgt := 97) hM.1 hM.2.1 dX3_gain_93 (by decide) ?_
  exact hR _ _ _ _ _ _ _ (congrArg (fun z => (z, _)) (Option.some.inj hf)) rfl rfl hw dX3_gain_97
def c_X3_gain (p : Nat) (a1 : Int32) (a2 : Int32) (a3 : Int32) (a4 : Int32) (h : PH) : Option (Int32) :=
  nm (0 : Int32) fun v1 =>
  nm (0 : Int32) fun v2 =>
  lq2 (c_X3_gain_L6b p a1 a2 a3 a4 h
    (some 0)
    (fun w7 =>
      c_X3_gain_j74 p a2 a3 a4 w7 h)) fu v1 v2
set_option maxHeartbeats 4000000 in
set_option maxRecDepth 100000 in
theorem ct_X3_gain (l : Launch) {lay : List KK} {p : Nat} (ho : okX3 lay p) (a1 : Int32) (a2 : Int32) (a3 : Int32) (a4 : Int32) : CtI l yX3_gain cX3_gain 7 (some .int) 0 0 lay (rd (fun h => c_X3_gain p a1 a2 a3 a4 h)) (fun ad => [.ref (ad p), .int a1, .int a2, .int a3, .int a4]) := by
  refine CtI.mk' RX3 (by decide) rfl (fun _ => Nat.le_of_ble_eq_true rfl) ?_
  intro p0 e s m args below meth c D G A H0 ad X h r0 H ls Q hM hw hl hf hR
  have hl : lv_has ls 7 [(0, .ref (ad p)), (1, .int a1), (2, .int a2), (3, .int a3), (4, .int a4)] := hl
  obtain ⟨v0, hv0, hr0⟩ : ∃ v0, c_X3_gain p a1 a2 a3 a4 h = some v0 ∧ r0 = (v0, h) := rd_some hf
  subst hr0
  have hf := hv0
  unfold c_X3_gain at hf
  refine lv_iconst (v := 0) hM.1 hM.2.1 dX3_gain_0 ic_0 ?_
  refine x_istore hM hf dX3_gain_1 hl (by decide) (fun v1 => [(5, .int v1), (0, .ref (ad p)), (1, .int a1), (2, .int a2), (3, .int a3), (4, .int a4)]) (fun _ => rfl) (fun v1 ls hf hl => ?_)
  refine lv_iconst (v := 0) hM.1 hM.2.1 dX3_gain_3 ic_0 ?_
  refine x_istore hM hf dX3_gain_4 hl (by decide) (fun v2 => [(6, .int v2), (5, .int v1), (0, .ref (ad p)), (1, .int a1), (2, .int a2), (3, .int a3), (4, .int a4)]) (fun _ => rfl) (fun v2 ls hf hl => ?_)
  refine w_X3_gain_L6 hM ho (fun H locs ls hf hw hl => ?_) (fun w7 H locs ls hf hw hl => ?_) fu _ _ hf _ _ _ hw (lv_sub hl [2, 3, 4, 5, 6, 1, 0] rfl)
  · refine lv_iconst (v := 0) hM.1 hM.2.1 dX3_gain_39 ic_0 ?_
    exact hR _ _ _ _ _ _ _ (congrArg (fun z => (z, _)) (Option.some.inj hf)) rfl rfl hw dX3_gain_40
  · exact w_X3_gain_j74 hM ho hR hw hl hf
theorem hd_X3_gain : yX3_gain.cls = RX3 ∧ yX3_gain.cls ≠ "java/lang/invoke/MethodHandle" ∧ yX3_gain.cls ≠ "java/lang/invoke/VarHandle" ∧ (parseMethodDescriptor yX3_gain.desc).map (fun d => d.parameters.length) = some 4 := ⟨rfl, by decide, by decide, by decide +kernel⟩
theorem dX3_isRest_0 : decode cX3_isRest 0 = .ok (.iconst 0, 1) := by decide +kernel
theorem dX3_isRest_1 : decode cX3_isRest 1 = .ok (.istore 5, 2) := by decide +kernel
theorem dX3_isRest_3 : decode cX3_isRest 3 = .ok (.iload 5, 2) := by decide +kernel
theorem dX3_isRest_5 : decode cX3_isRest 5 = .ok (.iload_n 1, 1) := by decide +kernel
theorem dX3_isRest_6 : decode cX3_isRest 6 = .ok (.if_icmp .ge 110, 3) := by decide +kernel
theorem dX3_isRest_9 : decode cX3_isRest 9 = .ok (.iload 5, 2) := by decide +kernel
theorem dX3_isRest_11 : decode cX3_isRest 11 = .ok (.aload_n 0, 1) := by decide +kernel
theorem dX3_isRest_12 : decode cX3_isRest 12 = .ok (.getfield 9, 3) := by decide +kernel
theorem dX3_isRest_15 : decode cX3_isRest 15 = .ok (.arraylength, 1) := by decide +kernel
theorem dX3_isRest_16 : decode cX3_isRest 16 = .ok (.if_icmp .ge 100, 3) := by decide +kernel
theorem dX3_isRest_19 : decode cX3_isRest 19 = .ok (.aload_n 0, 1) := by decide +kernel
theorem dX3_isRest_20 : decode cX3_isRest 20 = .ok (.getfield 9, 3) := by decide +kernel
theorem dX3_isRest_23 : decode cX3_isRest 23 = .ok (.iload 5, 2) := by decide +kernel
theorem dX3_isRest_25 : decode cX3_isRest 25 = .ok (.iaload, 1) := by decide +kernel
theorem dX3_isRest_26 : decode cX3_isRest 26 = .ok (.istore 6, 2) := by decide +kernel
theorem dX3_isRest_28 : decode cX3_isRest 28 = .ok (.aload_n 0, 1) := by decide +kernel
theorem dX3_isRest_29 : decode cX3_isRest 29 = .ok (.iload_n 1, 1) := by decide +kernel
theorem dX3_isRest_30 : decode cX3_isRest 30 = .ok (.iload_n 3, 1) := by decide +kernel
theorem dX3_isRest_31 : decode cX3_isRest 31 = .ok (.iload 4, 2) := by decide +kernel
theorem dX3_isRest_33 : decode cX3_isRest 33 = .ok (.iload 5, 2) := by decide +kernel
theorem dX3_isRest_35 : decode cX3_isRest 35 = .ok (.invokevirtual 29, 3) := by decide +kernel
theorem dX3_isRest_38 : decode cX3_isRest 38 = .ok (.istore 7, 2) := by decide +kernel
theorem dX3_isRest_40 : decode cX3_isRest 40 = .ok (.iconst 0, 1) := by decide +kernel
theorem dX3_isRest_41 : decode cX3_isRest 41 = .ok (.istore 8, 2) := by decide +kernel
theorem dX3_isRest_43 : decode cX3_isRest 43 = .ok (.iconst 0, 1) := by decide +kernel
theorem dX3_isRest_44 : decode cX3_isRest 44 = .ok (.istore 9, 2) := by decide +kernel
theorem dX3_isRest_46 : decode cX3_isRest 46 = .ok (.iload 9, 2) := by decide +kernel
theorem dX3_isRest_48 : decode cX3_isRest 48 = .ok (.iload_n 2, 1) := by decide +kernel
theorem dX3_isRest_49 : decode cX3_isRest 49 = .ok (.if_icmp .gt 45, 3) := by decide +kernel
theorem dX3_isRest_52 : decode cX3_isRest 52 = .ok (.aload_n 0, 1) := by decide +kernel
theorem dX3_isRest_53 : decode cX3_isRest 53 = .ok (.getfield 9, 3) := by decide +kernel
theorem dX3_isRest_56 : decode cX3_isRest 56 = .ok (.iload 5, 2) := by decide +kernel
theorem dX3_isRest_58 : decode cX3_isRest 58 = .ok (.iload 9, 2) := by decide +kernel
theorem dX3_isRest_60 : decode cX3_isRest 60 = .ok (.iastore, 1) := by decide +kernel
theorem dX3_isRest_61 : decode cX3_isRest 61 = .ok (.iload 8, 2) := by decide +kernel
theorem dX3_isRest_63 : decode cX3_isRest 63 = .ok (.ifCond .ne 18, 3) := by decide +kernel
theorem dX3_isRest_66 : decode cX3_isRest 66 = .ok (.aload_n 0, 1) := by decide +kernel
theorem dX3_isRest_67 : decode cX3_isRest 67 = .ok (.iload_n 1, 1) := by decide +kernel
theorem dX3_isRest_68 : decode cX3_isRest 68 = .ok (.iload_n 3, 1) := by decide +kernel
theorem dX3_isRest_69 : decode cX3_isRest 69 = .ok (.iload 4, 2) := by decide +kernel
theorem dX3_isRest_71 : decode cX3_isRest 71 = .ok (.iload 5, 2) := by decide +kernel
theorem dX3_isRest_73 : decode cX3_isRest 73 = .ok (.invokevirtual 29, 3) := by decide +kernel
theorem dX3_isRest_76 : decode cX3_isRest 76 = .ok (.iload 7, 2) := by decide +kernel
theorem dX3_isRest_78 : decode cX3_isRest 78 = .ok (.if_icmp .le 7, 3) := by decide +kernel
theorem dX3_isRest_81 : decode cX3_isRest 81 = .ok (.iconst 1, 1) := by decide +kernel
theorem dX3_isRest_82 : decode cX3_isRest 82 = .ok (.goto 4, 3) := by decide +kernel
theorem dX3_isRest_85 : decode cX3_isRest 85 = .ok (.iconst 0, 1) := by decide +kernel
theorem dX3_isRest_86 : decode cX3_isRest 86 = .ok (.istore 8, 2) := by decide +kernel
theorem dX3_isRest_88 : decode cX3_isRest 88 = .ok (.iinc 9 1, 3) := by decide +kernel
theorem dX3_isRest_91 : decode cX3_isRest 91 = .ok (.goto (-45), 3) := by decide +kernel
theorem dX3_isRest_94 : decode cX3_isRest 94 = .ok (.aload_n 0, 1) := by decide +kernel
theorem dX3_isRest_95 : decode cX3_isRest 95 = .ok (.getfield 9, 3) := by decide +kernel
theorem dX3_isRest_98 : decode cX3_isRest 98 = .ok (.iload 5, 2) := by decide +kernel
theorem dX3_isRest_100 : decode cX3_isRest 100 = .ok (.iload 6, 2) := by decide +kernel
theorem dX3_isRest_102 : decode cX3_isRest 102 = .ok (.iastore, 1) := by decide +kernel
theorem dX3_isRest_103 : decode cX3_isRest 103 = .ok (.iload 8, 2) := by decide +kernel
theorem dX3_isRest_105 : decode cX3_isRest 105 = .ok (.ifCond .eq 5, 3) := by decide +kernel
theorem dX3_isRest_108 : decode cX3_isRest 108 = .ok (.iconst 0, 1) := by decide +kernel
theorem dX3_isRest_109 : decode cX3_isRest 109 = .ok (.ireturn, 1) := by decide +kernel
theorem dX3_isRest_110 : decode cX3_isRest 110 = .ok (.iinc 5 1, 3) := by decide +kernel
theorem dX3_isRest_113 : decode cX3_isRest 113 = .ok (.goto (-110), 3) := by decide +kernel
theorem dX3_isRest_116 : decode cX3_isRest 116 = .ok (.iconst 1, 1) := by decide +kernel
theorem dX3_isRest_117 : decode cX3_isRest 117 = .ok (.ireturn, 1) := by decide +kernel
def c_X3_isRest_L46b {ρ : Type}  (p : Nat) (z1 : Int32) (z2 : Int32) (z3 : Int32) (z4 : Int32) (z5 : Int32) (z6 : Int32) (z7 : Int32) (K1 : Int32 → PH → Option ρ) (REC : Int32 → Int32 → PH → Option ρ) (x8 : Int32) (x9 : Int32) (h : PH) : Option ρ :=
  if z2 < x9 then
    K1 x8 h
  else
    gd (ixOK z5 3) <| nm (setI h (p + 1) z5.toNatClampNeg x9) fun h7 =>
    if x8 = 0 then
      (c_X3_gain p z1 z3 z4 z5 h7).bind fun r10 =>
      if r10 ≤ z7 then
        nm (0 : Int32) fun v11 =>
        nm (x9 + 1) fun v12 =>
        REC v11 v12 h7
      else
        nm (1 : Int32) fun v13 =>
        nm (x9 + 1) fun v14 =>
        REC v13 v14 h7
    else
      nm (1 : Int32) fun v8 =>
      nm (x9 + 1) fun v9 =>
      REC v8 v9 h7
set_option maxHeartbeats 4000000 in
set_option maxRecDepth 100000 in
theorem w_X3_isRest_L46b {p0 : Program} {l : Launch} {e : Env} {s : State} {m : MethodId} {args : Array Value} {below : List Frame} {meth : Method} {c : Code} {Q : State → Prop} {D : va_G} {G : GG} {A : Nat → Prop} {H0 : Heap} {ad : Nat → Nat} {lay : List KK} {X : va_W} {ρ : Type} {p : Nat} {r0 : ρ} {z1 : Int32} {z2 : Int32} {z3 : Int32} {z4 : Int32} {z5 : Int32} {z6 : Int32} {z7 : Int32} {x8 : Int32} {x9 : Int32} {h : PH} {H : Heap} {locs : List Loc} {ls : Array Slot} {K1 : Int32 → PH → Option ρ} {REC : Int32 → Int32 → PH → Option ρ} (hM : CallFix p0 m c cX3_isRest 10 s args lw_g RX3) (ho : okX3 lay p) (hk1 : ∀ (x8 : Int32) (h : PH), ∀ (H : Heap) (locs : List Loc) (ls : Array Slot), K1 x8 h = some r0 → Wd D G A H0 ad lay X h s H locs → lv_has ls 10 [(0, .ref (ad p)), (1, .int z1), (2, .int z2), (3, .int z3), (4, .int z4), (5, .int z5), (6, .int z6), (8, .int x8)] → W p0 l e (rmN 1 26) s m args below meth c H locs 0 0 Q (F0 m 94 ls [])) (hrec : ∀ (x8 : Int32) (x9 : Int32) (h : PH), ∀ (H : Heap) (locs : List Loc) (ls : Array Slot), REC x8 x9 h = some r0 → Wd D G A H0 ad lay X h s H locs → lv_has ls 10 [(0, .ref (ad p)), (1, .int z1), (2, .int z2), (3, .int z3), (4, .int z4), (5, .int z5), (6, .int z6), (7, .int z7), (8, .int x8), (9, .int x9)] → W p0 l e (rmN 1 26) s m args below meth c H locs 0 0 Q (F0 m 46 ls [])) (hw : Wd D G A H0 ad lay X h s H locs) (hl : lv_has ls 10 [(0, .ref (ad p)), (1, .int z1), (2, .int z2), (3, .int z3), (4, .int z4), (5, .int z5), (6, .int z6), (7, .int z7), (8, .int x8), (9, .int x9)]) (hf : c_X3_isRest_L46b p z1 z2 z3 z4 z5 z6 z7 K1 REC x8 x9 h = some r0) : W p0 l e (rmN 1 26) s m args below meth c H locs 0 0 Q (F0 m 46 ls []) := by
  unfold c_X3_isRest_L46b at hf
  refine lv_iload hM.1 hM.2.1 dX3_isRest_46 (lv_at hl 9 rfl) ?_
  refine lv_iload_n hM.1 hM.2.1 dX3_isRest_48 rfl (lv_at hl 2 rfl) ?_
  refine x_ic_gt (tgt := 94) hM hf dX3_isRest_49 (by decide) (fun hf => ?_) (fun hf => ?_)
  · exact hk1 _ _ _ _ _ hf hw (lv_sub hl [0, 1, 2, 3, 4, 5, 6, 8] rfl)
  refine lv_aload_n hM.1 hM.2.1 dX3_isRest_52 rfl (lv_at hl 0 rfl) ?_
  refine gf_X3_prices hM hw (okX3.o ho) fl_X3_9 dX3_isRest_53 ?_
  refine lv_iload hM.1 hM.2.1 dX3_isRest_56 (lv_at hl 5 rfl) ?_
  refine lv_iload hM.1 hM.2.1 dX3_isRest_58 (lv_at hl 9 rfl) ?_
  refine x_iast hM hw (okX3.prices ho) hf dX3_isRest_60 (fun h7 H locs hf hw => ?_)
  refine lv_iload hM.1 hM.2.1 dX3_isRest_61 (lv_at hl 8 rfl) ?_
  refine x_if_ne (tgt := 81) hM hf dX3_isRest_63 (by decide) (fun hf => ?_) (fun hf => ?_)
  · refine lv_iconst (v := 1) hM.1 hM.2.1 dX3_isRest_81 ic_1 ?_
    refine lv_goto (tgt := 86) hM.1 hM.2.1 dX3_isRest_82 (by decide) ?_
    refine x_istore hM hf dX3_isRest_86 hl (by decide) (fun v8 => [(8, .int v8), (0, .ref (ad p)), (1, .int z1), (2, .int z2), (3, .int z3), (4, .int z4), (5, .int z5), (6, .int z6), (7, .int z7), (9, .int x9)]) (fun _ => rfl) (fun v8 ls hf hl => ?_)
    refine x_iinc (k := 9) (d := 1) hM hf dX3_isRest_88 hl rfl (by decide) (by decide) (fun v9 => [(9, .int v9), (8, .int v8), (0, .ref (ad p)), (1, .int z1), (2, .int z2), (3, .int z3), (4, .int z4), (5, .int z5), (6, .int z6), (7, .int z7)]) (fun _ => rfl) (fun v9 ls hf hl => ?_)
    refine lv_goto (tgt := 46) hM.1 hM.2.1 dX3_isRest_91 (by decide) ?_
    exact hrec _ _ _ _ _ _ hf hw (lv_sub hl [2, 3, 4, 5, 6, 7, 8, 9, 1, 0] rfl)
  refine lv_aload_n hM.1 hM.2.1 dX3_isRest_66 rfl (lv_at hl 0 rfl) ?_
  refine lv_iload_n hM.1 hM.2.1 dX3_isRest_67 rfl (lv_at hl 1 rfl) ?_
  refine lv_iload_n hM.1 hM.2.1 dX3_isRest_68 rfl (lv_at hl 3 rfl) ?_
  refine lv_iload hM.1 hM.2.1 dX3_isRest_69 (lv_at hl 4 rfl) ?_
  refine lv_iload hM.1 hM.2.1 dX3_isRest_71 (lv_at hl 5 rfl) ?_
  refine x_callVIr (rest := []) hM hw (ct_X3_gain l ho z1 z3 z4 z5) [.int z1, .int z3, .int z4, .int z5] (okX3.o ho) rfl rfl rfl (gi_V ml_X3_29 im_X3_gain sl_X3_gain in_X3 kc_X3_gain) hd_X3_gain rfl ⟨Nat.le_of_ble_eq_true rfl, Nat.le_of_ble_eq_true rfl⟩ rfl (Nat.le_of_ble_eq_true rfl) hl.1 hcs0 hf dX3_isRest_73 (fun r10 H locs hf hw => ?_)
  refine lv_iload hM.1 hM.2.1 dX3_isRest_76 (lv_at hl 7 rfl) ?_
  refine x_ic_le (tgt := 85) hM hf dX3_isRest_78 (by decide) (fun hf => ?_) (fun hf => ?_)
  · refine lv_iconst (v := 0) hM.1 hM.2.1 dX3_isRest_85 ic_0 ?_
    refine x_istore hM hf dX3_isRest_86 hl (by decide) (fun v11 => [(8, .int v11), (0, .ref (ad p)), (1, .int z1), (2, .int z2), (3, .int z3), (4, .int z4), (5, .int z5), (6, .int z6), (7, .int z7), (9, .int x9)]) (fun _ => rfl) (fun v11 ls hf hl => ?_)
    refine x_iinc (k := 9) (d := 1) hM hf dX3_isRest_88 hl rfl (by decide) (by decide) (fun v12 => [(9, .int v12), (8, .int v11), (0, .ref (ad p)), (1, .int z1), (2, .int z2), (3, .int z3), (4, .int z4), (5, .int z5), (6, .int z6), (7, .int z7)]) (fun _ => rfl) (fun v12 ls hf hl => ?_)
    refine lv_goto (tgt := 46) hM.1 hM.2.1 dX3_isRest_91 (by decide) ?_
    exact hrec _ _ _ _ _ _ hf hw (lv_sub hl [2, 3, 4, 5, 6, 7, 8, 9, 1, 0] rfl)
  refine lv_iconst (v := 1) hM.1 hM.2.1 dX3_isRest_81 ic_1 ?_
  refine lv_goto (tgt := 86) hM.1 hM.2.1 dX3_isRest_82 (by decide) ?_
  refine x_istore hM hf dX3_isRest_86 hl (by decide) (fun v13 => [(8, .int v13), (0, .ref (ad p)), (1, .int z1), (2, .int z2), (3, .int z3), (4, .int z4), (5, .int z5), (6, .int z6), (7, .int z7), (9, .int x9)]) (fun _ => rfl) (fun v13 ls hf hl => ?_)
  refine x_iinc (k := 9) (d := 1) hM hf dX3_isRest_88 hl rfl (by decide) (by decide) (fun v14 => [(9, .int v14), (8, .int v13), (0, .ref (ad p)), (1, .int z1), (2, .int z2), (3, .int z3), (4, .int z4), (5, .int z5), (6, .int z6), (7, .int z7)]) (fun _ => rfl) (fun v14 ls hf hl => ?_)
  refine lv_goto (tgt := 46) hM.1 hM.2.1 dX3_isRest_91 (by decide) ?_
  exact hrec _ _ _ _ _ _ hf hw (lv_sub hl [2, 3, 4, 5, 6, 7, 8, 9, 1, 0] rfl)
set_option maxHeartbeats 4000000 in
set_option maxRecDepth 100000 in
theorem w_X3_isRest_L46 {p0 : Program} {l : Launch} {e : Env} {s : State} {m : MethodId} {args : Array Value} {below : List Frame} {meth : Method} {c : Code} {Q : State → Prop} {D : va_G} {G : GG} {A : Nat → Prop} {H0 : Heap} {ad : Nat → Nat} {lay : List KK} {X : va_W} {ρ : Type} {p : Nat} {r0 : ρ} {z1 : Int32} {z2 : Int32} {z3 : Int32} {z4 : Int32} {z5 : Int32} {z6 : Int32} {z7 : Int32} {K1 : Int32 → PH → Option ρ} (hM : CallFix p0 m c cX3_isRest 10 s args lw_g RX3) (ho : okX3 lay p) (hk1 : ∀ (x8 : Int32) (h : PH), ∀ (H : Heap) (locs : List Loc) (ls : Array Slot), K1 x8 h = some r0 → Wd D G A H0 ad lay X h s H locs → lv_has ls 10 [(0, .ref (ad p)), (1, .int z1), (2, .int z2), (3, .int z3), (4, .int z4), (5, .int z5), (6, .int z6), (8, .int x8)] → W p0 l e (rmN 1 26) s m args below meth c H locs 0 0 Q (F0 m 94 ls [])) (n : Nat) (x8 : Int32) (x9 : Int32) (h : PH) (hf : lq3 (c_X3_isRest_L46b p z1 z2 z3 z4 z5 z6 z7 K1) n x8 x9 h = some r0) : ∀ (H : Heap) (locs : List Loc) (ls : Array Slot), Wd D G A H0 ad lay X h s H locs → lv_has ls 10 [(0, .ref (ad p)), (1, .int z1), (2, .int z2), (3, .int z3), (4, .int z4), (5, .int z5), (6, .int z6), (7, .int z7), (8, .int x8), (9, .int x9)] → W p0 l e (rmN 1 26) s m args below meth c H locs 0 0 Q (F0 m 46 ls []) := by
  exact lq3_i (fun (x8 : Int32) (x9 : Int32) (h : PH) => ∀ (H : Heap) (locs : List Loc) (ls : Array Slot), Wd D G A H0 ad lay X h s H locs → lv_has ls 10 [(0, .ref (ad p)), (1, .int z1), (2, .int z2), (3, .int z3), (4, .int z4), (5, .int z5), (6, .int z6), (7, .int z7), (8, .int x8), (9, .int x9)] → W p0 l e (rmN 1 26) s m args below meth c H locs 0 0 Q (F0 m 46 ls [])) (fun REC x8 x9 h ih hf H locs ls hw hl => w_X3_isRest_L46b hM ho hk1 (fun x8 x9 h H locs ls hf hw hl => ih x8 x9 h hf H locs ls hw hl) hw hl hf) n x8 x9 h hf
def c_X3_isRest_L3b {ρ : Type}  (p : Nat) (z1 : Int32) (z2 : Int32) (z3 : Int32) (z4 : Int32) (K1 : PH → Option ρ) (K2 : PH → Option ρ) (REC : Int32 → PH → Option ρ) (x5 : Int32) (h : PH) : Option ρ :=
  if z1 ≤ x5 then
    K2 h
  else
    if 3 ≤ x5 then
      K2 h
    else
      gd (ixOK x5 3) <|
      nm (h.1 (p + 1) x5.toNatClampNeg) fun v2 =>
      (c_X3_gain p z1 z3 z4 x5 h).bind fun r3 =>
      nm r3 fun v4 =>
      nm (0 : Int32) fun v5 =>
      nm (0 : Int32) fun v6 =>
      lq3 (c_X3_isRest_L46b p z1 z2 z3 z4 x5 v2 v4
        (fun w15 h16 =>
          gd (ixOK x5 3) <| nm (setI h16 (p + 1) x5.toNatClampNeg v2) fun h17 =>
          if w15 = 0 then
            nm (x5 + 1) fun v18 =>
            REC v18 h17
          else
            K1 h17)) fu v5 v6 h
set_option maxHeartbeats 4000000 in
set_option maxRecDepth 100000 in
theorem w_X3_isRest_L3b {p0 : Program} {l : Launch} {e : Env} {s : State} {m : MethodId} {args : Array Value} {below : List Frame} {meth : Method} {c : Code} {Q : State → Prop} {D : va_G} {G : GG} {A : Nat → Prop} {H0 : Heap} {ad : Nat → Nat} {lay : List KK} {X : va_W} {ρ : Type} {p : Nat} {r0 : ρ} {z1 : Int32} {z2 : Int32} {z3 : Int32} {z4 : Int32} {x5 : Int32} {h : PH} {H : Heap} {locs : List Loc} {ls : Array Slot} {K1 : PH → Option ρ} {K2 : PH → Option ρ} {REC : Int32 → PH → Option ρ} (hM : CallFix p0 m c cX3_isRest 10 s args lw_g RX3) (ho : okX3 lay p) (hk1 : ∀ (h : PH), ∀ (H : Heap) (locs : List Loc) (ls : Array Slot), K1 h = some r0 → Wd D G A H0 ad lay X h s H locs → lv_has ls 10 [] → W p0 l e (rmN 1 26) s m args below meth c H locs 0 0 Q (F0 m 108 ls [])) (hk2 : ∀ (h : PH), ∀ (H : Heap) (locs : List Loc) (ls : Array Slot), K2 h = some r0 → Wd D G A H0 ad lay X h s H locs → lv_has ls 10 [] → W p0 l e (rmN 1 26) s m args below meth c H locs 0 0 Q (F0 m 116 ls [])) (hrec : ∀ (x5 : Int32) (h : PH), ∀ (H : Heap) (locs : List Loc) (ls : Array Slot), REC x5 h = some r0 → Wd D G A H0 ad lay X h s H locs → lv_has ls 10 [(0, .ref (ad p)), (1, .int z1), (2, .int z2), (3, .int z3), (4, .int z4), (5, .int x5)] → W p0 l e (rmN 1 26) s m args below meth c H locs 0 0 Q (F0 m 3 ls [])) (hw : Wd D G A H0 ad lay X h s H locs) (hl : lv_has ls 10 [(0, .ref (ad p)), (1, .int z1), (2, .int z2), (3, .int z3), (4, .int z4), (5, .int x5)]) (hf : c_X3_isRest_L3b p z1 z2 z3 z4 K1 K2 REC x5 h = some r0) : W p0 l e (rmN 1 26) s m args below meth c H locs 0 0 Q (F0 m 3 ls []) := by
  unfold c_X3_isRest_L3b at hf
  refine lv_iload hM.1 hM.2.1 dX3_isRest_3 (lv_at hl 5 rfl) ?_
  refine lv_iload_n hM.1 hM.2.1 dX3_isRest_5 rfl (lv_at hl 1 rfl) ?_
  refine x_ic_ge (tgt := 116) hM hf dX3_isRest_6 (by decide) (fun hf => ?_) (fun hf => ?_)
  · exact hk2 _ _ _ _ hf hw (lv_sub hl [] rfl)
  refine lv_iload hM.1 hM.2.1 dX3_isRest_9 (lv_at hl 5 rfl) ?_
  refine lv_aload_n hM.1 hM.2.1 dX3_isRest_11 rfl (lv_at hl 0 rfl) ?_
  refine gf_X3_prices hM hw (okX3.o ho) fl_X3_9 dX3_isRest_12 ?_
  refine x_alen (v := 3) hM hw (okX3.prices ho) (by decide) dX3_isRest_15 ?_
  refine x_ic_ge (tgt := 116) hM hf dX3_isRest_16 (by decide) (fun hf => ?_) (fun hf => ?_)
  · exact hk2 _ _ _ _ hf hw (lv_sub hl [] rfl)
  refine lv_aload_n hM.1 hM.2.1 dX3_isRest_19 rfl (lv_at hl 0 rfl) ?_
  refine gf_X3_prices hM hw (okX3.o ho) fl_X3_9 dX3_isRest_20 ?_
  refine lv_iload hM.1 hM.2.1 dX3_isRest_23 (lv_at hl 5 rfl) ?_
  refine x_iald hM hw (okX3.prices ho) hf dX3_isRest_25 (fun hf => ?_)
  refine x_istore hM hf dX3_isRest_26 hl (by decide) (fun v2 => [(6, .int v2), (0, .ref (ad p)), (1, .int z1), (2, .int z2), (3, .int z3), (4, .int z4), (5, .int x5)]) (fun _ => rfl) (fun v2 ls hf hl => ?_)
  refine lv_aload_n hM.1 hM.2.1 dX3_isRest_28 rfl (lv_at hl 1 rfl) ?_
  refine lv_iload_n hM.1 hM.2.1 dX3_isRest_29 rfl (lv_at hl 2 rfl) ?_
  refine lv_iload_n hM.1 hM.2.1 dX3_isRest_30 rfl (lv_at hl 4 rfl) ?_
  refine lv_iload hM.1 hM.2.1 dX3_isRest_31 (lv_at hl 5 rfl) ?_
  refine lv_iload hM.1 hM.2.1 dX3_isRest_33 (lv_at hl 6 rfl) ?_
  refine x_callVIr (rest := []) hM hw (ct_X3_gain l ho z1 z3 z4 x5) [.int z1, .int z3, .int z4, .int x5] (okX3.o ho) rfl rfl rfl (gi_V ml_X3_29 im_X3_gain sl_X3_gain in_X3 kc_X3_gain) hd_X3_gain rfl ⟨Nat.le_of_ble_eq_true rfl, Nat.le_of_ble_eq_true rfl⟩ rfl (Nat.le_of_ble_eq_true rfl) hl.1 hcs0 hf dX3_isRest_35 (fun r3 H locs hf hw => ?_)
  refine x_istore hM hf dX3_isRest_38 hl (by decide) (fun v4 => [(7, .int v4), (6, .int v2), (0, .ref (ad p)), (1, .int z1), (2, .int z2), (3, .int z3), (4, .int z4), (5, .int x5)]) (fun _ => rfl) (fun v4 ls hf hl => ?_)
  refine lv_iconst (v := 0) hM.1 hM.2.1 dX3_isRest_40 ic_0 ?_
  refine x_istore hM hf dX3_isRest_41 hl (by decide) (fun v5 => [(8, .int v5), (7, .int v4), (6, .int v2), (0, .ref (ad p)), (1, .int z1), (2, .int z2), (3, .int z3), (4, .int z4), (5, .int x5)]) (fun _ => rfl) (fun v5 ls hf hl => ?_)
  refine lv_iconst (v := 0) hM.1 hM.2.1 dX3_isRest_43 ic_0 ?_
  refine x_istore hM hf dX3_isRest_44 hl (by decide) (fun v6 => [(9, .int v6), (8, .int v5), (7, .int v4), (6, .int v2), (0, .ref (ad p)), (1, .int z1), (2, .int z2), (3, .int z3), (4, .int z4), (5, .int x5)]) (fun _ => rfl) (fun v6 ls hf hl => ?_)
  refine w_X3_isRest_L46 hM ho (fun w15 h16 H locs ls hf hw hl => ?_) fu _ _ _ hf _ _ _ hw (lv_sub hl [4, 5, 6, 7, 8, 9, 3, 2, 1, 0] rfl)
  refine lv_aload_n hM.1 hM.2.1 dX3_isRest_94 rfl (lv_at hl 0 rfl) ?_
  refine gf_X3_prices hM hw (okX3.o ho) fl_X3_9 dX3_isRest_95 ?_
  refine lv_iload hM.1 hM.2.1 dX3_isRest_98 (lv_at hl 5 rfl) ?_
  refine lv_iload hM.1 hM.2.1 dX3_isRest_100 (lv_at hl 6 rfl) ?_
  refine x_iast hM hw (okX3.prices ho) hf dX3_isRest_102 (fun h17 H locs hf hw => ?_)
  refine lv_iload hM.1 hM.2.1 dX3_isRest_103 (lv_at hl 7 rfl) ?_
  refine x_if_eq (tgt := 110) hM hf dX3_isRest_105 (by decide) (fun hf => ?_) (fun hf => ?_)
  · refine x_iinc (k := 5) (d := 1) hM hf dX3_isRest_110 hl rfl (by decide) (by decide) (fun v18 => [(5, .int v18), (0, .ref (ad p)), (1, .int z1), (2, .int z2), (3, .int z3), (4, .int z4), (6, .int v2), (8, .int w15)]) (fun _ => rfl) (fun v18 ls hf hl => ?_)
    refine lv_goto (tgt := 3) hM.1 hM.2.1 dX3_isRest_113 (by decide) ?_
    exact hrec _ _ _ _ _ hf hw (lv_sub hl [1, 2, 3, 4, 5, 0] rfl)
  exact hk1 _ _ _ _ hf hw (lv_sub hl [] rfl)
set_option maxHeartbeats 4000000 in
set_option maxRecDepth 100000 in
theorem w_X3_isRest_L3 {p0 : Program} {l : Launch} {e : Env} {s : State} {m : MethodId} {args : Array Value} {below : List Frame} {meth : Method} {c : Code} {Q : State → Prop} {D : va_G} {G : GG} {A : Nat → Prop} {H0 : Heap} {ad : Nat → Nat} {lay : List KK} {X : va_W} {ρ : Type} {p : Nat} {r0 : ρ} {z1 : Int32} {z2 : Int32} {z3 : Int32} {z4 : Int32} {K1 : PH → Option ρ} {K2 : PH → Option ρ} (hM : CallFix p0 m c cX3_isRest 10 s args lw_g RX3) (ho : okX3 lay p) (hk1 : ∀ (h : PH), ∀ (H : Heap) (locs : List Loc) (ls : Array Slot), K1 h = some r0 → Wd D G A H0 ad lay X h s H locs → lv_has ls 10 [] → W p0 l e (rmN 1 26) s m args below meth c H locs 0 0 Q (F0 m 108 ls [])) (hk2 : ∀ (h : PH), ∀ (H : Heap) (locs : List Loc) (ls : Array Slot), K2 h = some r0 → Wd D G A H0 ad lay X h s H locs → lv_has ls 10 [] → W p0 l e (rmN 1 26) s m args below meth c H locs 0 0 Q (F0 m 116 ls [])) (n : Nat) (x5 : Int32) (h : PH) (hf : lq2 (c_X3_isRest_L3b p z1 z2 z3 z4 K1 K2) n x5 h = some r0) : ∀ (H : Heap) (locs : List Loc) (ls : Array Slot), Wd D G A H0 ad lay X h s H locs → lv_has ls 10 [(0, .ref (ad p)), (1, .int z1), (2, .int z2), (3, .int z3), (4, .int z4), (5, .int x5)] → W p0 l e (rmN 1 26) s m args below meth c H locs 0 0 Q (F0 m 3 ls []) := by
  exact lq2_i (fun (x5 : Int32) (h : PH) => ∀ (H : Heap) (locs : List Loc) (ls : Array Slot), Wd D G A H0 ad lay X h s H locs → lv_has ls 10 [(0, .ref (ad p)), (1, .int z1), (2, .int z2), (3, .int z3), (4, .int z4), (5, .int x5)] → W p0 l e (rmN 1 26) s m args below meth c H locs 0 0 Q (F0 m 3 ls [])) (fun REC x5 h ih hf H locs ls hw hl => w_X3_isRest_L3b hM ho hk1 hk2 (fun x5 h H locs ls hf hw hl => ih x5 h hf H locs ls hw hl) hw hl hf) n x5 h hf
def c_X3_isRest (p : Nat) (a1 : Int32) (a2 : Int32) (a3 : Int32) (a4 : Int32) (h : PH) : Option (Int32 × PH) :=
  nm (0 : Int32) fun v1 =>
  lq2 (c_X3_isRest_L3b p a1 a2 a3 a4
    (fun h19 =>
      some (0, h19))
    (fun h20 =>
      some (1, h20))) fu v1 h
set_option maxHeartbeats 4000000 in
set_option maxRecDepth 100000 in
theorem ct_X3_isRest (l : Launch) {lay : List KK} {p : Nat} (ho : okX3 lay p) (a1 : Int32) (a2 : Int32) (a3 : Int32) (a4 : Int32) : CtI l yX3_isRest cX3_isRest 10 (some .boolean) 1 26 lay (fun h => c_X3_isRest p a1 a2 a3 a4 h) (fun ad => [.ref (ad p), .int a1, .int a2, .int a3, .int a4]) := by
  refine CtI.mk' RX3 (by decide) rfl (fun _ => Nat.le_of_ble_eq_true rfl) ?_
  intro p0 e s m args below meth c D G A H0 ad X h r0 H ls Q hM hw hl hf hR
  have hl : lv_has ls 10 [(0, .ref (ad p)), (1, .int a1), (2, .int a2), (3, .int a3), (4, .int a4)] := hl
  unfold c_X3_isRest at hf
  refine lv_iconst (v := 0) hM.1 hM.2.1 dX3_isRest_0 ic_0 ?_
  refine x_istore hM hf dX3_isRest_1 hl (by decide) (fun v1 => [(5, .int v1), (0, .ref (ad p)), (1, .int a1), (2, .int a2), (3, .int a3), (4, .int a4)]) (fun _ => rfl) (fun v1 ls hf hl => ?_)
  refine w_X3_isRest_L3 hM ho (fun h19 H locs ls hf hw hl => ?_) (fun h20 H locs ls hf hw hl => ?_) fu _ _ hf _ _ _ hw (lv_sub hl [1, 2, 3, 4, 5, 0] rfl)
  · refine lv_iconst (v := 0) hM.1 hM.2.1 dX3_isRest_108 ic_0 ?_
    exact hR _ _ _ _ _ _ _ (Option.some.inj hf) rfl (nar_z (by decide)) hw dX3_isRest_109
  · refine lv_iconst (v := 1) hM.1 hM.2.1 dX3_isRest_116 ic_1 ?_
    exact hR _ _ _ _ _ _ _ (Option.some.inj hf) rfl (nar_z (by decide)) hw dX3_isRest_117
theorem hd_X3_isRest : yX3_isRest.cls = RX3 ∧ yX3_isRest.cls ≠ "java/lang/invoke/MethodHandle" ∧ yX3_isRest.cls ≠ "java/lang/invoke/VarHandle" ∧ (parseMethodDescriptor yX3_isRest.desc).map (fun d => d.parameters.length) = some 4 := ⟨rfl, by decide, by decide, by decide +kernel⟩
theorem dX3_rests_0 : decode cX3_rests 0 = .ok (.iconst 0, 1) := by decide +kernel
theorem dX3_rests_1 : decode cX3_rests 1 = .ok (.istore 6, 2) := by decide +kernel
theorem dX3_rests_3 : decode cX3_rests 3 = .ok (.iload_n 1, 1) := by decide +kernel
theorem dX3_rests_4 : decode cX3_rests 4 = .ok (.iconst 2, 1) := by decide +kernel
theorem dX3_rests_5 : decode cX3_rests 5 = .ok (.if_icmp .ne 8, 3) := by decide +kernel
theorem dX3_rests_8 : decode cX3_rests 8 = .ok (.bipush 49, 2) := by decide +kernel
theorem dX3_rests_10 : decode cX3_rests 10 = .ok (.goto 6, 3) := by decide +kernel
theorem dX3_rests_13 : decode cX3_rests 13 = .ok (.sipush 343, 3) := by decide +kernel
theorem dX3_rests_16 : decode cX3_rests 16 = .ok (.istore 7, 2) := by decide +kernel
theorem dX3_rests_18 : decode cX3_rests 18 = .ok (.iconst 0, 1) := by decide +kernel
theorem dX3_rests_19 : decode cX3_rests 19 = .ok (.istore 8, 2) := by decide +kernel
theorem dX3_rests_21 : decode cX3_rests 21 = .ok (.iload 8, 2) := by decide +kernel
theorem dX3_rests_23 : decode cX3_rests 23 = .ok (.iload 7, 2) := by decide +kernel
theorem dX3_rests_25 : decode cX3_rests 25 = .ok (.if_icmp .ge 45, 3) := by decide +kernel
theorem dX3_rests_28 : decode cX3_rests 28 = .ok (.aload_n 0, 1) := by decide +kernel
theorem dX3_rests_29 : decode cX3_rests 29 = .ok (.iload_n 1, 1) := by decide +kernel
theorem dX3_rests_30 : decode cX3_rests 30 = .ok (.iload_n 2, 1) := by decide +kernel
theorem dX3_rests_31 : decode cX3_rests 31 = .ok (.iload 8, 2) := by decide +kernel
theorem dX3_rests_33 : decode cX3_rests 33 = .ok (.invokevirtual 15, 3) := by decide +kernel
theorem dX3_rests_36 : decode cX3_rests 36 = .ok (.ifCond .eq 28, 3) := by decide +kernel
theorem dX3_rests_39 : decode cX3_rests 39 = .ok (.aload_n 0, 1) := by decide +kernel
theorem dX3_rests_40 : decode cX3_rests 40 = .ok (.iload_n 1, 1) := by decide +kernel
theorem dX3_rests_41 : decode cX3_rests 41 = .ok (.iload_n 2, 1) := by decide +kernel
theorem dX3_rests_42 : decode cX3_rests 42 = .ok (.iload_n 3, 1) := by decide +kernel
theorem dX3_rests_43 : decode cX3_rests 43 = .ok (.iload 4, 2) := by decide +kernel
theorem dX3_rests_45 : decode cX3_rests 45 = .ok (.invokevirtual 19, 3) := by decide +kernel
theorem dX3_rests_48 : decode cX3_rests 48 = .ok (.ifCond .eq 16, 3) := by decide +kernel
theorem dX3_rests_51 : decode cX3_rests 51 = .ok (.iload 6, 2) := by decide +kernel
theorem dX3_rests_53 : decode cX3_rests 53 = .ok (.iload 5, 2) := by decide +kernel
theorem dX3_rests_55 : decode cX3_rests 55 = .ok (.if_icmp .ne 6, 3) := by decide +kernel
theorem dX3_rests_58 : decode cX3_rests 58 = .ok (.iload 8, 2) := by decide +kernel
theorem dX3_rests_60 : decode cX3_rests 60 = .ok (.ireturn, 1) := by decide +kernel
theorem dX3_rests_61 : decode cX3_rests 61 = .ok (.iinc 6 1, 3) := by decide +kernel
theorem dX3_rests_64 : decode cX3_rests 64 = .ok (.iinc 8 1, 3) := by decide +kernel
theorem dX3_rests_67 : decode cX3_rests 67 = .ok (.goto (-46), 3) := by decide +kernel
theorem dX3_rests_70 : decode cX3_rests 70 = .ok (.iload 5, 2) := by decide +kernel
theorem dX3_rests_72 : decode cX3_rests 72 = .ok (.iconst (-1), 1) := by decide +kernel
theorem dX3_rests_73 : decode cX3_rests 73 = .ok (.if_icmp .ne 8, 3) := by decide +kernel
theorem dX3_rests_76 : decode cX3_rests 76 = .ok (.iload 6, 2) := by decide +kernel
theorem dX3_rests_78 : decode cX3_rests 78 = .ok (.goto 4, 3) := by decide +kernel
theorem dX3_rests_81 : decode cX3_rests 81 = .ok (.iconst (-1), 1) := by decide +kernel
theorem dX3_rests_82 : decode cX3_rests 82 = .ok (.ireturn, 1) := by decide +kernel
def c_X3_rests_L21b {ρ : Type}  (p : Nat) (z1 : Int32) (z2 : Int32) (z3 : Int32) (z4 : Int32) (z5 : Int32) (z7 : Int32) (K1 : Int32 → PH → Option ρ) (K2 : Int32 → PH → Option ρ) (REC : Int32 → Int32 → PH → Option ρ) (x6 : Int32) (x8 : Int32) (h : PH) : Option ρ :=
  if z7 ≤ x8 then
    K2 x6 h
  else
    bind2 (c_X3_ask p z1 z2 x8 h) fun r4 h5 =>
    if r4 = 0 then
      nm (x8 + 1) fun v6 =>
      REC x6 v6 h5
    else
      bind2 (c_X3_isRest p z1 z2 z3 z4 h5) fun r7 h8 =>
      if r7 = 0 then
        nm (x8 + 1) fun v9 =>
        REC x6 v9 h8
      else
        if x6 = z5 then
          K1 x8 h8
        else
          nm (x6 + 1) fun v10 =>
          nm (x8 + 1) fun v11 =>
          REC v10 v11 h8
set_option maxHeartbeats 4000000 in
set_option maxRecDepth 100000 in
theorem w_X3_rests_L21b {p0 : Program} {l : Launch} {e : Env} {s : State} {m : MethodId} {args : Array Value} {below : List Frame} {meth : Method} {c : Code} {Q : State → Prop} {D : va_G} {G : GG} {A : Nat → Prop} {H0 : Heap} {ad : Nat → Nat} {lay : List KK} {X : va_W} {ρ : Type} {p : Nat} {r0 : ρ} {z1 : Int32} {z2 : Int32} {z3 : Int32} {z4 : Int32} {z5 : Int32} {z7 : Int32} {x6 : Int32} {x8 : Int32} {h : PH} {H : Heap} {locs : List Loc} {ls : Array Slot} {K1 : Int32 → PH → Option ρ} {K2 : Int32 → PH → Option ρ} {REC : Int32 → Int32 → PH → Option ρ} (hM : CallFix p0 m c cX3_rests 9 s args lw_g RX3) (ho : okX3 lay p) (hk1 : ∀ (x8 : Int32) (h : PH), ∀ (H : Heap) (locs : List Loc) (ls : Array Slot), K1 x8 h = some r0 → Wd D G A H0 ad lay X h s H locs → lv_has ls 9 [(8, .int x8)] → W p0 l e (rmN 2 55) s m args below meth c H locs 0 0 Q (F0 m 58 ls [])) (hk2 : ∀ (x6 : Int32) (h : PH), ∀ (H : Heap) (locs : List Loc) (ls : Array Slot), K2 x6 h = some r0 → Wd D G A H0 ad lay X h s H locs → lv_has ls 9 [(5, .int z5), (6, .int x6)] → W p0 l e (rmN 2 55) s m args below meth c H locs 0 0 Q (F0 m 70 ls [])) (hrec : ∀ (x6 : Int32) (x8 : Int32) (h : PH), ∀ (H : Heap) (locs : List Loc) (ls : Array Slot), REC x6 x8 h = some r0 → Wd D G A H0 ad lay X h s H locs → lv_has ls 9 [(0, .ref (ad p)), (1, .int z1), (2, .int z2), (3, .int z3), (4, .int z4), (5, .int z5), (6, .int x6), (7, .int z7), (8, .int x8)] → W p0 l e (rmN 2 55) s m args below meth c H locs 0 0 Q (F0 m 21 ls [])) (hw : Wd D G A H0 ad lay X h s H locs) (hl : lv_has ls 9 [(0, .ref (ad p)), (1, .int z1), (2, .int z2), (3, .int z3), (4, .int z4), (5, .int z5), (6, .int x6), (7, .int z7), (8, .int x8)]) (hf : c_X3_rests_L21b p z1 z2 z3 z4 z5 z7 K1 K2 REC x6 x8 h = some r0) : W p0 l e (rmN 2 55) s m args below meth c H locs 0 0 Q (F0 m 21 ls []) := by
  unfold c_X3_rests_L21b at hf
  refine lv_iload hM.1 hM.2.1 dX3_rests_21 (lv_at hl 8 rfl) ?_
  refine lv_iload hM.1 hM.2.1 dX3_rests_23 (lv_at hl 7 rfl) ?_
  refine x_ic_ge (tgt := 70) hM hf dX3_rests_25 (by decide) (fun hf => ?_) (fun hf => ?_)
  · exact hk2 _ _ _ _ _ hf hw (lv_sub hl [5, 6] rfl)
  refine lv_aload_n hM.1 hM.2.1 dX3_rests_28 rfl (lv_at hl 0 rfl) ?_
  refine lv_iload_n hM.1 hM.2.1 dX3_rests_29 rfl (lv_at hl 1 rfl) ?_
  refine lv_iload_n hM.1 hM.2.1 dX3_rests_30 rfl (lv_at hl 2 rfl) ?_
  refine lv_iload hM.1 hM.2.1 dX3_rests_31 (lv_at hl 8 rfl) ?_
  refine x_callVI (rest := []) hM hw (ct_X3_ask l ho z1 z2 x8) [.int z1, .int z2, .int x8] (okX3.o ho) rfl rfl rfl (gi_V ml_X3_15 im_X3_ask sl_X3_ask in_X3 kc_X3_ask) hd_X3_ask rfl ⟨Nat.le_of_ble_eq_true rfl, Nat.le_of_ble_eq_true rfl⟩ rfl (Nat.le_of_ble_eq_true rfl) hl.1 hcs0 hf dX3_rests_33 (fun r4 h5 H locs hf hw => ?_)
  refine x_if_eq (tgt := 64) hM hf dX3_rests_36 (by decide) (fun hf => ?_) (fun hf => ?_)
  · refine x_iinc (k := 8) (d := 1) hM hf dX3_rests_64 hl rfl (by decide) (by decide) (fun v6 => [(8, .int v6), (0, .ref (ad p)), (1, .int z1), (2, .int z2), (3, .int z3), (4, .int z4), (5, .int z5), (6, .int x6), (7, .int z7)]) (fun _ => rfl) (fun v6 ls hf hl => ?_)
    refine lv_goto (tgt := 21) hM.1 hM.2.1 dX3_rests_67 (by decide) ?_
    exact hrec _ _ _ _ _ _ hf hw (lv_sub hl [1, 2, 3, 4, 5, 6, 7, 8, 0] rfl)
  refine lv_aload_n hM.1 hM.2.1 dX3_rests_39 rfl (lv_at hl 0 rfl) ?_
  refine lv_iload_n hM.1 hM.2.1 dX3_rests_40 rfl (lv_at hl 1 rfl) ?_
  refine lv_iload_n hM.1 hM.2.1 dX3_rests_41 rfl (lv_at hl 2 rfl) ?_
  refine lv_iload_n hM.1 hM.2.1 dX3_rests_42 rfl (lv_at hl 3 rfl) ?_
  refine lv_iload hM.1 hM.2.1 dX3_rests_43 (lv_at hl 4 rfl) ?_
  refine x_callVI (rest := []) hM hw (ct_X3_isRest l ho z1 z2 z3 z4) [.int z1, .int z2, .int z3, .int z4] (okX3.o ho) rfl rfl rfl (gi_V ml_X3_19 im_X3_isRest sl_X3_isRest in_X3 kc_X3_isRest) hd_X3_isRest rfl ⟨Nat.le_of_ble_eq_true rfl, Nat.le_of_ble_eq_true rfl⟩ rfl (Nat.le_of_ble_eq_true rfl) hl.1 hcs0 hf dX3_rests_45 (fun r7 h8 H locs hf hw => ?_)
  refine x_if_eq (tgt := 64) hM hf dX3_rests_48 (by decide) (fun hf => ?_) (fun hf => ?_)
  · refine x_iinc (k := 8) (d := 1) hM hf dX3_rests_64 hl rfl (by decide) (by decide) (fun v9 => [(8, .int v9), (0, .ref (ad p)), (1, .int z1), (2, .int z2), (3, .int z3), (4, .int z4), (5, .int z5), (6, .int x6), (7, .int z7)]) (fun _ => rfl) (fun v9 ls hf hl => ?_)
    refine lv_goto (tgt := 21) hM.1 hM.2.1 dX3_rests_67 (by decide) ?_
    exact hrec _ _ _ _ _ _ hf hw (lv_sub hl [1, 2, 3, 4, 5, 6, 7, 8, 0] rfl)
  refine lv_iload hM.1 hM.2.1 dX3_rests_51 (lv_at hl 6 rfl) ?_
  refine lv_iload hM.1 hM.2.1 dX3_rests_53 (lv_at hl 5 rfl) ?_
  refine x_ic_ne (tgt := 61) hM hf dX3_rests_55 (by decide) (fun hf => ?_) (fun hf => ?_)
  · refine x_iinc (k := 6) (d := 1) hM hf dX3_rests_61 hl rfl (by decide) (by decide) (fun v10 => [(6, .int v10), (0, .ref (ad p)), (1, .int z1), (2, .int z2), (3, .int z3), (4, .int z4), (5, .int z5), (7, .int z7), (8, .int x8)]) (fun _ => rfl) (fun v10 ls hf hl => ?_)
    refine x_iinc (k := 8) (d := 1) hM hf dX3_rests_64 hl rfl (by decide) (by decide) (fun v11 => [(8, .int v11), (6, .int v10), (0, .ref (ad p)), (1, .int z1), (2, .int z2), (3, .int z3), (4, .int z4), (5, .int z5), (7, .int z7)]) (fun _ => rfl) (fun v11 ls hf hl => ?_)
    refine lv_goto (tgt := 21) hM.1 hM.2.1 dX3_rests_67 (by decide) ?_
    exact hrec _ _ _ _ _ _ hf hw (lv_sub hl [2, 3, 4, 5, 6, 7, 1, 8, 0] rfl)
  exact hk1 _ _ _ _ _ hf hw (lv_sub hl [8] rfl)
set_option maxHeartbeats 4000000 in
set_option maxRecDepth 100000 in
theorem w_X3_rests_L21 {p0 : Program} {l : Launch} {e : Env} {s : State} {m : MethodId} {args : Array Value} {below : List Frame} {meth : Method} {c : Code} {Q : State → Prop} {D : va_G} {G : GG} {A : Nat → Prop} {H0 : Heap} {ad : Nat → Nat} {lay : List KK} {X : va_W} {ρ : Type} {p : Nat} {r0 : ρ} {z1 : Int32} {z2 : Int32} {z3 : Int32} {z4 : Int32} {z5 : Int32} {z7 : Int32} {K1 : Int32 → PH → Option ρ} {K2 : Int32 → PH → Option ρ} (hM : CallFix p0 m c cX3_rests 9 s args lw_g RX3) (ho : okX3 lay p) (hk1 : ∀ (x8 : Int32) (h : PH), ∀ (H : Heap) (locs : List Loc) (ls : Array Slot), K1 x8 h = some r0 → Wd D G A H0 ad lay X h s H locs → lv_has ls 9 [(8, .int x8)] → W p0 l e (rmN 2 55) s m args below meth c H locs 0 0 Q (F0 m 58 ls [])) (hk2 : ∀ (x6 : Int32) (h : PH), ∀ (H : Heap) (locs : List Loc) (ls : Array Slot), K2 x6 h = some r0 → Wd D G A H0 ad lay X h s H locs → lv_has ls 9 [(5, .int z5), (6, .int x6)] → W p0 l e (rmN 2 55) s m args below meth c H locs 0 0 Q (F0 m 70 ls [])) (n : Nat) (x6 : Int32) (x8 : Int32) (h : PH) (hf : lq3 (c_X3_rests_L21b p z1 z2 z3 z4 z5 z7 K1 K2) n x6 x8 h = some r0) : ∀ (H : Heap) (locs : List Loc) (ls : Array Slot), Wd D G A H0 ad lay X h s H locs → lv_has ls 9 [(0, .ref (ad p)), (1, .int z1), (2, .int z2), (3, .int z3), (4, .int z4), (5, .int z5), (6, .int x6), (7, .int z7), (8, .int x8)] → W p0 l e (rmN 2 55) s m args below meth c H locs 0 0 Q (F0 m 21 ls []) := by
  exact lq3_i (fun (x6 : Int32) (x8 : Int32) (h : PH) => ∀ (H : Heap) (locs : List Loc) (ls : Array Slot), Wd D G A H0 ad lay X h s H locs → lv_has ls 9 [(0, .ref (ad p)), (1, .int z1), (2, .int z2), (3, .int z3), (4, .int z4), (5, .int z5), (6, .int x6), (7, .int z7), (8, .int x8)] → W p0 l e (rmN 2 55) s m args below meth c H locs 0 0 Q (F0 m 21 ls [])) (fun REC x6 x8 h ih hf H locs ls hw hl => w_X3_rests_L21b hM ho hk1 hk2 (fun x6 x8 h H locs ls hf hw hl => ih x6 x8 h hf H locs ls hw hl) hw hl hf) n x6 x8 h hf
def c_X3_rests (p : Nat) (a1 : Int32) (a2 : Int32) (a3 : Int32) (a4 : Int32) (a5 : Int32) (h : PH) : Option (Int32 × PH) :=
  nm (0 : Int32) fun v1 =>
  if a1 = 2 then
    nm (49 : Int32) fun v16 =>
    nm (0 : Int32) fun v17 =>
    lq3 (c_X3_rests_L21b p a1 a2 a3 a4 a5 v16
      (fun w18 h19 =>
        some (w18, h19))
      (fun w20 h21 =>
        if a5 = (-1) then
          some (w20, h21)
        else
          some ((-1), h21))) fu v1 v17 h
  else
    nm (343 : Int32) fun v2 =>
    nm (0 : Int32) fun v3 =>
    lq3 (c_X3_rests_L21b p a1 a2 a3 a4 a5 v2
      (fun w12 h13 =>
        some (w12, h13))
      (fun w14 h15 =>
        if a5 = (-1) then
          some (w14, h15)
        else
          some ((-1), h15))) fu v1 v3 h
set_option maxHeartbeats 4000000 in
set_option maxRecDepth 100000 in
theorem ct_X3_rests (l : Launch) {lay : List KK} {p : Nat} (ho : okX3 lay p) (a1 : Int32) (a2 : Int32) (a3 : Int32) (a4 : Int32) (a5 : Int32) : CtI l yX3_rests cX3_rests 9 (some .int) 2 55 lay (fun h => c_X3_rests p a1 a2 a3 a4 a5 h) (fun ad => [.ref (ad p), .int a1, .int a2, .int a3, .int a4, .int a5]) := by
  refine CtI.mk' RX3 (by decide) rfl (fun _ => Nat.le_of_ble_eq_true rfl) ?_
  intro p0 e s m args below meth c D G A H0 ad X h r0 H ls Q hM hw hl hf hR
  have hl : lv_has ls 9 [(0, .ref (ad p)), (1, .int a1), (2, .int a2), (3, .int a3), (4, .int a4), (5, .int a5)] := hl
  unfold c_X3_rests at hf
  refine lv_iconst (v := 0) hM.1 hM.2.1 dX3_rests_0 ic_0 ?_
  refine x_istore hM hf dX3_rests_1 hl (by decide) (fun v1 => [(6, .int v1), (0, .ref (ad p)), (1, .int a1), (2, .int a2), (3, .int a3), (4, .int a4), (5, .int a5)]) (fun _ => rfl) (fun v1 ls hf hl => ?_)
  refine lv_iload_n hM.1 hM.2.1 dX3_rests_3 rfl (lv_at hl 2 rfl) ?_
  refine lv_iconst (v := 2) hM.1 hM.2.1 dX3_rests_4 ic_2 ?_
  refine x_ic_ne (tgt := 13) hM hf dX3_rests_5 (by decide) (fun hf => ?_) (fun hf => ?_)
  · refine lv_sipush (v := 343) hM.1 hM.2.1 dX3_rests_13 (by decide) ?_
    refine x_istore hM hf dX3_rests_16 hl (by decide) (fun v2 => [(7, .int v2), (6, .int v1), (0, .ref (ad p)), (1, .int a1), (2, .int a2), (3, .int a3), (4, .int a4), (5, .int a5)]) (fun _ => rfl) (fun v2 ls hf hl => ?_)
    refine lv_iconst (v := 0) hM.1 hM.2.1 dX3_rests_18 ic_0 ?_
    refine x_istore hM hf dX3_rests_19 hl (by decide) (fun v3 => [(8, .int v3), (7, .int v2), (6, .int v1), (0, .ref (ad p)), (1, .int a1), (2, .int a2), (3, .int a3), (4, .int a4), (5, .int a5)]) (fun _ => rfl) (fun v3 ls hf hl => ?_)
    refine w_X3_rests_L21 hM ho (fun w12 h13 H locs ls hf hw hl => ?_) (fun w14 h15 H locs ls hf hw hl => ?_) fu _ _ _ hf _ _ _ hw (lv_sub hl [3, 4, 5, 6, 7, 8, 2, 1, 0] rfl)
    · refine lv_iload hM.1 hM.2.1 dX3_rests_58 (lv_at hl 0 rfl) ?_
      exact hR _ _ _ _ _ _ _ (Option.some.inj hf) rfl rfl hw dX3_rests_60
    · refine lv_iload hM.1 hM.2.1 dX3_rests_70 (lv_at hl 0 rfl) ?_
      refine lv_iconst (v := (-1)) hM.1 hM.2.1 dX3_rests_72 ic_m1 ?_
      refine x_ic_ne (tgt := 81) hM hf dX3_rests_73 (by decide) (fun hf => ?_) (fun hf => ?_)
      · refine lv_iconst (v := (-1)) hM.1 hM.2.1 dX3_rests_81 ic_m1 ?_
        exact hR _ _ _ _ _ _ _ (Option.some.inj hf) rfl rfl hw dX3_rests_82
      refine lv_iload hM.1 hM.2.1 dX3_rests_76 (lv_at hl 1 rfl) ?_
      refine lv_goto (tgt := 82) hM.1 hM.2.1 dX3_rests_78 (by decide) ?_
      exact hR _ _ _ _ _ _ _ (Option.some.inj hf) rfl rfl hw dX3_rests_82
  refine lv_bipush (v := 49) hM.1 hM.2.1 dX3_rests_8 (by decide) ?_
  refine lv_goto (tgt := 16) hM.1 hM.2.1 dX3_rests_10 (by decide) ?_
  refine x_istore hM hf dX3_rests_16 hl (by decide) (fun v16 => [(7, .int v16), (6, .int v1), (0, .ref (ad p)), (1, .int a1), (2, .int a2), (3, .int a3), (4, .int a4), (5, .int a5)]) (fun _ => rfl) (fun v16 ls hf hl => ?_)
  refine lv_iconst (v := 0) hM.1 hM.2.1 dX3_rests_18 ic_0 ?_
  refine x_istore hM hf dX3_rests_19 hl (by decide) (fun v17 => [(8, .int v17), (7, .int v16), (6, .int v1), (0, .ref (ad p)), (1, .int a1), (2, .int a2), (3, .int a3), (4, .int a4), (5, .int a5)]) (fun _ => rfl) (fun v17 ls hf hl => ?_)
  refine w_X3_rests_L21 hM ho (fun w18 h19 H locs ls hf hw hl => ?_) (fun w20 h21 H locs ls hf hw hl => ?_) fu _ _ _ hf _ _ _ hw (lv_sub hl [3, 4, 5, 6, 7, 8, 2, 1, 0] rfl)
  · refine lv_iload hM.1 hM.2.1 dX3_rests_58 (lv_at hl 0 rfl) ?_
    exact hR _ _ _ _ _ _ _ (Option.some.inj hf) rfl rfl hw dX3_rests_60
  · refine lv_iload hM.1 hM.2.1 dX3_rests_70 (lv_at hl 0 rfl) ?_
    refine lv_iconst (v := (-1)) hM.1 hM.2.1 dX3_rests_72 ic_m1 ?_
    refine x_ic_ne (tgt := 81) hM hf dX3_rests_73 (by decide) (fun hf => ?_) (fun hf => ?_)
    · refine lv_iconst (v := (-1)) hM.1 hM.2.1 dX3_rests_81 ic_m1 ?_
      exact hR _ _ _ _ _ _ _ (Option.some.inj hf) rfl rfl hw dX3_rests_82
    refine lv_iload hM.1 hM.2.1 dX3_rests_76 (lv_at hl 1 rfl) ?_
    refine lv_goto (tgt := 82) hM.1 hM.2.1 dX3_rests_78 (by decide) ?_
    exact hR _ _ _ _ _ _ _ (Option.some.inj hf) rfl rfl hw dX3_rests_82
theorem hd_X3_rests : yX3_rests.cls = RX3 ∧ yX3_rests.cls ≠ "java/lang/invoke/MethodHandle" ∧ yX3_rests.cls ≠ "java/lang/invoke/VarHandle" ∧ (parseMethodDescriptor yX3_rests.desc).map (fun d => d.parameters.length) = some 5 := ⟨rfl, by decide, by decide, by decide +kernel⟩
