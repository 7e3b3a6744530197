theorem dX12_dayGoes_0 : decode cX12_dayGoes 0 = .ok (.iconst 0, 1) := by decide +kernel
theorem dX12_dayGoes_1 : decode cX12_dayGoes 1 = .ok (.istore_n 1, 1) := by decide +kernel
theorem dX12_dayGoes_2 : decode cX12_dayGoes 2 = .ok (.iload_n 1, 1) := by decide +kernel
theorem dX12_dayGoes_3 : decode cX12_dayGoes 3 = .ok (.aload_n 0, 1) := by decide +kernel
theorem dX12_dayGoes_4 : decode cX12_dayGoes 4 = .ok (.getfield 80, 3) := by decide +kernel
theorem dX12_dayGoes_7 : decode cX12_dayGoes 7 = .ok (.aload_n 0, 1) := by decide +kernel
theorem dX12_dayGoes_8 : decode cX12_dayGoes 8 = .ok (.getfield 266, 3) := by decide +kernel
theorem dX12_dayGoes_11 : decode cX12_dayGoes 11 = .ok (.iaload, 1) := by decide +kernel
theorem dX12_dayGoes_12 : decode cX12_dayGoes 12 = .ok (.if_icmp .ge 28, 3) := by decide +kernel
theorem dX12_dayGoes_15 : decode cX12_dayGoes 15 = .ok (.aload_n 0, 1) := by decide +kernel
theorem dX12_dayGoes_16 : decode cX12_dayGoes 16 = .ok (.iload_n 1, 1) := by decide +kernel
theorem dX12_dayGoes_17 : decode cX12_dayGoes 17 = .ok (.invokevirtual 376, 3) := by decide +kernel
theorem dX12_dayGoes_20 : decode cX12_dayGoes 20 = .ok (.aload_n 0, 1) := by decide +kernel
theorem dX12_dayGoes_21 : decode cX12_dayGoes 21 = .ok (.getfield 149, 3) := by decide +kernel
theorem dX12_dayGoes_24 : decode cX12_dayGoes 24 = .ok (.iconst 0, 1) := by decide +kernel
theorem dX12_dayGoes_25 : decode cX12_dayGoes 25 = .ok (.iaload, 1) := by decide +kernel
theorem dX12_dayGoes_26 : decode cX12_dayGoes 26 = .ok (.if_icmp .ne 8, 3) := by decide +kernel
theorem dX12_dayGoes_29 : decode cX12_dayGoes 29 = .ok (.aload_n 0, 1) := by decide +kernel
theorem dX12_dayGoes_30 : decode cX12_dayGoes 30 = .ok (.iload_n 1, 1) := by decide +kernel
theorem dX12_dayGoes_31 : decode cX12_dayGoes 31 = .ok (.invokevirtual 416, 3) := by decide +kernel
theorem dX12_dayGoes_34 : decode cX12_dayGoes 34 = .ok (.iinc 1 1, 3) := by decide +kernel
theorem dX12_dayGoes_37 : decode cX12_dayGoes 37 = .ok (.goto (-35), 3) := by decide +kernel
theorem dX12_dayGoes_40 : decode cX12_dayGoes 40 = .ok (.aload_n 0, 1) := by decide +kernel
theorem dX12_dayGoes_41 : decode cX12_dayGoes 41 = .ok (.invokevirtual 419, 3) := by decide +kernel
theorem dX12_dayGoes_44 : decode cX12_dayGoes 44 = .ok (.aload_n 0, 1) := by decide +kernel
theorem dX12_dayGoes_45 : decode cX12_dayGoes 45 = .ok (.getfield 149, 3) := by decide +kernel
theorem dX12_dayGoes_48 : decode cX12_dayGoes 48 = .ok (.iconst 0, 1) := by decide +kernel
theorem dX12_dayGoes_49 : decode cX12_dayGoes 49 = .ok (.dup2, 1) := by decide +kernel
theorem dX12_dayGoes_50 : decode cX12_dayGoes 50 = .ok (.iaload, 1) := by decide +kernel
theorem dX12_dayGoes_51 : decode cX12_dayGoes 51 = .ok (.iconst 1, 1) := by decide +kernel
theorem dX12_dayGoes_52 : decode cX12_dayGoes 52 = .ok (.iadd, 1) := by decide +kernel
theorem dX12_dayGoes_53 : decode cX12_dayGoes 53 = .ok (.iastore, 1) := by decide +kernel
theorem dX12_dayGoes_54 : decode cX12_dayGoes 54 = .ok (.return_, 1) := by decide +kernel
def c_X12_dayGoes_L2b {ρ : Type}  (K1 : PH → Option ρ) (REC : Int32 → PH → Option ρ) (x1 : Int32) (h : PH) : Option ρ :=
  gd (ixOK (h.1 0 18) 2) <|
  if (h.1 21 (h.1 0 18).toNatClampNeg) ≤ x1 then
    K1 h
  else
    (c_X12_dayOf x1 h).bind fun r2 =>
    if r2 = (h.1 44 0) then
      (c_X12_dutyGoes x1 h).bind fun h4 =>
      nm (x1 + 1) fun v5 =>
      REC v5 h4
    else
      nm (x1 + 1) fun v3 =>
      REC v3 h
set_option maxHeartbeats 4000000 in
set_option maxRecDepth 100000 in
theorem w_X12_dayGoes_L2b {p0 : Program} {l : Launch} {e : Env} {s : State} {m : MethodId} {args : Array Value} {below : List Frame} {meth : Method} {c : Code} {Q : State → Prop} {D : va_G} {G : GG} {A : Nat → Prop} {H0 : Heap} {ad : Nat → Nat} {lay : List KK} {X : va_W} {ρ : Type} {r0 : ρ} {x1 : Int32} {h : PH} {H : Heap} {locs : List Loc} {ls : Array Slot} {K1 : PH → Option ρ} {REC : Int32 → PH → Option ρ} (hM : CallFix p0 m c cX12_dayGoes 2 s args lw_g RX12) (ho : okX12 lay) (hk1 : ∀ (h : PH), ∀ (H : Heap) (locs : List Loc) (ls : Array Slot), K1 h = some r0 → Wd D G A H0 ad lay X h s H locs → lv_has ls 2 [(0, .ref (ad 0))] → W p0 l e (rmN 7 159) s m args below meth c H locs 0 0 Q (F0 m 40 ls [])) (hrec : ∀ (x1 : Int32) (h : PH), ∀ (H : Heap) (locs : List Loc) (ls : Array Slot), REC x1 h = some r0 → Wd D G A H0 ad lay X h s H locs → lv_has ls 2 [(0, .ref (ad 0)), (1, .int x1)] → W p0 l e (rmN 7 159) s m args below meth c H locs 0 0 Q (F0 m 2 ls [])) (hw : Wd D G A H0 ad lay X h s H locs) (hl : lv_has ls 2 [(0, .ref (ad 0)), (1, .int x1)]) (hf : c_X12_dayGoes_L2b K1 REC x1 h = some r0) : W p0 l e (rmN 7 159) s m args below meth c H locs 0 0 Q (F0 m 2 ls []) := by
  unfold c_X12_dayGoes_L2b at hf
  refine lv_iload_n hM.1 hM.2.1 dX12_dayGoes_2 rfl (lv_at hl 1 rfl) ?_
  refine lv_aload_n hM.1 hM.2.1 dX12_dayGoes_3 rfl (lv_at hl 0 rfl) ?_
  refine gf_X12_duties hM hw (okX12.o ho) fl_X12_80 dX12_dayGoes_4 ?_
  refine lv_aload_n hM.1 hM.2.1 dX12_dayGoes_7 rfl (lv_at hl 0 rfl) ?_
  refine gf_X12_live hM hw (okX12.o ho) fl_X12_266 dX12_dayGoes_8 ?_
  refine x_iald hM hw (okX12.duties ho) hf dX12_dayGoes_11 (fun hf => ?_)
  refine x_ic_ge (tgt := 40) hM hf dX12_dayGoes_12 (by decide) (fun hf => ?_) (fun hf => ?_)
  · exact hk1 _ _ _ _ hf hw (lv_sub hl [0] rfl)
  refine lv_aload_n hM.1 hM.2.1 dX12_dayGoes_15 rfl (lv_at hl 0 rfl) ?_
  refine lv_iload_n hM.1 hM.2.1 dX12_dayGoes_16 rfl (lv_at hl 1 rfl) ?_
  refine x_callVIr (rest := []) hM hw (ct_X12_dayOf l ho x1) [.int x1] (okX12.o ho) rfl rfl rfl (gi_V ml_X12_376 im_X12_dayOf sl_X12_dayOf in_X12 kc_X12_dayOf) hd_X12_dayOf rfl ⟨Nat.le_of_ble_eq_true rfl, Nat.le_of_ble_eq_true rfl⟩ rfl (Nat.le_of_ble_eq_true rfl) hl.1 hcs0 hf dX12_dayGoes_17 (fun r2 H locs hf hw => ?_)
  refine lv_aload_n hM.1 hM.2.1 dX12_dayGoes_20 rfl (lv_at hl 0 rfl) ?_
  refine gf_X12_row hM hw (okX12.o ho) fl_X12_149 dX12_dayGoes_21 ?_
  refine lv_iconst (v := 0) hM.1 hM.2.1 dX12_dayGoes_24 ic_0 ?_
  refine x_ialdK hM hw (okX12.row ho) 0 (by decide) (by decide) dX12_dayGoes_25 ?_
  refine x_ic_ne (tgt := 34) hM hf dX12_dayGoes_26 (by decide) (fun hf => ?_) (fun hf => ?_)
  · refine x_iinc (k := 1) (d := 1) hM hf dX12_dayGoes_34 hl rfl (by decide) (by decide) (fun v3 => [(1, .int v3), (0, .ref (ad 0))]) (fun _ => rfl) (fun v3 ls hf hl => ?_)
    refine lv_goto (tgt := 2) hM.1 hM.2.1 dX12_dayGoes_37 (by decide) ?_
    exact hrec _ _ _ _ _ hf hw (lv_sub hl [1, 0] rfl)
  refine lv_aload_n hM.1 hM.2.1 dX12_dayGoes_29 rfl (lv_at hl 0 rfl) ?_
  refine lv_iload_n hM.1 hM.2.1 dX12_dayGoes_30 rfl (lv_at hl 1 rfl) ?_
  refine x_callVV (rest := []) hM hw (ct_X12_dutyGoes l ho x1) [.int x1] (okX12.o ho) rfl rfl rfl (gi_V ml_X12_416 im_X12_dutyGoes sl_X12_dutyGoes in_X12 kc_X12_dutyGoes) hd_X12_dutyGoes rfl ⟨Nat.le_of_ble_eq_true rfl, Nat.le_of_ble_eq_true rfl⟩ rfl (Nat.le_of_ble_eq_true rfl) hl.1 hcs0 hf dX12_dayGoes_31 (fun h4 H locs hf hw => ?_)
  refine x_iinc (k := 1) (d := 1) hM hf dX12_dayGoes_34 hl rfl (by decide) (by decide) (fun v5 => [(1, .int v5), (0, .ref (ad 0))]) (fun _ => rfl) (fun v5 ls hf hl => ?_)
  refine lv_goto (tgt := 2) hM.1 hM.2.1 dX12_dayGoes_37 (by decide) ?_
  exact hrec _ _ _ _ _ hf hw (lv_sub hl [1, 0] rfl)
set_option maxHeartbeats 4000000 in
set_option maxRecDepth 100000 in
theorem w_X12_dayGoes_L2 {p0 : Program} {l : Launch} {e : Env} {s : State} {m : MethodId} {args : Array Value} {below : List Frame} {meth : Method} {c : Code} {Q : State → Prop} {D : va_G} {G : GG} {A : Nat → Prop} {H0 : Heap} {ad : Nat → Nat} {lay : List KK} {X : va_W} {ρ : Type} {r0 : ρ} {K1 : PH → Option ρ} (hM : CallFix p0 m c cX12_dayGoes 2 s args lw_g RX12) (ho : okX12 lay) (hk1 : ∀ (h : PH), ∀ (H : Heap) (locs : List Loc) (ls : Array Slot), K1 h = some r0 → Wd D G A H0 ad lay X h s H locs → lv_has ls 2 [(0, .ref (ad 0))] → W p0 l e (rmN 7 159) s m args below meth c H locs 0 0 Q (F0 m 40 ls [])) (n : Nat) (x1 : Int32) (h : PH) (hf : lq2 (c_X12_dayGoes_L2b K1) n x1 h = some r0) : ∀ (H : Heap) (locs : List Loc) (ls : Array Slot), Wd D G A H0 ad lay X h s H locs → lv_has ls 2 [(0, .ref (ad 0)), (1, .int x1)] → W p0 l e (rmN 7 159) s m args below meth c H locs 0 0 Q (F0 m 2 ls []) := by
  exact lq2_i (fun (x1 : Int32) (h : PH) => ∀ (H : Heap) (locs : List Loc) (ls : Array Slot), Wd D G A H0 ad lay X h s H locs → lv_has ls 2 [(0, .ref (ad 0)), (1, .int x1)] → W p0 l e (rmN 7 159) s m args below meth c H locs 0 0 Q (F0 m 2 ls [])) (fun REC x1 h ih hf H locs ls hw hl => w_X12_dayGoes_L2b hM ho hk1 (fun x1 h H locs ls hf hw hl => ih x1 h hf H locs ls hw hl) hw hl hf) n x1 h hf
def c_X12_dayGoes (h : PH) : Option (PH) :=
  nm (0 : Int32) fun v1 =>
  lq2 (c_X12_dayGoes_L2b
    (fun h6 =>
      (c_X12_mendsAll h6).bind fun h7 =>
      nm (setI h7 44 0 ((h7.1 44 0) + 1)) fun h8 =>
      some h8)) fu v1 h
set_option maxHeartbeats 4000000 in
set_option maxRecDepth 100000 in
theorem ct_X12_dayGoes (l : Launch) {lay : List KK} (ho : okX12 lay) : CtV l yX12_dayGoes cX12_dayGoes 2 (none) 7 159 lay (fun h => c_X12_dayGoes h) (fun ad => [.ref (ad 0)]) := by
  refine CtV.mk' RX12 (by decide) rfl (fun _ => Nat.le_of_ble_eq_true rfl) ?_
  intro p0 e s m args below meth c D G A H0 ad X h r0 H ls Q hM hw hl hf hR
  have hl : lv_has ls 2 [(0, .ref (ad 0))] := hl
  unfold c_X12_dayGoes at hf
  refine lv_iconst (v := 0) hM.1 hM.2.1 dX12_dayGoes_0 ic_0 ?_
  refine x_istore_n hM hf dX12_dayGoes_1 rfl hl (by decide) (fun v1 => [(1, .int v1), (0, .ref (ad 0))]) (fun _ => rfl) (fun v1 ls hf hl => ?_)
  refine w_X12_dayGoes_L2 hM ho (fun h6 H locs ls hf hw hl => ?_) fu _ _ hf _ _ _ hw (lv_sub hl [1, 0] rfl)
  refine lv_aload_n hM.1 hM.2.1 dX12_dayGoes_40 rfl (lv_at hl 0 rfl) ?_
  refine x_callVV (rest := []) hM hw (ct_X12_mendsAll l ho) [] (okX12.o ho) rfl rfl rfl (gi_V ml_X12_419 im_X12_mendsAll sl_X12_mendsAll in_X12 kc_X12_mendsAll) hd_X12_mendsAll rfl ⟨Nat.le_of_ble_eq_true rfl, Nat.le_of_ble_eq_true rfl⟩ rfl (Nat.le_of_ble_eq_true rfl) hl.1 hcs0 hf dX12_dayGoes_41 (fun h7 H locs hf hw => ?_)
  refine lv_aload_n hM.1 hM.2.1 dX12_dayGoes_44 rfl (lv_at hl 0 rfl) ?_
  refine gf_X12_row hM hw (okX12.o ho) fl_X12_149 dX12_dayGoes_45 ?_
  refine lv_iconst (v := 0) hM.1 hM.2.1 dX12_dayGoes_48 ic_0 ?_
  refine lv_dup2_11 hM.1 hM.2.1 dX12_dayGoes_49 rfl rfl ?_
  refine x_ialdK hM hw (okX12.row ho) 0 (by decide) (by decide) dX12_dayGoes_50 ?_
  refine lv_iconst (v := 1) hM.1 hM.2.1 dX12_dayGoes_51 ic_1 ?_
  refine lv_iadd hM.1 hM.2.1 dX12_dayGoes_52 ?_
  refine x_iastK hM hw (okX12.row ho) 0 (by decide) (by decide) hf dX12_dayGoes_53 (fun h8 H locs hf hw => ?_)
  exact hR _ _ _ _ _ (Option.some.inj hf) rfl hw dX12_dayGoes_54
theorem hd_X12_dayGoes : yX12_dayGoes.cls = RX12 ∧ yX12_dayGoes.cls ≠ "java/lang/invoke/MethodHandle" ∧ yX12_dayGoes.cls ≠ "java/lang/invoke/VarHandle" ∧ (parseMethodDescriptor yX12_dayGoes.desc).map (fun d => d.parameters.length) = some 0 := ⟨rfl, by decide, by decide, by decide +kernel⟩
theorem dX12_goes_0 : decode cX12_goes 0 = .ok (.iconst 0, 1) := by decide +kernel
theorem dX12_goes_1 : decode cX12_goes 1 = .ok (.istore_n 2, 1) := by decide +kernel
theorem dX12_goes_2 : decode cX12_goes 2 = .ok (.iload_n 2, 1) := by decide +kernel
theorem dX12_goes_3 : decode cX12_goes 3 = .ok (.iload_n 1, 1) := by decide +kernel
theorem dX12_goes_4 : decode cX12_goes 4 = .ok (.if_icmp .ge 13, 3) := by decide +kernel
theorem dX12_goes_7 : decode cX12_goes 7 = .ok (.aload_n 0, 1) := by decide +kernel
theorem dX12_goes_8 : decode cX12_goes 8 = .ok (.invokevirtual 422, 3) := by decide +kernel
theorem dX12_goes_11 : decode cX12_goes 11 = .ok (.iinc 2 1, 3) := by decide +kernel
theorem dX12_goes_14 : decode cX12_goes 14 = .ok (.goto (-12), 3) := by decide +kernel
theorem dX12_goes_17 : decode cX12_goes 17 = .ok (.return_, 1) := by decide +kernel
def c_X12_goes_L2b {ρ : Type}  (z1 : Int32) (K1 : PH → Option ρ) (REC : Int32 → PH → Option ρ) (x2 : Int32) (h : PH) : Option ρ :=
  if z1 ≤ x2 then
    K1 h
  else
    (c_X12_dayGoes h).bind fun h2 =>
    nm (x2 + 1) fun v3 =>
    REC v3 h2
set_option maxHeartbeats 4000000 in
set_option maxRecDepth 100000 in
theorem w_X12_goes_L2b {p0 : Program} {l : Launch} {e : Env} {s : State} {m : MethodId} {args : Array Value} {below : List Frame} {meth : Method} {c : Code} {Q : State → Prop} {D : va_G} {G : GG} {A : Nat → Prop} {H0 : Heap} {ad : Nat → Nat} {lay : List KK} {X : va_W} {ρ : Type} {r0 : ρ} {z1 : Int32} {x2 : Int32} {h : PH} {H : Heap} {locs : List Loc} {ls : Array Slot} {K1 : PH → Option ρ} {REC : Int32 → PH → Option ρ} (hM : CallFix p0 m c cX12_goes 3 s args lw_g RX12) (ho : okX12 lay) (hk1 : ∀ (h : PH), ∀ (H : Heap) (locs : List Loc) (ls : Array Slot), K1 h = some r0 → Wd D G A H0 ad lay X h s H locs → lv_has ls 3 [] → W p0 l e (rmN 8 180) s m args below meth c H locs 0 0 Q (F0 m 17 ls [])) (hrec : ∀ (x2 : Int32) (h : PH), ∀ (H : Heap) (locs : List Loc) (ls : Array Slot), REC x2 h = some r0 → Wd D G A H0 ad lay X h s H locs → lv_has ls 3 [(0, .ref (ad 0)), (1, .int z1), (2, .int x2)] → W p0 l e (rmN 8 180) s m args below meth c H locs 0 0 Q (F0 m 2 ls [])) (hw : Wd D G A H0 ad lay X h s H locs) (hl : lv_has ls 3 [(0, .ref (ad 0)), (1, .int z1), (2, .int x2)]) (hf : c_X12_goes_L2b z1 K1 REC x2 h = some r0) : W p0 l e (rmN 8 180) s m args below meth c H locs 0 0 Q (F0 m 2 ls []) := by
  unfold c_X12_goes_L2b at hf
  refine lv_iload_n hM.1 hM.2.1 dX12_goes_2 rfl (lv_at hl 2 rfl) ?_
  refine lv_iload_n hM.1 hM.2.1 dX12_goes_3 rfl (lv_at hl 1 rfl) ?_
  refine x_ic_ge (tgt := 17) hM hf dX12_goes_4 (by decide) (fun hf => ?_) (fun hf => ?_)
  · exact hk1 _ _ _ _ hf hw (lv_sub hl [] rfl)
  refine lv_aload_n hM.1 hM.2.1 dX12_goes_7 rfl (lv_at hl 0 rfl) ?_
  refine x_callVV (rest := []) hM hw (ct_X12_dayGoes l ho) [] (okX12.o ho) rfl rfl rfl (gi_V ml_X12_422 im_X12_dayGoes sl_X12_dayGoes in_X12 kc_X12_dayGoes) hd_X12_dayGoes rfl ⟨Nat.le_of_ble_eq_true rfl, Nat.le_of_ble_eq_true rfl⟩ rfl (Nat.le_of_ble_eq_true rfl) hl.1 hcs0 hf dX12_goes_8 (fun h2 H locs hf hw => ?_)
  refine x_iinc (k := 2) (d := 1) hM hf dX12_goes_11 hl rfl (by decide) (by decide) (fun v3 => [(2, .int v3), (0, .ref (ad 0)), (1, .int z1)]) (fun _ => rfl) (fun v3 ls hf hl => ?_)
  refine lv_goto (tgt := 2) hM.1 hM.2.1 dX12_goes_14 (by decide) ?_
  exact hrec _ _ _ _ _ hf hw (lv_sub hl [1, 2, 0] rfl)
set_option maxHeartbeats 4000000 in
set_option maxRecDepth 100000 in
theorem w_X12_goes_L2 {p0 : Program} {l : Launch} {e : Env} {s : State} {m : MethodId} {args : Array Value} {below : List Frame} {meth : Method} {c : Code} {Q : State → Prop} {D : va_G} {G : GG} {A : Nat → Prop} {H0 : Heap} {ad : Nat → Nat} {lay : List KK} {X : va_W} {ρ : Type} {r0 : ρ} {z1 : Int32} {K1 : PH → Option ρ} (hM : CallFix p0 m c cX12_goes 3 s args lw_g RX12) (ho : okX12 lay) (hk1 : ∀ (h : PH), ∀ (H : Heap) (locs : List Loc) (ls : Array Slot), K1 h = some r0 → Wd D G A H0 ad lay X h s H locs → lv_has ls 3 [] → W p0 l e (rmN 8 180) s m args below meth c H locs 0 0 Q (F0 m 17 ls [])) (n : Nat) (x2 : Int32) (h : PH) (hf : lq2 (c_X12_goes_L2b z1 K1) n x2 h = some r0) : ∀ (H : Heap) (locs : List Loc) (ls : Array Slot), Wd D G A H0 ad lay X h s H locs → lv_has ls 3 [(0, .ref (ad 0)), (1, .int z1), (2, .int x2)] → W p0 l e (rmN 8 180) s m args below meth c H locs 0 0 Q (F0 m 2 ls []) := by
  exact lq2_i (fun (x2 : Int32) (h : PH) => ∀ (H : Heap) (locs : List Loc) (ls : Array Slot), Wd D G A H0 ad lay X h s H locs → lv_has ls 3 [(0, .ref (ad 0)), (1, .int z1), (2, .int x2)] → W p0 l e (rmN 8 180) s m args below meth c H locs 0 0 Q (F0 m 2 ls [])) (fun REC x2 h ih hf H locs ls hw hl => w_X12_goes_L2b hM ho hk1 (fun x2 h H locs ls hf hw hl => ih x2 h hf H locs ls hw hl) hw hl hf) n x2 h hf
def c_X12_goes (a1 : Int32) (h : PH) : Option (PH) :=
  nm (0 : Int32) fun v1 =>
  lq2 (c_X12_goes_L2b a1
    (fun h4 =>
      some h4)) fu v1 h
set_option maxHeartbeats 4000000 in
set_option maxRecDepth 100000 in
theorem ct_X12_goes (l : Launch) {lay : List KK} (ho : okX12 lay) (a1 : Int32) : CtV l yX12_goes cX12_goes 3 (none) 8 180 lay (fun h => c_X12_goes a1 h) (fun ad => [.ref (ad 0), .int a1]) := by
  refine CtV.mk' RX12 (by decide) rfl (fun _ => Nat.le_of_ble_eq_true rfl) ?_
  intro p0 e s m args below meth c D G A H0 ad X h r0 H ls Q hM hw hl hf hR
  have hl : lv_has ls 3 [(0, .ref (ad 0)), (1, .int a1)] := hl
  unfold c_X12_goes at hf
  refine lv_iconst (v := 0) hM.1 hM.2.1 dX12_goes_0 ic_0 ?_
  refine x_istore_n hM hf dX12_goes_1 rfl hl (by decide) (fun v1 => [(2, .int v1), (0, .ref (ad 0)), (1, .int a1)]) (fun _ => rfl) (fun v1 ls hf hl => ?_)
  refine w_X12_goes_L2 hM ho (fun h4 H locs ls hf hw hl => ?_) fu _ _ hf _ _ _ hw (lv_sub hl [1, 2, 0] rfl)
  exact hR _ _ _ _ _ (Option.some.inj hf) rfl hw dX12_goes_17
theorem hd_X12_goes : yX12_goes.cls = RX12 ∧ yX12_goes.cls ≠ "java/lang/invoke/MethodHandle" ∧ yX12_goes.cls ≠ "java/lang/invoke/VarHandle" ∧ (parseMethodDescriptor yX12_goes.desc).map (fun d => d.parameters.length) = some 1 := ⟨rfl, by decide, by decide, by decide +kernel⟩
theorem dX12_hasNow_0 : decode cX12_hasNow 0 = .ok (.aload_n 0, 1) := by decide +kernel
theorem dX12_hasNow_1 : decode cX12_hasNow 1 = .ok (.getfield 146, 3) := by decide +kernel
theorem dX12_hasNow_4 : decode cX12_hasNow 4 = .ok (.iconst 3, 1) := by decide +kernel
theorem dX12_hasNow_5 : decode cX12_hasNow 5 = .ok (.iaload, 1) := by decide +kernel
theorem dX12_hasNow_6 : decode cX12_hasNow 6 = .ok (.iload_n 1, 1) := by decide +kernel
theorem dX12_hasNow_7 : decode cX12_hasNow 7 = .ok (.ishr, 1) := by decide +kernel
theorem dX12_hasNow_8 : decode cX12_hasNow 8 = .ok (.iconst 1, 1) := by decide +kernel
theorem dX12_hasNow_9 : decode cX12_hasNow 9 = .ok (.iand, 1) := by decide +kernel
theorem dX12_hasNow_10 : decode cX12_hasNow 10 = .ok (.ireturn, 1) := by decide +kernel
def c_X12_hasNow (a1 : Int32) (h : PH) : Option (Int32) :=
  some (((h.1 43 3) >>> (a1 &&& 31)) &&& 1)
set_option maxHeartbeats 4000000 in
set_option maxRecDepth 100000 in
theorem ct_X12_hasNow (l : Launch) {lay : List KK} (ho : okX12 lay) (a1 : Int32) : CtI l yX12_hasNow cX12_hasNow 2 (some .int) 0 0 lay (rd (fun h => c_X12_hasNow a1 h)) (fun ad => [.ref (ad 0), .int a1]) := by
  refine CtI.mk' RX12 (by decide) rfl (fun _ => Nat.le_of_ble_eq_true rfl) ?_
  intro p0 e s m args below meth c D G A H0 ad X h r0 H ls Q hM hw hl hf hR
  have hl : lv_has ls 2 [(0, .ref (ad 0)), (1, .int a1)] := hl
  obtain ⟨v0, hv0, hr0⟩ : ∃ v0, c_X12_hasNow a1 h = some v0 ∧ r0 = (v0, h) := rd_some hf
  subst hr0
  have hf := hv0
  unfold c_X12_hasNow at hf
  refine lv_aload_n hM.1 hM.2.1 dX12_hasNow_0 rfl (lv_at hl 0 rfl) ?_
  refine gf_X12_now hM hw (okX12.o ho) fl_X12_146 dX12_hasNow_1 ?_
  refine lv_iconst (v := 3) hM.1 hM.2.1 dX12_hasNow_4 ic_3 ?_
  refine x_ialdK hM hw (okX12.now ho) 3 (by decide) (by decide) dX12_hasNow_5 ?_
  refine lv_iload_n hM.1 hM.2.1 dX12_hasNow_6 rfl (lv_at hl 1 rfl) ?_
  refine lv_ishr hM.1 hM.2.1 dX12_hasNow_7 ?_
  refine lv_iconst (v := 1) hM.1 hM.2.1 dX12_hasNow_8 ic_1 ?_
  refine lv_iand hM.1 hM.2.1 dX12_hasNow_9 ?_
  exact hR _ _ _ _ _ _ _ (congrArg (fun z => (z, _)) (Option.some.inj hf)) rfl rfl hw dX12_hasNow_10
theorem hd_X12_hasNow : yX12_hasNow.cls = RX12 ∧ yX12_hasNow.cls ≠ "java/lang/invoke/MethodHandle" ∧ yX12_hasNow.cls ≠ "java/lang/invoke/VarHandle" ∧ (parseMethodDescriptor yX12_hasNow.desc).map (fun d => d.parameters.length) = some 1 := ⟨rfl, by decide, by decide, by decide +kernel⟩
theorem dX12_man_0 : decode cX12_man 0 = .ok (.aload_n 0, 1) := by decide +kernel
theorem dX12_man_1 : decode cX12_man 1 = .ok (.iload_n 1, 1) := by decide +kernel
theorem dX12_man_2 : decode cX12_man 2 = .ok (.invokevirtual 425, 3) := by decide +kernel
theorem dX12_man_5 : decode cX12_man 5 = .ok (.ifCond .ne 5, 3) := by decide +kernel
theorem dX12_man_8 : decode cX12_man 8 = .ok (.iconst (-1), 1) := by decide +kernel
theorem dX12_man_9 : decode cX12_man 9 = .ok (.ireturn, 1) := by decide +kernel
theorem dX12_man_10 : decode cX12_man 10 = .ok (.iload_n 2, 1) := by decide +kernel
theorem dX12_man_11 : decode cX12_man 11 = .ok (.tableswitch 146 0 4 #[33, 43, 57, 71, 71], 33) := by decide +kernel
theorem dX12_man_44 : decode cX12_man 44 = .ok (.aload_n 0, 1) := by decide +kernel
theorem dX12_man_45 : decode cX12_man 45 = .ok (.getfield 146, 3) := by decide +kernel
theorem dX12_man_48 : decode cX12_man 48 = .ok (.bipush 31, 2) := by decide +kernel
theorem dX12_man_50 : decode cX12_man 50 = .ok (.iload_n 1, 1) := by decide +kernel
theorem dX12_man_51 : decode cX12_man 51 = .ok (.iadd, 1) := by decide +kernel
theorem dX12_man_52 : decode cX12_man 52 = .ok (.iaload, 1) := by decide +kernel
theorem dX12_man_53 : decode cX12_man 53 = .ok (.ireturn, 1) := by decide +kernel
theorem dX12_man_54 : decode cX12_man 54 = .ok (.aload_n 0, 1) := by decide +kernel
theorem dX12_man_55 : decode cX12_man 55 = .ok (.getfield 55, 3) := by decide +kernel
theorem dX12_man_58 : decode cX12_man 58 = .ok (.iconst 5, 1) := by decide +kernel
theorem dX12_man_59 : decode cX12_man 59 = .ok (.aload_n 0, 1) := by decide +kernel
theorem dX12_man_60 : decode cX12_man 60 = .ok (.getfield 266, 3) := by decide +kernel
theorem dX12_man_63 : decode cX12_man 63 = .ok (.imul, 1) := by decide +kernel
theorem dX12_man_64 : decode cX12_man 64 = .ok (.iload_n 1, 1) := by decide +kernel
theorem dX12_man_65 : decode cX12_man 65 = .ok (.iadd, 1) := by decide +kernel
theorem dX12_man_66 : decode cX12_man 66 = .ok (.iaload, 1) := by decide +kernel
theorem dX12_man_67 : decode cX12_man 67 = .ok (.ireturn, 1) := by decide +kernel
theorem dX12_man_68 : decode cX12_man 68 = .ok (.aload_n 0, 1) := by decide +kernel
theorem dX12_man_69 : decode cX12_man 69 = .ok (.getfield 58, 3) := by decide +kernel
theorem dX12_man_72 : decode cX12_man 72 = .ok (.iconst 5, 1) := by decide +kernel
theorem dX12_man_73 : decode cX12_man 73 = .ok (.aload_n 0, 1) := by decide +kernel
theorem dX12_man_74 : decode cX12_man 74 = .ok (.getfield 266, 3) := by decide +kernel
theorem dX12_man_77 : decode cX12_man 77 = .ok (.imul, 1) := by decide +kernel
theorem dX12_man_78 : decode cX12_man 78 = .ok (.iload_n 1, 1) := by decide +kernel
theorem dX12_man_79 : decode cX12_man 79 = .ok (.iadd, 1) := by decide +kernel
theorem dX12_man_80 : decode cX12_man 80 = .ok (.iaload, 1) := by decide +kernel
theorem dX12_man_81 : decode cX12_man 81 = .ok (.ireturn, 1) := by decide +kernel
theorem dX12_man_82 : decode cX12_man 82 = .ok (.iconst 0, 1) := by decide +kernel
theorem dX12_man_83 : decode cX12_man 83 = .ok (.istore_n 3, 1) := by decide +kernel
theorem dX12_man_84 : decode cX12_man 84 = .ok (.iconst 0, 1) := by decide +kernel
theorem dX12_man_85 : decode cX12_man 85 = .ok (.istore 4, 2) := by decide +kernel
theorem dX12_man_87 : decode cX12_man 87 = .ok (.iload 4, 2) := by decide +kernel
theorem dX12_man_89 : decode cX12_man 89 = .ok (.aload_n 0, 1) := by decide +kernel
theorem dX12_man_90 : decode cX12_man 90 = .ok (.getfield 80, 3) := by decide +kernel
theorem dX12_man_93 : decode cX12_man 93 = .ok (.aload_n 0, 1) := by decide +kernel
theorem dX12_man_94 : decode cX12_man 94 = .ok (.getfield 266, 3) := by decide +kernel
theorem dX12_man_97 : decode cX12_man 97 = .ok (.iaload, 1) := by decide +kernel
theorem dX12_man_98 : decode cX12_man 98 = .ok (.if_icmp .ge 57, 3) := by decide +kernel
theorem dX12_man_101 : decode cX12_man 101 = .ok (.aload_n 0, 1) := by decide +kernel
theorem dX12_man_102 : decode cX12_man 102 = .ok (.iload 4, 2) := by decide +kernel
theorem dX12_man_104 : decode cX12_man 104 = .ok (.invokevirtual 373, 3) := by decide +kernel
theorem dX12_man_107 : decode cX12_man 107 = .ok (.iload_n 1, 1) := by decide +kernel
theorem dX12_man_108 : decode cX12_man 108 = .ok (.if_icmp .ne 41, 3) := by decide +kernel
theorem dX12_man_111 : decode cX12_man 111 = .ok (.iload_n 2, 1) := by decide +kernel
theorem dX12_man_112 : decode cX12_man 112 = .ok (.iconst 3, 1) := by decide +kernel
theorem dX12_man_113 : decode cX12_man 113 = .ok (.if_icmp .ne 19, 3) := by decide +kernel
theorem dX12_man_116 : decode cX12_man 116 = .ok (.aload_n 0, 1) := by decide +kernel
theorem dX12_man_117 : decode cX12_man 117 = .ok (.getfield 146, 3) := by decide +kernel
theorem dX12_man_120 : decode cX12_man 120 = .ok (.bipush 22, 2) := by decide +kernel
theorem dX12_man_122 : decode cX12_man 122 = .ok (.iload 4, 2) := by decide +kernel
theorem dX12_man_124 : decode cX12_man 124 = .ok (.iadd, 1) := by decide +kernel
theorem dX12_man_125 : decode cX12_man 125 = .ok (.iaload, 1) := by decide +kernel
theorem dX12_man_126 : decode cX12_man 126 = .ok (.ifCond .lt 23, 3) := by decide +kernel
theorem dX12_man_129 : decode cX12_man 129 = .ok (.goto 17, 3) := by decide +kernel
theorem dX12_man_132 : decode cX12_man 132 = .ok (.aload_n 0, 1) := by decide +kernel
theorem dX12_man_133 : decode cX12_man 133 = .ok (.getfield 146, 3) := by decide +kernel
theorem dX12_man_136 : decode cX12_man 136 = .ok (.bipush 13, 2) := by decide +kernel
theorem dX12_man_138 : decode cX12_man 138 = .ok (.iload 4, 2) := by decide +kernel
theorem dX12_man_140 : decode cX12_man 140 = .ok (.iadd, 1) := by decide +kernel
theorem dX12_man_141 : decode cX12_man 141 = .ok (.iaload, 1) := by decide +kernel
theorem dX12_man_142 : decode cX12_man 142 = .ok (.iconst 2, 1) := by decide +kernel
theorem dX12_man_143 : decode cX12_man 143 = .ok (.if_icmp .ne 6, 3) := by decide +kernel
theorem dX12_man_146 : decode cX12_man 146 = .ok (.iinc 3 1, 3) := by decide +kernel
theorem dX12_man_149 : decode cX12_man 149 = .ok (.iinc 4 1, 3) := by decide +kernel
theorem dX12_man_152 : decode cX12_man 152 = .ok (.goto (-65), 3) := by decide +kernel
theorem dX12_man_155 : decode cX12_man 155 = .ok (.iload_n 3, 1) := by decide +kernel
theorem dX12_man_156 : decode cX12_man 156 = .ok (.ireturn, 1) := by decide +kernel
theorem dX12_man_157 : decode cX12_man 157 = .ok (.iconst (-1), 1) := by decide +kernel
theorem dX12_man_158 : decode cX12_man 158 = .ok (.ireturn, 1) := by decide +kernel
def c_X12_man_L87b {ρ : Type}  (z1 : Int32) (z2 : Int32) (h : PH) (K1 : Int32 → Option ρ) (REC : Int32 → Int32 → Option ρ) (x3 : Int32) (x4 : Int32) : Option ρ :=
  gd (ixOK (h.1 0 18) 2) <|
  if (h.1 21 (h.1 0 18).toNatClampNeg) ≤ x4 then
    K1 x3
  else
    (c_X12_manOf x4 h).bind fun r4 =>
    if r4 = z1 then
      if z2 = 3 then
        gd (ixOK (22 + x4) 40) <|
        if (h.1 43 (22 + x4).toNatClampNeg) < 0 then
          nm (x4 + 1) fun v9 =>
          REC x3 v9
        else
          nm (x3 + 1) fun v10 =>
          nm (x4 + 1) fun v11 =>
          REC v10 v11
      else
        gd (ixOK (13 + x4) 40) <|
        if (h.1 43 (13 + x4).toNatClampNeg) = 2 then
          nm (x3 + 1) fun v7 =>
          nm (x4 + 1) fun v8 =>
          REC v7 v8
        else
          nm (x4 + 1) fun v6 =>
          REC x3 v6
    else
      nm (x4 + 1) fun v5 =>
      REC x3 v5
set_option maxHeartbeats 4000000 in
set_option maxRecDepth 100000 in
theorem w_X12_man_L87b {p0 : Program} {l : Launch} {e : Env} {s : State} {m : MethodId} {args : Array Value} {below : List Frame} {meth : Method} {c : Code} {Q : State → Prop} {D : va_G} {G : GG} {A : Nat → Prop} {H0 : Heap} {ad : Nat → Nat} {lay : List KK} {X : va_W} {ρ : Type} {r0 : ρ} {z1 : Int32} {z2 : Int32} {x3 : Int32} {x4 : Int32} {h : PH} {H : Heap} {locs : List Loc} {ls : Array Slot} {K1 : Int32 → Option ρ} {REC : Int32 → Int32 → Option ρ} (hM : CallFix p0 m c cX12_man 5 s args lw_g RX12) (ho : okX12 lay) (hk1 : ∀ (x3 : Int32), ∀ (H : Heap) (locs : List Loc) (ls : Array Slot), K1 x3 = some r0 → Wd D G A H0 ad lay X h s H locs → lv_has ls 5 [(3, .int x3)] → W p0 l e (rmN 2 43) s m args below meth c H locs 0 0 Q (F0 m 155 ls [])) (hrec : ∀ (x3 : Int32) (x4 : Int32), ∀ (H : Heap) (locs : List Loc) (ls : Array Slot), REC x3 x4 = some r0 → Wd D G A H0 ad lay X h s H locs → lv_has ls 5 [(0, .ref (ad 0)), (1, .int z1), (2, .int z2), (3, .int x3), (4, .int x4)] → W p0 l e (rmN 2 43) s m args below meth c H locs 0 0 Q (F0 m 87 ls [])) (hw : Wd D G A H0 ad lay X h s H locs) (hl : lv_has ls 5 [(0, .ref (ad 0)), (1, .int z1), (2, .int z2), (3, .int x3), (4, .int x4)]) (hf : c_X12_man_L87b z1 z2 h K1 REC x3 x4 = some r0) : W p0 l e (rmN 2 43) s m args below meth c H locs 0 0 Q (F0 m 87 ls []) := by
  unfold c_X12_man_L87b at hf
  refine lv_iload hM.1 hM.2.1 dX12_man_87 (lv_at hl 4 rfl) ?_
  refine lv_aload_n hM.1 hM.2.1 dX12_man_89 rfl (lv_at hl 0 rfl) ?_
  refine gf_X12_duties hM hw (okX12.o ho) fl_X12_80 dX12_man_90 ?_
  refine lv_aload_n hM.1 hM.2.1 dX12_man_93 rfl (lv_at hl 0 rfl) ?_
  refine gf_X12_live hM hw (okX12.o ho) fl_X12_266 dX12_man_94 ?_
  refine x_iald hM hw (okX12.duties ho) hf dX12_man_97 (fun hf => ?_)
  refine x_ic_ge (tgt := 155) hM hf dX12_man_98 (by decide) (fun hf => ?_) (fun hf => ?_)
  · exact hk1 _ _ _ _ hf hw (lv_sub hl [3] rfl)
  refine lv_aload_n hM.1 hM.2.1 dX12_man_101 rfl (lv_at hl 0 rfl) ?_
  refine lv_iload hM.1 hM.2.1 dX12_man_102 (lv_at hl 4 rfl) ?_
  refine x_callVIr (rest := []) hM hw (ct_X12_manOf l ho x4) [.int x4] (okX12.o ho) rfl rfl rfl (gi_V ml_X12_373 im_X12_manOf sl_X12_manOf in_X12 kc_X12_manOf) hd_X12_manOf rfl ⟨Nat.le_of_ble_eq_true rfl, Nat.le_of_ble_eq_true rfl⟩ rfl (Nat.le_of_ble_eq_true rfl) hl.1 hcs0 hf dX12_man_104 (fun r4 H locs hf hw => ?_)
  refine lv_iload_n hM.1 hM.2.1 dX12_man_107 rfl (lv_at hl 1 rfl) ?_
  refine x_ic_ne (tgt := 149) hM hf dX12_man_108 (by decide) (fun hf => ?_) (fun hf => ?_)
  · refine x_iinc (k := 4) (d := 1) hM hf dX12_man_149 hl rfl (by decide) (by decide) (fun v5 => [(4, .int v5), (0, .ref (ad 0)), (1, .int z1), (2, .int z2), (3, .int x3)]) (fun _ => rfl) (fun v5 ls hf hl => ?_)
    refine lv_goto (tgt := 87) hM.1 hM.2.1 dX12_man_152 (by decide) ?_
    exact hrec _ _ _ _ _ hf hw (lv_sub hl [1, 2, 3, 4, 0] rfl)
  refine lv_iload_n hM.1 hM.2.1 dX12_man_111 rfl (lv_at hl 2 rfl) ?_
  refine lv_iconst (v := 3) hM.1 hM.2.1 dX12_man_112 ic_3 ?_
  refine x_ic_ne (tgt := 132) hM hf dX12_man_113 (by decide) (fun hf => ?_) (fun hf => ?_)
  · refine lv_aload_n hM.1 hM.2.1 dX12_man_132 rfl (lv_at hl 0 rfl) ?_
    refine gf_X12_now hM hw (okX12.o ho) fl_X12_146 dX12_man_133 ?_
    refine lv_bipush (v := 13) hM.1 hM.2.1 dX12_man_136 (by decide) ?_
    refine lv_iload hM.1 hM.2.1 dX12_man_138 (lv_at hl 4 rfl) ?_
    refine lv_iadd hM.1 hM.2.1 dX12_man_140 ?_
    refine x_iald hM hw (okX12.now ho) hf dX12_man_141 (fun hf => ?_)
    refine lv_iconst (v := 2) hM.1 hM.2.1 dX12_man_142 ic_2 ?_
    refine x_ic_ne (tgt := 149) hM hf dX12_man_143 (by decide) (fun hf => ?_) (fun hf => ?_)
    · refine x_iinc (k := 4) (d := 1) hM hf dX12_man_149 hl rfl (by decide) (by decide) (fun v6 => [(4, .int v6), (0, .ref (ad 0)), (1, .int z1), (2, .int z2), (3, .int x3)]) (fun _ => rfl) (fun v6 ls hf hl => ?_)
      refine lv_goto (tgt := 87) hM.1 hM.2.1 dX12_man_152 (by decide) ?_
      exact hrec _ _ _ _ _ hf hw (lv_sub hl [1, 2, 3, 4, 0] rfl)
    refine x_iinc (k := 3) (d := 1) hM hf dX12_man_146 hl rfl (by decide) (by decide) (fun v7 => [(3, .int v7), (0, .ref (ad 0)), (1, .int z1), (2, .int z2), (4, .int x4)]) (fun _ => rfl) (fun v7 ls hf hl => ?_)
    refine x_iinc (k := 4) (d := 1) hM hf dX12_man_149 hl rfl (by decide) (by decide) (fun v8 => [(4, .int v8), (3, .int v7), (0, .ref (ad 0)), (1, .int z1), (2, .int z2)]) (fun _ => rfl) (fun v8 ls hf hl => ?_)
    refine lv_goto (tgt := 87) hM.1 hM.2.1 dX12_man_152 (by decide) ?_
    exact hrec _ _ _ _ _ hf hw (lv_sub hl [2, 3, 4, 1, 0] rfl)
  refine lv_aload_n hM.1 hM.2.1 dX12_man_116 rfl (lv_at hl 0 rfl) ?_
  refine gf_X12_now hM hw (okX12.o ho) fl_X12_146 dX12_man_117 ?_
  refine lv_bipush (v := 22) hM.1 hM.2.1 dX12_man_120 (by decide) ?_
  refine lv_iload hM.1 hM.2.1 dX12_man_122 (lv_at hl 4 rfl) ?_
  refine lv_iadd hM.1 hM.2.1 dX12_man_124 ?_
  refine x_iald hM hw (okX12.now ho) hf dX12_man_125 (fun hf => ?_)
  refine x_if_lt (tgt := 149) hM hf dX12_man_126 (by decide) (fun hf => ?_) (fun hf => ?_)
  · refine x_iinc (k := 4) (d := 1) hM hf dX12_man_149 hl rfl (by decide) (by decide) (fun v9 => [(4, .int v9), (0, .ref (ad 0)), (1, .int z1), (2, .int z2), (3, .int x3)]) (fun _ => rfl) (fun v9 ls hf hl => ?_)
    refine lv_goto (tgt := 87) hM.1 hM.2.1 dX12_man_152 (by decide) ?_
    exact hrec _ _ _ _ _ hf hw (lv_sub hl [1, 2, 3, 4, 0] rfl)
  refine lv_goto (tgt := 146) hM.1 hM.2.1 dX12_man_129 (by decide) ?_
  refine x_iinc (k := 3) (d := 1) hM hf dX12_man_146 hl rfl (by decide) (by decide) (fun v10 => [(3, .int v10), (0, .ref (ad 0)), (1, .int z1), (2, .int z2), (4, .int x4)]) (fun _ => rfl) (fun v10 ls hf hl => ?_)
  refine x_iinc (k := 4) (d := 1) hM hf dX12_man_149 hl rfl (by decide) (by decide) (fun v11 => [(4, .int v11), (3, .int v10), (0, .ref (ad 0)), (1, .int z1), (2, .int z2)]) (fun _ => rfl) (fun v11 ls hf hl => ?_)
  refine lv_goto (tgt := 87) hM.1 hM.2.1 dX12_man_152 (by decide) ?_
  exact hrec _ _ _ _ _ hf hw (lv_sub hl [2, 3, 4, 1, 0] rfl)
set_option maxHeartbeats 4000000 in
set_option maxRecDepth 100000 in
theorem w_X12_man_L87 {p0 : Program} {l : Launch} {e : Env} {s : State} {m : MethodId} {args : Array Value} {below : List Frame} {meth : Method} {c : Code} {Q : State → Prop} {D : va_G} {G : GG} {A : Nat → Prop} {H0 : Heap} {ad : Nat → Nat} {lay : List KK} {X : va_W} {ρ : Type} {r0 : ρ} {z1 : Int32} {z2 : Int32} {h : PH} {K1 : Int32 → Option ρ} (hM : CallFix p0 m c cX12_man 5 s args lw_g RX12) (ho : okX12 lay) (hk1 : ∀ (x3 : Int32), ∀ (H : Heap) (locs : List Loc) (ls : Array Slot), K1 x3 = some r0 → Wd D G A H0 ad lay X h s H locs → lv_has ls 5 [(3, .int x3)] → W p0 l e (rmN 2 43) s m args below meth c H locs 0 0 Q (F0 m 155 ls [])) (n : Nat) (x3 : Int32) (x4 : Int32) (hf : lq2 (c_X12_man_L87b z1 z2 h K1) n x3 x4 = some r0) : ∀ (H : Heap) (locs : List Loc) (ls : Array Slot), Wd D G A H0 ad lay X h s H locs → lv_has ls 5 [(0, .ref (ad 0)), (1, .int z1), (2, .int z2), (3, .int x3), (4, .int x4)] → W p0 l e (rmN 2 43) s m args below meth c H locs 0 0 Q (F0 m 87 ls []) := by
  exact lq2_i (fun (x3 : Int32) (x4 : Int32) => ∀ (H : Heap) (locs : List Loc) (ls : Array Slot), Wd D G A H0 ad lay X h s H locs → lv_has ls 5 [(0, .ref (ad 0)), (1, .int z1), (2, .int z2), (3, .int x3), (4, .int x4)] → W p0 l e (rmN 2 43) s m args below meth c H locs 0 0 Q (F0 m 87 ls [])) (fun REC x3 x4 ih hf H locs ls hw hl => w_X12_man_L87b hM ho hk1 (fun x3 x4 H locs ls hf hw hl => ih x3 x4 hf H locs ls hw hl) hw hl hf) n x3 x4 hf
def c_X12_man_j82  (x1 : Int32) (x2 : Int32) (h : PH) : Option (Int32) :=
  nm (0 : Int32) fun v2 =>
  nm (0 : Int32) fun v3 =>
  lq2 (c_X12_man_L87b x1 x2 h
    (fun w12 =>
      some w12)) fu v2 v3
set_option maxHeartbeats 4000000 in
set_option maxRecDepth 100000 in
theorem w_X12_man_j82 {p0 : Program} {l : Launch} {e : Env} {s : State} {m : MethodId} {args : Array Value} {below : List Frame} {meth : Method} {c : Code} {Q : State → Prop} {D : va_G} {G : GG} {A : Nat → Prop} {H0 : Heap} {ad : Nat → Nat} {lay : List KK} {X : va_W} {r0 : Int32} {x1 : Int32} {x2 : Int32} {h : PH} {H : Heap} {locs : List Loc} {ls : Array Slot} (hM : CallFix p0 m c cX12_man 5 s args lw_g RX12) (ho : okX12 lay) (hR : RtI p0 l e (rmN 2 43) s m args below meth c cX12_man D G A H0 ad lay X (some .int) (r0, h) Q 0 0) (hw : Wd D G A H0 ad lay X h s H locs) (hl : lv_has ls 5 [(0, .ref (ad 0)), (1, .int x1), (2, .int x2)]) (hf : c_X12_man_j82 x1 x2 h = some r0) : W p0 l e (rmN 2 43) s m args below meth c H locs 0 0 Q (F0 m 82 ls []) := by
  unfold c_X12_man_j82 at hf
  refine lv_iconst (v := 0) hM.1 hM.2.1 dX12_man_82 ic_0 ?_
  refine x_istore_n hM hf dX12_man_83 rfl hl (by decide) (fun v2 => [(3, .int v2), (0, .ref (ad 0)), (1, .int x1), (2, .int x2)]) (fun _ => rfl) (fun v2 ls hf hl => ?_)
  refine lv_iconst (v := 0) hM.1 hM.2.1 dX12_man_84 ic_0 ?_
  refine x_istore hM hf dX12_man_85 hl (by decide) (fun v3 => [(4, .int v3), (3, .int v2), (0, .ref (ad 0)), (1, .int x1), (2, .int x2)]) (fun _ => rfl) (fun v3 ls hf hl => ?_)
  refine w_X12_man_L87 hM ho (fun w12 H locs ls hf hw hl => ?_) fu _ _ hf _ _ _ hw (lv_sub hl [2, 3, 4, 1, 0] rfl)
  refine lv_iload_n hM.1 hM.2.1 dX12_man_155 rfl (lv_at hl 0 rfl) ?_
  exact hR _ _ _ _ _ _ _ (congrArg (fun z => (z, _)) (Option.some.inj hf)) rfl rfl hw dX12_man_156
def c_X12_man (a1 : Int32) (a2 : Int32) (h : PH) : Option (Int32) :=
  (c_X12_isMan a1 h).bind fun r1 =>
  if r1 = 0 then
    some (-1)
  else
    if a2 = 0 then
      gd (ixOK (31 + a1) 40) <|
      some (h.1 43 (31 + a1).toNatClampNeg)
    else
    if a2 = 1 then
      gd (ixOK ((5 * (h.1 0 18)) + a1) 10) <|
      some (h.1 13 ((5 * (h.1 0 18)) + a1).toNatClampNeg)
    else
    if a2 = 2 then
      gd (ixOK ((5 * (h.1 0 18)) + a1) 10) <|
      some (h.1 14 ((5 * (h.1 0 18)) + a1).toNatClampNeg)
    else
    if a2 = 3 then
      c_X12_man_j82 a1 a2 h
    else
    if a2 = 4 then
      c_X12_man_j82 a1 a2 h
    else
      some (-1)
set_option maxHeartbeats 4000000 in
set_option maxRecDepth 100000 in
theorem ct_X12_man (l : Launch) {lay : List KK} (ho : okX12 lay) (a1 : Int32) (a2 : Int32) : CtI l yX12_man cX12_man 5 (some .int) 2 43 lay (rd (fun h => c_X12_man a1 a2 h)) (fun ad => [.ref (ad 0), .int a1, .int a2]) := by
  refine CtI.mk' RX12 (by decide) rfl (fun _ => Nat.le_of_ble_eq_true rfl) ?_
  intro p0 e s m args below meth c D G A H0 ad X h r0 H ls Q hM hw hl hf hR
  have hl : lv_has ls 5 [(0, .ref (ad 0)), (1, .int a1), (2, .int a2)] := hl
  obtain ⟨v0, hv0, hr0⟩ : ∃ v0, c_X12_man a1 a2 h = some v0 ∧ r0 = (v0, h) := rd_some hf
  subst hr0
  have hf := hv0
  unfold c_X12_man at hf
  refine lv_aload_n hM.1 hM.2.1 dX12_man_0 rfl (lv_at hl 0 rfl) ?_
  refine lv_iload_n hM.1 hM.2.1 dX12_man_1 rfl (lv_at hl 1 rfl) ?_
  refine x_callVIr (rest := []) hM hw (ct_X12_isMan l ho a1) [.int a1] (okX12.o ho) rfl rfl rfl (gi_V ml_X12_425 im_X12_isMan sl_X12_isMan in_X12 kc_X12_isMan) hd_X12_isMan rfl ⟨Nat.le_of_ble_eq_true rfl, Nat.le_of_ble_eq_true rfl⟩ rfl (Nat.le_of_ble_eq_true rfl) hl.1 hcs0 hf dX12_man_2 (fun r1 H locs hf hw => ?_)
  refine x_if_ne (tgt := 10) hM hf dX12_man_5 (by decide) (fun hf => ?_) (fun hf => ?_)
  · refine lv_iload_n hM.1 hM.2.1 dX12_man_10 rfl (lv_at hl 2 rfl) ?_
    refine x_sw hf (fun hx hf => ?_) (fun n0 hf => ?_)
    · refine x_tabIn (tgt := 44) hM hx dX12_man_11 (by decide) (by decide) rfl (by decide) ?_
      refine lv_aload_n hM.1 hM.2.1 dX12_man_44 rfl (lv_at hl 0 rfl) ?_
      refine gf_X12_now hM hw (okX12.o ho) fl_X12_146 dX12_man_45 ?_
      refine lv_bipush (v := 31) hM.1 hM.2.1 dX12_man_48 (by decide) ?_
      refine lv_iload_n hM.1 hM.2.1 dX12_man_50 rfl (lv_at hl 1 rfl) ?_
      refine lv_iadd hM.1 hM.2.1 dX12_man_51 ?_
      refine x_iald hM hw (okX12.now ho) hf dX12_man_52 (fun hf => ?_)
      exact hR _ _ _ _ _ _ _ (congrArg (fun z => (z, _)) (Option.some.inj hf)) rfl rfl hw dX12_man_53
    refine x_sw hf (fun hx hf => ?_) (fun n1 hf => ?_)
    · refine x_tabIn (tgt := 54) hM hx dX12_man_11 (by decide) (by decide) rfl (by decide) ?_
      refine lv_aload_n hM.1 hM.2.1 dX12_man_54 rfl (lv_at hl 0 rfl) ?_
      refine gf_X12_mendsOf hM hw (okX12.o ho) fl_X12_55 dX12_man_55 ?_
      refine lv_iconst (v := 5) hM.1 hM.2.1 dX12_man_58 ic_5 ?_
      refine lv_aload_n hM.1 hM.2.1 dX12_man_59 rfl (lv_at hl 0 rfl) ?_
      refine gf_X12_live hM hw (okX12.o ho) fl_X12_266 dX12_man_60 ?_
      refine lv_imul hM.1 hM.2.1 dX12_man_63 ?_
      refine lv_iload_n hM.1 hM.2.1 dX12_man_64 rfl (lv_at hl 1 rfl) ?_
      refine lv_iadd hM.1 hM.2.1 dX12_man_65 ?_
      refine x_iald hM hw (okX12.mendsOf ho) hf dX12_man_66 (fun hf => ?_)
      exact hR _ _ _ _ _ _ _ (congrArg (fun z => (z, _)) (Option.some.inj hf)) rfl rfl hw dX12_man_67
    refine x_sw hf (fun hx hf => ?_) (fun n2 hf => ?_)
    · refine x_tabIn (tgt := 68) hM hx dX12_man_11 (by decide) (by decide) rfl (by decide) ?_
      refine lv_aload_n hM.1 hM.2.1 dX12_man_68 rfl (lv_at hl 0 rfl) ?_
      refine gf_X12_knowing hM hw (okX12.o ho) fl_X12_58 dX12_man_69 ?_
      refine lv_iconst (v := 5) hM.1 hM.2.1 dX12_man_72 ic_5 ?_
      refine lv_aload_n hM.1 hM.2.1 dX12_man_73 rfl (lv_at hl 0 rfl) ?_
      refine gf_X12_live hM hw (okX12.o ho) fl_X12_266 dX12_man_74 ?_
      refine lv_imul hM.1 hM.2.1 dX12_man_77 ?_
      refine lv_iload_n hM.1 hM.2.1 dX12_man_78 rfl (lv_at hl 1 rfl) ?_
      refine lv_iadd hM.1 hM.2.1 dX12_man_79 ?_
      refine x_iald hM hw (okX12.knowing ho) hf dX12_man_80 (fun hf => ?_)
      exact hR _ _ _ _ _ _ _ (congrArg (fun z => (z, _)) (Option.some.inj hf)) rfl rfl hw dX12_man_81
    refine x_sw hf (fun hx hf => ?_) (fun n3 hf => ?_)
    · refine x_tabIn (tgt := 82) hM hx dX12_man_11 (by decide) (by decide) rfl (by decide) ?_
      exact w_X12_man_j82 hM ho hR hw hl hf
    refine x_sw hf (fun hx hf => ?_) (fun n4 hf => ?_)
    · refine x_tabIn (tgt := 82) hM hx dX12_man_11 (by decide) (by decide) rfl (by decide) ?_
      exact w_X12_man_j82 hM ho hR hw hl hf
    refine lv_tableOut (tgt := 157) hM.1 hM.2.1 dX12_man_11 (by have := sw_ne n0 (k := 0) (by decide); have := sw_ne n1 (k := 1) (by decide); have := sw_ne n2 (k := 2) (by decide); have := sw_ne n3 (k := 3) (by decide); have := sw_ne n4 (k := 4) (by decide); omega) (by decide) ?_
    refine lv_iconst (v := (-1)) hM.1 hM.2.1 dX12_man_157 ic_m1 ?_
    exact hR _ _ _ _ _ _ _ (congrArg (fun z => (z, _)) (Option.some.inj hf)) rfl rfl hw dX12_man_158
  refine lv_iconst (v := (-1)) hM.1 hM.2.1 dX12_man_8 ic_m1 ?_
  exact hR _ _ _ _ _ _ _ (congrArg (fun z => (z, _)) (Option.some.inj hf)) rfl rfl hw dX12_man_9
theorem hd_X12_man : yX12_man.cls = RX12 ∧ yX12_man.cls ≠ "java/lang/invoke/MethodHandle" ∧ yX12_man.cls ≠ "java/lang/invoke/VarHandle" ∧ (parseMethodDescriptor yX12_man.desc).map (fun d => d.parameters.length) = some 2 := ⟨rfl, by decide, by decide, by decide +kernel⟩
theorem dX12_excuse_0 : decode cX12_excuse 0 = .ok (.aload_n 0, 1) := by decide +kernel
theorem dX12_excuse_1 : decode cX12_excuse 1 = .ok (.iload_n 1, 1) := by decide +kernel
theorem dX12_excuse_2 : decode cX12_excuse 2 = .ok (.invokevirtual 428, 3) := by decide +kernel
theorem dX12_excuse_5 : decode cX12_excuse 5 = .ok (.ifCond .ne 5, 3) := by decide +kernel
theorem dX12_excuse_8 : decode cX12_excuse 8 = .ok (.iconst (-1), 1) := by decide +kernel
theorem dX12_excuse_9 : decode cX12_excuse 9 = .ok (.ireturn, 1) := by decide +kernel
theorem dX12_excuse_10 : decode cX12_excuse 10 = .ok (.iload_n 2, 1) := by decide +kernel
theorem dX12_excuse_11 : decode cX12_excuse 11 = .ok (.tableswitch 198 0 6 #[41, 56, 71, 86, 101, 107, 151], 41) := by decide +kernel
theorem dX12_excuse_52 : decode cX12_excuse 52 = .ok (.aload_n 0, 1) := by decide +kernel
theorem dX12_excuse_53 : decode cX12_excuse 53 = .ok (.getfield 64, 3) := by decide +kernel
theorem dX12_excuse_56 : decode cX12_excuse 56 = .ok (.bipush 7, 2) := by decide +kernel
theorem dX12_excuse_58 : decode cX12_excuse 58 = .ok (.aload_n 0, 1) := by decide +kernel
theorem dX12_excuse_59 : decode cX12_excuse 59 = .ok (.getfield 266, 3) := by decide +kernel
theorem dX12_excuse_62 : decode cX12_excuse 62 = .ok (.imul, 1) := by decide +kernel
theorem dX12_excuse_63 : decode cX12_excuse 63 = .ok (.iload_n 1, 1) := by decide +kernel
theorem dX12_excuse_64 : decode cX12_excuse 64 = .ok (.iadd, 1) := by decide +kernel
theorem dX12_excuse_65 : decode cX12_excuse 65 = .ok (.iaload, 1) := by decide +kernel
theorem dX12_excuse_66 : decode cX12_excuse 66 = .ok (.ireturn, 1) := by decide +kernel
theorem dX12_excuse_67 : decode cX12_excuse 67 = .ok (.aload_n 0, 1) := by decide +kernel
theorem dX12_excuse_68 : decode cX12_excuse 68 = .ok (.getfield 67, 3) := by decide +kernel
theorem dX12_excuse_71 : decode cX12_excuse 71 = .ok (.bipush 7, 2) := by decide +kernel
theorem dX12_excuse_73 : decode cX12_excuse 73 = .ok (.aload_n 0, 1) := by decide +kernel
theorem dX12_excuse_74 : decode cX12_excuse 74 = .ok (.getfield 266, 3) := by decide +kernel
theorem dX12_excuse_77 : decode cX12_excuse 77 = .ok (.imul, 1) := by decide +kernel
theorem dX12_excuse_78 : decode cX12_excuse 78 = .ok (.iload_n 1, 1) := by decide +kernel
theorem dX12_excuse_79 : decode cX12_excuse 79 = .ok (.iadd, 1) := by decide +kernel
theorem dX12_excuse_80 : decode cX12_excuse 80 = .ok (.iaload, 1) := by decide +kernel
theorem dX12_excuse_81 : decode cX12_excuse 81 = .ok (.ireturn, 1) := by decide +kernel
theorem dX12_excuse_82 : decode cX12_excuse 82 = .ok (.aload_n 0, 1) := by decide +kernel
theorem dX12_excuse_83 : decode cX12_excuse 83 = .ok (.getfield 70, 3) := by decide +kernel
theorem dX12_excuse_86 : decode cX12_excuse 86 = .ok (.bipush 7, 2) := by decide +kernel
theorem dX12_excuse_88 : decode cX12_excuse 88 = .ok (.aload_n 0, 1) := by decide +kernel
theorem dX12_excuse_89 : decode cX12_excuse 89 = .ok (.getfield 266, 3) := by decide +kernel
theorem dX12_excuse_92 : decode cX12_excuse 92 = .ok (.imul, 1) := by decide +kernel
theorem dX12_excuse_93 : decode cX12_excuse 93 = .ok (.iload_n 1, 1) := by decide +kernel
theorem dX12_excuse_94 : decode cX12_excuse 94 = .ok (.iadd, 1) := by decide +kernel
theorem dX12_excuse_95 : decode cX12_excuse 95 = .ok (.iaload, 1) := by decide +kernel
theorem dX12_excuse_96 : decode cX12_excuse 96 = .ok (.ireturn, 1) := by decide +kernel
theorem dX12_excuse_97 : decode cX12_excuse 97 = .ok (.aload_n 0, 1) := by decide +kernel
theorem dX12_excuse_98 : decode cX12_excuse 98 = .ok (.getfield 73, 3) := by decide +kernel
theorem dX12_excuse_101 : decode cX12_excuse 101 = .ok (.bipush 7, 2) := by decide +kernel
theorem dX12_excuse_103 : decode cX12_excuse 103 = .ok (.aload_n 0, 1) := by decide +kernel
theorem dX12_excuse_104 : decode cX12_excuse 104 = .ok (.getfield 266, 3) := by decide +kernel
theorem dX12_excuse_107 : decode cX12_excuse 107 = .ok (.imul, 1) := by decide +kernel
theorem dX12_excuse_108 : decode cX12_excuse 108 = .ok (.iload_n 1, 1) := by decide +kernel
theorem dX12_excuse_109 : decode cX12_excuse 109 = .ok (.iadd, 1) := by decide +kernel
theorem dX12_excuse_110 : decode cX12_excuse 110 = .ok (.iaload, 1) := by decide +kernel
theorem dX12_excuse_111 : decode cX12_excuse 111 = .ok (.ireturn, 1) := by decide +kernel
theorem dX12_excuse_112 : decode cX12_excuse 112 = .ok (.aload_n 0, 1) := by decide +kernel
theorem dX12_excuse_113 : decode cX12_excuse 113 = .ok (.iload_n 1, 1) := by decide +kernel
theorem dX12_excuse_114 : decode cX12_excuse 114 = .ok (.invokevirtual 431, 3) := by decide +kernel
theorem dX12_excuse_117 : decode cX12_excuse 117 = .ok (.ireturn, 1) := by decide +kernel
theorem dX12_excuse_118 : decode cX12_excuse 118 = .ok (.iconst 0, 1) := by decide +kernel
theorem dX12_excuse_119 : decode cX12_excuse 119 = .ok (.istore_n 3, 1) := by decide +kernel
theorem dX12_excuse_120 : decode cX12_excuse 120 = .ok (.iconst 0, 1) := by decide +kernel
theorem dX12_excuse_121 : decode cX12_excuse 121 = .ok (.istore 4, 2) := by decide +kernel
theorem dX12_excuse_123 : decode cX12_excuse 123 = .ok (.iload 4, 2) := by decide +kernel
theorem dX12_excuse_125 : decode cX12_excuse 125 = .ok (.aload_n 0, 1) := by decide +kernel
theorem dX12_excuse_126 : decode cX12_excuse 126 = .ok (.getfield 80, 3) := by decide +kernel
theorem dX12_excuse_129 : decode cX12_excuse 129 = .ok (.aload_n 0, 1) := by decide +kernel
theorem dX12_excuse_130 : decode cX12_excuse 130 = .ok (.getfield 266, 3) := by decide +kernel
theorem dX12_excuse_133 : decode cX12_excuse 133 = .ok (.iaload, 1) := by decide +kernel
theorem dX12_excuse_134 : decode cX12_excuse 134 = .ok (.if_icmp .ge 26, 3) := by decide +kernel
theorem dX12_excuse_137 : decode cX12_excuse 137 = .ok (.aload_n 0, 1) := by decide +kernel
theorem dX12_excuse_138 : decode cX12_excuse 138 = .ok (.getfield 146, 3) := by decide +kernel
theorem dX12_excuse_141 : decode cX12_excuse 141 = .ok (.bipush 22, 2) := by decide +kernel
theorem dX12_excuse_143 : decode cX12_excuse 143 = .ok (.iload 4, 2) := by decide +kernel
theorem dX12_excuse_145 : decode cX12_excuse 145 = .ok (.iadd, 1) := by decide +kernel
theorem dX12_excuse_146 : decode cX12_excuse 146 = .ok (.iaload, 1) := by decide +kernel
theorem dX12_excuse_147 : decode cX12_excuse 147 = .ok (.iload_n 1, 1) := by decide +kernel
theorem dX12_excuse_148 : decode cX12_excuse 148 = .ok (.if_icmp .ne 6, 3) := by decide +kernel
theorem dX12_excuse_151 : decode cX12_excuse 151 = .ok (.iinc 3 1, 3) := by decide +kernel
theorem dX12_excuse_154 : decode cX12_excuse 154 = .ok (.iinc 4 1, 3) := by decide +kernel
theorem dX12_excuse_157 : decode cX12_excuse 157 = .ok (.goto (-34), 3) := by decide +kernel
theorem dX12_excuse_160 : decode cX12_excuse 160 = .ok (.iload_n 3, 1) := by decide +kernel
theorem dX12_excuse_161 : decode cX12_excuse 161 = .ok (.ireturn, 1) := by decide +kernel
theorem dX12_excuse_162 : decode cX12_excuse 162 = .ok (.iconst 0, 1) := by decide +kernel
theorem dX12_excuse_163 : decode cX12_excuse 163 = .ok (.istore_n 3, 1) := by decide +kernel
theorem dX12_excuse_164 : decode cX12_excuse 164 = .ok (.iconst 0, 1) := by decide +kernel
theorem dX12_excuse_165 : decode cX12_excuse 165 = .ok (.istore 4, 2) := by decide +kernel
theorem dX12_excuse_167 : decode cX12_excuse 167 = .ok (.iload 4, 2) := by decide +kernel
theorem dX12_excuse_169 : decode cX12_excuse 169 = .ok (.aload_n 0, 1) := by decide +kernel
theorem dX12_excuse_170 : decode cX12_excuse 170 = .ok (.getfield 80, 3) := by decide +kernel
theorem dX12_excuse_173 : decode cX12_excuse 173 = .ok (.aload_n 0, 1) := by decide +kernel
theorem dX12_excuse_174 : decode cX12_excuse 174 = .ok (.getfield 266, 3) := by decide +kernel
theorem dX12_excuse_177 : decode cX12_excuse 177 = .ok (.iaload, 1) := by decide +kernel
theorem dX12_excuse_178 : decode cX12_excuse 178 = .ok (.if_icmp .ge 29, 3) := by decide +kernel
theorem dX12_excuse_181 : decode cX12_excuse 181 = .ok (.aload_n 0, 1) := by decide +kernel
theorem dX12_excuse_182 : decode cX12_excuse 182 = .ok (.getfield 146, 3) := by decide +kernel
theorem dX12_excuse_185 : decode cX12_excuse 185 = .ok (.iconst 4, 1) := by decide +kernel
theorem dX12_excuse_186 : decode cX12_excuse 186 = .ok (.iload 4, 2) := by decide +kernel
theorem dX12_excuse_188 : decode cX12_excuse 188 = .ok (.iadd, 1) := by decide +kernel
theorem dX12_excuse_189 : decode cX12_excuse 189 = .ok (.iaload, 1) := by decide +kernel
theorem dX12_excuse_190 : decode cX12_excuse 190 = .ok (.iload_n 1, 1) := by decide +kernel
theorem dX12_excuse_191 : decode cX12_excuse 191 = .ok (.if_icmp .ne 10, 3) := by decide +kernel
theorem dX12_excuse_194 : decode cX12_excuse 194 = .ok (.iload_n 3, 1) := by decide +kernel
theorem dX12_excuse_195 : decode cX12_excuse 195 = .ok (.iconst 1, 1) := by decide +kernel
theorem dX12_excuse_196 : decode cX12_excuse 196 = .ok (.iload 4, 2) := by decide +kernel
theorem dX12_excuse_198 : decode cX12_excuse 198 = .ok (.ishl, 1) := by decide +kernel
theorem dX12_excuse_199 : decode cX12_excuse 199 = .ok (.ior, 1) := by decide +kernel
theorem dX12_excuse_200 : decode cX12_excuse 200 = .ok (.istore_n 3, 1) := by decide +kernel
theorem dX12_excuse_201 : decode cX12_excuse 201 = .ok (.iinc 4 1, 3) := by decide +kernel
theorem dX12_excuse_204 : decode cX12_excuse 204 = .ok (.goto (-37), 3) := by decide +kernel
theorem dX12_excuse_207 : decode cX12_excuse 207 = .ok (.iload_n 3, 1) := by decide +kernel
theorem dX12_excuse_208 : decode cX12_excuse 208 = .ok (.ireturn, 1) := by decide +kernel
theorem dX12_excuse_209 : decode cX12_excuse 209 = .ok (.iconst (-1), 1) := by decide +kernel
theorem dX12_excuse_210 : decode cX12_excuse 210 = .ok (.ireturn, 1) := by decide +kernel
def c_X12_excuse_L123b {ρ : Type}  (z1 : Int32) (h : PH) (K1 : Int32 → Option ρ) (REC : Int32 → Int32 → Option ρ) (x3 : Int32) (x4 : Int32) : Option ρ :=
  gd (ixOK (h.1 0 18) 2) <|
  if (h.1 21 (h.1 0 18).toNatClampNeg) ≤ x4 then
    K1 x3
  else
    gd (ixOK (22 + x4) 40) <|
    if (h.1 43 (22 + x4).toNatClampNeg) = z1 then
      nm (x3 + 1) fun v6 =>
      nm (x4 + 1) fun v7 =>
      REC v6 v7
    else
      nm (x4 + 1) fun v5 =>
      REC x3 v5
set_option maxHeartbeats 4000000 in
set_option maxRecDepth 100000 in
theorem w_X12_excuse_L123b {p0 : Program} {l : Launch} {e : Env} {s : State} {m : MethodId} {args : Array Value} {below : List Frame} {meth : Method} {c : Code} {Q : State → Prop} {D : va_G} {G : GG} {A : Nat → Prop} {H0 : Heap} {ad : Nat → Nat} {lay : List KK} {X : va_W} {ρ : Type} {r0 : ρ} {z1 : Int32} {x3 : Int32} {x4 : Int32} {h : PH} {H : Heap} {locs : List Loc} {ls : Array Slot} {K1 : Int32 → Option ρ} {REC : Int32 → Int32 → Option ρ} (hM : CallFix p0 m c cX12_excuse 5 s args lw_g RX12) (ho : okX12 lay) (hk1 : ∀ (x3 : Int32), ∀ (H : Heap) (locs : List Loc) (ls : Array Slot), K1 x3 = some r0 → Wd D G A H0 ad lay X h s H locs → lv_has ls 5 [(3, .int x3)] → W p0 l e (rmN 2 43) s m args below meth c H locs 0 0 Q (F0 m 160 ls [])) (hrec : ∀ (x3 : Int32) (x4 : Int32), ∀ (H : Heap) (locs : List Loc) (ls : Array Slot), REC x3 x4 = some r0 → Wd D G A H0 ad lay X h s H locs → lv_has ls 5 [(0, .ref (ad 0)), (1, .int z1), (3, .int x3), (4, .int x4)] → W p0 l e (rmN 2 43) s m args below meth c H locs 0 0 Q (F0 m 123 ls [])) (hw : Wd D G A H0 ad lay X h s H locs) (hl : lv_has ls 5 [(0, .ref (ad 0)), (1, .int z1), (3, .int x3), (4, .int x4)]) (hf : c_X12_excuse_L123b z1 h K1 REC x3 x4 = some r0) : W p0 l e (rmN 2 43) s m args below meth c H locs 0 0 Q (F0 m 123 ls []) := by
  unfold c_X12_excuse_L123b at hf
  refine lv_iload hM.1 hM.2.1 dX12_excuse_123 (lv_at hl 3 rfl) ?_
  refine lv_aload_n hM.1 hM.2.1 dX12_excuse_125 rfl (lv_at hl 0 rfl) ?_
  refine gf_X12_duties hM hw (okX12.o ho) fl_X12_80 dX12_excuse_126 ?_
  refine lv_aload_n hM.1 hM.2.1 dX12_excuse_129 rfl (lv_at hl 0 rfl) ?_
  refine gf_X12_live hM hw (okX12.o ho) fl_X12_266 dX12_excuse_130 ?_
  refine x_iald hM hw (okX12.duties ho) hf dX12_excuse_133 (fun hf => ?_)
  refine x_ic_ge (tgt := 160) hM hf dX12_excuse_134 (by decide) (fun hf => ?_) (fun hf => ?_)
  · exact hk1 _ _ _ _ hf hw (lv_sub hl [2] rfl)
  refine lv_aload_n hM.1 hM.2.1 dX12_excuse_137 rfl (lv_at hl 0 rfl) ?_
  refine gf_X12_now hM hw (okX12.o ho) fl_X12_146 dX12_excuse_138 ?_
  refine lv_bipush (v := 22) hM.1 hM.2.1 dX12_excuse_141 (by decide) ?_
  refine lv_iload hM.1 hM.2.1 dX12_excuse_143 (lv_at hl 3 rfl) ?_
  refine lv_iadd hM.1 hM.2.1 dX12_excuse_145 ?_
  refine x_iald hM hw (okX12.now ho) hf dX12_excuse_146 (fun hf => ?_)
  refine lv_iload_n hM.1 hM.2.1 dX12_excuse_147 rfl (lv_at hl 1 rfl) ?_
  refine x_ic_ne (tgt := 154) hM hf dX12_excuse_148 (by decide) (fun hf => ?_) (fun hf => ?_)
  · refine x_iinc (k := 3) (d := 1) hM hf dX12_excuse_154 hl rfl (by decide) (by decide) (fun v5 => [(4, .int v5), (0, .ref (ad 0)), (1, .int z1), (3, .int x3)]) (fun _ => rfl) (fun v5 ls hf hl => ?_)
    refine lv_goto (tgt := 123) hM.1 hM.2.1 dX12_excuse_157 (by decide) ?_
    exact hrec _ _ _ _ _ hf hw (lv_sub hl [1, 2, 3, 0] rfl)
  refine x_iinc (k := 2) (d := 1) hM hf dX12_excuse_151 hl rfl (by decide) (by decide) (fun v6 => [(3, .int v6), (0, .ref (ad 0)), (1, .int z1), (4, .int x4)]) (fun _ => rfl) (fun v6 ls hf hl => ?_)
  refine x_iinc (k := 3) (d := 1) hM hf dX12_excuse_154 hl rfl (by decide) (by decide) (fun v7 => [(4, .int v7), (3, .int v6), (0, .ref (ad 0)), (1, .int z1)]) (fun _ => rfl) (fun v7 ls hf hl => ?_)
  refine lv_goto (tgt := 123) hM.1 hM.2.1 dX12_excuse_157 (by decide) ?_
  exact hrec _ _ _ _ _ hf hw (lv_sub hl [2, 3, 1, 0] rfl)
set_option maxHeartbeats 4000000 in
set_option maxRecDepth 100000 in
theorem w_X12_excuse_L123 {p0 : Program} {l : Launch} {e : Env} {s : State} {m : MethodId} {args : Array Value} {below : List Frame} {meth : Method} {c : Code} {Q : State → Prop} {D : va_G} {G : GG} {A : Nat → Prop} {H0 : Heap} {ad : Nat → Nat} {lay : List KK} {X : va_W} {ρ : Type} {r0 : ρ} {z1 : Int32} {h : PH} {K1 : Int32 → Option ρ} (hM : CallFix p0 m c cX12_excuse 5 s args lw_g RX12) (ho : okX12 lay) (hk1 : ∀ (x3 : Int32), ∀ (H : Heap) (locs : List Loc) (ls : Array Slot), K1 x3 = some r0 → Wd D G A H0 ad lay X h s H locs → lv_has ls 5 [(3, .int x3)] → W p0 l e (rmN 2 43) s m args below meth c H locs 0 0 Q (F0 m 160 ls [])) (n : Nat) (x3 : Int32) (x4 : Int32) (hf : lq2 (c_X12_excuse_L123b z1 h K1) n x3 x4 = some r0) : ∀ (H : Heap) (locs : List Loc) (ls : Array Slot), Wd D G A H0 ad lay X h s H locs → lv_has ls 5 [(0, .ref (ad 0)), (1, .int z1), (3, .int x3), (4, .int x4)] → W p0 l e (rmN 2 43) s m args below meth c H locs 0 0 Q (F0 m 123 ls []) := by
  exact lq2_i (fun (x3 : Int32) (x4 : Int32) => ∀ (H : Heap) (locs : List Loc) (ls : Array Slot), Wd D G A H0 ad lay X h s H locs → lv_has ls 5 [(0, .ref (ad 0)), (1, .int z1), (3, .int x3), (4, .int x4)] → W p0 l e (rmN 2 43) s m args below meth c H locs 0 0 Q (F0 m 123 ls [])) (fun REC x3 x4 ih hf H locs ls hw hl => w_X12_excuse_L123b hM ho hk1 (fun x3 x4 H locs ls hf hw hl => ih x3 x4 hf H locs ls hw hl) hw hl hf) n x3 x4 hf
def c_X12_excuse_L167b {ρ : Type}  (z1 : Int32) (h : PH) (K1 : Int32 → Option ρ) (REC : Int32 → Int32 → Option ρ) (x3 : Int32) (x4 : Int32) : Option ρ :=
  gd (ixOK (h.1 0 18) 2) <|
  if (h.1 21 (h.1 0 18).toNatClampNeg) ≤ x4 then
    K1 x3
  else
    gd (ixOK (4 + x4) 40) <|
    if (h.1 43 (4 + x4).toNatClampNeg) = z1 then
      nm (x3 ||| ((1 : Int32) <<< (x4 &&& 31))) fun v12 =>
      nm (x4 + 1) fun v13 =>
      REC v12 v13
    else
      nm (x4 + 1) fun v11 =>
      REC x3 v11
set_option maxHeartbeats 4000000 in
set_option maxRecDepth 100000 in
theorem w_X12_excuse_L167b {p0 : Program} {l : Launch} {e : Env} {s : State} {m : MethodId} {args : Array Value} {below : List Frame} {meth : Method} {c : Code} {Q : State → Prop} {D : va_G} {G : GG} {A : Nat → Prop} {H0 : Heap} {ad : Nat → Nat} {lay : List KK} {X : va_W} {ρ : Type} {r0 : ρ} {z1 : Int32} {x3 : Int32} {x4 : Int32} {h : PH} {H : Heap} {locs : List Loc} {ls : Array Slot} {K1 : Int32 → Option ρ} {REC : Int32 → Int32 → Option ρ} (hM : CallFix p0 m c cX12_excuse 5 s args lw_g RX12) (ho : okX12 lay) (hk1 : ∀ (x3 : Int32), ∀ (H : Heap) (locs : List Loc) (ls : Array Slot), K1 x3 = some r0 → Wd D G A H0 ad lay X h s H locs → lv_has ls 5 [(3, .int x3)] → W p0 l e (rmN 2 43) s m args below meth c H locs 0 0 Q (F0 m 207 ls [])) (hrec : ∀ (x3 : Int32) (x4 : Int32), ∀ (H : Heap) (locs : List Loc) (ls : Array Slot), REC x3 x4 = some r0 → Wd D G A H0 ad lay X h s H locs → lv_has ls 5 [(0, .ref (ad 0)), (1, .int z1), (3, .int x3), (4, .int x4)] → W p0 l e (rmN 2 43) s m args below meth c H locs 0 0 Q (F0 m 167 ls [])) (hw : Wd D G A H0 ad lay X h s H locs) (hl : lv_has ls 5 [(0, .ref (ad 0)), (1, .int z1), (3, .int x3), (4, .int x4)]) (hf : c_X12_excuse_L167b z1 h K1 REC x3 x4 = some r0) : W p0 l e (rmN 2 43) s m args below meth c H locs 0 0 Q (F0 m 167 ls []) := by
  unfold c_X12_excuse_L167b at hf
  refine lv_iload hM.1 hM.2.1 dX12_excuse_167 (lv_at hl 3 rfl) ?_
  refine lv_aload_n hM.1 hM.2.1 dX12_excuse_169 rfl (lv_at hl 0 rfl) ?_
  refine gf_X12_duties hM hw (okX12.o ho) fl_X12_80 dX12_excuse_170 ?_
  refine lv_aload_n hM.1 hM.2.1 dX12_excuse_173 rfl (lv_at hl 0 rfl) ?_
  refine gf_X12_live hM hw (okX12.o ho) fl_X12_266 dX12_excuse_174 ?_
  refine x_iald hM hw (okX12.duties ho) hf dX12_excuse_177 (fun hf => ?_)
  refine x_ic_ge (tgt := 207) hM hf dX12_excuse_178 (by decide) (fun hf => ?_) (fun hf => ?_)
  · exact hk1 _ _ _ _ hf hw (lv_sub hl [2] rfl)
  refine lv_aload_n hM.1 hM.2.1 dX12_excuse_181 rfl (lv_at hl 0 rfl) ?_
  refine gf_X12_now hM hw (okX12.o ho) fl_X12_146 dX12_excuse_182 ?_
  refine lv_iconst (v := 4) hM.1 hM.2.1 dX12_excuse_185 ic_4 ?_
  refine lv_iload hM.1 hM.2.1 dX12_excuse_186 (lv_at hl 3 rfl) ?_
  refine lv_iadd hM.1 hM.2.1 dX12_excuse_188 ?_
  refine x_iald hM hw (okX12.now ho) hf dX12_excuse_189 (fun hf => ?_)
  refine lv_iload_n hM.1 hM.2.1 dX12_excuse_190 rfl (lv_at hl 1 rfl) ?_
  refine x_ic_ne (tgt := 201) hM hf dX12_excuse_191 (by decide) (fun hf => ?_) (fun hf => ?_)
  · refine x_iinc (k := 3) (d := 1) hM hf dX12_excuse_201 hl rfl (by decide) (by decide) (fun v11 => [(4, .int v11), (0, .ref (ad 0)), (1, .int z1), (3, .int x3)]) (fun _ => rfl) (fun v11 ls hf hl => ?_)
    refine lv_goto (tgt := 167) hM.1 hM.2.1 dX12_excuse_204 (by decide) ?_
    exact hrec _ _ _ _ _ hf hw (lv_sub hl [1, 2, 3, 0] rfl)
  refine lv_iload_n hM.1 hM.2.1 dX12_excuse_194 rfl (lv_at hl 2 rfl) ?_
  refine lv_iconst (v := 1) hM.1 hM.2.1 dX12_excuse_195 ic_1 ?_
  refine lv_iload hM.1 hM.2.1 dX12_excuse_196 (lv_at hl 3 rfl) ?_
  refine lv_ishl hM.1 hM.2.1 dX12_excuse_198 ?_
  refine lv_ior hM.1 hM.2.1 dX12_excuse_199 ?_
  refine x_istore_n hM hf dX12_excuse_200 rfl hl (by decide) (fun v12 => [(3, .int v12), (0, .ref (ad 0)), (1, .int z1), (4, .int x4)]) (fun _ => rfl) (fun v12 ls hf hl => ?_)
  refine x_iinc (k := 3) (d := 1) hM hf dX12_excuse_201 hl rfl (by decide) (by decide) (fun v13 => [(4, .int v13), (3, .int v12), (0, .ref (ad 0)), (1, .int z1)]) (fun _ => rfl) (fun v13 ls hf hl => ?_)
  refine lv_goto (tgt := 167) hM.1 hM.2.1 dX12_excuse_204 (by decide) ?_
  exact hrec _ _ _ _ _ hf hw (lv_sub hl [2, 3, 1, 0] rfl)
set_option maxHeartbeats 4000000 in
set_option maxRecDepth 100000 in
theorem w_X12_excuse_L167 {p0 : Program} {l : Launch} {e : Env} {s : State} {m : MethodId} {args : Array Value} {below : List Frame} {meth : Method} {c : Code} {Q : State → Prop} {D : va_G} {G : GG} {A : Nat → Prop} {H0 : Heap} {ad : Nat → Nat} {lay : List KK} {X : va_W} {ρ : Type} {r0 : ρ} {z1 : Int32} {h : PH} {K1 : Int32 → Option ρ} (hM : CallFix p0 m c cX12_excuse 5 s args lw_g RX12) (ho : okX12 lay) (hk1 : ∀ (x3 : Int32), ∀ (H : Heap) (locs : List Loc) (ls : Array Slot), K1 x3 = some r0 → Wd D G A H0 ad lay X h s H locs → lv_has ls 5 [(3, .int x3)] → W p0 l e (rmN 2 43) s m args below meth c H locs 0 0 Q (F0 m 207 ls [])) (n : Nat) (x3 : Int32) (x4 : Int32) (hf : lq2 (c_X12_excuse_L167b z1 h K1) n x3 x4 = some r0) : ∀ (H : Heap) (locs : List Loc) (ls : Array Slot), Wd D G A H0 ad lay X h s H locs → lv_has ls 5 [(0, .ref (ad 0)), (1, .int z1), (3, .int x3), (4, .int x4)] → W p0 l e (rmN 2 43) s m args below meth c H locs 0 0 Q (F0 m 167 ls []) := by
  exact lq2_i (fun (x3 : Int32) (x4 : Int32) => ∀ (H : Heap) (locs : List Loc) (ls : Array Slot), Wd D G A H0 ad lay X h s H locs → lv_has ls 5 [(0, .ref (ad 0)), (1, .int z1), (3, .int x3), (4, .int x4)] → W p0 l e (rmN 2 43) s m args below meth c H locs 0 0 Q (F0 m 167 ls [])) (fun REC x3 x4 ih hf H locs ls hw hl => w_X12_excuse_L167b hM ho hk1 (fun x3 x4 H locs ls hf hw hl => ih x3 x4 hf H locs ls hw hl) hw hl hf) n x3 x4 hf
def c_X12_excuse (a1 : Int32) (a2 : Int32) (h : PH) : Option (Int32) :=
  (c_X12_isExcuse a1 h).bind fun r1 =>
  if r1 = 0 then
    some (-1)
  else
    if a2 = 0 then
      gd (ixOK ((7 * (h.1 0 18)) + a1) 14) <|
      some (h.1 16 ((7 * (h.1 0 18)) + a1).toNatClampNeg)
    else
    if a2 = 1 then
      gd (ixOK ((7 * (h.1 0 18)) + a1) 14) <|
      some (h.1 17 ((7 * (h.1 0 18)) + a1).toNatClampNeg)
    else
    if a2 = 2 then
      gd (ixOK ((7 * (h.1 0 18)) + a1) 14) <|
      some (h.1 18 ((7 * (h.1 0 18)) + a1).toNatClampNeg)
    else
    if a2 = 3 then
      gd (ixOK ((7 * (h.1 0 18)) + a1) 14) <|
      some (h.1 19 ((7 * (h.1 0 18)) + a1).toNatClampNeg)
    else
    if a2 = 4 then
      (c_X12_hasNow a1 h).bind fun r2 =>
      some r2
    else
    if a2 = 5 then
      nm (0 : Int32) fun v3 =>
      nm (0 : Int32) fun v4 =>
      lq2 (c_X12_excuse_L123b a1 h
        (fun w8 =>
          some w8)) fu v3 v4
    else
    if a2 = 6 then
      nm (0 : Int32) fun v9 =>
      nm (0 : Int32) fun v10 =>
      lq2 (c_X12_excuse_L167b a1 h
        (fun w14 =>
          some w14)) fu v9 v10
    else
      some (-1)
set_option maxHeartbeats 4000000 in
set_option maxRecDepth 100000 in
theorem ct_X12_excuse (l : Launch) {lay : List KK} (ho : okX12 lay) (a1 : Int32) (a2 : Int32) : CtI l yX12_excuse cX12_excuse 5 (some .int) 2 43 lay (rd (fun h => c_X12_excuse a1 a2 h)) (fun ad => [.ref (ad 0), .int a1, .int a2]) := by
  refine CtI.mk' RX12 (by decide) rfl (fun _ => Nat.le_of_ble_eq_true rfl) ?_
  intro p0 e s m args below meth c D G A H0 ad X h r0 H ls Q hM hw hl hf hR
  have hl : lv_has ls 5 [(0, .ref (ad 0)), (1, .int a1), (2, .int a2)] := hl
  obtain ⟨v0, hv0, hr0⟩ : ∃ v0, c_X12_excuse a1 a2 h = some v0 ∧ r0 = (v0, h) := rd_some hf
  subst hr0
  have hf := hv0
  unfold c_X12_excuse at hf
  refine lv_aload_n hM.1 hM.2.1 dX12_excuse_0 rfl (lv_at hl 0 rfl) ?_
  refine lv_iload_n hM.1 hM.2.1 dX12_excuse_1 rfl (lv_at hl 1 rfl) ?_
  refine x_callVIr (rest := []) hM hw (ct_X12_isExcuse l ho a1) [.int a1] (okX12.o ho) rfl rfl rfl (gi_V ml_X12_428 im_X12_isExcuse sl_X12_isExcuse in_X12 kc_X12_isExcuse) hd_X12_isExcuse rfl ⟨Nat.le_of_ble_eq_true rfl, Nat.le_of_ble_eq_true rfl⟩ rfl (Nat.le_of_ble_eq_true rfl) hl.1 hcs0 hf dX12_excuse_2 (fun r1 H locs hf hw => ?_)
  refine x_if_ne (tgt := 10) hM hf dX12_excuse_5 (by decide) (fun hf => ?_) (fun hf => ?_)
  · refine lv_iload_n hM.1 hM.2.1 dX12_excuse_10 rfl (lv_at hl 2 rfl) ?_
    refine x_sw hf (fun hx hf => ?_) (fun n0 hf => ?_)
    · refine x_tabIn (tgt := 52) hM hx dX12_excuse_11 (by decide) (by decide) rfl (by decide) ?_
      refine lv_aload_n hM.1 hM.2.1 dX12_excuse_52 rfl (lv_at hl 0 rfl) ?_
      refine gf_X12_priceOf hM hw (okX12.o ho) fl_X12_64 dX12_excuse_53 ?_
      refine lv_bipush (v := 7) hM.1 hM.2.1 dX12_excuse_56 (by decide) ?_
      refine lv_aload_n hM.1 hM.2.1 dX12_excuse_58 rfl (lv_at hl 0 rfl) ?_
      refine gf_X12_live hM hw (okX12.o ho) fl_X12_266 dX12_excuse_59 ?_
      refine lv_imul hM.1 hM.2.1 dX12_excuse_62 ?_
      refine lv_iload_n hM.1 hM.2.1 dX12_excuse_63 rfl (lv_at hl 1 rfl) ?_
      refine lv_iadd hM.1 hM.2.1 dX12_excuse_64 ?_
      refine x_iald hM hw (okX12.priceOf ho) hf dX12_excuse_65 (fun hf => ?_)
      exact hR _ _ _ _ _ _ _ (congrArg (fun z => (z, _)) (Option.some.inj hf)) rfl rfl hw dX12_excuse_66
    refine x_sw hf (fun hx hf => ?_) (fun n1 hf => ?_)
    · refine x_tabIn (tgt := 67) hM hx dX12_excuse_11 (by decide) (by decide) rfl (by decide) ?_
      refine lv_aload_n hM.1 hM.2.1 dX12_excuse_67 rfl (lv_at hl 0 rfl) ?_
      refine gf_X12_goodOf hM hw (okX12.o ho) fl_X12_67 dX12_excuse_68 ?_
      refine lv_bipush (v := 7) hM.1 hM.2.1 dX12_excuse_71 (by decide) ?_
      refine lv_aload_n hM.1 hM.2.1 dX12_excuse_73 rfl (lv_at hl 0 rfl) ?_
      refine gf_X12_live hM hw (okX12.o ho) fl_X12_266 dX12_excuse_74 ?_
      refine lv_imul hM.1 hM.2.1 dX12_excuse_77 ?_
      refine lv_iload_n hM.1 hM.2.1 dX12_excuse_78 rfl (lv_at hl 1 rfl) ?_
      refine lv_iadd hM.1 hM.2.1 dX12_excuse_79 ?_
      refine x_iald hM hw (okX12.goodOf ho) hf dX12_excuse_80 (fun hf => ?_)
      exact hR _ _ _ _ _ _ _ (congrArg (fun z => (z, _)) (Option.some.inj hf)) rfl rfl hw dX12_excuse_81
    refine x_sw hf (fun hx hf => ?_) (fun n2 hf => ?_)
    · refine x_tabIn (tgt := 82) hM hx dX12_excuse_11 (by decide) (by decide) rfl (by decide) ?_
      refine lv_aload_n hM.1 hM.2.1 dX12_excuse_82 rfl (lv_at hl 0 rfl) ?_
      refine gf_X12_kindOf hM hw (okX12.o ho) fl_X12_70 dX12_excuse_83 ?_
      refine lv_bipush (v := 7) hM.1 hM.2.1 dX12_excuse_86 (by decide) ?_
      refine lv_aload_n hM.1 hM.2.1 dX12_excuse_88 rfl (lv_at hl 0 rfl) ?_
      refine gf_X12_live hM hw (okX12.o ho) fl_X12_266 dX12_excuse_89 ?_
      refine lv_imul hM.1 hM.2.1 dX12_excuse_92 ?_
      refine lv_iload_n hM.1 hM.2.1 dX12_excuse_93 rfl (lv_at hl 1 rfl) ?_
      refine lv_iadd hM.1 hM.2.1 dX12_excuse_94 ?_
      refine x_iald hM hw (okX12.kindOf ho) hf dX12_excuse_95 (fun hf => ?_)
      exact hR _ _ _ _ _ _ _ (congrArg (fun z => (z, _)) (Option.some.inj hf)) rfl rfl hw dX12_excuse_96
    refine x_sw hf (fun hx hf => ?_) (fun n3 hf => ?_)
    · refine x_tabIn (tgt := 97) hM hx dX12_excuse_11 (by decide) (by decide) rfl (by decide) ?_
      refine lv_aload_n hM.1 hM.2.1 dX12_excuse_97 rfl (lv_at hl 0 rfl) ?_
      refine gf_X12_strongOf hM hw (okX12.o ho) fl_X12_73 dX12_excuse_98 ?_
      refine lv_bipush (v := 7) hM.1 hM.2.1 dX12_excuse_101 (by decide) ?_
      refine lv_aload_n hM.1 hM.2.1 dX12_excuse_103 rfl (lv_at hl 0 rfl) ?_
      refine gf_X12_live hM hw (okX12.o ho) fl_X12_266 dX12_excuse_104 ?_
      refine lv_imul hM.1 hM.2.1 dX12_excuse_107 ?_
      refine lv_iload_n hM.1 hM.2.1 dX12_excuse_108 rfl (lv_at hl 1 rfl) ?_
      refine lv_iadd hM.1 hM.2.1 dX12_excuse_109 ?_
      refine x_iald hM hw (okX12.strongOf ho) hf dX12_excuse_110 (fun hf => ?_)
      exact hR _ _ _ _ _ _ _ (congrArg (fun z => (z, _)) (Option.some.inj hf)) rfl rfl hw dX12_excuse_111
    refine x_sw hf (fun hx hf => ?_) (fun n4 hf => ?_)
    · refine x_tabIn (tgt := 112) hM hx dX12_excuse_11 (by decide) (by decide) rfl (by decide) ?_
      refine lv_aload_n hM.1 hM.2.1 dX12_excuse_112 rfl (lv_at hl 0 rfl) ?_
      refine lv_iload_n hM.1 hM.2.1 dX12_excuse_113 rfl (lv_at hl 1 rfl) ?_
      refine x_callVIr (rest := []) hM hw (ct_X12_hasNow l ho a1) [.int a1] (okX12.o ho) rfl rfl rfl (gi_V ml_X12_431 im_X12_hasNow sl_X12_hasNow in_X12 kc_X12_hasNow) hd_X12_hasNow rfl ⟨Nat.le_of_ble_eq_true rfl, Nat.le_of_ble_eq_true rfl⟩ rfl (Nat.le_of_ble_eq_true rfl) hl.1 hcs0 hf dX12_excuse_114 (fun r2 H locs hf hw => ?_)
      exact hR _ _ _ _ _ _ _ (congrArg (fun z => (z, _)) (Option.some.inj hf)) rfl rfl hw dX12_excuse_117
    refine x_sw hf (fun hx hf => ?_) (fun n5 hf => ?_)
    · refine x_tabIn (tgt := 118) hM hx dX12_excuse_11 (by decide) (by decide) rfl (by decide) ?_
      refine lv_iconst (v := 0) hM.1 hM.2.1 dX12_excuse_118 ic_0 ?_
      refine x_istore_n hM hf dX12_excuse_119 rfl hl (by decide) (fun v3 => [(3, .int v3), (0, .ref (ad 0)), (1, .int a1), (2, .int a2)]) (fun _ => rfl) (fun v3 ls hf hl => ?_)
      refine lv_iconst (v := 0) hM.1 hM.2.1 dX12_excuse_120 ic_0 ?_
      refine x_istore hM hf dX12_excuse_121 hl (by decide) (fun v4 => [(4, .int v4), (3, .int v3), (0, .ref (ad 0)), (1, .int a1), (2, .int a2)]) (fun _ => rfl) (fun v4 ls hf hl => ?_)
      refine w_X12_excuse_L123 hM ho (fun w8 H locs ls hf hw hl => ?_) fu _ _ hf _ _ _ hw (lv_sub hl [2, 3, 1, 0] rfl)
      refine lv_iload_n hM.1 hM.2.1 dX12_excuse_160 rfl (lv_at hl 0 rfl) ?_
      exact hR _ _ _ _ _ _ _ (congrArg (fun z => (z, _)) (Option.some.inj hf)) rfl rfl hw dX12_excuse_161
    refine x_sw hf (fun hx hf => ?_) (fun n6 hf => ?_)
    · refine x_tabIn (tgt := 162) hM hx dX12_excuse_11 (by decide) (by decide) rfl (by decide) ?_
      refine lv_iconst (v := 0) hM.1 hM.2.1 dX12_excuse_162 ic_0 ?_
      refine x_istore_n hM hf dX12_excuse_163 rfl hl (by decide) (fun v9 => [(3, .int v9), (0, .ref (ad 0)), (1, .int a1), (2, .int a2)]) (fun _ => rfl) (fun v9 ls hf hl => ?_)
      refine lv_iconst (v := 0) hM.1 hM.2.1 dX12_excuse_164 ic_0 ?_
      refine x_istore hM hf dX12_excuse_165 hl (by decide) (fun v10 => [(4, .int v10), (3, .int v9), (0, .ref (ad 0)), (1, .int a1), (2, .int a2)]) (fun _ => rfl) (fun v10 ls hf hl => ?_)
      refine w_X12_excuse_L167 hM ho (fun w14 H locs ls hf hw hl => ?_) fu _ _ hf _ _ _ hw (lv_sub hl [2, 3, 1, 0] rfl)
      refine lv_iload_n hM.1 hM.2.1 dX12_excuse_207 rfl (lv_at hl 0 rfl) ?_
      exact hR _ _ _ _ _ _ _ (congrArg (fun z => (z, _)) (Option.some.inj hf)) rfl rfl hw dX12_excuse_208
    refine lv_tableOut (tgt := 209) hM.1 hM.2.1 dX12_excuse_11 (by have := sw_ne n0 (k := 0) (by decide); have := sw_ne n1 (k := 1) (by decide); have := sw_ne n2 (k := 2) (by decide); have := sw_ne n3 (k := 3) (by decide); have := sw_ne n4 (k := 4) (by decide); have := sw_ne n5 (k := 5) (by decide); have := sw_ne n6 (k := 6) (by decide); omega) (by decide) ?_
    refine lv_iconst (v := (-1)) hM.1 hM.2.1 dX12_excuse_209 ic_m1 ?_
    exact hR _ _ _ _ _ _ _ (congrArg (fun z => (z, _)) (Option.some.inj hf)) rfl rfl hw dX12_excuse_210
  refine lv_iconst (v := (-1)) hM.1 hM.2.1 dX12_excuse_8 ic_m1 ?_
  exact hR _ _ _ _ _ _ _ (congrArg (fun z => (z, _)) (Option.some.inj hf)) rfl rfl hw dX12_excuse_9
theorem hd_X12_excuse : yX12_excuse.cls = RX12 ∧ yX12_excuse.cls ≠ "java/lang/invoke/MethodHandle" ∧ yX12_excuse.cls ≠ "java/lang/invoke/VarHandle" ∧ (parseMethodDescriptor yX12_excuse.desc).map (fun d => d.parameters.length) = some 2 := ⟨rfl, by decide, by decide, by decide +kernel⟩
theorem dX12_duty_0 : decode cX12_duty 0 = .ok (.aload_n 0, 1) := by decide +kernel
theorem dX12_duty_1 : decode cX12_duty 1 = .ok (.iload_n 1, 1) := by decide +kernel
theorem dX12_duty_2 : decode cX12_duty 2 = .ok (.invokevirtual 434, 3) := by decide +kernel
theorem dX12_duty_5 : decode cX12_duty 5 = .ok (.ifCond .ne 5, 3) := by decide +kernel
theorem dX12_duty_8 : decode cX12_duty 8 = .ok (.iconst (-1), 1) := by decide +kernel
theorem dX12_duty_9 : decode cX12_duty 9 = .ok (.ireturn, 1) := by decide +kernel
theorem dX12_duty_10 : decode cX12_duty 10 = .ok (.iload_n 2, 1) := by decide +kernel
theorem dX12_duty_11 : decode cX12_duty 11 = .ok (.tableswitch 79 0 4 #[33, 39, 45, 60, 69], 33) := by decide +kernel
theorem dX12_duty_44 : decode cX12_duty 44 = .ok (.aload_n 0, 1) := by decide +kernel
theorem dX12_duty_45 : decode cX12_duty 45 = .ok (.iload_n 1, 1) := by decide +kernel
theorem dX12_duty_46 : decode cX12_duty 46 = .ok (.invokevirtual 373, 3) := by decide +kernel
theorem dX12_duty_49 : decode cX12_duty 49 = .ok (.ireturn, 1) := by decide +kernel
theorem dX12_duty_50 : decode cX12_duty 50 = .ok (.aload_n 0, 1) := by decide +kernel
theorem dX12_duty_51 : decode cX12_duty 51 = .ok (.iload_n 1, 1) := by decide +kernel
theorem dX12_duty_52 : decode cX12_duty 52 = .ok (.invokevirtual 376, 3) := by decide +kernel
theorem dX12_duty_55 : decode cX12_duty 55 = .ok (.ireturn, 1) := by decide +kernel
theorem dX12_duty_56 : decode cX12_duty 56 = .ok (.aload_n 0, 1) := by decide +kernel
theorem dX12_duty_57 : decode cX12_duty 57 = .ok (.getfield 89, 3) := by decide +kernel
theorem dX12_duty_60 : decode cX12_duty 60 = .ok (.bipush 9, 2) := by decide +kernel
theorem dX12_duty_62 : decode cX12_duty 62 = .ok (.aload_n 0, 1) := by decide +kernel
theorem dX12_duty_63 : decode cX12_duty 63 = .ok (.getfield 266, 3) := by decide +kernel
theorem dX12_duty_66 : decode cX12_duty 66 = .ok (.imul, 1) := by decide +kernel
theorem dX12_duty_67 : decode cX12_duty 67 = .ok (.iload_n 1, 1) := by decide +kernel
theorem dX12_duty_68 : decode cX12_duty 68 = .ok (.iadd, 1) := by decide +kernel
theorem dX12_duty_69 : decode cX12_duty 69 = .ok (.iaload, 1) := by decide +kernel
theorem dX12_duty_70 : decode cX12_duty 70 = .ok (.ireturn, 1) := by decide +kernel
theorem dX12_duty_71 : decode cX12_duty 71 = .ok (.aload_n 0, 1) := by decide +kernel
theorem dX12_duty_72 : decode cX12_duty 72 = .ok (.getfield 146, 3) := by decide +kernel
theorem dX12_duty_75 : decode cX12_duty 75 = .ok (.iconst 4, 1) := by decide +kernel
theorem dX12_duty_76 : decode cX12_duty 76 = .ok (.iload_n 1, 1) := by decide +kernel
theorem dX12_duty_77 : decode cX12_duty 77 = .ok (.iadd, 1) := by decide +kernel
theorem dX12_duty_78 : decode cX12_duty 78 = .ok (.iaload, 1) := by decide +kernel
theorem dX12_duty_79 : decode cX12_duty 79 = .ok (.ireturn, 1) := by decide +kernel
theorem dX12_duty_80 : decode cX12_duty 80 = .ok (.aload_n 0, 1) := by decide +kernel
theorem dX12_duty_81 : decode cX12_duty 81 = .ok (.getfield 146, 3) := by decide +kernel
theorem dX12_duty_84 : decode cX12_duty 84 = .ok (.bipush 13, 2) := by decide +kernel
theorem dX12_duty_86 : decode cX12_duty 86 = .ok (.iload_n 1, 1) := by decide +kernel
theorem dX12_duty_87 : decode cX12_duty 87 = .ok (.iadd, 1) := by decide +kernel
theorem dX12_duty_88 : decode cX12_duty 88 = .ok (.iaload, 1) := by decide +kernel
theorem dX12_duty_89 : decode cX12_duty 89 = .ok (.ireturn, 1) := by decide +kernel
theorem dX12_duty_90 : decode cX12_duty 90 = .ok (.iconst (-1), 1) := by decide +kernel
theorem dX12_duty_91 : decode cX12_duty 91 = .ok (.ireturn, 1) := by decide +kernel
def c_X12_duty (a1 : Int32) (a2 : Int32) (h : PH) : Option (Int32) :=
  (c_X12_isDuty a1 h).bind fun r1 =>
  if r1 = 0 then
    some (-1)
  else
    if a2 = 0 then
      (c_X12_manOf a1 h).bind fun r2 =>
      some r2
    else
    if a2 = 1 then
      (c_X12_dayOf a1 h).bind fun r3 =>
      some r3
    else
    if a2 = 2 then
      gd (ixOK ((9 * (h.1 0 18)) + a1) 18) <|
      some (h.1 24 ((9 * (h.1 0 18)) + a1).toNatClampNeg)
    else
    if a2 = 3 then
      gd (ixOK (4 + a1) 40) <|
      some (h.1 43 (4 + a1).toNatClampNeg)
    else
    if a2 = 4 then
      gd (ixOK (13 + a1) 40) <|
      some (h.1 43 (13 + a1).toNatClampNeg)
    else
      some (-1)
set_option maxHeartbeats 4000000 in
set_option maxRecDepth 100000 in
theorem ct_X12_duty (l : Launch) {lay : List KK} (ho : okX12 lay) (a1 : Int32) (a2 : Int32) : CtI l yX12_duty cX12_duty 3 (some .int) 2 43 lay (rd (fun h => c_X12_duty a1 a2 h)) (fun ad => [.ref (ad 0), .int a1, .int a2]) := by
  refine CtI.mk' RX12 (by decide) rfl (fun _ => Nat.le_of_ble_eq_true rfl) ?_
  intro p0 e s m args below meth c D G A H0 ad X h r0 H ls Q hM hw hl hf hR
  have hl : lv_has ls 3 [(0, .ref (ad 0)), (1, .int a1), (2, .int a2)] := hl
  obtain ⟨v0, hv0, hr0⟩ : ∃ v0, c_X12_duty a1 a2 h = some v0 ∧ r0 = (v0, h) := rd_some hf
  subst hr0
  have hf := hv0
  unfold c_X12_duty at hf
  refine lv_aload_n hM.1 hM.2.1 dX12_duty_0 rfl (lv_at hl 0 rfl) ?_
  refine lv_iload_n hM.1 hM.2.1 dX12_duty_1 rfl (lv_at hl 1 rfl) ?_
  refine x_callVIr (rest := []) hM hw (ct_X12_isDuty l ho a1) [.int a1] (okX12.o ho) rfl rfl rfl (gi_V ml_X12_434 im_X12_isDuty sl_X12_isDuty in_X12 kc_X12_isDuty) hd_X12_isDuty rfl ⟨Nat.le_of_ble_eq_true rfl, Nat.le_of_ble_eq_true rfl⟩ rfl (Nat.le_of_ble_eq_true rfl) hl.1 hcs0 hf dX12_duty_2 (fun r1 H locs hf hw => ?_)
  refine x_if_ne (tgt := 10) hM hf dX12_duty_5 (by decide) (fun hf => ?_) (fun hf => ?_)
  · refine lv_iload_n hM.1 hM.2.1 dX12_duty_10 rfl (lv_at hl 2 rfl) ?_
    refine x_sw hf (fun hx hf => ?_) (fun n0 hf => ?_)
    · refine x_tabIn (tgt := 44) hM hx dX12_duty_11 (by decide) (by decide) rfl (by decide) ?_
      refine lv_aload_n hM.1 hM.2.1 dX12_duty_44 rfl (lv_at hl 0 rfl) ?_
      refine lv_iload_n hM.1 hM.2.1 dX12_duty_45 rfl (lv_at hl 1 rfl) ?_
      refine x_callVIr (rest := []) hM hw (ct_X12_manOf l ho a1) [.int a1] (okX12.o ho) rfl rfl rfl (gi_V ml_X12_373 im_X12_manOf sl_X12_manOf in_X12 kc_X12_manOf) hd_X12_manOf rfl ⟨Nat.le_of_ble_eq_true rfl, Nat.le_of_ble_eq_true rfl⟩ rfl (Nat.le_of_ble_eq_true rfl) hl.1 hcs0 hf dX12_duty_46 (fun r2 H locs hf hw => ?_)
      exact hR _ _ _ _ _ _ _ (congrArg (fun z => (z, _)) (Option.some.inj hf)) rfl rfl hw dX12_duty_49
    refine x_sw hf (fun hx hf => ?_) (fun n1 hf => ?_)
    · refine x_tabIn (tgt := 50) hM hx dX12_duty_11 (by decide) (by decide) rfl (by decide) ?_
      refine lv_aload_n hM.1 hM.2.1 dX12_duty_50 rfl (lv_at hl 0 rfl) ?_
      refine lv_iload_n hM.1 hM.2.1 dX12_duty_51 rfl (lv_at hl 1 rfl) ?_
      refine x_callVIr (rest := []) hM hw (ct_X12_dayOf l ho a1) [.int a1] (okX12.o ho) rfl rfl rfl (gi_V ml_X12_376 im_X12_dayOf sl_X12_dayOf in_X12 kc_X12_dayOf) hd_X12_dayOf rfl ⟨Nat.le_of_ble_eq_true rfl, Nat.le_of_ble_eq_true rfl⟩ rfl (Nat.le_of_ble_eq_true rfl) hl.1 hcs0 hf dX12_duty_52 (fun r3 H locs hf hw => ?_)
      exact hR _ _ _ _ _ _ _ (congrArg (fun z => (z, _)) (Option.some.inj hf)) rfl rfl hw dX12_duty_55
    refine x_sw hf (fun hx hf => ?_) (fun n2 hf => ?_)
    · refine x_tabIn (tgt := 56) hM hx dX12_duty_11 (by decide) (by decide) rfl (by decide) ?_
      refine lv_aload_n hM.1 hM.2.1 dX12_duty_56 rfl (lv_at hl 0 rfl) ?_
      refine gf_X12_dutyHours hM hw (okX12.o ho) fl_X12_89 dX12_duty_57 ?_
      refine lv_bipush (v := 9) hM.1 hM.2.1 dX12_duty_60 (by decide) ?_
      refine lv_aload_n hM.1 hM.2.1 dX12_duty_62 rfl (lv_at hl 0 rfl) ?_
      refine gf_X12_live hM hw (okX12.o ho) fl_X12_266 dX12_duty_63 ?_
      refine lv_imul hM.1 hM.2.1 dX12_duty_66 ?_
      refine lv_iload_n hM.1 hM.2.1 dX12_duty_67 rfl (lv_at hl 1 rfl) ?_
      refine lv_iadd hM.1 hM.2.1 dX12_duty_68 ?_
      refine x_iald hM hw (okX12.dutyHours ho) hf dX12_duty_69 (fun hf => ?_)
      exact hR _ _ _ _ _ _ _ (congrArg (fun z => (z, _)) (Option.some.inj hf)) rfl rfl hw dX12_duty_70
    refine x_sw hf (fun hx hf => ?_) (fun n3 hf => ?_)
    · refine x_tabIn (tgt := 71) hM hx dX12_duty_11 (by decide) (by decide) rfl (by decide) ?_
      refine lv_aload_n hM.1 hM.2.1 dX12_duty_71 rfl (lv_at hl 0 rfl) ?_
      refine gf_X12_now hM hw (okX12.o ho) fl_X12_146 dX12_duty_72 ?_
      refine lv_iconst (v := 4) hM.1 hM.2.1 dX12_duty_75 ic_4 ?_
      refine lv_iload_n hM.1 hM.2.1 dX12_duty_76 rfl (lv_at hl 1 rfl) ?_
      refine lv_iadd hM.1 hM.2.1 dX12_duty_77 ?_
      refine x_iald hM hw (okX12.now ho) hf dX12_duty_78 (fun hf => ?_)
      exact hR _ _ _ _ _ _ _ (congrArg (fun z => (z, _)) (Option.some.inj hf)) rfl rfl hw dX12_duty_79
    refine x_sw hf (fun hx hf => ?_) (fun n4 hf => ?_)
    · refine x_tabIn (tgt := 80) hM hx dX12_duty_11 (by decide) (by decide) rfl (by decide) ?_
      refine lv_aload_n hM.1 hM.2.1 dX12_duty_80 rfl (lv_at hl 0 rfl) ?_
      refine gf_X12_now hM hw (okX12.o ho) fl_X12_146 dX12_duty_81 ?_
      refine lv_bipush (v := 13) hM.1 hM.2.1 dX12_duty_84 (by decide) ?_
      refine lv_iload_n hM.1 hM.2.1 dX12_duty_86 rfl (lv_at hl 1 rfl) ?_
      refine lv_iadd hM.1 hM.2.1 dX12_duty_87 ?_
      refine x_iald hM hw (okX12.now ho) hf dX12_duty_88 (fun hf => ?_)
      exact hR _ _ _ _ _ _ _ (congrArg (fun z => (z, _)) (Option.some.inj hf)) rfl rfl hw dX12_duty_89
    refine lv_tableOut (tgt := 90) hM.1 hM.2.1 dX12_duty_11 (by have := sw_ne n0 (k := 0) (by decide); have := sw_ne n1 (k := 1) (by decide); have := sw_ne n2 (k := 2) (by decide); have := sw_ne n3 (k := 3) (by decide); have := sw_ne n4 (k := 4) (by decide); omega) (by decide) ?_
    refine lv_iconst (v := (-1)) hM.1 hM.2.1 dX12_duty_90 ic_m1 ?_
    exact hR _ _ _ _ _ _ _ (congrArg (fun z => (z, _)) (Option.some.inj hf)) rfl rfl hw dX12_duty_91
  refine lv_iconst (v := (-1)) hM.1 hM.2.1 dX12_duty_8 ic_m1 ?_
  exact hR _ _ _ _ _ _ _ (congrArg (fun z => (z, _)) (Option.some.inj hf)) rfl rfl hw dX12_duty_9
theorem hd_X12_duty : yX12_duty.cls = RX12 ∧ yX12_duty.cls ≠ "java/lang/invoke/MethodHandle" ∧ yX12_duty.cls ≠ "java/lang/invoke/VarHandle" ∧ (parseMethodDescriptor yX12_duty.desc).map (fun d => d.parameters.length) = some 2 := ⟨rfl, by decide, by decide, by decide +kernel⟩
theorem dX12_told_0 : decode cX12_told 0 = .ok (.aload_n 0, 1) := by decide +kernel
theorem dX12_told_1 : decode cX12_told 1 = .ok (.iload_n 1, 1) := by decide +kernel
theorem dX12_told_2 : decode cX12_told 2 = .ok (.invokevirtual 428, 3) := by decide +kernel
theorem dX12_told_5 : decode cX12_told 5 = .ok (.ifCond .eq 11, 3) := by decide +kernel
theorem dX12_told_8 : decode cX12_told 8 = .ok (.aload_n 0, 1) := by decide +kernel
theorem dX12_told_9 : decode cX12_told 9 = .ok (.iload_n 2, 1) := by decide +kernel
theorem dX12_told_10 : decode cX12_told 10 = .ok (.invokevirtual 425, 3) := by decide +kernel
theorem dX12_told_13 : decode cX12_told 13 = .ok (.ifCond .ne 5, 3) := by decide +kernel
theorem dX12_told_16 : decode cX12_told 16 = .ok (.iconst (-1), 1) := by decide +kernel
theorem dX12_told_17 : decode cX12_told 17 = .ok (.ireturn, 1) := by decide +kernel
theorem dX12_told_18 : decode cX12_told 18 = .ok (.aload_n 0, 1) := by decide +kernel
theorem dX12_told_19 : decode cX12_told 19 = .ok (.invokevirtual 437, 3) := by decide +kernel
theorem dX12_told_22 : decode cX12_told 22 = .ok (.iload_n 3, 1) := by decide +kernel
theorem dX12_told_23 : decode cX12_told 23 = .ok (.ifCond .eq 12, 3) := by decide +kernel
theorem dX12_told_26 : decode cX12_told 26 = .ok (.aload_n 0, 1) := by decide +kernel
theorem dX12_told_27 : decode cX12_told 27 = .ok (.iload_n 1, 1) := by decide +kernel
theorem dX12_told_28 : decode cX12_told 28 = .ok (.iload_n 2, 1) := by decide +kernel
theorem dX12_told_29 : decode cX12_told 29 = .ok (.invokevirtual 382, 3) := by decide +kernel
theorem dX12_told_32 : decode cX12_told 32 = .ok (.goto 9, 3) := by decide +kernel
theorem dX12_told_35 : decode cX12_told 35 = .ok (.aload_n 0, 1) := by decide +kernel
theorem dX12_told_36 : decode cX12_told 36 = .ok (.iload_n 1, 1) := by decide +kernel
theorem dX12_told_37 : decode cX12_told 37 = .ok (.iload_n 2, 1) := by decide +kernel
theorem dX12_told_38 : decode cX12_told 38 = .ok (.invokevirtual 385, 3) := by decide +kernel
theorem dX12_told_41 : decode cX12_told 41 = .ok (.ireturn, 1) := by decide +kernel
def c_X12_told (a1 : Int32) (a2 : Int32) (a3 : Int32) (h : PH) : Option (Int32 × PH) :=
  (c_X12_isExcuse a1 h).bind fun r1 =>
  if r1 = 0 then
    some ((-1), h)
  else
    (c_X12_isMan a2 h).bind fun r2 =>
    if r2 = 0 then
      some ((-1), h)
    else
      (c_X12_copies h).bind fun h3 =>
      if a3 = 0 then
        (c_X12_toldTimes a1 a2 h3).bind fun r4 =>
        some (r4, h3)
      else
        (c_X12_toldLast a1 a2 h3).bind fun r5 =>
        some (r5, h3)
set_option maxHeartbeats 4000000 in
set_option maxRecDepth 100000 in
theorem ct_X12_told (l : Launch) {lay : List KK} (ho : okX12 lay) (a1 : Int32) (a2 : Int32) (a3 : Int32) : CtI l yX12_told cX12_told 4 (some .int) 2 45 lay (fun h => c_X12_told a1 a2 a3 h) (fun ad => [.ref (ad 0), .int a1, .int a2, .int a3]) := by
  refine CtI.mk' RX12 (by decide) rfl (fun _ => Nat.le_of_ble_eq_true rfl) ?_
  intro p0 e s m args below meth c D G A H0 ad X h r0 H ls Q hM hw hl hf hR
  have hl : lv_has ls 4 [(0, .ref (ad 0)), (1, .int a1), (2, .int a2), (3, .int a3)] := hl
  unfold c_X12_told at hf
  refine lv_aload_n hM.1 hM.2.1 dX12_told_0 rfl (lv_at hl 0 rfl) ?_
  refine lv_iload_n hM.1 hM.2.1 dX12_told_1 rfl (lv_at hl 1 rfl) ?_
  refine x_callVIr (rest := []) hM hw (ct_X12_isExcuse l ho a1) [.int a1] (okX12.o ho) rfl rfl rfl (gi_V ml_X12_428 im_X12_isExcuse sl_X12_isExcuse in_X12 kc_X12_isExcuse) hd_X12_isExcuse rfl ⟨Nat.le_of_ble_eq_true rfl, Nat.le_of_ble_eq_true rfl⟩ rfl (Nat.le_of_ble_eq_true rfl) hl.1 hcs0 hf dX12_told_2 (fun r1 H locs hf hw => ?_)
  refine x_if_eq (tgt := 16) hM hf dX12_told_5 (by decide) (fun hf => ?_) (fun hf => ?_)
  · refine lv_iconst (v := (-1)) hM.1 hM.2.1 dX12_told_16 ic_m1 ?_
    exact hR _ _ _ _ _ _ _ (Option.some.inj hf) rfl rfl hw dX12_told_17
  refine lv_aload_n hM.1 hM.2.1 dX12_told_8 rfl (lv_at hl 0 rfl) ?_
  refine lv_iload_n hM.1 hM.2.1 dX12_told_9 rfl (lv_at hl 2 rfl) ?_
  refine x_callVIr (rest := []) hM hw (ct_X12_isMan l ho a2) [.int a2] (okX12.o ho) rfl rfl rfl (gi_V ml_X12_425 im_X12_isMan sl_X12_isMan in_X12 kc_X12_isMan) hd_X12_isMan rfl ⟨Nat.le_of_ble_eq_true rfl, Nat.le_of_ble_eq_true rfl⟩ rfl (Nat.le_of_ble_eq_true rfl) hl.1 hcs0 hf dX12_told_10 (fun r2 H locs hf hw => ?_)
  refine x_if_ne (tgt := 18) hM hf dX12_told_13 (by decide) (fun hf => ?_) (fun hf => ?_)
  · refine lv_aload_n hM.1 hM.2.1 dX12_told_18 rfl (lv_at hl 0 rfl) ?_
    refine x_callVV (rest := []) hM hw (ct_X12_copies l ho) [] (okX12.o ho) rfl rfl rfl (gi_V ml_X12_437 im_X12_copies sl_X12_copies in_X12 kc_X12_copies) hd_X12_copies rfl ⟨Nat.le_of_ble_eq_true rfl, Nat.le_of_ble_eq_true rfl⟩ rfl (Nat.le_of_ble_eq_true rfl) hl.1 hcs0 hf dX12_told_19 (fun h3 H locs hf hw => ?_)
    refine lv_iload_n hM.1 hM.2.1 dX12_told_22 rfl (lv_at hl 3 rfl) ?_
    refine x_if_eq (tgt := 35) hM hf dX12_told_23 (by decide) (fun hf => ?_) (fun hf => ?_)
    · refine lv_aload_n hM.1 hM.2.1 dX12_told_35 rfl (lv_at hl 0 rfl) ?_
      refine lv_iload_n hM.1 hM.2.1 dX12_told_36 rfl (lv_at hl 1 rfl) ?_
      refine lv_iload_n hM.1 hM.2.1 dX12_told_37 rfl (lv_at hl 2 rfl) ?_
      refine x_callVIr (rest := []) hM hw (ct_X12_toldTimes l ho a1 a2) [.int a1, .int a2] (okX12.o ho) rfl rfl rfl (gi_V ml_X12_385 im_X12_toldTimes sl_X12_toldTimes in_X12 kc_X12_toldTimes) hd_X12_toldTimes rfl ⟨Nat.le_of_ble_eq_true rfl, Nat.le_of_ble_eq_true rfl⟩ rfl (Nat.le_of_ble_eq_true rfl) hl.1 hcs0 hf dX12_told_38 (fun r4 H locs hf hw => ?_)
      exact hR _ _ _ _ _ _ _ (Option.some.inj hf) rfl rfl hw dX12_told_41
    refine lv_aload_n hM.1 hM.2.1 dX12_told_26 rfl (lv_at hl 0 rfl) ?_
    refine lv_iload_n hM.1 hM.2.1 dX12_told_27 rfl (lv_at hl 1 rfl) ?_
    refine lv_iload_n hM.1 hM.2.1 dX12_told_28 rfl (lv_at hl 2 rfl) ?_
    refine x_callVIr (rest := []) hM hw (ct_X12_toldLast l ho a1 a2) [.int a1, .int a2] (okX12.o ho) rfl rfl rfl (gi_V ml_X12_382 im_X12_toldLast sl_X12_toldLast in_X12 kc_X12_toldLast) hd_X12_toldLast rfl ⟨Nat.le_of_ble_eq_true rfl, Nat.le_of_ble_eq_true rfl⟩ rfl (Nat.le_of_ble_eq_true rfl) hl.1 hcs0 hf dX12_told_29 (fun r5 H locs hf hw => ?_)
    refine lv_goto (tgt := 41) hM.1 hM.2.1 dX12_told_32 (by decide) ?_
    exact hR _ _ _ _ _ _ _ (Option.some.inj hf) rfl rfl hw dX12_told_41
  refine lv_iconst (v := (-1)) hM.1 hM.2.1 dX12_told_16 ic_m1 ?_
  exact hR _ _ _ _ _ _ _ (Option.some.inj hf) rfl rfl hw dX12_told_17
theorem hd_X12_told : yX12_told.cls = RX12 ∧ yX12_told.cls ≠ "java/lang/invoke/MethodHandle" ∧ yX12_told.cls ≠ "java/lang/invoke/VarHandle" ∧ (parseMethodDescriptor yX12_told.desc).map (fun d => d.parameters.length) = some 3 := ⟨rfl, by decide, by decide, by decide +kernel⟩
theorem dX12_rains_0 : decode cX12_rains 0 = .ok (.iload_n 1, 1) := by decide +kernel
theorem dX12_rains_1 : decode cX12_rains 1 = .ok (.iconst 0, 1) := by decide +kernel
theorem dX12_rains_2 : decode cX12_rains 2 = .ok (.sipush 999, 3) := by decide +kernel
theorem dX12_rains_5 : decode cX12_rains 5 = .ok (.invokestatic 359, 3) := by decide +kernel
theorem dX12_rains_8 : decode cX12_rains 8 = .ok (.ifCond .ne 5, 3) := by decide +kernel
theorem dX12_rains_11 : decode cX12_rains 11 = .ok (.iconst (-1), 1) := by decide +kernel
theorem dX12_rains_12 : decode cX12_rains 12 = .ok (.ireturn, 1) := by decide +kernel
theorem dX12_rains_13 : decode cX12_rains 13 = .ok (.aload_n 0, 1) := by decide +kernel
theorem dX12_rains_14 : decode cX12_rains 14 = .ok (.invokevirtual 437, 3) := by decide +kernel
theorem dX12_rains_17 : decode cX12_rains 17 = .ok (.aload_n 0, 1) := by decide +kernel
theorem dX12_rains_18 : decode cX12_rains 18 = .ok (.iload_n 1, 1) := by decide +kernel
theorem dX12_rains_19 : decode cX12_rains 19 = .ok (.invokevirtual 388, 3) := by decide +kernel
theorem dX12_rains_22 : decode cX12_rains 22 = .ok (.ifCond .eq 7, 3) := by decide +kernel
theorem dX12_rains_25 : decode cX12_rains 25 = .ok (.iconst 1, 1) := by decide +kernel
theorem dX12_rains_26 : decode cX12_rains 26 = .ok (.goto 4, 3) := by decide +kernel
theorem dX12_rains_29 : decode cX12_rains 29 = .ok (.iconst 0, 1) := by decide +kernel
theorem dX12_rains_30 : decode cX12_rains 30 = .ok (.ireturn, 1) := by decide +kernel
def c_X12_rains (a1 : Int32) (h : PH) : Option (Int32 × PH) :=
  (c_X12_in a1 0 999).bind fun r1 =>
  if r1 = 0 then
    some ((-1), h)
  else
    (c_X12_copies h).bind fun h2 =>
    (c_X12_isWet a1 h2).bind fun r3 =>
    if r3 = 0 then
      some (0, h2)
    else
      some (1, h2)
set_option maxHeartbeats 4000000 in
set_option maxRecDepth 100000 in
theorem ct_X12_rains (l : Launch) {lay : List KK} (ho : okX12 lay) (a1 : Int32) : CtI l yX12_rains cX12_rains 2 (some .int) 3 65 lay (fun h => c_X12_rains a1 h) (fun ad => [.ref (ad 0), .int a1]) := by
  refine CtI.mk' RX12 (by decide) rfl (fun _ => Nat.le_of_ble_eq_true rfl) ?_
  intro p0 e s m args below meth c D G A H0 ad X h r0 H ls Q hM hw hl hf hR
  have hl : lv_has ls 2 [(0, .ref (ad 0)), (1, .int a1)] := hl
  unfold c_X12_rains at hf
  refine lv_iload_n hM.1 hM.2.1 dX12_rains_0 rfl (lv_at hl 1 rfl) ?_
  refine lv_iconst (v := 0) hM.1 hM.2.1 dX12_rains_1 ic_0 ?_
  refine lv_sipush (v := 999) hM.1 hM.2.1 dX12_rains_2 (by decide) ?_
  refine x_callSIr (rest := []) hM hw (ct_X12_in l a1 0 999) [.int a1, .int 0, .int 999] rfl (gi_S ml_X12_359 sm_X12_in in_X12 kc_X12_in) hd_X12_in rfl ⟨Nat.le_of_ble_eq_true rfl, Nat.le_of_ble_eq_true rfl⟩ rfl (Nat.le_of_ble_eq_true rfl) hl.1 hcs0 hf dX12_rains_5 (fun r1 H locs hf hw => ?_)
  refine x_if_ne (tgt := 13) hM hf dX12_rains_8 (by decide) (fun hf => ?_) (fun hf => ?_)
  · refine lv_aload_n hM.1 hM.2.1 dX12_rains_13 rfl (lv_at hl 0 rfl) ?_
    refine x_callVV (rest := []) hM hw (ct_X12_copies l ho) [] (okX12.o ho) rfl rfl rfl (gi_V ml_X12_437 im_X12_copies sl_X12_copies in_X12 kc_X12_copies) hd_X12_copies rfl ⟨Nat.le_of_ble_eq_true rfl, Nat.le_of_ble_eq_true rfl⟩ rfl (Nat.le_of_ble_eq_true rfl) hl.1 hcs0 hf dX12_rains_14 (fun h2 H locs hf hw => ?_)
    refine lv_aload_n hM.1 hM.2.1 dX12_rains_17 rfl (lv_at hl 0 rfl) ?_
    refine lv_iload_n hM.1 hM.2.1 dX12_rains_18 rfl (lv_at hl 1 rfl) ?_
    refine x_callVIr (rest := []) hM hw (ct_X12_isWet l ho a1) [.int a1] (okX12.o ho) rfl rfl rfl (gi_V ml_X12_388 im_X12_isWet sl_X12_isWet in_X12 kc_X12_isWet) hd_X12_isWet rfl ⟨Nat.le_of_ble_eq_true rfl, Nat.le_of_ble_eq_true rfl⟩ rfl (Nat.le_of_ble_eq_true rfl) hl.1 hcs0 hf dX12_rains_19 (fun r3 H locs hf hw => ?_)
    refine x_if_eq (tgt := 29) hM hf dX12_rains_22 (by decide) (fun hf => ?_) (fun hf => ?_)
    · refine lv_iconst (v := 0) hM.1 hM.2.1 dX12_rains_29 ic_0 ?_
      exact hR _ _ _ _ _ _ _ (Option.some.inj hf) rfl rfl hw dX12_rains_30
    refine lv_iconst (v := 1) hM.1 hM.2.1 dX12_rains_25 ic_1 ?_
    refine lv_goto (tgt := 30) hM.1 hM.2.1 dX12_rains_26 (by decide) ?_
    exact hR _ _ _ _ _ _ _ (Option.some.inj hf) rfl rfl hw dX12_rains_30
  refine lv_iconst (v := (-1)) hM.1 hM.2.1 dX12_rains_11 ic_m1 ?_
  exact hR _ _ _ _ _ _ _ (Option.some.inj hf) rfl rfl hw dX12_rains_12
theorem hd_X12_rains : yX12_rains.cls = RX12 ∧ yX12_rains.cls ≠ "java/lang/invoke/MethodHandle" ∧ yX12_rains.cls ≠ "java/lang/invoke/VarHandle" ∧ (parseMethodDescriptor yX12_rains.desc).map (fun d => d.parameters.length) = some 1 := ⟨rfl, by decide, by decide, by decide +kernel⟩
theorem dX12_keeps_0 : decode cX12_keeps 0 = .ok (.aload_n 0, 1) := by decide +kernel
theorem dX12_keeps_1 : decode cX12_keeps 1 = .ok (.getfield 284, 3) := by decide +kernel
theorem dX12_keeps_4 : decode cX12_keeps 4 = .ok (.bipush 40, 2) := by decide +kernel
theorem dX12_keeps_6 : decode cX12_keeps 6 = .ok (.if_icmp .ne 43, 3) := by decide +kernel
theorem dX12_keeps_9 : decode cX12_keeps 9 = .ok (.iconst 0, 1) := by decide +kernel
theorem dX12_keeps_10 : decode cX12_keeps 10 = .ok (.istore_n 1, 1) := by decide +kernel
theorem dX12_keeps_11 : decode cX12_keeps 11 = .ok (.iload_n 1, 1) := by decide +kernel
theorem dX12_keeps_12 : decode cX12_keeps 12 = .ok (.sipush 1560, 3) := by decide +kernel
theorem dX12_keeps_15 : decode cX12_keeps 15 = .ok (.if_icmp .ge 24, 3) := by decide +kernel
theorem dX12_keeps_18 : decode cX12_keeps 18 = .ok (.aload_n 0, 1) := by decide +kernel
theorem dX12_keeps_19 : decode cX12_keeps 19 = .ok (.getfield 152, 3) := by decide +kernel
theorem dX12_keeps_22 : decode cX12_keeps 22 = .ok (.iload_n 1, 1) := by decide +kernel
theorem dX12_keeps_23 : decode cX12_keeps 23 = .ok (.aload_n 0, 1) := by decide +kernel
theorem dX12_keeps_24 : decode cX12_keeps 24 = .ok (.getfield 152, 3) := by decide +kernel
theorem dX12_keeps_27 : decode cX12_keeps 27 = .ok (.iload_n 1, 1) := by decide +kernel
theorem dX12_keeps_28 : decode cX12_keeps 28 = .ok (.bipush 40, 2) := by decide +kernel
theorem dX12_keeps_30 : decode cX12_keeps 30 = .ok (.iadd, 1) := by decide +kernel
theorem dX12_keeps_31 : decode cX12_keeps 31 = .ok (.iaload, 1) := by decide +kernel
theorem dX12_keeps_32 : decode cX12_keeps 32 = .ok (.iastore, 1) := by decide +kernel
theorem dX12_keeps_33 : decode cX12_keeps 33 = .ok (.iinc 1 1, 3) := by decide +kernel
theorem dX12_keeps_36 : decode cX12_keeps 36 = .ok (.goto (-25), 3) := by decide +kernel
theorem dX12_keeps_39 : decode cX12_keeps 39 = .ok (.aload_n 0, 1) := by decide +kernel
theorem dX12_keeps_40 : decode cX12_keeps 40 = .ok (.dup, 1) := by decide +kernel
theorem dX12_keeps_41 : decode cX12_keeps 41 = .ok (.getfield 284, 3) := by decide +kernel
theorem dX12_keeps_44 : decode cX12_keeps 44 = .ok (.iconst 1, 1) := by decide +kernel
theorem dX12_keeps_45 : decode cX12_keeps 45 = .ok (.isub, 1) := by decide +kernel
theorem dX12_keeps_46 : decode cX12_keeps 46 = .ok (.putfield 284, 3) := by decide +kernel
theorem dX12_keeps_49 : decode cX12_keeps 49 = .ok (.iconst 0, 1) := by decide +kernel
theorem dX12_keeps_50 : decode cX12_keeps 50 = .ok (.istore_n 1, 1) := by decide +kernel
theorem dX12_keeps_51 : decode cX12_keeps 51 = .ok (.iload_n 1, 1) := by decide +kernel
theorem dX12_keeps_52 : decode cX12_keeps 52 = .ok (.bipush 40, 2) := by decide +kernel
theorem dX12_keeps_54 : decode cX12_keeps 54 = .ok (.if_icmp .ge 29, 3) := by decide +kernel
theorem dX12_keeps_57 : decode cX12_keeps 57 = .ok (.aload_n 0, 1) := by decide +kernel
theorem dX12_keeps_58 : decode cX12_keeps 58 = .ok (.getfield 152, 3) := by decide +kernel
theorem dX12_keeps_61 : decode cX12_keeps 61 = .ok (.bipush 40, 2) := by decide +kernel
theorem dX12_keeps_63 : decode cX12_keeps 63 = .ok (.aload_n 0, 1) := by decide +kernel
theorem dX12_keeps_64 : decode cX12_keeps 64 = .ok (.getfield 284, 3) := by decide +kernel
theorem dX12_keeps_67 : decode cX12_keeps 67 = .ok (.imul, 1) := by decide +kernel
theorem dX12_keeps_68 : decode cX12_keeps 68 = .ok (.iload_n 1, 1) := by decide +kernel
theorem dX12_keeps_69 : decode cX12_keeps 69 = .ok (.iadd, 1) := by decide +kernel
theorem dX12_keeps_70 : decode cX12_keeps 70 = .ok (.aload_n 0, 1) := by decide +kernel
theorem dX12_keeps_71 : decode cX12_keeps 71 = .ok (.getfield 146, 3) := by decide +kernel
theorem dX12_keeps_74 : decode cX12_keeps 74 = .ok (.iload_n 1, 1) := by decide +kernel
theorem dX12_keeps_75 : decode cX12_keeps 75 = .ok (.iaload, 1) := by decide +kernel
theorem dX12_keeps_76 : decode cX12_keeps 76 = .ok (.iastore, 1) := by decide +kernel
theorem dX12_keeps_77 : decode cX12_keeps 77 = .ok (.iinc 1 1, 3) := by decide +kernel
theorem dX12_keeps_80 : decode cX12_keeps 80 = .ok (.goto (-29), 3) := by decide +kernel
theorem dX12_keeps_83 : decode cX12_keeps 83 = .ok (.aload_n 0, 1) := by decide +kernel
theorem dX12_keeps_84 : decode cX12_keeps 84 = .ok (.dup, 1) := by decide +kernel
theorem dX12_keeps_85 : decode cX12_keeps 85 = .ok (.getfield 284, 3) := by decide +kernel
theorem dX12_keeps_88 : decode cX12_keeps 88 = .ok (.iconst 1, 1) := by decide +kernel
theorem dX12_keeps_89 : decode cX12_keeps 89 = .ok (.iadd, 1) := by decide +kernel
theorem dX12_keeps_90 : decode cX12_keeps 90 = .ok (.putfield 284, 3) := by decide +kernel
theorem dX12_keeps_93 : decode cX12_keeps 93 = .ok (.aload_n 0, 1) := by decide +kernel
theorem dX12_keeps_94 : decode cX12_keeps 94 = .ok (.invokevirtual 196, 3) := by decide +kernel
theorem dX12_keeps_97 : decode cX12_keeps 97 = .ok (.return_, 1) := by decide +kernel
def c_X12_keeps_L51b {ρ : Type}  (K1 : PH → Option ρ) (REC : Int32 → PH → Option ρ) (x1 : Int32) (h : PH) : Option ρ :=
  if 40 ≤ x1 then
    K1 h
  else
    gd (ixOK x1 40) <|
    gd (ixOK ((40 * (h.1 0 63)) + x1) 1600) <| nm (setI h 45 ((40 * (h.1 0 63)) + x1).toNatClampNeg (h.1 43 x1.toNatClampNeg)) fun h2 =>
    nm (x1 + 1) fun v3 =>
    REC v3 h2
set_option maxHeartbeats 4000000 in
set_option maxRecDepth 100000 in
theorem w_X12_keeps_L51b {p0 : Program} {l : Launch} {e : Env} {s : State} {m : MethodId} {args : Array Value} {below : List Frame} {meth : Method} {c : Code} {Q : State → Prop} {D : va_G} {G : GG} {A : Nat → Prop} {H0 : Heap} {ad : Nat → Nat} {lay : List KK} {X : va_W} {ρ : Type} {r0 : ρ} {x1 : Int32} {h : PH} {H : Heap} {locs : List Loc} {ls : Array Slot} {K1 : PH → Option ρ} {REC : Int32 → PH → Option ρ} (hM : CallFix p0 m c cX12_keeps 2 s args lw_g RX12) (ho : okX12 lay) (hk1 : ∀ (h : PH), ∀ (H : Heap) (locs : List Loc) (ls : Array Slot), K1 h = some r0 → Wd D G A H0 ad lay X h s H locs → lv_has ls 2 [(0, .ref (ad 0))] → W p0 l e (rmN 1 21) s m args below meth c H locs 0 0 Q (F0 m 83 ls [])) (hrec : ∀ (x1 : Int32) (h : PH), ∀ (H : Heap) (locs : List Loc) (ls : Array Slot), REC x1 h = some r0 → Wd D G A H0 ad lay X h s H locs → lv_has ls 2 [(0, .ref (ad 0)), (1, .int x1)] → W p0 l e (rmN 1 21) s m args below meth c H locs 0 0 Q (F0 m 51 ls [])) (hw : Wd D G A H0 ad lay X h s H locs) (hl : lv_has ls 2 [(0, .ref (ad 0)), (1, .int x1)]) (hf : c_X12_keeps_L51b K1 REC x1 h = some r0) : W p0 l e (rmN 1 21) s m args below meth c H locs 0 0 Q (F0 m 51 ls []) := by
  unfold c_X12_keeps_L51b at hf
  refine lv_iload_n hM.1 hM.2.1 dX12_keeps_51 rfl (lv_at hl 1 rfl) ?_
  refine lv_bipush (v := 40) hM.1 hM.2.1 dX12_keeps_52 (by decide) ?_
  refine x_ic_ge (tgt := 83) hM hf dX12_keeps_54 (by decide) (fun hf => ?_) (fun hf => ?_)
  · exact hk1 _ _ _ _ hf hw (lv_sub hl [0] rfl)
  refine lv_aload_n hM.1 hM.2.1 dX12_keeps_57 rfl (lv_at hl 0 rfl) ?_
  refine gf_X12_history hM hw (okX12.o ho) fl_X12_152 dX12_keeps_58 ?_
  refine lv_bipush (v := 40) hM.1 hM.2.1 dX12_keeps_61 (by decide) ?_
  refine lv_aload_n hM.1 hM.2.1 dX12_keeps_63 rfl (lv_at hl 0 rfl) ?_
  refine gf_X12_undos hM hw (okX12.o ho) fl_X12_284 dX12_keeps_64 ?_
  refine lv_imul hM.1 hM.2.1 dX12_keeps_67 ?_
  refine lv_iload_n hM.1 hM.2.1 dX12_keeps_68 rfl (lv_at hl 1 rfl) ?_
  refine lv_iadd hM.1 hM.2.1 dX12_keeps_69 ?_
  refine lv_aload_n hM.1 hM.2.1 dX12_keeps_70 rfl (lv_at hl 0 rfl) ?_
  refine gf_X12_now hM hw (okX12.o ho) fl_X12_146 dX12_keeps_71 ?_
  refine lv_iload_n hM.1 hM.2.1 dX12_keeps_74 rfl (lv_at hl 1 rfl) ?_
  refine x_iald hM hw (okX12.now ho) hf dX12_keeps_75 (fun hf => ?_)
  refine x_iast hM hw (okX12.history ho) hf dX12_keeps_76 (fun h2 H locs hf hw => ?_)
  refine x_iinc (k := 1) (d := 1) hM hf dX12_keeps_77 hl rfl (by decide) (by decide) (fun v3 => [(1, .int v3), (0, .ref (ad 0))]) (fun _ => rfl) (fun v3 ls hf hl => ?_)
  refine lv_goto (tgt := 51) hM.1 hM.2.1 dX12_keeps_80 (by decide) ?_
  exact hrec _ _ _ _ _ hf hw (lv_sub hl [1, 0] rfl)
set_option maxHeartbeats 4000000 in
set_option maxRecDepth 100000 in
theorem w_X12_keeps_L51 {p0 : Program} {l : Launch} {e : Env} {s : State} {m : MethodId} {args : Array Value} {below : List Frame} {meth : Method} {c : Code} {Q : State → Prop} {D : va_G} {G : GG} {A : Nat → Prop} {H0 : Heap} {ad : Nat → Nat} {lay : List KK} {X : va_W} {ρ : Type} {r0 : ρ} {K1 : PH → Option ρ} (hM : CallFix p0 m c cX12_keeps 2 s args lw_g RX12) (ho : okX12 lay) (hk1 : ∀ (h : PH), ∀ (H : Heap) (locs : List Loc) (ls : Array Slot), K1 h = some r0 → Wd D G A H0 ad lay X h s H locs → lv_has ls 2 [(0, .ref (ad 0))] → W p0 l e (rmN 1 21) s m args below meth c H locs 0 0 Q (F0 m 83 ls [])) (n : Nat) (x1 : Int32) (h : PH) (hf : lq2 (c_X12_keeps_L51b K1) n x1 h = some r0) : ∀ (H : Heap) (locs : List Loc) (ls : Array Slot), Wd D G A H0 ad lay X h s H locs → lv_has ls 2 [(0, .ref (ad 0)), (1, .int x1)] → W p0 l e (rmN 1 21) s m args below meth c H locs 0 0 Q (F0 m 51 ls []) := by
  exact lq2_i (fun (x1 : Int32) (h : PH) => ∀ (H : Heap) (locs : List Loc) (ls : Array Slot), Wd D G A H0 ad lay X h s H locs → lv_has ls 2 [(0, .ref (ad 0)), (1, .int x1)] → W p0 l e (rmN 1 21) s m args below meth c H locs 0 0 Q (F0 m 51 ls [])) (fun REC x1 h ih hf H locs ls hw hl => w_X12_keeps_L51b hM ho hk1 (fun x1 h H locs ls hf hw hl => ih x1 h hf H locs ls hw hl) hw hl hf) n x1 h hf
def c_X12_keeps_L11b {ρ : Type}  (K1 : PH → Option ρ) (REC : Int32 → PH → Option ρ) (x1 : Int32) (h : PH) : Option ρ :=
  if 1560 ≤ x1 then
    K1 h
  else
    gd (ixOK (x1 + 40) 1600) <|
    gd (ixOK x1 1600) <| nm (setI h 45 x1.toNatClampNeg (h.1 45 (x1 + 40).toNatClampNeg)) fun h8 =>
    nm (x1 + 1) fun v9 =>
    REC v9 h8
set_option maxHeartbeats 4000000 in
set_option maxRecDepth 100000 in
theorem w_X12_keeps_L11b {p0 : Program} {l : Launch} {e : Env} {s : State} {m : MethodId} {args : Array Value} {below : List Frame} {meth : Method} {c : Code} {Q : State → Prop} {D : va_G} {G : GG} {A : Nat → Prop} {H0 : Heap} {ad : Nat → Nat} {lay : List KK} {X : va_W} {ρ : Type} {r0 : ρ} {x1 : Int32} {h : PH} {H : Heap} {locs : List Loc} {ls : Array Slot} {K1 : PH → Option ρ} {REC : Int32 → PH → Option ρ} (hM : CallFix p0 m c cX12_keeps 2 s args lw_g RX12) (ho : okX12 lay) (hk1 : ∀ (h : PH), ∀ (H : Heap) (locs : List Loc) (ls : Array Slot), K1 h = some r0 → Wd D G A H0 ad lay X h s H locs → lv_has ls 2 [(0, .ref (ad 0))] → W p0 l e (rmN 1 21) s m args below meth c H locs 0 0 Q (F0 m 39 ls [])) (hrec : ∀ (x1 : Int32) (h : PH), ∀ (H : Heap) (locs : List Loc) (ls : Array Slot), REC x1 h = some r0 → Wd D G A H0 ad lay X h s H locs → lv_has ls 2 [(0, .ref (ad 0)), (1, .int x1)] → W p0 l e (rmN 1 21) s m args below meth c H locs 0 0 Q (F0 m 11 ls [])) (hw : Wd D G A H0 ad lay X h s H locs) (hl : lv_has ls 2 [(0, .ref (ad 0)), (1, .int x1)]) (hf : c_X12_keeps_L11b K1 REC x1 h = some r0) : W p0 l e (rmN 1 21) s m args below meth c H locs 0 0 Q (F0 m 11 ls []) := by
  unfold c_X12_keeps_L11b at hf
  refine lv_iload_n hM.1 hM.2.1 dX12_keeps_11 rfl (lv_at hl 1 rfl) ?_
  refine lv_sipush (v := 1560) hM.1 hM.2.1 dX12_keeps_12 (by decide) ?_
  refine x_ic_ge (tgt := 39) hM hf dX12_keeps_15 (by decide) (fun hf => ?_) (fun hf => ?_)
  · exact hk1 _ _ _ _ hf hw (lv_sub hl [0] rfl)
  refine lv_aload_n hM.1 hM.2.1 dX12_keeps_18 rfl (lv_at hl 0 rfl) ?_
  refine gf_X12_history hM hw (okX12.o ho) fl_X12_152 dX12_keeps_19 ?_
  refine lv_iload_n hM.1 hM.2.1 dX12_keeps_22 rfl (lv_at hl 1 rfl) ?_
  refine lv_aload_n hM.1 hM.2.1 dX12_keeps_23 rfl (lv_at hl 0 rfl) ?_
  refine gf_X12_history hM hw (okX12.o ho) fl_X12_152 dX12_keeps_24 ?_
  refine lv_iload_n hM.1 hM.2.1 dX12_keeps_27 rfl (lv_at hl 1 rfl) ?_
  refine lv_bipush (v := 40) hM.1 hM.2.1 dX12_keeps_28 (by decide) ?_
  refine lv_iadd hM.1 hM.2.1 dX12_keeps_30 ?_
  refine x_iald hM hw (okX12.history ho) hf dX12_keeps_31 (fun hf => ?_)
  refine x_iast hM hw (okX12.history ho) hf dX12_keeps_32 (fun h8 H locs hf hw => ?_)
  refine x_iinc (k := 1) (d := 1) hM hf dX12_keeps_33 hl rfl (by decide) (by decide) (fun v9 => [(1, .int v9), (0, .ref (ad 0))]) (fun _ => rfl) (fun v9 ls hf hl => ?_)
  refine lv_goto (tgt := 11) hM.1 hM.2.1 dX12_keeps_36 (by decide) ?_
  exact hrec _ _ _ _ _ hf hw (lv_sub hl [1, 0] rfl)
set_option maxHeartbeats 4000000 in
set_option maxRecDepth 100000 in
theorem w_X12_keeps_L11 {p0 : Program} {l : Launch} {e : Env} {s : State} {m : MethodId} {args : Array Value} {below : List Frame} {meth : Method} {c : Code} {Q : State → Prop} {D : va_G} {G : GG} {A : Nat → Prop} {H0 : Heap} {ad : Nat → Nat} {lay : List KK} {X : va_W} {ρ : Type} {r0 : ρ} {K1 : PH → Option ρ} (hM : CallFix p0 m c cX12_keeps 2 s args lw_g RX12) (ho : okX12 lay) (hk1 : ∀ (h : PH), ∀ (H : Heap) (locs : List Loc) (ls : Array Slot), K1 h = some r0 → Wd D G A H0 ad lay X h s H locs → lv_has ls 2 [(0, .ref (ad 0))] → W p0 l e (rmN 1 21) s m args below meth c H locs 0 0 Q (F0 m 39 ls [])) (n : Nat) (x1 : Int32) (h : PH) (hf : lq2 (c_X12_keeps_L11b K1) n x1 h = some r0) : ∀ (H : Heap) (locs : List Loc) (ls : Array Slot), Wd D G A H0 ad lay X h s H locs → lv_has ls 2 [(0, .ref (ad 0)), (1, .int x1)] → W p0 l e (rmN 1 21) s m args below meth c H locs 0 0 Q (F0 m 11 ls []) := by
  exact lq2_i (fun (x1 : Int32) (h : PH) => ∀ (H : Heap) (locs : List Loc) (ls : Array Slot), Wd D G A H0 ad lay X h s H locs → lv_has ls 2 [(0, .ref (ad 0)), (1, .int x1)] → W p0 l e (rmN 1 21) s m args below meth c H locs 0 0 Q (F0 m 11 ls [])) (fun REC x1 h ih hf H locs ls hw hl => w_X12_keeps_L11b hM ho hk1 (fun x1 h H locs ls hf hw hl => ih x1 h hf H locs ls hw hl) hw hl hf) n x1 h hf
def c_X12_keeps (h : PH) : Option (PH) :=
  if (h.1 0 63) = 40 then
    nm (0 : Int32) fun v7 =>
    lq2 (c_X12_keeps_L11b
      (fun h10 =>
        nm (setI h10 0 63 ((h10.1 0 63) - 1)) fun h11 =>
        nm (0 : Int32) fun v12 =>
        lq2 (c_X12_keeps_L51b
          (fun h13 =>
            nm (setI h13 0 63 ((h13.1 0 63) + 1)) fun h14 =>
            (c_X12_keepsRow h14).bind fun h15 =>
            some h15)) fu v12 h11)) fu v7 h
  else
    nm (0 : Int32) fun v1 =>
    lq2 (c_X12_keeps_L51b
      (fun h4 =>
        nm (setI h4 0 63 ((h4.1 0 63) + 1)) fun h5 =>
        (c_X12_keepsRow h5).bind fun h6 =>
        some h6)) fu v1 h
set_option maxHeartbeats 4000000 in
set_option maxRecDepth 100000 in
theorem ct_X12_keeps (l : Launch) {lay : List KK} (ho : okX12 lay) : CtV l yX12_keeps cX12_keeps 2 (none) 1 21 lay (fun h => c_X12_keeps h) (fun ad => [.ref (ad 0)]) := by
  refine CtV.mk' RX12 (by decide) rfl (fun _ => Nat.le_of_ble_eq_true rfl) ?_
  intro p0 e s m args below meth c D G A H0 ad X h r0 H ls Q hM hw hl hf hR
  have hl : lv_has ls 2 [(0, .ref (ad 0))] := hl
  unfold c_X12_keeps at hf
  refine lv_aload_n hM.1 hM.2.1 dX12_keeps_0 rfl (lv_at hl 0 rfl) ?_
  refine gf_X12_undos hM hw (okX12.o ho) fl_X12_284 dX12_keeps_1 ?_
  refine lv_bipush (v := 40) hM.1 hM.2.1 dX12_keeps_4 (by decide) ?_
  refine x_ic_ne (tgt := 49) hM hf dX12_keeps_6 (by decide) (fun hf => ?_) (fun hf => ?_)
  · refine lv_iconst (v := 0) hM.1 hM.2.1 dX12_keeps_49 ic_0 ?_
    refine x_istore_n hM hf dX12_keeps_50 rfl hl (by decide) (fun v1 => [(1, .int v1), (0, .ref (ad 0))]) (fun _ => rfl) (fun v1 ls hf hl => ?_)
    refine w_X12_keeps_L51 hM ho (fun h4 H locs ls hf hw hl => ?_) fu _ _ hf _ _ _ hw (lv_sub hl [1, 0] rfl)
    refine lv_aload_n hM.1 hM.2.1 dX12_keeps_83 rfl (lv_at hl 0 rfl) ?_
    refine lv_dup hM.1 hM.2.1 dX12_keeps_84 rfl ?_
    refine gf_X12_undos hM hw (okX12.o ho) fl_X12_284 dX12_keeps_85 ?_
    refine lv_iconst (v := 1) hM.1 hM.2.1 dX12_keeps_88 ic_1 ?_
    refine lv_iadd hM.1 hM.2.1 dX12_keeps_89 ?_
    refine pf_X12_undos hM hw (okX12.o ho) fl_X12_284 hf dX12_keeps_90 (fun h5 H locs hf hw => ?_)
    refine lv_aload_n hM.1 hM.2.1 dX12_keeps_93 rfl (lv_at hl 0 rfl) ?_
    refine x_callVV (rest := []) hM hw (ct_X12_keepsRow l ho) [] (okX12.o ho) rfl rfl rfl (gi_V ml_X12_196 im_X12_keepsRow sl_X12_keepsRow in_X12 kc_X12_keepsRow) hd_X12_keepsRow rfl ⟨Nat.le_of_ble_eq_true rfl, Nat.le_of_ble_eq_true rfl⟩ rfl (Nat.le_of_ble_eq_true rfl) hl.1 hcs0 hf dX12_keeps_94 (fun h6 H locs hf hw => ?_)
    exact hR _ _ _ _ _ (Option.some.inj hf) rfl hw dX12_keeps_97
  refine lv_iconst (v := 0) hM.1 hM.2.1 dX12_keeps_9 ic_0 ?_
  refine x_istore_n hM hf dX12_keeps_10 rfl hl (by decide) (fun v7 => [(1, .int v7), (0, .ref (ad 0))]) (fun _ => rfl) (fun v7 ls hf hl => ?_)
  refine w_X12_keeps_L11 hM ho (fun h10 H locs ls hf hw hl => ?_) fu _ _ hf _ _ _ hw (lv_sub hl [1, 0] rfl)
  refine lv_aload_n hM.1 hM.2.1 dX12_keeps_39 rfl (lv_at hl 0 rfl) ?_
  refine lv_dup hM.1 hM.2.1 dX12_keeps_40 rfl ?_
  refine gf_X12_undos hM hw (okX12.o ho) fl_X12_284 dX12_keeps_41 ?_
  refine lv_iconst (v := 1) hM.1 hM.2.1 dX12_keeps_44 ic_1 ?_
  refine lv_isub hM.1 hM.2.1 dX12_keeps_45 ?_
  refine pf_X12_undos hM hw (okX12.o ho) fl_X12_284 hf dX12_keeps_46 (fun h11 H locs hf hw => ?_)
  refine lv_iconst (v := 0) hM.1 hM.2.1 dX12_keeps_49 ic_0 ?_
  refine x_istore_n hM hf dX12_keeps_50 rfl hl (by decide) (fun v12 => [(1, .int v12), (0, .ref (ad 0))]) (fun _ => rfl) (fun v12 ls hf hl => ?_)
  refine w_X12_keeps_L51 hM ho (fun h13 H locs ls hf hw hl => ?_) fu _ _ hf _ _ _ hw (lv_sub hl [1, 0] rfl)
  refine lv_aload_n hM.1 hM.2.1 dX12_keeps_83 rfl (lv_at hl 0 rfl) ?_
  refine lv_dup hM.1 hM.2.1 dX12_keeps_84 rfl ?_
  refine gf_X12_undos hM hw (okX12.o ho) fl_X12_284 dX12_keeps_85 ?_
  refine lv_iconst (v := 1) hM.1 hM.2.1 dX12_keeps_88 ic_1 ?_
  refine lv_iadd hM.1 hM.2.1 dX12_keeps_89 ?_
  refine pf_X12_undos hM hw (okX12.o ho) fl_X12_284 hf dX12_keeps_90 (fun h14 H locs hf hw => ?_)
  refine lv_aload_n hM.1 hM.2.1 dX12_keeps_93 rfl (lv_at hl 0 rfl) ?_
  refine x_callVV (rest := []) hM hw (ct_X12_keepsRow l ho) [] (okX12.o ho) rfl rfl rfl (gi_V ml_X12_196 im_X12_keepsRow sl_X12_keepsRow in_X12 kc_X12_keepsRow) hd_X12_keepsRow rfl ⟨Nat.le_of_ble_eq_true rfl, Nat.le_of_ble_eq_true rfl⟩ rfl (Nat.le_of_ble_eq_true rfl) hl.1 hcs0 hf dX12_keeps_94 (fun h15 H locs hf hw => ?_)
  exact hR _ _ _ _ _ (Option.some.inj hf) rfl hw dX12_keeps_97
theorem hd_X12_keeps : yX12_keeps.cls = RX12 ∧ yX12_keeps.cls ≠ "java/lang/invoke/MethodHandle" ∧ yX12_keeps.cls ≠ "java/lang/invoke/VarHandle" ∧ (parseMethodDescriptor yX12_keeps.desc).map (fun d => d.parameters.length) = some 0 := ⟨rfl, by decide, by decide, by decide +kernel⟩
theorem dX12_buy_0 : decode cX12_buy 0 = .ok (.aload_n 0, 1) := by decide +kernel
theorem dX12_buy_1 : decode cX12_buy 1 = .ok (.iload_n 1, 1) := by decide +kernel
theorem dX12_buy_2 : decode cX12_buy 2 = .ok (.invokevirtual 428, 3) := by decide +kernel
theorem dX12_buy_5 : decode cX12_buy 5 = .ok (.ifCond .ne 5, 3) := by decide +kernel
theorem dX12_buy_8 : decode cX12_buy 8 = .ok (.iconst (-1), 1) := by decide +kernel
theorem dX12_buy_9 : decode cX12_buy 9 = .ok (.ireturn, 1) := by decide +kernel
theorem dX12_buy_10 : decode cX12_buy 10 = .ok (.aload_n 0, 1) := by decide +kernel
theorem dX12_buy_11 : decode cX12_buy 11 = .ok (.getfield 64, 3) := by decide +kernel
theorem dX12_buy_14 : decode cX12_buy 14 = .ok (.bipush 7, 2) := by decide +kernel
theorem dX12_buy_16 : decode cX12_buy 16 = .ok (.aload_n 0, 1) := by decide +kernel
theorem dX12_buy_17 : decode cX12_buy 17 = .ok (.getfield 266, 3) := by decide +kernel
theorem dX12_buy_20 : decode cX12_buy 20 = .ok (.imul, 1) := by decide +kernel
theorem dX12_buy_21 : decode cX12_buy 21 = .ok (.iload_n 1, 1) := by decide +kernel
theorem dX12_buy_22 : decode cX12_buy 22 = .ok (.iadd, 1) := by decide +kernel
theorem dX12_buy_23 : decode cX12_buy 23 = .ok (.iaload, 1) := by decide +kernel
theorem dX12_buy_24 : decode cX12_buy 24 = .ok (.istore_n 2, 1) := by decide +kernel
theorem dX12_buy_25 : decode cX12_buy 25 = .ok (.aload_n 0, 1) := by decide +kernel
theorem dX12_buy_26 : decode cX12_buy 26 = .ok (.iload_n 1, 1) := by decide +kernel
theorem dX12_buy_27 : decode cX12_buy 27 = .ok (.invokevirtual 431, 3) := by decide +kernel
theorem dX12_buy_30 : decode cX12_buy 30 = .ok (.iconst 1, 1) := by decide +kernel
theorem dX12_buy_31 : decode cX12_buy 31 = .ok (.if_icmp .eq 13, 3) := by decide +kernel
theorem dX12_buy_34 : decode cX12_buy 34 = .ok (.iload_n 2, 1) := by decide +kernel
theorem dX12_buy_35 : decode cX12_buy 35 = .ok (.aload_n 0, 1) := by decide +kernel
theorem dX12_buy_36 : decode cX12_buy 36 = .ok (.getfield 146, 3) := by decide +kernel
theorem dX12_buy_39 : decode cX12_buy 39 = .ok (.iconst 1, 1) := by decide +kernel
theorem dX12_buy_40 : decode cX12_buy 40 = .ok (.iaload, 1) := by decide +kernel
theorem dX12_buy_41 : decode cX12_buy 41 = .ok (.if_icmp .le 6, 3) := by decide +kernel
theorem dX12_buy_44 : decode cX12_buy 44 = .ok (.bipush (-2), 2) := by decide +kernel
theorem dX12_buy_46 : decode cX12_buy 46 = .ok (.ireturn, 1) := by decide +kernel
theorem dX12_buy_47 : decode cX12_buy 47 = .ok (.aload_n 0, 1) := by decide +kernel
theorem dX12_buy_48 : decode cX12_buy 48 = .ok (.invokevirtual 437, 3) := by decide +kernel
theorem dX12_buy_51 : decode cX12_buy 51 = .ok (.aload_n 0, 1) := by decide +kernel
theorem dX12_buy_52 : decode cX12_buy 52 = .ok (.getfield 149, 3) := by decide +kernel
theorem dX12_buy_55 : decode cX12_buy 55 = .ok (.iconst 3, 1) := by decide +kernel
theorem dX12_buy_56 : decode cX12_buy 56 = .ok (.dup2, 1) := by decide +kernel
theorem dX12_buy_57 : decode cX12_buy 57 = .ok (.iaload, 1) := by decide +kernel
theorem dX12_buy_58 : decode cX12_buy 58 = .ok (.iconst 1, 1) := by decide +kernel
theorem dX12_buy_59 : decode cX12_buy 59 = .ok (.iload_n 1, 1) := by decide +kernel
theorem dX12_buy_60 : decode cX12_buy 60 = .ok (.ishl, 1) := by decide +kernel
theorem dX12_buy_61 : decode cX12_buy 61 = .ok (.ior, 1) := by decide +kernel
theorem dX12_buy_62 : decode cX12_buy 62 = .ok (.iastore, 1) := by decide +kernel
theorem dX12_buy_63 : decode cX12_buy 63 = .ok (.aload_n 0, 1) := by decide +kernel
theorem dX12_buy_64 : decode cX12_buy 64 = .ok (.getfield 149, 3) := by decide +kernel
theorem dX12_buy_67 : decode cX12_buy 67 = .ok (.iconst 1, 1) := by decide +kernel
theorem dX12_buy_68 : decode cX12_buy 68 = .ok (.dup2, 1) := by decide +kernel
theorem dX12_buy_69 : decode cX12_buy 69 = .ok (.iaload, 1) := by decide +kernel
theorem dX12_buy_70 : decode cX12_buy 70 = .ok (.iload_n 2, 1) := by decide +kernel
theorem dX12_buy_71 : decode cX12_buy 71 = .ok (.isub, 1) := by decide +kernel
theorem dX12_buy_72 : decode cX12_buy 72 = .ok (.iastore, 1) := by decide +kernel
theorem dX12_buy_73 : decode cX12_buy 73 = .ok (.aload_n 0, 1) := by decide +kernel
theorem dX12_buy_74 : decode cX12_buy 74 = .ok (.invokevirtual 440, 3) := by decide +kernel
theorem dX12_buy_77 : decode cX12_buy 77 = .ok (.aload_n 0, 1) := by decide +kernel
theorem dX12_buy_78 : decode cX12_buy 78 = .ok (.getfield 146, 3) := by decide +kernel
theorem dX12_buy_81 : decode cX12_buy 81 = .ok (.iconst 1, 1) := by decide +kernel
theorem dX12_buy_82 : decode cX12_buy 82 = .ok (.iaload, 1) := by decide +kernel
theorem dX12_buy_83 : decode cX12_buy 83 = .ok (.ireturn, 1) := by decide +kernel
def c_X12_buy (a1 : Int32) (h : PH) : Option (Int32 × PH) :=
  (c_X12_isExcuse a1 h).bind fun r1 =>
  if r1 = 0 then
    some ((-1), h)
  else
    gd (ixOK ((7 * (h.1 0 18)) + a1) 14) <|
    nm (h.1 16 ((7 * (h.1 0 18)) + a1).toNatClampNeg) fun v2 =>
    (c_X12_hasNow a1 h).bind fun r3 =>
    if r3 = 1 then
      some ((-2), h)
    else
      if v2 ≤ (h.1 43 1) then
        (c_X12_copies h).bind fun h4 =>
        nm (setI h4 44 3 ((h4.1 44 3) ||| ((1 : Int32) <<< (a1 &&& 31)))) fun h5 =>
        nm (setI h5 44 1 ((h5.1 44 1) - v2)) fun h6 =>
        (c_X12_keeps h6).bind fun h7 =>
        some ((h7.1 43 1), h7)
      else
        some ((-2), h)
set_option maxHeartbeats 4000000 in
set_option maxRecDepth 100000 in
theorem ct_X12_buy (l : Launch) {lay : List KK} (ho : okX12 lay) (a1 : Int32) : CtI l yX12_buy cX12_buy 3 (some .int) 2 43 lay (fun h => c_X12_buy a1 h) (fun ad => [.ref (ad 0), .int a1]) := by
  refine CtI.mk' RX12 (by decide) rfl (fun _ => Nat.le_of_ble_eq_true rfl) ?_
  intro p0 e s m args below meth c D G A H0 ad X h r0 H ls Q hM hw hl hf hR
  have hl : lv_has ls 3 [(0, .ref (ad 0)), (1, .int a1)] := hl
  unfold c_X12_buy at hf
  refine lv_aload_n hM.1 hM.2.1 dX12_buy_0 rfl (lv_at hl 0 rfl) ?_
  refine lv_iload_n hM.1 hM.2.1 dX12_buy_1 rfl (lv_at hl 1 rfl) ?_
  refine x_callVIr (rest := []) hM hw (ct_X12_isExcuse l ho a1) [.int a1] (okX12.o ho) rfl rfl rfl (gi_V ml_X12_428 im_X12_isExcuse sl_X12_isExcuse in_X12 kc_X12_isExcuse) hd_X12_isExcuse rfl ⟨Nat.le_of_ble_eq_true rfl, Nat.le_of_ble_eq_true rfl⟩ rfl (Nat.le_of_ble_eq_true rfl) hl.1 hcs0 hf dX12_buy_2 (fun r1 H locs hf hw => ?_)
  refine x_if_ne (tgt := 10) hM hf dX12_buy_5 (by decide) (fun hf => ?_) (fun hf => ?_)
  · refine lv_aload_n hM.1 hM.2.1 dX12_buy_10 rfl (lv_at hl 0 rfl) ?_
    refine gf_X12_priceOf hM hw (okX12.o ho) fl_X12_64 dX12_buy_11 ?_
    refine lv_bipush (v := 7) hM.1 hM.2.1 dX12_buy_14 (by decide) ?_
    refine lv_aload_n hM.1 hM.2.1 dX12_buy_16 rfl (lv_at hl 0 rfl) ?_
    refine gf_X12_live hM hw (okX12.o ho) fl_X12_266 dX12_buy_17 ?_
    refine lv_imul hM.1 hM.2.1 dX12_buy_20 ?_
    refine lv_iload_n hM.1 hM.2.1 dX12_buy_21 rfl (lv_at hl 1 rfl) ?_
    refine lv_iadd hM.1 hM.2.1 dX12_buy_22 ?_
    refine x_iald hM hw (okX12.priceOf ho) hf dX12_buy_23 (fun hf => ?_)
    refine x_istore_n hM hf dX12_buy_24 rfl hl (by decide) (fun v2 => [(2, .int v2), (0, .ref (ad 0)), (1, .int a1)]) (fun _ => rfl) (fun v2 ls hf hl => ?_)
    refine lv_aload_n hM.1 hM.2.1 dX12_buy_25 rfl (lv_at hl 1 rfl) ?_
    refine lv_iload_n hM.1 hM.2.1 dX12_buy_26 rfl (lv_at hl 2 rfl) ?_
    refine x_callVIr (rest := []) hM hw (ct_X12_hasNow l ho a1) [.int a1] (okX12.o ho) rfl rfl rfl (gi_V ml_X12_431 im_X12_hasNow sl_X12_hasNow in_X12 kc_X12_hasNow) hd_X12_hasNow rfl ⟨Nat.le_of_ble_eq_true rfl, Nat.le_of_ble_eq_true rfl⟩ rfl (Nat.le_of_ble_eq_true rfl) hl.1 hcs0 hf dX12_buy_27 (fun r3 H locs hf hw => ?_)
    refine lv_iconst (v := 1) hM.1 hM.2.1 dX12_buy_30 ic_1 ?_
    refine x_ic_eq (tgt := 44) hM hf dX12_buy_31 (by decide) (fun hf => ?_) (fun hf => ?_)
    · refine lv_bipush (v := (-2)) hM.1 hM.2.1 dX12_buy_44 (by decide) ?_
      exact hR _ _ _ _ _ _ _ (Option.some.inj hf) rfl rfl hw dX12_buy_46
    refine lv_iload_n hM.1 hM.2.1 dX12_buy_34 rfl (lv_at hl 0 rfl) ?_
    refine lv_aload_n hM.1 hM.2.1 dX12_buy_35 rfl (lv_at hl 1 rfl) ?_
    refine gf_X12_now hM hw (okX12.o ho) fl_X12_146 dX12_buy_36 ?_
    refine lv_iconst (v := 1) hM.1 hM.2.1 dX12_buy_39 ic_1 ?_
    refine x_ialdK hM hw (okX12.now ho) 1 (by decide) (by decide) dX12_buy_40 ?_
    refine x_ic_le (tgt := 47) hM hf dX12_buy_41 (by decide) (fun hf => ?_) (fun hf => ?_)
    · refine lv_aload_n hM.1 hM.2.1 dX12_buy_47 rfl (lv_at hl 1 rfl) ?_
      refine x_callVV (rest := []) hM hw (ct_X12_copies l ho) [] (okX12.o ho) rfl rfl rfl (gi_V ml_X12_437 im_X12_copies sl_X12_copies in_X12 kc_X12_copies) hd_X12_copies rfl ⟨Nat.le_of_ble_eq_true rfl, Nat.le_of_ble_eq_true rfl⟩ rfl (Nat.le_of_ble_eq_true rfl) hl.1 hcs0 hf dX12_buy_48 (fun h4 H locs hf hw => ?_)
      refine lv_aload_n hM.1 hM.2.1 dX12_buy_51 rfl (lv_at hl 1 rfl) ?_
      refine gf_X12_row hM hw (okX12.o ho) fl_X12_149 dX12_buy_52 ?_
      refine lv_iconst (v := 3) hM.1 hM.2.1 dX12_buy_55 ic_3 ?_
      refine lv_dup2_11 hM.1 hM.2.1 dX12_buy_56 rfl rfl ?_
      refine x_ialdK hM hw (okX12.row ho) 3 (by decide) (by decide) dX12_buy_57 ?_
      refine lv_iconst (v := 1) hM.1 hM.2.1 dX12_buy_58 ic_1 ?_
      refine lv_iload_n hM.1 hM.2.1 dX12_buy_59 rfl (lv_at hl 2 rfl) ?_
      refine lv_ishl hM.1 hM.2.1 dX12_buy_60 ?_
      refine lv_ior hM.1 hM.2.1 dX12_buy_61 ?_
      refine x_iastK hM hw (okX12.row ho) 3 (by decide) (by decide) hf dX12_buy_62 (fun h5 H locs hf hw => ?_)
      refine lv_aload_n hM.1 hM.2.1 dX12_buy_63 rfl (lv_at hl 1 rfl) ?_
      refine gf_X12_row hM hw (okX12.o ho) fl_X12_149 dX12_buy_64 ?_
      refine lv_iconst (v := 1) hM.1 hM.2.1 dX12_buy_67 ic_1 ?_
      refine lv_dup2_11 hM.1 hM.2.1 dX12_buy_68 rfl rfl ?_
      refine x_ialdK hM hw (okX12.row ho) 1 (by decide) (by decide) dX12_buy_69 ?_
      refine lv_iload_n hM.1 hM.2.1 dX12_buy_70 rfl (lv_at hl 0 rfl) ?_
      refine lv_isub hM.1 hM.2.1 dX12_buy_71 ?_
      refine x_iastK hM hw (okX12.row ho) 1 (by decide) (by decide) hf dX12_buy_72 (fun h6 H locs hf hw => ?_)
      refine lv_aload_n hM.1 hM.2.1 dX12_buy_73 rfl (lv_at hl 1 rfl) ?_
      refine x_callVV (rest := []) hM hw (ct_X12_keeps l ho) [] (okX12.o ho) rfl rfl rfl (gi_V ml_X12_440 im_X12_keeps sl_X12_keeps in_X12 kc_X12_keeps) hd_X12_keeps rfl ⟨Nat.le_of_ble_eq_true rfl, Nat.le_of_ble_eq_true rfl⟩ rfl (Nat.le_of_ble_eq_true rfl) hl.1 hcs0 hf dX12_buy_74 (fun h7 H locs hf hw => ?_)
      refine lv_aload_n hM.1 hM.2.1 dX12_buy_77 rfl (lv_at hl 1 rfl) ?_
      refine gf_X12_now hM hw (okX12.o ho) fl_X12_146 dX12_buy_78 ?_
      refine lv_iconst (v := 1) hM.1 hM.2.1 dX12_buy_81 ic_1 ?_
      refine x_ialdK hM hw (okX12.now ho) 1 (by decide) (by decide) dX12_buy_82 ?_
      exact hR _ _ _ _ _ _ _ (Option.some.inj hf) rfl rfl hw dX12_buy_83
    refine lv_bipush (v := (-2)) hM.1 hM.2.1 dX12_buy_44 (by decide) ?_
    exact hR _ _ _ _ _ _ _ (Option.some.inj hf) rfl rfl hw dX12_buy_46
  refine lv_iconst (v := (-1)) hM.1 hM.2.1 dX12_buy_8 ic_m1 ?_
  exact hR _ _ _ _ _ _ _ (Option.some.inj hf) rfl rfl hw dX12_buy_9
theorem hd_X12_buy : yX12_buy.cls = RX12 ∧ yX12_buy.cls ≠ "java/lang/invoke/MethodHandle" ∧ yX12_buy.cls ≠ "java/lang/invoke/VarHandle" ∧ (parseMethodDescriptor yX12_buy.desc).map (fun d => d.parameters.length) = some 1 := ⟨rfl, by decide, by decide, by decide +kernel⟩
theorem dX12_sell_0 : decode cX12_sell 0 = .ok (.aload_n 0, 1) := by decide +kernel
theorem dX12_sell_1 : decode cX12_sell 1 = .ok (.iload_n 1, 1) := by decide +kernel
theorem dX12_sell_2 : decode cX12_sell 2 = .ok (.invokevirtual 428, 3) := by decide +kernel
theorem dX12_sell_5 : decode cX12_sell 5 = .ok (.ifCond .ne 5, 3) := by decide +kernel
theorem dX12_sell_8 : decode cX12_sell 8 = .ok (.iconst (-1), 1) := by decide +kernel
theorem dX12_sell_9 : decode cX12_sell 9 = .ok (.ireturn, 1) := by decide +kernel
theorem dX12_sell_10 : decode cX12_sell 10 = .ok (.aload_n 0, 1) := by decide +kernel
theorem dX12_sell_11 : decode cX12_sell 11 = .ok (.iload_n 1, 1) := by decide +kernel
theorem dX12_sell_12 : decode cX12_sell 12 = .ok (.invokevirtual 431, 3) := by decide +kernel
theorem dX12_sell_15 : decode cX12_sell 15 = .ok (.ifCond .ne 6, 3) := by decide +kernel
theorem dX12_sell_18 : decode cX12_sell 18 = .ok (.bipush (-2), 2) := by decide +kernel
theorem dX12_sell_20 : decode cX12_sell 20 = .ok (.ireturn, 1) := by decide +kernel
theorem dX12_sell_21 : decode cX12_sell 21 = .ok (.aload_n 0, 1) := by decide +kernel
theorem dX12_sell_22 : decode cX12_sell 22 = .ok (.invokevirtual 437, 3) := by decide +kernel
theorem dX12_sell_25 : decode cX12_sell 25 = .ok (.aload_n 0, 1) := by decide +kernel
theorem dX12_sell_26 : decode cX12_sell 26 = .ok (.getfield 149, 3) := by decide +kernel
theorem dX12_sell_29 : decode cX12_sell 29 = .ok (.iconst 3, 1) := by decide +kernel
theorem dX12_sell_30 : decode cX12_sell 30 = .ok (.dup2, 1) := by decide +kernel
theorem dX12_sell_31 : decode cX12_sell 31 = .ok (.iaload, 1) := by decide +kernel
theorem dX12_sell_32 : decode cX12_sell 32 = .ok (.iconst 1, 1) := by decide +kernel
theorem dX12_sell_33 : decode cX12_sell 33 = .ok (.iload_n 1, 1) := by decide +kernel
theorem dX12_sell_34 : decode cX12_sell 34 = .ok (.ishl, 1) := by decide +kernel
theorem dX12_sell_35 : decode cX12_sell 35 = .ok (.iconst (-1), 1) := by decide +kernel
theorem dX12_sell_36 : decode cX12_sell 36 = .ok (.ixor, 1) := by decide +kernel
theorem dX12_sell_37 : decode cX12_sell 37 = .ok (.iand, 1) := by decide +kernel
theorem dX12_sell_38 : decode cX12_sell 38 = .ok (.iastore, 1) := by decide +kernel
theorem dX12_sell_39 : decode cX12_sell 39 = .ok (.aload_n 0, 1) := by decide +kernel
theorem dX12_sell_40 : decode cX12_sell 40 = .ok (.getfield 149, 3) := by decide +kernel
theorem dX12_sell_43 : decode cX12_sell 43 = .ok (.iconst 1, 1) := by decide +kernel
theorem dX12_sell_44 : decode cX12_sell 44 = .ok (.dup2, 1) := by decide +kernel
theorem dX12_sell_45 : decode cX12_sell 45 = .ok (.iaload, 1) := by decide +kernel
theorem dX12_sell_46 : decode cX12_sell 46 = .ok (.aload_n 0, 1) := by decide +kernel
theorem dX12_sell_47 : decode cX12_sell 47 = .ok (.getfield 64, 3) := by decide +kernel
theorem dX12_sell_50 : decode cX12_sell 50 = .ok (.bipush 7, 2) := by decide +kernel
theorem dX12_sell_52 : decode cX12_sell 52 = .ok (.aload_n 0, 1) := by decide +kernel
theorem dX12_sell_53 : decode cX12_sell 53 = .ok (.getfield 266, 3) := by decide +kernel
theorem dX12_sell_56 : decode cX12_sell 56 = .ok (.imul, 1) := by decide +kernel
theorem dX12_sell_57 : decode cX12_sell 57 = .ok (.iload_n 1, 1) := by decide +kernel
theorem dX12_sell_58 : decode cX12_sell 58 = .ok (.iadd, 1) := by decide +kernel
theorem dX12_sell_59 : decode cX12_sell 59 = .ok (.iaload, 1) := by decide +kernel
theorem dX12_sell_60 : decode cX12_sell 60 = .ok (.iconst 2, 1) := by decide +kernel
theorem dX12_sell_61 : decode cX12_sell 61 = .ok (.idiv, 1) := by decide +kernel
theorem dX12_sell_62 : decode cX12_sell 62 = .ok (.iadd, 1) := by decide +kernel
theorem dX12_sell_63 : decode cX12_sell 63 = .ok (.iastore, 1) := by decide +kernel
theorem dX12_sell_64 : decode cX12_sell 64 = .ok (.aload_n 0, 1) := by decide +kernel
theorem dX12_sell_65 : decode cX12_sell 65 = .ok (.invokevirtual 440, 3) := by decide +kernel
theorem dX12_sell_68 : decode cX12_sell 68 = .ok (.aload_n 0, 1) := by decide +kernel
theorem dX12_sell_69 : decode cX12_sell 69 = .ok (.getfield 146, 3) := by decide +kernel
theorem dX12_sell_72 : decode cX12_sell 72 = .ok (.iconst 1, 1) := by decide +kernel
theorem dX12_sell_73 : decode cX12_sell 73 = .ok (.iaload, 1) := by decide +kernel
theorem dX12_sell_74 : decode cX12_sell 74 = .ok (.ireturn, 1) := by decide +kernel
def c_X12_sell (a1 : Int32) (h : PH) : Option (Int32 × PH) :=
  (c_X12_isExcuse a1 h).bind fun r1 =>
  if r1 = 0 then
    some ((-1), h)
  else
    (c_X12_hasNow a1 h).bind fun r2 =>
    if r2 = 0 then
      some ((-2), h)
    else
      (c_X12_copies h).bind fun h3 =>
      nm (setI h3 44 3 ((h3.1 44 3) &&& (((1 : Int32) <<< (a1 &&& 31)) ^^^ (-1)))) fun h4 =>
      gd (ixOK ((7 * (h4.1 0 18)) + a1) 14) <|
      nm (setI h4 44 1 ((h4.1 44 1) + ((h4.1 16 ((7 * (h4.1 0 18)) + a1).toNatClampNeg) / 2))) fun h5 =>
      (c_X12_keeps h5).bind fun h6 =>
      some ((h6.1 43 1), h6)
set_option maxHeartbeats 4000000 in
set_option maxRecDepth 100000 in
theorem ct_X12_sell (l : Launch) {lay : List KK} (ho : okX12 lay) (a1 : Int32) : CtI l yX12_sell cX12_sell 2 (some .int) 2 43 lay (fun h => c_X12_sell a1 h) (fun ad => [.ref (ad 0), .int a1]) := by
  refine CtI.mk' RX12 (by decide) rfl (fun _ => Nat.le_of_ble_eq_true rfl) ?_
  intro p0 e s m args below meth c D G A H0 ad X h r0 H ls Q hM hw hl hf hR
  have hl : lv_has ls 2 [(0, .ref (ad 0)), (1, .int a1)] := hl
  unfold c_X12_sell at hf
  refine lv_aload_n hM.1 hM.2.1 dX12_sell_0 rfl (lv_at hl 0 rfl) ?_
  refine lv_iload_n hM.1 hM.2.1 dX12_sell_1 rfl (lv_at hl 1 rfl) ?_
  refine x_callVIr (rest := []) hM hw (ct_X12_isExcuse l ho a1) [.int a1] (okX12.o ho) rfl rfl rfl (gi_V ml_X12_428 im_X12_isExcuse sl_X12_isExcuse in_X12 kc_X12_isExcuse) hd_X12_isExcuse rfl ⟨Nat.le_of_ble_eq_true rfl, Nat.le_of_ble_eq_true rfl⟩ rfl (Nat.le_of_ble_eq_true rfl) hl.1 hcs0 hf dX12_sell_2 (fun r1 H locs hf hw => ?_)
  refine x_if_ne (tgt := 10) hM hf dX12_sell_5 (by decide) (fun hf => ?_) (fun hf => ?_)
  · refine lv_aload_n hM.1 hM.2.1 dX12_sell_10 rfl (lv_at hl 0 rfl) ?_
    refine lv_iload_n hM.1 hM.2.1 dX12_sell_11 rfl (lv_at hl 1 rfl) ?_
    refine x_callVIr (rest := []) hM hw (ct_X12_hasNow l ho a1) [.int a1] (okX12.o ho) rfl rfl rfl (gi_V ml_X12_431 im_X12_hasNow sl_X12_hasNow in_X12 kc_X12_hasNow) hd_X12_hasNow rfl ⟨Nat.le_of_ble_eq_true rfl, Nat.le_of_ble_eq_true rfl⟩ rfl (Nat.le_of_ble_eq_true rfl) hl.1 hcs0 hf dX12_sell_12 (fun r2 H locs hf hw => ?_)
    refine x_if_ne (tgt := 21) hM hf dX12_sell_15 (by decide) (fun hf => ?_) (fun hf => ?_)
    · refine lv_aload_n hM.1 hM.2.1 dX12_sell_21 rfl (lv_at hl 0 rfl) ?_
      refine x_callVV (rest := []) hM hw (ct_X12_copies l ho) [] (okX12.o ho) rfl rfl rfl (gi_V ml_X12_437 im_X12_copies sl_X12_copies in_X12 kc_X12_copies) hd_X12_copies rfl ⟨Nat.le_of_ble_eq_true rfl, Nat.le_of_ble_eq_true rfl⟩ rfl (Nat.le_of_ble_eq_true rfl) hl.1 hcs0 hf dX12_sell_22 (fun h3 H locs hf hw => ?_)
      refine lv_aload_n hM.1 hM.2.1 dX12_sell_25 rfl (lv_at hl 0 rfl) ?_
      refine gf_X12_row hM hw (okX12.o ho) fl_X12_149 dX12_sell_26 ?_
      refine lv_iconst (v := 3) hM.1 hM.2.1 dX12_sell_29 ic_3 ?_
      refine lv_dup2_11 hM.1 hM.2.1 dX12_sell_30 rfl rfl ?_
      refine x_ialdK hM hw (okX12.row ho) 3 (by decide) (by decide) dX12_sell_31 ?_
      refine lv_iconst (v := 1) hM.1 hM.2.1 dX12_sell_32 ic_1 ?_
      refine lv_iload_n hM.1 hM.2.1 dX12_sell_33 rfl (lv_at hl 1 rfl) ?_
      refine lv_ishl hM.1 hM.2.1 dX12_sell_34 ?_
      refine lv_iconst (v := (-1)) hM.1 hM.2.1 dX12_sell_35 ic_m1 ?_
      refine lv_ixor hM.1 hM.2.1 dX12_sell_36 ?_
      refine lv_iand hM.1 hM.2.1 dX12_sell_37 ?_
      refine x_iastK hM hw (okX12.row ho) 3 (by decide) (by decide) hf dX12_sell_38 (fun h4 H locs hf hw => ?_)
      refine lv_aload_n hM.1 hM.2.1 dX12_sell_39 rfl (lv_at hl 0 rfl) ?_
      refine gf_X12_row hM hw (okX12.o ho) fl_X12_149 dX12_sell_40 ?_
      refine lv_iconst (v := 1) hM.1 hM.2.1 dX12_sell_43 ic_1 ?_
      refine lv_dup2_11 hM.1 hM.2.1 dX12_sell_44 rfl rfl ?_
      refine x_ialdK hM hw (okX12.row ho) 1 (by decide) (by decide) dX12_sell_45 ?_
      refine lv_aload_n hM.1 hM.2.1 dX12_sell_46 rfl (lv_at hl 0 rfl) ?_
      refine gf_X12_priceOf hM hw (okX12.o ho) fl_X12_64 dX12_sell_47 ?_
      refine lv_bipush (v := 7) hM.1 hM.2.1 dX12_sell_50 (by decide) ?_
      refine lv_aload_n hM.1 hM.2.1 dX12_sell_52 rfl (lv_at hl 0 rfl) ?_
      refine gf_X12_live hM hw (okX12.o ho) fl_X12_266 dX12_sell_53 ?_
      refine lv_imul hM.1 hM.2.1 dX12_sell_56 ?_
      refine lv_iload_n hM.1 hM.2.1 dX12_sell_57 rfl (lv_at hl 1 rfl) ?_
      refine lv_iadd hM.1 hM.2.1 dX12_sell_58 ?_
      refine x_iald hM hw (okX12.priceOf ho) hf dX12_sell_59 (fun hf => ?_)
      refine lv_iconst (v := 2) hM.1 hM.2.1 dX12_sell_60 ic_2 ?_
      refine lv_idiv hM.1 hM.2.1 dX12_sell_61 (by decide) ?_
      refine lv_iadd hM.1 hM.2.1 dX12_sell_62 ?_
      refine x_iastK hM hw (okX12.row ho) 1 (by decide) (by decide) hf dX12_sell_63 (fun h5 H locs hf hw => ?_)
      refine lv_aload_n hM.1 hM.2.1 dX12_sell_64 rfl (lv_at hl 0 rfl) ?_
      refine x_callVV (rest := []) hM hw (ct_X12_keeps l ho) [] (okX12.o ho) rfl rfl rfl (gi_V ml_X12_440 im_X12_keeps sl_X12_keeps in_X12 kc_X12_keeps) hd_X12_keeps rfl ⟨Nat.le_of_ble_eq_true rfl, Nat.le_of_ble_eq_true rfl⟩ rfl (Nat.le_of_ble_eq_true rfl) hl.1 hcs0 hf dX12_sell_65 (fun h6 H locs hf hw => ?_)
      refine lv_aload_n hM.1 hM.2.1 dX12_sell_68 rfl (lv_at hl 0 rfl) ?_
      refine gf_X12_now hM hw (okX12.o ho) fl_X12_146 dX12_sell_69 ?_
      refine lv_iconst (v := 1) hM.1 hM.2.1 dX12_sell_72 ic_1 ?_
      refine x_ialdK hM hw (okX12.now ho) 1 (by decide) (by decide) dX12_sell_73 ?_
      exact hR _ _ _ _ _ _ _ (Option.some.inj hf) rfl rfl hw dX12_sell_74
    refine lv_bipush (v := (-2)) hM.1 hM.2.1 dX12_sell_18 (by decide) ?_
    exact hR _ _ _ _ _ _ _ (Option.some.inj hf) rfl rfl hw dX12_sell_20
  refine lv_iconst (v := (-1)) hM.1 hM.2.1 dX12_sell_8 ic_m1 ?_
  exact hR _ _ _ _ _ _ _ (Option.some.inj hf) rfl rfl hw dX12_sell_9
theorem hd_X12_sell : yX12_sell.cls = RX12 ∧ yX12_sell.cls ≠ "java/lang/invoke/MethodHandle" ∧ yX12_sell.cls ≠ "java/lang/invoke/VarHandle" ∧ (parseMethodDescriptor yX12_sell.desc).map (fun d => d.parameters.length) = some 1 := ⟨rfl, by decide, by decide, by decide +kernel⟩
theorem dX12_plan_0 : decode cX12_plan 0 = .ok (.aload_n 0, 1) := by decide +kernel
theorem dX12_plan_1 : decode cX12_plan 1 = .ok (.iload_n 1, 1) := by decide +kernel
theorem dX12_plan_2 : decode cX12_plan 2 = .ok (.invokevirtual 434, 3) := by decide +kernel
theorem dX12_plan_5 : decode cX12_plan 5 = .ok (.ifCond .eq 28, 3) := by decide +kernel
theorem dX12_plan_8 : decode cX12_plan 8 = .ok (.iload_n 2, 1) := by decide +kernel
theorem dX12_plan_9 : decode cX12_plan 9 = .ok (.iconst (-1), 1) := by decide +kernel
theorem dX12_plan_10 : decode cX12_plan 10 = .ok (.if_icmp .eq 11, 3) := by decide +kernel
theorem dX12_plan_13 : decode cX12_plan 13 = .ok (.aload_n 0, 1) := by decide +kernel
theorem dX12_plan_14 : decode cX12_plan 14 = .ok (.iload_n 2, 1) := by decide +kernel
theorem dX12_plan_15 : decode cX12_plan 15 = .ok (.invokevirtual 428, 3) := by decide +kernel
theorem dX12_plan_18 : decode cX12_plan 18 = .ok (.ifCond .eq 15, 3) := by decide +kernel
theorem dX12_plan_21 : decode cX12_plan 21 = .ok (.aload_n 0, 1) := by decide +kernel
theorem dX12_plan_22 : decode cX12_plan 22 = .ok (.getfield 146, 3) := by decide +kernel
theorem dX12_plan_25 : decode cX12_plan 25 = .ok (.bipush 13, 2) := by decide +kernel
theorem dX12_plan_27 : decode cX12_plan 27 = .ok (.iload_n 1, 1) := by decide +kernel
theorem dX12_plan_28 : decode cX12_plan 28 = .ok (.iadd, 1) := by decide +kernel
theorem dX12_plan_29 : decode cX12_plan 29 = .ok (.iaload, 1) := by decide +kernel
theorem dX12_plan_30 : decode cX12_plan 30 = .ok (.ifCond .eq 5, 3) := by decide +kernel
theorem dX12_plan_33 : decode cX12_plan 33 = .ok (.iconst 0, 1) := by decide +kernel
theorem dX12_plan_34 : decode cX12_plan 34 = .ok (.ireturn, 1) := by decide +kernel
theorem dX12_plan_35 : decode cX12_plan 35 = .ok (.iload_n 2, 1) := by decide +kernel
theorem dX12_plan_36 : decode cX12_plan 36 = .ok (.iconst (-1), 1) := by decide +kernel
theorem dX12_plan_37 : decode cX12_plan 37 = .ok (.if_icmp .ne 8, 3) := by decide +kernel
theorem dX12_plan_40 : decode cX12_plan 40 = .ok (.bipush (-2), 2) := by decide +kernel
theorem dX12_plan_42 : decode cX12_plan 42 = .ok (.goto 4, 3) := by decide +kernel
theorem dX12_plan_45 : decode cX12_plan 45 = .ok (.iload_n 2, 1) := by decide +kernel
theorem dX12_plan_46 : decode cX12_plan 46 = .ok (.istore_n 3, 1) := by decide +kernel
theorem dX12_plan_47 : decode cX12_plan 47 = .ok (.aload_n 0, 1) := by decide +kernel
theorem dX12_plan_48 : decode cX12_plan 48 = .ok (.getfield 146, 3) := by decide +kernel
theorem dX12_plan_51 : decode cX12_plan 51 = .ok (.iconst 4, 1) := by decide +kernel
theorem dX12_plan_52 : decode cX12_plan 52 = .ok (.iload_n 1, 1) := by decide +kernel
theorem dX12_plan_53 : decode cX12_plan 53 = .ok (.iadd, 1) := by decide +kernel
theorem dX12_plan_54 : decode cX12_plan 54 = .ok (.iaload, 1) := by decide +kernel
theorem dX12_plan_55 : decode cX12_plan 55 = .ok (.iload_n 3, 1) := by decide +kernel
theorem dX12_plan_56 : decode cX12_plan 56 = .ok (.if_icmp .eq 15, 3) := by decide +kernel
theorem dX12_plan_59 : decode cX12_plan 59 = .ok (.iload_n 2, 1) := by decide +kernel
theorem dX12_plan_60 : decode cX12_plan 60 = .ok (.ifCond .lt 13, 3) := by decide +kernel
theorem dX12_plan_63 : decode cX12_plan 63 = .ok (.aload_n 0, 1) := by decide +kernel
theorem dX12_plan_64 : decode cX12_plan 64 = .ok (.iload_n 2, 1) := by decide +kernel
theorem dX12_plan_65 : decode cX12_plan 65 = .ok (.invokevirtual 431, 3) := by decide +kernel
theorem dX12_plan_68 : decode cX12_plan 68 = .ok (.ifCond .ne 5, 3) := by decide +kernel
theorem dX12_plan_71 : decode cX12_plan 71 = .ok (.iconst 0, 1) := by decide +kernel
theorem dX12_plan_72 : decode cX12_plan 72 = .ok (.ireturn, 1) := by decide +kernel
theorem dX12_plan_73 : decode cX12_plan 73 = .ok (.aload_n 0, 1) := by decide +kernel
theorem dX12_plan_74 : decode cX12_plan 74 = .ok (.invokevirtual 437, 3) := by decide +kernel
theorem dX12_plan_77 : decode cX12_plan 77 = .ok (.aload_n 0, 1) := by decide +kernel
theorem dX12_plan_78 : decode cX12_plan 78 = .ok (.getfield 149, 3) := by decide +kernel
theorem dX12_plan_81 : decode cX12_plan 81 = .ok (.iconst 4, 1) := by decide +kernel
theorem dX12_plan_82 : decode cX12_plan 82 = .ok (.iload_n 1, 1) := by decide +kernel
theorem dX12_plan_83 : decode cX12_plan 83 = .ok (.iadd, 1) := by decide +kernel
theorem dX12_plan_84 : decode cX12_plan 84 = .ok (.iload_n 3, 1) := by decide +kernel
theorem dX12_plan_85 : decode cX12_plan 85 = .ok (.iastore, 1) := by decide +kernel
theorem dX12_plan_86 : decode cX12_plan 86 = .ok (.aload_n 0, 1) := by decide +kernel
theorem dX12_plan_87 : decode cX12_plan 87 = .ok (.invokevirtual 440, 3) := by decide +kernel
theorem dX12_plan_90 : decode cX12_plan 90 = .ok (.iconst 1, 1) := by decide +kernel
theorem dX12_plan_91 : decode cX12_plan 91 = .ok (.ireturn, 1) := by decide +kernel
def c_X12_plan_j46  (x1 : Int32) (x2 : Int32) (y0 : Int32) (h : PH) : Option (Int32 × PH) :=
  nm y0 fun v2 =>
  gd (ixOK (4 + x1) 40) <|
  if (h.1 43 (4 + x1).toNatClampNeg) = v2 then
    some (0, h)
  else
    if x2 < 0 then
      (c_X12_copies h).bind fun h3 =>
      gd (ixOK (4 + x1) 40) <| nm (setI h3 44 (4 + x1).toNatClampNeg v2) fun h4 =>
      (c_X12_keeps h4).bind fun h5 =>
      some (1, h5)
    else
      (c_X12_hasNow x2 h).bind fun r6 =>
      if r6 = 0 then
        some (0, h)
      else
        (c_X12_copies h).bind fun h7 =>
        gd (ixOK (4 + x1) 40) <| nm (setI h7 44 (4 + x1).toNatClampNeg v2) fun h8 =>
        (c_X12_keeps h8).bind fun h9 =>
        some (1, h9)
set_option maxHeartbeats 4000000 in
set_option maxRecDepth 100000 in
theorem w_X12_plan_j46 {p0 : Program} {l : Launch} {e : Env} {s : State} {m : MethodId} {args : Array Value} {below : List Frame} {meth : Method} {c : Code} {Q : State → Prop} {D : va_G} {G : GG} {A : Nat → Prop} {H0 : Heap} {ad : Nat → Nat} {lay : List KK} {X : va_W} {r0 : Int32 × PH} {x1 : Int32} {x2 : Int32} {y0 : Int32} {h : PH} {H : Heap} {locs : List Loc} {ls : Array Slot} (hM : CallFix p0 m c cX12_plan 4 s args lw_g RX12) (ho : okX12 lay) (hR : RtI p0 l e (rmN 2 43) s m args below meth c cX12_plan D G A H0 ad lay X (some .boolean) r0 Q 0 0) (hw : Wd D G A H0 ad lay X h s H locs) (hl : lv_has ls 4 [(0, .ref (ad 0)), (1, .int x1), (2, .int x2)]) (hf : c_X12_plan_j46 x1 x2 y0 h = some r0) : W p0 l e (rmN 2 43) s m args below meth c H locs 0 0 Q (F0 m 46 ls [.int y0]) := by
  unfold c_X12_plan_j46 at hf
  refine x_istore_n hM hf dX12_plan_46 rfl hl (by decide) (fun v2 => [(3, .int v2), (0, .ref (ad 0)), (1, .int x1), (2, .int x2)]) (fun _ => rfl) (fun v2 ls hf hl => ?_)
  refine lv_aload_n hM.1 hM.2.1 dX12_plan_47 rfl (lv_at hl 1 rfl) ?_
  refine gf_X12_now hM hw (okX12.o ho) fl_X12_146 dX12_plan_48 ?_
  refine lv_iconst (v := 4) hM.1 hM.2.1 dX12_plan_51 ic_4 ?_
  refine lv_iload_n hM.1 hM.2.1 dX12_plan_52 rfl (lv_at hl 2 rfl) ?_
  refine lv_iadd hM.1 hM.2.1 dX12_plan_53 ?_
  refine x_iald hM hw (okX12.now ho) hf dX12_plan_54 (fun hf => ?_)
  refine lv_iload_n hM.1 hM.2.1 dX12_plan_55 rfl (lv_at hl 0 rfl) ?_
  refine x_ic_eq (tgt := 71) hM hf dX12_plan_56 (by decide) (fun hf => ?_) (fun hf => ?_)
  · refine lv_iconst (v := 0) hM.1 hM.2.1 dX12_plan_71 ic_0 ?_
    exact hR _ _ _ _ _ _ _ (Option.some.inj hf) rfl (nar_z (by decide)) hw dX12_plan_72
  refine lv_iload_n hM.1 hM.2.1 dX12_plan_59 rfl (lv_at hl 3 rfl) ?_
  refine x_if_lt (tgt := 73) hM hf dX12_plan_60 (by decide) (fun hf => ?_) (fun hf => ?_)
  · refine lv_aload_n hM.1 hM.2.1 dX12_plan_73 rfl (lv_at hl 1 rfl) ?_
    refine x_callVV (rest := []) hM hw (ct_X12_copies l ho) [] (okX12.o ho) rfl rfl rfl (gi_V ml_X12_437 im_X12_copies sl_X12_copies in_X12 kc_X12_copies) hd_X12_copies rfl ⟨Nat.le_of_ble_eq_true rfl, Nat.le_of_ble_eq_true rfl⟩ rfl (Nat.le_of_ble_eq_true rfl) hl.1 hcs0 hf dX12_plan_74 (fun h3 H locs hf hw => ?_)
    refine lv_aload_n hM.1 hM.2.1 dX12_plan_77 rfl (lv_at hl 1 rfl) ?_
    refine gf_X12_row hM hw (okX12.o ho) fl_X12_149 dX12_plan_78 ?_
    refine lv_iconst (v := 4) hM.1 hM.2.1 dX12_plan_81 ic_4 ?_
    refine lv_iload_n hM.1 hM.2.1 dX12_plan_82 rfl (lv_at hl 2 rfl) ?_
    refine lv_iadd hM.1 hM.2.1 dX12_plan_83 ?_
    refine lv_iload_n hM.1 hM.2.1 dX12_plan_84 rfl (lv_at hl 0 rfl) ?_
    refine x_iast hM hw (okX12.row ho) hf dX12_plan_85 (fun h4 H locs hf hw => ?_)
    refine lv_aload_n hM.1 hM.2.1 dX12_plan_86 rfl (lv_at hl 1 rfl) ?_
    refine x_callVV (rest := []) hM hw (ct_X12_keeps l ho) [] (okX12.o ho) rfl rfl rfl (gi_V ml_X12_440 im_X12_keeps sl_X12_keeps in_X12 kc_X12_keeps) hd_X12_keeps rfl ⟨Nat.le_of_ble_eq_true rfl, Nat.le_of_ble_eq_true rfl⟩ rfl (Nat.le_of_ble_eq_true rfl) hl.1 hcs0 hf dX12_plan_87 (fun h5 H locs hf hw => ?_)
    refine lv_iconst (v := 1) hM.1 hM.2.1 dX12_plan_90 ic_1 ?_
    exact hR _ _ _ _ _ _ _ (Option.some.inj hf) rfl (nar_z (by decide)) hw dX12_plan_91
  refine lv_aload_n hM.1 hM.2.1 dX12_plan_63 rfl (lv_at hl 1 rfl) ?_
  refine lv_iload_n hM.1 hM.2.1 dX12_plan_64 rfl (lv_at hl 3 rfl) ?_
  refine x_callVIr (rest := []) hM hw (ct_X12_hasNow l ho x2) [.int x2] (okX12.o ho) rfl rfl rfl (gi_V ml_X12_431 im_X12_hasNow sl_X12_hasNow in_X12 kc_X12_hasNow) hd_X12_hasNow rfl ⟨Nat.le_of_ble_eq_true rfl, Nat.le_of_ble_eq_true rfl⟩ rfl (Nat.le_of_ble_eq_true rfl) hl.1 hcs0 hf dX12_plan_65 (fun r6 H locs hf hw => ?_)
  refine x_if_ne (tgt := 73) hM hf dX12_plan_68 (by decide) (fun hf => ?_) (fun hf => ?_)
  · refine lv_aload_n hM.1 hM.2.1 dX12_plan_73 rfl (lv_at hl 1 rfl) ?_
    refine x_callVV (rest := []) hM hw (ct_X12_copies l ho) [] (okX12.o ho) rfl rfl rfl (gi_V ml_X12_437 im_X12_copies sl_X12_copies in_X12 kc_X12_copies) hd_X12_copies rfl ⟨Nat.le_of_ble_eq_true rfl, Nat.le_of_ble_eq_true rfl⟩ rfl (Nat.le_of_ble_eq_true rfl) hl.1 hcs0 hf dX12_plan_74 (fun h7 H locs hf hw => ?_)
    refine lv_aload_n hM.1 hM.2.1 dX12_plan_77 rfl (lv_at hl 1 rfl) ?_
    refine gf_X12_row hM hw (okX12.o ho) fl_X12_149 dX12_plan_78 ?_
    refine lv_iconst (v := 4) hM.1 hM.2.1 dX12_plan_81 ic_4 ?_
    refine lv_iload_n hM.1 hM.2.1 dX12_plan_82 rfl (lv_at hl 2 rfl) ?_
    refine lv_iadd hM.1 hM.2.1 dX12_plan_83 ?_
    refine lv_iload_n hM.1 hM.2.1 dX12_plan_84 rfl (lv_at hl 0 rfl) ?_
    refine x_iast hM hw (okX12.row ho) hf dX12_plan_85 (fun h8 H locs hf hw => ?_)
    refine lv_aload_n hM.1 hM.2.1 dX12_plan_86 rfl (lv_at hl 1 rfl) ?_
    refine x_callVV (rest := []) hM hw (ct_X12_keeps l ho) [] (okX12.o ho) rfl rfl rfl (gi_V ml_X12_440 im_X12_keeps sl_X12_keeps in_X12 kc_X12_keeps) hd_X12_keeps rfl ⟨Nat.le_of_ble_eq_true rfl, Nat.le_of_ble_eq_true rfl⟩ rfl (Nat.le_of_ble_eq_true rfl) hl.1 hcs0 hf dX12_plan_87 (fun h9 H locs hf hw => ?_)
    refine lv_iconst (v := 1) hM.1 hM.2.1 dX12_plan_90 ic_1 ?_
    exact hR _ _ _ _ _ _ _ (Option.some.inj hf) rfl (nar_z (by decide)) hw dX12_plan_91
  refine lv_iconst (v := 0) hM.1 hM.2.1 dX12_plan_71 ic_0 ?_
  exact hR _ _ _ _ _ _ _ (Option.some.inj hf) rfl (nar_z (by decide)) hw dX12_plan_72
def c_X12_plan_j21  (x1 : Int32) (x2 : Int32) (h : PH) : Option (Int32 × PH) :=
  gd (ixOK (13 + x1) 40) <|
  if (h.1 43 (13 + x1).toNatClampNeg) = 0 then
    if x2 = (-1) then
      c_X12_plan_j46 x1 x2 (-2) h
    else
      c_X12_plan_j46 x1 x2 x2 h
  else
    some (0, h)
set_option maxHeartbeats 4000000 in
set_option maxRecDepth 100000 in
theorem w_X12_plan_j21 {p0 : Program} {l : Launch} {e : Env} {s : State} {m : MethodId} {args : Array Value} {below : List Frame} {meth : Method} {c : Code} {Q : State → Prop} {D : va_G} {G : GG} {A : Nat → Prop} {H0 : Heap} {ad : Nat → Nat} {lay : List KK} {X : va_W} {r0 : Int32 × PH} {x1 : Int32} {x2 : Int32} {h : PH} {H : Heap} {locs : List Loc} {ls : Array Slot} (hM : CallFix p0 m c cX12_plan 4 s args lw_g RX12) (ho : okX12 lay) (hR : RtI p0 l e (rmN 2 43) s m args below meth c cX12_plan D G A H0 ad lay X (some .boolean) r0 Q 0 0) (hw : Wd D G A H0 ad lay X h s H locs) (hl : lv_has ls 4 [(0, .ref (ad 0)), (1, .int x1), (2, .int x2)]) (hf : c_X12_plan_j21 x1 x2 h = some r0) : W p0 l e (rmN 2 43) s m args below meth c H locs 0 0 Q (F0 m 21 ls []) := by
  unfold c_X12_plan_j21 at hf
  refine lv_aload_n hM.1 hM.2.1 dX12_plan_21 rfl (lv_at hl 0 rfl) ?_
  refine gf_X12_now hM hw (okX12.o ho) fl_X12_146 dX12_plan_22 ?_
  refine lv_bipush (v := 13) hM.1 hM.2.1 dX12_plan_25 (by decide) ?_
  refine lv_iload_n hM.1 hM.2.1 dX12_plan_27 rfl (lv_at hl 1 rfl) ?_
  refine lv_iadd hM.1 hM.2.1 dX12_plan_28 ?_
  refine x_iald hM hw (okX12.now ho) hf dX12_plan_29 (fun hf => ?_)
  refine x_if_eq (tgt := 35) hM hf dX12_plan_30 (by decide) (fun hf => ?_) (fun hf => ?_)
  · refine lv_iload_n hM.1 hM.2.1 dX12_plan_35 rfl (lv_at hl 2 rfl) ?_
    refine lv_iconst (v := (-1)) hM.1 hM.2.1 dX12_plan_36 ic_m1 ?_
    refine x_ic_ne (tgt := 45) hM hf dX12_plan_37 (by decide) (fun hf => ?_) (fun hf => ?_)
    · refine lv_iload_n hM.1 hM.2.1 dX12_plan_45 rfl (lv_at hl 2 rfl) ?_
      exact w_X12_plan_j46 hM ho hR hw hl hf
    refine lv_bipush (v := (-2)) hM.1 hM.2.1 dX12_plan_40 (by decide) ?_
    refine lv_goto (tgt := 46) hM.1 hM.2.1 dX12_plan_42 (by decide) ?_
    exact w_X12_plan_j46 hM ho hR hw hl hf
  refine lv_iconst (v := 0) hM.1 hM.2.1 dX12_plan_33 ic_0 ?_
  exact hR _ _ _ _ _ _ _ (Option.some.inj hf) rfl (nar_z (by decide)) hw dX12_plan_34
def c_X12_plan (a1 : Int32) (a2 : Int32) (h : PH) : Option (Int32 × PH) :=
  (c_X12_isDuty a1 h).bind fun r1 =>
  if r1 = 0 then
    some (0, h)
  else
    if a2 = (-1) then
      c_X12_plan_j21 a1 a2 h
    else
      (c_X12_isExcuse a2 h).bind fun r10 =>
      if r10 = 0 then
        some (0, h)
      else
        c_X12_plan_j21 a1 a2 h
set_option maxHeartbeats 4000000 in
set_option maxRecDepth 100000 in
theorem ct_X12_plan (l : Launch) {lay : List KK} (ho : okX12 lay) (a1 : Int32) (a2 : Int32) : CtI l yX12_plan cX12_plan 4 (some .boolean) 2 43 lay (fun h => c_X12_plan a1 a2 h) (fun ad => [.ref (ad 0), .int a1, .int a2]) := by
  refine CtI.mk' RX12 (by decide) rfl (fun _ => Nat.le_of_ble_eq_true rfl) ?_
  intro p0 e s m args below meth c D G A H0 ad X h r0 H ls Q hM hw hl hf hR
  have hl : lv_has ls 4 [(0, .ref (ad 0)), (1, .int a1), (2, .int a2)] := hl
  unfold c_X12_plan at hf
  refine lv_aload_n hM.1 hM.2.1 dX12_plan_0 rfl (lv_at hl 0 rfl) ?_
  refine lv_iload_n hM.1 hM.2.1 dX12_plan_1 rfl (lv_at hl 1 rfl) ?_
  refine x_callVIr (rest := []) hM hw (ct_X12_isDuty l ho a1) [.int a1] (okX12.o ho) rfl rfl rfl (gi_V ml_X12_434 im_X12_isDuty sl_X12_isDuty in_X12 kc_X12_isDuty) hd_X12_isDuty rfl ⟨Nat.le_of_ble_eq_true rfl, Nat.le_of_ble_eq_true rfl⟩ rfl (Nat.le_of_ble_eq_true rfl) hl.1 hcs0 hf dX12_plan_2 (fun r1 H locs hf hw => ?_)
  refine x_if_eq (tgt := 33) hM hf dX12_plan_5 (by decide) (fun hf => ?_) (fun hf => ?_)
  · refine lv_iconst (v := 0) hM.1 hM.2.1 dX12_plan_33 ic_0 ?_
    exact hR _ _ _ _ _ _ _ (Option.some.inj hf) rfl (nar_z (by decide)) hw dX12_plan_34
  refine lv_iload_n hM.1 hM.2.1 dX12_plan_8 rfl (lv_at hl 2 rfl) ?_
  refine lv_iconst (v := (-1)) hM.1 hM.2.1 dX12_plan_9 ic_m1 ?_
  refine x_ic_eq (tgt := 21) hM hf dX12_plan_10 (by decide) (fun hf => ?_) (fun hf => ?_)
  · exact w_X12_plan_j21 hM ho hR hw hl hf
  refine lv_aload_n hM.1 hM.2.1 dX12_plan_13 rfl (lv_at hl 0 rfl) ?_
  refine lv_iload_n hM.1 hM.2.1 dX12_plan_14 rfl (lv_at hl 2 rfl) ?_
  refine x_callVIr (rest := []) hM hw (ct_X12_isExcuse l ho a2) [.int a2] (okX12.o ho) rfl rfl rfl (gi_V ml_X12_428 im_X12_isExcuse sl_X12_isExcuse in_X12 kc_X12_isExcuse) hd_X12_isExcuse rfl ⟨Nat.le_of_ble_eq_true rfl, Nat.le_of_ble_eq_true rfl⟩ rfl (Nat.le_of_ble_eq_true rfl) hl.1 hcs0 hf dX12_plan_15 (fun r10 H locs hf hw => ?_)
  refine x_if_eq (tgt := 33) hM hf dX12_plan_18 (by decide) (fun hf => ?_) (fun hf => ?_)
  · refine lv_iconst (v := 0) hM.1 hM.2.1 dX12_plan_33 ic_0 ?_
    exact hR _ _ _ _ _ _ _ (Option.some.inj hf) rfl (nar_z (by decide)) hw dX12_plan_34
  exact w_X12_plan_j21 hM ho hR hw hl hf
theorem hd_X12_plan : yX12_plan.cls = RX12 ∧ yX12_plan.cls ≠ "java/lang/invoke/MethodHandle" ∧ yX12_plan.cls ≠ "java/lang/invoke/VarHandle" ∧ (parseMethodDescriptor yX12_plan.desc).map (fun d => d.parameters.length) = some 2 := ⟨rfl, by decide, by decide, by decide +kernel⟩
theorem dX12_days_0 : decode cX12_days 0 = .ok (.iload_n 1, 1) := by decide +kernel
theorem dX12_days_1 : decode cX12_days 1 = .ok (.iconst 0, 1) := by decide +kernel
theorem dX12_days_2 : decode cX12_days 2 = .ok (.bipush 60, 2) := by decide +kernel
theorem dX12_days_4 : decode cX12_days 4 = .ok (.invokestatic 359, 3) := by decide +kernel
theorem dX12_days_7 : decode cX12_days 7 = .ok (.ifCond .ne 5, 3) := by decide +kernel
theorem dX12_days_10 : decode cX12_days 10 = .ok (.iconst (-1), 1) := by decide +kernel
theorem dX12_days_11 : decode cX12_days 11 = .ok (.ireturn, 1) := by decide +kernel
theorem dX12_days_12 : decode cX12_days 12 = .ok (.iload_n 1, 1) := by decide +kernel
theorem dX12_days_13 : decode cX12_days 13 = .ok (.ifCond .ne 10, 3) := by decide +kernel
theorem dX12_days_16 : decode cX12_days 16 = .ok (.aload_n 0, 1) := by decide +kernel
theorem dX12_days_17 : decode cX12_days 17 = .ok (.getfield 146, 3) := by decide +kernel
theorem dX12_days_20 : decode cX12_days 20 = .ok (.iconst 0, 1) := by decide +kernel
theorem dX12_days_21 : decode cX12_days 21 = .ok (.iaload, 1) := by decide +kernel
theorem dX12_days_22 : decode cX12_days 22 = .ok (.ireturn, 1) := by decide +kernel
theorem dX12_days_23 : decode cX12_days 23 = .ok (.aload_n 0, 1) := by decide +kernel
theorem dX12_days_24 : decode cX12_days 24 = .ok (.invokevirtual 437, 3) := by decide +kernel
theorem dX12_days_27 : decode cX12_days 27 = .ok (.aload_n 0, 1) := by decide +kernel
theorem dX12_days_28 : decode cX12_days 28 = .ok (.iload_n 1, 1) := by decide +kernel
theorem dX12_days_29 : decode cX12_days 29 = .ok (.invokevirtual 443, 3) := by decide +kernel
theorem dX12_days_32 : decode cX12_days 32 = .ok (.aload_n 0, 1) := by decide +kernel
theorem dX12_days_33 : decode cX12_days 33 = .ok (.invokevirtual 440, 3) := by decide +kernel
theorem dX12_days_36 : decode cX12_days 36 = .ok (.aload_n 0, 1) := by decide +kernel
theorem dX12_days_37 : decode cX12_days 37 = .ok (.getfield 146, 3) := by decide +kernel
theorem dX12_days_40 : decode cX12_days 40 = .ok (.iconst 0, 1) := by decide +kernel
theorem dX12_days_41 : decode cX12_days 41 = .ok (.iaload, 1) := by decide +kernel
theorem dX12_days_42 : decode cX12_days 42 = .ok (.ireturn, 1) := by decide +kernel
def c_X12_days (a1 : Int32) (h : PH) : Option (Int32 × PH) :=
  (c_X12_in a1 0 60).bind fun r1 =>
  if r1 = 0 then
    some ((-1), h)
  else
    if a1 = 0 then
      some ((h.1 43 0), h)
    else
      (c_X12_copies h).bind fun h2 =>
      (c_X12_goes a1 h2).bind fun h3 =>
      (c_X12_keeps h3).bind fun h4 =>
      some ((h4.1 43 0), h4)
set_option maxHeartbeats 4000000 in
set_option maxRecDepth 100000 in
theorem ct_X12_days (l : Launch) {lay : List KK} (ho : okX12 lay) (a1 : Int32) : CtI l yX12_days cX12_days 2 (some .int) 9 202 lay (fun h => c_X12_days a1 h) (fun ad => [.ref (ad 0), .int a1]) := by
  refine CtI.mk' RX12 (by decide) rfl (fun _ => Nat.le_of_ble_eq_true rfl) ?_
  intro p0 e s m args below meth c D G A H0 ad X h r0 H ls Q hM hw hl hf hR
  have hl : lv_has ls 2 [(0, .ref (ad 0)), (1, .int a1)] := hl
  unfold c_X12_days at hf
  refine lv_iload_n hM.1 hM.2.1 dX12_days_0 rfl (lv_at hl 1 rfl) ?_
  refine lv_iconst (v := 0) hM.1 hM.2.1 dX12_days_1 ic_0 ?_
  refine lv_bipush (v := 60) hM.1 hM.2.1 dX12_days_2 (by decide) ?_
  refine x_callSIr (rest := []) hM hw (ct_X12_in l a1 0 60) [.int a1, .int 0, .int 60] rfl (gi_S ml_X12_359 sm_X12_in in_X12 kc_X12_in) hd_X12_in rfl ⟨Nat.le_of_ble_eq_true rfl, Nat.le_of_ble_eq_true rfl⟩ rfl (Nat.le_of_ble_eq_true rfl) hl.1 hcs0 hf dX12_days_4 (fun r1 H locs hf hw => ?_)
  refine x_if_ne (tgt := 12) hM hf dX12_days_7 (by decide) (fun hf => ?_) (fun hf => ?_)
  · refine lv_iload_n hM.1 hM.2.1 dX12_days_12 rfl (lv_at hl 1 rfl) ?_
    refine x_if_ne (tgt := 23) hM hf dX12_days_13 (by decide) (fun hf => ?_) (fun hf => ?_)
    · refine lv_aload_n hM.1 hM.2.1 dX12_days_23 rfl (lv_at hl 0 rfl) ?_
      refine x_callVV (rest := []) hM hw (ct_X12_copies l ho) [] (okX12.o ho) rfl rfl rfl (gi_V ml_X12_437 im_X12_copies sl_X12_copies in_X12 kc_X12_copies) hd_X12_copies rfl ⟨Nat.le_of_ble_eq_true rfl, Nat.le_of_ble_eq_true rfl⟩ rfl (Nat.le_of_ble_eq_true rfl) hl.1 hcs0 hf dX12_days_24 (fun h2 H locs hf hw => ?_)
      refine lv_aload_n hM.1 hM.2.1 dX12_days_27 rfl (lv_at hl 0 rfl) ?_
      refine lv_iload_n hM.1 hM.2.1 dX12_days_28 rfl (lv_at hl 1 rfl) ?_
      refine x_callVV (rest := []) hM hw (ct_X12_goes l ho a1) [.int a1] (okX12.o ho) rfl rfl rfl (gi_V ml_X12_443 im_X12_goes sl_X12_goes in_X12 kc_X12_goes) hd_X12_goes rfl ⟨Nat.le_of_ble_eq_true rfl, Nat.le_of_ble_eq_true rfl⟩ rfl (Nat.le_of_ble_eq_true rfl) hl.1 hcs0 hf dX12_days_29 (fun h3 H locs hf hw => ?_)
      refine lv_aload_n hM.1 hM.2.1 dX12_days_32 rfl (lv_at hl 0 rfl) ?_
      refine x_callVV (rest := []) hM hw (ct_X12_keeps l ho) [] (okX12.o ho) rfl rfl rfl (gi_V ml_X12_440 im_X12_keeps sl_X12_keeps in_X12 kc_X12_keeps) hd_X12_keeps rfl ⟨Nat.le_of_ble_eq_true rfl, Nat.le_of_ble_eq_true rfl⟩ rfl (Nat.le_of_ble_eq_true rfl) hl.1 hcs0 hf dX12_days_33 (fun h4 H locs hf hw => ?_)
      refine lv_aload_n hM.1 hM.2.1 dX12_days_36 rfl (lv_at hl 0 rfl) ?_
      refine gf_X12_now hM hw (okX12.o ho) fl_X12_146 dX12_days_37 ?_
      refine lv_iconst (v := 0) hM.1 hM.2.1 dX12_days_40 ic_0 ?_
      refine x_ialdK hM hw (okX12.now ho) 0 (by decide) (by decide) dX12_days_41 ?_
      exact hR _ _ _ _ _ _ _ (Option.some.inj hf) rfl rfl hw dX12_days_42
    refine lv_aload_n hM.1 hM.2.1 dX12_days_16 rfl (lv_at hl 0 rfl) ?_
    refine gf_X12_now hM hw (okX12.o ho) fl_X12_146 dX12_days_17 ?_
    refine lv_iconst (v := 0) hM.1 hM.2.1 dX12_days_20 ic_0 ?_
    refine x_ialdK hM hw (okX12.now ho) 0 (by decide) (by decide) dX12_days_21 ?_
    exact hR _ _ _ _ _ _ _ (Option.some.inj hf) rfl rfl hw dX12_days_22
  refine lv_iconst (v := (-1)) hM.1 hM.2.1 dX12_days_10 ic_m1 ?_
  exact hR _ _ _ _ _ _ _ (Option.some.inj hf) rfl rfl hw dX12_days_11
theorem hd_X12_days : yX12_days.cls = RX12 ∧ yX12_days.cls ≠ "java/lang/invoke/MethodHandle" ∧ yX12_days.cls ≠ "java/lang/invoke/VarHandle" ∧ (parseMethodDescriptor yX12_days.desc).map (fun d => d.parameters.length) = some 1 := ⟨rfl, by decide, by decide, by decide +kernel⟩
theorem dX12_undo_0 : decode cX12_undo 0 = .ok (.aload_n 0, 1) := by decide +kernel
theorem dX12_undo_1 : decode cX12_undo 1 = .ok (.getfield 284, 3) := by decide +kernel
theorem dX12_undo_4 : decode cX12_undo 4 = .ok (.ifCond .ne 5, 3) := by decide +kernel
theorem dX12_undo_7 : decode cX12_undo 7 = .ok (.iconst 0, 1) := by decide +kernel
theorem dX12_undo_8 : decode cX12_undo 8 = .ok (.ireturn, 1) := by decide +kernel
theorem dX12_undo_9 : decode cX12_undo 9 = .ok (.aload_n 0, 1) := by decide +kernel
theorem dX12_undo_10 : decode cX12_undo 10 = .ok (.dup, 1) := by decide +kernel
theorem dX12_undo_11 : decode cX12_undo 11 = .ok (.getfield 284, 3) := by decide +kernel
theorem dX12_undo_14 : decode cX12_undo 14 = .ok (.iconst 1, 1) := by decide +kernel
theorem dX12_undo_15 : decode cX12_undo 15 = .ok (.isub, 1) := by decide +kernel
theorem dX12_undo_16 : decode cX12_undo 16 = .ok (.putfield 284, 3) := by decide +kernel
theorem dX12_undo_19 : decode cX12_undo 19 = .ok (.iconst 0, 1) := by decide +kernel
theorem dX12_undo_20 : decode cX12_undo 20 = .ok (.istore_n 1, 1) := by decide +kernel
theorem dX12_undo_21 : decode cX12_undo 21 = .ok (.iload_n 1, 1) := by decide +kernel
theorem dX12_undo_22 : decode cX12_undo 22 = .ok (.bipush 40, 2) := by decide +kernel
theorem dX12_undo_24 : decode cX12_undo 24 = .ok (.if_icmp .ge 29, 3) := by decide +kernel
theorem dX12_undo_27 : decode cX12_undo 27 = .ok (.aload_n 0, 1) := by decide +kernel
theorem dX12_undo_28 : decode cX12_undo 28 = .ok (.getfield 146, 3) := by decide +kernel
theorem dX12_undo_31 : decode cX12_undo 31 = .ok (.iload_n 1, 1) := by decide +kernel
theorem dX12_undo_32 : decode cX12_undo 32 = .ok (.aload_n 0, 1) := by decide +kernel
theorem dX12_undo_33 : decode cX12_undo 33 = .ok (.getfield 152, 3) := by decide +kernel
theorem dX12_undo_36 : decode cX12_undo 36 = .ok (.bipush 40, 2) := by decide +kernel
theorem dX12_undo_38 : decode cX12_undo 38 = .ok (.aload_n 0, 1) := by decide +kernel
theorem dX12_undo_39 : decode cX12_undo 39 = .ok (.getfield 284, 3) := by decide +kernel
theorem dX12_undo_42 : decode cX12_undo 42 = .ok (.imul, 1) := by decide +kernel
theorem dX12_undo_43 : decode cX12_undo 43 = .ok (.iload_n 1, 1) := by decide +kernel
theorem dX12_undo_44 : decode cX12_undo 44 = .ok (.iadd, 1) := by decide +kernel
theorem dX12_undo_45 : decode cX12_undo 45 = .ok (.iaload, 1) := by decide +kernel
theorem dX12_undo_46 : decode cX12_undo 46 = .ok (.iastore, 1) := by decide +kernel
theorem dX12_undo_47 : decode cX12_undo 47 = .ok (.iinc 1 1, 3) := by decide +kernel
theorem dX12_undo_50 : decode cX12_undo 50 = .ok (.goto (-29), 3) := by decide +kernel
theorem dX12_undo_53 : decode cX12_undo 53 = .ok (.iconst 1, 1) := by decide +kernel
theorem dX12_undo_54 : decode cX12_undo 54 = .ok (.ireturn, 1) := by decide +kernel
def c_X12_undo_L21b {ρ : Type}  (K1 : PH → Option ρ) (REC : Int32 → PH → Option ρ) (x1 : Int32) (h : PH) : Option ρ :=
  if 40 ≤ x1 then
    K1 h
  else
    gd (ixOK ((40 * (h.1 0 63)) + x1) 1600) <|
    gd (ixOK x1 40) <| nm (setI h 43 x1.toNatClampNeg (h.1 45 ((40 * (h.1 0 63)) + x1).toNatClampNeg)) fun h3 =>
    nm (x1 + 1) fun v4 =>
    REC v4 h3
set_option maxHeartbeats 4000000 in
set_option maxRecDepth 100000 in
theorem w_X12_undo_L21b {p0 : Program} {l : Launch} {e : Env} {s : State} {m : MethodId} {args : Array Value} {below : List Frame} {meth : Method} {c : Code} {Q : State → Prop} {D : va_G} {G : GG} {A : Nat → Prop} {H0 : Heap} {ad : Nat → Nat} {lay : List KK} {X : va_W} {ρ : Type} {r0 : ρ} {x1 : Int32} {h : PH} {H : Heap} {locs : List Loc} {ls : Array Slot} {K1 : PH → Option ρ} {REC : Int32 → PH → Option ρ} (hM : CallFix p0 m c cX12_undo 2 s args lw_g RX12) (ho : okX12 lay) (hk1 : ∀ (h : PH), ∀ (H : Heap) (locs : List Loc) (ls : Array Slot), K1 h = some r0 → Wd D G A H0 ad lay X h s H locs → lv_has ls 2 [] → W p0 l e (rmN 0 0) s m args below meth c H locs 0 0 Q (F0 m 53 ls [])) (hrec : ∀ (x1 : Int32) (h : PH), ∀ (H : Heap) (locs : List Loc) (ls : Array Slot), REC x1 h = some r0 → Wd D G A H0 ad lay X h s H locs → lv_has ls 2 [(0, .ref (ad 0)), (1, .int x1)] → W p0 l e (rmN 0 0) s m args below meth c H locs 0 0 Q (F0 m 21 ls [])) (hw : Wd D G A H0 ad lay X h s H locs) (hl : lv_has ls 2 [(0, .ref (ad 0)), (1, .int x1)]) (hf : c_X12_undo_L21b K1 REC x1 h = some r0) : W p0 l e (rmN 0 0) s m args below meth c H locs 0 0 Q (F0 m 21 ls []) := by
  unfold c_X12_undo_L21b at hf
  refine lv_iload_n hM.1 hM.2.1 dX12_undo_21 rfl (lv_at hl 1 rfl) ?_
  refine lv_bipush (v := 40) hM.1 hM.2.1 dX12_undo_22 (by decide) ?_
  refine x_ic_ge (tgt := 53) hM hf dX12_undo_24 (by decide) (fun hf => ?_) (fun hf => ?_)
  · exact hk1 _ _ _ _ hf hw (lv_sub hl [] rfl)
  refine lv_aload_n hM.1 hM.2.1 dX12_undo_27 rfl (lv_at hl 0 rfl) ?_
  refine gf_X12_now hM hw (okX12.o ho) fl_X12_146 dX12_undo_28 ?_
  refine lv_iload_n hM.1 hM.2.1 dX12_undo_31 rfl (lv_at hl 1 rfl) ?_
  refine lv_aload_n hM.1 hM.2.1 dX12_undo_32 rfl (lv_at hl 0 rfl) ?_
  refine gf_X12_history hM hw (okX12.o ho) fl_X12_152 dX12_undo_33 ?_
  refine lv_bipush (v := 40) hM.1 hM.2.1 dX12_undo_36 (by decide) ?_
  refine lv_aload_n hM.1 hM.2.1 dX12_undo_38 rfl (lv_at hl 0 rfl) ?_
  refine gf_X12_undos hM hw (okX12.o ho) fl_X12_284 dX12_undo_39 ?_
  refine lv_imul hM.1 hM.2.1 dX12_undo_42 ?_
  refine lv_iload_n hM.1 hM.2.1 dX12_undo_43 rfl (lv_at hl 1 rfl) ?_
  refine lv_iadd hM.1 hM.2.1 dX12_undo_44 ?_
  refine x_iald hM hw (okX12.history ho) hf dX12_undo_45 (fun hf => ?_)
  refine x_iast hM hw (okX12.now ho) hf dX12_undo_46 (fun h3 H locs hf hw => ?_)
  refine x_iinc (k := 1) (d := 1) hM hf dX12_undo_47 hl rfl (by decide) (by decide) (fun v4 => [(1, .int v4), (0, .ref (ad 0))]) (fun _ => rfl) (fun v4 ls hf hl => ?_)
  refine lv_goto (tgt := 21) hM.1 hM.2.1 dX12_undo_50 (by decide) ?_
  exact hrec _ _ _ _ _ hf hw (lv_sub hl [1, 0] rfl)
set_option maxHeartbeats 4000000 in
set_option maxRecDepth 100000 in
theorem w_X12_undo_L21 {p0 : Program} {l : Launch} {e : Env} {s : State} {m : MethodId} {args : Array Value} {below : List Frame} {meth : Method} {c : Code} {Q : State → Prop} {D : va_G} {G : GG} {A : Nat → Prop} {H0 : Heap} {ad : Nat → Nat} {lay : List KK} {X : va_W} {ρ : Type} {r0 : ρ} {K1 : PH → Option ρ} (hM : CallFix p0 m c cX12_undo 2 s args lw_g RX12) (ho : okX12 lay) (hk1 : ∀ (h : PH), ∀ (H : Heap) (locs : List Loc) (ls : Array Slot), K1 h = some r0 → Wd D G A H0 ad lay X h s H locs → lv_has ls 2 [] → W p0 l e (rmN 0 0) s m args below meth c H locs 0 0 Q (F0 m 53 ls [])) (n : Nat) (x1 : Int32) (h : PH) (hf : lq2 (c_X12_undo_L21b K1) n x1 h = some r0) : ∀ (H : Heap) (locs : List Loc) (ls : Array Slot), Wd D G A H0 ad lay X h s H locs → lv_has ls 2 [(0, .ref (ad 0)), (1, .int x1)] → W p0 l e (rmN 0 0) s m args below meth c H locs 0 0 Q (F0 m 21 ls []) := by
  exact lq2_i (fun (x1 : Int32) (h : PH) => ∀ (H : Heap) (locs : List Loc) (ls : Array Slot), Wd D G A H0 ad lay X h s H locs → lv_has ls 2 [(0, .ref (ad 0)), (1, .int x1)] → W p0 l e (rmN 0 0) s m args below meth c H locs 0 0 Q (F0 m 21 ls [])) (fun REC x1 h ih hf H locs ls hw hl => w_X12_undo_L21b hM ho hk1 (fun x1 h H locs ls hf hw hl => ih x1 h hf H locs ls hw hl) hw hl hf) n x1 h hf
def c_X12_undo (h : PH) : Option (Int32 × PH) :=
  if (h.1 0 63) = 0 then
    some (0, h)
  else
    nm (setI h 0 63 ((h.1 0 63) - 1)) fun h1 =>
    nm (0 : Int32) fun v2 =>
    lq2 (c_X12_undo_L21b
      (fun h5 =>
        some (1, h5))) fu v2 h1
set_option maxHeartbeats 4000000 in
set_option maxRecDepth 100000 in
theorem ct_X12_undo (l : Launch) {lay : List KK} (ho : okX12 lay) : CtI l yX12_undo cX12_undo 2 (some .boolean) 0 0 lay (fun h => c_X12_undo h) (fun ad => [.ref (ad 0)]) := by
  refine CtI.mk' RX12 (by decide) rfl (fun _ => Nat.le_of_ble_eq_true rfl) ?_
  intro p0 e s m args below meth c D G A H0 ad X h r0 H ls Q hM hw hl hf hR
  have hl : lv_has ls 2 [(0, .ref (ad 0))] := hl
  unfold c_X12_undo at hf
  refine lv_aload_n hM.1 hM.2.1 dX12_undo_0 rfl (lv_at hl 0 rfl) ?_
  refine gf_X12_undos hM hw (okX12.o ho) fl_X12_284 dX12_undo_1 ?_
  refine x_if_ne (tgt := 9) hM hf dX12_undo_4 (by decide) (fun hf => ?_) (fun hf => ?_)
  · refine lv_aload_n hM.1 hM.2.1 dX12_undo_9 rfl (lv_at hl 0 rfl) ?_
    refine lv_dup hM.1 hM.2.1 dX12_undo_10 rfl ?_
    refine gf_X12_undos hM hw (okX12.o ho) fl_X12_284 dX12_undo_11 ?_
    refine lv_iconst (v := 1) hM.1 hM.2.1 dX12_undo_14 ic_1 ?_
    refine lv_isub hM.1 hM.2.1 dX12_undo_15 ?_
    refine pf_X12_undos hM hw (okX12.o ho) fl_X12_284 hf dX12_undo_16 (fun h1 H locs hf hw => ?_)
    refine lv_iconst (v := 0) hM.1 hM.2.1 dX12_undo_19 ic_0 ?_
    refine x_istore_n hM hf dX12_undo_20 rfl hl (by decide) (fun v2 => [(1, .int v2), (0, .ref (ad 0))]) (fun _ => rfl) (fun v2 ls hf hl => ?_)
    refine w_X12_undo_L21 hM ho (fun h5 H locs ls hf hw hl => ?_) fu _ _ hf _ _ _ hw (lv_sub hl [1, 0] rfl)
    refine lv_iconst (v := 1) hM.1 hM.2.1 dX12_undo_53 ic_1 ?_
    exact hR _ _ _ _ _ _ _ (Option.some.inj hf) rfl (nar_z (by decide)) hw dX12_undo_54
  refine lv_iconst (v := 0) hM.1 hM.2.1 dX12_undo_7 ic_0 ?_
  exact hR _ _ _ _ _ _ _ (Option.some.inj hf) rfl (nar_z (by decide)) hw dX12_undo_8
theorem hd_X12_undo : yX12_undo.cls = RX12 ∧ yX12_undo.cls ≠ "java/lang/invoke/MethodHandle" ∧ yX12_undo.cls ≠ "java/lang/invoke/VarHandle" ∧ (parseMethodDescriptor yX12_undo.desc).map (fun d => d.parameters.length) = some 0 := ⟨rfl, by decide, by decide, by decide +kernel⟩
theorem dX12_pass_0 : decode cX12_pass 0 = .ok (.aload_n 0, 1) := by decide +kernel
theorem dX12_pass_1 : decode cX12_pass 1 = .ok (.iload_n 1, 1) := by decide +kernel
theorem dX12_pass_2 : decode cX12_pass 2 = .ok (.invokevirtual 428, 3) := by decide +kernel
theorem dX12_pass_5 : decode cX12_pass 5 = .ok (.ifCond .eq 11, 3) := by decide +kernel
theorem dX12_pass_8 : decode cX12_pass 8 = .ok (.aload_n 0, 1) := by decide +kernel
theorem dX12_pass_9 : decode cX12_pass 9 = .ok (.iload_n 2, 1) := by decide +kernel
theorem dX12_pass_10 : decode cX12_pass 10 = .ok (.invokevirtual 434, 3) := by decide +kernel
theorem dX12_pass_13 : decode cX12_pass 13 = .ok (.ifCond .ne 5, 3) := by decide +kernel
theorem dX12_pass_16 : decode cX12_pass 16 = .ok (.iconst (-1), 1) := by decide +kernel
theorem dX12_pass_17 : decode cX12_pass 17 = .ok (.ireturn, 1) := by decide +kernel
theorem dX12_pass_18 : decode cX12_pass 18 = .ok (.aload_n 0, 1) := by decide +kernel
theorem dX12_pass_19 : decode cX12_pass 19 = .ok (.invokevirtual 437, 3) := by decide +kernel
theorem dX12_pass_22 : decode cX12_pass 22 = .ok (.aload_n 0, 1) := by decide +kernel
theorem dX12_pass_23 : decode cX12_pass 23 = .ok (.iload_n 1, 1) := by decide +kernel
theorem dX12_pass_24 : decode cX12_pass 24 = .ok (.iload_n 2, 1) := by decide +kernel
theorem dX12_pass_25 : decode cX12_pass 25 = .ok (.invokevirtual 407, 3) := by decide +kernel
theorem dX12_pass_28 : decode cX12_pass 28 = .ok (.ireturn, 1) := by decide +kernel
def c_X12_pass (a1 : Int32) (a2 : Int32) (h : PH) : Option (Int32 × PH) :=
  (c_X12_isExcuse a1 h).bind fun r1 =>
  if r1 = 0 then
    some ((-1), h)
  else
    (c_X12_isDuty a2 h).bind fun r2 =>
    if r2 = 0 then
      some ((-1), h)
    else
      (c_X12_copies h).bind fun h3 =>
      bind2 (c_X12_passesNow a1 a2 h3) fun r4 h5 =>
      some (r4, h5)
set_option maxHeartbeats 4000000 in
set_option maxRecDepth 100000 in
theorem ct_X12_pass (l : Launch) {lay : List KK} (ho : okX12 lay) (a1 : Int32) (a2 : Int32) : CtI l yX12_pass cX12_pass 3 (some .int) 6 135 lay (fun h => c_X12_pass a1 a2 h) (fun ad => [.ref (ad 0), .int a1, .int a2]) := by
  refine CtI.mk' RX12 (by decide) rfl (fun _ => Nat.le_of_ble_eq_true rfl) ?_
  intro p0 e s m args below meth c D G A H0 ad X h r0 H ls Q hM hw hl hf hR
  have hl : lv_has ls 3 [(0, .ref (ad 0)), (1, .int a1), (2, .int a2)] := hl
  unfold c_X12_pass at hf
  refine lv_aload_n hM.1 hM.2.1 dX12_pass_0 rfl (lv_at hl 0 rfl) ?_
  refine lv_iload_n hM.1 hM.2.1 dX12_pass_1 rfl (lv_at hl 1 rfl) ?_
  refine x_callVIr (rest := []) hM hw (ct_X12_isExcuse l ho a1) [.int a1] (okX12.o ho) rfl rfl rfl (gi_V ml_X12_428 im_X12_isExcuse sl_X12_isExcuse in_X12 kc_X12_isExcuse) hd_X12_isExcuse rfl ⟨Nat.le_of_ble_eq_true rfl, Nat.le_of_ble_eq_true rfl⟩ rfl (Nat.le_of_ble_eq_true rfl) hl.1 hcs0 hf dX12_pass_2 (fun r1 H locs hf hw => ?_)
  refine x_if_eq (tgt := 16) hM hf dX12_pass_5 (by decide) (fun hf => ?_) (fun hf => ?_)
  · refine lv_iconst (v := (-1)) hM.1 hM.2.1 dX12_pass_16 ic_m1 ?_
    exact hR _ _ _ _ _ _ _ (Option.some.inj hf) rfl rfl hw dX12_pass_17
  refine lv_aload_n hM.1 hM.2.1 dX12_pass_8 rfl (lv_at hl 0 rfl) ?_
  refine lv_iload_n hM.1 hM.2.1 dX12_pass_9 rfl (lv_at hl 2 rfl) ?_
  refine x_callVIr (rest := []) hM hw (ct_X12_isDuty l ho a2) [.int a2] (okX12.o ho) rfl rfl rfl (gi_V ml_X12_434 im_X12_isDuty sl_X12_isDuty in_X12 kc_X12_isDuty) hd_X12_isDuty rfl ⟨Nat.le_of_ble_eq_true rfl, Nat.le_of_ble_eq_true rfl⟩ rfl (Nat.le_of_ble_eq_true rfl) hl.1 hcs0 hf dX12_pass_10 (fun r2 H locs hf hw => ?_)
  refine x_if_ne (tgt := 18) hM hf dX12_pass_13 (by decide) (fun hf => ?_) (fun hf => ?_)
  · refine lv_aload_n hM.1 hM.2.1 dX12_pass_18 rfl (lv_at hl 0 rfl) ?_
    refine x_callVV (rest := []) hM hw (ct_X12_copies l ho) [] (okX12.o ho) rfl rfl rfl (gi_V ml_X12_437 im_X12_copies sl_X12_copies in_X12 kc_X12_copies) hd_X12_copies rfl ⟨Nat.le_of_ble_eq_true rfl, Nat.le_of_ble_eq_true rfl⟩ rfl (Nat.le_of_ble_eq_true rfl) hl.1 hcs0 hf dX12_pass_19 (fun h3 H locs hf hw => ?_)
    refine lv_aload_n hM.1 hM.2.1 dX12_pass_22 rfl (lv_at hl 0 rfl) ?_
    refine lv_iload_n hM.1 hM.2.1 dX12_pass_23 rfl (lv_at hl 1 rfl) ?_
    refine lv_iload_n hM.1 hM.2.1 dX12_pass_24 rfl (lv_at hl 2 rfl) ?_
    refine x_callVI (rest := []) hM hw (ct_X12_passesNow l ho a1 a2) [.int a1, .int a2] (okX12.o ho) rfl rfl rfl (gi_V ml_X12_407 im_X12_passesNow sl_X12_passesNow in_X12 kc_X12_passesNow) hd_X12_passesNow rfl ⟨Nat.le_of_ble_eq_true rfl, Nat.le_of_ble_eq_true rfl⟩ rfl (Nat.le_of_ble_eq_true rfl) hl.1 hcs0 hf dX12_pass_25 (fun r4 h5 H locs hf hw => ?_)
    exact hR _ _ _ _ _ _ _ (Option.some.inj hf) rfl rfl hw dX12_pass_28
  refine lv_iconst (v := (-1)) hM.1 hM.2.1 dX12_pass_16 ic_m1 ?_
  exact hR _ _ _ _ _ _ _ (Option.some.inj hf) rfl rfl hw dX12_pass_17
theorem hd_X12_pass : yX12_pass.cls = RX12 ∧ yX12_pass.cls ≠ "java/lang/invoke/MethodHandle" ∧ yX12_pass.cls ≠ "java/lang/invoke/VarHandle" ∧ (parseMethodDescriptor yX12_pass.desc).map (fun d => d.parameters.length) = some 2 := ⟨rfl, by decide, by decide, by decide +kernel⟩
theorem dX12_isLong_0 : decode cX12_isLong 0 = .ok (.iload_n 0, 1) := by decide +kernel
theorem dX12_isLong_1 : decode cX12_isLong 1 = .ok (.iconst 0, 1) := by decide +kernel
theorem dX12_isLong_2 : decode cX12_isLong 2 = .ok (.bipush 30, 2) := by decide +kernel
theorem dX12_isLong_4 : decode cX12_isLong 4 = .ok (.invokestatic 359, 3) := by decide +kernel
theorem dX12_isLong_7 : decode cX12_isLong 7 = .ok (.ireturn, 1) := by decide +kernel
def c_X12_isLong (a0 : Int32) : Option (Int32) :=
  (c_X12_in a0 0 30).bind fun r1 =>
  gd (zOK r1) <| some r1
set_option maxHeartbeats 4000000 in
set_option maxRecDepth 100000 in
theorem ct_X12_isLong (l : Launch) {lay : List KK} (a0 : Int32) : CtI l yX12_isLong cX12_isLong 1 (some .boolean) 1 22 lay (rd (fun _ => c_X12_isLong a0)) (fun _ => [.int a0]) := by
  refine CtI.mk' RX12 (by decide) rfl (fun _ => Nat.le_of_ble_eq_true rfl) ?_
  intro p0 e s m args below meth c D G A H0 ad X h r0 H ls Q hM hw hl hf hR
  have hl : lv_has ls 1 [(0, .int a0)] := hl
  obtain ⟨v0, hv0, hr0⟩ : ∃ v0, c_X12_isLong a0 = some v0 ∧ r0 = (v0, h) := rd_some hf
  subst hr0
  have hf := hv0
  unfold c_X12_isLong at hf
  refine lv_iload_n hM.1 hM.2.1 dX12_isLong_0 rfl (lv_at hl 0 rfl) ?_
  refine lv_iconst (v := 0) hM.1 hM.2.1 dX12_isLong_1 ic_0 ?_
  refine lv_bipush (v := 30) hM.1 hM.2.1 dX12_isLong_2 (by decide) ?_
  refine x_callSIr (rest := []) hM hw (ct_X12_in l a0 0 30) [.int a0, .int 0, .int 30] rfl (gi_S ml_X12_359 sm_X12_in in_X12 kc_X12_in) hd_X12_in rfl ⟨Nat.le_of_ble_eq_true rfl, Nat.le_of_ble_eq_true rfl⟩ rfl (Nat.le_of_ble_eq_true rfl) hl.1 hcs0 hf dX12_isLong_4 (fun r1 H locs hf hw => ?_)
  obtain ⟨hz, hf⟩ := x_cond hf
  exact hR _ _ _ _ _ _ _ (congrArg (fun z => (z, _)) (Option.some.inj hf)) rfl (nar_z hz) hw dX12_isLong_7
theorem hd_X12_isLong : yX12_isLong.cls ≠ "java/lang/invoke/MethodHandle" ∧ yX12_isLong.cls ≠ "java/lang/invoke/VarHandle" ∧ (parseMethodDescriptor yX12_isLong.desc).map (fun d => d.parameters.length) = some 1 := ⟨by decide, by decide, by decide +kernel⟩
theorem dX12_moreBy_0 : decode cX12_moreBy 0 = .ok (.iconst 0, 1) := by decide +kernel
theorem dX12_moreBy_1 : decode cX12_moreBy 1 = .ok (.istore_n 2, 1) := by decide +kernel
theorem dX12_moreBy_2 : decode cX12_moreBy 2 = .ok (.iconst 0, 1) := by decide +kernel
theorem dX12_moreBy_3 : decode cX12_moreBy 3 = .ok (.istore_n 3, 1) := by decide +kernel
theorem dX12_moreBy_4 : decode cX12_moreBy 4 = .ok (.iload_n 3, 1) := by decide +kernel
theorem dX12_moreBy_5 : decode cX12_moreBy 5 = .ok (.aload_n 0, 1) := by decide +kernel
theorem dX12_moreBy_6 : decode cX12_moreBy 6 = .ok (.getfield 80, 3) := by decide +kernel
theorem dX12_moreBy_9 : decode cX12_moreBy 9 = .ok (.aload_n 0, 1) := by decide +kernel
theorem dX12_moreBy_10 : decode cX12_moreBy 10 = .ok (.getfield 266, 3) := by decide +kernel
theorem dX12_moreBy_13 : decode cX12_moreBy 13 = .ok (.iaload, 1) := by decide +kernel
theorem dX12_moreBy_14 : decode cX12_moreBy 14 = .ok (.if_icmp .ge 38, 3) := by decide +kernel
theorem dX12_moreBy_17 : decode cX12_moreBy 17 = .ok (.aload_n 0, 1) := by decide +kernel
theorem dX12_moreBy_18 : decode cX12_moreBy 18 = .ok (.getfield 149, 3) := by decide +kernel
theorem dX12_moreBy_21 : decode cX12_moreBy 21 = .ok (.bipush 13, 2) := by decide +kernel
theorem dX12_moreBy_23 : decode cX12_moreBy 23 = .ok (.iload_n 3, 1) := by decide +kernel
theorem dX12_moreBy_24 : decode cX12_moreBy 24 = .ok (.iadd, 1) := by decide +kernel
theorem dX12_moreBy_25 : decode cX12_moreBy 25 = .ok (.iaload, 1) := by decide +kernel
theorem dX12_moreBy_26 : decode cX12_moreBy 26 = .ok (.iload_n 1, 1) := by decide +kernel
theorem dX12_moreBy_27 : decode cX12_moreBy 27 = .ok (.if_icmp .ne 19, 3) := by decide +kernel
theorem dX12_moreBy_30 : decode cX12_moreBy 30 = .ok (.aload_n 0, 1) := by decide +kernel
theorem dX12_moreBy_31 : decode cX12_moreBy 31 = .ok (.getfield 146, 3) := by decide +kernel
theorem dX12_moreBy_34 : decode cX12_moreBy 34 = .ok (.bipush 13, 2) := by decide +kernel
theorem dX12_moreBy_36 : decode cX12_moreBy 36 = .ok (.iload_n 3, 1) := by decide +kernel
theorem dX12_moreBy_37 : decode cX12_moreBy 37 = .ok (.iadd, 1) := by decide +kernel
theorem dX12_moreBy_38 : decode cX12_moreBy 38 = .ok (.iaload, 1) := by decide +kernel
theorem dX12_moreBy_39 : decode cX12_moreBy 39 = .ok (.iload_n 1, 1) := by decide +kernel
theorem dX12_moreBy_40 : decode cX12_moreBy 40 = .ok (.if_icmp .eq 6, 3) := by decide +kernel
theorem dX12_moreBy_43 : decode cX12_moreBy 43 = .ok (.iinc 2 1, 3) := by decide +kernel
theorem dX12_moreBy_46 : decode cX12_moreBy 46 = .ok (.iinc 3 1, 3) := by decide +kernel
theorem dX12_moreBy_49 : decode cX12_moreBy 49 = .ok (.goto (-45), 3) := by decide +kernel
theorem dX12_moreBy_52 : decode cX12_moreBy 52 = .ok (.iload_n 2, 1) := by decide +kernel
theorem dX12_moreBy_53 : decode cX12_moreBy 53 = .ok (.ireturn, 1) := by decide +kernel
def c_X12_moreBy_L4b {ρ : Type}  (z1 : Int32) (h : PH) (K1 : Int32 → Option ρ) (REC : Int32 → Int32 → Option ρ) (x2 : Int32) (x3 : Int32) : Option ρ :=
  gd (ixOK (h.1 0 18) 2) <|
  if (h.1 21 (h.1 0 18).toNatClampNeg) ≤ x3 then
    K1 x2
  else
    gd (ixOK (13 + x3) 40) <|
    if (h.1 44 (13 + x3).toNatClampNeg) = z1 then
      gd (ixOK (13 + x3) 40) <|
      if (h.1 43 (13 + x3).toNatClampNeg) = z1 then
        nm (x3 + 1) fun v4 =>
        REC x2 v4
      else
        nm (x2 + 1) fun v5 =>
        nm (x3 + 1) fun v6 =>
        REC v5 v6
    else
      nm (x3 + 1) fun v3 =>
      REC x2 v3
set_option maxHeartbeats 4000000 in
set_option maxRecDepth 100000 in
theorem w_X12_moreBy_L4b {p0 : Program} {l : Launch} {e : Env} {s : State} {m : MethodId} {args : Array Value} {below : List Frame} {meth : Method} {c : Code} {Q : State → Prop} {D : va_G} {G : GG} {A : Nat → Prop} {H0 : Heap} {ad : Nat → Nat} {lay : List KK} {X : va_W} {ρ : Type} {r0 : ρ} {z1 : Int32} {x2 : Int32} {x3 : Int32} {h : PH} {H : Heap} {locs : List Loc} {ls : Array Slot} {K1 : Int32 → Option ρ} {REC : Int32 → Int32 → Option ρ} (hM : CallFix p0 m c cX12_moreBy 4 s args lw_g RX12) (ho : okX12 lay) (hk1 : ∀ (x2 : Int32), ∀ (H : Heap) (locs : List Loc) (ls : Array Slot), K1 x2 = some r0 → Wd D G A H0 ad lay X h s H locs → lv_has ls 4 [(2, .int x2)] → W p0 l e (rmN 0 0) s m args below meth c H locs 0 0 Q (F0 m 52 ls [])) (hrec : ∀ (x2 : Int32) (x3 : Int32), ∀ (H : Heap) (locs : List Loc) (ls : Array Slot), REC x2 x3 = some r0 → Wd D G A H0 ad lay X h s H locs → lv_has ls 4 [(0, .ref (ad 0)), (1, .int z1), (2, .int x2), (3, .int x3)] → W p0 l e (rmN 0 0) s m args below meth c H locs 0 0 Q (F0 m 4 ls [])) (hw : Wd D G A H0 ad lay X h s H locs) (hl : lv_has ls 4 [(0, .ref (ad 0)), (1, .int z1), (2, .int x2), (3, .int x3)]) (hf : c_X12_moreBy_L4b z1 h K1 REC x2 x3 = some r0) : W p0 l e (rmN 0 0) s m args below meth c H locs 0 0 Q (F0 m 4 ls []) := by
  unfold c_X12_moreBy_L4b at hf
  refine lv_iload_n hM.1 hM.2.1 dX12_moreBy_4 rfl (lv_at hl 3 rfl) ?_
  refine lv_aload_n hM.1 hM.2.1 dX12_moreBy_5 rfl (lv_at hl 0 rfl) ?_
  refine gf_X12_duties hM hw (okX12.o ho) fl_X12_80 dX12_moreBy_6 ?_
  refine lv_aload_n hM.1 hM.2.1 dX12_moreBy_9 rfl (lv_at hl 0 rfl) ?_
  refine gf_X12_live hM hw (okX12.o ho) fl_X12_266 dX12_moreBy_10 ?_
  refine x_iald hM hw (okX12.duties ho) hf dX12_moreBy_13 (fun hf => ?_)
  refine x_ic_ge (tgt := 52) hM hf dX12_moreBy_14 (by decide) (fun hf => ?_) (fun hf => ?_)
  · exact hk1 _ _ _ _ hf hw (lv_sub hl [2] rfl)
  refine lv_aload_n hM.1 hM.2.1 dX12_moreBy_17 rfl (lv_at hl 0 rfl) ?_
  refine gf_X12_row hM hw (okX12.o ho) fl_X12_149 dX12_moreBy_18 ?_
  refine lv_bipush (v := 13) hM.1 hM.2.1 dX12_moreBy_21 (by decide) ?_
  refine lv_iload_n hM.1 hM.2.1 dX12_moreBy_23 rfl (lv_at hl 3 rfl) ?_
  refine lv_iadd hM.1 hM.2.1 dX12_moreBy_24 ?_
  refine x_iald hM hw (okX12.row ho) hf dX12_moreBy_25 (fun hf => ?_)
  refine lv_iload_n hM.1 hM.2.1 dX12_moreBy_26 rfl (lv_at hl 1 rfl) ?_
  refine x_ic_ne (tgt := 46) hM hf dX12_moreBy_27 (by decide) (fun hf => ?_) (fun hf => ?_)
  · refine x_iinc (k := 3) (d := 1) hM hf dX12_moreBy_46 hl rfl (by decide) (by decide) (fun v3 => [(3, .int v3), (0, .ref (ad 0)), (1, .int z1), (2, .int x2)]) (fun _ => rfl) (fun v3 ls hf hl => ?_)
    refine lv_goto (tgt := 4) hM.1 hM.2.1 dX12_moreBy_49 (by decide) ?_
    exact hrec _ _ _ _ _ hf hw (lv_sub hl [1, 2, 3, 0] rfl)
  refine lv_aload_n hM.1 hM.2.1 dX12_moreBy_30 rfl (lv_at hl 0 rfl) ?_
  refine gf_X12_now hM hw (okX12.o ho) fl_X12_146 dX12_moreBy_31 ?_
  refine lv_bipush (v := 13) hM.1 hM.2.1 dX12_moreBy_34 (by decide) ?_
  refine lv_iload_n hM.1 hM.2.1 dX12_moreBy_36 rfl (lv_at hl 3 rfl) ?_
  refine lv_iadd hM.1 hM.2.1 dX12_moreBy_37 ?_
  refine x_iald hM hw (okX12.now ho) hf dX12_moreBy_38 (fun hf => ?_)
  refine lv_iload_n hM.1 hM.2.1 dX12_moreBy_39 rfl (lv_at hl 1 rfl) ?_
  refine x_ic_eq (tgt := 46) hM hf dX12_moreBy_40 (by decide) (fun hf => ?_) (fun hf => ?_)
  · refine x_iinc (k := 3) (d := 1) hM hf dX12_moreBy_46 hl rfl (by decide) (by decide) (fun v4 => [(3, .int v4), (0, .ref (ad 0)), (1, .int z1), (2, .int x2)]) (fun _ => rfl) (fun v4 ls hf hl => ?_)
    refine lv_goto (tgt := 4) hM.1 hM.2.1 dX12_moreBy_49 (by decide) ?_
    exact hrec _ _ _ _ _ hf hw (lv_sub hl [1, 2, 3, 0] rfl)
  refine x_iinc (k := 2) (d := 1) hM hf dX12_moreBy_43 hl rfl (by decide) (by decide) (fun v5 => [(2, .int v5), (0, .ref (ad 0)), (1, .int z1), (3, .int x3)]) (fun _ => rfl) (fun v5 ls hf hl => ?_)
  refine x_iinc (k := 3) (d := 1) hM hf dX12_moreBy_46 hl rfl (by decide) (by decide) (fun v6 => [(3, .int v6), (2, .int v5), (0, .ref (ad 0)), (1, .int z1)]) (fun _ => rfl) (fun v6 ls hf hl => ?_)
  refine lv_goto (tgt := 4) hM.1 hM.2.1 dX12_moreBy_49 (by decide) ?_
  exact hrec _ _ _ _ _ hf hw (lv_sub hl [2, 3, 1, 0] rfl)
set_option maxHeartbeats 4000000 in
set_option maxRecDepth 100000 in
theorem w_X12_moreBy_L4 {p0 : Program} {l : Launch} {e : Env} {s : State} {m : MethodId} {args : Array Value} {below : List Frame} {meth : Method} {c : Code} {Q : State → Prop} {D : va_G} {G : GG} {A : Nat → Prop} {H0 : Heap} {ad : Nat → Nat} {lay : List KK} {X : va_W} {ρ : Type} {r0 : ρ} {z1 : Int32} {h : PH} {K1 : Int32 → Option ρ} (hM : CallFix p0 m c cX12_moreBy 4 s args lw_g RX12) (ho : okX12 lay) (hk1 : ∀ (x2 : Int32), ∀ (H : Heap) (locs : List Loc) (ls : Array Slot), K1 x2 = some r0 → Wd D G A H0 ad lay X h s H locs → lv_has ls 4 [(2, .int x2)] → W p0 l e (rmN 0 0) s m args below meth c H locs 0 0 Q (F0 m 52 ls [])) (n : Nat) (x2 : Int32) (x3 : Int32) (hf : lq2 (c_X12_moreBy_L4b z1 h K1) n x2 x3 = some r0) : ∀ (H : Heap) (locs : List Loc) (ls : Array Slot), Wd D G A H0 ad lay X h s H locs → lv_has ls 4 [(0, .ref (ad 0)), (1, .int z1), (2, .int x2), (3, .int x3)] → W p0 l e (rmN 0 0) s m args below meth c H locs 0 0 Q (F0 m 4 ls []) := by
  exact lq2_i (fun (x2 : Int32) (x3 : Int32) => ∀ (H : Heap) (locs : List Loc) (ls : Array Slot), Wd D G A H0 ad lay X h s H locs → lv_has ls 4 [(0, .ref (ad 0)), (1, .int z1), (2, .int x2), (3, .int x3)] → W p0 l e (rmN 0 0) s m args below meth c H locs 0 0 Q (F0 m 4 ls [])) (fun REC x2 x3 ih hf H locs ls hw hl => w_X12_moreBy_L4b hM ho hk1 (fun x2 x3 H locs ls hf hw hl => ih x2 x3 hf H locs ls hw hl) hw hl hf) n x2 x3 hf
def c_X12_moreBy (a1 : Int32) (h : PH) : Option (Int32) :=
  nm (0 : Int32) fun v1 =>
  nm (0 : Int32) fun v2 =>
  lq2 (c_X12_moreBy_L4b a1 h
    (fun w7 =>
      some w7)) fu v1 v2
set_option maxHeartbeats 4000000 in
set_option maxRecDepth 100000 in
theorem ct_X12_moreBy (l : Launch) {lay : List KK} (ho : okX12 lay) (a1 : Int32) : CtI l yX12_moreBy cX12_moreBy 4 (some .int) 0 0 lay (rd (fun h => c_X12_moreBy a1 h)) (fun ad => [.ref (ad 0), .int a1]) := by
  refine CtI.mk' RX12 (by decide) rfl (fun _ => Nat.le_of_ble_eq_true rfl) ?_
  intro p0 e s m args below meth c D G A H0 ad X h r0 H ls Q hM hw hl hf hR
  have hl : lv_has ls 4 [(0, .ref (ad 0)), (1, .int a1)] := hl
  obtain ⟨v0, hv0, hr0⟩ : ∃ v0, c_X12_moreBy a1 h = some v0 ∧ r0 = (v0, h) := rd_some hf
  subst hr0
  have hf := hv0
  unfold c_X12_moreBy at hf
  refine lv_iconst (v := 0) hM.1 hM.2.1 dX12_moreBy_0 ic_0 ?_
  refine x_istore_n hM hf dX12_moreBy_1 rfl hl (by decide) (fun v1 => [(2, .int v1), (0, .ref (ad 0)), (1, .int a1)]) (fun _ => rfl) (fun v1 ls hf hl => ?_)
  refine lv_iconst (v := 0) hM.1 hM.2.1 dX12_moreBy_2 ic_0 ?_
  refine x_istore_n hM hf dX12_moreBy_3 rfl hl (by decide) (fun v2 => [(3, .int v2), (2, .int v1), (0, .ref (ad 0)), (1, .int a1)]) (fun _ => rfl) (fun v2 ls hf hl => ?_)
  refine w_X12_moreBy_L4 hM ho (fun w7 H locs ls hf hw hl => ?_) fu _ _ hf _ _ _ hw (lv_sub hl [2, 3, 1, 0] rfl)
  refine lv_iload_n hM.1 hM.2.1 dX12_moreBy_52 rfl (lv_at hl 0 rfl) ?_
  exact hR _ _ _ _ _ _ _ (congrArg (fun z => (z, _)) (Option.some.inj hf)) rfl rfl hw dX12_moreBy_53
theorem hd_X12_moreBy : yX12_moreBy.cls = RX12 ∧ yX12_moreBy.cls ≠ "java/lang/invoke/MethodHandle" ∧ yX12_moreBy.cls ≠ "java/lang/invoke/VarHandle" ∧ (parseMethodDescriptor yX12_moreBy.desc).map (fun d => d.parameters.length) = some 1 := ⟨rfl, by decide, by decide, by decide +kernel⟩
theorem dX12_planned_0 : decode cX12_planned 0 = .ok (.iload_n 1, 1) := by decide +kernel
theorem dX12_planned_1 : decode cX12_planned 1 = .ok (.invokestatic 446, 3) := by decide +kernel
theorem dX12_planned_4 : decode cX12_planned 4 = .ok (.ifCond .eq 12, 3) := by decide +kernel
theorem dX12_planned_7 : decode cX12_planned 7 = .ok (.iload_n 2, 1) := by decide +kernel
theorem dX12_planned_8 : decode cX12_planned 8 = .ok (.iconst 0, 1) := by decide +kernel
theorem dX12_planned_9 : decode cX12_planned 9 = .ok (.iconst 3, 1) := by decide +kernel
theorem dX12_planned_10 : decode cX12_planned 10 = .ok (.invokestatic 359, 3) := by decide +kernel
theorem dX12_planned_13 : decode cX12_planned 13 = .ok (.ifCond .ne 5, 3) := by decide +kernel
theorem dX12_planned_16 : decode cX12_planned 16 = .ok (.iconst (-1), 1) := by decide +kernel
theorem dX12_planned_17 : decode cX12_planned 17 = .ok (.ireturn, 1) := by decide +kernel
theorem dX12_planned_18 : decode cX12_planned 18 = .ok (.aload_n 0, 1) := by decide +kernel
theorem dX12_planned_19 : decode cX12_planned 19 = .ok (.invokevirtual 437, 3) := by decide +kernel
theorem dX12_planned_22 : decode cX12_planned 22 = .ok (.aload_n 0, 1) := by decide +kernel
theorem dX12_planned_23 : decode cX12_planned 23 = .ok (.iload_n 1, 1) := by decide +kernel
theorem dX12_planned_24 : decode cX12_planned 24 = .ok (.invokevirtual 443, 3) := by decide +kernel
theorem dX12_planned_27 : decode cX12_planned 27 = .ok (.iload_n 2, 1) := by decide +kernel
theorem dX12_planned_28 : decode cX12_planned 28 = .ok (.iconst 3, 1) := by decide +kernel
theorem dX12_planned_29 : decode cX12_planned 29 = .ok (.if_icmp .ne 19, 3) := by decide +kernel
theorem dX12_planned_32 : decode cX12_planned 32 = .ok (.aload_n 0, 1) := by decide +kernel
theorem dX12_planned_33 : decode cX12_planned 33 = .ok (.getfield 149, 3) := by decide +kernel
theorem dX12_planned_36 : decode cX12_planned 36 = .ok (.iconst 2, 1) := by decide +kernel
theorem dX12_planned_37 : decode cX12_planned 37 = .ok (.iaload, 1) := by decide +kernel
theorem dX12_planned_38 : decode cX12_planned 38 = .ok (.aload_n 0, 1) := by decide +kernel
theorem dX12_planned_39 : decode cX12_planned 39 = .ok (.getfield 146, 3) := by decide +kernel
theorem dX12_planned_42 : decode cX12_planned 42 = .ok (.iconst 2, 1) := by decide +kernel
theorem dX12_planned_43 : decode cX12_planned 43 = .ok (.iaload, 1) := by decide +kernel
theorem dX12_planned_44 : decode cX12_planned 44 = .ok (.isub, 1) := by decide +kernel
theorem dX12_planned_45 : decode cX12_planned 45 = .ok (.goto 10, 3) := by decide +kernel
theorem dX12_planned_48 : decode cX12_planned 48 = .ok (.aload_n 0, 1) := by decide +kernel
theorem dX12_planned_49 : decode cX12_planned 49 = .ok (.iconst 1, 1) := by decide +kernel
theorem dX12_planned_50 : decode cX12_planned 50 = .ok (.iload_n 2, 1) := by decide +kernel
theorem dX12_planned_51 : decode cX12_planned 51 = .ok (.iadd, 1) := by decide +kernel
theorem dX12_planned_52 : decode cX12_planned 52 = .ok (.invokevirtual 449, 3) := by decide +kernel
theorem dX12_planned_55 : decode cX12_planned 55 = .ok (.ireturn, 1) := by decide +kernel
def c_X12_planned (a1 : Int32) (a2 : Int32) (h : PH) : Option (Int32 × PH) :=
  (c_X12_isLong a1).bind fun r1 =>
  if r1 = 0 then
    some ((-1), h)
  else
    (c_X12_in a2 0 3).bind fun r2 =>
    if r2 = 0 then
      some ((-1), h)
    else
      (c_X12_copies h).bind fun h3 =>
      (c_X12_goes a1 h3).bind fun h4 =>
      if a2 = 3 then
        some (((h4.1 44 2) - (h4.1 43 2)), h4)
      else
        (c_X12_moreBy (1 + a2) h4).bind fun r5 =>
        some (r5, h4)
set_option maxHeartbeats 4000000 in
set_option maxRecDepth 100000 in
theorem ct_X12_planned (l : Launch) {lay : List KK} (ho : okX12 lay) (a1 : Int32) (a2 : Int32) : CtI l yX12_planned cX12_planned 3 (some .int) 9 202 lay (fun h => c_X12_planned a1 a2 h) (fun ad => [.ref (ad 0), .int a1, .int a2]) := by
  refine CtI.mk' RX12 (by decide) rfl (fun _ => Nat.le_of_ble_eq_true rfl) ?_
  intro p0 e s m args below meth c D G A H0 ad X h r0 H ls Q hM hw hl hf hR
  have hl : lv_has ls 3 [(0, .ref (ad 0)), (1, .int a1), (2, .int a2)] := hl
  unfold c_X12_planned at hf
  refine lv_iload_n hM.1 hM.2.1 dX12_planned_0 rfl (lv_at hl 1 rfl) ?_
  refine x_callSIr (rest := []) hM hw (ct_X12_isLong l a1) [.int a1] rfl (gi_S ml_X12_446 sm_X12_isLong in_X12 kc_X12_isLong) hd_X12_isLong rfl ⟨Nat.le_of_ble_eq_true rfl, Nat.le_of_ble_eq_true rfl⟩ rfl (Nat.le_of_ble_eq_true rfl) hl.1 hcs0 hf dX12_planned_1 (fun r1 H locs hf hw => ?_)
  refine x_if_eq (tgt := 16) hM hf dX12_planned_4 (by decide) (fun hf => ?_) (fun hf => ?_)
  · refine lv_iconst (v := (-1)) hM.1 hM.2.1 dX12_planned_16 ic_m1 ?_
    exact hR _ _ _ _ _ _ _ (Option.some.inj hf) rfl rfl hw dX12_planned_17
  refine lv_iload_n hM.1 hM.2.1 dX12_planned_7 rfl (lv_at hl 2 rfl) ?_
  refine lv_iconst (v := 0) hM.1 hM.2.1 dX12_planned_8 ic_0 ?_
  refine lv_iconst (v := 3) hM.1 hM.2.1 dX12_planned_9 ic_3 ?_
  refine x_callSIr (rest := []) hM hw (ct_X12_in l a2 0 3) [.int a2, .int 0, .int 3] rfl (gi_S ml_X12_359 sm_X12_in in_X12 kc_X12_in) hd_X12_in rfl ⟨Nat.le_of_ble_eq_true rfl, Nat.le_of_ble_eq_true rfl⟩ rfl (Nat.le_of_ble_eq_true rfl) hl.1 hcs0 hf dX12_planned_10 (fun r2 H locs hf hw => ?_)
  refine x_if_ne (tgt := 18) hM hf dX12_planned_13 (by decide) (fun hf => ?_) (fun hf => ?_)
  · refine lv_aload_n hM.1 hM.2.1 dX12_planned_18 rfl (lv_at hl 0 rfl) ?_
    refine x_callVV (rest := []) hM hw (ct_X12_copies l ho) [] (okX12.o ho) rfl rfl rfl (gi_V ml_X12_437 im_X12_copies sl_X12_copies in_X12 kc_X12_copies) hd_X12_copies rfl ⟨Nat.le_of_ble_eq_true rfl, Nat.le_of_ble_eq_true rfl⟩ rfl (Nat.le_of_ble_eq_true rfl) hl.1 hcs0 hf dX12_planned_19 (fun h3 H locs hf hw => ?_)
    refine lv_aload_n hM.1 hM.2.1 dX12_planned_22 rfl (lv_at hl 0 rfl) ?_
    refine lv_iload_n hM.1 hM.2.1 dX12_planned_23 rfl (lv_at hl 1 rfl) ?_
    refine x_callVV (rest := []) hM hw (ct_X12_goes l ho a1) [.int a1] (okX12.o ho) rfl rfl rfl (gi_V ml_X12_443 im_X12_goes sl_X12_goes in_X12 kc_X12_goes) hd_X12_goes rfl ⟨Nat.le_of_ble_eq_true rfl, Nat.le_of_ble_eq_true rfl⟩ rfl (Nat.le_of_ble_eq_true rfl) hl.1 hcs0 hf dX12_planned_24 (fun h4 H locs hf hw => ?_)
    refine lv_iload_n hM.1 hM.2.1 dX12_planned_27 rfl (lv_at hl 2 rfl) ?_
    refine lv_iconst (v := 3) hM.1 hM.2.1 dX12_planned_28 ic_3 ?_
    refine x_ic_ne (tgt := 48) hM hf dX12_planned_29 (by decide) (fun hf => ?_) (fun hf => ?_)
    · refine lv_aload_n hM.1 hM.2.1 dX12_planned_48 rfl (lv_at hl 0 rfl) ?_
      refine lv_iconst (v := 1) hM.1 hM.2.1 dX12_planned_49 ic_1 ?_
      refine lv_iload_n hM.1 hM.2.1 dX12_planned_50 rfl (lv_at hl 2 rfl) ?_
      refine lv_iadd hM.1 hM.2.1 dX12_planned_51 ?_
      refine x_callVIr (rest := []) hM hw (ct_X12_moreBy l ho (1 + a2)) [.int (1 + a2)] (okX12.o ho) rfl rfl rfl (gi_V ml_X12_449 im_X12_moreBy sl_X12_moreBy in_X12 kc_X12_moreBy) hd_X12_moreBy rfl ⟨Nat.le_of_ble_eq_true rfl, Nat.le_of_ble_eq_true rfl⟩ rfl (Nat.le_of_ble_eq_true rfl) hl.1 hcs0 hf dX12_planned_52 (fun r5 H locs hf hw => ?_)
      exact hR _ _ _ _ _ _ _ (Option.some.inj hf) rfl rfl hw dX12_planned_55
    refine lv_aload_n hM.1 hM.2.1 dX12_planned_32 rfl (lv_at hl 0 rfl) ?_
    refine gf_X12_row hM hw (okX12.o ho) fl_X12_149 dX12_planned_33 ?_
    refine lv_iconst (v := 2) hM.1 hM.2.1 dX12_planned_36 ic_2 ?_
    refine x_ialdK hM hw (okX12.row ho) 2 (by decide) (by decide) dX12_planned_37 ?_
    refine lv_aload_n hM.1 hM.2.1 dX12_planned_38 rfl (lv_at hl 0 rfl) ?_
    refine gf_X12_now hM hw (okX12.o ho) fl_X12_146 dX12_planned_39 ?_
    refine lv_iconst (v := 2) hM.1 hM.2.1 dX12_planned_42 ic_2 ?_
    refine x_ialdK hM hw (okX12.now ho) 2 (by decide) (by decide) dX12_planned_43 ?_
    refine lv_isub hM.1 hM.2.1 dX12_planned_44 ?_
    refine lv_goto (tgt := 55) hM.1 hM.2.1 dX12_planned_45 (by decide) ?_
    exact hR _ _ _ _ _ _ _ (Option.some.inj hf) rfl rfl hw dX12_planned_55
  refine lv_iconst (v := (-1)) hM.1 hM.2.1 dX12_planned_16 ic_m1 ?_
  exact hR _ _ _ _ _ _ _ (Option.some.inj hf) rfl rfl hw dX12_planned_17
theorem hd_X12_planned : yX12_planned.cls = RX12 ∧ yX12_planned.cls ≠ "java/lang/invoke/MethodHandle" ∧ yX12_planned.cls ≠ "java/lang/invoke/VarHandle" ∧ (parseMethodDescriptor yX12_planned.desc).map (fun d => d.parameters.length) = some 2 := ⟨rfl, by decide, by decide, by decide +kernel⟩
theorem dX12_trust_0 : decode cX12_trust 0 = .ok (.aload_n 0, 1) := by decide +kernel
theorem dX12_trust_1 : decode cX12_trust 1 = .ok (.iload_n 1, 1) := by decide +kernel
theorem dX12_trust_2 : decode cX12_trust 2 = .ok (.invokevirtual 425, 3) := by decide +kernel
theorem dX12_trust_5 : decode cX12_trust 5 = .ok (.ifCond .eq 10, 3) := by decide +kernel
theorem dX12_trust_8 : decode cX12_trust 8 = .ok (.iload_n 2, 1) := by decide +kernel
theorem dX12_trust_9 : decode cX12_trust 9 = .ok (.invokestatic 446, 3) := by decide +kernel
theorem dX12_trust_12 : decode cX12_trust 12 = .ok (.ifCond .ne 5, 3) := by decide +kernel
theorem dX12_trust_15 : decode cX12_trust 15 = .ok (.iconst (-1), 1) := by decide +kernel
theorem dX12_trust_16 : decode cX12_trust 16 = .ok (.ireturn, 1) := by decide +kernel
theorem dX12_trust_17 : decode cX12_trust 17 = .ok (.aload_n 0, 1) := by decide +kernel
theorem dX12_trust_18 : decode cX12_trust 18 = .ok (.invokevirtual 437, 3) := by decide +kernel
theorem dX12_trust_21 : decode cX12_trust 21 = .ok (.aload_n 0, 1) := by decide +kernel
theorem dX12_trust_22 : decode cX12_trust 22 = .ok (.iload_n 2, 1) := by decide +kernel
theorem dX12_trust_23 : decode cX12_trust 23 = .ok (.invokevirtual 443, 3) := by decide +kernel
theorem dX12_trust_26 : decode cX12_trust 26 = .ok (.aload_n 0, 1) := by decide +kernel
theorem dX12_trust_27 : decode cX12_trust 27 = .ok (.getfield 149, 3) := by decide +kernel
theorem dX12_trust_30 : decode cX12_trust 30 = .ok (.bipush 31, 2) := by decide +kernel
theorem dX12_trust_32 : decode cX12_trust 32 = .ok (.iload_n 1, 1) := by decide +kernel
theorem dX12_trust_33 : decode cX12_trust 33 = .ok (.iadd, 1) := by decide +kernel
theorem dX12_trust_34 : decode cX12_trust 34 = .ok (.iaload, 1) := by decide +kernel
theorem dX12_trust_35 : decode cX12_trust 35 = .ok (.ireturn, 1) := by decide +kernel
def c_X12_trust (a1 : Int32) (a2 : Int32) (h : PH) : Option (Int32 × PH) :=
  (c_X12_isMan a1 h).bind fun r1 =>
  if r1 = 0 then
    some ((-1), h)
  else
    (c_X12_isLong a2).bind fun r2 =>
    if r2 = 0 then
      some ((-1), h)
    else
      (c_X12_copies h).bind fun h3 =>
      (c_X12_goes a2 h3).bind fun h4 =>
      gd (ixOK (31 + a1) 40) <|
      some ((h4.1 44 (31 + a1).toNatClampNeg), h4)
set_option maxHeartbeats 4000000 in
set_option maxRecDepth 100000 in
theorem ct_X12_trust (l : Launch) {lay : List KK} (ho : okX12 lay) (a1 : Int32) (a2 : Int32) : CtI l yX12_trust cX12_trust 3 (some .int) 9 202 lay (fun h => c_X12_trust a1 a2 h) (fun ad => [.ref (ad 0), .int a1, .int a2]) := by
  refine CtI.mk' RX12 (by decide) rfl (fun _ => Nat.le_of_ble_eq_true rfl) ?_
  intro p0 e s m args below meth c D G A H0 ad X h r0 H ls Q hM hw hl hf hR
  have hl : lv_has ls 3 [(0, .ref (ad 0)), (1, .int a1), (2, .int a2)] := hl
  unfold c_X12_trust at hf
  refine lv_aload_n hM.1 hM.2.1 dX12_trust_0 rfl (lv_at hl 0 rfl) ?_
  refine lv_iload_n hM.1 hM.2.1 dX12_trust_1 rfl (lv_at hl 1 rfl) ?_
  refine x_callVIr (rest := []) hM hw (ct_X12_isMan l ho a1) [.int a1] (okX12.o ho) rfl rfl rfl (gi_V ml_X12_425 im_X12_isMan sl_X12_isMan in_X12 kc_X12_isMan) hd_X12_isMan rfl ⟨Nat.le_of_ble_eq_true rfl, Nat.le_of_ble_eq_true rfl⟩ rfl (Nat.le_of_ble_eq_true rfl) hl.1 hcs0 hf dX12_trust_2 (fun r1 H locs hf hw => ?_)
  refine x_if_eq (tgt := 15) hM hf dX12_trust_5 (by decide) (fun hf => ?_) (fun hf => ?_)
  · refine lv_iconst (v := (-1)) hM.1 hM.2.1 dX12_trust_15 ic_m1 ?_
    exact hR _ _ _ _ _ _ _ (Option.some.inj hf) rfl rfl hw dX12_trust_16
  refine lv_iload_n hM.1 hM.2.1 dX12_trust_8 rfl (lv_at hl 2 rfl) ?_
  refine x_callSIr (rest := []) hM hw (ct_X12_isLong l a2) [.int a2] rfl (gi_S ml_X12_446 sm_X12_isLong in_X12 kc_X12_isLong) hd_X12_isLong rfl ⟨Nat.le_of_ble_eq_true rfl, Nat.le_of_ble_eq_true rfl⟩ rfl (Nat.le_of_ble_eq_true rfl) hl.1 hcs0 hf dX12_trust_9 (fun r2 H locs hf hw => ?_)
  refine x_if_ne (tgt := 17) hM hf dX12_trust_12 (by decide) (fun hf => ?_) (fun hf => ?_)
  · refine lv_aload_n hM.1 hM.2.1 dX12_trust_17 rfl (lv_at hl 0 rfl) ?_
    refine x_callVV (rest := []) hM hw (ct_X12_copies l ho) [] (okX12.o ho) rfl rfl rfl (gi_V ml_X12_437 im_X12_copies sl_X12_copies in_X12 kc_X12_copies) hd_X12_copies rfl ⟨Nat.le_of_ble_eq_true rfl, Nat.le_of_ble_eq_true rfl⟩ rfl (Nat.le_of_ble_eq_true rfl) hl.1 hcs0 hf dX12_trust_18 (fun h3 H locs hf hw => ?_)
    refine lv_aload_n hM.1 hM.2.1 dX12_trust_21 rfl (lv_at hl 0 rfl) ?_
    refine lv_iload_n hM.1 hM.2.1 dX12_trust_22 rfl (lv_at hl 2 rfl) ?_
    refine x_callVV (rest := []) hM hw (ct_X12_goes l ho a2) [.int a2] (okX12.o ho) rfl rfl rfl (gi_V ml_X12_443 im_X12_goes sl_X12_goes in_X12 kc_X12_goes) hd_X12_goes rfl ⟨Nat.le_of_ble_eq_true rfl, Nat.le_of_ble_eq_true rfl⟩ rfl (Nat.le_of_ble_eq_true rfl) hl.1 hcs0 hf dX12_trust_23 (fun h4 H locs hf hw => ?_)
    refine lv_aload_n hM.1 hM.2.1 dX12_trust_26 rfl (lv_at hl 0 rfl) ?_
    refine gf_X12_row hM hw (okX12.o ho) fl_X12_149 dX12_trust_27 ?_
    refine lv_bipush (v := 31) hM.1 hM.2.1 dX12_trust_30 (by decide) ?_
    refine lv_iload_n hM.1 hM.2.1 dX12_trust_32 rfl (lv_at hl 1 rfl) ?_
    refine lv_iadd hM.1 hM.2.1 dX12_trust_33 ?_
    refine x_iald hM hw (okX12.row ho) hf dX12_trust_34 (fun hf => ?_)
    exact hR _ _ _ _ _ _ _ (Option.some.inj hf) rfl rfl hw dX12_trust_35
  refine lv_iconst (v := (-1)) hM.1 hM.2.1 dX12_trust_15 ic_m1 ?_
  exact hR _ _ _ _ _ _ _ (Option.some.inj hf) rfl rfl hw dX12_trust_16
theorem hd_X12_trust : yX12_trust.cls = RX12 ∧ yX12_trust.cls ≠ "java/lang/invoke/MethodHandle" ∧ yX12_trust.cls ≠ "java/lang/invoke/VarHandle" ∧ (parseMethodDescriptor yX12_trust.desc).map (fun d => d.parameters.length) = some 2 := ⟨rfl, by decide, by decide, by decide +kernel⟩
theorem dX12_year_0 : decode cX12_year 0 = .ok (.iload_n 1, 1) := by decide +kernel
theorem dX12_year_1 : decode cX12_year 1 = .ok (.invokestatic 446, 3) := by decide +kernel
theorem dX12_year_4 : decode cX12_year 4 = .ok (.ifCond .eq 13, 3) := by decide +kernel
theorem dX12_year_7 : decode cX12_year 7 = .ok (.iload_n 2, 1) := by decide +kernel
theorem dX12_year_8 : decode cX12_year 8 = .ok (.iconst 1, 1) := by decide +kernel
theorem dX12_year_9 : decode cX12_year 9 = .ok (.bipush 20, 2) := by decide +kernel
theorem dX12_year_11 : decode cX12_year 11 = .ok (.invokestatic 359, 3) := by decide +kernel
theorem dX12_year_14 : decode cX12_year 14 = .ok (.ifCond .ne 5, 3) := by decide +kernel
theorem dX12_year_17 : decode cX12_year 17 = .ok (.iconst (-1), 1) := by decide +kernel
theorem dX12_year_18 : decode cX12_year 18 = .ok (.ireturn, 1) := by decide +kernel
theorem dX12_year_19 : decode cX12_year 19 = .ok (.iconst 0, 1) := by decide +kernel
theorem dX12_year_20 : decode cX12_year 20 = .ok (.istore_n 3, 1) := by decide +kernel
theorem dX12_year_21 : decode cX12_year 21 = .ok (.iconst 0, 1) := by decide +kernel
theorem dX12_year_22 : decode cX12_year 22 = .ok (.istore 4, 2) := by decide +kernel
theorem dX12_year_24 : decode cX12_year 24 = .ok (.iload 4, 2) := by decide +kernel
theorem dX12_year_26 : decode cX12_year 26 = .ok (.iload_n 2, 1) := by decide +kernel
theorem dX12_year_27 : decode cX12_year 27 = .ok (.if_icmp .ge 37, 3) := by decide +kernel
theorem dX12_year_30 : decode cX12_year 30 = .ok (.aload_n 0, 1) := by decide +kernel
theorem dX12_year_31 : decode cX12_year 31 = .ok (.invokevirtual 437, 3) := by decide +kernel
theorem dX12_year_34 : decode cX12_year 34 = .ok (.aload_n 0, 1) := by decide +kernel
theorem dX12_year_35 : decode cX12_year 35 = .ok (.dup, 1) := by decide +kernel
theorem dX12_year_36 : decode cX12_year 36 = .ok (.getfield 363, 3) := by decide +kernel
theorem dX12_year_39 : decode cX12_year 39 = .ok (.iload 4, 2) := by decide +kernel
theorem dX12_year_41 : decode cX12_year 41 = .ok (.iadd, 1) := by decide +kernel
theorem dX12_year_42 : decode cX12_year 42 = .ok (.putfield 363, 3) := by decide +kernel
theorem dX12_year_45 : decode cX12_year 45 = .ok (.aload_n 0, 1) := by decide +kernel
theorem dX12_year_46 : decode cX12_year 46 = .ok (.iload_n 1, 1) := by decide +kernel
theorem dX12_year_47 : decode cX12_year 47 = .ok (.invokevirtual 443, 3) := by decide +kernel
theorem dX12_year_50 : decode cX12_year 50 = .ok (.iload_n 3, 1) := by decide +kernel
theorem dX12_year_51 : decode cX12_year 51 = .ok (.aload_n 0, 1) := by decide +kernel
theorem dX12_year_52 : decode cX12_year 52 = .ok (.iconst 1, 1) := by decide +kernel
theorem dX12_year_53 : decode cX12_year 53 = .ok (.invokevirtual 449, 3) := by decide +kernel
theorem dX12_year_56 : decode cX12_year 56 = .ok (.iadd, 1) := by decide +kernel
theorem dX12_year_57 : decode cX12_year 57 = .ok (.istore_n 3, 1) := by decide +kernel
theorem dX12_year_58 : decode cX12_year 58 = .ok (.iinc 4 1, 3) := by decide +kernel
theorem dX12_year_61 : decode cX12_year 61 = .ok (.goto (-37), 3) := by decide +kernel
theorem dX12_year_64 : decode cX12_year 64 = .ok (.iload_n 3, 1) := by decide +kernel
theorem dX12_year_65 : decode cX12_year 65 = .ok (.ireturn, 1) := by decide +kernel
def c_X12_year_L24b {ρ : Type}  (z1 : Int32) (z2 : Int32) (K1 : Int32 → PH → Option ρ) (REC : Int32 → Int32 → PH → Option ρ) (x3 : Int32) (x4 : Int32) (h : PH) : Option ρ :=
  if z2 ≤ x4 then
    K1 x3 h
  else
    (c_X12_copies h).bind fun h5 =>
    nm (setI h5 0 62 ((h5.1 0 62) + x4)) fun h6 =>
    (c_X12_goes z1 h6).bind fun h7 =>
    (c_X12_moreBy 1 h7).bind fun r8 =>
    nm (x3 + r8) fun v9 =>
    nm (x4 + 1) fun v10 =>
    REC v9 v10 h7
set_option maxHeartbeats 4000000 in
set_option maxRecDepth 100000 in
theorem w_X12_year_L24b {p0 : Program} {l : Launch} {e : Env} {s : State} {m : MethodId} {args : Array Value} {below : List Frame} {meth : Method} {c : Code} {Q : State → Prop} {D : va_G} {G : GG} {A : Nat → Prop} {H0 : Heap} {ad : Nat → Nat} {lay : List KK} {X : va_W} {ρ : Type} {r0 : ρ} {z1 : Int32} {z2 : Int32} {x3 : Int32} {x4 : Int32} {h : PH} {H : Heap} {locs : List Loc} {ls : Array Slot} {K1 : Int32 → PH → Option ρ} {REC : Int32 → Int32 → PH → Option ρ} (hM : CallFix p0 m c cX12_year 5 s args lw_g RX12) (ho : okX12 lay) (hk1 : ∀ (x3 : Int32) (h : PH), ∀ (H : Heap) (locs : List Loc) (ls : Array Slot), K1 x3 h = some r0 → Wd D G A H0 ad lay X h s H locs → lv_has ls 5 [(3, .int x3)] → W p0 l e (rmN 9 202) s m args below meth c H locs 0 0 Q (F0 m 64 ls [])) (hrec : ∀ (x3 : Int32) (x4 : Int32) (h : PH), ∀ (H : Heap) (locs : List Loc) (ls : Array Slot), REC x3 x4 h = some r0 → Wd D G A H0 ad lay X h s H locs → lv_has ls 5 [(0, .ref (ad 0)), (1, .int z1), (2, .int z2), (3, .int x3), (4, .int x4)] → W p0 l e (rmN 9 202) s m args below meth c H locs 0 0 Q (F0 m 24 ls [])) (hw : Wd D G A H0 ad lay X h s H locs) (hl : lv_has ls 5 [(0, .ref (ad 0)), (1, .int z1), (2, .int z2), (3, .int x3), (4, .int x4)]) (hf : c_X12_year_L24b z1 z2 K1 REC x3 x4 h = some r0) : W p0 l e (rmN 9 202) s m args below meth c H locs 0 0 Q (F0 m 24 ls []) := by
  unfold c_X12_year_L24b at hf
  refine lv_iload hM.1 hM.2.1 dX12_year_24 (lv_at hl 4 rfl) ?_
  refine lv_iload_n hM.1 hM.2.1 dX12_year_26 rfl (lv_at hl 2 rfl) ?_
  refine x_ic_ge (tgt := 64) hM hf dX12_year_27 (by decide) (fun hf => ?_) (fun hf => ?_)
  · exact hk1 _ _ _ _ _ hf hw (lv_sub hl [3] rfl)
  refine lv_aload_n hM.1 hM.2.1 dX12_year_30 rfl (lv_at hl 0 rfl) ?_
  refine x_callVV (rest := []) hM hw (ct_X12_copies l ho) [] (okX12.o ho) rfl rfl rfl (gi_V ml_X12_437 im_X12_copies sl_X12_copies in_X12 kc_X12_copies) hd_X12_copies rfl ⟨Nat.le_of_ble_eq_true rfl, Nat.le_of_ble_eq_true rfl⟩ rfl (Nat.le_of_ble_eq_true rfl) hl.1 hcs0 hf dX12_year_31 (fun h5 H locs hf hw => ?_)
  refine lv_aload_n hM.1 hM.2.1 dX12_year_34 rfl (lv_at hl 0 rfl) ?_
  refine lv_dup hM.1 hM.2.1 dX12_year_35 rfl ?_
  refine gf_X12_lots hM hw (okX12.o ho) fl_X12_363 dX12_year_36 ?_
  refine lv_iload hM.1 hM.2.1 dX12_year_39 (lv_at hl 4 rfl) ?_
  refine lv_iadd hM.1 hM.2.1 dX12_year_41 ?_
  refine pf_X12_lots hM hw (okX12.o ho) fl_X12_363 hf dX12_year_42 (fun h6 H locs hf hw => ?_)
  refine lv_aload_n hM.1 hM.2.1 dX12_year_45 rfl (lv_at hl 0 rfl) ?_
  refine lv_iload_n hM.1 hM.2.1 dX12_year_46 rfl (lv_at hl 1 rfl) ?_
  refine x_callVV (rest := []) hM hw (ct_X12_goes l ho z1) [.int z1] (okX12.o ho) rfl rfl rfl (gi_V ml_X12_443 im_X12_goes sl_X12_goes in_X12 kc_X12_goes) hd_X12_goes rfl ⟨Nat.le_of_ble_eq_true rfl, Nat.le_of_ble_eq_true rfl⟩ rfl (Nat.le_of_ble_eq_true rfl) hl.1 hcs0 hf dX12_year_47 (fun h7 H locs hf hw => ?_)
  refine lv_iload_n hM.1 hM.2.1 dX12_year_50 rfl (lv_at hl 3 rfl) ?_
  refine lv_aload_n hM.1 hM.2.1 dX12_year_51 rfl (lv_at hl 0 rfl) ?_
  refine lv_iconst (v := 1) hM.1 hM.2.1 dX12_year_52 ic_1 ?_
  refine x_callVIr (rest := [.int x3]) hM hw (ct_X12_moreBy l ho 1) [.int 1] (okX12.o ho) rfl rfl rfl (gi_V ml_X12_449 im_X12_moreBy sl_X12_moreBy in_X12 kc_X12_moreBy) hd_X12_moreBy rfl ⟨Nat.le_of_ble_eq_true rfl, Nat.le_of_ble_eq_true rfl⟩ rfl (Nat.le_of_ble_eq_true rfl) hl.1 hcs0 hf dX12_year_53 (fun r8 H locs hf hw => ?_)
  refine lv_iadd hM.1 hM.2.1 dX12_year_56 ?_
  refine x_istore_n hM hf dX12_year_57 rfl hl (by decide) (fun v9 => [(3, .int v9), (0, .ref (ad 0)), (1, .int z1), (2, .int z2), (4, .int x4)]) (fun _ => rfl) (fun v9 ls hf hl => ?_)
  refine x_iinc (k := 4) (d := 1) hM hf dX12_year_58 hl rfl (by decide) (by decide) (fun v10 => [(4, .int v10), (3, .int v9), (0, .ref (ad 0)), (1, .int z1), (2, .int z2)]) (fun _ => rfl) (fun v10 ls hf hl => ?_)
  refine lv_goto (tgt := 24) hM.1 hM.2.1 dX12_year_61 (by decide) ?_
  exact hrec _ _ _ _ _ _ hf hw (lv_sub hl [2, 3, 4, 1, 0] rfl)
set_option maxHeartbeats 4000000 in
set_option maxRecDepth 100000 in
theorem w_X12_year_L24 {p0 : Program} {l : Launch} {e : Env} {s : State} {m : MethodId} {args : Array Value} {below : List Frame} {meth : Method} {c : Code} {Q : State → Prop} {D : va_G} {G : GG} {A : Nat → Prop} {H0 : Heap} {ad : Nat → Nat} {lay : List KK} {X : va_W} {ρ : Type} {r0 : ρ} {z1 : Int32} {z2 : Int32} {K1 : Int32 → PH → Option ρ} (hM : CallFix p0 m c cX12_year 5 s args lw_g RX12) (ho : okX12 lay) (hk1 : ∀ (x3 : Int32) (h : PH), ∀ (H : Heap) (locs : List Loc) (ls : Array Slot), K1 x3 h = some r0 → Wd D G A H0 ad lay X h s H locs → lv_has ls 5 [(3, .int x3)] → W p0 l e (rmN 9 202) s m args below meth c H locs 0 0 Q (F0 m 64 ls [])) (n : Nat) (x3 : Int32) (x4 : Int32) (h : PH) (hf : lq3 (c_X12_year_L24b z1 z2 K1) n x3 x4 h = some r0) : ∀ (H : Heap) (locs : List Loc) (ls : Array Slot), Wd D G A H0 ad lay X h s H locs → lv_has ls 5 [(0, .ref (ad 0)), (1, .int z1), (2, .int z2), (3, .int x3), (4, .int x4)] → W p0 l e (rmN 9 202) s m args below meth c H locs 0 0 Q (F0 m 24 ls []) := by
  exact lq3_i (fun (x3 : Int32) (x4 : Int32) (h : PH) => ∀ (H : Heap) (locs : List Loc) (ls : Array Slot), Wd D G A H0 ad lay X h s H locs → lv_has ls 5 [(0, .ref (ad 0)), (1, .int z1), (2, .int z2), (3, .int x3), (4, .int x4)] → W p0 l e (rmN 9 202) s m args below meth c H locs 0 0 Q (F0 m 24 ls [])) (fun REC x3 x4 h ih hf H locs ls hw hl => w_X12_year_L24b hM ho hk1 (fun x3 x4 h H locs ls hf hw hl => ih x3 x4 h hf H locs ls hw hl) hw hl hf) n x3 x4 h hf
def c_X12_year (a1 : Int32) (a2 : Int32) (h : PH) : Option (Int32 × PH) :=
  (c_X12_isLong a1).bind fun r1 =>
  if r1 = 0 then
    some ((-1), h)
  else
    (c_X12_in a2 1 20).bind fun r2 =>
    if r2 = 0 then
      some ((-1), h)
    else
      nm (0 : Int32) fun v3 =>
      nm (0 : Int32) fun v4 =>
      lq3 (c_X12_year_L24b a1 a2
        (fun w11 h12 =>
          some (w11, h12))) fu v3 v4 h
set_option maxHeartbeats 4000000 in
set_option maxRecDepth 100000 in
theorem ct_X12_year (l : Launch) {lay : List KK} (ho : okX12 lay) (a1 : Int32) (a2 : Int32) : CtI l yX12_year cX12_year 5 (some .int) 9 202 lay (fun h => c_X12_year a1 a2 h) (fun ad => [.ref (ad 0), .int a1, .int a2]) := by
  refine CtI.mk' RX12 (by decide) rfl (fun _ => Nat.le_of_ble_eq_true rfl) ?_
  intro p0 e s m args below meth c D G A H0 ad X h r0 H ls Q hM hw hl hf hR
  have hl : lv_has ls 5 [(0, .ref (ad 0)), (1, .int a1), (2, .int a2)] := hl
  unfold c_X12_year at hf
  refine lv_iload_n hM.1 hM.2.1 dX12_year_0 rfl (lv_at hl 1 rfl) ?_
  refine x_callSIr (rest := []) hM hw (ct_X12_isLong l a1) [.int a1] rfl (gi_S ml_X12_446 sm_X12_isLong in_X12 kc_X12_isLong) hd_X12_isLong rfl ⟨Nat.le_of_ble_eq_true rfl, Nat.le_of_ble_eq_true rfl⟩ rfl (Nat.le_of_ble_eq_true rfl) hl.1 hcs0 hf dX12_year_1 (fun r1 H locs hf hw => ?_)
  refine x_if_eq (tgt := 17) hM hf dX12_year_4 (by decide) (fun hf => ?_) (fun hf => ?_)
  · refine lv_iconst (v := (-1)) hM.1 hM.2.1 dX12_year_17 ic_m1 ?_
    exact hR _ _ _ _ _ _ _ (Option.some.inj hf) rfl rfl hw dX12_year_18
  refine lv_iload_n hM.1 hM.2.1 dX12_year_7 rfl (lv_at hl 2 rfl) ?_
  refine lv_iconst (v := 1) hM.1 hM.2.1 dX12_year_8 ic_1 ?_
  refine lv_bipush (v := 20) hM.1 hM.2.1 dX12_year_9 (by decide) ?_
  refine x_callSIr (rest := []) hM hw (ct_X12_in l a2 1 20) [.int a2, .int 1, .int 20] rfl (gi_S ml_X12_359 sm_X12_in in_X12 kc_X12_in) hd_X12_in rfl ⟨Nat.le_of_ble_eq_true rfl, Nat.le_of_ble_eq_true rfl⟩ rfl (Nat.le_of_ble_eq_true rfl) hl.1 hcs0 hf dX12_year_11 (fun r2 H locs hf hw => ?_)
  refine x_if_ne (tgt := 19) hM hf dX12_year_14 (by decide) (fun hf => ?_) (fun hf => ?_)
  · refine lv_iconst (v := 0) hM.1 hM.2.1 dX12_year_19 ic_0 ?_
    refine x_istore_n hM hf dX12_year_20 rfl hl (by decide) (fun v3 => [(3, .int v3), (0, .ref (ad 0)), (1, .int a1), (2, .int a2)]) (fun _ => rfl) (fun v3 ls hf hl => ?_)
    refine lv_iconst (v := 0) hM.1 hM.2.1 dX12_year_21 ic_0 ?_
    refine x_istore hM hf dX12_year_22 hl (by decide) (fun v4 => [(4, .int v4), (3, .int v3), (0, .ref (ad 0)), (1, .int a1), (2, .int a2)]) (fun _ => rfl) (fun v4 ls hf hl => ?_)
    refine w_X12_year_L24 hM ho (fun w11 h12 H locs ls hf hw hl => ?_) fu _ _ _ hf _ _ _ hw (lv_sub hl [2, 3, 4, 1, 0] rfl)
    refine lv_iload_n hM.1 hM.2.1 dX12_year_64 rfl (lv_at hl 0 rfl) ?_
    exact hR _ _ _ _ _ _ _ (Option.some.inj hf) rfl rfl hw dX12_year_65
  refine lv_iconst (v := (-1)) hM.1 hM.2.1 dX12_year_17 ic_m1 ?_
  exact hR _ _ _ _ _ _ _ (Option.some.inj hf) rfl rfl hw dX12_year_18
theorem hd_X12_year : yX12_year.cls = RX12 ∧ yX12_year.cls ≠ "java/lang/invoke/MethodHandle" ∧ yX12_year.cls ≠ "java/lang/invoke/VarHandle" ∧ (parseMethodDescriptor yX12_year.desc).map (fun d => d.parameters.length) = some 2 := ⟨rfl, by decide, by decide, by decide +kernel⟩
theorem dX12_sevens_0 : decode cX12_sevens 0 = .ok (.iconst 1, 1) := by decide +kernel
theorem dX12_sevens_1 : decode cX12_sevens 1 = .ok (.istore_n 1, 1) := by decide +kernel
theorem dX12_sevens_2 : decode cX12_sevens 2 = .ok (.iconst 0, 1) := by decide +kernel
theorem dX12_sevens_3 : decode cX12_sevens 3 = .ok (.istore_n 2, 1) := by decide +kernel
theorem dX12_sevens_4 : decode cX12_sevens 4 = .ok (.iload_n 2, 1) := by decide +kernel
theorem dX12_sevens_5 : decode cX12_sevens 5 = .ok (.iload_n 0, 1) := by decide +kernel
theorem dX12_sevens_6 : decode cX12_sevens 6 = .ok (.if_icmp .ge 14, 3) := by decide +kernel
theorem dX12_sevens_9 : decode cX12_sevens 9 = .ok (.iload_n 1, 1) := by decide +kernel
theorem dX12_sevens_10 : decode cX12_sevens 10 = .ok (.bipush 7, 2) := by decide +kernel
theorem dX12_sevens_12 : decode cX12_sevens 12 = .ok (.imul, 1) := by decide +kernel
theorem dX12_sevens_13 : decode cX12_sevens 13 = .ok (.istore_n 1, 1) := by decide +kernel
theorem dX12_sevens_14 : decode cX12_sevens 14 = .ok (.iinc 2 1, 3) := by decide +kernel
theorem dX12_sevens_17 : decode cX12_sevens 17 = .ok (.goto (-13), 3) := by decide +kernel
theorem dX12_sevens_20 : decode cX12_sevens 20 = .ok (.iload_n 1, 1) := by decide +kernel
theorem dX12_sevens_21 : decode cX12_sevens 21 = .ok (.ireturn, 1) := by decide +kernel
def c_X12_sevens_L4b {ρ : Type}  (z0 : Int32) (K1 : Int32 → Option ρ) (REC : Int32 → Int32 → Option ρ) (x1 : Int32) (x2 : Int32) : Option ρ :=
  if z0 ≤ x2 then
    K1 x1
  else
    nm (x1 * 7) fun v3 =>
    nm (x2 + 1) fun v4 =>
    REC v3 v4
set_option maxHeartbeats 4000000 in
set_option maxRecDepth 100000 in
theorem w_X12_sevens_L4b {p0 : Program} {l : Launch} {e : Env} {s : State} {m : MethodId} {args : Array Value} {below : List Frame} {meth : Method} {c : Code} {Q : State → Prop} {D : va_G} {G : GG} {A : Nat → Prop} {H0 : Heap} {ad : Nat → Nat} {lay : List KK} {X : va_W} {ρ : Type} {r0 : ρ} {z0 : Int32} {x1 : Int32} {x2 : Int32} {h : PH} {H : Heap} {locs : List Loc} {ls : Array Slot} {K1 : Int32 → Option ρ} {REC : Int32 → Int32 → Option ρ} (hM : CallFix p0 m c cX12_sevens 3 s args lw_g RX12) (hk1 : ∀ (x1 : Int32), ∀ (H : Heap) (locs : List Loc) (ls : Array Slot), K1 x1 = some r0 → Wd D G A H0 ad lay X h s H locs → lv_has ls 3 [(1, .int x1)] → W p0 l e (rmN 0 0) s m args below meth c H locs 0 0 Q (F0 m 20 ls [])) (hrec : ∀ (x1 : Int32) (x2 : Int32), ∀ (H : Heap) (locs : List Loc) (ls : Array Slot), REC x1 x2 = some r0 → Wd D G A H0 ad lay X h s H locs → lv_has ls 3 [(0, .int z0), (1, .int x1), (2, .int x2)] → W p0 l e (rmN 0 0) s m args below meth c H locs 0 0 Q (F0 m 4 ls [])) (hw : Wd D G A H0 ad lay X h s H locs) (hl : lv_has ls 3 [(0, .int z0), (1, .int x1), (2, .int x2)]) (hf : c_X12_sevens_L4b z0 K1 REC x1 x2 = some r0) : W p0 l e (rmN 0 0) s m args below meth c H locs 0 0 Q (F0 m 4 ls []) := by
  unfold c_X12_sevens_L4b at hf
  refine lv_iload_n hM.1 hM.2.1 dX12_sevens_4 rfl (lv_at hl 2 rfl) ?_
  refine lv_iload_n hM.1 hM.2.1 dX12_sevens_5 rfl (lv_at hl 0 rfl) ?_
  refine x_ic_ge (tgt := 20) hM hf dX12_sevens_6 (by decide) (fun hf => ?_) (fun hf => ?_)
  · exact hk1 _ _ _ _ hf hw (lv_sub hl [1] rfl)
  refine lv_iload_n hM.1 hM.2.1 dX12_sevens_9 rfl (lv_at hl 1 rfl) ?_
  refine lv_bipush (v := 7) hM.1 hM.2.1 dX12_sevens_10 (by decide) ?_
  refine lv_imul hM.1 hM.2.1 dX12_sevens_12 ?_
  refine x_istore_n hM hf dX12_sevens_13 rfl hl (by decide) (fun v3 => [(1, .int v3), (0, .int z0), (2, .int x2)]) (fun _ => rfl) (fun v3 ls hf hl => ?_)
  refine x_iinc (k := 2) (d := 1) hM hf dX12_sevens_14 hl rfl (by decide) (by decide) (fun v4 => [(2, .int v4), (1, .int v3), (0, .int z0)]) (fun _ => rfl) (fun v4 ls hf hl => ?_)
  refine lv_goto (tgt := 4) hM.1 hM.2.1 dX12_sevens_17 (by decide) ?_
  exact hrec _ _ _ _ _ hf hw (lv_sub hl [2, 1, 0] rfl)
set_option maxHeartbeats 4000000 in
set_option maxRecDepth 100000 in
theorem w_X12_sevens_L4 {p0 : Program} {l : Launch} {e : Env} {s : State} {m : MethodId} {args : Array Value} {below : List Frame} {meth : Method} {c : Code} {Q : State → Prop} {D : va_G} {G : GG} {A : Nat → Prop} {H0 : Heap} {ad : Nat → Nat} {lay : List KK} {X : va_W} {ρ : Type} {r0 : ρ} {z0 : Int32} {h : PH} {K1 : Int32 → Option ρ} (hM : CallFix p0 m c cX12_sevens 3 s args lw_g RX12) (hk1 : ∀ (x1 : Int32), ∀ (H : Heap) (locs : List Loc) (ls : Array Slot), K1 x1 = some r0 → Wd D G A H0 ad lay X h s H locs → lv_has ls 3 [(1, .int x1)] → W p0 l e (rmN 0 0) s m args below meth c H locs 0 0 Q (F0 m 20 ls [])) (n : Nat) (x1 : Int32) (x2 : Int32) (hf : lq2 (c_X12_sevens_L4b z0 K1) n x1 x2 = some r0) : ∀ (H : Heap) (locs : List Loc) (ls : Array Slot), Wd D G A H0 ad lay X h s H locs → lv_has ls 3 [(0, .int z0), (1, .int x1), (2, .int x2)] → W p0 l e (rmN 0 0) s m args below meth c H locs 0 0 Q (F0 m 4 ls []) := by
  exact lq2_i (fun (x1 : Int32) (x2 : Int32) => ∀ (H : Heap) (locs : List Loc) (ls : Array Slot), Wd D G A H0 ad lay X h s H locs → lv_has ls 3 [(0, .int z0), (1, .int x1), (2, .int x2)] → W p0 l e (rmN 0 0) s m args below meth c H locs 0 0 Q (F0 m 4 ls [])) (fun REC x1 x2 ih hf H locs ls hw hl => w_X12_sevens_L4b hM hk1 (fun x1 x2 H locs ls hf hw hl => ih x1 x2 hf H locs ls hw hl) hw hl hf) n x1 x2 hf
def c_X12_sevens (a0 : Int32) : Option (Int32) :=
  nm (1 : Int32) fun v1 =>
  nm (0 : Int32) fun v2 =>
  lq2 (c_X12_sevens_L4b a0
    (fun w5 =>
      some w5)) fu v1 v2
set_option maxHeartbeats 4000000 in
set_option maxRecDepth 100000 in
theorem ct_X12_sevens (l : Launch) {lay : List KK} (a0 : Int32) : CtI l yX12_sevens cX12_sevens 3 (some .int) 0 0 lay (rd (fun _ => c_X12_sevens a0)) (fun _ => [.int a0]) := by
  refine CtI.mk' RX12 (by decide) rfl (fun _ => Nat.le_of_ble_eq_true rfl) ?_
  intro p0 e s m args below meth c D G A H0 ad X h r0 H ls Q hM hw hl hf hR
  have hl : lv_has ls 3 [(0, .int a0)] := hl
  obtain ⟨v0, hv0, hr0⟩ : ∃ v0, c_X12_sevens a0 = some v0 ∧ r0 = (v0, h) := rd_some hf
  subst hr0
  have hf := hv0
  unfold c_X12_sevens at hf
  refine lv_iconst (v := 1) hM.1 hM.2.1 dX12_sevens_0 ic_1 ?_
  refine x_istore_n hM hf dX12_sevens_1 rfl hl (by decide) (fun v1 => [(1, .int v1), (0, .int a0)]) (fun _ => rfl) (fun v1 ls hf hl => ?_)
  refine lv_iconst (v := 0) hM.1 hM.2.1 dX12_sevens_2 ic_0 ?_
  refine x_istore_n hM hf dX12_sevens_3 rfl hl (by decide) (fun v2 => [(2, .int v2), (1, .int v1), (0, .int a0)]) (fun _ => rfl) (fun v2 ls hf hl => ?_)
  refine w_X12_sevens_L4 hM (fun w5 H locs ls hf hw hl => ?_) fu _ _ hf _ _ _ hw (lv_sub hl [2, 1, 0] rfl)
  refine lv_iload_n hM.1 hM.2.1 dX12_sevens_20 rfl (lv_at hl 0 rfl) ?_
  exact hR _ _ _ _ _ _ _ (congrArg (fun z => (z, _)) (Option.some.inj hf)) rfl rfl hw dX12_sevens_21
theorem hd_X12_sevens : yX12_sevens.cls ≠ "java/lang/invoke/MethodHandle" ∧ yX12_sevens.cls ≠ "java/lang/invoke/VarHandle" ∧ (parseMethodDescriptor yX12_sevens.desc).map (fun d => d.parameters.length) = some 1 := ⟨by decide, by decide, by decide +kernel⟩
theorem dX12_excuseIn_0 : decode cX12_excuseIn 0 = .ok (.iload_n 1, 1) := by decide +kernel
theorem dX12_excuseIn_1 : decode cX12_excuseIn 1 = .ok (.iconst 1, 1) := by decide +kernel
theorem dX12_excuseIn_2 : decode cX12_excuseIn 2 = .ok (.iload_n 3, 1) := by decide +kernel
theorem dX12_excuseIn_3 : decode cX12_excuseIn 3 = .ok (.ishl, 1) := by decide +kernel
theorem dX12_excuseIn_4 : decode cX12_excuseIn 4 = .ok (.iconst 1, 1) := by decide +kernel
theorem dX12_excuseIn_5 : decode cX12_excuseIn 5 = .ok (.isub, 1) := by decide +kernel
theorem dX12_excuseIn_6 : decode cX12_excuseIn 6 = .ok (.iand, 1) := by decide +kernel
theorem dX12_excuseIn_7 : decode cX12_excuseIn 7 = .ok (.invokestatic 452, 3) := by decide +kernel
theorem dX12_excuseIn_10 : decode cX12_excuseIn 10 = .ok (.istore 4, 2) := by decide +kernel
theorem dX12_excuseIn_12 : decode cX12_excuseIn 12 = .ok (.iload_n 2, 1) := by decide +kernel
theorem dX12_excuseIn_13 : decode cX12_excuseIn 13 = .ok (.iload_n 1, 1) := by decide +kernel
theorem dX12_excuseIn_14 : decode cX12_excuseIn 14 = .ok (.invokestatic 452, 3) := by decide +kernel
theorem dX12_excuseIn_17 : decode cX12_excuseIn 17 = .ok (.iconst 1, 1) := by decide +kernel
theorem dX12_excuseIn_18 : decode cX12_excuseIn 18 = .ok (.isub, 1) := by decide +kernel
theorem dX12_excuseIn_19 : decode cX12_excuseIn 19 = .ok (.iload 4, 2) := by decide +kernel
theorem dX12_excuseIn_21 : decode cX12_excuseIn 21 = .ok (.isub, 1) := by decide +kernel
theorem dX12_excuseIn_22 : decode cX12_excuseIn 22 = .ok (.invokestatic 455, 3) := by decide +kernel
theorem dX12_excuseIn_25 : decode cX12_excuseIn 25 = .ok (.idiv, 1) := by decide +kernel
theorem dX12_excuseIn_26 : decode cX12_excuseIn 26 = .ok (.bipush 7, 2) := by decide +kernel
theorem dX12_excuseIn_28 : decode cX12_excuseIn 28 = .ok (.irem, 1) := by decide +kernel
theorem dX12_excuseIn_29 : decode cX12_excuseIn 29 = .ok (.ireturn, 1) := by decide +kernel
def c_X12_excuseIn (a1 : Int32) (a2 : Int32) (a3 : Int32) : Option (Int32) :=
  (c_X12_bits (a1 &&& (((1 : Int32) <<< (a3 &&& 31)) - 1))).bind fun r1 =>
  nm r1 fun v2 =>
  (c_X12_bits a1).bind fun r3 =>
  (c_X12_sevens ((r3 - 1) - v2)).bind fun r4 =>
  if r4 = 0 then none else
  some (jrem (a2 / r4) 7)
set_option maxHeartbeats 4000000 in
set_option maxRecDepth 100000 in
theorem ct_X12_excuseIn (l : Launch) {lay : List KK} (ho : okX12 lay) (a1 : Int32) (a2 : Int32) (a3 : Int32) : CtI l yX12_excuseIn cX12_excuseIn 5 (some .int) 1 22 lay (rd (fun _ => c_X12_excuseIn a1 a2 a3)) (fun ad => [.ref (ad 0), .int a1, .int a2, .int a3]) := by
  refine CtI.mk' RX12 (by decide) rfl (fun _ => Nat.le_of_ble_eq_true rfl) ?_
  intro p0 e s m args below meth c D G A H0 ad X h r0 H ls Q hM hw hl hf hR
  have hl : lv_has ls 5 [(0, .ref (ad 0)), (1, .int a1), (2, .int a2), (3, .int a3)] := hl
  obtain ⟨v0, hv0, hr0⟩ : ∃ v0, c_X12_excuseIn a1 a2 a3 = some v0 ∧ r0 = (v0, h) := rd_some hf
  subst hr0
  have hf := hv0
  unfold c_X12_excuseIn at hf
  refine lv_iload_n hM.1 hM.2.1 dX12_excuseIn_0 rfl (lv_at hl 1 rfl) ?_
  refine lv_iconst (v := 1) hM.1 hM.2.1 dX12_excuseIn_1 ic_1 ?_
  refine lv_iload_n hM.1 hM.2.1 dX12_excuseIn_2 rfl (lv_at hl 3 rfl) ?_
  refine lv_ishl hM.1 hM.2.1 dX12_excuseIn_3 ?_
  refine lv_iconst (v := 1) hM.1 hM.2.1 dX12_excuseIn_4 ic_1 ?_
  refine lv_isub hM.1 hM.2.1 dX12_excuseIn_5 ?_
  refine lv_iand hM.1 hM.2.1 dX12_excuseIn_6 ?_
  refine x_callSIr (rest := []) hM hw (ct_X12_bits l (a1 &&& (((1 : Int32) <<< (a3 &&& 31)) - 1))) [.int (a1 &&& (((1 : Int32) <<< (a3 &&& 31)) - 1))] rfl (gi_S ml_X12_452 sm_X12_bits in_X12 kc_X12_bits) hd_X12_bits rfl ⟨Nat.le_of_ble_eq_true rfl, Nat.le_of_ble_eq_true rfl⟩ rfl (Nat.le_of_ble_eq_true rfl) hl.1 hcs0 hf dX12_excuseIn_7 (fun r1 H locs hf hw => ?_)
  refine x_istore hM hf dX12_excuseIn_10 hl (by decide) (fun v2 => [(4, .int v2), (0, .ref (ad 0)), (1, .int a1), (2, .int a2), (3, .int a3)]) (fun _ => rfl) (fun v2 ls hf hl => ?_)
  refine lv_iload_n hM.1 hM.2.1 dX12_excuseIn_12 rfl (lv_at hl 3 rfl) ?_
  refine lv_iload_n hM.1 hM.2.1 dX12_excuseIn_13 rfl (lv_at hl 2 rfl) ?_
  refine x_callSIr (rest := [.int a2]) hM hw (ct_X12_bits l a1) [.int a1] rfl (gi_S ml_X12_452 sm_X12_bits in_X12 kc_X12_bits) hd_X12_bits rfl ⟨Nat.le_of_ble_eq_true rfl, Nat.le_of_ble_eq_true rfl⟩ rfl (Nat.le_of_ble_eq_true rfl) hl.1 hcs0 hf dX12_excuseIn_14 (fun r3 H locs hf hw => ?_)
  refine lv_iconst (v := 1) hM.1 hM.2.1 dX12_excuseIn_17 ic_1 ?_
  refine lv_isub hM.1 hM.2.1 dX12_excuseIn_18 ?_
  refine lv_iload hM.1 hM.2.1 dX12_excuseIn_19 (lv_at hl 0 rfl) ?_
  refine lv_isub hM.1 hM.2.1 dX12_excuseIn_21 ?_
  refine x_callSIr (rest := [.int a2]) hM hw (ct_X12_sevens l ((r3 - 1) - v2)) [.int ((r3 - 1) - v2)] rfl (gi_S ml_X12_455 sm_X12_sevens in_X12 kc_X12_sevens) hd_X12_sevens rfl ⟨Nat.le_of_ble_eq_true rfl, Nat.le_of_ble_eq_true rfl⟩ rfl (Nat.le_of_ble_eq_true rfl) hl.1 hcs0 hf dX12_excuseIn_22 (fun r4 H locs hf hw => ?_)
  refine x_idiv hM hf dX12_excuseIn_25 (fun hf => ?_)
  refine lv_bipush (v := 7) hM.1 hM.2.1 dX12_excuseIn_26 (by decide) ?_
  refine x_iremK hM (by decide) dX12_excuseIn_28 ?_
  exact hR _ _ _ _ _ _ _ (congrArg (fun z => (z, _)) (Option.some.inj hf)) rfl rfl hw dX12_excuseIn_29
theorem hd_X12_excuseIn : yX12_excuseIn.cls = RX12 ∧ yX12_excuseIn.cls ≠ "java/lang/invoke/MethodHandle" ∧ yX12_excuseIn.cls ≠ "java/lang/invoke/VarHandle" ∧ (parseMethodDescriptor yX12_excuseIn.desc).map (fun d => d.parameters.length) = some 3 := ⟨rfl, by decide, by decide, by decide +kernel⟩
theorem dX12_coinsBy_0 : decode cX12_coinsBy 0 = .ok (.iconst 0, 1) := by decide +kernel
theorem dX12_coinsBy_1 : decode cX12_coinsBy 1 = .ok (.istore_n 3, 1) := by decide +kernel
theorem dX12_coinsBy_2 : decode cX12_coinsBy 2 = .ok (.iconst 0, 1) := by decide +kernel
theorem dX12_coinsBy_3 : decode cX12_coinsBy 3 = .ok (.istore 4, 2) := by decide +kernel
theorem dX12_coinsBy_5 : decode cX12_coinsBy 5 = .ok (.iconst 0, 1) := by decide +kernel
theorem dX12_coinsBy_6 : decode cX12_coinsBy 6 = .ok (.istore 5, 2) := by decide +kernel
theorem dX12_coinsBy_8 : decode cX12_coinsBy 8 = .ok (.iload 5, 2) := by decide +kernel
theorem dX12_coinsBy_10 : decode cX12_coinsBy 10 = .ok (.aload_n 0, 1) := by decide +kernel
theorem dX12_coinsBy_11 : decode cX12_coinsBy 11 = .ok (.getfield 80, 3) := by decide +kernel
theorem dX12_coinsBy_14 : decode cX12_coinsBy 14 = .ok (.aload_n 0, 1) := by decide +kernel
theorem dX12_coinsBy_15 : decode cX12_coinsBy 15 = .ok (.getfield 266, 3) := by decide +kernel
theorem dX12_coinsBy_18 : decode cX12_coinsBy 18 = .ok (.iaload, 1) := by decide +kernel
theorem dX12_coinsBy_19 : decode cX12_coinsBy 19 = .ok (.if_icmp .ge 125, 3) := by decide +kernel
theorem dX12_coinsBy_22 : decode cX12_coinsBy 22 = .ok (.iload_n 1, 1) := by decide +kernel
theorem dX12_coinsBy_23 : decode cX12_coinsBy 23 = .ok (.iload 5, 2) := by decide +kernel
theorem dX12_coinsBy_25 : decode cX12_coinsBy 25 = .ok (.ishr, 1) := by decide +kernel
theorem dX12_coinsBy_26 : decode cX12_coinsBy 26 = .ok (.iconst 1, 1) := by decide +kernel
theorem dX12_coinsBy_27 : decode cX12_coinsBy 27 = .ok (.iand, 1) := by decide +kernel
theorem dX12_coinsBy_28 : decode cX12_coinsBy 28 = .ok (.ifCond .ne 6, 3) := by decide +kernel
theorem dX12_coinsBy_31 : decode cX12_coinsBy 31 = .ok (.goto 107, 3) := by decide +kernel
theorem dX12_coinsBy_34 : decode cX12_coinsBy 34 = .ok (.aload_n 0, 1) := by decide +kernel
theorem dX12_coinsBy_35 : decode cX12_coinsBy 35 = .ok (.iload_n 1, 1) := by decide +kernel
theorem dX12_coinsBy_36 : decode cX12_coinsBy 36 = .ok (.iload_n 2, 1) := by decide +kernel
theorem dX12_coinsBy_37 : decode cX12_coinsBy 37 = .ok (.iload 5, 2) := by decide +kernel
theorem dX12_coinsBy_39 : decode cX12_coinsBy 39 = .ok (.invokevirtual 458, 3) := by decide +kernel
theorem dX12_coinsBy_42 : decode cX12_coinsBy 42 = .ok (.istore 6, 2) := by decide +kernel
theorem dX12_coinsBy_44 : decode cX12_coinsBy 44 = .ok (.aload_n 0, 1) := by decide +kernel
theorem dX12_coinsBy_45 : decode cX12_coinsBy 45 = .ok (.iload 6, 2) := by decide +kernel
theorem dX12_coinsBy_47 : decode cX12_coinsBy 47 = .ok (.invokevirtual 428, 3) := by decide +kernel
theorem dX12_coinsBy_50 : decode cX12_coinsBy 50 = .ok (.ifCond .ne 5, 3) := by decide +kernel
theorem dX12_coinsBy_53 : decode cX12_coinsBy 53 = .ok (.iconst (-1), 1) := by decide +kernel
theorem dX12_coinsBy_54 : decode cX12_coinsBy 54 = .ok (.ireturn, 1) := by decide +kernel
theorem dX12_coinsBy_55 : decode cX12_coinsBy 55 = .ok (.iload_n 3, 1) := by decide +kernel
theorem dX12_coinsBy_56 : decode cX12_coinsBy 56 = .ok (.iload 6, 2) := by decide +kernel
theorem dX12_coinsBy_58 : decode cX12_coinsBy 58 = .ok (.ishr, 1) := by decide +kernel
theorem dX12_coinsBy_59 : decode cX12_coinsBy 59 = .ok (.iconst 1, 1) := by decide +kernel
theorem dX12_coinsBy_60 : decode cX12_coinsBy 60 = .ok (.iand, 1) := by decide +kernel
theorem dX12_coinsBy_61 : decode cX12_coinsBy 61 = .ok (.iconst 1, 1) := by decide +kernel
theorem dX12_coinsBy_62 : decode cX12_coinsBy 62 = .ok (.if_icmp .ne 7, 3) := by decide +kernel
theorem dX12_coinsBy_65 : decode cX12_coinsBy 65 = .ok (.iconst 1, 1) := by decide +kernel
theorem dX12_coinsBy_66 : decode cX12_coinsBy 66 = .ok (.goto 4, 3) := by decide +kernel
theorem dX12_coinsBy_69 : decode cX12_coinsBy 69 = .ok (.iconst 0, 1) := by decide +kernel
theorem dX12_coinsBy_70 : decode cX12_coinsBy 70 = .ok (.istore 7, 2) := by decide +kernel
theorem dX12_coinsBy_72 : decode cX12_coinsBy 72 = .ok (.iload 7, 2) := by decide +kernel
theorem dX12_coinsBy_74 : decode cX12_coinsBy 74 = .ok (.ifCond .eq 23, 3) := by decide +kernel
theorem dX12_coinsBy_77 : decode cX12_coinsBy 77 = .ok (.aload_n 0, 1) := by decide +kernel
theorem dX12_coinsBy_78 : decode cX12_coinsBy 78 = .ok (.getfield 76, 3) := by decide +kernel
theorem dX12_coinsBy_81 : decode cX12_coinsBy 81 = .ok (.bipush 7, 2) := by decide +kernel
theorem dX12_coinsBy_83 : decode cX12_coinsBy 83 = .ok (.aload_n 0, 1) := by decide +kernel
theorem dX12_coinsBy_84 : decode cX12_coinsBy 84 = .ok (.getfield 266, 3) := by decide +kernel
theorem dX12_coinsBy_87 : decode cX12_coinsBy 87 = .ok (.imul, 1) := by decide +kernel
theorem dX12_coinsBy_88 : decode cX12_coinsBy 88 = .ok (.iload 6, 2) := by decide +kernel
theorem dX12_coinsBy_90 : decode cX12_coinsBy 90 = .ok (.iadd, 1) := by decide +kernel
theorem dX12_coinsBy_91 : decode cX12_coinsBy 91 = .ok (.baload, 1) := by decide +kernel
theorem dX12_coinsBy_92 : decode cX12_coinsBy 92 = .ok (.ifCond .eq 5, 3) := by decide +kernel
theorem dX12_coinsBy_95 : decode cX12_coinsBy 95 = .ok (.iconst (-1), 1) := by decide +kernel
theorem dX12_coinsBy_96 : decode cX12_coinsBy 96 = .ok (.ireturn, 1) := by decide +kernel
theorem dX12_coinsBy_97 : decode cX12_coinsBy 97 = .ok (.iload 7, 2) := by decide +kernel
theorem dX12_coinsBy_99 : decode cX12_coinsBy 99 = .ok (.ifCond .ne 32, 3) := by decide +kernel
theorem dX12_coinsBy_102 : decode cX12_coinsBy 102 = .ok (.aload_n 0, 1) := by decide +kernel
theorem dX12_coinsBy_103 : decode cX12_coinsBy 103 = .ok (.iload 6, 2) := by decide +kernel
theorem dX12_coinsBy_105 : decode cX12_coinsBy 105 = .ok (.invokevirtual 431, 3) := by decide +kernel
theorem dX12_coinsBy_108 : decode cX12_coinsBy 108 = .ok (.ifCond .ne 23, 3) := by decide +kernel
theorem dX12_coinsBy_111 : decode cX12_coinsBy 111 = .ok (.iload 4, 2) := by decide +kernel
theorem dX12_coinsBy_113 : decode cX12_coinsBy 113 = .ok (.aload_n 0, 1) := by decide +kernel
theorem dX12_coinsBy_114 : decode cX12_coinsBy 114 = .ok (.getfield 64, 3) := by decide +kernel
theorem dX12_coinsBy_117 : decode cX12_coinsBy 117 = .ok (.bipush 7, 2) := by decide +kernel
theorem dX12_coinsBy_119 : decode cX12_coinsBy 119 = .ok (.aload_n 0, 1) := by decide +kernel
theorem dX12_coinsBy_120 : decode cX12_coinsBy 120 = .ok (.getfield 266, 3) := by decide +kernel
theorem dX12_coinsBy_123 : decode cX12_coinsBy 123 = .ok (.imul, 1) := by decide +kernel
theorem dX12_coinsBy_124 : decode cX12_coinsBy 124 = .ok (.iload 6, 2) := by decide +kernel
theorem dX12_coinsBy_126 : decode cX12_coinsBy 126 = .ok (.iadd, 1) := by decide +kernel
theorem dX12_coinsBy_127 : decode cX12_coinsBy 127 = .ok (.iaload, 1) := by decide +kernel
theorem dX12_coinsBy_128 : decode cX12_coinsBy 128 = .ok (.iadd, 1) := by decide +kernel
theorem dX12_coinsBy_129 : decode cX12_coinsBy 129 = .ok (.istore 4, 2) := by decide +kernel
theorem dX12_coinsBy_131 : decode cX12_coinsBy 131 = .ok (.iload_n 3, 1) := by decide +kernel
theorem dX12_coinsBy_132 : decode cX12_coinsBy 132 = .ok (.iconst 1, 1) := by decide +kernel
theorem dX12_coinsBy_133 : decode cX12_coinsBy 133 = .ok (.iload 6, 2) := by decide +kernel
theorem dX12_coinsBy_135 : decode cX12_coinsBy 135 = .ok (.ishl, 1) := by decide +kernel
theorem dX12_coinsBy_136 : decode cX12_coinsBy 136 = .ok (.ior, 1) := by decide +kernel
theorem dX12_coinsBy_137 : decode cX12_coinsBy 137 = .ok (.istore_n 3, 1) := by decide +kernel
theorem dX12_coinsBy_138 : decode cX12_coinsBy 138 = .ok (.iinc 5 1, 3) := by decide +kernel
theorem dX12_coinsBy_141 : decode cX12_coinsBy 141 = .ok (.goto (-133), 3) := by decide +kernel
theorem dX12_coinsBy_144 : decode cX12_coinsBy 144 = .ok (.iload 4, 2) := by decide +kernel
theorem dX12_coinsBy_146 : decode cX12_coinsBy 146 = .ok (.ireturn, 1) := by decide +kernel
def c_X12_coinsBy_j131 {ρ : Type}  (z1 : Int32) (z2 : Int32) (K1 : Option ρ) (K2 : Option ρ) (K3 : Int32 → Option ρ) (REC : Int32 → Int32 → Int32 → Option ρ) (x3 : Int32) (x4 : Int32) (x5 : Int32) (x6 : Int32) (h : PH) : Option (ρ) :=
  nm (x3 ||| ((1 : Int32) <<< (x6 &&& 31))) fun v8 =>
  nm (x5 + 1) fun v9 =>
  REC v8 x4 v9
set_option maxHeartbeats 4000000 in
set_option maxRecDepth 100000 in
theorem w_X12_coinsBy_j131 {p0 : Program} {l : Launch} {e : Env} {s : State} {m : MethodId} {args : Array Value} {below : List Frame} {meth : Method} {c : Code} {Q : State → Prop} {D : va_G} {G : GG} {A : Nat → Prop} {H0 : Heap} {ad : Nat → Nat} {lay : List KK} {X : va_W} {ρ : Type} {r0 : ρ} {x3 : Int32} {x4 : Int32} {x5 : Int32} {x6 : Int32} {z1 : Int32} {z2 : Int32} {h : PH} {H : Heap} {locs : List Loc} {ls : Array Slot} {K1 : Option ρ} {K2 : Option ρ} {K3 : Int32 → Option ρ} {REC : Int32 → Int32 → Int32 → Option ρ} (hM : CallFix p0 m c cX12_coinsBy 8 s args lw_g RX12) (ho : okX12 lay) (hk1 : ∀ (H : Heap) (locs : List Loc) (ls : Array Slot), K1 = some r0 → Wd D G A H0 ad lay X h s H locs → lv_has ls 8 [] → W p0 l e (rmN 2 46) s m args below meth c H locs 0 0 Q (F0 m 53 ls [])) (hk2 : ∀ (H : Heap) (locs : List Loc) (ls : Array Slot), K2 = some r0 → Wd D G A H0 ad lay X h s H locs → lv_has ls 8 [] → W p0 l e (rmN 2 46) s m args below meth c H locs 0 0 Q (F0 m 95 ls [])) (hk3 : ∀ (x4 : Int32), ∀ (H : Heap) (locs : List Loc) (ls : Array Slot), K3 x4 = some r0 → Wd D G A H0 ad lay X h s H locs → lv_has ls 8 [(4, .int x4)] → W p0 l e (rmN 2 46) s m args below meth c H locs 0 0 Q (F0 m 144 ls [])) (hrec : ∀ (x3 : Int32) (x4 : Int32) (x5 : Int32), ∀ (H : Heap) (locs : List Loc) (ls : Array Slot), REC x3 x4 x5 = some r0 → Wd D G A H0 ad lay X h s H locs → lv_has ls 8 [(0, .ref (ad 0)), (1, .int z1), (2, .int z2), (3, .int x3), (4, .int x4), (5, .int x5)] → W p0 l e (rmN 2 46) s m args below meth c H locs 0 0 Q (F0 m 8 ls [])) (hw : Wd D G A H0 ad lay X h s H locs) (hl : lv_has ls 8 [(0, .ref (ad 0)), (1, .int z1), (2, .int z2), (3, .int x3), (4, .int x4), (5, .int x5), (6, .int x6)]) (hf : c_X12_coinsBy_j131 z1 z2 K1 K2 K3 REC x3 x4 x5 x6 h = some r0) : W p0 l e (rmN 2 46) s m args below meth c H locs 0 0 Q (F0 m 131 ls []) := by
  unfold c_X12_coinsBy_j131 at hf
  refine lv_iload_n hM.1 hM.2.1 dX12_coinsBy_131 rfl (lv_at hl 3 rfl) ?_
  refine lv_iconst (v := 1) hM.1 hM.2.1 dX12_coinsBy_132 ic_1 ?_
  refine lv_iload hM.1 hM.2.1 dX12_coinsBy_133 (lv_at hl 6 rfl) ?_
  refine lv_ishl hM.1 hM.2.1 dX12_coinsBy_135 ?_
  refine lv_ior hM.1 hM.2.1 dX12_coinsBy_136 ?_
  refine x_istore_n hM hf dX12_coinsBy_137 rfl hl (by decide) (fun v8 => [(3, .int v8), (0, .ref (ad 0)), (1, .int z1), (2, .int z2), (4, .int x4), (5, .int x5), (6, .int x6)]) (fun _ => rfl) (fun v8 ls hf hl => ?_)
  refine x_iinc (k := 5) (d := 1) hM hf dX12_coinsBy_138 hl rfl (by decide) (by decide) (fun v9 => [(5, .int v9), (3, .int v8), (0, .ref (ad 0)), (1, .int z1), (2, .int z2), (4, .int x4), (6, .int x6)]) (fun _ => rfl) (fun v9 ls hf hl => ?_)
  refine lv_goto (tgt := 8) hM.1 hM.2.1 dX12_coinsBy_141 (by decide) ?_
  exact hrec _ _ _ _ _ _ hf hw (lv_sub hl [2, 3, 4, 1, 5, 0] rfl)
def c_X12_coinsBy_j97 {ρ : Type}  (z1 : Int32) (z2 : Int32) (K1 : Option ρ) (K2 : Option ρ) (K3 : Int32 → Option ρ) (REC : Int32 → Int32 → Int32 → Option ρ) (x3 : Int32) (x4 : Int32) (x5 : Int32) (x6 : Int32) (x7 : Int32) (h : PH) : Option (ρ) :=
  if x7 = 0 then
    (c_X12_hasNow x6 h).bind fun r10 =>
    if r10 = 0 then
      gd (ixOK ((7 * (h.1 0 18)) + x6) 14) <|
      nm (x4 + (h.1 16 ((7 * (h.1 0 18)) + x6).toNatClampNeg)) fun v11 =>
      c_X12_coinsBy_j131 z1 z2 K1 K2 K3 REC x3 v11 x5 x6 h
    else
      c_X12_coinsBy_j131 z1 z2 K1 K2 K3 REC x3 x4 x5 x6 h
  else
    c_X12_coinsBy_j131 z1 z2 K1 K2 K3 REC x3 x4 x5 x6 h
set_option maxHeartbeats 4000000 in
set_option maxRecDepth 100000 in
theorem w_X12_coinsBy_j97 {p0 : Program} {l : Launch} {e : Env} {s : State} {m : MethodId} {args : Array Value} {below : List Frame} {meth : Method} {c : Code} {Q : State → Prop} {D : va_G} {G : GG} {A : Nat → Prop} {H0 : Heap} {ad : Nat → Nat} {lay : List KK} {X : va_W} {ρ : Type} {r0 : ρ} {x3 : Int32} {x4 : Int32} {x5 : Int32} {x6 : Int32} {x7 : Int32} {z1 : Int32} {z2 : Int32} {h : PH} {H : Heap} {locs : List Loc} {ls : Array Slot} {K1 : Option ρ} {K2 : Option ρ} {K3 : Int32 → Option ρ} {REC : Int32 → Int32 → Int32 → Option ρ} (hM : CallFix p0 m c cX12_coinsBy 8 s args lw_g RX12) (ho : okX12 lay) (hk1 : ∀ (H : Heap) (locs : List Loc) (ls : Array Slot), K1 = some r0 → Wd D G A H0 ad lay X h s H locs → lv_has ls 8 [] → W p0 l e (rmN 2 46) s m args below meth c H locs 0 0 Q (F0 m 53 ls [])) (hk2 : ∀ (H : Heap) (locs : List Loc) (ls : Array Slot), K2 = some r0 → Wd D G A H0 ad lay X h s H locs → lv_has ls 8 [] → W p0 l e (rmN 2 46) s m args below meth c H locs 0 0 Q (F0 m 95 ls [])) (hk3 : ∀ (x4 : Int32), ∀ (H : Heap) (locs : List Loc) (ls : Array Slot), K3 x4 = some r0 → Wd D G A H0 ad lay X h s H locs → lv_has ls 8 [(4, .int x4)] → W p0 l e (rmN 2 46) s m args below meth c H locs 0 0 Q (F0 m 144 ls [])) (hrec : ∀ (x3 : Int32) (x4 : Int32) (x5 : Int32), ∀ (H : Heap) (locs : List Loc) (ls : Array Slot), REC x3 x4 x5 = some r0 → Wd D G A H0 ad lay X h s H locs → lv_has ls 8 [(0, .ref (ad 0)), (1, .int z1), (2, .int z2), (3, .int x3), (4, .int x4), (5, .int x5)] → W p0 l e (rmN 2 46) s m args below meth c H locs 0 0 Q (F0 m 8 ls [])) (hw : Wd D G A H0 ad lay X h s H locs) (hl : lv_has ls 8 [(0, .ref (ad 0)), (1, .int z1), (2, .int z2), (3, .int x3), (4, .int x4), (5, .int x5), (6, .int x6), (7, .int x7)]) (hf : c_X12_coinsBy_j97 z1 z2 K1 K2 K3 REC x3 x4 x5 x6 x7 h = some r0) : W p0 l e (rmN 2 46) s m args below meth c H locs 0 0 Q (F0 m 97 ls []) := by
  unfold c_X12_coinsBy_j97 at hf
  refine lv_iload hM.1 hM.2.1 dX12_coinsBy_97 (lv_at hl 7 rfl) ?_
  refine x_if_ne (tgt := 131) hM hf dX12_coinsBy_99 (by decide) (fun hf => ?_) (fun hf => ?_)
  · exact w_X12_coinsBy_j131 hM ho hk1 hk2 hk3 hrec hw (lv_sub hl [0, 1, 2, 3, 4, 5, 6] rfl) hf
  refine lv_aload_n hM.1 hM.2.1 dX12_coinsBy_102 rfl (lv_at hl 0 rfl) ?_
  refine lv_iload hM.1 hM.2.1 dX12_coinsBy_103 (lv_at hl 6 rfl) ?_
  refine x_callVIr (rest := []) hM hw (ct_X12_hasNow l ho x6) [.int x6] (okX12.o ho) rfl rfl rfl (gi_V ml_X12_431 im_X12_hasNow sl_X12_hasNow in_X12 kc_X12_hasNow) hd_X12_hasNow rfl ⟨Nat.le_of_ble_eq_true rfl, Nat.le_of_ble_eq_true rfl⟩ rfl (Nat.le_of_ble_eq_true rfl) hl.1 hcs0 hf dX12_coinsBy_105 (fun r10 H locs hf hw => ?_)
  refine x_if_ne (tgt := 131) hM hf dX12_coinsBy_108 (by decide) (fun hf => ?_) (fun hf => ?_)
  · exact w_X12_coinsBy_j131 hM ho hk1 hk2 hk3 hrec hw (lv_sub hl [0, 1, 2, 3, 4, 5, 6] rfl) hf
  refine lv_iload hM.1 hM.2.1 dX12_coinsBy_111 (lv_at hl 4 rfl) ?_
  refine lv_aload_n hM.1 hM.2.1 dX12_coinsBy_113 rfl (lv_at hl 0 rfl) ?_
  refine gf_X12_priceOf hM hw (okX12.o ho) fl_X12_64 dX12_coinsBy_114 ?_
  refine lv_bipush (v := 7) hM.1 hM.2.1 dX12_coinsBy_117 (by decide) ?_
  refine lv_aload_n hM.1 hM.2.1 dX12_coinsBy_119 rfl (lv_at hl 0 rfl) ?_
  refine gf_X12_live hM hw (okX12.o ho) fl_X12_266 dX12_coinsBy_120 ?_
  refine lv_imul hM.1 hM.2.1 dX12_coinsBy_123 ?_
  refine lv_iload hM.1 hM.2.1 dX12_coinsBy_124 (lv_at hl 6 rfl) ?_
  refine lv_iadd hM.1 hM.2.1 dX12_coinsBy_126 ?_
  refine x_iald hM hw (okX12.priceOf ho) hf dX12_coinsBy_127 (fun hf => ?_)
  refine lv_iadd hM.1 hM.2.1 dX12_coinsBy_128 ?_
  refine x_istore hM hf dX12_coinsBy_129 hl (by decide) (fun v11 => [(4, .int v11), (0, .ref (ad 0)), (1, .int z1), (2, .int z2), (3, .int x3), (5, .int x5), (6, .int x6), (7, .int x7)]) (fun _ => rfl) (fun v11 ls hf hl => ?_)
  exact w_X12_coinsBy_j131 hM ho hk1 hk2 hk3 hrec hw (lv_sub hl [1, 2, 3, 4, 0, 5, 6] rfl) hf
def c_X12_coinsBy_j70 {ρ : Type}  (z1 : Int32) (z2 : Int32) (K1 : Option ρ) (K2 : Option ρ) (K3 : Int32 → Option ρ) (REC : Int32 → Int32 → Int32 → Option ρ) (x3 : Int32) (x4 : Int32) (x5 : Int32) (x6 : Int32) (y0 : Int32) (h : PH) : Option (ρ) :=
  nm y0 fun v7 =>
  if v7 = 0 then
    c_X12_coinsBy_j97 z1 z2 K1 K2 K3 REC x3 x4 x5 x6 v7 h
  else
    gd (ixOK ((7 * (h.1 0 18)) + x6) 14) <|
    if (h.1 20 ((7 * (h.1 0 18)) + x6).toNatClampNeg) = 0 then
      c_X12_coinsBy_j97 z1 z2 K1 K2 K3 REC x3 x4 x5 x6 v7 h
    else
      K2
set_option maxHeartbeats 4000000 in
set_option maxRecDepth 100000 in
theorem w_X12_coinsBy_j70 {p0 : Program} {l : Launch} {e : Env} {s : State} {m : MethodId} {args : Array Value} {below : List Frame} {meth : Method} {c : Code} {Q : State → Prop} {D : va_G} {G : GG} {A : Nat → Prop} {H0 : Heap} {ad : Nat → Nat} {lay : List KK} {X : va_W} {ρ : Type} {r0 : ρ} {x3 : Int32} {x4 : Int32} {x5 : Int32} {x6 : Int32} {z1 : Int32} {z2 : Int32} {y0 : Int32} {h : PH} {H : Heap} {locs : List Loc} {ls : Array Slot} {K1 : Option ρ} {K2 : Option ρ} {K3 : Int32 → Option ρ} {REC : Int32 → Int32 → Int32 → Option ρ} (hM : CallFix p0 m c cX12_coinsBy 8 s args lw_g RX12) (ho : okX12 lay) (hk1 : ∀ (H : Heap) (locs : List Loc) (ls : Array Slot), K1 = some r0 → Wd D G A H0 ad lay X h s H locs → lv_has ls 8 [] → W p0 l e (rmN 2 46) s m args below meth c H locs 0 0 Q (F0 m 53 ls [])) (hk2 : ∀ (H : Heap) (locs : List Loc) (ls : Array Slot), K2 = some r0 → Wd D G A H0 ad lay X h s H locs → lv_has ls 8 [] → W p0 l e (rmN 2 46) s m args below meth c H locs 0 0 Q (F0 m 95 ls [])) (hk3 : ∀ (x4 : Int32), ∀ (H : Heap) (locs : List Loc) (ls : Array Slot), K3 x4 = some r0 → Wd D G A H0 ad lay X h s H locs → lv_has ls 8 [(4, .int x4)] → W p0 l e (rmN 2 46) s m args below meth c H locs 0 0 Q (F0 m 144 ls [])) (hrec : ∀ (x3 : Int32) (x4 : Int32) (x5 : Int32), ∀ (H : Heap) (locs : List Loc) (ls : Array Slot), REC x3 x4 x5 = some r0 → Wd D G A H0 ad lay X h s H locs → lv_has ls 8 [(0, .ref (ad 0)), (1, .int z1), (2, .int z2), (3, .int x3), (4, .int x4), (5, .int x5)] → W p0 l e (rmN 2 46) s m args below meth c H locs 0 0 Q (F0 m 8 ls [])) (hw : Wd D G A H0 ad lay X h s H locs) (hl : lv_has ls 8 [(0, .ref (ad 0)), (1, .int z1), (2, .int z2), (3, .int x3), (4, .int x4), (5, .int x5), (6, .int x6)]) (hf : c_X12_coinsBy_j70 z1 z2 K1 K2 K3 REC x3 x4 x5 x6 y0 h = some r0) : W p0 l e (rmN 2 46) s m args below meth c H locs 0 0 Q (F0 m 70 ls [.int y0]) := by
  unfold c_X12_coinsBy_j70 at hf
  refine x_istore hM hf dX12_coinsBy_70 hl (by decide) (fun v7 => [(7, .int v7), (0, .ref (ad 0)), (1, .int z1), (2, .int z2), (3, .int x3), (4, .int x4), (5, .int x5), (6, .int x6)]) (fun _ => rfl) (fun v7 ls hf hl => ?_)
  refine lv_iload hM.1 hM.2.1 dX12_coinsBy_72 (lv_at hl 0 rfl) ?_
  refine x_if_eq (tgt := 97) hM hf dX12_coinsBy_74 (by decide) (fun hf => ?_) (fun hf => ?_)
  · exact w_X12_coinsBy_j97 hM ho hk1 hk2 hk3 hrec hw (lv_sub hl [1, 2, 3, 4, 5, 6, 7, 0] rfl) hf
  refine lv_aload_n hM.1 hM.2.1 dX12_coinsBy_77 rfl (lv_at hl 1 rfl) ?_
  refine gf_X12_isOnce hM hw (okX12.o ho) fl_X12_76 dX12_coinsBy_78 ?_
  refine lv_bipush (v := 7) hM.1 hM.2.1 dX12_coinsBy_81 (by decide) ?_
  refine lv_aload_n hM.1 hM.2.1 dX12_coinsBy_83 rfl (lv_at hl 1 rfl) ?_
  refine gf_X12_live hM hw (okX12.o ho) fl_X12_266 dX12_coinsBy_84 ?_
  refine lv_imul hM.1 hM.2.1 dX12_coinsBy_87 ?_
  refine lv_iload hM.1 hM.2.1 dX12_coinsBy_88 (lv_at hl 7 rfl) ?_
  refine lv_iadd hM.1 hM.2.1 dX12_coinsBy_90 ?_
  refine x_zald hM hw (okX12.isOnce ho) hf dX12_coinsBy_91 (fun hf => ?_)
  refine x_if_eq (tgt := 97) hM hf dX12_coinsBy_92 (by decide) (fun hf => ?_) (fun hf => ?_)
  · exact w_X12_coinsBy_j97 hM ho hk1 hk2 hk3 hrec hw (lv_sub hl [1, 2, 3, 4, 5, 6, 7, 0] rfl) hf
  exact hk2 _ _ _ hf hw (lv_sub hl [] rfl)
def c_X12_coinsBy_L8b {ρ : Type}  (z1 : Int32) (z2 : Int32) (h : PH) (K1 : Option ρ) (K2 : Option ρ) (K3 : Int32 → Option ρ) (REC : Int32 → Int32 → Int32 → Option ρ) (x3 : Int32) (x4 : Int32) (x5 : Int32) : Option ρ :=
  gd (ixOK (h.1 0 18) 2) <|
  if (h.1 21 (h.1 0 18).toNatClampNeg) ≤ x5 then
    K3 x4
  else
    if ((z1 >>> (x5 &&& 31)) &&& 1) = 0 then
      nm (x5 + 1) fun v12 =>
      REC x3 x4 v12
    else
      (c_X12_excuseIn z1 z2 x5).bind fun r4 =>
      nm r4 fun v5 =>
      (c_X12_isExcuse v5 h).bind fun r6 =>
      if r6 = 0 then
        K1
      else
        if ((x3 >>> (v5 &&& 31)) &&& 1) = 1 then
          c_X12_coinsBy_j70 z1 z2 K1 K2 K3 REC x3 x4 x5 v5 1 h
        else
          c_X12_coinsBy_j70 z1 z2 K1 K2 K3 REC x3 x4 x5 v5 0 h
set_option maxHeartbeats 4000000 in
set_option maxRecDepth 100000 in
theorem w_X12_coinsBy_L8b {p0 : Program} {l : Launch} {e : Env} {s : State} {m : MethodId} {args : Array Value} {below : List Frame} {meth : Method} {c : Code} {Q : State → Prop} {D : va_G} {G : GG} {A : Nat → Prop} {H0 : Heap} {ad : Nat → Nat} {lay : List KK} {X : va_W} {ρ : Type} {r0 : ρ} {z1 : Int32} {z2 : Int32} {x3 : Int32} {x4 : Int32} {x5 : Int32} {h : PH} {H : Heap} {locs : List Loc} {ls : Array Slot} {K1 : Option ρ} {K2 : Option ρ} {K3 : Int32 → Option ρ} {REC : Int32 → Int32 → Int32 → Option ρ} (hM : CallFix p0 m c cX12_coinsBy 8 s args lw_g RX12) (ho : okX12 lay) (hk1 : ∀ (H : Heap) (locs : List Loc) (ls : Array Slot), K1 = some r0 → Wd D G A H0 ad lay X h s H locs → lv_has ls 8 [] → W p0 l e (rmN 2 46) s m args below meth c H locs 0 0 Q (F0 m 53 ls [])) (hk2 : ∀ (H : Heap) (locs : List Loc) (ls : Array Slot), K2 = some r0 → Wd D G A H0 ad lay X h s H locs → lv_has ls 8 [] → W p0 l e (rmN 2 46) s m args below meth c H locs 0 0 Q (F0 m 95 ls [])) (hk3 : ∀ (x4 : Int32), ∀ (H : Heap) (locs : List Loc) (ls : Array Slot), K3 x4 = some r0 → Wd D G A H0 ad lay X h s H locs → lv_has ls 8 [(4, .int x4)] → W p0 l e (rmN 2 46) s m args below meth c H locs 0 0 Q (F0 m 144 ls [])) (hrec : ∀ (x3 : Int32) (x4 : Int32) (x5 : Int32), ∀ (H : Heap) (locs : List Loc) (ls : Array Slot), REC x3 x4 x5 = some r0 → Wd D G A H0 ad lay X h s H locs → lv_has ls 8 [(0, .ref (ad 0)), (1, .int z1), (2, .int z2), (3, .int x3), (4, .int x4), (5, .int x5)] → W p0 l e (rmN 2 46) s m args below meth c H locs 0 0 Q (F0 m 8 ls [])) (hw : Wd D G A H0 ad lay X h s H locs) (hl : lv_has ls 8 [(0, .ref (ad 0)), (1, .int z1), (2, .int z2), (3, .int x3), (4, .int x4), (5, .int x5)]) (hf : c_X12_coinsBy_L8b z1 z2 h K1 K2 K3 REC x3 x4 x5 = some r0) : W p0 l e (rmN 2 46) s m args below meth c H locs 0 0 Q (F0 m 8 ls []) := by
  unfold c_X12_coinsBy_L8b at hf
  refine lv_iload hM.1 hM.2.1 dX12_coinsBy_8 (lv_at hl 5 rfl) ?_
  refine lv_aload_n hM.1 hM.2.1 dX12_coinsBy_10 rfl (lv_at hl 0 rfl) ?_
  refine gf_X12_duties hM hw (okX12.o ho) fl_X12_80 dX12_coinsBy_11 ?_
  refine lv_aload_n hM.1 hM.2.1 dX12_coinsBy_14 rfl (lv_at hl 0 rfl) ?_
  refine gf_X12_live hM hw (okX12.o ho) fl_X12_266 dX12_coinsBy_15 ?_
  refine x_iald hM hw (okX12.duties ho) hf dX12_coinsBy_18 (fun hf => ?_)
  refine x_ic_ge (tgt := 144) hM hf dX12_coinsBy_19 (by decide) (fun hf => ?_) (fun hf => ?_)
  · exact hk3 _ _ _ _ hf hw (lv_sub hl [4] rfl)
  refine lv_iload_n hM.1 hM.2.1 dX12_coinsBy_22 rfl (lv_at hl 1 rfl) ?_
  refine lv_iload hM.1 hM.2.1 dX12_coinsBy_23 (lv_at hl 5 rfl) ?_
  refine lv_ishr hM.1 hM.2.1 dX12_coinsBy_25 ?_
  refine lv_iconst (v := 1) hM.1 hM.2.1 dX12_coinsBy_26 ic_1 ?_
  refine lv_iand hM.1 hM.2.1 dX12_coinsBy_27 ?_
  refine x_if_ne (tgt := 34) hM hf dX12_coinsBy_28 (by decide) (fun hf => ?_) (fun hf => ?_)
  · refine lv_aload_n hM.1 hM.2.1 dX12_coinsBy_34 rfl (lv_at hl 0 rfl) ?_
    refine lv_iload_n hM.1 hM.2.1 dX12_coinsBy_35 rfl (lv_at hl 1 rfl) ?_
    refine lv_iload_n hM.1 hM.2.1 dX12_coinsBy_36 rfl (lv_at hl 2 rfl) ?_
    refine lv_iload hM.1 hM.2.1 dX12_coinsBy_37 (lv_at hl 5 rfl) ?_
    refine x_callVIr (rest := []) hM hw (ct_X12_excuseIn l ho z1 z2 x5) [.int z1, .int z2, .int x5] (okX12.o ho) rfl rfl rfl (gi_V ml_X12_458 im_X12_excuseIn sl_X12_excuseIn in_X12 kc_X12_excuseIn) hd_X12_excuseIn rfl ⟨Nat.le_of_ble_eq_true rfl, Nat.le_of_ble_eq_true rfl⟩ rfl (Nat.le_of_ble_eq_true rfl) hl.1 hcs0 hf dX12_coinsBy_39 (fun r4 H locs hf hw => ?_)
    refine x_istore hM hf dX12_coinsBy_42 hl (by decide) (fun v5 => [(6, .int v5), (0, .ref (ad 0)), (1, .int z1), (2, .int z2), (3, .int x3), (4, .int x4), (5, .int x5)]) (fun _ => rfl) (fun v5 ls hf hl => ?_)
    refine lv_aload_n hM.1 hM.2.1 dX12_coinsBy_44 rfl (lv_at hl 1 rfl) ?_
    refine lv_iload hM.1 hM.2.1 dX12_coinsBy_45 (lv_at hl 0 rfl) ?_
    refine x_callVIr (rest := []) hM hw (ct_X12_isExcuse l ho v5) [.int v5] (okX12.o ho) rfl rfl rfl (gi_V ml_X12_428 im_X12_isExcuse sl_X12_isExcuse in_X12 kc_X12_isExcuse) hd_X12_isExcuse rfl ⟨Nat.le_of_ble_eq_true rfl, Nat.le_of_ble_eq_true rfl⟩ rfl (Nat.le_of_ble_eq_true rfl) hl.1 hcs0 hf dX12_coinsBy_47 (fun r6 H locs hf hw => ?_)
    refine x_if_ne (tgt := 55) hM hf dX12_coinsBy_50 (by decide) (fun hf => ?_) (fun hf => ?_)
    · refine lv_iload_n hM.1 hM.2.1 dX12_coinsBy_55 rfl (lv_at hl 4 rfl) ?_
      refine lv_iload hM.1 hM.2.1 dX12_coinsBy_56 (lv_at hl 0 rfl) ?_
      refine lv_ishr hM.1 hM.2.1 dX12_coinsBy_58 ?_
      refine lv_iconst (v := 1) hM.1 hM.2.1 dX12_coinsBy_59 ic_1 ?_
      refine lv_iand hM.1 hM.2.1 dX12_coinsBy_60 ?_
      refine lv_iconst (v := 1) hM.1 hM.2.1 dX12_coinsBy_61 ic_1 ?_
      refine x_ic_ne (tgt := 69) hM hf dX12_coinsBy_62 (by decide) (fun hf => ?_) (fun hf => ?_)
      · refine lv_iconst (v := 0) hM.1 hM.2.1 dX12_coinsBy_69 ic_0 ?_
        exact w_X12_coinsBy_j70 hM ho hk1 hk2 hk3 hrec hw (lv_sub hl [1, 2, 3, 4, 5, 6, 0] rfl) hf
      refine lv_iconst (v := 1) hM.1 hM.2.1 dX12_coinsBy_65 ic_1 ?_
      refine lv_goto (tgt := 70) hM.1 hM.2.1 dX12_coinsBy_66 (by decide) ?_
      exact w_X12_coinsBy_j70 hM ho hk1 hk2 hk3 hrec hw (lv_sub hl [1, 2, 3, 4, 5, 6, 0] rfl) hf
    exact hk1 _ _ _ hf hw (lv_sub hl [] rfl)
  refine lv_goto (tgt := 138) hM.1 hM.2.1 dX12_coinsBy_31 (by decide) ?_
  refine x_iinc (k := 5) (d := 1) hM hf dX12_coinsBy_138 hl rfl (by decide) (by decide) (fun v12 => [(5, .int v12), (0, .ref (ad 0)), (1, .int z1), (2, .int z2), (3, .int x3), (4, .int x4)]) (fun _ => rfl) (fun v12 ls hf hl => ?_)
  refine lv_goto (tgt := 8) hM.1 hM.2.1 dX12_coinsBy_141 (by decide) ?_
  exact hrec _ _ _ _ _ _ hf hw (lv_sub hl [1, 2, 3, 4, 5, 0] rfl)
set_option maxHeartbeats 4000000 in
set_option maxRecDepth 100000 in
theorem w_X12_coinsBy_L8 {p0 : Program} {l : Launch} {e : Env} {s : State} {m : MethodId} {args : Array Value} {below : List Frame} {meth : Method} {c : Code} {Q : State → Prop} {D : va_G} {G : GG} {A : Nat → Prop} {H0 : Heap} {ad : Nat → Nat} {lay : List KK} {X : va_W} {ρ : Type} {r0 : ρ} {z1 : Int32} {z2 : Int32} {h : PH} {K1 : Option ρ} {K2 : Option ρ} {K3 : Int32 → Option ρ} (hM : CallFix p0 m c cX12_coinsBy 8 s args lw_g RX12) (ho : okX12 lay) (hk1 : ∀ (H : Heap) (locs : List Loc) (ls : Array Slot), K1 = some r0 → Wd D G A H0 ad lay X h s H locs → lv_has ls 8 [] → W p0 l e (rmN 2 46) s m args below meth c H locs 0 0 Q (F0 m 53 ls [])) (hk2 : ∀ (H : Heap) (locs : List Loc) (ls : Array Slot), K2 = some r0 → Wd D G A H0 ad lay X h s H locs → lv_has ls 8 [] → W p0 l e (rmN 2 46) s m args below meth c H locs 0 0 Q (F0 m 95 ls [])) (hk3 : ∀ (x4 : Int32), ∀ (H : Heap) (locs : List Loc) (ls : Array Slot), K3 x4 = some r0 → Wd D G A H0 ad lay X h s H locs → lv_has ls 8 [(4, .int x4)] → W p0 l e (rmN 2 46) s m args below meth c H locs 0 0 Q (F0 m 144 ls [])) (n : Nat) (x3 : Int32) (x4 : Int32) (x5 : Int32) (hf : lq3 (c_X12_coinsBy_L8b z1 z2 h K1 K2 K3) n x3 x4 x5 = some r0) : ∀ (H : Heap) (locs : List Loc) (ls : Array Slot), Wd D G A H0 ad lay X h s H locs → lv_has ls 8 [(0, .ref (ad 0)), (1, .int z1), (2, .int z2), (3, .int x3), (4, .int x4), (5, .int x5)] → W p0 l e (rmN 2 46) s m args below meth c H locs 0 0 Q (F0 m 8 ls []) := by
  exact lq3_i (fun (x3 : Int32) (x4 : Int32) (x5 : Int32) => ∀ (H : Heap) (locs : List Loc) (ls : Array Slot), Wd D G A H0 ad lay X h s H locs → lv_has ls 8 [(0, .ref (ad 0)), (1, .int z1), (2, .int z2), (3, .int x3), (4, .int x4), (5, .int x5)] → W p0 l e (rmN 2 46) s m args below meth c H locs 0 0 Q (F0 m 8 ls [])) (fun REC x3 x4 x5 ih hf H locs ls hw hl => w_X12_coinsBy_L8b hM ho hk1 hk2 hk3 (fun x3 x4 x5 H locs ls hf hw hl => ih x3 x4 x5 hf H locs ls hw hl) hw hl hf) n x3 x4 x5 hf
def c_X12_coinsBy (a1 : Int32) (a2 : Int32) (h : PH) : Option (Int32) :=
  nm (0 : Int32) fun v1 =>
  nm (0 : Int32) fun v2 =>
  nm (0 : Int32) fun v3 =>
  lq3 (c_X12_coinsBy_L8b a1 a2 h
    (some (-1))
    (some (-1))
    (fun w13 =>
      some w13)) fu v1 v2 v3
set_option maxHeartbeats 4000000 in
set_option maxRecDepth 100000 in
theorem ct_X12_coinsBy (l : Launch) {lay : List KK} (ho : okX12 lay) (a1 : Int32) (a2 : Int32) : CtI l yX12_coinsBy cX12_coinsBy 8 (some .int) 2 46 lay (rd (fun h => c_X12_coinsBy a1 a2 h)) (fun ad => [.ref (ad 0), .int a1, .int a2]) := by
  refine CtI.mk' RX12 (by decide) rfl (fun _ => Nat.le_of_ble_eq_true rfl) ?_
  intro p0 e s m args below meth c D G A H0 ad X h r0 H ls Q hM hw hl hf hR
  have hl : lv_has ls 8 [(0, .ref (ad 0)), (1, .int a1), (2, .int a2)] := hl
  obtain ⟨v0, hv0, hr0⟩ : ∃ v0, c_X12_coinsBy a1 a2 h = some v0 ∧ r0 = (v0, h) := rd_some hf
  subst hr0
  have hf := hv0
  unfold c_X12_coinsBy at hf
  refine lv_iconst (v := 0) hM.1 hM.2.1 dX12_coinsBy_0 ic_0 ?_
  refine x_istore_n hM hf dX12_coinsBy_1 rfl hl (by decide) (fun v1 => [(3, .int v1), (0, .ref (ad 0)), (1, .int a1), (2, .int a2)]) (fun _ => rfl) (fun v1 ls hf hl => ?_)
  refine lv_iconst (v := 0) hM.1 hM.2.1 dX12_coinsBy_2 ic_0 ?_
  refine x_istore hM hf dX12_coinsBy_3 hl (by decide) (fun v2 => [(4, .int v2), (3, .int v1), (0, .ref (ad 0)), (1, .int a1), (2, .int a2)]) (fun _ => rfl) (fun v2 ls hf hl => ?_)
  refine lv_iconst (v := 0) hM.1 hM.2.1 dX12_coinsBy_5 ic_0 ?_
  refine x_istore hM hf dX12_coinsBy_6 hl (by decide) (fun v3 => [(5, .int v3), (4, .int v2), (3, .int v1), (0, .ref (ad 0)), (1, .int a1), (2, .int a2)]) (fun _ => rfl) (fun v3 ls hf hl => ?_)
  refine w_X12_coinsBy_L8 hM ho (fun H locs ls hf hw hl => ?_) (fun H locs ls hf hw hl => ?_) (fun w13 H locs ls hf hw hl => ?_) fu _ _ _ hf _ _ _ hw (lv_sub hl [3, 4, 5, 2, 1, 0] rfl)
  · refine lv_iconst (v := (-1)) hM.1 hM.2.1 dX12_coinsBy_53 ic_m1 ?_
    exact hR _ _ _ _ _ _ _ (congrArg (fun z => (z, _)) (Option.some.inj hf)) rfl rfl hw dX12_coinsBy_54
  · refine lv_iconst (v := (-1)) hM.1 hM.2.1 dX12_coinsBy_95 ic_m1 ?_
    exact hR _ _ _ _ _ _ _ (congrArg (fun z => (z, _)) (Option.some.inj hf)) rfl rfl hw dX12_coinsBy_96
  · refine lv_iload hM.1 hM.2.1 dX12_coinsBy_144 (lv_at hl 0 rfl) ?_
    exact hR _ _ _ _ _ _ _ (congrArg (fun z => (z, _)) (Option.some.inj hf)) rfl rfl hw dX12_coinsBy_146
theorem hd_X12_coinsBy : yX12_coinsBy.cls = RX12 ∧ yX12_coinsBy.cls ≠ "java/lang/invoke/MethodHandle" ∧ yX12_coinsBy.cls ≠ "java/lang/invoke/VarHandle" ∧ (parseMethodDescriptor yX12_coinsBy.desc).map (fun d => d.parameters.length) = some 2 := ⟨rfl, by decide, by decide, by decide +kernel⟩
theorem dX12_isPassing_0 : decode cX12_isPassing 0 = .ok (.aload_n 0, 1) := by decide +kernel
theorem dX12_isPassing_1 : decode cX12_isPassing 1 = .ok (.invokevirtual 437, 3) := by decide +kernel
theorem dX12_isPassing_4 : decode cX12_isPassing 4 = .ok (.iload_n 1, 1) := by decide +kernel
theorem dX12_isPassing_5 : decode cX12_isPassing 5 = .ok (.istore 4, 2) := by decide +kernel
theorem dX12_isPassing_7 : decode cX12_isPassing 7 = .ok (.iload 4, 2) := by decide +kernel
theorem dX12_isPassing_9 : decode cX12_isPassing 9 = .ok (.ifCond .eq 140, 3) := by decide +kernel
theorem dX12_isPassing_12 : decode cX12_isPassing 12 = .ok (.iconst 0, 1) := by decide +kernel
theorem dX12_isPassing_13 : decode cX12_isPassing 13 = .ok (.istore 5, 2) := by decide +kernel
theorem dX12_isPassing_15 : decode cX12_isPassing 15 = .ok (.iload 5, 2) := by decide +kernel
theorem dX12_isPassing_17 : decode cX12_isPassing 17 = .ok (.aload_n 0, 1) := by decide +kernel
theorem dX12_isPassing_18 : decode cX12_isPassing 18 = .ok (.getfield 80, 3) := by decide +kernel
theorem dX12_isPassing_21 : decode cX12_isPassing 21 = .ok (.aload_n 0, 1) := by decide +kernel
theorem dX12_isPassing_22 : decode cX12_isPassing 22 = .ok (.getfield 266, 3) := by decide +kernel
theorem dX12_isPassing_25 : decode cX12_isPassing 25 = .ok (.iaload, 1) := by decide +kernel
theorem dX12_isPassing_26 : decode cX12_isPassing 26 = .ok (.if_icmp .ge 106, 3) := by decide +kernel
theorem dX12_isPassing_29 : decode cX12_isPassing 29 = .ok (.iload 4, 2) := by decide +kernel
theorem dX12_isPassing_31 : decode cX12_isPassing 31 = .ok (.iload 5, 2) := by decide +kernel
theorem dX12_isPassing_33 : decode cX12_isPassing 33 = .ok (.ishr, 1) := by decide +kernel
theorem dX12_isPassing_34 : decode cX12_isPassing 34 = .ok (.iconst 1, 1) := by decide +kernel
theorem dX12_isPassing_35 : decode cX12_isPassing 35 = .ok (.iand, 1) := by decide +kernel
theorem dX12_isPassing_36 : decode cX12_isPassing 36 = .ok (.ifCond .eq 90, 3) := by decide +kernel
theorem dX12_isPassing_39 : decode cX12_isPassing 39 = .ok (.aload_n 0, 1) := by decide +kernel
theorem dX12_isPassing_40 : decode cX12_isPassing 40 = .ok (.iload 5, 2) := by decide +kernel
theorem dX12_isPassing_42 : decode cX12_isPassing 42 = .ok (.invokevirtual 376, 3) := by decide +kernel
theorem dX12_isPassing_45 : decode cX12_isPassing 45 = .ok (.aload_n 0, 1) := by decide +kernel
theorem dX12_isPassing_46 : decode cX12_isPassing 46 = .ok (.getfield 149, 3) := by decide +kernel
theorem dX12_isPassing_49 : decode cX12_isPassing 49 = .ok (.iconst 0, 1) := by decide +kernel
theorem dX12_isPassing_50 : decode cX12_isPassing 50 = .ok (.iaload, 1) := by decide +kernel
theorem dX12_isPassing_51 : decode cX12_isPassing 51 = .ok (.if_icmp .eq 6, 3) := by decide +kernel
theorem dX12_isPassing_54 : decode cX12_isPassing 54 = .ok (.goto 72, 3) := by decide +kernel
theorem dX12_isPassing_57 : decode cX12_isPassing 57 = .ok (.aload_n 0, 1) := by decide +kernel
theorem dX12_isPassing_58 : decode cX12_isPassing 58 = .ok (.iload_n 1, 1) := by decide +kernel
theorem dX12_isPassing_59 : decode cX12_isPassing 59 = .ok (.iload_n 2, 1) := by decide +kernel
theorem dX12_isPassing_60 : decode cX12_isPassing 60 = .ok (.iload 5, 2) := by decide +kernel
theorem dX12_isPassing_62 : decode cX12_isPassing 62 = .ok (.invokevirtual 458, 3) := by decide +kernel
theorem dX12_isPassing_65 : decode cX12_isPassing 65 = .ok (.istore 6, 2) := by decide +kernel
theorem dX12_isPassing_67 : decode cX12_isPassing 67 = .ok (.aload_n 0, 1) := by decide +kernel
theorem dX12_isPassing_68 : decode cX12_isPassing 68 = .ok (.iload 6, 2) := by decide +kernel
theorem dX12_isPassing_70 : decode cX12_isPassing 70 = .ok (.iload 5, 2) := by decide +kernel
theorem dX12_isPassing_72 : decode cX12_isPassing 72 = .ok (.invokevirtual 407, 3) := by decide +kernel
theorem dX12_isPassing_75 : decode cX12_isPassing 75 = .ok (.iload_n 3, 1) := by decide +kernel
theorem dX12_isPassing_76 : decode cX12_isPassing 76 = .ok (.if_icmp .ge 5, 3) := by decide +kernel
theorem dX12_isPassing_79 : decode cX12_isPassing 79 = .ok (.iconst 0, 1) := by decide +kernel
theorem dX12_isPassing_80 : decode cX12_isPassing 80 = .ok (.ireturn, 1) := by decide +kernel
theorem dX12_isPassing_81 : decode cX12_isPassing 81 = .ok (.aload_n 0, 1) := by decide +kernel
theorem dX12_isPassing_82 : decode cX12_isPassing 82 = .ok (.iload 6, 2) := by decide +kernel
theorem dX12_isPassing_84 : decode cX12_isPassing 84 = .ok (.iload 5, 2) := by decide +kernel
theorem dX12_isPassing_86 : decode cX12_isPassing 86 = .ok (.invokevirtual 410, 3) := by decide +kernel
theorem dX12_isPassing_89 : decode cX12_isPassing 89 = .ok (.istore 7, 2) := by decide +kernel
theorem dX12_isPassing_91 : decode cX12_isPassing 91 = .ok (.aload_n 0, 1) := by decide +kernel
theorem dX12_isPassing_92 : decode cX12_isPassing 92 = .ok (.getfield 149, 3) := by decide +kernel
theorem dX12_isPassing_95 : decode cX12_isPassing 95 = .ok (.bipush 22, 2) := by decide +kernel
theorem dX12_isPassing_97 : decode cX12_isPassing 97 = .ok (.iload 5, 2) := by decide +kernel
theorem dX12_isPassing_99 : decode cX12_isPassing 99 = .ok (.iadd, 1) := by decide +kernel
theorem dX12_isPassing_100 : decode cX12_isPassing 100 = .ok (.iload 6, 2) := by decide +kernel
theorem dX12_isPassing_102 : decode cX12_isPassing 102 = .ok (.iastore, 1) := by decide +kernel
theorem dX12_isPassing_103 : decode cX12_isPassing 103 = .ok (.aload_n 0, 1) := by decide +kernel
theorem dX12_isPassing_104 : decode cX12_isPassing 104 = .ok (.aload_n 0, 1) := by decide +kernel
theorem dX12_isPassing_105 : decode cX12_isPassing 105 = .ok (.iload 5, 2) := by decide +kernel
theorem dX12_isPassing_107 : decode cX12_isPassing 107 = .ok (.invokevirtual 373, 3) := by decide +kernel
theorem dX12_isPassing_110 : decode cX12_isPassing 110 = .ok (.iload 7, 2) := by decide +kernel
theorem dX12_isPassing_112 : decode cX12_isPassing 112 = .ok (.invokevirtual 413, 3) := by decide +kernel
theorem dX12_isPassing_115 : decode cX12_isPassing 115 = .ok (.iload 4, 2) := by decide +kernel
theorem dX12_isPassing_117 : decode cX12_isPassing 117 = .ok (.iconst 1, 1) := by decide +kernel
theorem dX12_isPassing_118 : decode cX12_isPassing 118 = .ok (.iload 5, 2) := by decide +kernel
theorem dX12_isPassing_120 : decode cX12_isPassing 120 = .ok (.ishl, 1) := by decide +kernel
theorem dX12_isPassing_121 : decode cX12_isPassing 121 = .ok (.iconst (-1), 1) := by decide +kernel
theorem dX12_isPassing_122 : decode cX12_isPassing 122 = .ok (.ixor, 1) := by decide +kernel
theorem dX12_isPassing_123 : decode cX12_isPassing 123 = .ok (.iand, 1) := by decide +kernel
theorem dX12_isPassing_124 : decode cX12_isPassing 124 = .ok (.istore 4, 2) := by decide +kernel
theorem dX12_isPassing_126 : decode cX12_isPassing 126 = .ok (.iinc 5 1, 3) := by decide +kernel
theorem dX12_isPassing_129 : decode cX12_isPassing 129 = .ok (.goto (-114), 3) := by decide +kernel
theorem dX12_isPassing_132 : decode cX12_isPassing 132 = .ok (.aload_n 0, 1) := by decide +kernel
theorem dX12_isPassing_133 : decode cX12_isPassing 133 = .ok (.invokevirtual 419, 3) := by decide +kernel
theorem dX12_isPassing_136 : decode cX12_isPassing 136 = .ok (.aload_n 0, 1) := by decide +kernel
theorem dX12_isPassing_137 : decode cX12_isPassing 137 = .ok (.getfield 149, 3) := by decide +kernel
theorem dX12_isPassing_140 : decode cX12_isPassing 140 = .ok (.iconst 0, 1) := by decide +kernel
theorem dX12_isPassing_141 : decode cX12_isPassing 141 = .ok (.dup2, 1) := by decide +kernel
theorem dX12_isPassing_142 : decode cX12_isPassing 142 = .ok (.iaload, 1) := by decide +kernel
theorem dX12_isPassing_143 : decode cX12_isPassing 143 = .ok (.iconst 1, 1) := by decide +kernel
theorem dX12_isPassing_144 : decode cX12_isPassing 144 = .ok (.iadd, 1) := by decide +kernel
theorem dX12_isPassing_145 : decode cX12_isPassing 145 = .ok (.iastore, 1) := by decide +kernel
theorem dX12_isPassing_146 : decode cX12_isPassing 146 = .ok (.goto (-139), 3) := by decide +kernel
theorem dX12_isPassing_149 : decode cX12_isPassing 149 = .ok (.iconst 1, 1) := by decide +kernel
theorem dX12_isPassing_150 : decode cX12_isPassing 150 = .ok (.ireturn, 1) := by decide +kernel
def c_X12_isPassing_L15b {ρ : Type}  (z1 : Int32) (z2 : Int32) (z3 : Int32) (K1 : PH → Option ρ) (K2 : Int32 → PH → Option ρ) (REC : Int32 → Int32 → PH → Option ρ) (x4 : Int32) (x5 : Int32) (h : PH) : Option ρ :=
  gd (ixOK (h.1 0 18) 2) <|
  if (h.1 21 (h.1 0 18).toNatClampNeg) ≤ x5 then
    K2 x4 h
  else
    if ((x4 >>> (x5 &&& 31)) &&& 1) = 0 then
      nm (x5 + 1) fun v4 =>
      REC x4 v4 h
    else
      (c_X12_dayOf x5 h).bind fun r5 =>
      if r5 = (h.1 44 0) then
        (c_X12_excuseIn z1 z2 x5).bind fun r6 =>
        nm r6 fun v7 =>
        bind2 (c_X12_passesNow v7 x5 h) fun r8 h9 =>
        if z3 ≤ r8 then
          bind2 (c_X12_wearsNow v7 x5 h9) fun r10 h11 =>
          nm r10 fun v12 =>
          gd (ixOK (22 + x5) 40) <| nm (setI h11 44 (22 + x5).toNatClampNeg v7) fun h13 =>
          (c_X12_manOf x5 h13).bind fun r14 =>
          (c_X12_lessTrust r14 v12 h13).bind fun h15 =>
          nm (x4 &&& (((1 : Int32) <<< (x5 &&& 31)) ^^^ (-1))) fun v16 =>
          nm (x5 + 1) fun v17 =>
          REC v16 v17 h15
        else
          K1 h9
      else
        nm (x5 + 1) fun v18 =>
        REC x4 v18 h
set_option maxHeartbeats 4000000 in
set_option maxRecDepth 100000 in
theorem w_X12_isPassing_L15b {p0 : Program} {l : Launch} {e : Env} {s : State} {m : MethodId} {args : Array Value} {below : List Frame} {meth : Method} {c : Code} {Q : State → Prop} {D : va_G} {G : GG} {A : Nat → Prop} {H0 : Heap} {ad : Nat → Nat} {lay : List KK} {X : va_W} {ρ : Type} {r0 : ρ} {z1 : Int32} {z2 : Int32} {z3 : Int32} {x4 : Int32} {x5 : Int32} {h : PH} {H : Heap} {locs : List Loc} {ls : Array Slot} {K1 : PH → Option ρ} {K2 : Int32 → PH → Option ρ} {REC : Int32 → Int32 → PH → Option ρ} (hM : CallFix p0 m c cX12_isPassing 8 s args lw_g RX12) (ho : okX12 lay) (hk1 : ∀ (h : PH), ∀ (H : Heap) (locs : List Loc) (ls : Array Slot), K1 h = some r0 → Wd D G A H0 ad lay X h s H locs → lv_has ls 8 [] → W p0 l e (rmN 6 135) s m args below meth c H locs 0 0 Q (F0 m 79 ls [])) (hk2 : ∀ (x4 : Int32) (h : PH), ∀ (H : Heap) (locs : List Loc) (ls : Array Slot), K2 x4 h = some r0 → Wd D G A H0 ad lay X h s H locs → lv_has ls 8 [(0, .ref (ad 0)), (1, .int z1), (2, .int z2), (3, .int z3), (4, .int x4)] → W p0 l e (rmN 6 135) s m args below meth c H locs 0 0 Q (F0 m 132 ls [])) (hrec : ∀ (x4 : Int32) (x5 : Int32) (h : PH), ∀ (H : Heap) (locs : List Loc) (ls : Array Slot), REC x4 x5 h = some r0 → Wd D G A H0 ad lay X h s H locs → lv_has ls 8 [(0, .ref (ad 0)), (1, .int z1), (2, .int z2), (3, .int z3), (4, .int x4), (5, .int x5)] → W p0 l e (rmN 6 135) s m args below meth c H locs 0 0 Q (F0 m 15 ls [])) (hw : Wd D G A H0 ad lay X h s H locs) (hl : lv_has ls 8 [(0, .ref (ad 0)), (1, .int z1), (2, .int z2), (3, .int z3), (4, .int x4), (5, .int x5)]) (hf : c_X12_isPassing_L15b z1 z2 z3 K1 K2 REC x4 x5 h = some r0) : W p0 l e (rmN 6 135) s m args below meth c H locs 0 0 Q (F0 m 15 ls []) := by
  unfold c_X12_isPassing_L15b at hf
  refine lv_iload hM.1 hM.2.1 dX12_isPassing_15 (lv_at hl 5 rfl) ?_
  refine lv_aload_n hM.1 hM.2.1 dX12_isPassing_17 rfl (lv_at hl 0 rfl) ?_
  refine gf_X12_duties hM hw (okX12.o ho) fl_X12_80 dX12_isPassing_18 ?_
  refine lv_aload_n hM.1 hM.2.1 dX12_isPassing_21 rfl (lv_at hl 0 rfl) ?_
  refine gf_X12_live hM hw (okX12.o ho) fl_X12_266 dX12_isPassing_22 ?_
  refine x_iald hM hw (okX12.duties ho) hf dX12_isPassing_25 (fun hf => ?_)
  refine x_ic_ge (tgt := 132) hM hf dX12_isPassing_26 (by decide) (fun hf => ?_) (fun hf => ?_)
  · exact hk2 _ _ _ _ _ hf hw (lv_sub hl [0, 1, 2, 3, 4] rfl)
  refine lv_iload hM.1 hM.2.1 dX12_isPassing_29 (lv_at hl 4 rfl) ?_
  refine lv_iload hM.1 hM.2.1 dX12_isPassing_31 (lv_at hl 5 rfl) ?_
  refine lv_ishr hM.1 hM.2.1 dX12_isPassing_33 ?_
  refine lv_iconst (v := 1) hM.1 hM.2.1 dX12_isPassing_34 ic_1 ?_
  refine lv_iand hM.1 hM.2.1 dX12_isPassing_35 ?_
  refine x_if_eq (tgt := 126) hM hf dX12_isPassing_36 (by decide) (fun hf => ?_) (fun hf => ?_)
  · refine x_iinc (k := 5) (d := 1) hM hf dX12_isPassing_126 hl rfl (by decide) (by decide) (fun v4 => [(5, .int v4), (0, .ref (ad 0)), (1, .int z1), (2, .int z2), (3, .int z3), (4, .int x4)]) (fun _ => rfl) (fun v4 ls hf hl => ?_)
    refine lv_goto (tgt := 15) hM.1 hM.2.1 dX12_isPassing_129 (by decide) ?_
    exact hrec _ _ _ _ _ _ hf hw (lv_sub hl [1, 2, 3, 4, 5, 0] rfl)
  refine lv_aload_n hM.1 hM.2.1 dX12_isPassing_39 rfl (lv_at hl 0 rfl) ?_
  refine lv_iload hM.1 hM.2.1 dX12_isPassing_40 (lv_at hl 5 rfl) ?_
  refine x_callVIr (rest := []) hM hw (ct_X12_dayOf l ho x5) [.int x5] (okX12.o ho) rfl rfl rfl (gi_V ml_X12_376 im_X12_dayOf sl_X12_dayOf in_X12 kc_X12_dayOf) hd_X12_dayOf rfl ⟨Nat.le_of_ble_eq_true rfl, Nat.le_of_ble_eq_true rfl⟩ rfl (Nat.le_of_ble_eq_true rfl) hl.1 hcs0 hf dX12_isPassing_42 (fun r5 H locs hf hw => ?_)
  refine lv_aload_n hM.1 hM.2.1 dX12_isPassing_45 rfl (lv_at hl 0 rfl) ?_
  refine gf_X12_row hM hw (okX12.o ho) fl_X12_149 dX12_isPassing_46 ?_
  refine lv_iconst (v := 0) hM.1 hM.2.1 dX12_isPassing_49 ic_0 ?_
  refine x_ialdK hM hw (okX12.row ho) 0 (by decide) (by decide) dX12_isPassing_50 ?_
  refine x_ic_eq (tgt := 57) hM hf dX12_isPassing_51 (by decide) (fun hf => ?_) (fun hf => ?_)
  · refine lv_aload_n hM.1 hM.2.1 dX12_isPassing_57 rfl (lv_at hl 0 rfl) ?_
    refine lv_iload_n hM.1 hM.2.1 dX12_isPassing_58 rfl (lv_at hl 1 rfl) ?_
    refine lv_iload_n hM.1 hM.2.1 dX12_isPassing_59 rfl (lv_at hl 2 rfl) ?_
    refine lv_iload hM.1 hM.2.1 dX12_isPassing_60 (lv_at hl 5 rfl) ?_
    refine x_callVIr (rest := []) hM hw (ct_X12_excuseIn l ho z1 z2 x5) [.int z1, .int z2, .int x5] (okX12.o ho) rfl rfl rfl (gi_V ml_X12_458 im_X12_excuseIn sl_X12_excuseIn in_X12 kc_X12_excuseIn) hd_X12_excuseIn rfl ⟨Nat.le_of_ble_eq_true rfl, Nat.le_of_ble_eq_true rfl⟩ rfl (Nat.le_of_ble_eq_true rfl) hl.1 hcs0 hf dX12_isPassing_62 (fun r6 H locs hf hw => ?_)
    refine x_istore hM hf dX12_isPassing_65 hl (by decide) (fun v7 => [(6, .int v7), (0, .ref (ad 0)), (1, .int z1), (2, .int z2), (3, .int z3), (4, .int x4), (5, .int x5)]) (fun _ => rfl) (fun v7 ls hf hl => ?_)
    refine lv_aload_n hM.1 hM.2.1 dX12_isPassing_67 rfl (lv_at hl 1 rfl) ?_
    refine lv_iload hM.1 hM.2.1 dX12_isPassing_68 (lv_at hl 0 rfl) ?_
    refine lv_iload hM.1 hM.2.1 dX12_isPassing_70 (lv_at hl 6 rfl) ?_
    refine x_callVI (rest := []) hM hw (ct_X12_passesNow l ho v7 x5) [.int v7, .int x5] (okX12.o ho) rfl rfl rfl (gi_V ml_X12_407 im_X12_passesNow sl_X12_passesNow in_X12 kc_X12_passesNow) hd_X12_passesNow rfl ⟨Nat.le_of_ble_eq_true rfl, Nat.le_of_ble_eq_true rfl⟩ rfl (Nat.le_of_ble_eq_true rfl) hl.1 hcs0 hf dX12_isPassing_72 (fun r8 h9 H locs hf hw => ?_)
    refine lv_iload_n hM.1 hM.2.1 dX12_isPassing_75 rfl (lv_at hl 4 rfl) ?_
    refine x_ic_ge (tgt := 81) hM hf dX12_isPassing_76 (by decide) (fun hf => ?_) (fun hf => ?_)
    · refine lv_aload_n hM.1 hM.2.1 dX12_isPassing_81 rfl (lv_at hl 1 rfl) ?_
      refine lv_iload hM.1 hM.2.1 dX12_isPassing_82 (lv_at hl 0 rfl) ?_
      refine lv_iload hM.1 hM.2.1 dX12_isPassing_84 (lv_at hl 6 rfl) ?_
      refine x_callVI (rest := []) hM hw (ct_X12_wearsNow l ho v7 x5) [.int v7, .int x5] (okX12.o ho) rfl rfl rfl (gi_V ml_X12_410 im_X12_wearsNow sl_X12_wearsNow in_X12 kc_X12_wearsNow) hd_X12_wearsNow rfl ⟨Nat.le_of_ble_eq_true rfl, Nat.le_of_ble_eq_true rfl⟩ rfl (Nat.le_of_ble_eq_true rfl) hl.1 hcs0 hf dX12_isPassing_86 (fun r10 h11 H locs hf hw => ?_)
      refine x_istore hM hf dX12_isPassing_89 hl (by decide) (fun v12 => [(7, .int v12), (6, .int v7), (0, .ref (ad 0)), (1, .int z1), (2, .int z2), (3, .int z3), (4, .int x4), (5, .int x5)]) (fun _ => rfl) (fun v12 ls hf hl => ?_)
      refine lv_aload_n hM.1 hM.2.1 dX12_isPassing_91 rfl (lv_at hl 2 rfl) ?_
      refine gf_X12_row hM hw (okX12.o ho) fl_X12_149 dX12_isPassing_92 ?_
      refine lv_bipush (v := 22) hM.1 hM.2.1 dX12_isPassing_95 (by decide) ?_
      refine lv_iload hM.1 hM.2.1 dX12_isPassing_97 (lv_at hl 7 rfl) ?_
      refine lv_iadd hM.1 hM.2.1 dX12_isPassing_99 ?_
      refine lv_iload hM.1 hM.2.1 dX12_isPassing_100 (lv_at hl 1 rfl) ?_
      refine x_iast hM hw (okX12.row ho) hf dX12_isPassing_102 (fun h13 H locs hf hw => ?_)
      refine lv_aload_n hM.1 hM.2.1 dX12_isPassing_103 rfl (lv_at hl 2 rfl) ?_
      refine lv_aload_n hM.1 hM.2.1 dX12_isPassing_104 rfl (lv_at hl 2 rfl) ?_
      refine lv_iload hM.1 hM.2.1 dX12_isPassing_105 (lv_at hl 7 rfl) ?_
      refine x_callVIr (rest := [.ref (ad 0)]) hM hw (ct_X12_manOf l ho x5) [.int x5] (okX12.o ho) rfl rfl rfl (gi_V ml_X12_373 im_X12_manOf sl_X12_manOf in_X12 kc_X12_manOf) hd_X12_manOf rfl ⟨Nat.le_of_ble_eq_true rfl, Nat.le_of_ble_eq_true rfl⟩ rfl (Nat.le_of_ble_eq_true rfl) hl.1 hcs0 hf dX12_isPassing_107 (fun r14 H locs hf hw => ?_)
      refine lv_iload hM.1 hM.2.1 dX12_isPassing_110 (lv_at hl 0 rfl) ?_
      refine x_callVV (rest := []) hM hw (ct_X12_lessTrust l ho r14 v12) [.int r14, .int v12] (okX12.o ho) rfl rfl rfl (gi_V ml_X12_413 im_X12_lessTrust sl_X12_lessTrust in_X12 kc_X12_lessTrust) hd_X12_lessTrust rfl ⟨Nat.le_of_ble_eq_true rfl, Nat.le_of_ble_eq_true rfl⟩ rfl (Nat.le_of_ble_eq_true rfl) hl.1 hcs0 hf dX12_isPassing_112 (fun h15 H locs hf hw => ?_)
      refine lv_iload hM.1 hM.2.1 dX12_isPassing_115 (lv_at hl 6 rfl) ?_
      refine lv_iconst (v := 1) hM.1 hM.2.1 dX12_isPassing_117 ic_1 ?_
      refine lv_iload hM.1 hM.2.1 dX12_isPassing_118 (lv_at hl 7 rfl) ?_
      refine lv_ishl hM.1 hM.2.1 dX12_isPassing_120 ?_
      refine lv_iconst (v := (-1)) hM.1 hM.2.1 dX12_isPassing_121 ic_m1 ?_
      refine lv_ixor hM.1 hM.2.1 dX12_isPassing_122 ?_
      refine lv_iand hM.1 hM.2.1 dX12_isPassing_123 ?_
      refine x_istore hM hf dX12_isPassing_124 hl (by decide) (fun v16 => [(4, .int v16), (7, .int v12), (6, .int v7), (0, .ref (ad 0)), (1, .int z1), (2, .int z2), (3, .int z3), (5, .int x5)]) (fun _ => rfl) (fun v16 ls hf hl => ?_)
      refine x_iinc (k := 7) (d := 1) hM hf dX12_isPassing_126 hl rfl (by decide) (by decide) (fun v17 => [(5, .int v17), (4, .int v16), (7, .int v12), (6, .int v7), (0, .ref (ad 0)), (1, .int z1), (2, .int z2), (3, .int z3)]) (fun _ => rfl) (fun v17 ls hf hl => ?_)
      refine lv_goto (tgt := 15) hM.1 hM.2.1 dX12_isPassing_129 (by decide) ?_
      exact hrec _ _ _ _ _ _ hf hw (lv_sub hl [4, 5, 6, 7, 1, 0] rfl)
    exact hk1 _ _ _ _ hf hw (lv_sub hl [] rfl)
  refine lv_goto (tgt := 126) hM.1 hM.2.1 dX12_isPassing_54 (by decide) ?_
  refine x_iinc (k := 5) (d := 1) hM hf dX12_isPassing_126 hl rfl (by decide) (by decide) (fun v18 => [(5, .int v18), (0, .ref (ad 0)), (1, .int z1), (2, .int z2), (3, .int z3), (4, .int x4)]) (fun _ => rfl) (fun v18 ls hf hl => ?_)
  refine lv_goto (tgt := 15) hM.1 hM.2.1 dX12_isPassing_129 (by decide) ?_
  exact hrec _ _ _ _ _ _ hf hw (lv_sub hl [1, 2, 3, 4, 5, 0] rfl)
set_option maxHeartbeats 4000000 in
set_option maxRecDepth 100000 in
theorem w_X12_isPassing_L15 {p0 : Program} {l : Launch} {e : Env} {s : State} {m : MethodId} {args : Array Value} {below : List Frame} {meth : Method} {c : Code} {Q : State → Prop} {D : va_G} {G : GG} {A : Nat → Prop} {H0 : Heap} {ad : Nat → Nat} {lay : List KK} {X : va_W} {ρ : Type} {r0 : ρ} {z1 : Int32} {z2 : Int32} {z3 : Int32} {K1 : PH → Option ρ} {K2 : Int32 → PH → Option ρ} (hM : CallFix p0 m c cX12_isPassing 8 s args lw_g RX12) (ho : okX12 lay) (hk1 : ∀ (h : PH), ∀ (H : Heap) (locs : List Loc) (ls : Array Slot), K1 h = some r0 → Wd D G A H0 ad lay X h s H locs → lv_has ls 8 [] → W p0 l e (rmN 6 135) s m args below meth c H locs 0 0 Q (F0 m 79 ls [])) (hk2 : ∀ (x4 : Int32) (h : PH), ∀ (H : Heap) (locs : List Loc) (ls : Array Slot), K2 x4 h = some r0 → Wd D G A H0 ad lay X h s H locs → lv_has ls 8 [(0, .ref (ad 0)), (1, .int z1), (2, .int z2), (3, .int z3), (4, .int x4)] → W p0 l e (rmN 6 135) s m args below meth c H locs 0 0 Q (F0 m 132 ls [])) (n : Nat) (x4 : Int32) (x5 : Int32) (h : PH) (hf : lq3 (c_X12_isPassing_L15b z1 z2 z3 K1 K2) n x4 x5 h = some r0) : ∀ (H : Heap) (locs : List Loc) (ls : Array Slot), Wd D G A H0 ad lay X h s H locs → lv_has ls 8 [(0, .ref (ad 0)), (1, .int z1), (2, .int z2), (3, .int z3), (4, .int x4), (5, .int x5)] → W p0 l e (rmN 6 135) s m args below meth c H locs 0 0 Q (F0 m 15 ls []) := by
  exact lq3_i (fun (x4 : Int32) (x5 : Int32) (h : PH) => ∀ (H : Heap) (locs : List Loc) (ls : Array Slot), Wd D G A H0 ad lay X h s H locs → lv_has ls 8 [(0, .ref (ad 0)), (1, .int z1), (2, .int z2), (3, .int z3), (4, .int x4), (5, .int x5)] → W p0 l e (rmN 6 135) s m args below meth c H locs 0 0 Q (F0 m 15 ls [])) (fun REC x4 x5 h ih hf H locs ls hw hl => w_X12_isPassing_L15b hM ho hk1 hk2 (fun x4 x5 h H locs ls hf hw hl => ih x4 x5 h hf H locs ls hw hl) hw hl hf) n x4 x5 h hf
def c_X12_isPassing_L7b {ρ : Type}  (z1 : Int32) (z2 : Int32) (z3 : Int32) (K1 : PH → Option ρ) (K2 : PH → Option ρ) (REC : Int32 → PH → Option ρ) (x4 : Int32) (h : PH) : Option ρ :=
  if x4 = 0 then
    K2 h
  else
    nm (0 : Int32) fun v3 =>
    lq3 (c_X12_isPassing_L15b z1 z2 z3
      (fun h19 =>
        K1 h19)
      (fun w20 h21 =>
        (c_X12_mendsAll h21).bind fun h22 =>
        nm (setI h22 44 0 ((h22.1 44 0) + 1)) fun h23 =>
        REC w20 h23)) fu x4 v3 h
set_option maxHeartbeats 4000000 in
set_option maxRecDepth 100000 in
theorem w_X12_isPassing_L7b {p0 : Program} {l : Launch} {e : Env} {s : State} {m : MethodId} {args : Array Value} {below : List Frame} {meth : Method} {c : Code} {Q : State → Prop} {D : va_G} {G : GG} {A : Nat → Prop} {H0 : Heap} {ad : Nat → Nat} {lay : List KK} {X : va_W} {ρ : Type} {r0 : ρ} {z1 : Int32} {z2 : Int32} {z3 : Int32} {x4 : Int32} {h : PH} {H : Heap} {locs : List Loc} {ls : Array Slot} {K1 : PH → Option ρ} {K2 : PH → Option ρ} {REC : Int32 → PH → Option ρ} (hM : CallFix p0 m c cX12_isPassing 8 s args lw_g RX12) (ho : okX12 lay) (hk1 : ∀ (h : PH), ∀ (H : Heap) (locs : List Loc) (ls : Array Slot), K1 h = some r0 → Wd D G A H0 ad lay X h s H locs → lv_has ls 8 [] → W p0 l e (rmN 6 135) s m args below meth c H locs 0 0 Q (F0 m 79 ls [])) (hk2 : ∀ (h : PH), ∀ (H : Heap) (locs : List Loc) (ls : Array Slot), K2 h = some r0 → Wd D G A H0 ad lay X h s H locs → lv_has ls 8 [] → W p0 l e (rmN 6 135) s m args below meth c H locs 0 0 Q (F0 m 149 ls [])) (hrec : ∀ (x4 : Int32) (h : PH), ∀ (H : Heap) (locs : List Loc) (ls : Array Slot), REC x4 h = some r0 → Wd D G A H0 ad lay X h s H locs → lv_has ls 8 [(0, .ref (ad 0)), (1, .int z1), (2, .int z2), (3, .int z3), (4, .int x4)] → W p0 l e (rmN 6 135) s m args below meth c H locs 0 0 Q (F0 m 7 ls [])) (hw : Wd D G A H0 ad lay X h s H locs) (hl : lv_has ls 8 [(0, .ref (ad 0)), (1, .int z1), (2, .int z2), (3, .int z3), (4, .int x4)]) (hf : c_X12_isPassing_L7b z1 z2 z3 K1 K2 REC x4 h = some r0) : W p0 l e (rmN 6 135) s m args below meth c H locs 0 0 Q (F0 m 7 ls []) := by
  unfold c_X12_isPassing_L7b at hf
  refine lv_iload hM.1 hM.2.1 dX12_isPassing_7 (lv_at hl 4 rfl) ?_
  refine x_if_eq (tgt := 149) hM hf dX12_isPassing_9 (by decide) (fun hf => ?_) (fun hf => ?_)
  · exact hk2 _ _ _ _ hf hw (lv_sub hl [] rfl)
  refine lv_iconst (v := 0) hM.1 hM.2.1 dX12_isPassing_12 ic_0 ?_
  refine x_istore hM hf dX12_isPassing_13 hl (by decide) (fun v3 => [(5, .int v3), (0, .ref (ad 0)), (1, .int z1), (2, .int z2), (3, .int z3), (4, .int x4)]) (fun _ => rfl) (fun v3 ls hf hl => ?_)
  refine w_X12_isPassing_L15 hM ho (fun h19 H locs ls hf hw hl => ?_) (fun w20 h21 H locs ls hf hw hl => ?_) fu _ _ _ hf _ _ _ hw (lv_sub hl [1, 2, 3, 4, 5, 0] rfl)
  · exact hk1 _ _ _ _ hf hw hl
  · refine lv_aload_n hM.1 hM.2.1 dX12_isPassing_132 rfl (lv_at hl 0 rfl) ?_
    refine x_callVV (rest := []) hM hw (ct_X12_mendsAll l ho) [] (okX12.o ho) rfl rfl rfl (gi_V ml_X12_419 im_X12_mendsAll sl_X12_mendsAll in_X12 kc_X12_mendsAll) hd_X12_mendsAll rfl ⟨Nat.le_of_ble_eq_true rfl, Nat.le_of_ble_eq_true rfl⟩ rfl (Nat.le_of_ble_eq_true rfl) hl.1 hcs0 hf dX12_isPassing_133 (fun h22 H locs hf hw => ?_)
    refine lv_aload_n hM.1 hM.2.1 dX12_isPassing_136 rfl (lv_at hl 0 rfl) ?_
    refine gf_X12_row hM hw (okX12.o ho) fl_X12_149 dX12_isPassing_137 ?_
    refine lv_iconst (v := 0) hM.1 hM.2.1 dX12_isPassing_140 ic_0 ?_
    refine lv_dup2_11 hM.1 hM.2.1 dX12_isPassing_141 rfl rfl ?_
    refine x_ialdK hM hw (okX12.row ho) 0 (by decide) (by decide) dX12_isPassing_142 ?_
    refine lv_iconst (v := 1) hM.1 hM.2.1 dX12_isPassing_143 ic_1 ?_
    refine lv_iadd hM.1 hM.2.1 dX12_isPassing_144 ?_
    refine x_iastK hM hw (okX12.row ho) 0 (by decide) (by decide) hf dX12_isPassing_145 (fun h23 H locs hf hw => ?_)
    refine lv_goto (tgt := 7) hM.1 hM.2.1 dX12_isPassing_146 (by decide) ?_
    exact hrec _ _ _ _ _ hf hw hl
set_option maxHeartbeats 4000000 in
set_option maxRecDepth 100000 in
theorem w_X12_isPassing_L7 {p0 : Program} {l : Launch} {e : Env} {s : State} {m : MethodId} {args : Array Value} {below : List Frame} {meth : Method} {c : Code} {Q : State → Prop} {D : va_G} {G : GG} {A : Nat → Prop} {H0 : Heap} {ad : Nat → Nat} {lay : List KK} {X : va_W} {ρ : Type} {r0 : ρ} {z1 : Int32} {z2 : Int32} {z3 : Int32} {K1 : PH → Option ρ} {K2 : PH → Option ρ} (hM : CallFix p0 m c cX12_isPassing 8 s args lw_g RX12) (ho : okX12 lay) (hk1 : ∀ (h : PH), ∀ (H : Heap) (locs : List Loc) (ls : Array Slot), K1 h = some r0 → Wd D G A H0 ad lay X h s H locs → lv_has ls 8 [] → W p0 l e (rmN 6 135) s m args below meth c H locs 0 0 Q (F0 m 79 ls [])) (hk2 : ∀ (h : PH), ∀ (H : Heap) (locs : List Loc) (ls : Array Slot), K2 h = some r0 → Wd D G A H0 ad lay X h s H locs → lv_has ls 8 [] → W p0 l e (rmN 6 135) s m args below meth c H locs 0 0 Q (F0 m 149 ls [])) (n : Nat) (x4 : Int32) (h : PH) (hf : lq2 (c_X12_isPassing_L7b z1 z2 z3 K1 K2) n x4 h = some r0) : ∀ (H : Heap) (locs : List Loc) (ls : Array Slot), Wd D G A H0 ad lay X h s H locs → lv_has ls 8 [(0, .ref (ad 0)), (1, .int z1), (2, .int z2), (3, .int z3), (4, .int x4)] → W p0 l e (rmN 6 135) s m args below meth c H locs 0 0 Q (F0 m 7 ls []) := by
  exact lq2_i (fun (x4 : Int32) (h : PH) => ∀ (H : Heap) (locs : List Loc) (ls : Array Slot), Wd D G A H0 ad lay X h s H locs → lv_has ls 8 [(0, .ref (ad 0)), (1, .int z1), (2, .int z2), (3, .int z3), (4, .int x4)] → W p0 l e (rmN 6 135) s m args below meth c H locs 0 0 Q (F0 m 7 ls [])) (fun REC x4 h ih hf H locs ls hw hl => w_X12_isPassing_L7b hM ho hk1 hk2 (fun x4 h H locs ls hf hw hl => ih x4 h hf H locs ls hw hl) hw hl hf) n x4 h hf
def c_X12_isPassing (a1 : Int32) (a2 : Int32) (a3 : Int32) (h : PH) : Option (Int32 × PH) :=
  (c_X12_copies h).bind fun h1 =>
  nm a1 fun v2 =>
  lq2 (c_X12_isPassing_L7b a1 a2 a3
    (fun h24 =>
      some (0, h24))
    (fun h25 =>
      some (1, h25))) fu v2 h1
set_option maxHeartbeats 4000000 in
set_option maxRecDepth 100000 in
theorem ct_X12_isPassing (l : Launch) {lay : List KK} (ho : okX12 lay) (a1 : Int32) (a2 : Int32) (a3 : Int32) : CtI l yX12_isPassing cX12_isPassing 8 (some .boolean) 6 135 lay (fun h => c_X12_isPassing a1 a2 a3 h) (fun ad => [.ref (ad 0), .int a1, .int a2, .int a3]) := by
  refine CtI.mk' RX12 (by decide) rfl (fun _ => Nat.le_of_ble_eq_true rfl) ?_
  intro p0 e s m args below meth c D G A H0 ad X h r0 H ls Q hM hw hl hf hR
  have hl : lv_has ls 8 [(0, .ref (ad 0)), (1, .int a1), (2, .int a2), (3, .int a3)] := hl
  unfold c_X12_isPassing at hf
  refine lv_aload_n hM.1 hM.2.1 dX12_isPassing_0 rfl (lv_at hl 0 rfl) ?_
  refine x_callVV (rest := []) hM hw (ct_X12_copies l ho) [] (okX12.o ho) rfl rfl rfl (gi_V ml_X12_437 im_X12_copies sl_X12_copies in_X12 kc_X12_copies) hd_X12_copies rfl ⟨Nat.le_of_ble_eq_true rfl, Nat.le_of_ble_eq_true rfl⟩ rfl (Nat.le_of_ble_eq_true rfl) hl.1 hcs0 hf dX12_isPassing_1 (fun h1 H locs hf hw => ?_)
  refine lv_iload_n hM.1 hM.2.1 dX12_isPassing_4 rfl (lv_at hl 1 rfl) ?_
  refine x_istore hM hf dX12_isPassing_5 hl (by decide) (fun v2 => [(4, .int v2), (0, .ref (ad 0)), (1, .int a1), (2, .int a2), (3, .int a3)]) (fun _ => rfl) (fun v2 ls hf hl => ?_)
  refine w_X12_isPassing_L7 hM ho (fun h24 H locs ls hf hw hl => ?_) (fun h25 H locs ls hf hw hl => ?_) fu _ _ hf _ _ _ hw (lv_sub hl [1, 2, 3, 4, 0] rfl)
  · refine lv_iconst (v := 0) hM.1 hM.2.1 dX12_isPassing_79 ic_0 ?_
    exact hR _ _ _ _ _ _ _ (Option.some.inj hf) rfl (nar_z (by decide)) hw dX12_isPassing_80
  · refine lv_iconst (v := 1) hM.1 hM.2.1 dX12_isPassing_149 ic_1 ?_
    exact hR _ _ _ _ _ _ _ (Option.some.inj hf) rfl (nar_z (by decide)) hw dX12_isPassing_150
theorem hd_X12_isPassing : yX12_isPassing.cls = RX12 ∧ yX12_isPassing.cls ≠ "java/lang/invoke/MethodHandle" ∧ yX12_isPassing.cls ≠ "java/lang/invoke/VarHandle" ∧ (parseMethodDescriptor yX12_isPassing.desc).map (fun d => d.parameters.length) = some 3 := ⟨rfl, by decide, by decide, by decide +kernel⟩
theorem dX12_areToCome_0 : decode cX12_areToCome 0 = .ok (.iconst 0, 1) := by decide +kernel
theorem dX12_areToCome_1 : decode cX12_areToCome 1 = .ok (.istore_n 2, 1) := by decide +kernel
theorem dX12_areToCome_2 : decode cX12_areToCome 2 = .ok (.iload_n 2, 1) := by decide +kernel
theorem dX12_areToCome_3 : decode cX12_areToCome 3 = .ok (.aload_n 0, 1) := by decide +kernel
theorem dX12_areToCome_4 : decode cX12_areToCome 4 = .ok (.getfield 80, 3) := by decide +kernel
theorem dX12_areToCome_7 : decode cX12_areToCome 7 = .ok (.aload_n 0, 1) := by decide +kernel
theorem dX12_areToCome_8 : decode cX12_areToCome 8 = .ok (.getfield 266, 3) := by decide +kernel
theorem dX12_areToCome_11 : decode cX12_areToCome 11 = .ok (.iaload, 1) := by decide +kernel
theorem dX12_areToCome_12 : decode cX12_areToCome 12 = .ok (.if_icmp .ge 32, 3) := by decide +kernel
theorem dX12_areToCome_15 : decode cX12_areToCome 15 = .ok (.iload_n 1, 1) := by decide +kernel
theorem dX12_areToCome_16 : decode cX12_areToCome 16 = .ok (.iload_n 2, 1) := by decide +kernel
theorem dX12_areToCome_17 : decode cX12_areToCome 17 = .ok (.ishr, 1) := by decide +kernel
theorem dX12_areToCome_18 : decode cX12_areToCome 18 = .ok (.iconst 1, 1) := by decide +kernel
theorem dX12_areToCome_19 : decode cX12_areToCome 19 = .ok (.iand, 1) := by decide +kernel
theorem dX12_areToCome_20 : decode cX12_areToCome 20 = .ok (.iconst 1, 1) := by decide +kernel
theorem dX12_areToCome_21 : decode cX12_areToCome 21 = .ok (.if_icmp .ne 17, 3) := by decide +kernel
theorem dX12_areToCome_24 : decode cX12_areToCome 24 = .ok (.aload_n 0, 1) := by decide +kernel
theorem dX12_areToCome_25 : decode cX12_areToCome 25 = .ok (.getfield 146, 3) := by decide +kernel
theorem dX12_areToCome_28 : decode cX12_areToCome 28 = .ok (.bipush 13, 2) := by decide +kernel
theorem dX12_areToCome_30 : decode cX12_areToCome 30 = .ok (.iload_n 2, 1) := by decide +kernel
theorem dX12_areToCome_31 : decode cX12_areToCome 31 = .ok (.iadd, 1) := by decide +kernel
theorem dX12_areToCome_32 : decode cX12_areToCome 32 = .ok (.iaload, 1) := by decide +kernel
theorem dX12_areToCome_33 : decode cX12_areToCome 33 = .ok (.ifCond .eq 5, 3) := by decide +kernel
theorem dX12_areToCome_36 : decode cX12_areToCome 36 = .ok (.iconst 0, 1) := by decide +kernel
theorem dX12_areToCome_37 : decode cX12_areToCome 37 = .ok (.ireturn, 1) := by decide +kernel
theorem dX12_areToCome_38 : decode cX12_areToCome 38 = .ok (.iinc 2 1, 3) := by decide +kernel
theorem dX12_areToCome_41 : decode cX12_areToCome 41 = .ok (.goto (-39), 3) := by decide +kernel
theorem dX12_areToCome_44 : decode cX12_areToCome 44 = .ok (.iconst 1, 1) := by decide +kernel
theorem dX12_areToCome_45 : decode cX12_areToCome 45 = .ok (.ireturn, 1) := by decide +kernel
def c_X12_areToCome_L2b {ρ : Type}  (z1 : Int32) (h : PH) (K1 : Option ρ) (K2 : Option ρ) (REC : Int32 → Option ρ) (x2 : Int32) : Option ρ :=
  gd (ixOK (h.1 0 18) 2) <|
  if (h.1 21 (h.1 0 18).toNatClampNeg) ≤ x2 then
    K2
  else
    if ((z1 >>> (x2 &&& 31)) &&& 1) = 1 then
      gd (ixOK (13 + x2) 40) <|
      if (h.1 43 (13 + x2).toNatClampNeg) = 0 then
        nm (x2 + 1) fun v3 =>
        REC v3
      else
        K1
    else
      nm (x2 + 1) fun v2 =>
      REC v2
set_option maxHeartbeats 4000000 in
set_option maxRecDepth 100000 in
theorem w_X12_areToCome_L2b {p0 : Program} {l : Launch} {e : Env} {s : State} {m : MethodId} {args : Array Value} {below : List Frame} {meth : Method} {c : Code} {Q : State → Prop} {D : va_G} {G : GG} {A : Nat → Prop} {H0 : Heap} {ad : Nat → Nat} {lay : List KK} {X : va_W} {ρ : Type} {r0 : ρ} {z1 : Int32} {x2 : Int32} {h : PH} {H : Heap} {locs : List Loc} {ls : Array Slot} {K1 : Option ρ} {K2 : Option ρ} {REC : Int32 → Option ρ} (hM : CallFix p0 m c cX12_areToCome 3 s args lw_g RX12) (ho : okX12 lay) (hk1 : ∀ (H : Heap) (locs : List Loc) (ls : Array Slot), K1 = some r0 → Wd D G A H0 ad lay X h s H locs → lv_has ls 3 [] → W p0 l e (rmN 0 0) s m args below meth c H locs 0 0 Q (F0 m 36 ls [])) (hk2 : ∀ (H : Heap) (locs : List Loc) (ls : Array Slot), K2 = some r0 → Wd D G A H0 ad lay X h s H locs → lv_has ls 3 [] → W p0 l e (rmN 0 0) s m args below meth c H locs 0 0 Q (F0 m 44 ls [])) (hrec : ∀ (x2 : Int32), ∀ (H : Heap) (locs : List Loc) (ls : Array Slot), REC x2 = some r0 → Wd D G A H0 ad lay X h s H locs → lv_has ls 3 [(0, .ref (ad 0)), (1, .int z1), (2, .int x2)] → W p0 l e (rmN 0 0) s m args below meth c H locs 0 0 Q (F0 m 2 ls [])) (hw : Wd D G A H0 ad lay X h s H locs) (hl : lv_has ls 3 [(0, .ref (ad 0)), (1, .int z1), (2, .int x2)]) (hf : c_X12_areToCome_L2b z1 h K1 K2 REC x2 = some r0) : W p0 l e (rmN 0 0) s m args below meth c H locs 0 0 Q (F0 m 2 ls []) := by
  unfold c_X12_areToCome_L2b at hf
  refine lv_iload_n hM.1 hM.2.1 dX12_areToCome_2 rfl (lv_at hl 2 rfl) ?_
  refine lv_aload_n hM.1 hM.2.1 dX12_areToCome_3 rfl (lv_at hl 0 rfl) ?_
  refine gf_X12_duties hM hw (okX12.o ho) fl_X12_80 dX12_areToCome_4 ?_
  refine lv_aload_n hM.1 hM.2.1 dX12_areToCome_7 rfl (lv_at hl 0 rfl) ?_
  refine gf_X12_live hM hw (okX12.o ho) fl_X12_266 dX12_areToCome_8 ?_
  refine x_iald hM hw (okX12.duties ho) hf dX12_areToCome_11 (fun hf => ?_)
  refine x_ic_ge (tgt := 44) hM hf dX12_areToCome_12 (by decide) (fun hf => ?_) (fun hf => ?_)
  · exact hk2 _ _ _ hf hw (lv_sub hl [] rfl)
  refine lv_iload_n hM.1 hM.2.1 dX12_areToCome_15 rfl (lv_at hl 1 rfl) ?_
  refine lv_iload_n hM.1 hM.2.1 dX12_areToCome_16 rfl (lv_at hl 2 rfl) ?_
  refine lv_ishr hM.1 hM.2.1 dX12_areToCome_17 ?_
  refine lv_iconst (v := 1) hM.1 hM.2.1 dX12_areToCome_18 ic_1 ?_
  refine lv_iand hM.1 hM.2.1 dX12_areToCome_19 ?_
  refine lv_iconst (v := 1) hM.1 hM.2.1 dX12_areToCome_20 ic_1 ?_
  refine x_ic_ne (tgt := 38) hM hf dX12_areToCome_21 (by decide) (fun hf => ?_) (fun hf => ?_)
  · refine x_iinc (k := 2) (d := 1) hM hf dX12_areToCome_38 hl rfl (by decide) (by decide) (fun v2 => [(2, .int v2), (0, .ref (ad 0)), (1, .int z1)]) (fun _ => rfl) (fun v2 ls hf hl => ?_)
    refine lv_goto (tgt := 2) hM.1 hM.2.1 dX12_areToCome_41 (by decide) ?_
    exact hrec _ _ _ _ hf hw (lv_sub hl [1, 2, 0] rfl)
  refine lv_aload_n hM.1 hM.2.1 dX12_areToCome_24 rfl (lv_at hl 0 rfl) ?_
  refine gf_X12_now hM hw (okX12.o ho) fl_X12_146 dX12_areToCome_25 ?_
  refine lv_bipush (v := 13) hM.1 hM.2.1 dX12_areToCome_28 (by decide) ?_
  refine lv_iload_n hM.1 hM.2.1 dX12_areToCome_30 rfl (lv_at hl 2 rfl) ?_
  refine lv_iadd hM.1 hM.2.1 dX12_areToCome_31 ?_
  refine x_iald hM hw (okX12.now ho) hf dX12_areToCome_32 (fun hf => ?_)
  refine x_if_eq (tgt := 38) hM hf dX12_areToCome_33 (by decide) (fun hf => ?_) (fun hf => ?_)
  · refine x_iinc (k := 2) (d := 1) hM hf dX12_areToCome_38 hl rfl (by decide) (by decide) (fun v3 => [(2, .int v3), (0, .ref (ad 0)), (1, .int z1)]) (fun _ => rfl) (fun v3 ls hf hl => ?_)
    refine lv_goto (tgt := 2) hM.1 hM.2.1 dX12_areToCome_41 (by decide) ?_
    exact hrec _ _ _ _ hf hw (lv_sub hl [1, 2, 0] rfl)
  exact hk1 _ _ _ hf hw (lv_sub hl [] rfl)
set_option maxHeartbeats 4000000 in
set_option maxRecDepth 100000 in
theorem w_X12_areToCome_L2 {p0 : Program} {l : Launch} {e : Env} {s : State} {m : MethodId} {args : Array Value} {below : List Frame} {meth : Method} {c : Code} {Q : State → Prop} {D : va_G} {G : GG} {A : Nat → Prop} {H0 : Heap} {ad : Nat → Nat} {lay : List KK} {X : va_W} {ρ : Type} {r0 : ρ} {z1 : Int32} {h : PH} {K1 : Option ρ} {K2 : Option ρ} (hM : CallFix p0 m c cX12_areToCome 3 s args lw_g RX12) (ho : okX12 lay) (hk1 : ∀ (H : Heap) (locs : List Loc) (ls : Array Slot), K1 = some r0 → Wd D G A H0 ad lay X h s H locs → lv_has ls 3 [] → W p0 l e (rmN 0 0) s m args below meth c H locs 0 0 Q (F0 m 36 ls [])) (hk2 : ∀ (H : Heap) (locs : List Loc) (ls : Array Slot), K2 = some r0 → Wd D G A H0 ad lay X h s H locs → lv_has ls 3 [] → W p0 l e (rmN 0 0) s m args below meth c H locs 0 0 Q (F0 m 44 ls [])) (n : Nat) (x2 : Int32) (hf : lq1 (c_X12_areToCome_L2b z1 h K1 K2) n x2 = some r0) : ∀ (H : Heap) (locs : List Loc) (ls : Array Slot), Wd D G A H0 ad lay X h s H locs → lv_has ls 3 [(0, .ref (ad 0)), (1, .int z1), (2, .int x2)] → W p0 l e (rmN 0 0) s m args below meth c H locs 0 0 Q (F0 m 2 ls []) := by
  exact lq1_i (fun (x2 : Int32) => ∀ (H : Heap) (locs : List Loc) (ls : Array Slot), Wd D G A H0 ad lay X h s H locs → lv_has ls 3 [(0, .ref (ad 0)), (1, .int z1), (2, .int x2)] → W p0 l e (rmN 0 0) s m args below meth c H locs 0 0 Q (F0 m 2 ls [])) (fun REC x2 ih hf H locs ls hw hl => w_X12_areToCome_L2b hM ho hk1 hk2 (fun x2 H locs ls hf hw hl => ih x2 hf H locs ls hw hl) hw hl hf) n x2 hf
def c_X12_areToCome (a1 : Int32) (h : PH) : Option (Int32) :=
  nm (0 : Int32) fun v1 =>
  lq1 (c_X12_areToCome_L2b a1 h
    (some 0)
    (some 1)) fu v1
set_option maxHeartbeats 4000000 in
set_option maxRecDepth 100000 in
theorem ct_X12_areToCome (l : Launch) {lay : List KK} (ho : okX12 lay) (a1 : Int32) : CtI l yX12_areToCome cX12_areToCome 3 (some .boolean) 0 0 lay (rd (fun h => c_X12_areToCome a1 h)) (fun ad => [.ref (ad 0), .int a1]) := by
  refine CtI.mk' RX12 (by decide) rfl (fun _ => Nat.le_of_ble_eq_true rfl) ?_
  intro p0 e s m args below meth c D G A H0 ad X h r0 H ls Q hM hw hl hf hR
  have hl : lv_has ls 3 [(0, .ref (ad 0)), (1, .int a1)] := hl
  obtain ⟨v0, hv0, hr0⟩ : ∃ v0, c_X12_areToCome a1 h = some v0 ∧ r0 = (v0, h) := rd_some hf
  subst hr0
  have hf := hv0
  unfold c_X12_areToCome at hf
  refine lv_iconst (v := 0) hM.1 hM.2.1 dX12_areToCome_0 ic_0 ?_
  refine x_istore_n hM hf dX12_areToCome_1 rfl hl (by decide) (fun v1 => [(2, .int v1), (0, .ref (ad 0)), (1, .int a1)]) (fun _ => rfl) (fun v1 ls hf hl => ?_)
  refine w_X12_areToCome_L2 hM ho (fun H locs ls hf hw hl => ?_) (fun H locs ls hf hw hl => ?_) fu _ hf _ _ _ hw (lv_sub hl [1, 2, 0] rfl)
  · refine lv_iconst (v := 0) hM.1 hM.2.1 dX12_areToCome_36 ic_0 ?_
    exact hR _ _ _ _ _ _ _ (congrArg (fun z => (z, _)) (Option.some.inj hf)) rfl (nar_z (by decide)) hw dX12_areToCome_37
  · refine lv_iconst (v := 1) hM.1 hM.2.1 dX12_areToCome_44 ic_1 ?_
    exact hR _ _ _ _ _ _ _ (congrArg (fun z => (z, _)) (Option.some.inj hf)) rfl (nar_z (by decide)) hw dX12_areToCome_45
theorem hd_X12_areToCome : yX12_areToCome.cls = RX12 ∧ yX12_areToCome.cls ≠ "java/lang/invoke/MethodHandle" ∧ yX12_areToCome.cls ≠ "java/lang/invoke/VarHandle" ∧ (parseMethodDescriptor yX12_areToCome.desc).map (fun d => d.parameters.length) = some 1 := ⟨rfl, by decide, by decide, by decide +kernel⟩
theorem dX12_fillsBuy_0 : decode cX12_fillsBuy 0 = .ok (.aload_n 0, 1) := by decide +kernel
theorem dX12_fillsBuy_1 : decode cX12_fillsBuy 1 = .ok (.bipush (-2), 2) := by decide +kernel
theorem dX12_fillsBuy_3 : decode cX12_fillsBuy 3 = .ok (.putfield 461, 3) := by decide +kernel
theorem dX12_fillsBuy_6 : decode cX12_fillsBuy 6 = .ok (.aload_n 0, 1) := by decide +kernel
theorem dX12_fillsBuy_7 : decode cX12_fillsBuy 7 = .ok (.bipush (-2), 2) := by decide +kernel
theorem dX12_fillsBuy_9 : decode cX12_fillsBuy 9 = .ok (.putfield 464, 3) := by decide +kernel
theorem dX12_fillsBuy_12 : decode cX12_fillsBuy 12 = .ok (.aload_n 0, 1) := by decide +kernel
theorem dX12_fillsBuy_13 : decode cX12_fillsBuy 13 = .ok (.iload_n 1, 1) := by decide +kernel
theorem dX12_fillsBuy_14 : decode cX12_fillsBuy 14 = .ok (.invokevirtual 467, 3) := by decide +kernel
theorem dX12_fillsBuy_17 : decode cX12_fillsBuy 17 = .ok (.ifCond .ne 4, 3) := by decide +kernel
theorem dX12_fillsBuy_20 : decode cX12_fillsBuy 20 = .ok (.return_, 1) := by decide +kernel
theorem dX12_fillsBuy_21 : decode cX12_fillsBuy 21 = .ok (.iconst 0, 1) := by decide +kernel
theorem dX12_fillsBuy_22 : decode cX12_fillsBuy 22 = .ok (.istore_n 3, 1) := by decide +kernel
theorem dX12_fillsBuy_23 : decode cX12_fillsBuy 23 = .ok (.iload_n 3, 1) := by decide +kernel
theorem dX12_fillsBuy_24 : decode cX12_fillsBuy 24 = .ok (.iload_n 1, 1) := by decide +kernel
theorem dX12_fillsBuy_25 : decode cX12_fillsBuy 25 = .ok (.invokestatic 452, 3) := by decide +kernel
theorem dX12_fillsBuy_28 : decode cX12_fillsBuy 28 = .ok (.invokestatic 455, 3) := by decide +kernel
theorem dX12_fillsBuy_31 : decode cX12_fillsBuy 31 = .ok (.if_icmp .ge 62, 3) := by decide +kernel
theorem dX12_fillsBuy_34 : decode cX12_fillsBuy 34 = .ok (.aload_n 0, 1) := by decide +kernel
theorem dX12_fillsBuy_35 : decode cX12_fillsBuy 35 = .ok (.iload_n 1, 1) := by decide +kernel
theorem dX12_fillsBuy_36 : decode cX12_fillsBuy 36 = .ok (.iload_n 3, 1) := by decide +kernel
theorem dX12_fillsBuy_37 : decode cX12_fillsBuy 37 = .ok (.invokevirtual 470, 3) := by decide +kernel
theorem dX12_fillsBuy_40 : decode cX12_fillsBuy 40 = .ok (.istore 4, 2) := by decide +kernel
theorem dX12_fillsBuy_42 : decode cX12_fillsBuy 42 = .ok (.iload 4, 2) := by decide +kernel
theorem dX12_fillsBuy_44 : decode cX12_fillsBuy 44 = .ok (.ifCond .lt 43, 3) := by decide +kernel
theorem dX12_fillsBuy_47 : decode cX12_fillsBuy 47 = .ok (.aload_n 0, 1) := by decide +kernel
theorem dX12_fillsBuy_48 : decode cX12_fillsBuy 48 = .ok (.getfield 461, 3) := by decide +kernel
theorem dX12_fillsBuy_51 : decode cX12_fillsBuy 51 = .ok (.ifCond .lt 12, 3) := by decide +kernel
theorem dX12_fillsBuy_54 : decode cX12_fillsBuy 54 = .ok (.iload 4, 2) := by decide +kernel
theorem dX12_fillsBuy_56 : decode cX12_fillsBuy 56 = .ok (.aload_n 0, 1) := by decide +kernel
theorem dX12_fillsBuy_57 : decode cX12_fillsBuy 57 = .ok (.getfield 461, 3) := by decide +kernel
theorem dX12_fillsBuy_60 : decode cX12_fillsBuy 60 = .ok (.if_icmp .ge 27, 3) := by decide +kernel
theorem dX12_fillsBuy_63 : decode cX12_fillsBuy 63 = .ok (.aload_n 0, 1) := by decide +kernel
theorem dX12_fillsBuy_64 : decode cX12_fillsBuy 64 = .ok (.iload_n 1, 1) := by decide +kernel
theorem dX12_fillsBuy_65 : decode cX12_fillsBuy 65 = .ok (.iload_n 3, 1) := by decide +kernel
theorem dX12_fillsBuy_66 : decode cX12_fillsBuy 66 = .ok (.iload_n 2, 1) := by decide +kernel
theorem dX12_fillsBuy_67 : decode cX12_fillsBuy 67 = .ok (.invokevirtual 473, 3) := by decide +kernel
theorem dX12_fillsBuy_70 : decode cX12_fillsBuy 70 = .ok (.ifCond .ne 6, 3) := by decide +kernel
theorem dX12_fillsBuy_73 : decode cX12_fillsBuy 73 = .ok (.goto 14, 3) := by decide +kernel
theorem dX12_fillsBuy_76 : decode cX12_fillsBuy 76 = .ok (.aload_n 0, 1) := by decide +kernel
theorem dX12_fillsBuy_77 : decode cX12_fillsBuy 77 = .ok (.iload 4, 2) := by decide +kernel
theorem dX12_fillsBuy_79 : decode cX12_fillsBuy 79 = .ok (.putfield 461, 3) := by decide +kernel
theorem dX12_fillsBuy_82 : decode cX12_fillsBuy 82 = .ok (.aload_n 0, 1) := by decide +kernel
theorem dX12_fillsBuy_83 : decode cX12_fillsBuy 83 = .ok (.iload_n 3, 1) := by decide +kernel
theorem dX12_fillsBuy_84 : decode cX12_fillsBuy 84 = .ok (.putfield 464, 3) := by decide +kernel
theorem dX12_fillsBuy_87 : decode cX12_fillsBuy 87 = .ok (.iinc 3 1, 3) := by decide +kernel
theorem dX12_fillsBuy_90 : decode cX12_fillsBuy 90 = .ok (.goto (-67), 3) := by decide +kernel
theorem dX12_fillsBuy_93 : decode cX12_fillsBuy 93 = .ok (.return_, 1) := by decide +kernel
def c_X12_fillsBuy_j63 {ρ : Type}  (z1 : Int32) (z2 : Int32) (K1 : PH → Option ρ) (REC : Int32 → PH → Option ρ) (x3 : Int32) (x4 : Int32) (h : PH) : Option (ρ) :=
  bind2 (c_X12_isPassing z1 x3 z2 h) fun r10 h11 =>
  if r10 = 0 then
    nm (x3 + 1) fun v15 =>
    REC v15 h11
  else
    nm (setI h11 0 65 x4) fun h12 =>
    nm (setI h12 0 66 x3) fun h13 =>
    nm (x3 + 1) fun v14 =>
    REC v14 h13
set_option maxHeartbeats 4000000 in
set_option maxRecDepth 100000 in
theorem w_X12_fillsBuy_j63 {p0 : Program} {l : Launch} {e : Env} {s : State} {m : MethodId} {args : Array Value} {below : List Frame} {meth : Method} {c : Code} {Q : State → Prop} {D : va_G} {G : GG} {A : Nat → Prop} {H0 : Heap} {ad : Nat → Nat} {lay : List KK} {X : va_W} {ρ : Type} {r0 : ρ} {x3 : Int32} {x4 : Int32} {z1 : Int32} {z2 : Int32} {h : PH} {H : Heap} {locs : List Loc} {ls : Array Slot} {K1 : PH → Option ρ} {REC : Int32 → PH → Option ρ} (hM : CallFix p0 m c cX12_fillsBuy 5 s args lw_g RX12) (ho : okX12 lay) (hk1 : ∀ (h : PH), ∀ (H : Heap) (locs : List Loc) (ls : Array Slot), K1 h = some r0 → Wd D G A H0 ad lay X h s H locs → lv_has ls 5 [] → W p0 l e (rmN 7 162) s m args below meth c H locs 0 0 Q (F0 m 93 ls [])) (hrec : ∀ (x3 : Int32) (h : PH), ∀ (H : Heap) (locs : List Loc) (ls : Array Slot), REC x3 h = some r0 → Wd D G A H0 ad lay X h s H locs → lv_has ls 5 [(0, .ref (ad 0)), (1, .int z1), (2, .int z2), (3, .int x3)] → W p0 l e (rmN 7 162) s m args below meth c H locs 0 0 Q (F0 m 23 ls [])) (hw : Wd D G A H0 ad lay X h s H locs) (hl : lv_has ls 5 [(0, .ref (ad 0)), (1, .int z1), (2, .int z2), (3, .int x3), (4, .int x4)]) (hf : c_X12_fillsBuy_j63 z1 z2 K1 REC x3 x4 h = some r0) : W p0 l e (rmN 7 162) s m args below meth c H locs 0 0 Q (F0 m 63 ls []) := by
  unfold c_X12_fillsBuy_j63 at hf
  refine lv_aload_n hM.1 hM.2.1 dX12_fillsBuy_63 rfl (lv_at hl 0 rfl) ?_
  refine lv_iload_n hM.1 hM.2.1 dX12_fillsBuy_64 rfl (lv_at hl 1 rfl) ?_
  refine lv_iload_n hM.1 hM.2.1 dX12_fillsBuy_65 rfl (lv_at hl 3 rfl) ?_
  refine lv_iload_n hM.1 hM.2.1 dX12_fillsBuy_66 rfl (lv_at hl 2 rfl) ?_
  refine x_callVI (rest := []) hM hw (ct_X12_isPassing l ho z1 x3 z2) [.int z1, .int x3, .int z2] (okX12.o ho) rfl rfl rfl (gi_V ml_X12_473 im_X12_isPassing sl_X12_isPassing in_X12 kc_X12_isPassing) hd_X12_isPassing rfl ⟨Nat.le_of_ble_eq_true rfl, Nat.le_of_ble_eq_true rfl⟩ rfl (Nat.le_of_ble_eq_true rfl) hl.1 hcs0 hf dX12_fillsBuy_67 (fun r10 h11 H locs hf hw => ?_)
  refine x_if_ne (tgt := 76) hM hf dX12_fillsBuy_70 (by decide) (fun hf => ?_) (fun hf => ?_)
  · refine lv_aload_n hM.1 hM.2.1 dX12_fillsBuy_76 rfl (lv_at hl 0 rfl) ?_
    refine lv_iload hM.1 hM.2.1 dX12_fillsBuy_77 (lv_at hl 4 rfl) ?_
    refine pf_X12_buyCoins hM hw (okX12.o ho) fl_X12_461 hf dX12_fillsBuy_79 (fun h12 H locs hf hw => ?_)
    refine lv_aload_n hM.1 hM.2.1 dX12_fillsBuy_82 rfl (lv_at hl 0 rfl) ?_
    refine lv_iload_n hM.1 hM.2.1 dX12_fillsBuy_83 rfl (lv_at hl 3 rfl) ?_
    refine pf_X12_buyWay hM hw (okX12.o ho) fl_X12_464 hf dX12_fillsBuy_84 (fun h13 H locs hf hw => ?_)
    refine x_iinc (k := 3) (d := 1) hM hf dX12_fillsBuy_87 hl rfl (by decide) (by decide) (fun v14 => [(3, .int v14), (0, .ref (ad 0)), (1, .int z1), (2, .int z2), (4, .int x4)]) (fun _ => rfl) (fun v14 ls hf hl => ?_)
    refine lv_goto (tgt := 23) hM.1 hM.2.1 dX12_fillsBuy_90 (by decide) ?_
    exact hrec _ _ _ _ _ hf hw (lv_sub hl [1, 2, 3, 0] rfl)
  refine lv_goto (tgt := 87) hM.1 hM.2.1 dX12_fillsBuy_73 (by decide) ?_
  refine x_iinc (k := 3) (d := 1) hM hf dX12_fillsBuy_87 hl rfl (by decide) (by decide) (fun v15 => [(3, .int v15), (0, .ref (ad 0)), (1, .int z1), (2, .int z2), (4, .int x4)]) (fun _ => rfl) (fun v15 ls hf hl => ?_)
  refine lv_goto (tgt := 23) hM.1 hM.2.1 dX12_fillsBuy_90 (by decide) ?_
  exact hrec _ _ _ _ _ hf hw (lv_sub hl [1, 2, 3, 0] rfl)
def c_X12_fillsBuy_L23b {ρ : Type}  (z1 : Int32) (z2 : Int32) (K1 : PH → Option ρ) (REC : Int32 → PH → Option ρ) (x3 : Int32) (h : PH) : Option ρ :=
  (c_X12_bits z1).bind fun r5 =>
  (c_X12_sevens r5).bind fun r6 =>
  if r6 ≤ x3 then
    K1 h
  else
    (c_X12_coinsBy z1 x3 h).bind fun r7 =>
    nm r7 fun v8 =>
    if v8 < 0 then
      nm (x3 + 1) fun v9 =>
      REC v9 h
    else
      if (h.1 0 65) < 0 then
        c_X12_fillsBuy_j63 z1 z2 K1 REC x3 v8 h
      else
        if (h.1 0 65) ≤ v8 then
          nm (x3 + 1) fun v16 =>
          REC v16 h
        else
          c_X12_fillsBuy_j63 z1 z2 K1 REC x3 v8 h
set_option maxHeartbeats 4000000 in
set_option maxRecDepth 100000 in
theorem w_X12_fillsBuy_L23b {p0 : Program} {l : Launch} {e : Env} {s : State} {m : MethodId} {args : Array Value} {below : List Frame} {meth : Method} {c : Code} {Q : State → Prop} {D : va_G} {G : GG} {A : Nat → Prop} {H0 : Heap} {ad : Nat → Nat} {lay : List KK} {X : va_W} {ρ : Type} {r0 : ρ} {z1 : Int32} {z2 : Int32} {x3 : Int32} {h : PH} {H : Heap} {locs : List Loc} {ls : Array Slot} {K1 : PH → Option ρ} {REC : Int32 → PH → Option ρ} (hM : CallFix p0 m c cX12_fillsBuy 5 s args lw_g RX12) (ho : okX12 lay) (hk1 : ∀ (h : PH), ∀ (H : Heap) (locs : List Loc) (ls : Array Slot), K1 h = some r0 → Wd D G A H0 ad lay X h s H locs → lv_has ls 5 [] → W p0 l e (rmN 7 162) s m args below meth c H locs 0 0 Q (F0 m 93 ls [])) (hrec : ∀ (x3 : Int32) (h : PH), ∀ (H : Heap) (locs : List Loc) (ls : Array Slot), REC x3 h = some r0 → Wd D G A H0 ad lay X h s H locs → lv_has ls 5 [(0, .ref (ad 0)), (1, .int z1), (2, .int z2), (3, .int x3)] → W p0 l e (rmN 7 162) s m args below meth c H locs 0 0 Q (F0 m 23 ls [])) (hw : Wd D G A H0 ad lay X h s H locs) (hl : lv_has ls 5 [(0, .ref (ad 0)), (1, .int z1), (2, .int z2), (3, .int x3)]) (hf : c_X12_fillsBuy_L23b z1 z2 K1 REC x3 h = some r0) : W p0 l e (rmN 7 162) s m args below meth c H locs 0 0 Q (F0 m 23 ls []) := by
  unfold c_X12_fillsBuy_L23b at hf
  refine lv_iload_n hM.1 hM.2.1 dX12_fillsBuy_23 rfl (lv_at hl 3 rfl) ?_
  refine lv_iload_n hM.1 hM.2.1 dX12_fillsBuy_24 rfl (lv_at hl 1 rfl) ?_
  refine x_callSIr (rest := [.int x3]) hM hw (ct_X12_bits l z1) [.int z1] rfl (gi_S ml_X12_452 sm_X12_bits in_X12 kc_X12_bits) hd_X12_bits rfl ⟨Nat.le_of_ble_eq_true rfl, Nat.le_of_ble_eq_true rfl⟩ rfl (Nat.le_of_ble_eq_true rfl) hl.1 hcs0 hf dX12_fillsBuy_25 (fun r5 H locs hf hw => ?_)
  refine x_callSIr (rest := [.int x3]) hM hw (ct_X12_sevens l r5) [.int r5] rfl (gi_S ml_X12_455 sm_X12_sevens in_X12 kc_X12_sevens) hd_X12_sevens rfl ⟨Nat.le_of_ble_eq_true rfl, Nat.le_of_ble_eq_true rfl⟩ rfl (Nat.le_of_ble_eq_true rfl) hl.1 hcs0 hf dX12_fillsBuy_28 (fun r6 H locs hf hw => ?_)
  refine x_ic_ge (tgt := 93) hM hf dX12_fillsBuy_31 (by decide) (fun hf => ?_) (fun hf => ?_)
  · exact hk1 _ _ _ _ hf hw (lv_sub hl [] rfl)
  refine lv_aload_n hM.1 hM.2.1 dX12_fillsBuy_34 rfl (lv_at hl 0 rfl) ?_
  refine lv_iload_n hM.1 hM.2.1 dX12_fillsBuy_35 rfl (lv_at hl 1 rfl) ?_
  refine lv_iload_n hM.1 hM.2.1 dX12_fillsBuy_36 rfl (lv_at hl 3 rfl) ?_
  refine x_callVIr (rest := []) hM hw (ct_X12_coinsBy l ho z1 x3) [.int z1, .int x3] (okX12.o ho) rfl rfl rfl (gi_V ml_X12_470 im_X12_coinsBy sl_X12_coinsBy in_X12 kc_X12_coinsBy) hd_X12_coinsBy rfl ⟨Nat.le_of_ble_eq_true rfl, Nat.le_of_ble_eq_true rfl⟩ rfl (Nat.le_of_ble_eq_true rfl) hl.1 hcs0 hf dX12_fillsBuy_37 (fun r7 H locs hf hw => ?_)
  refine x_istore hM hf dX12_fillsBuy_40 hl (by decide) (fun v8 => [(4, .int v8), (0, .ref (ad 0)), (1, .int z1), (2, .int z2), (3, .int x3)]) (fun _ => rfl) (fun v8 ls hf hl => ?_)
  refine lv_iload hM.1 hM.2.1 dX12_fillsBuy_42 (lv_at hl 0 rfl) ?_
  refine x_if_lt (tgt := 87) hM hf dX12_fillsBuy_44 (by decide) (fun hf => ?_) (fun hf => ?_)
  · refine x_iinc (k := 4) (d := 1) hM hf dX12_fillsBuy_87 hl rfl (by decide) (by decide) (fun v9 => [(3, .int v9), (4, .int v8), (0, .ref (ad 0)), (1, .int z1), (2, .int z2)]) (fun _ => rfl) (fun v9 ls hf hl => ?_)
    refine lv_goto (tgt := 23) hM.1 hM.2.1 dX12_fillsBuy_90 (by decide) ?_
    exact hrec _ _ _ _ _ hf hw (lv_sub hl [2, 3, 4, 0] rfl)
  refine lv_aload_n hM.1 hM.2.1 dX12_fillsBuy_47 rfl (lv_at hl 1 rfl) ?_
  refine gf_X12_buyCoins hM hw (okX12.o ho) fl_X12_461 dX12_fillsBuy_48 ?_
  refine x_if_lt (tgt := 63) hM hf dX12_fillsBuy_51 (by decide) (fun hf => ?_) (fun hf => ?_)
  · exact w_X12_fillsBuy_j63 hM ho hk1 hrec hw (lv_sub hl [1, 2, 3, 4, 0] rfl) hf
  refine lv_iload hM.1 hM.2.1 dX12_fillsBuy_54 (lv_at hl 0 rfl) ?_
  refine lv_aload_n hM.1 hM.2.1 dX12_fillsBuy_56 rfl (lv_at hl 1 rfl) ?_
  refine gf_X12_buyCoins hM hw (okX12.o ho) fl_X12_461 dX12_fillsBuy_57 ?_
  refine x_ic_ge (tgt := 87) hM hf dX12_fillsBuy_60 (by decide) (fun hf => ?_) (fun hf => ?_)
  · refine x_iinc (k := 4) (d := 1) hM hf dX12_fillsBuy_87 hl rfl (by decide) (by decide) (fun v16 => [(3, .int v16), (4, .int v8), (0, .ref (ad 0)), (1, .int z1), (2, .int z2)]) (fun _ => rfl) (fun v16 ls hf hl => ?_)
    refine lv_goto (tgt := 23) hM.1 hM.2.1 dX12_fillsBuy_90 (by decide) ?_
    exact hrec _ _ _ _ _ hf hw (lv_sub hl [2, 3, 4, 0] rfl)
  exact w_X12_fillsBuy_j63 hM ho hk1 hrec hw (lv_sub hl [1, 2, 3, 4, 0] rfl) hf
set_option maxHeartbeats 4000000 in
set_option maxRecDepth 100000 in
theorem w_X12_fillsBuy_L23 {p0 : Program} {l : Launch} {e : Env} {s : State} {m : MethodId} {args : Array Value} {below : List Frame} {meth : Method} {c : Code} {Q : State → Prop} {D : va_G} {G : GG} {A : Nat → Prop} {H0 : Heap} {ad : Nat → Nat} {lay : List KK} {X : va_W} {ρ : Type} {r0 : ρ} {z1 : Int32} {z2 : Int32} {K1 : PH → Option ρ} (hM : CallFix p0 m c cX12_fillsBuy 5 s args lw_g RX12) (ho : okX12 lay) (hk1 : ∀ (h : PH), ∀ (H : Heap) (locs : List Loc) (ls : Array Slot), K1 h = some r0 → Wd D G A H0 ad lay X h s H locs → lv_has ls 5 [] → W p0 l e (rmN 7 162) s m args below meth c H locs 0 0 Q (F0 m 93 ls [])) (n : Nat) (x3 : Int32) (h : PH) (hf : lq2 (c_X12_fillsBuy_L23b z1 z2 K1) n x3 h = some r0) : ∀ (H : Heap) (locs : List Loc) (ls : Array Slot), Wd D G A H0 ad lay X h s H locs → lv_has ls 5 [(0, .ref (ad 0)), (1, .int z1), (2, .int z2), (3, .int x3)] → W p0 l e (rmN 7 162) s m args below meth c H locs 0 0 Q (F0 m 23 ls []) := by
  exact lq2_i (fun (x3 : Int32) (h : PH) => ∀ (H : Heap) (locs : List Loc) (ls : Array Slot), Wd D G A H0 ad lay X h s H locs → lv_has ls 5 [(0, .ref (ad 0)), (1, .int z1), (2, .int z2), (3, .int x3)] → W p0 l e (rmN 7 162) s m args below meth c H locs 0 0 Q (F0 m 23 ls [])) (fun REC x3 h ih hf H locs ls hw hl => w_X12_fillsBuy_L23b hM ho hk1 (fun x3 h H locs ls hf hw hl => ih x3 h hf H locs ls hw hl) hw hl hf) n x3 h hf
def c_X12_fillsBuy (a1 : Int32) (a2 : Int32) (h : PH) : Option (PH) :=
  nm (setI h 0 65 (-2)) fun h1 =>
  nm (setI h1 0 66 (-2)) fun h2 =>
  (c_X12_areToCome a1 h2).bind fun r3 =>
  if r3 = 0 then
    some h2
  else
    nm (0 : Int32) fun v4 =>
    lq2 (c_X12_fillsBuy_L23b a1 a2
      (fun h17 =>
        some h17)) fu v4 h2
set_option maxHeartbeats 4000000 in
set_option maxRecDepth 100000 in
theorem ct_X12_fillsBuy (l : Launch) {lay : List KK} (ho : okX12 lay) (a1 : Int32) (a2 : Int32) : CtV l yX12_fillsBuy cX12_fillsBuy 5 (none) 7 162 lay (fun h => c_X12_fillsBuy a1 a2 h) (fun ad => [.ref (ad 0), .int a1, .int a2]) := by
  refine CtV.mk' RX12 (by decide) rfl (fun _ => Nat.le_of_ble_eq_true rfl) ?_
  intro p0 e s m args below meth c D G A H0 ad X h r0 H ls Q hM hw hl hf hR
  have hl : lv_has ls 5 [(0, .ref (ad 0)), (1, .int a1), (2, .int a2)] := hl
  unfold c_X12_fillsBuy at hf
  refine lv_aload_n hM.1 hM.2.1 dX12_fillsBuy_0 rfl (lv_at hl 0 rfl) ?_
  refine lv_bipush (v := (-2)) hM.1 hM.2.1 dX12_fillsBuy_1 (by decide) ?_
  refine pf_X12_buyCoins hM hw (okX12.o ho) fl_X12_461 hf dX12_fillsBuy_3 (fun h1 H locs hf hw => ?_)
  refine lv_aload_n hM.1 hM.2.1 dX12_fillsBuy_6 rfl (lv_at hl 0 rfl) ?_
  refine lv_bipush (v := (-2)) hM.1 hM.2.1 dX12_fillsBuy_7 (by decide) ?_
  refine pf_X12_buyWay hM hw (okX12.o ho) fl_X12_464 hf dX12_fillsBuy_9 (fun h2 H locs hf hw => ?_)
  refine lv_aload_n hM.1 hM.2.1 dX12_fillsBuy_12 rfl (lv_at hl 0 rfl) ?_
  refine lv_iload_n hM.1 hM.2.1 dX12_fillsBuy_13 rfl (lv_at hl 1 rfl) ?_
  refine x_callVIr (rest := []) hM hw (ct_X12_areToCome l ho a1) [.int a1] (okX12.o ho) rfl rfl rfl (gi_V ml_X12_467 im_X12_areToCome sl_X12_areToCome in_X12 kc_X12_areToCome) hd_X12_areToCome rfl ⟨Nat.le_of_ble_eq_true rfl, Nat.le_of_ble_eq_true rfl⟩ rfl (Nat.le_of_ble_eq_true rfl) hl.1 hcs0 hf dX12_fillsBuy_14 (fun r3 H locs hf hw => ?_)
  refine x_if_ne (tgt := 21) hM hf dX12_fillsBuy_17 (by decide) (fun hf => ?_) (fun hf => ?_)
  · refine lv_iconst (v := 0) hM.1 hM.2.1 dX12_fillsBuy_21 ic_0 ?_
    refine x_istore_n hM hf dX12_fillsBuy_22 rfl hl (by decide) (fun v4 => [(3, .int v4), (0, .ref (ad 0)), (1, .int a1), (2, .int a2)]) (fun _ => rfl) (fun v4 ls hf hl => ?_)
    refine w_X12_fillsBuy_L23 hM ho (fun h17 H locs ls hf hw hl => ?_) fu _ _ hf _ _ _ hw (lv_sub hl [1, 2, 3, 0] rfl)
    exact hR _ _ _ _ _ (Option.some.inj hf) rfl hw dX12_fillsBuy_93
  exact hR _ _ _ _ _ (Option.some.inj hf) rfl hw dX12_fillsBuy_20
theorem hd_X12_fillsBuy : yX12_fillsBuy.cls = RX12 ∧ yX12_fillsBuy.cls ≠ "java/lang/invoke/MethodHandle" ∧ yX12_fillsBuy.cls ≠ "java/lang/invoke/VarHandle" ∧ (parseMethodDescriptor yX12_fillsBuy.desc).map (fun d => d.parameters.length) = some 2 := ⟨rfl, by decide, by decide, by decide +kernel⟩
theorem dX12_isSet_0 : decode cX12_isSet 0 = .ok (.iload_n 1, 1) := by decide +kernel
theorem dX12_isSet_1 : decode cX12_isSet 1 = .ok (.iconst 1, 1) := by decide +kernel
theorem dX12_isSet_2 : decode cX12_isSet 2 = .ok (.iconst 1, 1) := by decide +kernel
theorem dX12_isSet_3 : decode cX12_isSet 3 = .ok (.aload_n 0, 1) := by decide +kernel
theorem dX12_isSet_4 : decode cX12_isSet 4 = .ok (.getfield 80, 3) := by decide +kernel
theorem dX12_isSet_7 : decode cX12_isSet 7 = .ok (.aload_n 0, 1) := by decide +kernel
theorem dX12_isSet_8 : decode cX12_isSet 8 = .ok (.getfield 266, 3) := by decide +kernel
theorem dX12_isSet_11 : decode cX12_isSet 11 = .ok (.iaload, 1) := by decide +kernel
theorem dX12_isSet_12 : decode cX12_isSet 12 = .ok (.ishl, 1) := by decide +kernel
theorem dX12_isSet_13 : decode cX12_isSet 13 = .ok (.iconst 1, 1) := by decide +kernel
theorem dX12_isSet_14 : decode cX12_isSet 14 = .ok (.isub, 1) := by decide +kernel
theorem dX12_isSet_15 : decode cX12_isSet 15 = .ok (.invokestatic 359, 3) := by decide +kernel
theorem dX12_isSet_18 : decode cX12_isSet 18 = .ok (.ifCond .eq 25, 3) := by decide +kernel
theorem dX12_isSet_21 : decode cX12_isSet 21 = .ok (.iload_n 1, 1) := by decide +kernel
theorem dX12_isSet_22 : decode cX12_isSet 22 = .ok (.invokestatic 452, 3) := by decide +kernel
theorem dX12_isSet_25 : decode cX12_isSet 25 = .ok (.iconst 4, 1) := by decide +kernel
theorem dX12_isSet_26 : decode cX12_isSet 26 = .ok (.if_icmp .ge 17, 3) := by decide +kernel
theorem dX12_isSet_29 : decode cX12_isSet 29 = .ok (.iload_n 2, 1) := by decide +kernel
theorem dX12_isSet_30 : decode cX12_isSet 30 = .ok (.iconst 0, 1) := by decide +kernel
theorem dX12_isSet_31 : decode cX12_isSet 31 = .ok (.bipush 100, 2) := by decide +kernel
theorem dX12_isSet_33 : decode cX12_isSet 33 = .ok (.invokestatic 359, 3) := by decide +kernel
theorem dX12_isSet_36 : decode cX12_isSet 36 = .ok (.ifCond .eq 7, 3) := by decide +kernel
theorem dX12_isSet_39 : decode cX12_isSet 39 = .ok (.iconst 1, 1) := by decide +kernel
theorem dX12_isSet_40 : decode cX12_isSet 40 = .ok (.goto 4, 3) := by decide +kernel
theorem dX12_isSet_43 : decode cX12_isSet 43 = .ok (.iconst 0, 1) := by decide +kernel
theorem dX12_isSet_44 : decode cX12_isSet 44 = .ok (.ireturn, 1) := by decide +kernel
def c_X12_isSet (a1 : Int32) (a2 : Int32) (h : PH) : Option (Int32) :=
  gd (ixOK (h.1 0 18) 2) <|
  (c_X12_in a1 1 (((1 : Int32) <<< ((h.1 21 (h.1 0 18).toNatClampNeg) &&& 31)) - 1)).bind fun r1 =>
  if r1 = 0 then
    some 0
  else
    (c_X12_bits a1).bind fun r2 =>
    if 4 ≤ r2 then
      some 0
    else
      (c_X12_in a2 0 100).bind fun r3 =>
      if r3 = 0 then
        some 0
      else
        some 1
set_option maxHeartbeats 4000000 in
set_option maxRecDepth 100000 in
theorem ct_X12_isSet (l : Launch) {lay : List KK} (ho : okX12 lay) (a1 : Int32) (a2 : Int32) : CtI l yX12_isSet cX12_isSet 3 (some .boolean) 1 22 lay (rd (fun h => c_X12_isSet a1 a2 h)) (fun ad => [.ref (ad 0), .int a1, .int a2]) := by
  refine CtI.mk' RX12 (by decide) rfl (fun _ => Nat.le_of_ble_eq_true rfl) ?_
  intro p0 e s m args below meth c D G A H0 ad X h r0 H ls Q hM hw hl hf hR
  have hl : lv_has ls 3 [(0, .ref (ad 0)), (1, .int a1), (2, .int a2)] := hl
  obtain ⟨v0, hv0, hr0⟩ : ∃ v0, c_X12_isSet a1 a2 h = some v0 ∧ r0 = (v0, h) := rd_some hf
  subst hr0
  have hf := hv0
  unfold c_X12_isSet at hf
  refine lv_iload_n hM.1 hM.2.1 dX12_isSet_0 rfl (lv_at hl 1 rfl) ?_
  refine lv_iconst (v := 1) hM.1 hM.2.1 dX12_isSet_1 ic_1 ?_
  refine lv_iconst (v := 1) hM.1 hM.2.1 dX12_isSet_2 ic_1 ?_
  refine lv_aload_n hM.1 hM.2.1 dX12_isSet_3 rfl (lv_at hl 0 rfl) ?_
  refine gf_X12_duties hM hw (okX12.o ho) fl_X12_80 dX12_isSet_4 ?_
  refine lv_aload_n hM.1 hM.2.1 dX12_isSet_7 rfl (lv_at hl 0 rfl) ?_
  refine gf_X12_live hM hw (okX12.o ho) fl_X12_266 dX12_isSet_8 ?_
  refine x_iald hM hw (okX12.duties ho) hf dX12_isSet_11 (fun hf => ?_)
  refine lv_ishl hM.1 hM.2.1 dX12_isSet_12 ?_
  refine lv_iconst (v := 1) hM.1 hM.2.1 dX12_isSet_13 ic_1 ?_
  refine lv_isub hM.1 hM.2.1 dX12_isSet_14 ?_
  refine x_callSIr (rest := []) hM hw (ct_X12_in l a1 1 (((1 : Int32) <<< ((h.1 21 (h.1 0 18).toNatClampNeg) &&& 31)) - 1)) [.int a1, .int 1, .int (((1 : Int32) <<< ((h.1 21 (h.1 0 18).toNatClampNeg) &&& 31)) - 1)] rfl (gi_S ml_X12_359 sm_X12_in in_X12 kc_X12_in) hd_X12_in rfl ⟨Nat.le_of_ble_eq_true rfl, Nat.le_of_ble_eq_true rfl⟩ rfl (Nat.le_of_ble_eq_true rfl) hl.1 hcs0 hf dX12_isSet_15 (fun r1 H locs hf hw => ?_)
  refine x_if_eq (tgt := 43) hM hf dX12_isSet_18 (by decide) (fun hf => ?_) (fun hf => ?_)
  · refine lv_iconst (v := 0) hM.1 hM.2.1 dX12_isSet_43 ic_0 ?_
    exact hR _ _ _ _ _ _ _ (congrArg (fun z => (z, _)) (Option.some.inj hf)) rfl (nar_z (by decide)) hw dX12_isSet_44
  refine lv_iload_n hM.1 hM.2.1 dX12_isSet_21 rfl (lv_at hl 1 rfl) ?_
  refine x_callSIr (rest := []) hM hw (ct_X12_bits l a1) [.int a1] rfl (gi_S ml_X12_452 sm_X12_bits in_X12 kc_X12_bits) hd_X12_bits rfl ⟨Nat.le_of_ble_eq_true rfl, Nat.le_of_ble_eq_true rfl⟩ rfl (Nat.le_of_ble_eq_true rfl) hl.1 hcs0 hf dX12_isSet_22 (fun r2 H locs hf hw => ?_)
  refine lv_iconst (v := 4) hM.1 hM.2.1 dX12_isSet_25 ic_4 ?_
  refine x_ic_ge (tgt := 43) hM hf dX12_isSet_26 (by decide) (fun hf => ?_) (fun hf => ?_)
  · refine lv_iconst (v := 0) hM.1 hM.2.1 dX12_isSet_43 ic_0 ?_
    exact hR _ _ _ _ _ _ _ (congrArg (fun z => (z, _)) (Option.some.inj hf)) rfl (nar_z (by decide)) hw dX12_isSet_44
  refine lv_iload_n hM.1 hM.2.1 dX12_isSet_29 rfl (lv_at hl 2 rfl) ?_
  refine lv_iconst (v := 0) hM.1 hM.2.1 dX12_isSet_30 ic_0 ?_
  refine lv_bipush (v := 100) hM.1 hM.2.1 dX12_isSet_31 (by decide) ?_
  refine x_callSIr (rest := []) hM hw (ct_X12_in l a2 0 100) [.int a2, .int 0, .int 100] rfl (gi_S ml_X12_359 sm_X12_in in_X12 kc_X12_in) hd_X12_in rfl ⟨Nat.le_of_ble_eq_true rfl, Nat.le_of_ble_eq_true rfl⟩ rfl (Nat.le_of_ble_eq_true rfl) hl.1 hcs0 hf dX12_isSet_33 (fun r3 H locs hf hw => ?_)
  refine x_if_eq (tgt := 43) hM hf dX12_isSet_36 (by decide) (fun hf => ?_) (fun hf => ?_)
  · refine lv_iconst (v := 0) hM.1 hM.2.1 dX12_isSet_43 ic_0 ?_
    exact hR _ _ _ _ _ _ _ (congrArg (fun z => (z, _)) (Option.some.inj hf)) rfl (nar_z (by decide)) hw dX12_isSet_44
  refine lv_iconst (v := 1) hM.1 hM.2.1 dX12_isSet_39 ic_1 ?_
  refine lv_goto (tgt := 44) hM.1 hM.2.1 dX12_isSet_40 (by decide) ?_
  exact hR _ _ _ _ _ _ _ (congrArg (fun z => (z, _)) (Option.some.inj hf)) rfl (nar_z (by decide)) hw dX12_isSet_44
theorem hd_X12_isSet : yX12_isSet.cls = RX12 ∧ yX12_isSet.cls ≠ "java/lang/invoke/MethodHandle" ∧ yX12_isSet.cls ≠ "java/lang/invoke/VarHandle" ∧ (parseMethodDescriptor yX12_isSet.desc).map (fun d => d.parameters.length) = some 2 := ⟨rfl, by decide, by decide, by decide +kernel⟩
theorem dX12_cheapest_0 : decode cX12_cheapest 0 = .ok (.aload_n 0, 1) := by decide +kernel
theorem dX12_cheapest_1 : decode cX12_cheapest 1 = .ok (.iload_n 1, 1) := by decide +kernel
theorem dX12_cheapest_2 : decode cX12_cheapest 2 = .ok (.iload_n 2, 1) := by decide +kernel
theorem dX12_cheapest_3 : decode cX12_cheapest 3 = .ok (.invokevirtual 476, 3) := by decide +kernel
theorem dX12_cheapest_6 : decode cX12_cheapest 6 = .ok (.ifCond .ne 5, 3) := by decide +kernel
theorem dX12_cheapest_9 : decode cX12_cheapest 9 = .ok (.iconst (-1), 1) := by decide +kernel
theorem dX12_cheapest_10 : decode cX12_cheapest 10 = .ok (.ireturn, 1) := by decide +kernel
theorem dX12_cheapest_11 : decode cX12_cheapest 11 = .ok (.aload_n 0, 1) := by decide +kernel
theorem dX12_cheapest_12 : decode cX12_cheapest 12 = .ok (.iload_n 1, 1) := by decide +kernel
theorem dX12_cheapest_13 : decode cX12_cheapest 13 = .ok (.iload_n 2, 1) := by decide +kernel
theorem dX12_cheapest_14 : decode cX12_cheapest 14 = .ok (.invokevirtual 480, 3) := by decide +kernel
theorem dX12_cheapest_17 : decode cX12_cheapest 17 = .ok (.aload_n 0, 1) := by decide +kernel
theorem dX12_cheapest_18 : decode cX12_cheapest 18 = .ok (.getfield 461, 3) := by decide +kernel
theorem dX12_cheapest_21 : decode cX12_cheapest 21 = .ok (.ireturn, 1) := by decide +kernel
def c_X12_cheapest (a1 : Int32) (a2 : Int32) (h : PH) : Option (Int32 × PH) :=
  (c_X12_isSet a1 a2 h).bind fun r1 =>
  if r1 = 0 then
    some ((-1), h)
  else
    (c_X12_fillsBuy a1 a2 h).bind fun h2 =>
    some ((h2.1 0 65), h2)
set_option maxHeartbeats 4000000 in
set_option maxRecDepth 100000 in
theorem ct_X12_cheapest (l : Launch) {lay : List KK} (ho : okX12 lay) (a1 : Int32) (a2 : Int32) : CtI l yX12_cheapest cX12_cheapest 3 (some .int) 8 186 lay (fun h => c_X12_cheapest a1 a2 h) (fun ad => [.ref (ad 0), .int a1, .int a2]) := by
  refine CtI.mk' RX12 (by decide) rfl (fun _ => Nat.le_of_ble_eq_true rfl) ?_
  intro p0 e s m args below meth c D G A H0 ad X h r0 H ls Q hM hw hl hf hR
  have hl : lv_has ls 3 [(0, .ref (ad 0)), (1, .int a1), (2, .int a2)] := hl
  unfold c_X12_cheapest at hf
  refine lv_aload_n hM.1 hM.2.1 dX12_cheapest_0 rfl (lv_at hl 0 rfl) ?_
  refine lv_iload_n hM.1 hM.2.1 dX12_cheapest_1 rfl (lv_at hl 1 rfl) ?_
  refine lv_iload_n hM.1 hM.2.1 dX12_cheapest_2 rfl (lv_at hl 2 rfl) ?_
  refine x_callVIr (rest := []) hM hw (ct_X12_isSet l ho a1 a2) [.int a1, .int a2] (okX12.o ho) rfl rfl rfl (gi_V ml_X12_476 im_X12_isSet sl_X12_isSet in_X12 kc_X12_isSet) hd_X12_isSet rfl ⟨Nat.le_of_ble_eq_true rfl, Nat.le_of_ble_eq_true rfl⟩ rfl (Nat.le_of_ble_eq_true rfl) hl.1 hcs0 hf dX12_cheapest_3 (fun r1 H locs hf hw => ?_)
  refine x_if_ne (tgt := 11) hM hf dX12_cheapest_6 (by decide) (fun hf => ?_) (fun hf => ?_)
  · refine lv_aload_n hM.1 hM.2.1 dX12_cheapest_11 rfl (lv_at hl 0 rfl) ?_
    refine lv_iload_n hM.1 hM.2.1 dX12_cheapest_12 rfl (lv_at hl 1 rfl) ?_
    refine lv_iload_n hM.1 hM.2.1 dX12_cheapest_13 rfl (lv_at hl 2 rfl) ?_
    refine x_callVV (rest := []) hM hw (ct_X12_fillsBuy l ho a1 a2) [.int a1, .int a2] (okX12.o ho) rfl rfl rfl (gi_V ml_X12_480 im_X12_fillsBuy sl_X12_fillsBuy in_X12 kc_X12_fillsBuy) hd_X12_fillsBuy rfl ⟨Nat.le_of_ble_eq_true rfl, Nat.le_of_ble_eq_true rfl⟩ rfl (Nat.le_of_ble_eq_true rfl) hl.1 hcs0 hf dX12_cheapest_14 (fun h2 H locs hf hw => ?_)
    refine lv_aload_n hM.1 hM.2.1 dX12_cheapest_17 rfl (lv_at hl 0 rfl) ?_
    refine gf_X12_buyCoins hM hw (okX12.o ho) fl_X12_461 dX12_cheapest_18 ?_
    exact hR _ _ _ _ _ _ _ (Option.some.inj hf) rfl rfl hw dX12_cheapest_21
  refine lv_iconst (v := (-1)) hM.1 hM.2.1 dX12_cheapest_9 ic_m1 ?_
  exact hR _ _ _ _ _ _ _ (Option.some.inj hf) rfl rfl hw dX12_cheapest_10
theorem hd_X12_cheapest : yX12_cheapest.cls = RX12 ∧ yX12_cheapest.cls ≠ "java/lang/invoke/MethodHandle" ∧ yX12_cheapest.cls ≠ "java/lang/invoke/VarHandle" ∧ (parseMethodDescriptor yX12_cheapest.desc).map (fun d => d.parameters.length) = some 2 := ⟨rfl, by decide, by decide, by decide +kernel⟩
theorem dX12_cheapestAt_0 : decode cX12_cheapestAt 0 = .ok (.aload_n 0, 1) := by decide +kernel
theorem dX12_cheapestAt_1 : decode cX12_cheapestAt 1 = .ok (.iload_n 1, 1) := by decide +kernel
theorem dX12_cheapestAt_2 : decode cX12_cheapestAt 2 = .ok (.iload_n 2, 1) := by decide +kernel
theorem dX12_cheapestAt_3 : decode cX12_cheapestAt 3 = .ok (.invokevirtual 476, 3) := by decide +kernel
theorem dX12_cheapestAt_6 : decode cX12_cheapestAt 6 = .ok (.ifCond .eq 17, 3) := by decide +kernel
theorem dX12_cheapestAt_9 : decode cX12_cheapestAt 9 = .ok (.iload_n 3, 1) := by decide +kernel
theorem dX12_cheapestAt_10 : decode cX12_cheapestAt 10 = .ok (.iconst 0, 1) := by decide +kernel
theorem dX12_cheapestAt_11 : decode cX12_cheapestAt 11 = .ok (.iload_n 1, 1) := by decide +kernel
theorem dX12_cheapestAt_12 : decode cX12_cheapestAt 12 = .ok (.invokestatic 452, 3) := by decide +kernel
theorem dX12_cheapestAt_15 : decode cX12_cheapestAt 15 = .ok (.iconst 1, 1) := by decide +kernel
theorem dX12_cheapestAt_16 : decode cX12_cheapestAt 16 = .ok (.isub, 1) := by decide +kernel
theorem dX12_cheapestAt_17 : decode cX12_cheapestAt 17 = .ok (.invokestatic 359, 3) := by decide +kernel
theorem dX12_cheapestAt_20 : decode cX12_cheapestAt 20 = .ok (.ifCond .ne 5, 3) := by decide +kernel
theorem dX12_cheapestAt_23 : decode cX12_cheapestAt 23 = .ok (.iconst (-1), 1) := by decide +kernel
theorem dX12_cheapestAt_24 : decode cX12_cheapestAt 24 = .ok (.ireturn, 1) := by decide +kernel
theorem dX12_cheapestAt_25 : decode cX12_cheapestAt 25 = .ok (.aload_n 0, 1) := by decide +kernel
theorem dX12_cheapestAt_26 : decode cX12_cheapestAt 26 = .ok (.iload_n 1, 1) := by decide +kernel
theorem dX12_cheapestAt_27 : decode cX12_cheapestAt 27 = .ok (.iload_n 2, 1) := by decide +kernel
theorem dX12_cheapestAt_28 : decode cX12_cheapestAt 28 = .ok (.invokevirtual 480, 3) := by decide +kernel
theorem dX12_cheapestAt_31 : decode cX12_cheapestAt 31 = .ok (.aload_n 0, 1) := by decide +kernel
theorem dX12_cheapestAt_32 : decode cX12_cheapestAt 32 = .ok (.getfield 464, 3) := by decide +kernel
theorem dX12_cheapestAt_35 : decode cX12_cheapestAt 35 = .ok (.ifCond .ge 8, 3) := by decide +kernel
theorem dX12_cheapestAt_38 : decode cX12_cheapestAt 38 = .ok (.bipush (-2), 2) := by decide +kernel
theorem dX12_cheapestAt_40 : decode cX12_cheapestAt 40 = .ok (.goto 22, 3) := by decide +kernel
theorem dX12_cheapestAt_43 : decode cX12_cheapestAt 43 = .ok (.aload_n 0, 1) := by decide +kernel
theorem dX12_cheapestAt_44 : decode cX12_cheapestAt 44 = .ok (.getfield 464, 3) := by decide +kernel
theorem dX12_cheapestAt_47 : decode cX12_cheapestAt 47 = .ok (.iload_n 1, 1) := by decide +kernel
theorem dX12_cheapestAt_48 : decode cX12_cheapestAt 48 = .ok (.invokestatic 452, 3) := by decide +kernel
theorem dX12_cheapestAt_51 : decode cX12_cheapestAt 51 = .ok (.iconst 1, 1) := by decide +kernel
theorem dX12_cheapestAt_52 : decode cX12_cheapestAt 52 = .ok (.isub, 1) := by decide +kernel
theorem dX12_cheapestAt_53 : decode cX12_cheapestAt 53 = .ok (.iload_n 3, 1) := by decide +kernel
theorem dX12_cheapestAt_54 : decode cX12_cheapestAt 54 = .ok (.isub, 1) := by decide +kernel
theorem dX12_cheapestAt_55 : decode cX12_cheapestAt 55 = .ok (.invokestatic 455, 3) := by decide +kernel
theorem dX12_cheapestAt_58 : decode cX12_cheapestAt 58 = .ok (.idiv, 1) := by decide +kernel
theorem dX12_cheapestAt_59 : decode cX12_cheapestAt 59 = .ok (.bipush 7, 2) := by decide +kernel
theorem dX12_cheapestAt_61 : decode cX12_cheapestAt 61 = .ok (.irem, 1) := by decide +kernel
theorem dX12_cheapestAt_62 : decode cX12_cheapestAt 62 = .ok (.ireturn, 1) := by decide +kernel
def c_X12_cheapestAt (a1 : Int32) (a2 : Int32) (a3 : Int32) (h : PH) : Option (Int32 × PH) :=
  (c_X12_isSet a1 a2 h).bind fun r1 =>
  if r1 = 0 then
    some ((-1), h)
  else
    (c_X12_bits a1).bind fun r2 =>
    (c_X12_in a3 0 (r2 - 1)).bind fun r3 =>
    if r3 = 0 then
      some ((-1), h)
    else
      (c_X12_fillsBuy a1 a2 h).bind fun h4 =>
      if 0 ≤ (h4.1 0 66) then
        (c_X12_bits a1).bind fun r5 =>
        (c_X12_sevens ((r5 - 1) - a3)).bind fun r6 =>
        if r6 = 0 then none else
        some ((jrem ((h4.1 0 66) / r6) 7), h4)
      else
        some ((-2), h4)
set_option maxHeartbeats 4000000 in
set_option maxRecDepth 100000 in
theorem ct_X12_cheapestAt (l : Launch) {lay : List KK} (ho : okX12 lay) (a1 : Int32) (a2 : Int32) (a3 : Int32) : CtI l yX12_cheapestAt cX12_cheapestAt 4 (some .int) 8 186 lay (fun h => c_X12_cheapestAt a1 a2 a3 h) (fun ad => [.ref (ad 0), .int a1, .int a2, .int a3]) := by
  refine CtI.mk' RX12 (by decide) rfl (fun _ => Nat.le_of_ble_eq_true rfl) ?_
  intro p0 e s m args below meth c D G A H0 ad X h r0 H ls Q hM hw hl hf hR
  have hl : lv_has ls 4 [(0, .ref (ad 0)), (1, .int a1), (2, .int a2), (3, .int a3)] := hl
  unfold c_X12_cheapestAt at hf
  refine lv_aload_n hM.1 hM.2.1 dX12_cheapestAt_0 rfl (lv_at hl 0 rfl) ?_
  refine lv_iload_n hM.1 hM.2.1 dX12_cheapestAt_1 rfl (lv_at hl 1 rfl) ?_
  refine lv_iload_n hM.1 hM.2.1 dX12_cheapestAt_2 rfl (lv_at hl 2 rfl) ?_
  refine x_callVIr (rest := []) hM hw (ct_X12_isSet l ho a1 a2) [.int a1, .int a2] (okX12.o ho) rfl rfl rfl (gi_V ml_X12_476 im_X12_isSet sl_X12_isSet in_X12 kc_X12_isSet) hd_X12_isSet rfl ⟨Nat.le_of_ble_eq_true rfl, Nat.le_of_ble_eq_true rfl⟩ rfl (Nat.le_of_ble_eq_true rfl) hl.1 hcs0 hf dX12_cheapestAt_3 (fun r1 H locs hf hw => ?_)
  refine x_if_eq (tgt := 23) hM hf dX12_cheapestAt_6 (by decide) (fun hf => ?_) (fun hf => ?_)
  · refine lv_iconst (v := (-1)) hM.1 hM.2.1 dX12_cheapestAt_23 ic_m1 ?_
    exact hR _ _ _ _ _ _ _ (Option.some.inj hf) rfl rfl hw dX12_cheapestAt_24
  refine lv_iload_n hM.1 hM.2.1 dX12_cheapestAt_9 rfl (lv_at hl 3 rfl) ?_
  refine lv_iconst (v := 0) hM.1 hM.2.1 dX12_cheapestAt_10 ic_0 ?_
  refine lv_iload_n hM.1 hM.2.1 dX12_cheapestAt_11 rfl (lv_at hl 1 rfl) ?_
  refine x_callSIr (rest := [.int 0, .int a3]) hM hw (ct_X12_bits l a1) [.int a1] rfl (gi_S ml_X12_452 sm_X12_bits in_X12 kc_X12_bits) hd_X12_bits rfl ⟨Nat.le_of_ble_eq_true rfl, Nat.le_of_ble_eq_true rfl⟩ rfl (Nat.le_of_ble_eq_true rfl) hl.1 hcs0 hf dX12_cheapestAt_12 (fun r2 H locs hf hw => ?_)
  refine lv_iconst (v := 1) hM.1 hM.2.1 dX12_cheapestAt_15 ic_1 ?_
  refine lv_isub hM.1 hM.2.1 dX12_cheapestAt_16 ?_
  refine x_callSIr (rest := []) hM hw (ct_X12_in l a3 0 (r2 - 1)) [.int a3, .int 0, .int (r2 - 1)] rfl (gi_S ml_X12_359 sm_X12_in in_X12 kc_X12_in) hd_X12_in rfl ⟨Nat.le_of_ble_eq_true rfl, Nat.le_of_ble_eq_true rfl⟩ rfl (Nat.le_of_ble_eq_true rfl) hl.1 hcs0 hf dX12_cheapestAt_17 (fun r3 H locs hf hw => ?_)
  refine x_if_ne (tgt := 25) hM hf dX12_cheapestAt_20 (by decide) (fun hf => ?_) (fun hf => ?_)
  · refine lv_aload_n hM.1 hM.2.1 dX12_cheapestAt_25 rfl (lv_at hl 0 rfl) ?_
    refine lv_iload_n hM.1 hM.2.1 dX12_cheapestAt_26 rfl (lv_at hl 1 rfl) ?_
    refine lv_iload_n hM.1 hM.2.1 dX12_cheapestAt_27 rfl (lv_at hl 2 rfl) ?_
    refine x_callVV (rest := []) hM hw (ct_X12_fillsBuy l ho a1 a2) [.int a1, .int a2] (okX12.o ho) rfl rfl rfl (gi_V ml_X12_480 im_X12_fillsBuy sl_X12_fillsBuy in_X12 kc_X12_fillsBuy) hd_X12_fillsBuy rfl ⟨Nat.le_of_ble_eq_true rfl, Nat.le_of_ble_eq_true rfl⟩ rfl (Nat.le_of_ble_eq_true rfl) hl.1 hcs0 hf dX12_cheapestAt_28 (fun h4 H locs hf hw => ?_)
    refine lv_aload_n hM.1 hM.2.1 dX12_cheapestAt_31 rfl (lv_at hl 0 rfl) ?_
    refine gf_X12_buyWay hM hw (okX12.o ho) fl_X12_464 dX12_cheapestAt_32 ?_
    refine x_if_ge (tgt := 43) hM hf dX12_cheapestAt_35 (by decide) (fun hf => ?_) (fun hf => ?_)
    · refine lv_aload_n hM.1 hM.2.1 dX12_cheapestAt_43 rfl (lv_at hl 0 rfl) ?_
      refine gf_X12_buyWay hM hw (okX12.o ho) fl_X12_464 dX12_cheapestAt_44 ?_
      refine lv_iload_n hM.1 hM.2.1 dX12_cheapestAt_47 rfl (lv_at hl 1 rfl) ?_
      refine x_callSIr (rest := [.int (h4.1 0 66)]) hM hw (ct_X12_bits l a1) [.int a1] rfl (gi_S ml_X12_452 sm_X12_bits in_X12 kc_X12_bits) hd_X12_bits rfl ⟨Nat.le_of_ble_eq_true rfl, Nat.le_of_ble_eq_true rfl⟩ rfl (Nat.le_of_ble_eq_true rfl) hl.1 hcs0 hf dX12_cheapestAt_48 (fun r5 H locs hf hw => ?_)
      refine lv_iconst (v := 1) hM.1 hM.2.1 dX12_cheapestAt_51 ic_1 ?_
      refine lv_isub hM.1 hM.2.1 dX12_cheapestAt_52 ?_
      refine lv_iload_n hM.1 hM.2.1 dX12_cheapestAt_53 rfl (lv_at hl 3 rfl) ?_
      refine lv_isub hM.1 hM.2.1 dX12_cheapestAt_54 ?_
      refine x_callSIr (rest := [.int (h4.1 0 66)]) hM hw (ct_X12_sevens l ((r5 - 1) - a3)) [.int ((r5 - 1) - a3)] rfl (gi_S ml_X12_455 sm_X12_sevens in_X12 kc_X12_sevens) hd_X12_sevens rfl ⟨Nat.le_of_ble_eq_true rfl, Nat.le_of_ble_eq_true rfl⟩ rfl (Nat.le_of_ble_eq_true rfl) hl.1 hcs0 hf dX12_cheapestAt_55 (fun r6 H locs hf hw => ?_)
      refine x_idiv hM hf dX12_cheapestAt_58 (fun hf => ?_)
      refine lv_bipush (v := 7) hM.1 hM.2.1 dX12_cheapestAt_59 (by decide) ?_
      refine x_iremK hM (by decide) dX12_cheapestAt_61 ?_
      exact hR _ _ _ _ _ _ _ (Option.some.inj hf) rfl rfl hw dX12_cheapestAt_62
    refine lv_bipush (v := (-2)) hM.1 hM.2.1 dX12_cheapestAt_38 (by decide) ?_
    refine lv_goto (tgt := 62) hM.1 hM.2.1 dX12_cheapestAt_40 (by decide) ?_
    exact hR _ _ _ _ _ _ _ (Option.some.inj hf) rfl rfl hw dX12_cheapestAt_62
  refine lv_iconst (v := (-1)) hM.1 hM.2.1 dX12_cheapestAt_23 ic_m1 ?_
  exact hR _ _ _ _ _ _ _ (Option.some.inj hf) rfl rfl hw dX12_cheapestAt_24
theorem hd_X12_cheapestAt : yX12_cheapestAt.cls = RX12 ∧ yX12_cheapestAt.cls ≠ "java/lang/invoke/MethodHandle" ∧ yX12_cheapestAt.cls ≠ "java/lang/invoke/VarHandle" ∧ (parseMethodDescriptor yX12_cheapestAt.desc).map (fun d => d.parameters.length) = some 3 := ⟨rfl, by decide, by decide, by decide +kernel⟩
theorem dX12_areTwo_0 : decode cX12_areTwo 0 = .ok (.aload_n 0, 1) := by decide +kernel
theorem dX12_areTwo_1 : decode cX12_areTwo 1 = .ok (.getfield 58, 3) := by decide +kernel
theorem dX12_areTwo_4 : decode cX12_areTwo 4 = .ok (.iconst 5, 1) := by decide +kernel
theorem dX12_areTwo_5 : decode cX12_areTwo 5 = .ok (.aload_n 0, 1) := by decide +kernel
theorem dX12_areTwo_6 : decode cX12_areTwo 6 = .ok (.getfield 266, 3) := by decide +kernel
theorem dX12_areTwo_9 : decode cX12_areTwo 9 = .ok (.imul, 1) := by decide +kernel
theorem dX12_areTwo_10 : decode cX12_areTwo 10 = .ok (.iload_n 1, 1) := by decide +kernel
theorem dX12_areTwo_11 : decode cX12_areTwo 11 = .ok (.iadd, 1) := by decide +kernel
theorem dX12_areTwo_12 : decode cX12_areTwo 12 = .ok (.iaload, 1) := by decide +kernel
theorem dX12_areTwo_13 : decode cX12_areTwo 13 = .ok (.iload_n 2, 1) := by decide +kernel
theorem dX12_areTwo_14 : decode cX12_areTwo 14 = .ok (.ishr, 1) := by decide +kernel
theorem dX12_areTwo_15 : decode cX12_areTwo 15 = .ok (.iconst 1, 1) := by decide +kernel
theorem dX12_areTwo_16 : decode cX12_areTwo 16 = .ok (.iand, 1) := by decide +kernel
theorem dX12_areTwo_17 : decode cX12_areTwo 17 = .ok (.ifCond .ne 5, 3) := by decide +kernel
theorem dX12_areTwo_20 : decode cX12_areTwo 20 = .ok (.iconst 0, 1) := by decide +kernel
theorem dX12_areTwo_21 : decode cX12_areTwo 21 = .ok (.ireturn, 1) := by decide +kernel
theorem dX12_areTwo_22 : decode cX12_areTwo 22 = .ok (.iconst 0, 1) := by decide +kernel
theorem dX12_areTwo_23 : decode cX12_areTwo 23 = .ok (.istore_n 3, 1) := by decide +kernel
theorem dX12_areTwo_24 : decode cX12_areTwo 24 = .ok (.iload_n 3, 1) := by decide +kernel
theorem dX12_areTwo_25 : decode cX12_areTwo 25 = .ok (.aload_n 0, 1) := by decide +kernel
theorem dX12_areTwo_26 : decode cX12_areTwo 26 = .ok (.getfield 80, 3) := by decide +kernel
theorem dX12_areTwo_29 : decode cX12_areTwo 29 = .ok (.aload_n 0, 1) := by decide +kernel
theorem dX12_areTwo_30 : decode cX12_areTwo 30 = .ok (.getfield 266, 3) := by decide +kernel
theorem dX12_areTwo_33 : decode cX12_areTwo 33 = .ok (.iaload, 1) := by decide +kernel
theorem dX12_areTwo_34 : decode cX12_areTwo 34 = .ok (.if_icmp .ge 67, 3) := by decide +kernel
theorem dX12_areTwo_37 : decode cX12_areTwo 37 = .ok (.aload_n 0, 1) := by decide +kernel
theorem dX12_areTwo_38 : decode cX12_areTwo 38 = .ok (.getfield 149, 3) := by decide +kernel
theorem dX12_areTwo_41 : decode cX12_areTwo 41 = .ok (.bipush 22, 2) := by decide +kernel
theorem dX12_areTwo_43 : decode cX12_areTwo 43 = .ok (.iload_n 3, 1) := by decide +kernel
theorem dX12_areTwo_44 : decode cX12_areTwo 44 = .ok (.iadd, 1) := by decide +kernel
theorem dX12_areTwo_45 : decode cX12_areTwo 45 = .ok (.iaload, 1) := by decide +kernel
theorem dX12_areTwo_46 : decode cX12_areTwo 46 = .ok (.ifCond .lt 49, 3) := by decide +kernel
theorem dX12_areTwo_49 : decode cX12_areTwo 49 = .ok (.aload_n 0, 1) := by decide +kernel
theorem dX12_areTwo_50 : decode cX12_areTwo 50 = .ok (.iload_n 3, 1) := by decide +kernel
theorem dX12_areTwo_51 : decode cX12_areTwo 51 = .ok (.invokevirtual 373, 3) := by decide +kernel
theorem dX12_areTwo_54 : decode cX12_areTwo 54 = .ok (.iload_n 1, 1) := by decide +kernel
theorem dX12_areTwo_55 : decode cX12_areTwo 55 = .ok (.if_icmp .ne 40, 3) := by decide +kernel
theorem dX12_areTwo_58 : decode cX12_areTwo 58 = .ok (.aload_n 0, 1) := by decide +kernel
theorem dX12_areTwo_59 : decode cX12_areTwo 59 = .ok (.iload_n 2, 1) := by decide +kernel
theorem dX12_areTwo_60 : decode cX12_areTwo 60 = .ok (.aload_n 0, 1) := by decide +kernel
theorem dX12_areTwo_61 : decode cX12_areTwo 61 = .ok (.getfield 70, 3) := by decide +kernel
theorem dX12_areTwo_64 : decode cX12_areTwo 64 = .ok (.bipush 7, 2) := by decide +kernel
theorem dX12_areTwo_66 : decode cX12_areTwo 66 = .ok (.aload_n 0, 1) := by decide +kernel
theorem dX12_areTwo_67 : decode cX12_areTwo 67 = .ok (.getfield 266, 3) := by decide +kernel
theorem dX12_areTwo_70 : decode cX12_areTwo 70 = .ok (.imul, 1) := by decide +kernel
theorem dX12_areTwo_71 : decode cX12_areTwo 71 = .ok (.aload_n 0, 1) := by decide +kernel
theorem dX12_areTwo_72 : decode cX12_areTwo 72 = .ok (.getfield 149, 3) := by decide +kernel
theorem dX12_areTwo_75 : decode cX12_areTwo 75 = .ok (.bipush 22, 2) := by decide +kernel
theorem dX12_areTwo_77 : decode cX12_areTwo 77 = .ok (.iload_n 3, 1) := by decide +kernel
theorem dX12_areTwo_78 : decode cX12_areTwo 78 = .ok (.iadd, 1) := by decide +kernel
theorem dX12_areTwo_79 : decode cX12_areTwo 79 = .ok (.iaload, 1) := by decide +kernel
theorem dX12_areTwo_80 : decode cX12_areTwo 80 = .ok (.iadd, 1) := by decide +kernel
theorem dX12_areTwo_81 : decode cX12_areTwo 81 = .ok (.iaload, 1) := by decide +kernel
theorem dX12_areTwo_82 : decode cX12_areTwo 82 = .ok (.aload_n 0, 1) := by decide +kernel
theorem dX12_areTwo_83 : decode cX12_areTwo 83 = .ok (.iload_n 3, 1) := by decide +kernel
theorem dX12_areTwo_84 : decode cX12_areTwo 84 = .ok (.invokevirtual 376, 3) := by decide +kernel
theorem dX12_areTwo_87 : decode cX12_areTwo 87 = .ok (.invokevirtual 379, 3) := by decide +kernel
theorem dX12_areTwo_90 : decode cX12_areTwo 90 = .ok (.ifCond .eq 5, 3) := by decide +kernel
theorem dX12_areTwo_93 : decode cX12_areTwo 93 = .ok (.iconst 1, 1) := by decide +kernel
theorem dX12_areTwo_94 : decode cX12_areTwo 94 = .ok (.ireturn, 1) := by decide +kernel
theorem dX12_areTwo_95 : decode cX12_areTwo 95 = .ok (.iinc 3 1, 3) := by decide +kernel
theorem dX12_areTwo_98 : decode cX12_areTwo 98 = .ok (.goto (-74), 3) := by decide +kernel
theorem dX12_areTwo_101 : decode cX12_areTwo 101 = .ok (.iconst 0, 1) := by decide +kernel
theorem dX12_areTwo_102 : decode cX12_areTwo 102 = .ok (.ireturn, 1) := by decide +kernel
def c_X12_areTwo_L24b {ρ : Type}  (z1 : Int32) (z2 : Int32) (h : PH) (K1 : Option ρ) (K2 : Option ρ) (REC : Int32 → Option ρ) (x3 : Int32) : Option ρ :=
  gd (ixOK (h.1 0 18) 2) <|
  if (h.1 21 (h.1 0 18).toNatClampNeg) ≤ x3 then
    K2
  else
    gd (ixOK (22 + x3) 40) <|
    if (h.1 44 (22 + x3).toNatClampNeg) < 0 then
      nm (x3 + 1) fun v2 =>
      REC v2
    else
      (c_X12_manOf x3 h).bind fun r3 =>
      if r3 = z1 then
        gd (ixOK (22 + x3) 40) <|
        gd (ixOK ((7 * (h.1 0 18)) + (h.1 44 (22 + x3).toNatClampNeg)) 14) <|
        (c_X12_dayOf x3 h).bind fun r5 =>
        (c_X12_isToldElse z2 (h.1 18 ((7 * (h.1 0 18)) + (h.1 44 (22 + x3).toNatClampNeg)).toNatClampNeg) r5 h).bind fun r6 =>
        if r6 = 0 then
          nm (x3 + 1) fun v7 =>
          REC v7
        else
          K1
      else
        nm (x3 + 1) fun v4 =>
        REC v4
set_option maxHeartbeats 4000000 in
set_option maxRecDepth 100000 in
theorem w_X12_areTwo_L24b {p0 : Program} {l : Launch} {e : Env} {s : State} {m : MethodId} {args : Array Value} {below : List Frame} {meth : Method} {c : Code} {Q : State → Prop} {D : va_G} {G : GG} {A : Nat → Prop} {H0 : Heap} {ad : Nat → Nat} {lay : List KK} {X : va_W} {ρ : Type} {r0 : ρ} {z1 : Int32} {z2 : Int32} {x3 : Int32} {h : PH} {H : Heap} {locs : List Loc} {ls : Array Slot} {K1 : Option ρ} {K2 : Option ρ} {REC : Int32 → Option ρ} (hM : CallFix p0 m c cX12_areTwo 4 s args lw_g RX12) (ho : okX12 lay) (hk1 : ∀ (H : Heap) (locs : List Loc) (ls : Array Slot), K1 = some r0 → Wd D G A H0 ad lay X h s H locs → lv_has ls 4 [] → W p0 l e (rmN 2 45) s m args below meth c H locs 0 0 Q (F0 m 93 ls [])) (hk2 : ∀ (H : Heap) (locs : List Loc) (ls : Array Slot), K2 = some r0 → Wd D G A H0 ad lay X h s H locs → lv_has ls 4 [] → W p0 l e (rmN 2 45) s m args below meth c H locs 0 0 Q (F0 m 101 ls [])) (hrec : ∀ (x3 : Int32), ∀ (H : Heap) (locs : List Loc) (ls : Array Slot), REC x3 = some r0 → Wd D G A H0 ad lay X h s H locs → lv_has ls 4 [(0, .ref (ad 0)), (1, .int z1), (2, .int z2), (3, .int x3)] → W p0 l e (rmN 2 45) s m args below meth c H locs 0 0 Q (F0 m 24 ls [])) (hw : Wd D G A H0 ad lay X h s H locs) (hl : lv_has ls 4 [(0, .ref (ad 0)), (1, .int z1), (2, .int z2), (3, .int x3)]) (hf : c_X12_areTwo_L24b z1 z2 h K1 K2 REC x3 = some r0) : W p0 l e (rmN 2 45) s m args below meth c H locs 0 0 Q (F0 m 24 ls []) := by
  unfold c_X12_areTwo_L24b at hf
  refine lv_iload_n hM.1 hM.2.1 dX12_areTwo_24 rfl (lv_at hl 3 rfl) ?_
  refine lv_aload_n hM.1 hM.2.1 dX12_areTwo_25 rfl (lv_at hl 0 rfl) ?_
  refine gf_X12_duties hM hw (okX12.o ho) fl_X12_80 dX12_areTwo_26 ?_
  refine lv_aload_n hM.1 hM.2.1 dX12_areTwo_29 rfl (lv_at hl 0 rfl) ?_
  refine gf_X12_live hM hw (okX12.o ho) fl_X12_266 dX12_areTwo_30 ?_
  refine x_iald hM hw (okX12.duties ho) hf dX12_areTwo_33 (fun hf => ?_)
  refine x_ic_ge (tgt := 101) hM hf dX12_areTwo_34 (by decide) (fun hf => ?_) (fun hf => ?_)
  · exact hk2 _ _ _ hf hw (lv_sub hl [] rfl)
  refine lv_aload_n hM.1 hM.2.1 dX12_areTwo_37 rfl (lv_at hl 0 rfl) ?_
  refine gf_X12_row hM hw (okX12.o ho) fl_X12_149 dX12_areTwo_38 ?_
  refine lv_bipush (v := 22) hM.1 hM.2.1 dX12_areTwo_41 (by decide) ?_
  refine lv_iload_n hM.1 hM.2.1 dX12_areTwo_43 rfl (lv_at hl 3 rfl) ?_
  refine lv_iadd hM.1 hM.2.1 dX12_areTwo_44 ?_
  refine x_iald hM hw (okX12.row ho) hf dX12_areTwo_45 (fun hf => ?_)
  refine x_if_lt (tgt := 95) hM hf dX12_areTwo_46 (by decide) (fun hf => ?_) (fun hf => ?_)
  · refine x_iinc (k := 3) (d := 1) hM hf dX12_areTwo_95 hl rfl (by decide) (by decide) (fun v2 => [(3, .int v2), (0, .ref (ad 0)), (1, .int z1), (2, .int z2)]) (fun _ => rfl) (fun v2 ls hf hl => ?_)
    refine lv_goto (tgt := 24) hM.1 hM.2.1 dX12_areTwo_98 (by decide) ?_
    exact hrec _ _ _ _ hf hw (lv_sub hl [1, 2, 3, 0] rfl)
  refine lv_aload_n hM.1 hM.2.1 dX12_areTwo_49 rfl (lv_at hl 0 rfl) ?_
  refine lv_iload_n hM.1 hM.2.1 dX12_areTwo_50 rfl (lv_at hl 3 rfl) ?_
  refine x_callVIr (rest := []) hM hw (ct_X12_manOf l ho x3) [.int x3] (okX12.o ho) rfl rfl rfl (gi_V ml_X12_373 im_X12_manOf sl_X12_manOf in_X12 kc_X12_manOf) hd_X12_manOf rfl ⟨Nat.le_of_ble_eq_true rfl, Nat.le_of_ble_eq_true rfl⟩ rfl (Nat.le_of_ble_eq_true rfl) hl.1 hcs0 hf dX12_areTwo_51 (fun r3 H locs hf hw => ?_)
  refine lv_iload_n hM.1 hM.2.1 dX12_areTwo_54 rfl (lv_at hl 1 rfl) ?_
  refine x_ic_ne (tgt := 95) hM hf dX12_areTwo_55 (by decide) (fun hf => ?_) (fun hf => ?_)
  · refine x_iinc (k := 3) (d := 1) hM hf dX12_areTwo_95 hl rfl (by decide) (by decide) (fun v4 => [(3, .int v4), (0, .ref (ad 0)), (1, .int z1), (2, .int z2)]) (fun _ => rfl) (fun v4 ls hf hl => ?_)
    refine lv_goto (tgt := 24) hM.1 hM.2.1 dX12_areTwo_98 (by decide) ?_
    exact hrec _ _ _ _ hf hw (lv_sub hl [1, 2, 3, 0] rfl)
  refine lv_aload_n hM.1 hM.2.1 dX12_areTwo_58 rfl (lv_at hl 0 rfl) ?_
  refine lv_iload_n hM.1 hM.2.1 dX12_areTwo_59 rfl (lv_at hl 2 rfl) ?_
  refine lv_aload_n hM.1 hM.2.1 dX12_areTwo_60 rfl (lv_at hl 0 rfl) ?_
  refine gf_X12_kindOf hM hw (okX12.o ho) fl_X12_70 dX12_areTwo_61 ?_
  refine lv_bipush (v := 7) hM.1 hM.2.1 dX12_areTwo_64 (by decide) ?_
  refine lv_aload_n hM.1 hM.2.1 dX12_areTwo_66 rfl (lv_at hl 0 rfl) ?_
  refine gf_X12_live hM hw (okX12.o ho) fl_X12_266 dX12_areTwo_67 ?_
  refine lv_imul hM.1 hM.2.1 dX12_areTwo_70 ?_
  refine lv_aload_n hM.1 hM.2.1 dX12_areTwo_71 rfl (lv_at hl 0 rfl) ?_
  refine gf_X12_row hM hw (okX12.o ho) fl_X12_149 dX12_areTwo_72 ?_
  refine lv_bipush (v := 22) hM.1 hM.2.1 dX12_areTwo_75 (by decide) ?_
  refine lv_iload_n hM.1 hM.2.1 dX12_areTwo_77 rfl (lv_at hl 3 rfl) ?_
  refine lv_iadd hM.1 hM.2.1 dX12_areTwo_78 ?_
  refine x_iald hM hw (okX12.row ho) hf dX12_areTwo_79 (fun hf => ?_)
  refine lv_iadd hM.1 hM.2.1 dX12_areTwo_80 ?_
  refine x_iald hM hw (okX12.kindOf ho) hf dX12_areTwo_81 (fun hf => ?_)
  refine lv_aload_n hM.1 hM.2.1 dX12_areTwo_82 rfl (lv_at hl 0 rfl) ?_
  refine lv_iload_n hM.1 hM.2.1 dX12_areTwo_83 rfl (lv_at hl 3 rfl) ?_
  refine x_callVIr (rest := [.int (h.1 18 ((7 * (h.1 0 18)) + (h.1 44 (22 + x3).toNatClampNeg)).toNatClampNeg), .int z2, .ref (ad 0)]) hM hw (ct_X12_dayOf l ho x3) [.int x3] (okX12.o ho) rfl rfl rfl (gi_V ml_X12_376 im_X12_dayOf sl_X12_dayOf in_X12 kc_X12_dayOf) hd_X12_dayOf rfl ⟨Nat.le_of_ble_eq_true rfl, Nat.le_of_ble_eq_true rfl⟩ rfl (Nat.le_of_ble_eq_true rfl) hl.1 hcs0 hf dX12_areTwo_84 (fun r5 H locs hf hw => ?_)
  refine x_callVIr (rest := []) hM hw (ct_X12_isToldElse l ho z2 (h.1 18 ((7 * (h.1 0 18)) + (h.1 44 (22 + x3).toNatClampNeg)).toNatClampNeg) r5) [.int z2, .int (h.1 18 ((7 * (h.1 0 18)) + (h.1 44 (22 + x3).toNatClampNeg)).toNatClampNeg), .int r5] (okX12.o ho) rfl rfl rfl (gi_V ml_X12_379 im_X12_isToldElse sl_X12_isToldElse in_X12 kc_X12_isToldElse) hd_X12_isToldElse rfl ⟨Nat.le_of_ble_eq_true rfl, Nat.le_of_ble_eq_true rfl⟩ rfl (Nat.le_of_ble_eq_true rfl) hl.1 hcs0 hf dX12_areTwo_87 (fun r6 H locs hf hw => ?_)
  refine x_if_eq (tgt := 95) hM hf dX12_areTwo_90 (by decide) (fun hf => ?_) (fun hf => ?_)
  · refine x_iinc (k := 3) (d := 1) hM hf dX12_areTwo_95 hl rfl (by decide) (by decide) (fun v7 => [(3, .int v7), (0, .ref (ad 0)), (1, .int z1), (2, .int z2)]) (fun _ => rfl) (fun v7 ls hf hl => ?_)
    refine lv_goto (tgt := 24) hM.1 hM.2.1 dX12_areTwo_98 (by decide) ?_
    exact hrec _ _ _ _ hf hw (lv_sub hl [1, 2, 3, 0] rfl)
  exact hk1 _ _ _ hf hw (lv_sub hl [] rfl)
set_option maxHeartbeats 4000000 in
set_option maxRecDepth 100000 in
theorem w_X12_areTwo_L24 {p0 : Program} {l : Launch} {e : Env} {s : State} {m : MethodId} {args : Array Value} {below : List Frame} {meth : Method} {c : Code} {Q : State → Prop} {D : va_G} {G : GG} {A : Nat → Prop} {H0 : Heap} {ad : Nat → Nat} {lay : List KK} {X : va_W} {ρ : Type} {r0 : ρ} {z1 : Int32} {z2 : Int32} {h : PH} {K1 : Option ρ} {K2 : Option ρ} (hM : CallFix p0 m c cX12_areTwo 4 s args lw_g RX12) (ho : okX12 lay) (hk1 : ∀ (H : Heap) (locs : List Loc) (ls : Array Slot), K1 = some r0 → Wd D G A H0 ad lay X h s H locs → lv_has ls 4 [] → W p0 l e (rmN 2 45) s m args below meth c H locs 0 0 Q (F0 m 93 ls [])) (hk2 : ∀ (H : Heap) (locs : List Loc) (ls : Array Slot), K2 = some r0 → Wd D G A H0 ad lay X h s H locs → lv_has ls 4 [] → W p0 l e (rmN 2 45) s m args below meth c H locs 0 0 Q (F0 m 101 ls [])) (n : Nat) (x3 : Int32) (hf : lq1 (c_X12_areTwo_L24b z1 z2 h K1 K2) n x3 = some r0) : ∀ (H : Heap) (locs : List Loc) (ls : Array Slot), Wd D G A H0 ad lay X h s H locs → lv_has ls 4 [(0, .ref (ad 0)), (1, .int z1), (2, .int z2), (3, .int x3)] → W p0 l e (rmN 2 45) s m args below meth c H locs 0 0 Q (F0 m 24 ls []) := by
  exact lq1_i (fun (x3 : Int32) => ∀ (H : Heap) (locs : List Loc) (ls : Array Slot), Wd D G A H0 ad lay X h s H locs → lv_has ls 4 [(0, .ref (ad 0)), (1, .int z1), (2, .int z2), (3, .int x3)] → W p0 l e (rmN 2 45) s m args below meth c H locs 0 0 Q (F0 m 24 ls [])) (fun REC x3 ih hf H locs ls hw hl => w_X12_areTwo_L24b hM ho hk1 hk2 (fun x3 H locs ls hf hw hl => ih x3 hf H locs ls hw hl) hw hl hf) n x3 hf
def c_X12_areTwo (a1 : Int32) (a2 : Int32) (h : PH) : Option (Int32) :=
  gd (ixOK ((5 * (h.1 0 18)) + a1) 10) <|
  if (((h.1 14 ((5 * (h.1 0 18)) + a1).toNatClampNeg) >>> (a2 &&& 31)) &&& 1) = 0 then
    some 0
  else
    nm (0 : Int32) fun v1 =>
    lq1 (c_X12_areTwo_L24b a1 a2 h
      (some 1)
      (some 0)) fu v1
set_option maxHeartbeats 4000000 in
set_option maxRecDepth 100000 in
theorem ct_X12_areTwo (l : Launch) {lay : List KK} (ho : okX12 lay) (a1 : Int32) (a2 : Int32) : CtI l yX12_areTwo cX12_areTwo 4 (some .boolean) 2 45 lay (rd (fun h => c_X12_areTwo a1 a2 h)) (fun ad => [.ref (ad 0), .int a1, .int a2]) := by
  refine CtI.mk' RX12 (by decide) rfl (fun _ => Nat.le_of_ble_eq_true rfl) ?_
  intro p0 e s m args below meth c D G A H0 ad X h r0 H ls Q hM hw hl hf hR
  have hl : lv_has ls 4 [(0, .ref (ad 0)), (1, .int a1), (2, .int a2)] := hl
  obtain ⟨v0, hv0, hr0⟩ : ∃ v0, c_X12_areTwo a1 a2 h = some v0 ∧ r0 = (v0, h) := rd_some hf
  subst hr0
  have hf := hv0
  unfold c_X12_areTwo at hf
  refine lv_aload_n hM.1 hM.2.1 dX12_areTwo_0 rfl (lv_at hl 0 rfl) ?_
  refine gf_X12_knowing hM hw (okX12.o ho) fl_X12_58 dX12_areTwo_1 ?_
  refine lv_iconst (v := 5) hM.1 hM.2.1 dX12_areTwo_4 ic_5 ?_
  refine lv_aload_n hM.1 hM.2.1 dX12_areTwo_5 rfl (lv_at hl 0 rfl) ?_
  refine gf_X12_live hM hw (okX12.o ho) fl_X12_266 dX12_areTwo_6 ?_
  refine lv_imul hM.1 hM.2.1 dX12_areTwo_9 ?_
  refine lv_iload_n hM.1 hM.2.1 dX12_areTwo_10 rfl (lv_at hl 1 rfl) ?_
  refine lv_iadd hM.1 hM.2.1 dX12_areTwo_11 ?_
  refine x_iald hM hw (okX12.knowing ho) hf dX12_areTwo_12 (fun hf => ?_)
  refine lv_iload_n hM.1 hM.2.1 dX12_areTwo_13 rfl (lv_at hl 2 rfl) ?_
  refine lv_ishr hM.1 hM.2.1 dX12_areTwo_14 ?_
  refine lv_iconst (v := 1) hM.1 hM.2.1 dX12_areTwo_15 ic_1 ?_
  refine lv_iand hM.1 hM.2.1 dX12_areTwo_16 ?_
  refine x_if_ne (tgt := 22) hM hf dX12_areTwo_17 (by decide) (fun hf => ?_) (fun hf => ?_)
  · refine lv_iconst (v := 0) hM.1 hM.2.1 dX12_areTwo_22 ic_0 ?_
    refine x_istore_n hM hf dX12_areTwo_23 rfl hl (by decide) (fun v1 => [(3, .int v1), (0, .ref (ad 0)), (1, .int a1), (2, .int a2)]) (fun _ => rfl) (fun v1 ls hf hl => ?_)
    refine w_X12_areTwo_L24 hM ho (fun H locs ls hf hw hl => ?_) (fun H locs ls hf hw hl => ?_) fu _ hf _ _ _ hw (lv_sub hl [1, 2, 3, 0] rfl)
    · refine lv_iconst (v := 1) hM.1 hM.2.1 dX12_areTwo_93 ic_1 ?_
      exact hR _ _ _ _ _ _ _ (congrArg (fun z => (z, _)) (Option.some.inj hf)) rfl (nar_z (by decide)) hw dX12_areTwo_94
    · refine lv_iconst (v := 0) hM.1 hM.2.1 dX12_areTwo_101 ic_0 ?_
      exact hR _ _ _ _ _ _ _ (congrArg (fun z => (z, _)) (Option.some.inj hf)) rfl (nar_z (by decide)) hw dX12_areTwo_102
  refine lv_iconst (v := 0) hM.1 hM.2.1 dX12_areTwo_20 ic_0 ?_
  exact hR _ _ _ _ _ _ _ (congrArg (fun z => (z, _)) (Option.some.inj hf)) rfl (nar_z (by decide)) hw dX12_areTwo_21
theorem hd_X12_areTwo : yX12_areTwo.cls = RX12 ∧ yX12_areTwo.cls ≠ "java/lang/invoke/MethodHandle" ∧ yX12_areTwo.cls ≠ "java/lang/invoke/VarHandle" ∧ (parseMethodDescriptor yX12_areTwo.desc).map (fun d => d.parameters.length) = some 2 := ⟨rfl, by decide, by decide, by decide +kernel⟩
theorem dX12_two_0 : decode cX12_two 0 = .ok (.iload_n 1, 1) := by decide +kernel
theorem dX12_two_1 : decode cX12_two 1 = .ok (.iconst (-1), 1) := by decide +kernel
theorem dX12_two_2 : decode cX12_two 2 = .ok (.if_icmp .ge 5, 3) := by decide +kernel
theorem dX12_two_5 : decode cX12_two 5 = .ok (.iconst (-1), 1) := by decide +kernel
theorem dX12_two_6 : decode cX12_two 6 = .ok (.ireturn, 1) := by decide +kernel
theorem dX12_two_7 : decode cX12_two 7 = .ok (.aload_n 0, 1) := by decide +kernel
theorem dX12_two_8 : decode cX12_two 8 = .ok (.invokevirtual 437, 3) := by decide +kernel
theorem dX12_two_11 : decode cX12_two 11 = .ok (.iconst 0, 1) := by decide +kernel
theorem dX12_two_12 : decode cX12_two 12 = .ok (.istore_n 2, 1) := by decide +kernel
theorem dX12_two_13 : decode cX12_two 13 = .ok (.iconst 0, 1) := by decide +kernel
theorem dX12_two_14 : decode cX12_two 14 = .ok (.istore_n 3, 1) := by decide +kernel
theorem dX12_two_15 : decode cX12_two 15 = .ok (.iload_n 3, 1) := by decide +kernel
theorem dX12_two_16 : decode cX12_two 16 = .ok (.aload_n 0, 1) := by decide +kernel
theorem dX12_two_17 : decode cX12_two 17 = .ok (.getfield 49, 3) := by decide +kernel
theorem dX12_two_20 : decode cX12_two 20 = .ok (.aload_n 0, 1) := by decide +kernel
theorem dX12_two_21 : decode cX12_two 21 = .ok (.getfield 266, 3) := by decide +kernel
theorem dX12_two_24 : decode cX12_two 24 = .ok (.iaload, 1) := by decide +kernel
theorem dX12_two_25 : decode cX12_two 25 = .ok (.if_icmp .ge 63, 3) := by decide +kernel
theorem dX12_two_28 : decode cX12_two 28 = .ok (.iload_n 3, 1) := by decide +kernel
theorem dX12_two_29 : decode cX12_two 29 = .ok (.iconst 1, 1) := by decide +kernel
theorem dX12_two_30 : decode cX12_two 30 = .ok (.iadd, 1) := by decide +kernel
theorem dX12_two_31 : decode cX12_two 31 = .ok (.istore 4, 2) := by decide +kernel
theorem dX12_two_33 : decode cX12_two 33 = .ok (.iload 4, 2) := by decide +kernel
theorem dX12_two_35 : decode cX12_two 35 = .ok (.aload_n 0, 1) := by decide +kernel
theorem dX12_two_36 : decode cX12_two 36 = .ok (.getfield 49, 3) := by decide +kernel
theorem dX12_two_39 : decode cX12_two 39 = .ok (.aload_n 0, 1) := by decide +kernel
theorem dX12_two_40 : decode cX12_two 40 = .ok (.getfield 266, 3) := by decide +kernel
theorem dX12_two_43 : decode cX12_two 43 = .ok (.iaload, 1) := by decide +kernel
theorem dX12_two_44 : decode cX12_two 44 = .ok (.if_icmp .ge 38, 3) := by decide +kernel
theorem dX12_two_47 : decode cX12_two 47 = .ok (.aload_n 0, 1) := by decide +kernel
theorem dX12_two_48 : decode cX12_two 48 = .ok (.iload_n 3, 1) := by decide +kernel
theorem dX12_two_49 : decode cX12_two 49 = .ok (.iload 4, 2) := by decide +kernel
theorem dX12_two_51 : decode cX12_two 51 = .ok (.invokevirtual 483, 3) := by decide +kernel
theorem dX12_two_54 : decode cX12_two 54 = .ok (.ifCond .ne 6, 3) := by decide +kernel
theorem dX12_two_57 : decode cX12_two 57 = .ok (.goto 19, 3) := by decide +kernel
theorem dX12_two_60 : decode cX12_two 60 = .ok (.iload_n 2, 1) := by decide +kernel
theorem dX12_two_61 : decode cX12_two 61 = .ok (.iload_n 1, 1) := by decide +kernel
theorem dX12_two_62 : decode cX12_two 62 = .ok (.if_icmp .ne 11, 3) := by decide +kernel
theorem dX12_two_65 : decode cX12_two 65 = .ok (.bipush 10, 2) := by decide +kernel
theorem dX12_two_67 : decode cX12_two 67 = .ok (.iload_n 3, 1) := by decide +kernel
theorem dX12_two_68 : decode cX12_two 68 = .ok (.imul, 1) := by decide +kernel
theorem dX12_two_69 : decode cX12_two 69 = .ok (.iload 4, 2) := by decide +kernel
theorem dX12_two_71 : decode cX12_two 71 = .ok (.iadd, 1) := by decide +kernel
theorem dX12_two_72 : decode cX12_two 72 = .ok (.ireturn, 1) := by decide +kernel
theorem dX12_two_73 : decode cX12_two 73 = .ok (.iinc 2 1, 3) := by decide +kernel
theorem dX12_two_76 : decode cX12_two 76 = .ok (.iinc 4 1, 3) := by decide +kernel
theorem dX12_two_79 : decode cX12_two 79 = .ok (.goto (-46), 3) := by decide +kernel
theorem dX12_two_82 : decode cX12_two 82 = .ok (.iinc 3 1, 3) := by decide +kernel
theorem dX12_two_85 : decode cX12_two 85 = .ok (.goto (-70), 3) := by decide +kernel
theorem dX12_two_88 : decode cX12_two 88 = .ok (.iload_n 1, 1) := by decide +kernel
theorem dX12_two_89 : decode cX12_two 89 = .ok (.iconst (-1), 1) := by decide +kernel
theorem dX12_two_90 : decode cX12_two 90 = .ok (.if_icmp .ne 7, 3) := by decide +kernel
theorem dX12_two_93 : decode cX12_two 93 = .ok (.iload_n 2, 1) := by decide +kernel
theorem dX12_two_94 : decode cX12_two 94 = .ok (.goto 4, 3) := by decide +kernel
theorem dX12_two_97 : decode cX12_two 97 = .ok (.iconst (-1), 1) := by decide +kernel
theorem dX12_two_98 : decode cX12_two 98 = .ok (.ireturn, 1) := by decide +kernel
def c_X12_two_L33b {ρ : Type}  (z1 : Int32) (z3 : Int32) (h : PH) (K1 : Int32 → Option ρ) (K2 : Int32 → Option ρ) (REC : Int32 → Int32 → Option ρ) (x2 : Int32) (x4 : Int32) : Option ρ :=
  gd (ixOK (h.1 0 18) 2) <|
  if (h.1 11 (h.1 0 18).toNatClampNeg) ≤ x4 then
    K2 x2
  else
    (c_X12_areTwo z3 x4 h).bind fun r5 =>
    if r5 = 0 then
      nm (x4 + 1) fun v8 =>
      REC x2 v8
    else
      if x2 = z1 then
        K1 x4
      else
        nm (x2 + 1) fun v6 =>
        nm (x4 + 1) fun v7 =>
        REC v6 v7
set_option maxHeartbeats 4000000 in
set_option maxRecDepth 100000 in
theorem w_X12_two_L33b {p0 : Program} {l : Launch} {e : Env} {s : State} {m : MethodId} {args : Array Value} {below : List Frame} {meth : Method} {c : Code} {Q : State → Prop} {D : va_G} {G : GG} {A : Nat → Prop} {H0 : Heap} {ad : Nat → Nat} {lay : List KK} {X : va_W} {ρ : Type} {r0 : ρ} {z1 : Int32} {z3 : Int32} {x2 : Int32} {x4 : Int32} {h : PH} {H : Heap} {locs : List Loc} {ls : Array Slot} {K1 : Int32 → Option ρ} {K2 : Int32 → Option ρ} {REC : Int32 → Int32 → Option ρ} (hM : CallFix p0 m c cX12_two 5 s args lw_g RX12) (ho : okX12 lay) (hk1 : ∀ (x4 : Int32), ∀ (H : Heap) (locs : List Loc) (ls : Array Slot), K1 x4 = some r0 → Wd D G A H0 ad lay X h s H locs → lv_has ls 5 [(3, .int z3), (4, .int x4)] → W p0 l e (rmN 3 68) s m args below meth c H locs 0 0 Q (F0 m 65 ls [])) (hk2 : ∀ (x2 : Int32), ∀ (H : Heap) (locs : List Loc) (ls : Array Slot), K2 x2 = some r0 → Wd D G A H0 ad lay X h s H locs → lv_has ls 5 [(0, .ref (ad 0)), (1, .int z1), (2, .int x2), (3, .int z3)] → W p0 l e (rmN 3 68) s m args below meth c H locs 0 0 Q (F0 m 82 ls [])) (hrec : ∀ (x2 : Int32) (x4 : Int32), ∀ (H : Heap) (locs : List Loc) (ls : Array Slot), REC x2 x4 = some r0 → Wd D G A H0 ad lay X h s H locs → lv_has ls 5 [(0, .ref (ad 0)), (1, .int z1), (2, .int x2), (3, .int z3), (4, .int x4)] → W p0 l e (rmN 3 68) s m args below meth c H locs 0 0 Q (F0 m 33 ls [])) (hw : Wd D G A H0 ad lay X h s H locs) (hl : lv_has ls 5 [(0, .ref (ad 0)), (1, .int z1), (2, .int x2), (3, .int z3), (4, .int x4)]) (hf : c_X12_two_L33b z1 z3 h K1 K2 REC x2 x4 = some r0) : W p0 l e (rmN 3 68) s m args below meth c H locs 0 0 Q (F0 m 33 ls []) := by
  unfold c_X12_two_L33b at hf
  refine lv_iload hM.1 hM.2.1 dX12_two_33 (lv_at hl 4 rfl) ?_
  refine lv_aload_n hM.1 hM.2.1 dX12_two_35 rfl (lv_at hl 0 rfl) ?_
  refine gf_X12_men hM hw (okX12.o ho) fl_X12_49 dX12_two_36 ?_
  refine lv_aload_n hM.1 hM.2.1 dX12_two_39 rfl (lv_at hl 0 rfl) ?_
  refine gf_X12_live hM hw (okX12.o ho) fl_X12_266 dX12_two_40 ?_
  refine x_iald hM hw (okX12.men ho) hf dX12_two_43 (fun hf => ?_)
  refine x_ic_ge (tgt := 82) hM hf dX12_two_44 (by decide) (fun hf => ?_) (fun hf => ?_)
  · exact hk2 _ _ _ _ hf hw (lv_sub hl [0, 1, 2, 3] rfl)
  refine lv_aload_n hM.1 hM.2.1 dX12_two_47 rfl (lv_at hl 0 rfl) ?_
  refine lv_iload_n hM.1 hM.2.1 dX12_two_48 rfl (lv_at hl 3 rfl) ?_
  refine lv_iload hM.1 hM.2.1 dX12_two_49 (lv_at hl 4 rfl) ?_
  refine x_callVIr (rest := []) hM hw (ct_X12_areTwo l ho z3 x4) [.int z3, .int x4] (okX12.o ho) rfl rfl rfl (gi_V ml_X12_483 im_X12_areTwo sl_X12_areTwo in_X12 kc_X12_areTwo) hd_X12_areTwo rfl ⟨Nat.le_of_ble_eq_true rfl, Nat.le_of_ble_eq_true rfl⟩ rfl (Nat.le_of_ble_eq_true rfl) hl.1 hcs0 hf dX12_two_51 (fun r5 H locs hf hw => ?_)
  refine x_if_ne (tgt := 60) hM hf dX12_two_54 (by decide) (fun hf => ?_) (fun hf => ?_)
  · refine lv_iload_n hM.1 hM.2.1 dX12_two_60 rfl (lv_at hl 2 rfl) ?_
    refine lv_iload_n hM.1 hM.2.1 dX12_two_61 rfl (lv_at hl 1 rfl) ?_
    refine x_ic_ne (tgt := 73) hM hf dX12_two_62 (by decide) (fun hf => ?_) (fun hf => ?_)
    · refine x_iinc (k := 2) (d := 1) hM hf dX12_two_73 hl rfl (by decide) (by decide) (fun v6 => [(2, .int v6), (0, .ref (ad 0)), (1, .int z1), (3, .int z3), (4, .int x4)]) (fun _ => rfl) (fun v6 ls hf hl => ?_)
      refine x_iinc (k := 4) (d := 1) hM hf dX12_two_76 hl rfl (by decide) (by decide) (fun v7 => [(4, .int v7), (2, .int v6), (0, .ref (ad 0)), (1, .int z1), (3, .int z3)]) (fun _ => rfl) (fun v7 ls hf hl => ?_)
      refine lv_goto (tgt := 33) hM.1 hM.2.1 dX12_two_79 (by decide) ?_
      exact hrec _ _ _ _ _ hf hw (lv_sub hl [2, 3, 1, 4, 0] rfl)
    exact hk1 _ _ _ _ hf hw (lv_sub hl [3, 4] rfl)
  refine lv_goto (tgt := 76) hM.1 hM.2.1 dX12_two_57 (by decide) ?_
  refine x_iinc (k := 4) (d := 1) hM hf dX12_two_76 hl rfl (by decide) (by decide) (fun v8 => [(4, .int v8), (0, .ref (ad 0)), (1, .int z1), (2, .int x2), (3, .int z3)]) (fun _ => rfl) (fun v8 ls hf hl => ?_)
  refine lv_goto (tgt := 33) hM.1 hM.2.1 dX12_two_79 (by decide) ?_
  exact hrec _ _ _ _ _ hf hw (lv_sub hl [1, 2, 3, 4, 0] rfl)
set_option maxHeartbeats 4000000 in
set_option maxRecDepth 100000 in
theorem w_X12_two_L33 {p0 : Program} {l : Launch} {e : Env} {s : State} {m : MethodId} {args : Array Value} {below : List Frame} {meth : Method} {c : Code} {Q : State → Prop} {D : va_G} {G : GG} {A : Nat → Prop} {H0 : Heap} {ad : Nat → Nat} {lay : List KK} {X : va_W} {ρ : Type} {r0 : ρ} {z1 : Int32} {z3 : Int32} {h : PH} {K1 : Int32 → Option ρ} {K2 : Int32 → Option ρ} (hM : CallFix p0 m c cX12_two 5 s args lw_g RX12) (ho : okX12 lay) (hk1 : ∀ (x4 : Int32), ∀ (H : Heap) (locs : List Loc) (ls : Array Slot), K1 x4 = some r0 → Wd D G A H0 ad lay X h s H locs → lv_has ls 5 [(3, .int z3), (4, .int x4)] → W p0 l e (rmN 3 68) s m args below meth c H locs 0 0 Q (F0 m 65 ls [])) (hk2 : ∀ (x2 : Int32), ∀ (H : Heap) (locs : List Loc) (ls : Array Slot), K2 x2 = some r0 → Wd D G A H0 ad lay X h s H locs → lv_has ls 5 [(0, .ref (ad 0)), (1, .int z1), (2, .int x2), (3, .int z3)] → W p0 l e (rmN 3 68) s m args below meth c H locs 0 0 Q (F0 m 82 ls [])) (n : Nat) (x2 : Int32) (x4 : Int32) (hf : lq2 (c_X12_two_L33b z1 z3 h K1 K2) n x2 x4 = some r0) : ∀ (H : Heap) (locs : List Loc) (ls : Array Slot), Wd D G A H0 ad lay X h s H locs → lv_has ls 5 [(0, .ref (ad 0)), (1, .int z1), (2, .int x2), (3, .int z3), (4, .int x4)] → W p0 l e (rmN 3 68) s m args below meth c H locs 0 0 Q (F0 m 33 ls []) := by
  exact lq2_i (fun (x2 : Int32) (x4 : Int32) => ∀ (H : Heap) (locs : List Loc) (ls : Array Slot), Wd D G A H0 ad lay X h s H locs → lv_has ls 5 [(0, .ref (ad 0)), (1, .int z1), (2, .int x2), (3, .int z3), (4, .int x4)] → W p0 l e (rmN 3 68) s m args below meth c H locs 0 0 Q (F0 m 33 ls [])) (fun REC x2 x4 ih hf H locs ls hw hl => w_X12_two_L33b hM ho hk1 hk2 (fun x2 x4 H locs ls hf hw hl => ih x2 x4 hf H locs ls hw hl) hw hl hf) n x2 x4 hf
def c_X12_two_L15b {ρ : Type}  (z1 : Int32) (h : PH) (K1 : Int32 → Int32 → Option ρ) (K2 : Int32 → Option ρ) (REC : Int32 → Int32 → Option ρ) (x2 : Int32) (x3 : Int32) : Option ρ :=
  gd (ixOK (h.1 0 18) 2) <|
  if (h.1 11 (h.1 0 18).toNatClampNeg) ≤ x3 then
    K2 x2
  else
    nm (x3 + 1) fun v4 =>
    lq2 (c_X12_two_L33b z1 x3 h
      (fun w9 =>
        K1 x3 w9)
      (fun w10 =>
        nm (x3 + 1) fun v11 =>
        REC w10 v11)) fu x2 v4
set_option maxHeartbeats 4000000 in
set_option maxRecDepth 100000 in
theorem w_X12_two_L15b {p0 : Program} {l : Launch} {e : Env} {s : State} {m : MethodId} {args : Array Value} {below : List Frame} {meth : Method} {c : Code} {Q : State → Prop} {D : va_G} {G : GG} {A : Nat → Prop} {H0 : Heap} {ad : Nat → Nat} {lay : List KK} {X : va_W} {ρ : Type} {r0 : ρ} {z1 : Int32} {x2 : Int32} {x3 : Int32} {h : PH} {H : Heap} {locs : List Loc} {ls : Array Slot} {K1 : Int32 → Int32 → Option ρ} {K2 : Int32 → Option ρ} {REC : Int32 → Int32 → Option ρ} (hM : CallFix p0 m c cX12_two 5 s args lw_g RX12) (ho : okX12 lay) (hk1 : ∀ (x3 : Int32) (x4 : Int32), ∀ (H : Heap) (locs : List Loc) (ls : Array Slot), K1 x3 x4 = some r0 → Wd D G A H0 ad lay X h s H locs → lv_has ls 5 [(3, .int x3), (4, .int x4)] → W p0 l e (rmN 3 68) s m args below meth c H locs 0 0 Q (F0 m 65 ls [])) (hk2 : ∀ (x2 : Int32), ∀ (H : Heap) (locs : List Loc) (ls : Array Slot), K2 x2 = some r0 → Wd D G A H0 ad lay X h s H locs → lv_has ls 5 [(1, .int z1), (2, .int x2)] → W p0 l e (rmN 3 68) s m args below meth c H locs 0 0 Q (F0 m 88 ls [])) (hrec : ∀ (x2 : Int32) (x3 : Int32), ∀ (H : Heap) (locs : List Loc) (ls : Array Slot), REC x2 x3 = some r0 → Wd D G A H0 ad lay X h s H locs → lv_has ls 5 [(0, .ref (ad 0)), (1, .int z1), (2, .int x2), (3, .int x3)] → W p0 l e (rmN 3 68) s m args below meth c H locs 0 0 Q (F0 m 15 ls [])) (hw : Wd D G A H0 ad lay X h s H locs) (hl : lv_has ls 5 [(0, .ref (ad 0)), (1, .int z1), (2, .int x2), (3, .int x3)]) (hf : c_X12_two_L15b z1 h K1 K2 REC x2 x3 = some r0) : W p0 l e (rmN 3 68) s m args below meth c H locs 0 0 Q (F0 m 15 ls []) := by
  unfold c_X12_two_L15b at hf
  refine lv_iload_n hM.1 hM.2.1 dX12_two_15 rfl (lv_at hl 3 rfl) ?_
  refine lv_aload_n hM.1 hM.2.1 dX12_two_16 rfl (lv_at hl 0 rfl) ?_
  refine gf_X12_men hM hw (okX12.o ho) fl_X12_49 dX12_two_17 ?_
  refine lv_aload_n hM.1 hM.2.1 dX12_two_20 rfl (lv_at hl 0 rfl) ?_
  refine gf_X12_live hM hw (okX12.o ho) fl_X12_266 dX12_two_21 ?_
  refine x_iald hM hw (okX12.men ho) hf dX12_two_24 (fun hf => ?_)
  refine x_ic_ge (tgt := 88) hM hf dX12_two_25 (by decide) (fun hf => ?_) (fun hf => ?_)
  · exact hk2 _ _ _ _ hf hw (lv_sub hl [1, 2] rfl)
  refine lv_iload_n hM.1 hM.2.1 dX12_two_28 rfl (lv_at hl 3 rfl) ?_
  refine lv_iconst (v := 1) hM.1 hM.2.1 dX12_two_29 ic_1 ?_
  refine lv_iadd hM.1 hM.2.1 dX12_two_30 ?_
  refine x_istore hM hf dX12_two_31 hl (by decide) (fun v4 => [(4, .int v4), (0, .ref (ad 0)), (1, .int z1), (2, .int x2), (3, .int x3)]) (fun _ => rfl) (fun v4 ls hf hl => ?_)
  refine w_X12_two_L33 hM ho (fun w9 H locs ls hf hw hl => ?_) (fun w10 H locs ls hf hw hl => ?_) fu _ _ hf _ _ _ hw (lv_sub hl [1, 2, 3, 4, 0] rfl)
  · exact hk1 _ _ _ _ _ hf hw hl
  · refine x_iinc (k := 3) (d := 1) hM hf dX12_two_82 hl rfl (by decide) (by decide) (fun v11 => [(3, .int v11), (0, .ref (ad 0)), (1, .int z1), (2, .int w10)]) (fun _ => rfl) (fun v11 ls hf hl => ?_)
    refine lv_goto (tgt := 15) hM.1 hM.2.1 dX12_two_85 (by decide) ?_
    exact hrec _ _ _ _ _ hf hw (lv_sub hl [1, 2, 3, 0] rfl)
set_option maxHeartbeats 4000000 in
set_option maxRecDepth 100000 in
theorem w_X12_two_L15 {p0 : Program} {l : Launch} {e : Env} {s : State} {m : MethodId} {args : Array Value} {below : List Frame} {meth : Method} {c : Code} {Q : State → Prop} {D : va_G} {G : GG} {A : Nat → Prop} {H0 : Heap} {ad : Nat → Nat} {lay : List KK} {X : va_W} {ρ : Type} {r0 : ρ} {z1 : Int32} {h : PH} {K1 : Int32 → Int32 → Option ρ} {K2 : Int32 → Option ρ} (hM : CallFix p0 m c cX12_two 5 s args lw_g RX12) (ho : okX12 lay) (hk1 : ∀ (x3 : Int32) (x4 : Int32), ∀ (H : Heap) (locs : List Loc) (ls : Array Slot), K1 x3 x4 = some r0 → Wd D G A H0 ad lay X h s H locs → lv_has ls 5 [(3, .int x3), (4, .int x4)] → W p0 l e (rmN 3 68) s m args below meth c H locs 0 0 Q (F0 m 65 ls [])) (hk2 : ∀ (x2 : Int32), ∀ (H : Heap) (locs : List Loc) (ls : Array Slot), K2 x2 = some r0 → Wd D G A H0 ad lay X h s H locs → lv_has ls 5 [(1, .int z1), (2, .int x2)] → W p0 l e (rmN 3 68) s m args below meth c H locs 0 0 Q (F0 m 88 ls [])) (n : Nat) (x2 : Int32) (x3 : Int32) (hf : lq2 (c_X12_two_L15b z1 h K1 K2) n x2 x3 = some r0) : ∀ (H : Heap) (locs : List Loc) (ls : Array Slot), Wd D G A H0 ad lay X h s H locs → lv_has ls 5 [(0, .ref (ad 0)), (1, .int z1), (2, .int x2), (3, .int x3)] → W p0 l e (rmN 3 68) s m args below meth c H locs 0 0 Q (F0 m 15 ls []) := by
  exact lq2_i (fun (x2 : Int32) (x3 : Int32) => ∀ (H : Heap) (locs : List Loc) (ls : Array Slot), Wd D G A H0 ad lay X h s H locs → lv_has ls 5 [(0, .ref (ad 0)), (1, .int z1), (2, .int x2), (3, .int x3)] → W p0 l e (rmN 3 68) s m args below meth c H locs 0 0 Q (F0 m 15 ls [])) (fun REC x2 x3 ih hf H locs ls hw hl => w_X12_two_L15b hM ho hk1 hk2 (fun x2 x3 H locs ls hf hw hl => ih x2 x3 hf H locs ls hw hl) hw hl hf) n x2 x3 hf
def c_X12_two (a1 : Int32) (h : PH) : Option (Int32 × PH) :=
  if (-1) ≤ a1 then
    (c_X12_copies h).bind fun h1 =>
    nm (0 : Int32) fun v2 =>
    nm (0 : Int32) fun v3 =>
    lq2 (c_X12_two_L15b a1 h1
      (fun w12 w13 =>
        some (((10 * w12) + w13), h1))
      (fun w14 =>
        if a1 = (-1) then
          some (w14, h1)
        else
          some ((-1), h1))) fu v2 v3
  else
    some ((-1), h)
set_option maxHeartbeats 4000000 in
set_option maxRecDepth 100000 in
theorem ct_X12_two (l : Launch) {lay : List KK} (ho : okX12 lay) (a1 : Int32) : CtI l yX12_two cX12_two 5 (some .int) 3 68 lay (fun h => c_X12_two a1 h) (fun ad => [.ref (ad 0), .int a1]) := by
  refine CtI.mk' RX12 (by decide) rfl (fun _ => Nat.le_of_ble_eq_true rfl) ?_
  intro p0 e s m args below meth c D G A H0 ad X h r0 H ls Q hM hw hl hf hR
  have hl : lv_has ls 5 [(0, .ref (ad 0)), (1, .int a1)] := hl
  unfold c_X12_two at hf
  refine lv_iload_n hM.1 hM.2.1 dX12_two_0 rfl (lv_at hl 1 rfl) ?_
  refine lv_iconst (v := (-1)) hM.1 hM.2.1 dX12_two_1 ic_m1 ?_
  refine x_ic_ge (tgt := 7) hM hf dX12_two_2 (by decide) (fun hf => ?_) (fun hf => ?_)
  · refine lv_aload_n hM.1 hM.2.1 dX12_two_7 rfl (lv_at hl 0 rfl) ?_
    refine x_callVV (rest := []) hM hw (ct_X12_copies l ho) [] (okX12.o ho) rfl rfl rfl (gi_V ml_X12_437 im_X12_copies sl_X12_copies in_X12 kc_X12_copies) hd_X12_copies rfl ⟨Nat.le_of_ble_eq_true rfl, Nat.le_of_ble_eq_true rfl⟩ rfl (Nat.le_of_ble_eq_true rfl) hl.1 hcs0 hf dX12_two_8 (fun h1 H locs hf hw => ?_)
    refine lv_iconst (v := 0) hM.1 hM.2.1 dX12_two_11 ic_0 ?_
    refine x_istore_n hM hf dX12_two_12 rfl hl (by decide) (fun v2 => [(2, .int v2), (0, .ref (ad 0)), (1, .int a1)]) (fun _ => rfl) (fun v2 ls hf hl => ?_)
    refine lv_iconst (v := 0) hM.1 hM.2.1 dX12_two_13 ic_0 ?_
    refine x_istore_n hM hf dX12_two_14 rfl hl (by decide) (fun v3 => [(3, .int v3), (2, .int v2), (0, .ref (ad 0)), (1, .int a1)]) (fun _ => rfl) (fun v3 ls hf hl => ?_)
    refine w_X12_two_L15 hM ho (fun w12 w13 H locs ls hf hw hl => ?_) (fun w14 H locs ls hf hw hl => ?_) fu _ _ hf _ _ _ hw (lv_sub hl [2, 3, 1, 0] rfl)
    · refine lv_bipush (v := 10) hM.1 hM.2.1 dX12_two_65 (by decide) ?_
      refine lv_iload_n hM.1 hM.2.1 dX12_two_67 rfl (lv_at hl 0 rfl) ?_
      refine lv_imul hM.1 hM.2.1 dX12_two_68 ?_
      refine lv_iload hM.1 hM.2.1 dX12_two_69 (lv_at hl 1 rfl) ?_
      refine lv_iadd hM.1 hM.2.1 dX12_two_71 ?_
      exact hR _ _ _ _ _ _ _ (Option.some.inj hf) rfl rfl hw dX12_two_72
    · refine lv_iload_n hM.1 hM.2.1 dX12_two_88 rfl (lv_at hl 0 rfl) ?_
      refine lv_iconst (v := (-1)) hM.1 hM.2.1 dX12_two_89 ic_m1 ?_
      refine x_ic_ne (tgt := 97) hM hf dX12_two_90 (by decide) (fun hf => ?_) (fun hf => ?_)
      · refine lv_iconst (v := (-1)) hM.1 hM.2.1 dX12_two_97 ic_m1 ?_
        exact hR _ _ _ _ _ _ _ (Option.some.inj hf) rfl rfl hw dX12_two_98
      refine lv_iload_n hM.1 hM.2.1 dX12_two_93 rfl (lv_at hl 1 rfl) ?_
      refine lv_goto (tgt := 98) hM.1 hM.2.1 dX12_two_94 (by decide) ?_
      exact hR _ _ _ _ _ _ _ (Option.some.inj hf) rfl rfl hw dX12_two_98
  refine lv_iconst (v := (-1)) hM.1 hM.2.1 dX12_two_5 ic_m1 ?_
  exact hR _ _ _ _ _ _ _ (Option.some.inj hf) rfl rfl hw dX12_two_6
theorem hd_X12_two : yX12_two.cls = RX12 ∧ yX12_two.cls ≠ "java/lang/invoke/MethodHandle" ∧ yX12_two.cls ≠ "java/lang/invoke/VarHandle" ∧ (parseMethodDescriptor yX12_two.desc).map (fun d => d.parameters.length) = some 1 := ⟨rfl, by decide, by decide, by decide +kernel⟩
