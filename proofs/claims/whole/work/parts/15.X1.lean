theorem dX1_lot_0 : decode cX1_lot 0 = .ok (.iload_n 0, 1) := by decide +kernel
theorem dX1_lot_1 : decode cX1_lot 1 = .ok (.istore_n 2, 1) := by decide +kernel
theorem dX1_lot_2 : decode cX1_lot 2 = .ok (.iconst 0, 1) := by decide +kernel
theorem dX1_lot_3 : decode cX1_lot 3 = .ok (.istore_n 3, 1) := by decide +kernel
theorem dX1_lot_4 : decode cX1_lot 4 = .ok (.iload_n 3, 1) := by decide +kernel
theorem dX1_lot_5 : decode cX1_lot 5 = .ok (.iconst 2, 1) := by decide +kernel
theorem dX1_lot_6 : decode cX1_lot 6 = .ok (.if_icmp .ge 40, 3) := by decide +kernel
theorem dX1_lot_9 : decode cX1_lot 9 = .ok (.iload_n 3, 1) := by decide +kernel
theorem dX1_lot_10 : decode cX1_lot 10 = .ok (.ifCond .ne 8, 3) := by decide +kernel
theorem dX1_lot_13 : decode cX1_lot 13 = .ok (.bipush 61, 2) := by decide +kernel
theorem dX1_lot_15 : decode cX1_lot 15 = .ok (.goto 4, 3) := by decide +kernel
theorem dX1_lot_18 : decode cX1_lot 18 = .ok (.iload_n 1, 1) := by decide +kernel
theorem dX1_lot_19 : decode cX1_lot 19 = .ok (.istore 4, 2) := by decide +kernel
theorem dX1_lot_21 : decode cX1_lot 21 = .ok (.iload_n 2, 1) := by decide +kernel
theorem dX1_lot_22 : decode cX1_lot 22 = .ok (.iload 4, 2) := by decide +kernel
theorem dX1_lot_24 : decode cX1_lot 24 = .ok (.ixor, 1) := by decide +kernel
theorem dX1_lot_25 : decode cX1_lot 25 = .ok (.ldc 15, 2) := by decide +kernel
theorem dX1_lot_27 : decode cX1_lot 27 = .ok (.imul, 1) := by decide +kernel
theorem dX1_lot_28 : decode cX1_lot 28 = .ok (.sipush 12345, 3) := by decide +kernel
theorem dX1_lot_31 : decode cX1_lot 31 = .ok (.iadd, 1) := by decide +kernel
theorem dX1_lot_32 : decode cX1_lot 32 = .ok (.istore_n 2, 1) := by decide +kernel
theorem dX1_lot_33 : decode cX1_lot 33 = .ok (.iload_n 2, 1) := by decide +kernel
theorem dX1_lot_34 : decode cX1_lot 34 = .ok (.iload_n 2, 1) := by decide +kernel
theorem dX1_lot_35 : decode cX1_lot 35 = .ok (.bipush 15, 2) := by decide +kernel
theorem dX1_lot_37 : decode cX1_lot 37 = .ok (.iushr, 1) := by decide +kernel
theorem dX1_lot_38 : decode cX1_lot 38 = .ok (.ixor, 1) := by decide +kernel
theorem dX1_lot_39 : decode cX1_lot 39 = .ok (.istore_n 2, 1) := by decide +kernel
theorem dX1_lot_40 : decode cX1_lot 40 = .ok (.iinc 3 1, 3) := by decide +kernel
theorem dX1_lot_43 : decode cX1_lot 43 = .ok (.goto (-39), 3) := by decide +kernel
theorem dX1_lot_46 : decode cX1_lot 46 = .ok (.iload_n 2, 1) := by decide +kernel
theorem dX1_lot_47 : decode cX1_lot 47 = .ok (.iconst 1, 1) := by decide +kernel
theorem dX1_lot_48 : decode cX1_lot 48 = .ok (.iushr, 1) := by decide +kernel
theorem dX1_lot_49 : decode cX1_lot 49 = .ok (.bipush 100, 2) := by decide +kernel
theorem dX1_lot_51 : decode cX1_lot 51 = .ok (.irem, 1) := by decide +kernel
theorem dX1_lot_52 : decode cX1_lot 52 = .ok (.ireturn, 1) := by decide +kernel
def c_X1_lot_j19 {ρ : Type}  (z1 : Int32) (K1 : Int32 → Option ρ) (REC : Int32 → Int32 → Option ρ) (x2 : Int32) (x3 : Int32) (y0 : Int32) : Option (ρ) :=
  nm y0 fun v3 =>
  nm (((x2 ^^^ v3) * 1103515245) + 12345) fun v4 =>
  nm (v4 ^^^ (jushr v4 15)) fun v5 =>
  nm (x3 + 1) fun v6 =>
  REC v5 v6
set_option maxHeartbeats 4000000 in
set_option maxRecDepth 100000 in
theorem w_X1_lot_j19 {p0 : Program} {l : Launch} {e : Env} {s : State} {m : MethodId} {args : Array Value} {below : List Frame} {meth : Method} {c : Code} {Q : State → Prop} {D : va_G} {G : GG} {A : Nat → Prop} {H0 : Heap} {ad : Nat → Nat} {lay : List KK} {X : va_W} {ρ : Type} {r0 : ρ} {x2 : Int32} {x3 : Int32} {z1 : Int32} {y0 : Int32} {h : PH} {H : Heap} {locs : List Loc} {ls : Array Slot} {K1 : Int32 → Option ρ} {REC : Int32 → Int32 → Option ρ} (hM : CallFix p0 m c cX1_lot 5 s args lw_g RX1) (hk1 : ∀ (x2 : Int32), ∀ (H : Heap) (locs : List Loc) (ls : Array Slot), K1 x2 = some r0 → Wd D G A H0 ad lay X h s H locs → lv_has ls 5 [(2, .int x2)] → W p0 l e (rmN 0 0) s m args below meth c H locs 0 0 Q (F0 m 46 ls [])) (hrec : ∀ (x2 : Int32) (x3 : Int32), ∀ (H : Heap) (locs : List Loc) (ls : Array Slot), REC x2 x3 = some r0 → Wd D G A H0 ad lay X h s H locs → lv_has ls 5 [(1, .int z1), (2, .int x2), (3, .int x3)] → W p0 l e (rmN 0 0) s m args below meth c H locs 0 0 Q (F0 m 4 ls [])) (hw : Wd D G A H0 ad lay X h s H locs) (hl : lv_has ls 5 [(1, .int z1), (2, .int x2), (3, .int x3)]) (hf : c_X1_lot_j19 z1 K1 REC x2 x3 y0 = some r0) : W p0 l e (rmN 0 0) s m args below meth c H locs 0 0 Q (F0 m 19 ls [.int y0]) := by
  unfold c_X1_lot_j19 at hf
  refine x_istore hM hf dX1_lot_19 hl (by decide) (fun v3 => [(4, .int v3), (1, .int z1), (2, .int x2), (3, .int x3)]) (fun _ => rfl) (fun v3 ls hf hl => ?_)
  refine lv_iload_n hM.1 hM.2.1 dX1_lot_21 rfl (lv_at hl 2 rfl) ?_
  refine lv_iload hM.1 hM.2.1 dX1_lot_22 (lv_at hl 0 rfl) ?_
  refine lv_ixor hM.1 hM.2.1 dX1_lot_24 ?_
  refine lv_ldc (v := 1103515245) hM.1 hM.2.1 hM.2.2.2.1 (hM.2.2.2.2 _ kn_X1_15) dX1_lot_25 ?_
  refine lv_imul hM.1 hM.2.1 dX1_lot_27 ?_
  refine lv_sipush (v := 12345) hM.1 hM.2.1 dX1_lot_28 (by decide) ?_
  refine lv_iadd hM.1 hM.2.1 dX1_lot_31 ?_
  refine x_istore_n hM hf dX1_lot_32 rfl hl (by decide) (fun v4 => [(2, .int v4), (4, .int v3), (1, .int z1), (3, .int x3)]) (fun _ => rfl) (fun v4 ls hf hl => ?_)
  refine lv_iload_n hM.1 hM.2.1 dX1_lot_33 rfl (lv_at hl 0 rfl) ?_
  refine lv_iload_n hM.1 hM.2.1 dX1_lot_34 rfl (lv_at hl 0 rfl) ?_
  refine lv_bipush (v := 15) hM.1 hM.2.1 dX1_lot_35 (by decide) ?_
  refine x_iushr hM dX1_lot_37 ?_
  refine lv_ixor hM.1 hM.2.1 dX1_lot_38 ?_
  refine x_istore_n hM hf dX1_lot_39 rfl hl (by decide) (fun v5 => [(2, .int v5), (4, .int v3), (1, .int z1), (3, .int x3)]) (fun _ => rfl) (fun v5 ls hf hl => ?_)
  refine x_iinc (k := 3) (d := 1) hM hf dX1_lot_40 hl rfl (by decide) (by decide) (fun v6 => [(3, .int v6), (2, .int v5), (4, .int v3), (1, .int z1)]) (fun _ => rfl) (fun v6 ls hf hl => ?_)
  refine lv_goto (tgt := 4) hM.1 hM.2.1 dX1_lot_43 (by decide) ?_
  exact hrec _ _ _ _ _ hf hw (lv_sub hl [3, 1, 0] rfl)
def c_X1_lot_L4b {ρ : Type}  (z1 : Int32) (K1 : Int32 → Option ρ) (REC : Int32 → Int32 → Option ρ) (x2 : Int32) (x3 : Int32) : Option ρ :=
  if 2 ≤ x3 then
    K1 x2
  else
    if x3 = 0 then
      c_X1_lot_j19 z1 K1 REC x2 x3 61
    else
      c_X1_lot_j19 z1 K1 REC x2 x3 z1
set_option maxHeartbeats 4000000 in
set_option maxRecDepth 100000 in
theorem w_X1_lot_L4b {p0 : Program} {l : Launch} {e : Env} {s : State} {m : MethodId} {args : Array Value} {below : List Frame} {meth : Method} {c : Code} {Q : State → Prop} {D : va_G} {G : GG} {A : Nat → Prop} {H0 : Heap} {ad : Nat → Nat} {lay : List KK} {X : va_W} {ρ : Type} {r0 : ρ} {z1 : Int32} {x2 : Int32} {x3 : Int32} {h : PH} {H : Heap} {locs : List Loc} {ls : Array Slot} {K1 : Int32 → Option ρ} {REC : Int32 → Int32 → Option ρ} (hM : CallFix p0 m c cX1_lot 5 s args lw_g RX1) (hk1 : ∀ (x2 : Int32), ∀ (H : Heap) (locs : List Loc) (ls : Array Slot), K1 x2 = some r0 → Wd D G A H0 ad lay X h s H locs → lv_has ls 5 [(2, .int x2)] → W p0 l e (rmN 0 0) s m args below meth c H locs 0 0 Q (F0 m 46 ls [])) (hrec : ∀ (x2 : Int32) (x3 : Int32), ∀ (H : Heap) (locs : List Loc) (ls : Array Slot), REC x2 x3 = some r0 → Wd D G A H0 ad lay X h s H locs → lv_has ls 5 [(1, .int z1), (2, .int x2), (3, .int x3)] → W p0 l e (rmN 0 0) s m args below meth c H locs 0 0 Q (F0 m 4 ls [])) (hw : Wd D G A H0 ad lay X h s H locs) (hl : lv_has ls 5 [(1, .int z1), (2, .int x2), (3, .int x3)]) (hf : c_X1_lot_L4b z1 K1 REC x2 x3 = some r0) : W p0 l e (rmN 0 0) s m args below meth c H locs 0 0 Q (F0 m 4 ls []) := by
  unfold c_X1_lot_L4b at hf
  refine lv_iload_n hM.1 hM.2.1 dX1_lot_4 rfl (lv_at hl 2 rfl) ?_
  refine lv_iconst (v := 2) hM.1 hM.2.1 dX1_lot_5 ic_2 ?_
  refine x_ic_ge (tgt := 46) hM hf dX1_lot_6 (by decide) (fun hf => ?_) (fun hf => ?_)
  · exact hk1 _ _ _ _ hf hw (lv_sub hl [1] rfl)
  refine lv_iload_n hM.1 hM.2.1 dX1_lot_9 rfl (lv_at hl 2 rfl) ?_
  refine x_if_ne (tgt := 18) hM hf dX1_lot_10 (by decide) (fun hf => ?_) (fun hf => ?_)
  · refine lv_iload_n hM.1 hM.2.1 dX1_lot_18 rfl (lv_at hl 0 rfl) ?_
    exact w_X1_lot_j19 hM hk1 hrec hw hl hf
  refine lv_bipush (v := 61) hM.1 hM.2.1 dX1_lot_13 (by decide) ?_
  refine lv_goto (tgt := 19) hM.1 hM.2.1 dX1_lot_15 (by decide) ?_
  exact w_X1_lot_j19 hM hk1 hrec hw hl hf
set_option maxHeartbeats 4000000 in
set_option maxRecDepth 100000 in
theorem w_X1_lot_L4 {p0 : Program} {l : Launch} {e : Env} {s : State} {m : MethodId} {args : Array Value} {below : List Frame} {meth : Method} {c : Code} {Q : State → Prop} {D : va_G} {G : GG} {A : Nat → Prop} {H0 : Heap} {ad : Nat → Nat} {lay : List KK} {X : va_W} {ρ : Type} {r0 : ρ} {z1 : Int32} {h : PH} {K1 : Int32 → Option ρ} (hM : CallFix p0 m c cX1_lot 5 s args lw_g RX1) (hk1 : ∀ (x2 : Int32), ∀ (H : Heap) (locs : List Loc) (ls : Array Slot), K1 x2 = some r0 → Wd D G A H0 ad lay X h s H locs → lv_has ls 5 [(2, .int x2)] → W p0 l e (rmN 0 0) s m args below meth c H locs 0 0 Q (F0 m 46 ls [])) (n : Nat) (x2 : Int32) (x3 : Int32) (hf : lq2 (c_X1_lot_L4b z1 K1) n x2 x3 = some r0) : ∀ (H : Heap) (locs : List Loc) (ls : Array Slot), Wd D G A H0 ad lay X h s H locs → lv_has ls 5 [(1, .int z1), (2, .int x2), (3, .int x3)] → W p0 l e (rmN 0 0) s m args below meth c H locs 0 0 Q (F0 m 4 ls []) := by
  exact lq2_i (fun (x2 : Int32) (x3 : Int32) => ∀ (H : Heap) (locs : List Loc) (ls : Array Slot), Wd D G A H0 ad lay X h s H locs → lv_has ls 5 [(1, .int z1), (2, .int x2), (3, .int x3)] → W p0 l e (rmN 0 0) s m args below meth c H locs 0 0 Q (F0 m 4 ls [])) (fun REC x2 x3 ih hf H locs ls hw hl => w_X1_lot_L4b hM hk1 (fun x2 x3 H locs ls hf hw hl => ih x2 x3 hf H locs ls hw hl) hw hl hf) n x2 x3 hf
def c_X1_lot (a0 : Int32) (a1 : Int32) : Option (Int32) :=
  nm a0 fun v1 =>
  nm (0 : Int32) fun v2 =>
  lq2 (c_X1_lot_L4b a1
    (fun w7 =>
      some (jrem (jushr w7 1) 100))) fu v1 v2
set_option maxHeartbeats 4000000 in
set_option maxRecDepth 100000 in
theorem ct_X1_lot (l : Launch) {lay : List KK} (a0 : Int32) (a1 : Int32) : CtI l yX1_lot cX1_lot 5 (some .int) 0 0 lay (rd (fun _ => c_X1_lot a0 a1)) (fun _ => [.int a0, .int a1]) := by
  refine CtI.mk' RX1 (by decide) rfl (fun _ => Nat.le_of_ble_eq_true rfl) ?_
  intro p0 e s m args below meth c D G A H0 ad X h r0 H ls Q hM hw hl hf hR
  have hl : lv_has ls 5 [(0, .int a0), (1, .int a1)] := hl
  obtain ⟨v0, hv0, hr0⟩ : ∃ v0, c_X1_lot a0 a1 = some v0 ∧ r0 = (v0, h) := rd_some hf
  subst hr0
  have hf := hv0
  unfold c_X1_lot at hf
  refine lv_iload_n hM.1 hM.2.1 dX1_lot_0 rfl (lv_at hl 0 rfl) ?_
  refine x_istore_n hM hf dX1_lot_1 rfl hl (by decide) (fun v1 => [(2, .int v1), (0, .int a0), (1, .int a1)]) (fun _ => rfl) (fun v1 ls hf hl => ?_)
  refine lv_iconst (v := 0) hM.1 hM.2.1 dX1_lot_2 ic_0 ?_
  refine x_istore_n hM hf dX1_lot_3 rfl hl (by decide) (fun v2 => [(3, .int v2), (2, .int v1), (0, .int a0), (1, .int a1)]) (fun _ => rfl) (fun v2 ls hf hl => ?_)
  refine w_X1_lot_L4 hM (fun w7 H locs ls hf hw hl => ?_) fu _ _ hf _ _ _ hw (lv_sub hl [3, 1, 0] rfl)
  refine lv_iload_n hM.1 hM.2.1 dX1_lot_46 rfl (lv_at hl 0 rfl) ?_
  refine lv_iconst (v := 1) hM.1 hM.2.1 dX1_lot_47 ic_1 ?_
  refine x_iushr hM dX1_lot_48 ?_
  refine lv_bipush (v := 100) hM.1 hM.2.1 dX1_lot_49 (by decide) ?_
  refine x_iremK hM (by decide) dX1_lot_51 ?_
  exact hR _ _ _ _ _ _ _ (congrArg (fun z => (z, _)) (Option.some.inj hf)) rfl rfl hw dX1_lot_52
theorem hd_X1_lot : yX1_lot.cls ≠ "java/lang/invoke/MethodHandle" ∧ yX1_lot.cls ≠ "java/lang/invoke/VarHandle" ∧ (parseMethodDescriptor yX1_lot.desc).map (fun d => d.parameters.length) = some 2 := ⟨by decide, by decide, by decide +kernel⟩
theorem dX1_isWet_0 : decode cX1_isWet 0 = .ok (.iload_n 2, 1) := by decide +kernel
theorem dX1_isWet_1 : decode cX1_isWet 1 = .ok (.bipush 16, 2) := by decide +kernel
theorem dX1_isWet_3 : decode cX1_isWet 3 = .ok (.iload_n 3, 1) := by decide +kernel
theorem dX1_isWet_4 : decode cX1_isWet 4 = .ok (.imul, 1) := by decide +kernel
theorem dX1_isWet_5 : decode cX1_isWet 5 = .ok (.invokestatic 16, 3) := by decide +kernel
theorem dX1_isWet_8 : decode cX1_isWet 8 = .ok (.aload_n 1, 1) := by decide +kernel
theorem dX1_isWet_9 : decode cX1_isWet 9 = .ok (.getfield 20, 3) := by decide +kernel
theorem dX1_isWet_12 : decode cX1_isWet 12 = .ok (.if_icmp .ge 7, 3) := by decide +kernel
theorem dX1_isWet_15 : decode cX1_isWet 15 = .ok (.iconst 1, 1) := by decide +kernel
theorem dX1_isWet_16 : decode cX1_isWet 16 = .ok (.goto 4, 3) := by decide +kernel
theorem dX1_isWet_19 : decode cX1_isWet 19 = .ok (.iconst 0, 1) := by decide +kernel
theorem dX1_isWet_20 : decode cX1_isWet 20 = .ok (.ireturn, 1) := by decide +kernel
def c_X1_isWet (p : Nat) (q1 : Nat) (a2 : Int32) (a3 : Int32) (h : PH) : Option (Int32) :=
  (c_X1_lot a2 (16 * a3)).bind fun r1 =>
  if (h.1 q1 5) ≤ r1 then
    some 0
  else
    some 1
set_option maxHeartbeats 4000000 in
set_option maxRecDepth 100000 in
theorem ct_X1_isWet (l : Launch) {lay : List KK} {p : Nat} {q1 : Nat} (ho : okX1 lay p) (ho1 : okX9 lay q1) (a2 : Int32) (a3 : Int32) : CtI l yX1_isWet cX1_isWet 4 (some .boolean) 1 24 lay (rd (fun h => c_X1_isWet p q1 a2 a3 h)) (fun ad => [.ref (ad p), .ref (ad q1), .int a2, .int a3]) := by
  refine CtI.mk' RX1 (by decide) rfl (fun _ => Nat.le_of_ble_eq_true rfl) ?_
  intro p0 e s m args below meth c D G A H0 ad X h r0 H ls Q hM hw hl hf hR
  have hl : lv_has ls 4 [(0, .ref (ad p)), (1, .ref (ad q1)), (2, .int a2), (3, .int a3)] := hl
  obtain ⟨v0, hv0, hr0⟩ : ∃ v0, c_X1_isWet p q1 a2 a3 h = some v0 ∧ r0 = (v0, h) := rd_some hf
  subst hr0
  have hf := hv0
  unfold c_X1_isWet at hf
  refine lv_iload_n hM.1 hM.2.1 dX1_isWet_0 rfl (lv_at hl 2 rfl) ?_
  refine lv_bipush (v := 16) hM.1 hM.2.1 dX1_isWet_1 (by decide) ?_
  refine lv_iload_n hM.1 hM.2.1 dX1_isWet_3 rfl (lv_at hl 3 rfl) ?_
  refine lv_imul hM.1 hM.2.1 dX1_isWet_4 ?_
  refine x_callSIr (rest := []) hM hw (ct_X1_lot l a2 (16 * a3)) [.int a2, .int (16 * a3)] rfl (gi_S ml_X1_16 sm_X1_lot in_X1 kc_X1_lot) hd_X1_lot rfl ⟨Nat.le_of_ble_eq_true rfl, Nat.le_of_ble_eq_true rfl⟩ rfl (Nat.le_of_ble_eq_true rfl) hl.1 hcs0 hf dX1_isWet_5 (fun r1 H locs hf hw => ?_)
  refine lv_aload_n hM.1 hM.2.1 dX1_isWet_8 rfl (lv_at hl 1 rfl) ?_
  refine gf_X9_rain hM hw (okX9.o ho1) fl_X1_20 dX1_isWet_9 ?_
  refine x_ic_ge (tgt := 19) hM hf dX1_isWet_12 (by decide) (fun hf => ?_) (fun hf => ?_)
  · refine lv_iconst (v := 0) hM.1 hM.2.1 dX1_isWet_19 ic_0 ?_
    exact hR _ _ _ _ _ _ _ (congrArg (fun z => (z, _)) (Option.some.inj hf)) rfl (nar_z (by decide)) hw dX1_isWet_20
  refine lv_iconst (v := 1) hM.1 hM.2.1 dX1_isWet_15 ic_1 ?_
  refine lv_goto (tgt := 20) hM.1 hM.2.1 dX1_isWet_16 (by decide) ?_
  exact hR _ _ _ _ _ _ _ (congrArg (fun z => (z, _)) (Option.some.inj hf)) rfl (nar_z (by decide)) hw dX1_isWet_20
theorem hd_X1_isWet : yX1_isWet.cls = RX1 ∧ yX1_isWet.cls ≠ "java/lang/invoke/MethodHandle" ∧ yX1_isWet.cls ≠ "java/lang/invoke/VarHandle" ∧ (parseMethodDescriptor yX1_isWet.desc).map (fun d => d.parameters.length) = some 3 := ⟨rfl, by decide, by decide, by decide +kernel⟩
theorem dX1_look_0 : decode cX1_look 0 = .ok (.aload_n 1, 1) := by decide +kernel
theorem dX1_look_1 : decode cX1_look 1 = .ok (.getfield 26, 3) := by decide +kernel
theorem dX1_look_4 : decode cX1_look 4 = .ok (.iload_n 3, 1) := by decide +kernel
theorem dX1_look_5 : decode cX1_look 5 = .ok (.aaload, 1) := by decide +kernel
theorem dX1_look_6 : decode cX1_look 6 = .ok (.astore 7, 2) := by decide +kernel
theorem dX1_look_8 : decode cX1_look 8 = .ok (.aload_n 2, 1) := by decide +kernel
theorem dX1_look_9 : decode cX1_look 9 = .ok (.aload_n 1, 1) := by decide +kernel
theorem dX1_look_10 : decode cX1_look 10 = .ok (.iload_n 3, 1) := by decide +kernel
theorem dX1_look_11 : decode cX1_look 11 = .ok (.iload 4, 2) := by decide +kernel
theorem dX1_look_13 : decode cX1_look 13 = .ok (.invokevirtual 30, 3) := by decide +kernel
theorem dX1_look_16 : decode cX1_look 16 = .ok (.istore 8, 2) := by decide +kernel
theorem dX1_look_18 : decode cX1_look 18 = .ok (.aload_n 0, 1) := by decide +kernel
theorem dX1_look_19 : decode cX1_look 19 = .ok (.getfield 9, 3) := by decide +kernel
theorem dX1_look_22 : decode cX1_look 22 = .ok (.iconst 0, 1) := by decide +kernel
theorem dX1_look_23 : decode cX1_look 23 = .ok (.aload_n 2, 1) := by decide +kernel
theorem dX1_look_24 : decode cX1_look 24 = .ok (.getfield 36, 3) := by decide +kernel
theorem dX1_look_27 : decode cX1_look 27 = .ok (.iastore, 1) := by decide +kernel
theorem dX1_look_28 : decode cX1_look 28 = .ok (.aload_n 0, 1) := by decide +kernel
theorem dX1_look_29 : decode cX1_look 29 = .ok (.getfield 9, 3) := by decide +kernel
theorem dX1_look_32 : decode cX1_look 32 = .ok (.iconst 1, 1) := by decide +kernel
theorem dX1_look_33 : decode cX1_look 33 = .ok (.aload 7, 2) := by decide +kernel
theorem dX1_look_35 : decode cX1_look 35 = .ok (.iconst 3, 1) := by decide +kernel
theorem dX1_look_36 : decode cX1_look 36 = .ok (.iaload, 1) := by decide +kernel
theorem dX1_look_37 : decode cX1_look 37 = .ok (.iastore, 1) := by decide +kernel
theorem dX1_look_38 : decode cX1_look 38 = .ok (.aload_n 0, 1) := by decide +kernel
theorem dX1_look_39 : decode cX1_look 39 = .ok (.getfield 9, 3) := by decide +kernel
theorem dX1_look_42 : decode cX1_look 42 = .ok (.iconst 2, 1) := by decide +kernel
theorem dX1_look_43 : decode cX1_look 43 = .ok (.aload_n 2, 1) := by decide +kernel
theorem dX1_look_44 : decode cX1_look 44 = .ok (.aload_n 1, 1) := by decide +kernel
theorem dX1_look_45 : decode cX1_look 45 = .ok (.aload_n 2, 1) := by decide +kernel
theorem dX1_look_46 : decode cX1_look 46 = .ok (.getfield 39, 3) := by decide +kernel
theorem dX1_look_49 : decode cX1_look 49 = .ok (.aload_n 2, 1) := by decide +kernel
theorem dX1_look_50 : decode cX1_look 50 = .ok (.getfield 42, 3) := by decide +kernel
theorem dX1_look_53 : decode cX1_look 53 = .ok (.ior, 1) := by decide +kernel
theorem dX1_look_54 : decode cX1_look 54 = .ok (.iload_n 3, 1) := by decide +kernel
theorem dX1_look_55 : decode cX1_look 55 = .ok (.iload 4, 2) := by decide +kernel
theorem dX1_look_57 : decode cX1_look 57 = .ok (.invokevirtual 45, 3) := by decide +kernel
theorem dX1_look_60 : decode cX1_look 60 = .ok (.iastore, 1) := by decide +kernel
theorem dX1_look_61 : decode cX1_look 61 = .ok (.aload_n 0, 1) := by decide +kernel
theorem dX1_look_62 : decode cX1_look 62 = .ok (.getfield 9, 3) := by decide +kernel
theorem dX1_look_65 : decode cX1_look 65 = .ok (.iconst 3, 1) := by decide +kernel
theorem dX1_look_66 : decode cX1_look 66 = .ok (.aload_n 2, 1) := by decide +kernel
theorem dX1_look_67 : decode cX1_look 67 = .ok (.getfield 49, 3) := by decide +kernel
theorem dX1_look_70 : decode cX1_look 70 = .ok (.iload 4, 2) := by decide +kernel
theorem dX1_look_72 : decode cX1_look 72 = .ok (.iaload, 1) := by decide +kernel
theorem dX1_look_73 : decode cX1_look 73 = .ok (.iastore, 1) := by decide +kernel
theorem dX1_look_74 : decode cX1_look 74 = .ok (.aload_n 0, 1) := by decide +kernel
theorem dX1_look_75 : decode cX1_look 75 = .ok (.getfield 9, 3) := by decide +kernel
theorem dX1_look_78 : decode cX1_look 78 = .ok (.iconst 4, 1) := by decide +kernel
theorem dX1_look_79 : decode cX1_look 79 = .ok (.aload 7, 2) := by decide +kernel
theorem dX1_look_81 : decode cX1_look 81 = .ok (.iconst 2, 1) := by decide +kernel
theorem dX1_look_82 : decode cX1_look 82 = .ok (.iaload, 1) := by decide +kernel
theorem dX1_look_83 : decode cX1_look 83 = .ok (.iastore, 1) := by decide +kernel
theorem dX1_look_84 : decode cX1_look 84 = .ok (.aload_n 0, 1) := by decide +kernel
theorem dX1_look_85 : decode cX1_look 85 = .ok (.getfield 9, 3) := by decide +kernel
theorem dX1_look_88 : decode cX1_look 88 = .ok (.iconst 5, 1) := by decide +kernel
theorem dX1_look_89 : decode cX1_look 89 = .ok (.iload 8, 2) := by decide +kernel
theorem dX1_look_91 : decode cX1_look 91 = .ok (.bipush (-2), 2) := by decide +kernel
theorem dX1_look_93 : decode cX1_look 93 = .ok (.if_icmp .ne 8, 3) := by decide +kernel
theorem dX1_look_96 : decode cX1_look 96 = .ok (.bipush 99, 2) := by decide +kernel
theorem dX1_look_98 : decode cX1_look 98 = .ok (.goto 10, 3) := by decide +kernel
theorem dX1_look_101 : decode cX1_look 101 = .ok (.aload_n 2, 1) := by decide +kernel
theorem dX1_look_102 : decode cX1_look 102 = .ok (.getfield 36, 3) := by decide +kernel
theorem dX1_look_105 : decode cX1_look 105 = .ok (.iload 8, 2) := by decide +kernel
theorem dX1_look_107 : decode cX1_look 107 = .ok (.isub, 1) := by decide +kernel
theorem dX1_look_108 : decode cX1_look 108 = .ok (.iastore, 1) := by decide +kernel
theorem dX1_look_109 : decode cX1_look 109 = .ok (.aload_n 0, 1) := by decide +kernel
theorem dX1_look_110 : decode cX1_look 110 = .ok (.getfield 9, 3) := by decide +kernel
theorem dX1_look_113 : decode cX1_look 113 = .ok (.bipush 6, 2) := by decide +kernel
theorem dX1_look_115 : decode cX1_look 115 = .ok (.iload 6, 2) := by decide +kernel
theorem dX1_look_117 : decode cX1_look 117 = .ok (.bipush 16, 2) := by decide +kernel
theorem dX1_look_119 : decode cX1_look 119 = .ok (.aload_n 2, 1) := by decide +kernel
theorem dX1_look_120 : decode cX1_look 120 = .ok (.getfield 36, 3) := by decide +kernel
theorem dX1_look_123 : decode cX1_look 123 = .ok (.imul, 1) := by decide +kernel
theorem dX1_look_124 : decode cX1_look 124 = .ok (.invokestatic 16, 3) := by decide +kernel
theorem dX1_look_127 : decode cX1_look 127 = .ok (.aload_n 1, 1) := by decide +kernel
theorem dX1_look_128 : decode cX1_look 128 = .ok (.getfield 20, 3) := by decide +kernel
theorem dX1_look_131 : decode cX1_look 131 = .ok (.if_icmp .ge 7, 3) := by decide +kernel
theorem dX1_look_134 : decode cX1_look 134 = .ok (.iconst 1, 1) := by decide +kernel
theorem dX1_look_135 : decode cX1_look 135 = .ok (.goto 4, 3) := by decide +kernel
theorem dX1_look_138 : decode cX1_look 138 = .ok (.iconst 0, 1) := by decide +kernel
theorem dX1_look_139 : decode cX1_look 139 = .ok (.iastore, 1) := by decide +kernel
theorem dX1_look_140 : decode cX1_look 140 = .ok (.aload_n 0, 1) := by decide +kernel
theorem dX1_look_141 : decode cX1_look 141 = .ok (.getfield 9, 3) := by decide +kernel
theorem dX1_look_144 : decode cX1_look 144 = .ok (.bipush 7, 2) := by decide +kernel
theorem dX1_look_146 : decode cX1_look 146 = .ok (.iload 5, 2) := by decide +kernel
theorem dX1_look_148 : decode cX1_look 148 = .ok (.iastore, 1) := by decide +kernel
theorem dX1_look_149 : decode cX1_look 149 = .ok (.aload_n 0, 1) := by decide +kernel
theorem dX1_look_150 : decode cX1_look 150 = .ok (.getfield 9, 3) := by decide +kernel
theorem dX1_look_153 : decode cX1_look 153 = .ok (.bipush 8, 2) := by decide +kernel
theorem dX1_look_155 : decode cX1_look 155 = .ok (.aload_n 2, 1) := by decide +kernel
theorem dX1_look_156 : decode cX1_look 156 = .ok (.aload_n 1, 1) := by decide +kernel
theorem dX1_look_157 : decode cX1_look 157 = .ok (.iload 4, 2) := by decide +kernel
theorem dX1_look_159 : decode cX1_look 159 = .ok (.aload 7, 2) := by decide +kernel
theorem dX1_look_161 : decode cX1_look 161 = .ok (.iconst 2, 1) := by decide +kernel
theorem dX1_look_162 : decode cX1_look 162 = .ok (.iaload, 1) := by decide +kernel
theorem dX1_look_163 : decode cX1_look 163 = .ok (.invokevirtual 52, 3) := by decide +kernel
theorem dX1_look_166 : decode cX1_look 166 = .ok (.iastore, 1) := by decide +kernel
theorem dX1_look_167 : decode cX1_look 167 = .ok (.return_, 1) := by decide +kernel
def c_X1_look_j139  (p : Nat) (q1 : Nat) (q2 : Nat) (x4 : Int32) (x5 : Int32) (x7 : Nat) (y0 : Int32) (y1 : Int32) (y2 : Nat) (h : PH) : Option (PH) :=
  gd (ixOK y1 9) <| nm (setI h y2 y1.toNatClampNeg y0) fun h12 =>
  nm (setI h12 (p + 1) 7 x5) fun h13 =>
  (c_X8_toldOtherwise q2 q1 x4 (h13.1 x7 2) h13).bind fun r14 =>
  nm (setI h13 (p + 1) 8 r14) fun h15 =>
  some h15
set_option maxHeartbeats 4000000 in
set_option maxRecDepth 100000 in
theorem w_X1_look_j139 {p0 : Program} {l : Launch} {e : Env} {s : State} {m : MethodId} {args : Array Value} {below : List Frame} {meth : Method} {c : Code} {Q : State → Prop} {D : va_G} {G : GG} {A : Nat → Prop} {H0 : Heap} {ad : Nat → Nat} {lay : List KK} {X : va_W} {p : Nat} {q1 : Nat} {q2 : Nat} {r0 : PH} {x4 : Int32} {x5 : Int32} {x7 : Nat} {y0 : Int32} {y1 : Int32} {y2 : Nat} {h : PH} {H : Heap} {locs : List Loc} {ls : Array Slot} (hM : CallFix p0 m c cX1_look 9 s args lw_g RX1) (ho : okX1 lay p) (ho1 : okX9 lay q1) (ho2 : okX8 lay q2) (hR : RtV p0 l e (rmN 2 50) s m args below meth c cX1_look D G A H0 ad lay X (none) r0 Q 0 0) (okx7 : lay[x7]? = some (kI 5)) (oky2 : lay[y2]? = some (kI 9)) (hw : Wd D G A H0 ad lay X h s H locs) (hl : lv_has ls 9 [(0, .ref (ad p)), (1, .ref (ad q1)), (2, .ref (ad q2)), (4, .int x4), (5, .int x5), (7, .ref (ad x7))]) (hf : c_X1_look_j139 p q1 q2 x4 x5 x7 y0 y1 y2 h = some r0) : W p0 l e (rmN 2 50) s m args below meth c H locs 0 0 Q (F0 m 139 ls [.int y0, .int y1, .ref (ad y2)]) := by
  unfold c_X1_look_j139 at hf
  refine x_iast hM hw oky2 hf dX1_look_139 (fun h12 H locs hf hw => ?_)
  refine lv_aload_n hM.1 hM.2.1 dX1_look_140 rfl (lv_at hl 0 rfl) ?_
  refine gf_X1_seen hM hw (okX1.o ho) fl_X1_9 dX1_look_141 ?_
  refine lv_bipush (v := 7) hM.1 hM.2.1 dX1_look_144 (by decide) ?_
  refine lv_iload hM.1 hM.2.1 dX1_look_146 (lv_at hl 4 rfl) ?_
  refine x_iastK hM hw (okX1.seen ho) 7 (by decide) (by decide) hf dX1_look_148 (fun h13 H locs hf hw => ?_)
  refine lv_aload_n hM.1 hM.2.1 dX1_look_149 rfl (lv_at hl 0 rfl) ?_
  refine gf_X1_seen hM hw (okX1.o ho) fl_X1_9 dX1_look_150 ?_
  refine lv_bipush (v := 8) hM.1 hM.2.1 dX1_look_153 (by decide) ?_
  refine lv_aload_n hM.1 hM.2.1 dX1_look_155 rfl (lv_at hl 2 rfl) ?_
  refine lv_aload_n hM.1 hM.2.1 dX1_look_156 rfl (lv_at hl 1 rfl) ?_
  refine lv_iload hM.1 hM.2.1 dX1_look_157 (lv_at hl 3 rfl) ?_
  refine lv_aload hM.1 hM.2.1 dX1_look_159 (lv_at hl 5 rfl) ?_
  refine lv_iconst (v := 2) hM.1 hM.2.1 dX1_look_161 ic_2 ?_
  refine x_ialdK hM hw okx7 2 (by decide) (by decide) dX1_look_162 ?_
  refine x_callVIr (rest := [.int 8, .ref (ad (p + 1))]) hM hw (ct_X8_toldOtherwise l ho2 ho1 x4 (h13.1 x7 2)) [.ref (ad q1), .int x4, .int (h13.1 x7 2)] (okX8.o ho2) rfl rfl rfl (gi_V ml_X1_52 im_X8_toldOtherwise sl_X8_toldOtherwise in_X8 kc_X8_toldOtherwise) hd_X8_toldOtherwise rfl ⟨Nat.le_of_ble_eq_true rfl, Nat.le_of_ble_eq_true rfl⟩ rfl (Nat.le_of_ble_eq_true rfl) hl.1 hcs0 hf dX1_look_163 (fun r14 H locs hf hw => ?_)
  refine x_iastK hM hw (okX1.seen ho) 8 (by decide) (by decide) hf dX1_look_166 (fun h15 H locs hf hw => ?_)
  exact hR _ _ _ _ _ (Option.some.inj hf) rfl hw dX1_look_167
def c_X1_look_j108  (p : Nat) (q1 : Nat) (q2 : Nat) (x4 : Int32) (x5 : Int32) (x6 : Int32) (x7 : Nat) (y0 : Int32) (y1 : Int32) (y2 : Nat) (h : PH) : Option (PH) :=
  gd (ixOK y1 9) <| nm (setI h y2 y1.toNatClampNeg y0) fun h10 =>
  (c_X1_lot x6 (16 * (h10.1 q2 0))).bind fun r11 =>
  if (h10.1 q1 5) ≤ r11 then
    c_X1_look_j139 p q1 q2 x4 x5 x7 0 6 (p + 1) h10
  else
    c_X1_look_j139 p q1 q2 x4 x5 x7 1 6 (p + 1) h10
set_option maxHeartbeats 4000000 in
set_option maxRecDepth 100000 in
theorem w_X1_look_j108 {p0 : Program} {l : Launch} {e : Env} {s : State} {m : MethodId} {args : Array Value} {below : List Frame} {meth : Method} {c : Code} {Q : State → Prop} {D : va_G} {G : GG} {A : Nat → Prop} {H0 : Heap} {ad : Nat → Nat} {lay : List KK} {X : va_W} {p : Nat} {q1 : Nat} {q2 : Nat} {r0 : PH} {x4 : Int32} {x5 : Int32} {x6 : Int32} {x7 : Nat} {y0 : Int32} {y1 : Int32} {y2 : Nat} {h : PH} {H : Heap} {locs : List Loc} {ls : Array Slot} (hM : CallFix p0 m c cX1_look 9 s args lw_g RX1) (ho : okX1 lay p) (ho1 : okX9 lay q1) (ho2 : okX8 lay q2) (hR : RtV p0 l e (rmN 2 50) s m args below meth c cX1_look D G A H0 ad lay X (none) r0 Q 0 0) (okx7 : lay[x7]? = some (kI 5)) (oky2 : lay[y2]? = some (kI 9)) (hw : Wd D G A H0 ad lay X h s H locs) (hl : lv_has ls 9 [(0, .ref (ad p)), (1, .ref (ad q1)), (2, .ref (ad q2)), (4, .int x4), (5, .int x5), (6, .int x6), (7, .ref (ad x7))]) (hf : c_X1_look_j108 p q1 q2 x4 x5 x6 x7 y0 y1 y2 h = some r0) : W p0 l e (rmN 2 50) s m args below meth c H locs 0 0 Q (F0 m 108 ls [.int y0, .int y1, .ref (ad y2)]) := by
  unfold c_X1_look_j108 at hf
  refine x_iast hM hw oky2 hf dX1_look_108 (fun h10 H locs hf hw => ?_)
  refine lv_aload_n hM.1 hM.2.1 dX1_look_109 rfl (lv_at hl 0 rfl) ?_
  refine gf_X1_seen hM hw (okX1.o ho) fl_X1_9 dX1_look_110 ?_
  refine lv_bipush (v := 6) hM.1 hM.2.1 dX1_look_113 (by decide) ?_
  refine lv_iload hM.1 hM.2.1 dX1_look_115 (lv_at hl 5 rfl) ?_
  refine lv_bipush (v := 16) hM.1 hM.2.1 dX1_look_117 (by decide) ?_
  refine lv_aload_n hM.1 hM.2.1 dX1_look_119 rfl (lv_at hl 2 rfl) ?_
  refine gf_X8_today hM hw (okX8.o ho2) fl_X1_36 dX1_look_120 ?_
  refine lv_imul hM.1 hM.2.1 dX1_look_123 ?_
  refine x_callSIr (rest := [.int 6, .ref (ad (p + 1))]) hM hw (ct_X1_lot l x6 (16 * (h10.1 q2 0))) [.int x6, .int (16 * (h10.1 q2 0))] rfl (gi_S ml_X1_16 sm_X1_lot in_X1 kc_X1_lot) hd_X1_lot rfl ⟨Nat.le_of_ble_eq_true rfl, Nat.le_of_ble_eq_true rfl⟩ rfl (Nat.le_of_ble_eq_true rfl) hl.1 hcs0 hf dX1_look_124 (fun r11 H locs hf hw => ?_)
  refine lv_aload_n hM.1 hM.2.1 dX1_look_127 rfl (lv_at hl 1 rfl) ?_
  refine gf_X9_rain hM hw (okX9.o ho1) fl_X1_20 dX1_look_128 ?_
  refine x_ic_ge (tgt := 138) hM hf dX1_look_131 (by decide) (fun hf => ?_) (fun hf => ?_)
  · refine lv_iconst (v := 0) hM.1 hM.2.1 dX1_look_138 ic_0 ?_
    exact w_X1_look_j139 hM ho ho1 ho2 hR okx7 (okX1.seen ho) hw (lv_sub hl [0, 1, 2, 3, 4, 6] rfl) hf
  refine lv_iconst (v := 1) hM.1 hM.2.1 dX1_look_134 ic_1 ?_
  refine lv_goto (tgt := 139) hM.1 hM.2.1 dX1_look_135 (by decide) ?_
  exact w_X1_look_j139 hM ho ho1 ho2 hR okx7 (okX1.seen ho) hw (lv_sub hl [0, 1, 2, 3, 4, 6] rfl) hf
def c_X1_look (p : Nat) (q1 : Nat) (q2 : Nat) (a3 : Int32) (a4 : Int32) (a5 : Int32) (a6 : Int32) (h : PH) : Option (PH) :=
  gd (ixOK a3 7) <|
  (c_X8_lastTold q2 q1 a3 a4 h).bind fun r2 =>
  nm r2 fun v3 =>
  nm (setI h (p + 1) 0 (h.1 q2 0)) fun h4 =>
  nm (setI h4 (p + 1) 1 (h4.1 (q1 + 13 + 1 + a3.toNatClampNeg) 3)) fun h5 =>
  (c_X8_tales q2 q1 ((h5.1 q2 4) ||| (h5.1 q2 5)) a3 a4 h5).bind fun r6 =>
  nm (setI h5 (p + 1) 2 r6) fun h7 =>
  gd (ixOK a4 5) <|
  nm (setI h7 (p + 1) 3 (h7.1 (q2 + 1) a4.toNatClampNeg)) fun h8 =>
  nm (setI h8 (p + 1) 4 (h8.1 (q1 + 13 + 1 + a3.toNatClampNeg) 2)) fun h9 =>
  if v3 = (-2) then
    c_X1_look_j108 p q1 q2 a4 a5 a6 (q1 + 13 + 1 + a3.toNatClampNeg) 99 5 (p + 1) h9
  else
    c_X1_look_j108 p q1 q2 a4 a5 a6 (q1 + 13 + 1 + a3.toNatClampNeg) ((h9.1 q2 0) - v3) 5 (p + 1) h9
set_option maxHeartbeats 4000000 in
set_option maxRecDepth 100000 in
theorem ct_X1_look (l : Launch) {lay : List KK} {p : Nat} {q1 : Nat} {q2 : Nat} (ho : okX1 lay p) (ho1 : okX9 lay q1) (ho2 : okX8 lay q2) (a3 : Int32) (a4 : Int32) (a5 : Int32) (a6 : Int32) : CtV l yX1_look cX1_look 9 (none) 2 50 lay (fun h => c_X1_look p q1 q2 a3 a4 a5 a6 h) (fun ad => [.ref (ad p), .ref (ad q1), .ref (ad q2), .int a3, .int a4, .int a5, .int a6]) := by
  refine CtV.mk' RX1 (by decide) rfl (fun _ => Nat.le_of_ble_eq_true rfl) ?_
  intro p0 e s m args below meth c D G A H0 ad X h r0 H ls Q hM hw hl hf hR
  have hl : lv_has ls 9 [(0, .ref (ad p)), (1, .ref (ad q1)), (2, .ref (ad q2)), (3, .int a3), (4, .int a4), (5, .int a5), (6, .int a6)] := hl
  unfold c_X1_look at hf
  refine lv_aload_n hM.1 hM.2.1 dX1_look_0 rfl (lv_at hl 1 rfl) ?_
  refine gf_X9_excuseRows hM hw (okX9.o ho1) fl_X1_26 dX1_look_1 ?_
  refine lv_iload_n hM.1 hM.2.1 dX1_look_4 rfl (lv_at hl 3 rfl) ?_
  refine x_aaldI hM hw (okX9.excuseRows ho1) hf dX1_look_5 (fun hi1 hf => ?_)
  refine lv_astore (lv' := [(7, .ref (ad (q1 + 13 + 1 + a3.toNatClampNeg))), (0, .ref (ad p)), (1, .ref (ad q1)), (2, .ref (ad q2)), (3, .int a3), (4, .int a4), (5, .int a5), (6, .int a6)]) hM.1 hM.2.1 dX1_look_6 hl (by decide) rfl (fun ls hl => ?_)
  refine lv_aload_n hM.1 hM.2.1 dX1_look_8 rfl (lv_at hl 3 rfl) ?_
  refine lv_aload_n hM.1 hM.2.1 dX1_look_9 rfl (lv_at hl 2 rfl) ?_
  refine lv_iload_n hM.1 hM.2.1 dX1_look_10 rfl (lv_at hl 4 rfl) ?_
  refine lv_iload hM.1 hM.2.1 dX1_look_11 (lv_at hl 5 rfl) ?_
  refine x_callVIr (rest := []) hM hw (ct_X8_lastTold l ho2 ho1 a3 a4) [.ref (ad q1), .int a3, .int a4] (okX8.o ho2) rfl rfl rfl (gi_V ml_X1_30 im_X8_lastTold sl_X8_lastTold in_X8 kc_X8_lastTold) hd_X8_lastTold rfl ⟨Nat.le_of_ble_eq_true rfl, Nat.le_of_ble_eq_true rfl⟩ rfl (Nat.le_of_ble_eq_true rfl) hl.1 hcs0 hf dX1_look_13 (fun r2 H locs hf hw => ?_)
  refine x_istore hM hf dX1_look_16 hl (by decide) (fun v3 => [(8, .int v3), (7, .ref (ad (q1 + 13 + 1 + a3.toNatClampNeg))), (0, .ref (ad p)), (1, .ref (ad q1)), (2, .ref (ad q2)), (3, .int a3), (4, .int a4), (5, .int a5), (6, .int a6)]) (fun _ => rfl) (fun v3 ls hf hl => ?_)
  refine lv_aload_n hM.1 hM.2.1 dX1_look_18 rfl (lv_at hl 2 rfl) ?_
  refine gf_X1_seen hM hw (okX1.o ho) fl_X1_9 dX1_look_19 ?_
  refine lv_iconst (v := 0) hM.1 hM.2.1 dX1_look_22 ic_0 ?_
  refine lv_aload_n hM.1 hM.2.1 dX1_look_23 rfl (lv_at hl 4 rfl) ?_
  refine gf_X8_today hM hw (okX8.o ho2) fl_X1_36 dX1_look_24 ?_
  refine x_iastK hM hw (okX1.seen ho) 0 (by decide) (by decide) hf dX1_look_27 (fun h4 H locs hf hw => ?_)
  refine lv_aload_n hM.1 hM.2.1 dX1_look_28 rfl (lv_at hl 2 rfl) ?_
  refine gf_X1_seen hM hw (okX1.o ho) fl_X1_9 dX1_look_29 ?_
  refine lv_iconst (v := 1) hM.1 hM.2.1 dX1_look_32 ic_1 ?_
  refine lv_aload hM.1 hM.2.1 dX1_look_33 (lv_at hl 1 rfl) ?_
  refine lv_iconst (v := 3) hM.1 hM.2.1 dX1_look_35 ic_3 ?_
  refine x_ialdK hM hw (okX9.excuseRows_atI ho1 hi1) 3 (by decide) (by decide) dX1_look_36 ?_
  refine x_iastK hM hw (okX1.seen ho) 1 (by decide) (by decide) hf dX1_look_37 (fun h5 H locs hf hw => ?_)
  refine lv_aload_n hM.1 hM.2.1 dX1_look_38 rfl (lv_at hl 2 rfl) ?_
  refine gf_X1_seen hM hw (okX1.o ho) fl_X1_9 dX1_look_39 ?_
  refine lv_iconst (v := 2) hM.1 hM.2.1 dX1_look_42 ic_2 ?_
  refine lv_aload_n hM.1 hM.2.1 dX1_look_43 rfl (lv_at hl 4 rfl) ?_
  refine lv_aload_n hM.1 hM.2.1 dX1_look_44 rfl (lv_at hl 3 rfl) ?_
  refine lv_aload_n hM.1 hM.2.1 dX1_look_45 rfl (lv_at hl 4 rfl) ?_
  refine gf_X8_freed hM hw (okX8.o ho2) fl_X1_39 dX1_look_46 ?_
  refine lv_aload_n hM.1 hM.2.1 dX1_look_49 rfl (lv_at hl 4 rfl) ?_
  refine gf_X8_caught hM hw (okX8.o ho2) fl_X1_42 dX1_look_50 ?_
  refine lv_ior hM.1 hM.2.1 dX1_look_53 ?_
  refine lv_iload_n hM.1 hM.2.1 dX1_look_54 rfl (lv_at hl 5 rfl) ?_
  refine lv_iload hM.1 hM.2.1 dX1_look_55 (lv_at hl 6 rfl) ?_
  refine x_callVIr (rest := [.int 2, .ref (ad (p + 1))]) hM hw (ct_X8_tales l ho2 ho1 ((h5.1 q2 4) ||| (h5.1 q2 5)) a3 a4) [.ref (ad q1), .int ((h5.1 q2 4) ||| (h5.1 q2 5)), .int a3, .int a4] (okX8.o ho2) rfl rfl rfl (gi_V ml_X1_45 im_X8_tales sl_X8_tales in_X8 kc_X8_tales) hd_X8_tales rfl ⟨Nat.le_of_ble_eq_true rfl, Nat.le_of_ble_eq_true rfl⟩ rfl (Nat.le_of_ble_eq_true rfl) hl.1 hcs0 hf dX1_look_57 (fun r6 H locs hf hw => ?_)
  refine x_iastK hM hw (okX1.seen ho) 2 (by decide) (by decide) hf dX1_look_60 (fun h7 H locs hf hw => ?_)
  refine lv_aload_n hM.1 hM.2.1 dX1_look_61 rfl (lv_at hl 2 rfl) ?_
  refine gf_X1_seen hM hw (okX1.o ho) fl_X1_9 dX1_look_62 ?_
  refine lv_iconst (v := 3) hM.1 hM.2.1 dX1_look_65 ic_3 ?_
  refine lv_aload_n hM.1 hM.2.1 dX1_look_66 rfl (lv_at hl 4 rfl) ?_
  refine gf_X8_trustOf hM hw (okX8.o ho2) fl_X1_49 dX1_look_67 ?_
  refine lv_iload hM.1 hM.2.1 dX1_look_70 (lv_at hl 6 rfl) ?_
  refine x_iald hM hw (okX8.trustOf ho2) hf dX1_look_72 (fun hf => ?_)
  refine x_iastK hM hw (okX1.seen ho) 3 (by decide) (by decide) hf dX1_look_73 (fun h8 H locs hf hw => ?_)
  refine lv_aload_n hM.1 hM.2.1 dX1_look_74 rfl (lv_at hl 2 rfl) ?_
  refine gf_X1_seen hM hw (okX1.o ho) fl_X1_9 dX1_look_75 ?_
  refine lv_iconst (v := 4) hM.1 hM.2.1 dX1_look_78 ic_4 ?_
  refine lv_aload hM.1 hM.2.1 dX1_look_79 (lv_at hl 1 rfl) ?_
  refine lv_iconst (v := 2) hM.1 hM.2.1 dX1_look_81 ic_2 ?_
  refine x_ialdK hM hw (okX9.excuseRows_atI ho1 hi1) 2 (by decide) (by decide) dX1_look_82 ?_
  refine x_iastK hM hw (okX1.seen ho) 4 (by decide) (by decide) hf dX1_look_83 (fun h9 H locs hf hw => ?_)
  refine lv_aload_n hM.1 hM.2.1 dX1_look_84 rfl (lv_at hl 2 rfl) ?_
  refine gf_X1_seen hM hw (okX1.o ho) fl_X1_9 dX1_look_85 ?_
  refine lv_iconst (v := 5) hM.1 hM.2.1 dX1_look_88 ic_5 ?_
  refine lv_iload hM.1 hM.2.1 dX1_look_89 (lv_at hl 0 rfl) ?_
  refine lv_bipush (v := (-2)) hM.1 hM.2.1 dX1_look_91 (by decide) ?_
  refine x_ic_ne (tgt := 101) hM hf dX1_look_93 (by decide) (fun hf => ?_) (fun hf => ?_)
  · refine lv_aload_n hM.1 hM.2.1 dX1_look_101 rfl (lv_at hl 4 rfl) ?_
    refine gf_X8_today hM hw (okX8.o ho2) fl_X1_36 dX1_look_102 ?_
    refine lv_iload hM.1 hM.2.1 dX1_look_105 (lv_at hl 0 rfl) ?_
    refine lv_isub hM.1 hM.2.1 dX1_look_107 ?_
    exact w_X1_look_j108 hM ho ho1 ho2 hR (okX9.excuseRows_atI ho1 hi1) (okX1.seen ho) hw (lv_sub hl [2, 3, 4, 6, 7, 8, 1] rfl) hf
  refine lv_bipush (v := 99) hM.1 hM.2.1 dX1_look_96 (by decide) ?_
  refine lv_goto (tgt := 108) hM.1 hM.2.1 dX1_look_98 (by decide) ?_
  exact w_X1_look_j108 hM ho ho1 ho2 hR (okX9.excuseRows_atI ho1 hi1) (okX1.seen ho) hw (lv_sub hl [2, 3, 4, 6, 7, 8, 1] rfl) hf
theorem hd_X1_look : yX1_look.cls = RX1 ∧ yX1_look.cls ≠ "java/lang/invoke/MethodHandle" ∧ yX1_look.cls ≠ "java/lang/invoke/VarHandle" ∧ (parseMethodDescriptor yX1_look.desc).map (fun d => d.parameters.length) = some 6 := ⟨rfl, by decide, by decide, by decide +kernel⟩
theorem dX1_passes_0 : decode cX1_passes 0 = .ok (.aload_n 1, 1) := by decide +kernel
theorem dX1_passes_1 : decode cX1_passes 1 = .ok (.iload_n 3, 1) := by decide +kernel
theorem dX1_passes_2 : decode cX1_passes 2 = .ok (.invokevirtual 55, 3) := by decide +kernel
theorem dX1_passes_5 : decode cX1_passes 5 = .ok (.ifCond .eq 27, 3) := by decide +kernel
theorem dX1_passes_8 : decode cX1_passes 8 = .ok (.aload_n 1, 1) := by decide +kernel
theorem dX1_passes_9 : decode cX1_passes 9 = .ok (.iload 4, 2) := by decide +kernel
theorem dX1_passes_11 : decode cX1_passes 11 = .ok (.invokevirtual 59, 3) := by decide +kernel
theorem dX1_passes_14 : decode cX1_passes 14 = .ok (.ifCond .eq 18, 3) := by decide +kernel
theorem dX1_passes_17 : decode cX1_passes 17 = .ok (.aload_n 2, 1) := by decide +kernel
theorem dX1_passes_18 : decode cX1_passes 18 = .ok (.getfield 36, 3) := by decide +kernel
theorem dX1_passes_21 : decode cX1_passes 21 = .ok (.aload_n 1, 1) := by decide +kernel
theorem dX1_passes_22 : decode cX1_passes 22 = .ok (.getfield 26, 3) := by decide +kernel
theorem dX1_passes_25 : decode cX1_passes 25 = .ok (.iload_n 3, 1) := by decide +kernel
theorem dX1_passes_26 : decode cX1_passes 26 = .ok (.aaload, 1) := by decide +kernel
theorem dX1_passes_27 : decode cX1_passes 27 = .ok (.iconst 1, 1) := by decide +kernel
theorem dX1_passes_28 : decode cX1_passes 28 = .ok (.iaload, 1) := by decide +kernel
theorem dX1_passes_29 : decode cX1_passes 29 = .ok (.if_icmp .le 5, 3) := by decide +kernel
theorem dX1_passes_32 : decode cX1_passes 32 = .ok (.iconst 0, 1) := by decide +kernel
theorem dX1_passes_33 : decode cX1_passes 33 = .ok (.ireturn, 1) := by decide +kernel
theorem dX1_passes_34 : decode cX1_passes 34 = .ok (.aload_n 0, 1) := by decide +kernel
theorem dX1_passes_35 : decode cX1_passes 35 = .ok (.aload_n 1, 1) := by decide +kernel
theorem dX1_passes_36 : decode cX1_passes 36 = .ok (.aload_n 2, 1) := by decide +kernel
theorem dX1_passes_37 : decode cX1_passes 37 = .ok (.iload_n 3, 1) := by decide +kernel
theorem dX1_passes_38 : decode cX1_passes 38 = .ok (.iload 4, 2) := by decide +kernel
theorem dX1_passes_40 : decode cX1_passes 40 = .ok (.iload 5, 2) := by decide +kernel
theorem dX1_passes_42 : decode cX1_passes 42 = .ok (.iload 6, 2) := by decide +kernel
theorem dX1_passes_44 : decode cX1_passes 44 = .ok (.invokevirtual 62, 3) := by decide +kernel
theorem dX1_passes_47 : decode cX1_passes 47 = .ok (.iconst 0, 1) := by decide +kernel
theorem dX1_passes_48 : decode cX1_passes 48 = .ok (.bipush 100, 2) := by decide +kernel
theorem dX1_passes_50 : decode cX1_passes 50 = .ok (.aload_n 1, 1) := by decide +kernel
theorem dX1_passes_51 : decode cX1_passes 51 = .ok (.getfield 66, 3) := by decide +kernel
theorem dX1_passes_54 : decode cX1_passes 54 = .ok (.aload_n 0, 1) := by decide +kernel
theorem dX1_passes_55 : decode cX1_passes 55 = .ok (.getfield 9, 3) := by decide +kernel
theorem dX1_passes_58 : decode cX1_passes 58 = .ok (.invokevirtual 70, 3) := by decide +kernel
theorem dX1_passes_61 : decode cX1_passes 61 = .ok (.invokestatic 76, 3) := by decide +kernel
theorem dX1_passes_64 : decode cX1_passes 64 = .ok (.invokestatic 81, 3) := by decide +kernel
theorem dX1_passes_67 : decode cX1_passes 67 = .ok (.ireturn, 1) := by decide +kernel
def c_X1_passes (p : Nat) (q1 : Nat) (q2 : Nat) (a3 : Int32) (a4 : Int32) (a5 : Int32) (a6 : Int32) (h : PH) : Option (Int32 × PH) :=
  (c_X9_isExcuse q1 a3 h).bind fun r1 =>
  if r1 = 0 then
    some (0, h)
  else
    (c_X9_isMan q1 a4 h).bind fun r2 =>
    if r2 = 0 then
      some (0, h)
    else
      gd (ixOK a3 7) <|
      if (h.1 q2 0) ≤ (h.1 (q1 + 13 + 1 + a3.toNatClampNeg) 1) then
        (c_X1_look p q1 q2 a3 a4 a5 a6 h).bind fun h4 =>
        bind2 (c_X2_answer (q1 + 1) (p + 1) h4) fun r5 h6 =>
        some ((jmax 0 (jmin 100 r5)), h6)
      else
        some (0, h)
set_option maxHeartbeats 4000000 in
set_option maxRecDepth 100000 in
theorem ct_X1_passes (l : Launch) {lay : List KK} {p : Nat} {q1 : Nat} {q2 : Nat} (ho : okX1 lay p) (ho1 : okX9 lay q1) (ho2 : okX8 lay q2) (a3 : Int32) (a4 : Int32) (a5 : Int32) (a6 : Int32) : CtI l yX1_passes cX1_passes 7 (some .int) 3 78 lay (fun h => c_X1_passes p q1 q2 a3 a4 a5 a6 h) (fun ad => [.ref (ad p), .ref (ad q1), .ref (ad q2), .int a3, .int a4, .int a5, .int a6]) := by
  refine CtI.mk' RX1 (by decide) rfl (fun _ => Nat.le_of_ble_eq_true rfl) ?_
  intro p0 e s m args below meth c D G A H0 ad X h r0 H ls Q hM hw hl hf hR
  have hl : lv_has ls 7 [(0, .ref (ad p)), (1, .ref (ad q1)), (2, .ref (ad q2)), (3, .int a3), (4, .int a4), (5, .int a5), (6, .int a6)] := hl
  unfold c_X1_passes at hf
  refine lv_aload_n hM.1 hM.2.1 dX1_passes_0 rfl (lv_at hl 1 rfl) ?_
  refine lv_iload_n hM.1 hM.2.1 dX1_passes_1 rfl (lv_at hl 3 rfl) ?_
  refine x_callVIr (rest := []) hM hw (ct_X9_isExcuse l ho1 a3) [.int a3] (okX9.o ho1) rfl rfl rfl (gi_V ml_X1_55 im_X9_isExcuse sl_X9_isExcuse in_X9 kc_X9_isExcuse) hd_X9_isExcuse rfl ⟨Nat.le_of_ble_eq_true rfl, Nat.le_of_ble_eq_true rfl⟩ rfl (Nat.le_of_ble_eq_true rfl) hl.1 hcs0 hf dX1_passes_2 (fun r1 H locs hf hw => ?_)
  refine x_if_eq (tgt := 32) hM hf dX1_passes_5 (by decide) (fun hf => ?_) (fun hf => ?_)
  · refine lv_iconst (v := 0) hM.1 hM.2.1 dX1_passes_32 ic_0 ?_
    exact hR _ _ _ _ _ _ _ (Option.some.inj hf) rfl rfl hw dX1_passes_33
  refine lv_aload_n hM.1 hM.2.1 dX1_passes_8 rfl (lv_at hl 1 rfl) ?_
  refine lv_iload hM.1 hM.2.1 dX1_passes_9 (lv_at hl 4 rfl) ?_
  refine x_callVIr (rest := []) hM hw (ct_X9_isMan l ho1 a4) [.int a4] (okX9.o ho1) rfl rfl rfl (gi_V ml_X1_59 im_X9_isMan sl_X9_isMan in_X9 kc_X9_isMan) hd_X9_isMan rfl ⟨Nat.le_of_ble_eq_true rfl, Nat.le_of_ble_eq_true rfl⟩ rfl (Nat.le_of_ble_eq_true rfl) hl.1 hcs0 hf dX1_passes_11 (fun r2 H locs hf hw => ?_)
  refine x_if_eq (tgt := 32) hM hf dX1_passes_14 (by decide) (fun hf => ?_) (fun hf => ?_)
  · refine lv_iconst (v := 0) hM.1 hM.2.1 dX1_passes_32 ic_0 ?_
    exact hR _ _ _ _ _ _ _ (Option.some.inj hf) rfl rfl hw dX1_passes_33
  refine lv_aload_n hM.1 hM.2.1 dX1_passes_17 rfl (lv_at hl 2 rfl) ?_
  refine gf_X8_today hM hw (okX8.o ho2) fl_X1_36 dX1_passes_18 ?_
  refine lv_aload_n hM.1 hM.2.1 dX1_passes_21 rfl (lv_at hl 1 rfl) ?_
  refine gf_X9_excuseRows hM hw (okX9.o ho1) fl_X1_26 dX1_passes_22 ?_
  refine lv_iload_n hM.1 hM.2.1 dX1_passes_25 rfl (lv_at hl 3 rfl) ?_
  refine x_aaldI hM hw (okX9.excuseRows ho1) hf dX1_passes_26 (fun hi3 hf => ?_)
  refine lv_iconst (v := 1) hM.1 hM.2.1 dX1_passes_27 ic_1 ?_
  refine x_ialdK hM hw (okX9.excuseRows_atI ho1 hi3) 1 (by decide) (by decide) dX1_passes_28 ?_
  refine x_ic_le (tgt := 34) hM hf dX1_passes_29 (by decide) (fun hf => ?_) (fun hf => ?_)
  · refine lv_aload_n hM.1 hM.2.1 dX1_passes_34 rfl (lv_at hl 0 rfl) ?_
    refine lv_aload_n hM.1 hM.2.1 dX1_passes_35 rfl (lv_at hl 1 rfl) ?_
    refine lv_aload_n hM.1 hM.2.1 dX1_passes_36 rfl (lv_at hl 2 rfl) ?_
    refine lv_iload_n hM.1 hM.2.1 dX1_passes_37 rfl (lv_at hl 3 rfl) ?_
    refine lv_iload hM.1 hM.2.1 dX1_passes_38 (lv_at hl 4 rfl) ?_
    refine lv_iload hM.1 hM.2.1 dX1_passes_40 (lv_at hl 5 rfl) ?_
    refine lv_iload hM.1 hM.2.1 dX1_passes_42 (lv_at hl 6 rfl) ?_
    refine x_callVV (rest := []) hM hw (ct_X1_look l ho ho1 ho2 a3 a4 a5 a6) [.ref (ad q1), .ref (ad q2), .int a3, .int a4, .int a5, .int a6] (okX1.o ho) rfl rfl rfl (gi_V ml_X1_62 im_X1_look sl_X1_look in_X1 kc_X1_look) hd_X1_look rfl ⟨Nat.le_of_ble_eq_true rfl, Nat.le_of_ble_eq_true rfl⟩ rfl (Nat.le_of_ble_eq_true rfl) hl.1 hcs0 hf dX1_passes_44 (fun h4 H locs hf hw => ?_)
    refine lv_iconst (v := 0) hM.1 hM.2.1 dX1_passes_47 ic_0 ?_
    refine lv_bipush (v := 100) hM.1 hM.2.1 dX1_passes_48 (by decide) ?_
    refine lv_aload_n hM.1 hM.2.1 dX1_passes_50 rfl (lv_at hl 1 rfl) ?_
    refine gf_X9_passes hM hw (okX9.o ho1) fl_X1_66 dX1_passes_51 ?_
    refine lv_aload_n hM.1 hM.2.1 dX1_passes_54 rfl (lv_at hl 0 rfl) ?_
    refine gf_X1_seen hM hw (okX1.o ho) fl_X1_9 dX1_passes_55 ?_
    refine x_callVI (rest := [.int 100, .int 0]) hM hw (ct_X2_answer l (okX9.passes ho1) (okX1.seen ho)) [.ref (ad (p + 1))] (okX2.o (okX9.passes ho1)) rfl rfl rfl (gi_V ml_X1_70 im_X2_answer sl_X2_answer in_X2 kc_X2_answer) hd_X2_answer rfl ⟨Nat.le_of_ble_eq_true rfl, Nat.le_of_ble_eq_true rfl⟩ rfl (Nat.le_of_ble_eq_true rfl) hl.1 hcs0 hf dX1_passes_58 (fun r5 h6 H locs hf hw => ?_)
    refine x_mmin hM hl.1 hcs0 ml_X1_76 sm_J9_min_7cf53 in_J9 kc_J9_min_7cf53 (Nat.le_of_ble_eq_true rfl) (Nat.le_of_ble_eq_true rfl) dX1_passes_61 ?_
    refine x_mmax hM hl.1 hcs0 ml_X1_81 sm_J9_max_7cf53 in_J9 kc_J9_max_7cf53 (Nat.le_of_ble_eq_true rfl) (Nat.le_of_ble_eq_true rfl) dX1_passes_64 ?_
    exact hR _ _ _ _ _ _ _ (Option.some.inj hf) rfl rfl hw dX1_passes_67
  refine lv_iconst (v := 0) hM.1 hM.2.1 dX1_passes_32 ic_0 ?_
  exact hR _ _ _ _ _ _ _ (Option.some.inj hf) rfl rfl hw dX1_passes_33
theorem hd_X1_passes : yX1_passes.cls = RX1 ∧ yX1_passes.cls ≠ "java/lang/invoke/MethodHandle" ∧ yX1_passes.cls ≠ "java/lang/invoke/VarHandle" ∧ (parseMethodDescriptor yX1_passes.desc).map (fun d => d.parameters.length) = some 6 := ⟨rfl, by decide, by decide, by decide +kernel⟩
theorem dX1_wears_0 : decode cX1_wears 0 = .ok (.aload_n 1, 1) := by decide +kernel
theorem dX1_wears_1 : decode cX1_wears 1 = .ok (.iload_n 3, 1) := by decide +kernel
theorem dX1_wears_2 : decode cX1_wears 2 = .ok (.invokevirtual 55, 3) := by decide +kernel
theorem dX1_wears_5 : decode cX1_wears 5 = .ok (.ifCond .eq 12, 3) := by decide +kernel
theorem dX1_wears_8 : decode cX1_wears 8 = .ok (.aload_n 1, 1) := by decide +kernel
theorem dX1_wears_9 : decode cX1_wears 9 = .ok (.iload 4, 2) := by decide +kernel
theorem dX1_wears_11 : decode cX1_wears 11 = .ok (.invokevirtual 59, 3) := by decide +kernel
theorem dX1_wears_14 : decode cX1_wears 14 = .ok (.ifCond .ne 5, 3) := by decide +kernel
theorem dX1_wears_17 : decode cX1_wears 17 = .ok (.iconst 0, 1) := by decide +kernel
theorem dX1_wears_18 : decode cX1_wears 18 = .ok (.ireturn, 1) := by decide +kernel
theorem dX1_wears_19 : decode cX1_wears 19 = .ok (.aload_n 0, 1) := by decide +kernel
theorem dX1_wears_20 : decode cX1_wears 20 = .ok (.aload_n 1, 1) := by decide +kernel
theorem dX1_wears_21 : decode cX1_wears 21 = .ok (.aload_n 2, 1) := by decide +kernel
theorem dX1_wears_22 : decode cX1_wears 22 = .ok (.iload_n 3, 1) := by decide +kernel
theorem dX1_wears_23 : decode cX1_wears 23 = .ok (.iload 4, 2) := by decide +kernel
theorem dX1_wears_25 : decode cX1_wears 25 = .ok (.iload 5, 2) := by decide +kernel
theorem dX1_wears_27 : decode cX1_wears 27 = .ok (.iload 6, 2) := by decide +kernel
theorem dX1_wears_29 : decode cX1_wears 29 = .ok (.invokevirtual 62, 3) := by decide +kernel
theorem dX1_wears_32 : decode cX1_wears 32 = .ok (.iconst 0, 1) := by decide +kernel
theorem dX1_wears_33 : decode cX1_wears 33 = .ok (.bipush 99, 2) := by decide +kernel
theorem dX1_wears_35 : decode cX1_wears 35 = .ok (.aload_n 1, 1) := by decide +kernel
theorem dX1_wears_36 : decode cX1_wears 36 = .ok (.getfield 84, 3) := by decide +kernel
theorem dX1_wears_39 : decode cX1_wears 39 = .ok (.aload_n 0, 1) := by decide +kernel
theorem dX1_wears_40 : decode cX1_wears 40 = .ok (.getfield 9, 3) := by decide +kernel
theorem dX1_wears_43 : decode cX1_wears 43 = .ok (.invokevirtual 70, 3) := by decide +kernel
theorem dX1_wears_46 : decode cX1_wears 46 = .ok (.invokestatic 76, 3) := by decide +kernel
theorem dX1_wears_49 : decode cX1_wears 49 = .ok (.invokestatic 81, 3) := by decide +kernel
theorem dX1_wears_52 : decode cX1_wears 52 = .ok (.ireturn, 1) := by decide +kernel
def c_X1_wears (p : Nat) (q1 : Nat) (q2 : Nat) (a3 : Int32) (a4 : Int32) (a5 : Int32) (a6 : Int32) (h : PH) : Option (Int32 × PH) :=
  (c_X9_isExcuse q1 a3 h).bind fun r1 =>
  if r1 = 0 then
    some (0, h)
  else
    (c_X9_isMan q1 a4 h).bind fun r2 =>
    if r2 = 0 then
      some (0, h)
    else
      (c_X1_look p q1 q2 a3 a4 a5 a6 h).bind fun h3 =>
      bind2 (c_X2_answer (q1 + 4) (p + 1) h3) fun r4 h5 =>
      some ((jmax 0 (jmin 99 r4)), h5)
set_option maxHeartbeats 4000000 in
set_option maxRecDepth 100000 in
theorem ct_X1_wears (l : Launch) {lay : List KK} {p : Nat} {q1 : Nat} {q2 : Nat} (ho : okX1 lay p) (ho1 : okX9 lay q1) (ho2 : okX8 lay q2) (a3 : Int32) (a4 : Int32) (a5 : Int32) (a6 : Int32) : CtI l yX1_wears cX1_wears 7 (some .int) 3 78 lay (fun h => c_X1_wears p q1 q2 a3 a4 a5 a6 h) (fun ad => [.ref (ad p), .ref (ad q1), .ref (ad q2), .int a3, .int a4, .int a5, .int a6]) := by
  refine CtI.mk' RX1 (by decide) rfl (fun _ => Nat.le_of_ble_eq_true rfl) ?_
  intro p0 e s m args below meth c D G A H0 ad X h r0 H ls Q hM hw hl hf hR
  have hl : lv_has ls 7 [(0, .ref (ad p)), (1, .ref (ad q1)), (2, .ref (ad q2)), (3, .int a3), (4, .int a4), (5, .int a5), (6, .int a6)] := hl
  unfold c_X1_wears at hf
  refine lv_aload_n hM.1 hM.2.1 dX1_wears_0 rfl (lv_at hl 1 rfl) ?_
  refine lv_iload_n hM.1 hM.2.1 dX1_wears_1 rfl (lv_at hl 3 rfl) ?_
  refine x_callVIr (rest := []) hM hw (ct_X9_isExcuse l ho1 a3) [.int a3] (okX9.o ho1) rfl rfl rfl (gi_V ml_X1_55 im_X9_isExcuse sl_X9_isExcuse in_X9 kc_X9_isExcuse) hd_X9_isExcuse rfl ⟨Nat.le_of_ble_eq_true rfl, Nat.le_of_ble_eq_true rfl⟩ rfl (Nat.le_of_ble_eq_true rfl) hl.1 hcs0 hf dX1_wears_2 (fun r1 H locs hf hw => ?_)
  refine x_if_eq (tgt := 17) hM hf dX1_wears_5 (by decide) (fun hf => ?_) (fun hf => ?_)
  · refine lv_iconst (v := 0) hM.1 hM.2.1 dX1_wears_17 ic_0 ?_
    exact hR _ _ _ _ _ _ _ (Option.some.inj hf) rfl rfl hw dX1_wears_18
  refine lv_aload_n hM.1 hM.2.1 dX1_wears_8 rfl (lv_at hl 1 rfl) ?_
  refine lv_iload hM.1 hM.2.1 dX1_wears_9 (lv_at hl 4 rfl) ?_
  refine x_callVIr (rest := []) hM hw (ct_X9_isMan l ho1 a4) [.int a4] (okX9.o ho1) rfl rfl rfl (gi_V ml_X1_59 im_X9_isMan sl_X9_isMan in_X9 kc_X9_isMan) hd_X9_isMan rfl ⟨Nat.le_of_ble_eq_true rfl, Nat.le_of_ble_eq_true rfl⟩ rfl (Nat.le_of_ble_eq_true rfl) hl.1 hcs0 hf dX1_wears_11 (fun r2 H locs hf hw => ?_)
  refine x_if_ne (tgt := 19) hM hf dX1_wears_14 (by decide) (fun hf => ?_) (fun hf => ?_)
  · refine lv_aload_n hM.1 hM.2.1 dX1_wears_19 rfl (lv_at hl 0 rfl) ?_
    refine lv_aload_n hM.1 hM.2.1 dX1_wears_20 rfl (lv_at hl 1 rfl) ?_
    refine lv_aload_n hM.1 hM.2.1 dX1_wears_21 rfl (lv_at hl 2 rfl) ?_
    refine lv_iload_n hM.1 hM.2.1 dX1_wears_22 rfl (lv_at hl 3 rfl) ?_
    refine lv_iload hM.1 hM.2.1 dX1_wears_23 (lv_at hl 4 rfl) ?_
    refine lv_iload hM.1 hM.2.1 dX1_wears_25 (lv_at hl 5 rfl) ?_
    refine lv_iload hM.1 hM.2.1 dX1_wears_27 (lv_at hl 6 rfl) ?_
    refine x_callVV (rest := []) hM hw (ct_X1_look l ho ho1 ho2 a3 a4 a5 a6) [.ref (ad q1), .ref (ad q2), .int a3, .int a4, .int a5, .int a6] (okX1.o ho) rfl rfl rfl (gi_V ml_X1_62 im_X1_look sl_X1_look in_X1 kc_X1_look) hd_X1_look rfl ⟨Nat.le_of_ble_eq_true rfl, Nat.le_of_ble_eq_true rfl⟩ rfl (Nat.le_of_ble_eq_true rfl) hl.1 hcs0 hf dX1_wears_29 (fun h3 H locs hf hw => ?_)
    refine lv_iconst (v := 0) hM.1 hM.2.1 dX1_wears_32 ic_0 ?_
    refine lv_bipush (v := 99) hM.1 hM.2.1 dX1_wears_33 (by decide) ?_
    refine lv_aload_n hM.1 hM.2.1 dX1_wears_35 rfl (lv_at hl 1 rfl) ?_
    refine gf_X9_wears hM hw (okX9.o ho1) fl_X1_84 dX1_wears_36 ?_
    refine lv_aload_n hM.1 hM.2.1 dX1_wears_39 rfl (lv_at hl 0 rfl) ?_
    refine gf_X1_seen hM hw (okX1.o ho) fl_X1_9 dX1_wears_40 ?_
    refine x_callVI (rest := [.int 99, .int 0]) hM hw (ct_X2_answer l (okX9.wears ho1) (okX1.seen ho)) [.ref (ad (p + 1))] (okX2.o (okX9.wears ho1)) rfl rfl rfl (gi_V ml_X1_70 im_X2_answer sl_X2_answer in_X2 kc_X2_answer) hd_X2_answer rfl ⟨Nat.le_of_ble_eq_true rfl, Nat.le_of_ble_eq_true rfl⟩ rfl (Nat.le_of_ble_eq_true rfl) hl.1 hcs0 hf dX1_wears_43 (fun r4 h5 H locs hf hw => ?_)
    refine x_mmin hM hl.1 hcs0 ml_X1_76 sm_J9_min_7cf53 in_J9 kc_J9_min_7cf53 (Nat.le_of_ble_eq_true rfl) (Nat.le_of_ble_eq_true rfl) dX1_wears_46 ?_
    refine x_mmax hM hl.1 hcs0 ml_X1_81 sm_J9_max_7cf53 in_J9 kc_J9_max_7cf53 (Nat.le_of_ble_eq_true rfl) (Nat.le_of_ble_eq_true rfl) dX1_wears_49 ?_
    exact hR _ _ _ _ _ _ _ (Option.some.inj hf) rfl rfl hw dX1_wears_52
  refine lv_iconst (v := 0) hM.1 hM.2.1 dX1_wears_17 ic_0 ?_
  exact hR _ _ _ _ _ _ _ (Option.some.inj hf) rfl rfl hw dX1_wears_18
theorem hd_X1_wears : yX1_wears.cls = RX1 ∧ yX1_wears.cls ≠ "java/lang/invoke/MethodHandle" ∧ yX1_wears.cls ≠ "java/lang/invoke/VarHandle" ∧ (parseMethodDescriptor yX1_wears.desc).map (fun d => d.parameters.length) = some 6 := ⟨rfl, by decide, by decide, by decide +kernel⟩
theorem dX1_lose_0 : decode cX1_lose 0 = .ok (.iload_n 2, 1) := by decide +kernel
theorem dX1_lose_1 : decode cX1_lose 1 = .ok (.ifCond .lt 26, 3) := by decide +kernel
theorem dX1_lose_4 : decode cX1_lose 4 = .ok (.iload_n 2, 1) := by decide +kernel
theorem dX1_lose_5 : decode cX1_lose 5 = .ok (.iconst 5, 1) := by decide +kernel
theorem dX1_lose_6 : decode cX1_lose 6 = .ok (.if_icmp .ge 21, 3) := by decide +kernel
theorem dX1_lose_9 : decode cX1_lose 9 = .ok (.aload_n 1, 1) := by decide +kernel
theorem dX1_lose_10 : decode cX1_lose 10 = .ok (.getfield 49, 3) := by decide +kernel
theorem dX1_lose_13 : decode cX1_lose 13 = .ok (.iload_n 2, 1) := by decide +kernel
theorem dX1_lose_14 : decode cX1_lose 14 = .ok (.iconst 0, 1) := by decide +kernel
theorem dX1_lose_15 : decode cX1_lose 15 = .ok (.aload_n 1, 1) := by decide +kernel
theorem dX1_lose_16 : decode cX1_lose 16 = .ok (.getfield 49, 3) := by decide +kernel
theorem dX1_lose_19 : decode cX1_lose 19 = .ok (.iload_n 2, 1) := by decide +kernel
theorem dX1_lose_20 : decode cX1_lose 20 = .ok (.iaload, 1) := by decide +kernel
theorem dX1_lose_21 : decode cX1_lose 21 = .ok (.iload_n 3, 1) := by decide +kernel
theorem dX1_lose_22 : decode cX1_lose 22 = .ok (.isub, 1) := by decide +kernel
theorem dX1_lose_23 : decode cX1_lose 23 = .ok (.invokestatic 81, 3) := by decide +kernel
theorem dX1_lose_26 : decode cX1_lose 26 = .ok (.iastore, 1) := by decide +kernel
theorem dX1_lose_27 : decode cX1_lose 27 = .ok (.return_, 1) := by decide +kernel
def c_X1_lose (p : Nat) (q1 : Nat) (a2 : Int32) (a3 : Int32) (h : PH) : Option (PH) :=
  if a2 < 0 then
    some h
  else
    if 5 ≤ a2 then
      some h
    else
      gd (ixOK a2 5) <|
      gd (ixOK a2 5) <| nm (setI h (q1 + 1) a2.toNatClampNeg (jmax 0 ((h.1 (q1 + 1) a2.toNatClampNeg) - a3))) fun h1 =>
      some h1
set_option maxHeartbeats 4000000 in
set_option maxRecDepth 100000 in
theorem ct_X1_lose (l : Launch) {lay : List KK} {p : Nat} {q1 : Nat} (ho : okX1 lay p) (ho1 : okX8 lay q1) (a2 : Int32) (a3 : Int32) : CtV l yX1_lose cX1_lose 4 (none) 1 21 lay (fun h => c_X1_lose p q1 a2 a3 h) (fun ad => [.ref (ad p), .ref (ad q1), .int a2, .int a3]) := by
  refine CtV.mk' RX1 (by decide) rfl (fun _ => Nat.le_of_ble_eq_true rfl) ?_
  intro p0 e s m args below meth c D G A H0 ad X h r0 H ls Q hM hw hl hf hR
  have hl : lv_has ls 4 [(0, .ref (ad p)), (1, .ref (ad q1)), (2, .int a2), (3, .int a3)] := hl
  unfold c_X1_lose at hf
  refine lv_iload_n hM.1 hM.2.1 dX1_lose_0 rfl (lv_at hl 2 rfl) ?_
  refine x_if_lt (tgt := 27) hM hf dX1_lose_1 (by decide) (fun hf => ?_) (fun hf => ?_)
  · exact hR _ _ _ _ _ (Option.some.inj hf) rfl hw dX1_lose_27
  refine lv_iload_n hM.1 hM.2.1 dX1_lose_4 rfl (lv_at hl 2 rfl) ?_
  refine lv_iconst (v := 5) hM.1 hM.2.1 dX1_lose_5 ic_5 ?_
  refine x_ic_ge (tgt := 27) hM hf dX1_lose_6 (by decide) (fun hf => ?_) (fun hf => ?_)
  · exact hR _ _ _ _ _ (Option.some.inj hf) rfl hw dX1_lose_27
  refine lv_aload_n hM.1 hM.2.1 dX1_lose_9 rfl (lv_at hl 1 rfl) ?_
  refine gf_X8_trustOf hM hw (okX8.o ho1) fl_X1_49 dX1_lose_10 ?_
  refine lv_iload_n hM.1 hM.2.1 dX1_lose_13 rfl (lv_at hl 2 rfl) ?_
  refine lv_iconst (v := 0) hM.1 hM.2.1 dX1_lose_14 ic_0 ?_
  refine lv_aload_n hM.1 hM.2.1 dX1_lose_15 rfl (lv_at hl 1 rfl) ?_
  refine gf_X8_trustOf hM hw (okX8.o ho1) fl_X1_49 dX1_lose_16 ?_
  refine lv_iload_n hM.1 hM.2.1 dX1_lose_19 rfl (lv_at hl 2 rfl) ?_
  refine x_iald hM hw (okX8.trustOf ho1) hf dX1_lose_20 (fun hf => ?_)
  refine lv_iload_n hM.1 hM.2.1 dX1_lose_21 rfl (lv_at hl 3 rfl) ?_
  refine lv_isub hM.1 hM.2.1 dX1_lose_22 ?_
  refine x_mmax hM hl.1 hcs0 ml_X1_81 sm_J9_max_7cf53 in_J9 kc_J9_max_7cf53 (Nat.le_of_ble_eq_true rfl) (Nat.le_of_ble_eq_true rfl) dX1_lose_23 ?_
  refine x_iast hM hw (okX8.trustOf ho1) hf dX1_lose_26 (fun h1 H locs hf hw => ?_)
  exact hR _ _ _ _ _ (Option.some.inj hf) rfl hw dX1_lose_27
theorem hd_X1_lose : yX1_lose.cls = RX1 ∧ yX1_lose.cls ≠ "java/lang/invoke/MethodHandle" ∧ yX1_lose.cls ≠ "java/lang/invoke/VarHandle" ∧ (parseMethodDescriptor yX1_lose.desc).map (fun d => d.parameters.length) = some 3 := ⟨rfl, by decide, by decide, by decide +kernel⟩
theorem dX1_meet_0 : decode cX1_meet 0 = .ok (.aload_n 2, 1) := by decide +kernel
theorem dX1_meet_1 : decode cX1_meet 1 = .ok (.getfield 110, 3) := by decide +kernel
theorem dX1_meet_4 : decode cX1_meet 4 = .ok (.iload_n 3, 1) := by decide +kernel
theorem dX1_meet_5 : decode cX1_meet 5 = .ok (.iaload, 1) := by decide +kernel
theorem dX1_meet_6 : decode cX1_meet 6 = .ok (.istore 5, 2) := by decide +kernel
theorem dX1_meet_8 : decode cX1_meet 8 = .ok (.aload_n 1, 1) := by decide +kernel
theorem dX1_meet_9 : decode cX1_meet 9 = .ok (.getfield 90, 3) := by decide +kernel
theorem dX1_meet_12 : decode cX1_meet 12 = .ok (.iload_n 3, 1) := by decide +kernel
theorem dX1_meet_13 : decode cX1_meet 13 = .ok (.aaload, 1) := by decide +kernel
theorem dX1_meet_14 : decode cX1_meet 14 = .ok (.iconst 0, 1) := by decide +kernel
theorem dX1_meet_15 : decode cX1_meet 15 = .ok (.iaload, 1) := by decide +kernel
theorem dX1_meet_16 : decode cX1_meet 16 = .ok (.istore 6, 2) := by decide +kernel
theorem dX1_meet_18 : decode cX1_meet 18 = .ok (.aload_n 1, 1) := by decide +kernel
theorem dX1_meet_19 : decode cX1_meet 19 = .ok (.getfield 90, 3) := by decide +kernel
theorem dX1_meet_22 : decode cX1_meet 22 = .ok (.iload_n 3, 1) := by decide +kernel
theorem dX1_meet_23 : decode cX1_meet 23 = .ok (.aaload, 1) := by decide +kernel
theorem dX1_meet_24 : decode cX1_meet 24 = .ok (.iconst 2, 1) := by decide +kernel
theorem dX1_meet_25 : decode cX1_meet 25 = .ok (.iaload, 1) := by decide +kernel
theorem dX1_meet_26 : decode cX1_meet 26 = .ok (.istore 7, 2) := by decide +kernel
theorem dX1_meet_28 : decode cX1_meet 28 = .ok (.aload_n 1, 1) := by decide +kernel
theorem dX1_meet_29 : decode cX1_meet 29 = .ok (.iload 5, 2) := by decide +kernel
theorem dX1_meet_31 : decode cX1_meet 31 = .ok (.invokevirtual 55, 3) := by decide +kernel
theorem dX1_meet_34 : decode cX1_meet 34 = .ok (.ifCond .eq 12, 3) := by decide +kernel
theorem dX1_meet_37 : decode cX1_meet 37 = .ok (.aload_n 2, 1) := by decide +kernel
theorem dX1_meet_38 : decode cX1_meet 38 = .ok (.iload 5, 2) := by decide +kernel
theorem dX1_meet_40 : decode cX1_meet 40 = .ok (.invokevirtual 113, 3) := by decide +kernel
theorem dX1_meet_43 : decode cX1_meet 43 = .ok (.ifCond .ne 27, 3) := by decide +kernel
theorem dX1_meet_46 : decode cX1_meet 46 = .ok (.aload_n 2, 1) := by decide +kernel
theorem dX1_meet_47 : decode cX1_meet 47 = .ok (.dup, 1) := by decide +kernel
theorem dX1_meet_48 : decode cX1_meet 48 = .ok (.getfield 116, 3) := by decide +kernel
theorem dX1_meet_51 : decode cX1_meet 51 = .ok (.iconst 1, 1) := by decide +kernel
theorem dX1_meet_52 : decode cX1_meet 52 = .ok (.iload_n 3, 1) := by decide +kernel
theorem dX1_meet_53 : decode cX1_meet 53 = .ok (.ishl, 1) := by decide +kernel
theorem dX1_meet_54 : decode cX1_meet 54 = .ok (.ior, 1) := by decide +kernel
theorem dX1_meet_55 : decode cX1_meet 55 = .ok (.putfield 116, 3) := by decide +kernel
theorem dX1_meet_58 : decode cX1_meet 58 = .ok (.aload_n 2, 1) := by decide +kernel
theorem dX1_meet_59 : decode cX1_meet 59 = .ok (.dup, 1) := by decide +kernel
theorem dX1_meet_60 : decode cX1_meet 60 = .ok (.getfield 119, 3) := by decide +kernel
theorem dX1_meet_63 : decode cX1_meet 63 = .ok (.iload 7, 2) := by decide +kernel
theorem dX1_meet_65 : decode cX1_meet 65 = .ok (.iadd, 1) := by decide +kernel
theorem dX1_meet_66 : decode cX1_meet 66 = .ok (.putfield 119, 3) := by decide +kernel
theorem dX1_meet_69 : decode cX1_meet 69 = .ok (.return_, 1) := by decide +kernel
theorem dX1_meet_70 : decode cX1_meet 70 = .ok (.aload_n 0, 1) := by decide +kernel
theorem dX1_meet_71 : decode cX1_meet 71 = .ok (.aload_n 1, 1) := by decide +kernel
theorem dX1_meet_72 : decode cX1_meet 72 = .ok (.aload_n 2, 1) := by decide +kernel
theorem dX1_meet_73 : decode cX1_meet 73 = .ok (.iload 5, 2) := by decide +kernel
theorem dX1_meet_75 : decode cX1_meet 75 = .ok (.iload 6, 2) := by decide +kernel
theorem dX1_meet_77 : decode cX1_meet 77 = .ok (.iload 7, 2) := by decide +kernel
theorem dX1_meet_79 : decode cX1_meet 79 = .ok (.iload 4, 2) := by decide +kernel
theorem dX1_meet_81 : decode cX1_meet 81 = .ok (.invokevirtual 122, 3) := by decide +kernel
theorem dX1_meet_84 : decode cX1_meet 84 = .ok (.istore 8, 2) := by decide +kernel
theorem dX1_meet_86 : decode cX1_meet 86 = .ok (.iload 4, 2) := by decide +kernel
theorem dX1_meet_88 : decode cX1_meet 88 = .ok (.bipush 16, 2) := by decide +kernel
theorem dX1_meet_90 : decode cX1_meet 90 = .ok (.aload_n 2, 1) := by decide +kernel
theorem dX1_meet_91 : decode cX1_meet 91 = .ok (.getfield 36, 3) := by decide +kernel
theorem dX1_meet_94 : decode cX1_meet 94 = .ok (.imul, 1) := by decide +kernel
theorem dX1_meet_95 : decode cX1_meet 95 = .ok (.iconst 1, 1) := by decide +kernel
theorem dX1_meet_96 : decode cX1_meet 96 = .ok (.iadd, 1) := by decide +kernel
theorem dX1_meet_97 : decode cX1_meet 97 = .ok (.iload_n 3, 1) := by decide +kernel
theorem dX1_meet_98 : decode cX1_meet 98 = .ok (.iadd, 1) := by decide +kernel
theorem dX1_meet_99 : decode cX1_meet 99 = .ok (.invokestatic 16, 3) := by decide +kernel
theorem dX1_meet_102 : decode cX1_meet 102 = .ok (.aload_n 0, 1) := by decide +kernel
theorem dX1_meet_103 : decode cX1_meet 103 = .ok (.aload_n 1, 1) := by decide +kernel
theorem dX1_meet_104 : decode cX1_meet 104 = .ok (.aload_n 2, 1) := by decide +kernel
theorem dX1_meet_105 : decode cX1_meet 105 = .ok (.iload 5, 2) := by decide +kernel
theorem dX1_meet_107 : decode cX1_meet 107 = .ok (.iload 6, 2) := by decide +kernel
theorem dX1_meet_109 : decode cX1_meet 109 = .ok (.iload 7, 2) := by decide +kernel
theorem dX1_meet_111 : decode cX1_meet 111 = .ok (.iload 4, 2) := by decide +kernel
theorem dX1_meet_113 : decode cX1_meet 113 = .ok (.invokevirtual 125, 3) := by decide +kernel
theorem dX1_meet_116 : decode cX1_meet 116 = .ok (.if_icmp .ge 27, 3) := by decide +kernel
theorem dX1_meet_119 : decode cX1_meet 119 = .ok (.aload_n 2, 1) := by decide +kernel
theorem dX1_meet_120 : decode cX1_meet 120 = .ok (.dup, 1) := by decide +kernel
theorem dX1_meet_121 : decode cX1_meet 121 = .ok (.getfield 39, 3) := by decide +kernel
theorem dX1_meet_124 : decode cX1_meet 124 = .ok (.iconst 1, 1) := by decide +kernel
theorem dX1_meet_125 : decode cX1_meet 125 = .ok (.iload_n 3, 1) := by decide +kernel
theorem dX1_meet_126 : decode cX1_meet 126 = .ok (.ishl, 1) := by decide +kernel
theorem dX1_meet_127 : decode cX1_meet 127 = .ok (.ior, 1) := by decide +kernel
theorem dX1_meet_128 : decode cX1_meet 128 = .ok (.putfield 39, 3) := by decide +kernel
theorem dX1_meet_131 : decode cX1_meet 131 = .ok (.aload_n 0, 1) := by decide +kernel
theorem dX1_meet_132 : decode cX1_meet 132 = .ok (.aload_n 2, 1) := by decide +kernel
theorem dX1_meet_133 : decode cX1_meet 133 = .ok (.iload 6, 2) := by decide +kernel
theorem dX1_meet_135 : decode cX1_meet 135 = .ok (.iload 8, 2) := by decide +kernel
theorem dX1_meet_137 : decode cX1_meet 137 = .ok (.invokevirtual 127, 3) := by decide +kernel
theorem dX1_meet_140 : decode cX1_meet 140 = .ok (.goto 37, 3) := by decide +kernel
theorem dX1_meet_143 : decode cX1_meet 143 = .ok (.aload_n 2, 1) := by decide +kernel
theorem dX1_meet_144 : decode cX1_meet 144 = .ok (.dup, 1) := by decide +kernel
theorem dX1_meet_145 : decode cX1_meet 145 = .ok (.getfield 42, 3) := by decide +kernel
theorem dX1_meet_148 : decode cX1_meet 148 = .ok (.iconst 1, 1) := by decide +kernel
theorem dX1_meet_149 : decode cX1_meet 149 = .ok (.iload_n 3, 1) := by decide +kernel
theorem dX1_meet_150 : decode cX1_meet 150 = .ok (.ishl, 1) := by decide +kernel
theorem dX1_meet_151 : decode cX1_meet 151 = .ok (.ior, 1) := by decide +kernel
theorem dX1_meet_152 : decode cX1_meet 152 = .ok (.putfield 42, 3) := by decide +kernel
theorem dX1_meet_155 : decode cX1_meet 155 = .ok (.aload_n 2, 1) := by decide +kernel
theorem dX1_meet_156 : decode cX1_meet 156 = .ok (.dup, 1) := by decide +kernel
theorem dX1_meet_157 : decode cX1_meet 157 = .ok (.getfield 119, 3) := by decide +kernel
theorem dX1_meet_160 : decode cX1_meet 160 = .ok (.iload 7, 2) := by decide +kernel
theorem dX1_meet_162 : decode cX1_meet 162 = .ok (.iadd, 1) := by decide +kernel
theorem dX1_meet_163 : decode cX1_meet 163 = .ok (.putfield 119, 3) := by decide +kernel
theorem dX1_meet_166 : decode cX1_meet 166 = .ok (.aload_n 0, 1) := by decide +kernel
theorem dX1_meet_167 : decode cX1_meet 167 = .ok (.aload_n 2, 1) := by decide +kernel
theorem dX1_meet_168 : decode cX1_meet 168 = .ok (.iload 6, 2) := by decide +kernel
theorem dX1_meet_170 : decode cX1_meet 170 = .ok (.iconst 2, 1) := by decide +kernel
theorem dX1_meet_171 : decode cX1_meet 171 = .ok (.iload 8, 2) := by decide +kernel
theorem dX1_meet_173 : decode cX1_meet 173 = .ok (.imul, 1) := by decide +kernel
theorem dX1_meet_174 : decode cX1_meet 174 = .ok (.invokevirtual 127, 3) := by decide +kernel
theorem dX1_meet_177 : decode cX1_meet 177 = .ok (.aload_n 1, 1) := by decide +kernel
theorem dX1_meet_178 : decode cX1_meet 178 = .ok (.getfield 26, 3) := by decide +kernel
theorem dX1_meet_181 : decode cX1_meet 181 = .ok (.iload 5, 2) := by decide +kernel
theorem dX1_meet_183 : decode cX1_meet 183 = .ok (.aaload, 1) := by decide +kernel
theorem dX1_meet_184 : decode cX1_meet 184 = .ok (.iconst 4, 1) := by decide +kernel
theorem dX1_meet_185 : decode cX1_meet 185 = .ok (.iaload, 1) := by decide +kernel
theorem dX1_meet_186 : decode cX1_meet 186 = .ok (.ifCond .eq 18, 3) := by decide +kernel
theorem dX1_meet_189 : decode cX1_meet 189 = .ok (.aload_n 2, 1) := by decide +kernel
theorem dX1_meet_190 : decode cX1_meet 190 = .ok (.dup, 1) := by decide +kernel
theorem dX1_meet_191 : decode cX1_meet 191 = .ok (.getfield 131, 3) := by decide +kernel
theorem dX1_meet_194 : decode cX1_meet 194 = .ok (.iconst 1, 1) := by decide +kernel
theorem dX1_meet_195 : decode cX1_meet 195 = .ok (.iload 5, 2) := by decide +kernel
theorem dX1_meet_197 : decode cX1_meet 197 = .ok (.ishl, 1) := by decide +kernel
theorem dX1_meet_198 : decode cX1_meet 198 = .ok (.iconst (-1), 1) := by decide +kernel
theorem dX1_meet_199 : decode cX1_meet 199 = .ok (.ixor, 1) := by decide +kernel
theorem dX1_meet_200 : decode cX1_meet 200 = .ok (.iand, 1) := by decide +kernel
theorem dX1_meet_201 : decode cX1_meet 201 = .ok (.putfield 131, 3) := by decide +kernel
theorem dX1_meet_204 : decode cX1_meet 204 = .ok (.return_, 1) := by decide +kernel
def c_X1_meet_j46  (p : Nat) (q1 : Nat) (q2 : Nat) (x3 : Int32) (x7 : Int32) (h : PH) : Option (PH) :=
  nm (setI h q2 6 ((h.1 q2 6) ||| ((1 : Int32) <<< (x3 &&& 31)))) fun h7 =>
  nm (setI h7 q2 2 ((h7.1 q2 2) + x7)) fun h8 =>
  some h8
set_option maxHeartbeats 4000000 in
set_option maxRecDepth 100000 in
theorem w_X1_meet_j46 {p0 : Program} {l : Launch} {e : Env} {s : State} {m : MethodId} {args : Array Value} {below : List Frame} {meth : Method} {c : Code} {Q : State → Prop} {D : va_G} {G : GG} {A : Nat → Prop} {H0 : Heap} {ad : Nat → Nat} {lay : List KK} {X : va_W} {p : Nat} {q1 : Nat} {q2 : Nat} {r0 : PH} {x3 : Int32} {x7 : Int32} {h : PH} {H : Heap} {locs : List Loc} {ls : Array Slot} (hM : CallFix p0 m c cX1_meet 9 s args lw_g RX1) (ho : okX1 lay p) (ho1 : okX9 lay q1) (ho2 : okX8 lay q2) (hR : RtV p0 l e (rmN 4 104) s m args below meth c cX1_meet D G A H0 ad lay X (none) r0 Q 0 0) (hw : Wd D G A H0 ad lay X h s H locs) (hl : lv_has ls 9 [(2, .ref (ad q2)), (3, .int x3), (7, .int x7)]) (hf : c_X1_meet_j46 p q1 q2 x3 x7 h = some r0) : W p0 l e (rmN 4 104) s m args below meth c H locs 0 0 Q (F0 m 46 ls []) := by
  unfold c_X1_meet_j46 at hf
  refine lv_aload_n hM.1 hM.2.1 dX1_meet_46 rfl (lv_at hl 0 rfl) ?_
  refine lv_dup hM.1 hM.2.1 dX1_meet_47 rfl ?_
  refine gf_X8_done hM hw (okX8.o ho2) fl_X1_116 dX1_meet_48 ?_
  refine lv_iconst (v := 1) hM.1 hM.2.1 dX1_meet_51 ic_1 ?_
  refine lv_iload_n hM.1 hM.2.1 dX1_meet_52 rfl (lv_at hl 1 rfl) ?_
  refine lv_ishl hM.1 hM.2.1 dX1_meet_53 ?_
  refine lv_ior hM.1 hM.2.1 dX1_meet_54 ?_
  refine pf_X8_done hM hw (okX8.o ho2) fl_X1_116 hf dX1_meet_55 (fun h7 H locs hf hw => ?_)
  refine lv_aload_n hM.1 hM.2.1 dX1_meet_58 rfl (lv_at hl 0 rfl) ?_
  refine lv_dup hM.1 hM.2.1 dX1_meet_59 rfl ?_
  refine gf_X8_hours hM hw (okX8.o ho2) fl_X1_119 dX1_meet_60 ?_
  refine lv_iload hM.1 hM.2.1 dX1_meet_63 (lv_at hl 2 rfl) ?_
  refine lv_iadd hM.1 hM.2.1 dX1_meet_65 ?_
  refine pf_X8_hours hM hw (okX8.o ho2) fl_X1_119 hf dX1_meet_66 (fun h8 H locs hf hw => ?_)
  exact hR _ _ _ _ _ (Option.some.inj hf) rfl hw dX1_meet_69
def c_X1_meet_j177  (p : Nat) (q1 : Nat) (q2 : Nat) (x5 : Int32) (h : PH) : Option (PH) :=
  gd (ixOK x5 7) <|
  if (h.1 (q1 + 13 + 1 + x5.toNatClampNeg) 4) = 0 then
    some h
  else
    nm (setI h q2 3 ((h.1 q2 3) &&& (((1 : Int32) <<< (x5 &&& 31)) ^^^ (-1)))) fun h20 =>
    some h20
set_option maxHeartbeats 4000000 in
set_option maxRecDepth 100000 in
theorem w_X1_meet_j177 {p0 : Program} {l : Launch} {e : Env} {s : State} {m : MethodId} {args : Array Value} {below : List Frame} {meth : Method} {c : Code} {Q : State → Prop} {D : va_G} {G : GG} {A : Nat → Prop} {H0 : Heap} {ad : Nat → Nat} {lay : List KK} {X : va_W} {p : Nat} {q1 : Nat} {q2 : Nat} {r0 : PH} {x5 : Int32} {h : PH} {H : Heap} {locs : List Loc} {ls : Array Slot} (hM : CallFix p0 m c cX1_meet 9 s args lw_g RX1) (ho : okX1 lay p) (ho1 : okX9 lay q1) (ho2 : okX8 lay q2) (hR : RtV p0 l e (rmN 4 104) s m args below meth c cX1_meet D G A H0 ad lay X (none) r0 Q 0 0) (hw : Wd D G A H0 ad lay X h s H locs) (hl : lv_has ls 9 [(1, .ref (ad q1)), (2, .ref (ad q2)), (5, .int x5)]) (hf : c_X1_meet_j177 p q1 q2 x5 h = some r0) : W p0 l e (rmN 4 104) s m args below meth c H locs 0 0 Q (F0 m 177 ls []) := by
  unfold c_X1_meet_j177 at hf
  refine lv_aload_n hM.1 hM.2.1 dX1_meet_177 rfl (lv_at hl 0 rfl) ?_
  refine gf_X9_excuseRows hM hw (okX9.o ho1) fl_X1_26 dX1_meet_178 ?_
  refine lv_iload hM.1 hM.2.1 dX1_meet_181 (lv_at hl 2 rfl) ?_
  refine x_aaldI hM hw (okX9.excuseRows ho1) hf dX1_meet_183 (fun hi19 hf => ?_)
  refine lv_iconst (v := 4) hM.1 hM.2.1 dX1_meet_184 ic_4 ?_
  refine x_ialdK hM hw (okX9.excuseRows_atI ho1 hi19) 4 (by decide) (by decide) dX1_meet_185 ?_
  refine x_if_eq (tgt := 204) hM hf dX1_meet_186 (by decide) (fun hf => ?_) (fun hf => ?_)
  · exact hR _ _ _ _ _ (Option.some.inj hf) rfl hw dX1_meet_204
  refine lv_aload_n hM.1 hM.2.1 dX1_meet_189 rfl (lv_at hl 1 rfl) ?_
  refine lv_dup hM.1 hM.2.1 dX1_meet_190 rfl ?_
  refine gf_X8_owned hM hw (okX8.o ho2) fl_X1_131 dX1_meet_191 ?_
  refine lv_iconst (v := 1) hM.1 hM.2.1 dX1_meet_194 ic_1 ?_
  refine lv_iload hM.1 hM.2.1 dX1_meet_195 (lv_at hl 2 rfl) ?_
  refine lv_ishl hM.1 hM.2.1 dX1_meet_197 ?_
  refine lv_iconst (v := (-1)) hM.1 hM.2.1 dX1_meet_198 ic_m1 ?_
  refine lv_ixor hM.1 hM.2.1 dX1_meet_199 ?_
  refine lv_iand hM.1 hM.2.1 dX1_meet_200 ?_
  refine pf_X8_owned hM hw (okX8.o ho2) fl_X1_131 hf dX1_meet_201 (fun h20 H locs hf hw => ?_)
  exact hR _ _ _ _ _ (Option.some.inj hf) rfl hw dX1_meet_204
def c_X1_meet (p : Nat) (q1 : Nat) (q2 : Nat) (a3 : Int32) (a4 : Int32) (h : PH) : Option (PH) :=
  gd (ixOK a3 9) <|
  nm (h.1 (q2 + 2) a3.toNatClampNeg) fun v1 =>
  gd (ixOK a3 9) <|
  nm (h.1 (q1 + 21 + 1 + a3.toNatClampNeg) 0) fun v3 =>
  gd (ixOK a3 9) <|
  nm (h.1 (q1 + 21 + 1 + a3.toNatClampNeg) 2) fun v5 =>
  (c_X9_isExcuse q1 v1 h).bind fun r6 =>
  if r6 = 0 then
    c_X1_meet_j46 p q1 q2 a3 v5 h
  else
    (c_X8_owns q2 v1 h).bind fun r9 =>
    if r9 = 0 then
      c_X1_meet_j46 p q1 q2 a3 v5 h
    else
      bind2 (c_X1_wears p q1 q2 v1 v3 v5 a4 h) fun r10 h11 =>
      nm r10 fun v12 =>
      (c_X1_lot a4 (((16 * (h11.1 q2 0)) + 1) + a3)).bind fun r13 =>
      bind2 (c_X1_passes p q1 q2 v1 v3 v5 a4 h11) fun r14 h15 =>
      if r14 ≤ r13 then
        nm (setI h15 q2 5 ((h15.1 q2 5) ||| ((1 : Int32) <<< (a3 &&& 31)))) fun h16 =>
        nm (setI h16 q2 2 ((h16.1 q2 2) + v5)) fun h17 =>
        (c_X1_lose p q2 v3 (2 * v12) h17).bind fun h18 =>
        c_X1_meet_j177 p q1 q2 v1 h18
      else
        nm (setI h15 q2 4 ((h15.1 q2 4) ||| ((1 : Int32) <<< (a3 &&& 31)))) fun h21 =>
        (c_X1_lose p q2 v3 v12 h21).bind fun h22 =>
        c_X1_meet_j177 p q1 q2 v1 h22
set_option maxHeartbeats 4000000 in
set_option maxRecDepth 100000 in
theorem ct_X1_meet (l : Launch) {lay : List KK} {p : Nat} {q1 : Nat} {q2 : Nat} (ho : okX1 lay p) (ho1 : okX9 lay q1) (ho2 : okX8 lay q2) (a3 : Int32) (a4 : Int32) : CtV l yX1_meet cX1_meet 9 (none) 4 104 lay (fun h => c_X1_meet p q1 q2 a3 a4 h) (fun ad => [.ref (ad p), .ref (ad q1), .ref (ad q2), .int a3, .int a4]) := by
  refine CtV.mk' RX1 (by decide) rfl (fun _ => Nat.le_of_ble_eq_true rfl) ?_
  intro p0 e s m args below meth c D G A H0 ad X h r0 H ls Q hM hw hl hf hR
  have hl : lv_has ls 9 [(0, .ref (ad p)), (1, .ref (ad q1)), (2, .ref (ad q2)), (3, .int a3), (4, .int a4)] := hl
  unfold c_X1_meet at hf
  refine lv_aload_n hM.1 hM.2.1 dX1_meet_0 rfl (lv_at hl 2 rfl) ?_
  refine gf_X8_plans hM hw (okX8.o ho2) fl_X1_110 dX1_meet_1 ?_
  refine lv_iload_n hM.1 hM.2.1 dX1_meet_4 rfl (lv_at hl 3 rfl) ?_
  refine x_iald hM hw (okX8.plans ho2) hf dX1_meet_5 (fun hf => ?_)
  refine x_istore hM hf dX1_meet_6 hl (by decide) (fun v1 => [(5, .int v1), (0, .ref (ad p)), (1, .ref (ad q1)), (2, .ref (ad q2)), (3, .int a3), (4, .int a4)]) (fun _ => rfl) (fun v1 ls hf hl => ?_)
  refine lv_aload_n hM.1 hM.2.1 dX1_meet_8 rfl (lv_at hl 2 rfl) ?_
  refine gf_X9_dutyRows hM hw (okX9.o ho1) fl_X1_90 dX1_meet_9 ?_
  refine lv_iload_n hM.1 hM.2.1 dX1_meet_12 rfl (lv_at hl 4 rfl) ?_
  refine x_aaldI hM hw (okX9.dutyRows ho1) hf dX1_meet_13 (fun hi2 hf => ?_)
  refine lv_iconst (v := 0) hM.1 hM.2.1 dX1_meet_14 ic_0 ?_
  refine x_ialdK hM hw (okX9.dutyRows_atI ho1 hi2) 0 (by decide) (by decide) dX1_meet_15 ?_
  refine x_istore hM hf dX1_meet_16 hl (by decide) (fun v3 => [(6, .int v3), (5, .int v1), (0, .ref (ad p)), (1, .ref (ad q1)), (2, .ref (ad q2)), (3, .int a3), (4, .int a4)]) (fun _ => rfl) (fun v3 ls hf hl => ?_)
  refine lv_aload_n hM.1 hM.2.1 dX1_meet_18 rfl (lv_at hl 3 rfl) ?_
  refine gf_X9_dutyRows hM hw (okX9.o ho1) fl_X1_90 dX1_meet_19 ?_
  refine lv_iload_n hM.1 hM.2.1 dX1_meet_22 rfl (lv_at hl 5 rfl) ?_
  refine x_aaldI hM hw (okX9.dutyRows ho1) hf dX1_meet_23 (fun hi4 hf => ?_)
  refine lv_iconst (v := 2) hM.1 hM.2.1 dX1_meet_24 ic_2 ?_
  refine x_ialdK hM hw (okX9.dutyRows_atI ho1 hi4) 2 (by decide) (by decide) dX1_meet_25 ?_
  refine x_istore hM hf dX1_meet_26 hl (by decide) (fun v5 => [(7, .int v5), (6, .int v3), (5, .int v1), (0, .ref (ad p)), (1, .ref (ad q1)), (2, .ref (ad q2)), (3, .int a3), (4, .int a4)]) (fun _ => rfl) (fun v5 ls hf hl => ?_)
  refine lv_aload_n hM.1 hM.2.1 dX1_meet_28 rfl (lv_at hl 4 rfl) ?_
  refine lv_iload hM.1 hM.2.1 dX1_meet_29 (lv_at hl 2 rfl) ?_
  refine x_callVIr (rest := []) hM hw (ct_X9_isExcuse l ho1 v1) [.int v1] (okX9.o ho1) rfl rfl rfl (gi_V ml_X1_55 im_X9_isExcuse sl_X9_isExcuse in_X9 kc_X9_isExcuse) hd_X9_isExcuse rfl ⟨Nat.le_of_ble_eq_true rfl, Nat.le_of_ble_eq_true rfl⟩ rfl (Nat.le_of_ble_eq_true rfl) hl.1 hcs0 hf dX1_meet_31 (fun r6 H locs hf hw => ?_)
  refine x_if_eq (tgt := 46) hM hf dX1_meet_34 (by decide) (fun hf => ?_) (fun hf => ?_)
  · exact w_X1_meet_j46 hM ho ho1 ho2 hR hw (lv_sub hl [5, 6, 0] rfl) hf
  refine lv_aload_n hM.1 hM.2.1 dX1_meet_37 rfl (lv_at hl 5 rfl) ?_
  refine lv_iload hM.1 hM.2.1 dX1_meet_38 (lv_at hl 2 rfl) ?_
  refine x_callVIr (rest := []) hM hw (ct_X8_owns l ho2 v1) [.int v1] (okX8.o ho2) rfl rfl rfl (gi_V ml_X1_113 im_X8_owns sl_X8_owns in_X8 kc_X8_owns) hd_X8_owns rfl ⟨Nat.le_of_ble_eq_true rfl, Nat.le_of_ble_eq_true rfl⟩ rfl (Nat.le_of_ble_eq_true rfl) hl.1 hcs0 hf dX1_meet_40 (fun r9 H locs hf hw => ?_)
  refine x_if_ne (tgt := 70) hM hf dX1_meet_43 (by decide) (fun hf => ?_) (fun hf => ?_)
  · refine lv_aload_n hM.1 hM.2.1 dX1_meet_70 rfl (lv_at hl 3 rfl) ?_
    refine lv_aload_n hM.1 hM.2.1 dX1_meet_71 rfl (lv_at hl 4 rfl) ?_
    refine lv_aload_n hM.1 hM.2.1 dX1_meet_72 rfl (lv_at hl 5 rfl) ?_
    refine lv_iload hM.1 hM.2.1 dX1_meet_73 (lv_at hl 2 rfl) ?_
    refine lv_iload hM.1 hM.2.1 dX1_meet_75 (lv_at hl 1 rfl) ?_
    refine lv_iload hM.1 hM.2.1 dX1_meet_77 (lv_at hl 0 rfl) ?_
    refine lv_iload hM.1 hM.2.1 dX1_meet_79 (lv_at hl 7 rfl) ?_
    refine x_callVI (rest := []) hM hw (ct_X1_wears l ho ho1 ho2 v1 v3 v5 a4) [.ref (ad q1), .ref (ad q2), .int v1, .int v3, .int v5, .int a4] (okX1.o ho) rfl rfl rfl (gi_V ml_X1_122 im_X1_wears sl_X1_wears in_X1 kc_X1_wears) hd_X1_wears rfl ⟨Nat.le_of_ble_eq_true rfl, Nat.le_of_ble_eq_true rfl⟩ rfl (Nat.le_of_ble_eq_true rfl) hl.1 hcs0 hf dX1_meet_81 (fun r10 h11 H locs hf hw => ?_)
    refine x_istore hM hf dX1_meet_84 hl (by decide) (fun v12 => [(8, .int v12), (7, .int v5), (6, .int v3), (5, .int v1), (0, .ref (ad p)), (1, .ref (ad q1)), (2, .ref (ad q2)), (3, .int a3), (4, .int a4)]) (fun _ => rfl) (fun v12 ls hf hl => ?_)
    refine lv_iload hM.1 hM.2.1 dX1_meet_86 (lv_at hl 8 rfl) ?_
    refine lv_bipush (v := 16) hM.1 hM.2.1 dX1_meet_88 (by decide) ?_
    refine lv_aload_n hM.1 hM.2.1 dX1_meet_90 rfl (lv_at hl 6 rfl) ?_
    refine gf_X8_today hM hw (okX8.o ho2) fl_X1_36 dX1_meet_91 ?_
    refine lv_imul hM.1 hM.2.1 dX1_meet_94 ?_
    refine lv_iconst (v := 1) hM.1 hM.2.1 dX1_meet_95 ic_1 ?_
    refine lv_iadd hM.1 hM.2.1 dX1_meet_96 ?_
    refine lv_iload_n hM.1 hM.2.1 dX1_meet_97 rfl (lv_at hl 7 rfl) ?_
    refine lv_iadd hM.1 hM.2.1 dX1_meet_98 ?_
    refine x_callSIr (rest := []) hM hw (ct_X1_lot l a4 (((16 * (h11.1 q2 0)) + 1) + a3)) [.int a4, .int (((16 * (h11.1 q2 0)) + 1) + a3)] rfl (gi_S ml_X1_16 sm_X1_lot in_X1 kc_X1_lot) hd_X1_lot rfl ⟨Nat.le_of_ble_eq_true rfl, Nat.le_of_ble_eq_true rfl⟩ rfl (Nat.le_of_ble_eq_true rfl) hl.1 hcs0 hf dX1_meet_99 (fun r13 H locs hf hw => ?_)
    refine lv_aload_n hM.1 hM.2.1 dX1_meet_102 rfl (lv_at hl 4 rfl) ?_
    refine lv_aload_n hM.1 hM.2.1 dX1_meet_103 rfl (lv_at hl 5 rfl) ?_
    refine lv_aload_n hM.1 hM.2.1 dX1_meet_104 rfl (lv_at hl 6 rfl) ?_
    refine lv_iload hM.1 hM.2.1 dX1_meet_105 (lv_at hl 3 rfl) ?_
    refine lv_iload hM.1 hM.2.1 dX1_meet_107 (lv_at hl 2 rfl) ?_
    refine lv_iload hM.1 hM.2.1 dX1_meet_109 (lv_at hl 1 rfl) ?_
    refine lv_iload hM.1 hM.2.1 dX1_meet_111 (lv_at hl 8 rfl) ?_
    refine x_callVI (rest := [.int r13]) hM hw (ct_X1_passes l ho ho1 ho2 v1 v3 v5 a4) [.ref (ad q1), .ref (ad q2), .int v1, .int v3, .int v5, .int a4] (okX1.o ho) rfl rfl rfl (gi_V ml_X1_125 im_X1_passes sl_X1_passes in_X1 kc_X1_passes) hd_X1_passes rfl ⟨Nat.le_of_ble_eq_true rfl, Nat.le_of_ble_eq_true rfl⟩ rfl (Nat.le_of_ble_eq_true rfl) hl.1 hcs0 hf dX1_meet_113 (fun r14 h15 H locs hf hw => ?_)
    refine x_ic_ge (tgt := 143) hM hf dX1_meet_116 (by decide) (fun hf => ?_) (fun hf => ?_)
    · refine lv_aload_n hM.1 hM.2.1 dX1_meet_143 rfl (lv_at hl 6 rfl) ?_
      refine lv_dup hM.1 hM.2.1 dX1_meet_144 rfl ?_
      refine gf_X8_caught hM hw (okX8.o ho2) fl_X1_42 dX1_meet_145 ?_
      refine lv_iconst (v := 1) hM.1 hM.2.1 dX1_meet_148 ic_1 ?_
      refine lv_iload_n hM.1 hM.2.1 dX1_meet_149 rfl (lv_at hl 7 rfl) ?_
      refine lv_ishl hM.1 hM.2.1 dX1_meet_150 ?_
      refine lv_ior hM.1 hM.2.1 dX1_meet_151 ?_
      refine pf_X8_caught hM hw (okX8.o ho2) fl_X1_42 hf dX1_meet_152 (fun h16 H locs hf hw => ?_)
      refine lv_aload_n hM.1 hM.2.1 dX1_meet_155 rfl (lv_at hl 6 rfl) ?_
      refine lv_dup hM.1 hM.2.1 dX1_meet_156 rfl ?_
      refine gf_X8_hours hM hw (okX8.o ho2) fl_X1_119 dX1_meet_157 ?_
      refine lv_iload hM.1 hM.2.1 dX1_meet_160 (lv_at hl 1 rfl) ?_
      refine lv_iadd hM.1 hM.2.1 dX1_meet_162 ?_
      refine pf_X8_hours hM hw (okX8.o ho2) fl_X1_119 hf dX1_meet_163 (fun h17 H locs hf hw => ?_)
      refine lv_aload_n hM.1 hM.2.1 dX1_meet_166 rfl (lv_at hl 4 rfl) ?_
      refine lv_aload_n hM.1 hM.2.1 dX1_meet_167 rfl (lv_at hl 6 rfl) ?_
      refine lv_iload hM.1 hM.2.1 dX1_meet_168 (lv_at hl 2 rfl) ?_
      refine lv_iconst (v := 2) hM.1 hM.2.1 dX1_meet_170 ic_2 ?_
      refine lv_iload hM.1 hM.2.1 dX1_meet_171 (lv_at hl 0 rfl) ?_
      refine lv_imul hM.1 hM.2.1 dX1_meet_173 ?_
      refine x_callVV (rest := []) hM hw (ct_X1_lose l ho ho2 v3 (2 * v12)) [.ref (ad q2), .int v3, .int (2 * v12)] (okX1.o ho) rfl rfl rfl (gi_V ml_X1_127 im_X1_lose sl_X1_lose in_X1 kc_X1_lose) hd_X1_lose rfl ⟨Nat.le_of_ble_eq_true rfl, Nat.le_of_ble_eq_true rfl⟩ rfl (Nat.le_of_ble_eq_true rfl) hl.1 hcs0 hf dX1_meet_174 (fun h18 H locs hf hw => ?_)
      exact w_X1_meet_j177 hM ho ho1 ho2 hR hw (lv_sub hl [5, 6, 3] rfl) hf
    refine lv_aload_n hM.1 hM.2.1 dX1_meet_119 rfl (lv_at hl 6 rfl) ?_
    refine lv_dup hM.1 hM.2.1 dX1_meet_120 rfl ?_
    refine gf_X8_freed hM hw (okX8.o ho2) fl_X1_39 dX1_meet_121 ?_
    refine lv_iconst (v := 1) hM.1 hM.2.1 dX1_meet_124 ic_1 ?_
    refine lv_iload_n hM.1 hM.2.1 dX1_meet_125 rfl (lv_at hl 7 rfl) ?_
    refine lv_ishl hM.1 hM.2.1 dX1_meet_126 ?_
    refine lv_ior hM.1 hM.2.1 dX1_meet_127 ?_
    refine pf_X8_freed hM hw (okX8.o ho2) fl_X1_39 hf dX1_meet_128 (fun h21 H locs hf hw => ?_)
    refine lv_aload_n hM.1 hM.2.1 dX1_meet_131 rfl (lv_at hl 4 rfl) ?_
    refine lv_aload_n hM.1 hM.2.1 dX1_meet_132 rfl (lv_at hl 6 rfl) ?_
    refine lv_iload hM.1 hM.2.1 dX1_meet_133 (lv_at hl 2 rfl) ?_
    refine lv_iload hM.1 hM.2.1 dX1_meet_135 (lv_at hl 0 rfl) ?_
    refine x_callVV (rest := []) hM hw (ct_X1_lose l ho ho2 v3 v12) [.ref (ad q2), .int v3, .int v12] (okX1.o ho) rfl rfl rfl (gi_V ml_X1_127 im_X1_lose sl_X1_lose in_X1 kc_X1_lose) hd_X1_lose rfl ⟨Nat.le_of_ble_eq_true rfl, Nat.le_of_ble_eq_true rfl⟩ rfl (Nat.le_of_ble_eq_true rfl) hl.1 hcs0 hf dX1_meet_137 (fun h22 H locs hf hw => ?_)
    refine lv_goto (tgt := 177) hM.1 hM.2.1 dX1_meet_140 (by decide) ?_
    exact w_X1_meet_j177 hM ho ho1 ho2 hR hw (lv_sub hl [5, 6, 3] rfl) hf
  exact w_X1_meet_j46 hM ho ho1 ho2 hR hw (lv_sub hl [5, 6, 0] rfl) hf
theorem hd_X1_meet : yX1_meet.cls = RX1 ∧ yX1_meet.cls ≠ "java/lang/invoke/MethodHandle" ∧ yX1_meet.cls ≠ "java/lang/invoke/VarHandle" ∧ (parseMethodDescriptor yX1_meet.desc).map (fun d => d.parameters.length) = some 4 := ⟨rfl, by decide, by decide, by decide +kernel⟩
theorem dX1_mend_0 : decode cX1_mend 0 = .ok (.iconst 0, 1) := by decide +kernel
theorem dX1_mend_1 : decode cX1_mend 1 = .ok (.istore 4, 2) := by decide +kernel
theorem dX1_mend_3 : decode cX1_mend 3 = .ok (.iload 4, 2) := by decide +kernel
theorem dX1_mend_5 : decode cX1_mend 5 = .ok (.aload_n 1, 1) := by decide +kernel
theorem dX1_mend_6 : decode cX1_mend 6 = .ok (.getfield 104, 3) := by decide +kernel
theorem dX1_mend_9 : decode cX1_mend 9 = .ok (.if_icmp .ge 40, 3) := by decide +kernel
theorem dX1_mend_12 : decode cX1_mend 12 = .ok (.aload_n 2, 1) := by decide +kernel
theorem dX1_mend_13 : decode cX1_mend 13 = .ok (.getfield 49, 3) := by decide +kernel
theorem dX1_mend_16 : decode cX1_mend 16 = .ok (.iload 4, 2) := by decide +kernel
theorem dX1_mend_18 : decode cX1_mend 18 = .ok (.bipush 99, 2) := by decide +kernel
theorem dX1_mend_20 : decode cX1_mend 20 = .ok (.aload_n 2, 1) := by decide +kernel
theorem dX1_mend_21 : decode cX1_mend 21 = .ok (.getfield 49, 3) := by decide +kernel
theorem dX1_mend_24 : decode cX1_mend 24 = .ok (.iload 4, 2) := by decide +kernel
theorem dX1_mend_26 : decode cX1_mend 26 = .ok (.iaload, 1) := by decide +kernel
theorem dX1_mend_27 : decode cX1_mend 27 = .ok (.iload_n 3, 1) := by decide +kernel
theorem dX1_mend_28 : decode cX1_mend 28 = .ok (.aload_n 1, 1) := by decide +kernel
theorem dX1_mend_29 : decode cX1_mend 29 = .ok (.getfield 107, 3) := by decide +kernel
theorem dX1_mend_32 : decode cX1_mend 32 = .ok (.iload 4, 2) := by decide +kernel
theorem dX1_mend_34 : decode cX1_mend 34 = .ok (.aaload, 1) := by decide +kernel
theorem dX1_mend_35 : decode cX1_mend 35 = .ok (.iconst 1, 1) := by decide +kernel
theorem dX1_mend_36 : decode cX1_mend 36 = .ok (.iaload, 1) := by decide +kernel
theorem dX1_mend_37 : decode cX1_mend 37 = .ok (.imul, 1) := by decide +kernel
theorem dX1_mend_38 : decode cX1_mend 38 = .ok (.iadd, 1) := by decide +kernel
theorem dX1_mend_39 : decode cX1_mend 39 = .ok (.invokestatic 76, 3) := by decide +kernel
theorem dX1_mend_42 : decode cX1_mend 42 = .ok (.iastore, 1) := by decide +kernel
theorem dX1_mend_43 : decode cX1_mend 43 = .ok (.iinc 4 1, 3) := by decide +kernel
theorem dX1_mend_46 : decode cX1_mend 46 = .ok (.goto (-43), 3) := by decide +kernel
theorem dX1_mend_49 : decode cX1_mend 49 = .ok (.aload_n 2, 1) := by decide +kernel
theorem dX1_mend_50 : decode cX1_mend 50 = .ok (.dup, 1) := by decide +kernel
theorem dX1_mend_51 : decode cX1_mend 51 = .ok (.getfield 36, 3) := by decide +kernel
theorem dX1_mend_54 : decode cX1_mend 54 = .ok (.iload_n 3, 1) := by decide +kernel
theorem dX1_mend_55 : decode cX1_mend 55 = .ok (.iadd, 1) := by decide +kernel
theorem dX1_mend_56 : decode cX1_mend 56 = .ok (.putfield 36, 3) := by decide +kernel
theorem dX1_mend_59 : decode cX1_mend 59 = .ok (.return_, 1) := by decide +kernel
def c_X1_mend_L3b {ρ : Type}  (p : Nat) (q1 : Nat) (q2 : Nat) (z3 : Int32) (K1 : PH → Option ρ) (REC : Int32 → PH → Option ρ) (x4 : Int32) (h : PH) : Option ρ :=
  if (h.1 q1 0) ≤ x4 then
    K1 h
  else
    gd (ixOK x4 5) <|
    gd (ixOK x4 5) <|
    gd (ixOK x4 5) <| nm (setI h (q2 + 1) x4.toNatClampNeg (jmin 99 ((h.1 (q2 + 1) x4.toNatClampNeg) + (z3 * (h.1 (q1 + 7 + 1 + x4.toNatClampNeg) 1))))) fun h3 =>
    nm (x4 + 1) fun v4 =>
    REC v4 h3
set_option maxHeartbeats 4000000 in
set_option maxRecDepth 100000 in
theorem w_X1_mend_L3b {p0 : Program} {l : Launch} {e : Env} {s : State} {m : MethodId} {args : Array Value} {below : List Frame} {meth : Method} {c : Code} {Q : State → Prop} {D : va_G} {G : GG} {A : Nat → Prop} {H0 : Heap} {ad : Nat → Nat} {lay : List KK} {X : va_W} {ρ : Type} {p : Nat} {q1 : Nat} {q2 : Nat} {r0 : ρ} {z3 : Int32} {x4 : Int32} {h : PH} {H : Heap} {locs : List Loc} {ls : Array Slot} {K1 : PH → Option ρ} {REC : Int32 → PH → Option ρ} (hM : CallFix p0 m c cX1_mend 5 s args lw_g RX1) (ho : okX1 lay p) (ho1 : okX9 lay q1) (ho2 : okX8 lay q2) (hk1 : ∀ (h : PH), ∀ (H : Heap) (locs : List Loc) (ls : Array Slot), K1 h = some r0 → Wd D G A H0 ad lay X h s H locs → lv_has ls 5 [(2, .ref (ad q2)), (3, .int z3)] → W p0 l e (rmN 1 21) s m args below meth c H locs 0 0 Q (F0 m 49 ls [])) (hrec : ∀ (x4 : Int32) (h : PH), ∀ (H : Heap) (locs : List Loc) (ls : Array Slot), REC x4 h = some r0 → Wd D G A H0 ad lay X h s H locs → lv_has ls 5 [(1, .ref (ad q1)), (2, .ref (ad q2)), (3, .int z3), (4, .int x4)] → W p0 l e (rmN 1 21) s m args below meth c H locs 0 0 Q (F0 m 3 ls [])) (hw : Wd D G A H0 ad lay X h s H locs) (hl : lv_has ls 5 [(1, .ref (ad q1)), (2, .ref (ad q2)), (3, .int z3), (4, .int x4)]) (hf : c_X1_mend_L3b p q1 q2 z3 K1 REC x4 h = some r0) : W p0 l e (rmN 1 21) s m args below meth c H locs 0 0 Q (F0 m 3 ls []) := by
  unfold c_X1_mend_L3b at hf
  refine lv_iload hM.1 hM.2.1 dX1_mend_3 (lv_at hl 3 rfl) ?_
  refine lv_aload_n hM.1 hM.2.1 dX1_mend_5 rfl (lv_at hl 0 rfl) ?_
  refine gf_X9_men hM hw (okX9.o ho1) fl_X1_104 dX1_mend_6 ?_
  refine x_ic_ge (tgt := 49) hM hf dX1_mend_9 (by decide) (fun hf => ?_) (fun hf => ?_)
  · exact hk1 _ _ _ _ hf hw (lv_sub hl [1, 2] rfl)
  refine lv_aload_n hM.1 hM.2.1 dX1_mend_12 rfl (lv_at hl 1 rfl) ?_
  refine gf_X8_trustOf hM hw (okX8.o ho2) fl_X1_49 dX1_mend_13 ?_
  refine lv_iload hM.1 hM.2.1 dX1_mend_16 (lv_at hl 3 rfl) ?_
  refine lv_bipush (v := 99) hM.1 hM.2.1 dX1_mend_18 (by decide) ?_
  refine lv_aload_n hM.1 hM.2.1 dX1_mend_20 rfl (lv_at hl 1 rfl) ?_
  refine gf_X8_trustOf hM hw (okX8.o ho2) fl_X1_49 dX1_mend_21 ?_
  refine lv_iload hM.1 hM.2.1 dX1_mend_24 (lv_at hl 3 rfl) ?_
  refine x_iald hM hw (okX8.trustOf ho2) hf dX1_mend_26 (fun hf => ?_)
  refine lv_iload_n hM.1 hM.2.1 dX1_mend_27 rfl (lv_at hl 2 rfl) ?_
  refine lv_aload_n hM.1 hM.2.1 dX1_mend_28 rfl (lv_at hl 0 rfl) ?_
  refine gf_X9_manRows hM hw (okX9.o ho1) fl_X1_107 dX1_mend_29 ?_
  refine lv_iload hM.1 hM.2.1 dX1_mend_32 (lv_at hl 3 rfl) ?_
  refine x_aaldI hM hw (okX9.manRows ho1) hf dX1_mend_34 (fun hi2 hf => ?_)
  refine lv_iconst (v := 1) hM.1 hM.2.1 dX1_mend_35 ic_1 ?_
  refine x_ialdK hM hw (okX9.manRows_atI ho1 hi2) 1 (by decide) (by decide) dX1_mend_36 ?_
  refine lv_imul hM.1 hM.2.1 dX1_mend_37 ?_
  refine lv_iadd hM.1 hM.2.1 dX1_mend_38 ?_
  refine x_mmin hM hl.1 hcs0 ml_X1_76 sm_J9_min_7cf53 in_J9 kc_J9_min_7cf53 (Nat.le_of_ble_eq_true rfl) (Nat.le_of_ble_eq_true rfl) dX1_mend_39 ?_
  refine x_iast hM hw (okX8.trustOf ho2) hf dX1_mend_42 (fun h3 H locs hf hw => ?_)
  refine x_iinc (k := 3) (d := 1) hM hf dX1_mend_43 hl rfl (by decide) (by decide) (fun v4 => [(4, .int v4), (1, .ref (ad q1)), (2, .ref (ad q2)), (3, .int z3)]) (fun _ => rfl) (fun v4 ls hf hl => ?_)
  refine lv_goto (tgt := 3) hM.1 hM.2.1 dX1_mend_46 (by decide) ?_
  exact hrec _ _ _ _ _ hf hw (lv_sub hl [1, 2, 3, 0] rfl)
set_option maxHeartbeats 4000000 in
set_option maxRecDepth 100000 in
theorem w_X1_mend_L3 {p0 : Program} {l : Launch} {e : Env} {s : State} {m : MethodId} {args : Array Value} {below : List Frame} {meth : Method} {c : Code} {Q : State → Prop} {D : va_G} {G : GG} {A : Nat → Prop} {H0 : Heap} {ad : Nat → Nat} {lay : List KK} {X : va_W} {ρ : Type} {p : Nat} {q1 : Nat} {q2 : Nat} {r0 : ρ} {z3 : Int32} {K1 : PH → Option ρ} (hM : CallFix p0 m c cX1_mend 5 s args lw_g RX1) (ho : okX1 lay p) (ho1 : okX9 lay q1) (ho2 : okX8 lay q2) (hk1 : ∀ (h : PH), ∀ (H : Heap) (locs : List Loc) (ls : Array Slot), K1 h = some r0 → Wd D G A H0 ad lay X h s H locs → lv_has ls 5 [(2, .ref (ad q2)), (3, .int z3)] → W p0 l e (rmN 1 21) s m args below meth c H locs 0 0 Q (F0 m 49 ls [])) (n : Nat) (x4 : Int32) (h : PH) (hf : lq2 (c_X1_mend_L3b p q1 q2 z3 K1) n x4 h = some r0) : ∀ (H : Heap) (locs : List Loc) (ls : Array Slot), Wd D G A H0 ad lay X h s H locs → lv_has ls 5 [(1, .ref (ad q1)), (2, .ref (ad q2)), (3, .int z3), (4, .int x4)] → W p0 l e (rmN 1 21) s m args below meth c H locs 0 0 Q (F0 m 3 ls []) := by
  exact lq2_i (fun (x4 : Int32) (h : PH) => ∀ (H : Heap) (locs : List Loc) (ls : Array Slot), Wd D G A H0 ad lay X h s H locs → lv_has ls 5 [(1, .ref (ad q1)), (2, .ref (ad q2)), (3, .int z3), (4, .int x4)] → W p0 l e (rmN 1 21) s m args below meth c H locs 0 0 Q (F0 m 3 ls [])) (fun REC x4 h ih hf H locs ls hw hl => w_X1_mend_L3b hM ho ho1 ho2 hk1 (fun x4 h H locs ls hf hw hl => ih x4 h hf H locs ls hw hl) hw hl hf) n x4 h hf
def c_X1_mend (p : Nat) (q1 : Nat) (q2 : Nat) (a3 : Int32) (h : PH) : Option (PH) :=
  nm (0 : Int32) fun v1 =>
  lq2 (c_X1_mend_L3b p q1 q2 a3
    (fun h5 =>
      nm (setI h5 q2 0 ((h5.1 q2 0) + a3)) fun h6 =>
      some h6)) fu v1 h
set_option maxHeartbeats 4000000 in
set_option maxRecDepth 100000 in
theorem ct_X1_mend (l : Launch) {lay : List KK} {p : Nat} {q1 : Nat} {q2 : Nat} (ho : okX1 lay p) (ho1 : okX9 lay q1) (ho2 : okX8 lay q2) (a3 : Int32) : CtV l yX1_mend cX1_mend 5 (none) 1 21 lay (fun h => c_X1_mend p q1 q2 a3 h) (fun ad => [.ref (ad p), .ref (ad q1), .ref (ad q2), .int a3]) := by
  refine CtV.mk' RX1 (by decide) rfl (fun _ => Nat.le_of_ble_eq_true rfl) ?_
  intro p0 e s m args below meth c D G A H0 ad X h r0 H ls Q hM hw hl hf hR
  have hl : lv_has ls 5 [(0, .ref (ad p)), (1, .ref (ad q1)), (2, .ref (ad q2)), (3, .int a3)] := hl
  unfold c_X1_mend at hf
  refine lv_iconst (v := 0) hM.1 hM.2.1 dX1_mend_0 ic_0 ?_
  refine x_istore hM hf dX1_mend_1 hl (by decide) (fun v1 => [(4, .int v1), (0, .ref (ad p)), (1, .ref (ad q1)), (2, .ref (ad q2)), (3, .int a3)]) (fun _ => rfl) (fun v1 ls hf hl => ?_)
  refine w_X1_mend_L3 hM ho ho1 ho2 (fun h5 H locs ls hf hw hl => ?_) fu _ _ hf _ _ _ hw (lv_sub hl [2, 3, 4, 0] rfl)
  refine lv_aload_n hM.1 hM.2.1 dX1_mend_49 rfl (lv_at hl 0 rfl) ?_
  refine lv_dup hM.1 hM.2.1 dX1_mend_50 rfl ?_
  refine gf_X8_today hM hw (okX8.o ho2) fl_X1_36 dX1_mend_51 ?_
  refine lv_iload_n hM.1 hM.2.1 dX1_mend_54 rfl (lv_at hl 1 rfl) ?_
  refine lv_iadd hM.1 hM.2.1 dX1_mend_55 ?_
  refine pf_X8_today hM hw (okX8.o ho2) fl_X1_36 hf dX1_mend_56 (fun h6 H locs hf hw => ?_)
  exact hR _ _ _ _ _ (Option.some.inj hf) rfl hw dX1_mend_59
theorem hd_X1_mend : yX1_mend.cls = RX1 ∧ yX1_mend.cls ≠ "java/lang/invoke/MethodHandle" ∧ yX1_mend.cls ≠ "java/lang/invoke/VarHandle" ∧ (parseMethodDescriptor yX1_mend.desc).map (fun d => d.parameters.length) = some 3 := ⟨rfl, by decide, by decide, by decide +kernel⟩
theorem dX1_goBy_0 : decode cX1_goBy 0 = .ok (.iconst 0, 1) := by decide +kernel
theorem dX1_goBy_1 : decode cX1_goBy 1 = .ok (.istore 5, 2) := by decide +kernel
theorem dX1_goBy_3 : decode cX1_goBy 3 = .ok (.iload 5, 2) := by decide +kernel
theorem dX1_goBy_5 : decode cX1_goBy 5 = .ok (.iload_n 3, 1) := by decide +kernel
theorem dX1_goBy_6 : decode cX1_goBy 6 = .ok (.if_icmp .ge 69, 3) := by decide +kernel
theorem dX1_goBy_9 : decode cX1_goBy 9 = .ok (.iconst 0, 1) := by decide +kernel
theorem dX1_goBy_10 : decode cX1_goBy 10 = .ok (.istore 6, 2) := by decide +kernel
theorem dX1_goBy_12 : decode cX1_goBy 12 = .ok (.iload 6, 2) := by decide +kernel
theorem dX1_goBy_14 : decode cX1_goBy 14 = .ok (.aload_n 1, 1) := by decide +kernel
theorem dX1_goBy_15 : decode cX1_goBy 15 = .ok (.getfield 87, 3) := by decide +kernel
theorem dX1_goBy_18 : decode cX1_goBy 18 = .ok (.if_icmp .ge 44, 3) := by decide +kernel
theorem dX1_goBy_21 : decode cX1_goBy 21 = .ok (.aload_n 1, 1) := by decide +kernel
theorem dX1_goBy_22 : decode cX1_goBy 22 = .ok (.getfield 90, 3) := by decide +kernel
theorem dX1_goBy_25 : decode cX1_goBy 25 = .ok (.iload 6, 2) := by decide +kernel
theorem dX1_goBy_27 : decode cX1_goBy 27 = .ok (.aaload, 1) := by decide +kernel
theorem dX1_goBy_28 : decode cX1_goBy 28 = .ok (.iconst 1, 1) := by decide +kernel
theorem dX1_goBy_29 : decode cX1_goBy 29 = .ok (.iaload, 1) := by decide +kernel
theorem dX1_goBy_30 : decode cX1_goBy 30 = .ok (.aload_n 2, 1) := by decide +kernel
theorem dX1_goBy_31 : decode cX1_goBy 31 = .ok (.getfield 36, 3) := by decide +kernel
theorem dX1_goBy_34 : decode cX1_goBy 34 = .ok (.if_icmp .ne 22, 3) := by decide +kernel
theorem dX1_goBy_37 : decode cX1_goBy 37 = .ok (.aload_n 2, 1) := by decide +kernel
theorem dX1_goBy_38 : decode cX1_goBy 38 = .ok (.iload 6, 2) := by decide +kernel
theorem dX1_goBy_40 : decode cX1_goBy 40 = .ok (.invokevirtual 93, 3) := by decide +kernel
theorem dX1_goBy_43 : decode cX1_goBy 43 = .ok (.ifCond .ne 13, 3) := by decide +kernel
theorem dX1_goBy_46 : decode cX1_goBy 46 = .ok (.aload_n 0, 1) := by decide +kernel
theorem dX1_goBy_47 : decode cX1_goBy 47 = .ok (.aload_n 1, 1) := by decide +kernel
theorem dX1_goBy_48 : decode cX1_goBy 48 = .ok (.aload_n 2, 1) := by decide +kernel
theorem dX1_goBy_49 : decode cX1_goBy 49 = .ok (.iload 6, 2) := by decide +kernel
theorem dX1_goBy_51 : decode cX1_goBy 51 = .ok (.iload 4, 2) := by decide +kernel
theorem dX1_goBy_53 : decode cX1_goBy 53 = .ok (.invokevirtual 96, 3) := by decide +kernel
theorem dX1_goBy_56 : decode cX1_goBy 56 = .ok (.iinc 6 1, 3) := by decide +kernel
theorem dX1_goBy_59 : decode cX1_goBy 59 = .ok (.goto (-47), 3) := by decide +kernel
theorem dX1_goBy_62 : decode cX1_goBy 62 = .ok (.aload_n 0, 1) := by decide +kernel
theorem dX1_goBy_63 : decode cX1_goBy 63 = .ok (.aload_n 1, 1) := by decide +kernel
theorem dX1_goBy_64 : decode cX1_goBy 64 = .ok (.aload_n 2, 1) := by decide +kernel
theorem dX1_goBy_65 : decode cX1_goBy 65 = .ok (.iconst 1, 1) := by decide +kernel
theorem dX1_goBy_66 : decode cX1_goBy 66 = .ok (.invokevirtual 100, 3) := by decide +kernel
theorem dX1_goBy_69 : decode cX1_goBy 69 = .ok (.iinc 5 1, 3) := by decide +kernel
theorem dX1_goBy_72 : decode cX1_goBy 72 = .ok (.goto (-69), 3) := by decide +kernel
theorem dX1_goBy_75 : decode cX1_goBy 75 = .ok (.return_, 1) := by decide +kernel
def c_X1_goBy_L12b {ρ : Type}  (p : Nat) (q1 : Nat) (q2 : Nat) (z3 : Int32) (z4 : Int32) (z5 : Int32) (K1 : PH → Option ρ) (REC : Int32 → PH → Option ρ) (x6 : Int32) (h : PH) : Option ρ :=
  if (h.1 q1 2) ≤ x6 then
    K1 h
  else
    gd (ixOK x6 9) <|
    if (h.1 (q1 + 21 + 1 + x6.toNatClampNeg) 1) = (h.1 q2 0) then
      (c_X8_isOver q2 x6 h).bind fun r5 =>
      if r5 = 0 then
        (c_X1_meet p q1 q2 x6 z4 h).bind fun h7 =>
        nm (x6 + 1) fun v8 =>
        REC v8 h7
      else
        nm (x6 + 1) fun v6 =>
        REC v6 h
    else
      nm (x6 + 1) fun v4 =>
      REC v4 h
set_option maxHeartbeats 4000000 in
set_option maxRecDepth 100000 in
theorem w_X1_goBy_L12b {p0 : Program} {l : Launch} {e : Env} {s : State} {m : MethodId} {args : Array Value} {below : List Frame} {meth : Method} {c : Code} {Q : State → Prop} {D : va_G} {G : GG} {A : Nat → Prop} {H0 : Heap} {ad : Nat → Nat} {lay : List KK} {X : va_W} {ρ : Type} {p : Nat} {q1 : Nat} {q2 : Nat} {r0 : ρ} {z3 : Int32} {z4 : Int32} {z5 : Int32} {x6 : Int32} {h : PH} {H : Heap} {locs : List Loc} {ls : Array Slot} {K1 : PH → Option ρ} {REC : Int32 → PH → Option ρ} (hM : CallFix p0 m c cX1_goBy 7 s args lw_g RX1) (ho : okX1 lay p) (ho1 : okX9 lay q1) (ho2 : okX8 lay q2) (hk1 : ∀ (h : PH), ∀ (H : Heap) (locs : List Loc) (ls : Array Slot), K1 h = some r0 → Wd D G A H0 ad lay X h s H locs → lv_has ls 7 [(0, .ref (ad p)), (1, .ref (ad q1)), (2, .ref (ad q2)), (3, .int z3), (4, .int z4), (5, .int z5)] → W p0 l e (rmN 5 132) s m args below meth c H locs 0 0 Q (F0 m 62 ls [])) (hrec : ∀ (x6 : Int32) (h : PH), ∀ (H : Heap) (locs : List Loc) (ls : Array Slot), REC x6 h = some r0 → Wd D G A H0 ad lay X h s H locs → lv_has ls 7 [(0, .ref (ad p)), (1, .ref (ad q1)), (2, .ref (ad q2)), (3, .int z3), (4, .int z4), (5, .int z5), (6, .int x6)] → W p0 l e (rmN 5 132) s m args below meth c H locs 0 0 Q (F0 m 12 ls [])) (hw : Wd D G A H0 ad lay X h s H locs) (hl : lv_has ls 7 [(0, .ref (ad p)), (1, .ref (ad q1)), (2, .ref (ad q2)), (3, .int z3), (4, .int z4), (5, .int z5), (6, .int x6)]) (hf : c_X1_goBy_L12b p q1 q2 z3 z4 z5 K1 REC x6 h = some r0) : W p0 l e (rmN 5 132) s m args below meth c H locs 0 0 Q (F0 m 12 ls []) := by
  unfold c_X1_goBy_L12b at hf
  refine lv_iload hM.1 hM.2.1 dX1_goBy_12 (lv_at hl 6 rfl) ?_
  refine lv_aload_n hM.1 hM.2.1 dX1_goBy_14 rfl (lv_at hl 1 rfl) ?_
  refine gf_X9_duties hM hw (okX9.o ho1) fl_X1_87 dX1_goBy_15 ?_
  refine x_ic_ge (tgt := 62) hM hf dX1_goBy_18 (by decide) (fun hf => ?_) (fun hf => ?_)
  · exact hk1 _ _ _ _ hf hw (lv_sub hl [0, 1, 2, 3, 4, 5] rfl)
  refine lv_aload_n hM.1 hM.2.1 dX1_goBy_21 rfl (lv_at hl 1 rfl) ?_
  refine gf_X9_dutyRows hM hw (okX9.o ho1) fl_X1_90 dX1_goBy_22 ?_
  refine lv_iload hM.1 hM.2.1 dX1_goBy_25 (lv_at hl 6 rfl) ?_
  refine x_aaldI hM hw (okX9.dutyRows ho1) hf dX1_goBy_27 (fun hi3 hf => ?_)
  refine lv_iconst (v := 1) hM.1 hM.2.1 dX1_goBy_28 ic_1 ?_
  refine x_ialdK hM hw (okX9.dutyRows_atI ho1 hi3) 1 (by decide) (by decide) dX1_goBy_29 ?_
  refine lv_aload_n hM.1 hM.2.1 dX1_goBy_30 rfl (lv_at hl 2 rfl) ?_
  refine gf_X8_today hM hw (okX8.o ho2) fl_X1_36 dX1_goBy_31 ?_
  refine x_ic_ne (tgt := 56) hM hf dX1_goBy_34 (by decide) (fun hf => ?_) (fun hf => ?_)
  · refine x_iinc (k := 6) (d := 1) hM hf dX1_goBy_56 hl rfl (by decide) (by decide) (fun v4 => [(6, .int v4), (0, .ref (ad p)), (1, .ref (ad q1)), (2, .ref (ad q2)), (3, .int z3), (4, .int z4), (5, .int z5)]) (fun _ => rfl) (fun v4 ls hf hl => ?_)
    refine lv_goto (tgt := 12) hM.1 hM.2.1 dX1_goBy_59 (by decide) ?_
    exact hrec _ _ _ _ _ hf hw (lv_sub hl [1, 2, 3, 4, 5, 6, 0] rfl)
  refine lv_aload_n hM.1 hM.2.1 dX1_goBy_37 rfl (lv_at hl 2 rfl) ?_
  refine lv_iload hM.1 hM.2.1 dX1_goBy_38 (lv_at hl 6 rfl) ?_
  refine x_callVIr (rest := []) hM hw (ct_X8_isOver l ho2 x6) [.int x6] (okX8.o ho2) rfl rfl rfl (gi_V ml_X1_93 im_X8_isOver sl_X8_isOver in_X8 kc_X8_isOver) hd_X8_isOver rfl ⟨Nat.le_of_ble_eq_true rfl, Nat.le_of_ble_eq_true rfl⟩ rfl (Nat.le_of_ble_eq_true rfl) hl.1 hcs0 hf dX1_goBy_40 (fun r5 H locs hf hw => ?_)
  refine x_if_ne (tgt := 56) hM hf dX1_goBy_43 (by decide) (fun hf => ?_) (fun hf => ?_)
  · refine x_iinc (k := 6) (d := 1) hM hf dX1_goBy_56 hl rfl (by decide) (by decide) (fun v6 => [(6, .int v6), (0, .ref (ad p)), (1, .ref (ad q1)), (2, .ref (ad q2)), (3, .int z3), (4, .int z4), (5, .int z5)]) (fun _ => rfl) (fun v6 ls hf hl => ?_)
    refine lv_goto (tgt := 12) hM.1 hM.2.1 dX1_goBy_59 (by decide) ?_
    exact hrec _ _ _ _ _ hf hw (lv_sub hl [1, 2, 3, 4, 5, 6, 0] rfl)
  refine lv_aload_n hM.1 hM.2.1 dX1_goBy_46 rfl (lv_at hl 0 rfl) ?_
  refine lv_aload_n hM.1 hM.2.1 dX1_goBy_47 rfl (lv_at hl 1 rfl) ?_
  refine lv_aload_n hM.1 hM.2.1 dX1_goBy_48 rfl (lv_at hl 2 rfl) ?_
  refine lv_iload hM.1 hM.2.1 dX1_goBy_49 (lv_at hl 6 rfl) ?_
  refine lv_iload hM.1 hM.2.1 dX1_goBy_51 (lv_at hl 4 rfl) ?_
  refine x_callVV (rest := []) hM hw (ct_X1_meet l ho ho1 ho2 x6 z4) [.ref (ad q1), .ref (ad q2), .int x6, .int z4] (okX1.o ho) rfl rfl rfl (gi_V ml_X1_96 im_X1_meet sl_X1_meet in_X1 kc_X1_meet) hd_X1_meet rfl ⟨Nat.le_of_ble_eq_true rfl, Nat.le_of_ble_eq_true rfl⟩ rfl (Nat.le_of_ble_eq_true rfl) hl.1 hcs0 hf dX1_goBy_53 (fun h7 H locs hf hw => ?_)
  refine x_iinc (k := 6) (d := 1) hM hf dX1_goBy_56 hl rfl (by decide) (by decide) (fun v8 => [(6, .int v8), (0, .ref (ad p)), (1, .ref (ad q1)), (2, .ref (ad q2)), (3, .int z3), (4, .int z4), (5, .int z5)]) (fun _ => rfl) (fun v8 ls hf hl => ?_)
  refine lv_goto (tgt := 12) hM.1 hM.2.1 dX1_goBy_59 (by decide) ?_
  exact hrec _ _ _ _ _ hf hw (lv_sub hl [1, 2, 3, 4, 5, 6, 0] rfl)
set_option maxHeartbeats 4000000 in
set_option maxRecDepth 100000 in
theorem w_X1_goBy_L12 {p0 : Program} {l : Launch} {e : Env} {s : State} {m : MethodId} {args : Array Value} {below : List Frame} {meth : Method} {c : Code} {Q : State → Prop} {D : va_G} {G : GG} {A : Nat → Prop} {H0 : Heap} {ad : Nat → Nat} {lay : List KK} {X : va_W} {ρ : Type} {p : Nat} {q1 : Nat} {q2 : Nat} {r0 : ρ} {z3 : Int32} {z4 : Int32} {z5 : Int32} {K1 : PH → Option ρ} (hM : CallFix p0 m c cX1_goBy 7 s args lw_g RX1) (ho : okX1 lay p) (ho1 : okX9 lay q1) (ho2 : okX8 lay q2) (hk1 : ∀ (h : PH), ∀ (H : Heap) (locs : List Loc) (ls : Array Slot), K1 h = some r0 → Wd D G A H0 ad lay X h s H locs → lv_has ls 7 [(0, .ref (ad p)), (1, .ref (ad q1)), (2, .ref (ad q2)), (3, .int z3), (4, .int z4), (5, .int z5)] → W p0 l e (rmN 5 132) s m args below meth c H locs 0 0 Q (F0 m 62 ls [])) (n : Nat) (x6 : Int32) (h : PH) (hf : lq2 (c_X1_goBy_L12b p q1 q2 z3 z4 z5 K1) n x6 h = some r0) : ∀ (H : Heap) (locs : List Loc) (ls : Array Slot), Wd D G A H0 ad lay X h s H locs → lv_has ls 7 [(0, .ref (ad p)), (1, .ref (ad q1)), (2, .ref (ad q2)), (3, .int z3), (4, .int z4), (5, .int z5), (6, .int x6)] → W p0 l e (rmN 5 132) s m args below meth c H locs 0 0 Q (F0 m 12 ls []) := by
  exact lq2_i (fun (x6 : Int32) (h : PH) => ∀ (H : Heap) (locs : List Loc) (ls : Array Slot), Wd D G A H0 ad lay X h s H locs → lv_has ls 7 [(0, .ref (ad p)), (1, .ref (ad q1)), (2, .ref (ad q2)), (3, .int z3), (4, .int z4), (5, .int z5), (6, .int x6)] → W p0 l e (rmN 5 132) s m args below meth c H locs 0 0 Q (F0 m 12 ls [])) (fun REC x6 h ih hf H locs ls hw hl => w_X1_goBy_L12b hM ho ho1 ho2 hk1 (fun x6 h H locs ls hf hw hl => ih x6 h hf H locs ls hw hl) hw hl hf) n x6 h hf
def c_X1_goBy_L3b {ρ : Type}  (p : Nat) (q1 : Nat) (q2 : Nat) (z3 : Int32) (z4 : Int32) (K1 : PH → Option ρ) (REC : Int32 → PH → Option ρ) (x5 : Int32) (h : PH) : Option ρ :=
  if z3 ≤ x5 then
    K1 h
  else
    nm (0 : Int32) fun v2 =>
    lq2 (c_X1_goBy_L12b p q1 q2 z3 z4 x5
      (fun h9 =>
        (c_X1_mend p q1 q2 1 h9).bind fun h10 =>
        nm (x5 + 1) fun v11 =>
        REC v11 h10)) fu v2 h
set_option maxHeartbeats 4000000 in
set_option maxRecDepth 100000 in
theorem w_X1_goBy_L3b {p0 : Program} {l : Launch} {e : Env} {s : State} {m : MethodId} {args : Array Value} {below : List Frame} {meth : Method} {c : Code} {Q : State → Prop} {D : va_G} {G : GG} {A : Nat → Prop} {H0 : Heap} {ad : Nat → Nat} {lay : List KK} {X : va_W} {ρ : Type} {p : Nat} {q1 : Nat} {q2 : Nat} {r0 : ρ} {z3 : Int32} {z4 : Int32} {x5 : Int32} {h : PH} {H : Heap} {locs : List Loc} {ls : Array Slot} {K1 : PH → Option ρ} {REC : Int32 → PH → Option ρ} (hM : CallFix p0 m c cX1_goBy 7 s args lw_g RX1) (ho : okX1 lay p) (ho1 : okX9 lay q1) (ho2 : okX8 lay q2) (hk1 : ∀ (h : PH), ∀ (H : Heap) (locs : List Loc) (ls : Array Slot), K1 h = some r0 → Wd D G A H0 ad lay X h s H locs → lv_has ls 7 [] → W p0 l e (rmN 5 132) s m args below meth c H locs 0 0 Q (F0 m 75 ls [])) (hrec : ∀ (x5 : Int32) (h : PH), ∀ (H : Heap) (locs : List Loc) (ls : Array Slot), REC x5 h = some r0 → Wd D G A H0 ad lay X h s H locs → lv_has ls 7 [(0, .ref (ad p)), (1, .ref (ad q1)), (2, .ref (ad q2)), (3, .int z3), (4, .int z4), (5, .int x5)] → W p0 l e (rmN 5 132) s m args below meth c H locs 0 0 Q (F0 m 3 ls [])) (hw : Wd D G A H0 ad lay X h s H locs) (hl : lv_has ls 7 [(0, .ref (ad p)), (1, .ref (ad q1)), (2, .ref (ad q2)), (3, .int z3), (4, .int z4), (5, .int x5)]) (hf : c_X1_goBy_L3b p q1 q2 z3 z4 K1 REC x5 h = some r0) : W p0 l e (rmN 5 132) s m args below meth c H locs 0 0 Q (F0 m 3 ls []) := by
  unfold c_X1_goBy_L3b at hf
  refine lv_iload hM.1 hM.2.1 dX1_goBy_3 (lv_at hl 5 rfl) ?_
  refine lv_iload_n hM.1 hM.2.1 dX1_goBy_5 rfl (lv_at hl 3 rfl) ?_
  refine x_ic_ge (tgt := 75) hM hf dX1_goBy_6 (by decide) (fun hf => ?_) (fun hf => ?_)
  · exact hk1 _ _ _ _ hf hw (lv_sub hl [] rfl)
  refine lv_iconst (v := 0) hM.1 hM.2.1 dX1_goBy_9 ic_0 ?_
  refine x_istore hM hf dX1_goBy_10 hl (by decide) (fun v2 => [(6, .int v2), (0, .ref (ad p)), (1, .ref (ad q1)), (2, .ref (ad q2)), (3, .int z3), (4, .int z4), (5, .int x5)]) (fun _ => rfl) (fun v2 ls hf hl => ?_)
  refine w_X1_goBy_L12 hM ho ho1 ho2 (fun h9 H locs ls hf hw hl => ?_) fu _ _ hf _ _ _ hw (lv_sub hl [1, 2, 3, 4, 5, 6, 0] rfl)
  refine lv_aload_n hM.1 hM.2.1 dX1_goBy_62 rfl (lv_at hl 0 rfl) ?_
  refine lv_aload_n hM.1 hM.2.1 dX1_goBy_63 rfl (lv_at hl 1 rfl) ?_
  refine lv_aload_n hM.1 hM.2.1 dX1_goBy_64 rfl (lv_at hl 2 rfl) ?_
  refine lv_iconst (v := 1) hM.1 hM.2.1 dX1_goBy_65 ic_1 ?_
  refine x_callVV (rest := []) hM hw (ct_X1_mend l ho ho1 ho2 1) [.ref (ad q1), .ref (ad q2), .int 1] (okX1.o ho) rfl rfl rfl (gi_V ml_X1_100 im_X1_mend sl_X1_mend in_X1 kc_X1_mend) hd_X1_mend rfl ⟨Nat.le_of_ble_eq_true rfl, Nat.le_of_ble_eq_true rfl⟩ rfl (Nat.le_of_ble_eq_true rfl) hl.1 hcs0 hf dX1_goBy_66 (fun h10 H locs hf hw => ?_)
  refine x_iinc (k := 5) (d := 1) hM hf dX1_goBy_69 hl rfl (by decide) (by decide) (fun v11 => [(5, .int v11), (0, .ref (ad p)), (1, .ref (ad q1)), (2, .ref (ad q2)), (3, .int z3), (4, .int z4)]) (fun _ => rfl) (fun v11 ls hf hl => ?_)
  refine lv_goto (tgt := 3) hM.1 hM.2.1 dX1_goBy_72 (by decide) ?_
  exact hrec _ _ _ _ _ hf hw (lv_sub hl [1, 2, 3, 4, 5, 0] rfl)
set_option maxHeartbeats 4000000 in
set_option maxRecDepth 100000 in
theorem w_X1_goBy_L3 {p0 : Program} {l : Launch} {e : Env} {s : State} {m : MethodId} {args : Array Value} {below : List Frame} {meth : Method} {c : Code} {Q : State → Prop} {D : va_G} {G : GG} {A : Nat → Prop} {H0 : Heap} {ad : Nat → Nat} {lay : List KK} {X : va_W} {ρ : Type} {p : Nat} {q1 : Nat} {q2 : Nat} {r0 : ρ} {z3 : Int32} {z4 : Int32} {K1 : PH → Option ρ} (hM : CallFix p0 m c cX1_goBy 7 s args lw_g RX1) (ho : okX1 lay p) (ho1 : okX9 lay q1) (ho2 : okX8 lay q2) (hk1 : ∀ (h : PH), ∀ (H : Heap) (locs : List Loc) (ls : Array Slot), K1 h = some r0 → Wd D G A H0 ad lay X h s H locs → lv_has ls 7 [] → W p0 l e (rmN 5 132) s m args below meth c H locs 0 0 Q (F0 m 75 ls [])) (n : Nat) (x5 : Int32) (h : PH) (hf : lq2 (c_X1_goBy_L3b p q1 q2 z3 z4 K1) n x5 h = some r0) : ∀ (H : Heap) (locs : List Loc) (ls : Array Slot), Wd D G A H0 ad lay X h s H locs → lv_has ls 7 [(0, .ref (ad p)), (1, .ref (ad q1)), (2, .ref (ad q2)), (3, .int z3), (4, .int z4), (5, .int x5)] → W p0 l e (rmN 5 132) s m args below meth c H locs 0 0 Q (F0 m 3 ls []) := by
  exact lq2_i (fun (x5 : Int32) (h : PH) => ∀ (H : Heap) (locs : List Loc) (ls : Array Slot), Wd D G A H0 ad lay X h s H locs → lv_has ls 7 [(0, .ref (ad p)), (1, .ref (ad q1)), (2, .ref (ad q2)), (3, .int z3), (4, .int z4), (5, .int x5)] → W p0 l e (rmN 5 132) s m args below meth c H locs 0 0 Q (F0 m 3 ls [])) (fun REC x5 h ih hf H locs ls hw hl => w_X1_goBy_L3b hM ho ho1 ho2 hk1 (fun x5 h H locs ls hf hw hl => ih x5 h hf H locs ls hw hl) hw hl hf) n x5 h hf
def c_X1_goBy (p : Nat) (q1 : Nat) (q2 : Nat) (a3 : Int32) (a4 : Int32) (h : PH) : Option (PH) :=
  nm (0 : Int32) fun v1 =>
  lq2 (c_X1_goBy_L3b p q1 q2 a3 a4
    (fun h12 =>
      some h12)) fu v1 h
set_option maxHeartbeats 4000000 in
set_option maxRecDepth 100000 in
theorem ct_X1_goBy (l : Launch) {lay : List KK} {p : Nat} {q1 : Nat} {q2 : Nat} (ho : okX1 lay p) (ho1 : okX9 lay q1) (ho2 : okX8 lay q2) (a3 : Int32) (a4 : Int32) : CtV l yX1_goBy cX1_goBy 7 (none) 5 132 lay (fun h => c_X1_goBy p q1 q2 a3 a4 h) (fun ad => [.ref (ad p), .ref (ad q1), .ref (ad q2), .int a3, .int a4]) := by
  refine CtV.mk' RX1 (by decide) rfl (fun _ => Nat.le_of_ble_eq_true rfl) ?_
  intro p0 e s m args below meth c D G A H0 ad X h r0 H ls Q hM hw hl hf hR
  have hl : lv_has ls 7 [(0, .ref (ad p)), (1, .ref (ad q1)), (2, .ref (ad q2)), (3, .int a3), (4, .int a4)] := hl
  unfold c_X1_goBy at hf
  refine lv_iconst (v := 0) hM.1 hM.2.1 dX1_goBy_0 ic_0 ?_
  refine x_istore hM hf dX1_goBy_1 hl (by decide) (fun v1 => [(5, .int v1), (0, .ref (ad p)), (1, .ref (ad q1)), (2, .ref (ad q2)), (3, .int a3), (4, .int a4)]) (fun _ => rfl) (fun v1 ls hf hl => ?_)
  refine w_X1_goBy_L3 hM ho ho1 ho2 (fun h12 H locs ls hf hw hl => ?_) fu _ _ hf _ _ _ hw (lv_sub hl [1, 2, 3, 4, 5, 0] rfl)
  exact hR _ _ _ _ _ (Option.some.inj hf) rfl hw dX1_goBy_75
theorem hd_X1_goBy : yX1_goBy.cls = RX1 ∧ yX1_goBy.cls ≠ "java/lang/invoke/MethodHandle" ∧ yX1_goBy.cls ≠ "java/lang/invoke/VarHandle" ∧ (parseMethodDescriptor yX1_goBy.desc).map (fun d => d.parameters.length) = some 4 := ⟨rfl, by decide, by decide, by decide +kernel⟩
