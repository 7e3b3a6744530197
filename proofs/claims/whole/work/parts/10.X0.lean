theorem dX0_clear_0 : decode cX0_clear 0 = .ok (.aload_n 0, 1) := by decide +kernel
theorem dX0_clear_1 : decode cX0_clear 1 = .ok (.iconst 0, 1) := by decide +kernel
theorem dX0_clear_2 : decode cX0_clear 2 = .ok (.putfield 24, 3) := by decide +kernel
theorem dX0_clear_5 : decode cX0_clear 5 = .ok (.return_, 1) := by decide +kernel
def c_X0_clear (p : Nat) (h : PH) : Option (PH) :=
  nm (setI h p 4 0) fun h1 =>
  some h1
set_option maxHeartbeats 4000000 in
set_option maxRecDepth 100000 in
theorem ct_X0_clear (l : Launch) {lay : List KK} {p : Nat} (ho : okX0 lay p) : CtV l yX0_clear cX0_clear 1 (none) 0 0 lay (fun h => c_X0_clear p h) (fun ad => [.ref (ad p)]) := by
  refine CtV.mk' RX0 (by decide) rfl (fun _ => Nat.le_of_ble_eq_true rfl) ?_
  intro p0 e s m args below meth c D G A H0 ad X h r0 H ls Q hM hw hl hf hR
  have hl : lv_has ls 1 [(0, .ref (ad p))] := hl
  unfold c_X0_clear at hf
  refine lv_aload_n hM.1 hM.2.1 dX0_clear_0 rfl (lv_at hl 0 rfl) ?_
  refine lv_iconst (v := 0) hM.1 hM.2.1 dX0_clear_1 ic_0 ?_
  refine pf_X0_count hM hw (okX0.o ho) fl_X0_24 hf dX0_clear_2 (fun h1 H locs hf hw => ?_)
  exact hR _ _ _ _ _ (Option.some.inj hf) rfl hw dX0_clear_5
theorem hd_X0_clear : yX0_clear.cls = RX0 ∧ yX0_clear.cls ≠ "java/lang/invoke/MethodHandle" ∧ yX0_clear.cls ≠ "java/lang/invoke/VarHandle" ∧ (parseMethodDescriptor yX0_clear.desc).map (fun d => d.parameters.length) = some 0 := ⟨rfl, by decide, by decide, by decide +kernel⟩
theorem dX0_add_0 : decode cX0_add 0 = .ok (.aload_n 0, 1) := by decide +kernel
theorem dX0_add_1 : decode cX0_add 1 = .ok (.getfield 24, 3) := by decide +kernel
theorem dX0_add_4 : decode cX0_add 4 = .ok (.bipush 20, 2) := by decide +kernel
theorem dX0_add_6 : decode cX0_add 6 = .ok (.if_icmp .lt 5, 3) := by decide +kernel
theorem dX0_add_9 : decode cX0_add 9 = .ok (.iconst (-1), 1) := by decide +kernel
theorem dX0_add_10 : decode cX0_add 10 = .ok (.ireturn, 1) := by decide +kernel
theorem dX0_add_11 : decode cX0_add 11 = .ok (.aload_n 0, 1) := by decide +kernel
theorem dX0_add_12 : decode cX0_add 12 = .ok (.getfield 9, 3) := by decide +kernel
theorem dX0_add_15 : decode cX0_add 15 = .ok (.aload_n 0, 1) := by decide +kernel
theorem dX0_add_16 : decode cX0_add 16 = .ok (.getfield 24, 3) := by decide +kernel
theorem dX0_add_19 : decode cX0_add 19 = .ok (.iload_n 1, 1) := by decide +kernel
theorem dX0_add_20 : decode cX0_add 20 = .ok (.iastore, 1) := by decide +kernel
theorem dX0_add_21 : decode cX0_add 21 = .ok (.aload_n 0, 1) := by decide +kernel
theorem dX0_add_22 : decode cX0_add 22 = .ok (.getfield 15, 3) := by decide +kernel
theorem dX0_add_25 : decode cX0_add 25 = .ok (.aload_n 0, 1) := by decide +kernel
theorem dX0_add_26 : decode cX0_add 26 = .ok (.getfield 24, 3) := by decide +kernel
theorem dX0_add_29 : decode cX0_add 29 = .ok (.iload_n 2, 1) := by decide +kernel
theorem dX0_add_30 : decode cX0_add 30 = .ok (.iastore, 1) := by decide +kernel
theorem dX0_add_31 : decode cX0_add 31 = .ok (.aload_n 0, 1) := by decide +kernel
theorem dX0_add_32 : decode cX0_add 32 = .ok (.getfield 18, 3) := by decide +kernel
theorem dX0_add_35 : decode cX0_add 35 = .ok (.aload_n 0, 1) := by decide +kernel
theorem dX0_add_36 : decode cX0_add 36 = .ok (.getfield 24, 3) := by decide +kernel
theorem dX0_add_39 : decode cX0_add 39 = .ok (.iload_n 3, 1) := by decide +kernel
theorem dX0_add_40 : decode cX0_add 40 = .ok (.iastore, 1) := by decide +kernel
theorem dX0_add_41 : decode cX0_add 41 = .ok (.aload_n 0, 1) := by decide +kernel
theorem dX0_add_42 : decode cX0_add 42 = .ok (.getfield 21, 3) := by decide +kernel
theorem dX0_add_45 : decode cX0_add 45 = .ok (.aload_n 0, 1) := by decide +kernel
theorem dX0_add_46 : decode cX0_add 46 = .ok (.getfield 24, 3) := by decide +kernel
theorem dX0_add_49 : decode cX0_add 49 = .ok (.iload 4, 2) := by decide +kernel
theorem dX0_add_51 : decode cX0_add 51 = .ok (.sipush 365, 3) := by decide +kernel
theorem dX0_add_54 : decode cX0_add 54 = .ok (.idiv, 1) := by decide +kernel
theorem dX0_add_55 : decode cX0_add 55 = .ok (.iastore, 1) := by decide +kernel
theorem dX0_add_56 : decode cX0_add 56 = .ok (.aload_n 0, 1) := by decide +kernel
theorem dX0_add_57 : decode cX0_add 57 = .ok (.dup, 1) := by decide +kernel
theorem dX0_add_58 : decode cX0_add 58 = .ok (.getfield 24, 3) := by decide +kernel
theorem dX0_add_61 : decode cX0_add 61 = .ok (.iconst 1, 1) := by decide +kernel
theorem dX0_add_62 : decode cX0_add 62 = .ok (.iadd, 1) := by decide +kernel
theorem dX0_add_63 : decode cX0_add 63 = .ok (.putfield 24, 3) := by decide +kernel
theorem dX0_add_66 : decode cX0_add 66 = .ok (.aload_n 0, 1) := by decide +kernel
theorem dX0_add_67 : decode cX0_add 67 = .ok (.getfield 24, 3) := by decide +kernel
theorem dX0_add_70 : decode cX0_add 70 = .ok (.iconst 1, 1) := by decide +kernel
theorem dX0_add_71 : decode cX0_add 71 = .ok (.isub, 1) := by decide +kernel
theorem dX0_add_72 : decode cX0_add 72 = .ok (.ireturn, 1) := by decide +kernel
def c_X0_add (p : Nat) (a1 : Int32) (a2 : Int32) (a3 : Int32) (a4 : Int32) (h : PH) : Option (Int32 × PH) :=
  if (h.1 p 4) < 20 then
    gd (ixOK (h.1 p 4) 20) <| nm (setI h (p + 1) (h.1 p 4).toNatClampNeg a1) fun h1 =>
    gd (ixOK (h1.1 p 4) 20) <| nm (setI h1 (p + 2) (h1.1 p 4).toNatClampNeg a2) fun h2 =>
    gd (ixOK (h2.1 p 4) 20) <| nm (setI h2 (p + 3) (h2.1 p 4).toNatClampNeg a3) fun h3 =>
    gd (ixOK (h3.1 p 4) 20) <| nm (setI h3 (p + 4) (h3.1 p 4).toNatClampNeg (a4 / 365)) fun h4 =>
    nm (setI h4 p 4 ((h4.1 p 4) + 1)) fun h5 =>
    some (((h5.1 p 4) - 1), h5)
  else
    some ((-1), h)
set_option maxHeartbeats 4000000 in
set_option maxRecDepth 100000 in
theorem ct_X0_add (l : Launch) {lay : List KK} {p : Nat} (ho : okX0 lay p) (a1 : Int32) (a2 : Int32) (a3 : Int32) (a4 : Int32) : CtI l yX0_add cX0_add 5 (some .int) 0 0 lay (fun h => c_X0_add p a1 a2 a3 a4 h) (fun ad => [.ref (ad p), .int a1, .int a2, .int a3, .int a4]) := by
  refine CtI.mk' RX0 (by decide) rfl (fun _ => Nat.le_of_ble_eq_true rfl) ?_
  intro p0 e s m args below meth c D G A H0 ad X h r0 H ls Q hM hw hl hf hR
  have hl : lv_has ls 5 [(0, .ref (ad p)), (1, .int a1), (2, .int a2), (3, .int a3), (4, .int a4)] := hl
  unfold c_X0_add at hf
  refine lv_aload_n hM.1 hM.2.1 dX0_add_0 rfl (lv_at hl 0 rfl) ?_
  refine gf_X0_count hM hw (okX0.o ho) fl_X0_24 dX0_add_1 ?_
  refine lv_bipush (v := 20) hM.1 hM.2.1 dX0_add_4 (by decide) ?_
  refine x_ic_lt (tgt := 11) hM hf dX0_add_6 (by decide) (fun hf => ?_) (fun hf => ?_)
  · refine lv_aload_n hM.1 hM.2.1 dX0_add_11 rfl (lv_at hl 0 rfl) ?_
    refine gf_X0_kinds hM hw (okX0.o ho) fl_X0_9 dX0_add_12 ?_
    refine lv_aload_n hM.1 hM.2.1 dX0_add_15 rfl (lv_at hl 0 rfl) ?_
    refine gf_X0_count hM hw (okX0.o ho) fl_X0_24 dX0_add_16 ?_
    refine lv_iload_n hM.1 hM.2.1 dX0_add_19 rfl (lv_at hl 1 rfl) ?_
    refine x_iast hM hw (okX0.kinds ho) hf dX0_add_20 (fun h1 H locs hf hw => ?_)
    refine lv_aload_n hM.1 hM.2.1 dX0_add_21 rfl (lv_at hl 0 rfl) ?_
    refine gf_X0_leasts hM hw (okX0.o ho) fl_X0_15 dX0_add_22 ?_
    refine lv_aload_n hM.1 hM.2.1 dX0_add_25 rfl (lv_at hl 0 rfl) ?_
    refine gf_X0_count hM hw (okX0.o ho) fl_X0_24 dX0_add_26 ?_
    refine lv_iload_n hM.1 hM.2.1 dX0_add_29 rfl (lv_at hl 2 rfl) ?_
    refine x_iast hM hw (okX0.leasts ho) hf dX0_add_30 (fun h2 H locs hf hw => ?_)
    refine lv_aload_n hM.1 hM.2.1 dX0_add_31 rfl (lv_at hl 0 rfl) ?_
    refine gf_X0_mosts hM hw (okX0.o ho) fl_X0_18 dX0_add_32 ?_
    refine lv_aload_n hM.1 hM.2.1 dX0_add_35 rfl (lv_at hl 0 rfl) ?_
    refine gf_X0_count hM hw (okX0.o ho) fl_X0_24 dX0_add_36 ?_
    refine lv_iload_n hM.1 hM.2.1 dX0_add_39 rfl (lv_at hl 3 rfl) ?_
    refine x_iast hM hw (okX0.mosts ho) hf dX0_add_40 (fun h3 H locs hf hw => ?_)
    refine lv_aload_n hM.1 hM.2.1 dX0_add_41 rfl (lv_at hl 0 rfl) ?_
    refine gf_X0_yearsGone hM hw (okX0.o ho) fl_X0_21 dX0_add_42 ?_
    refine lv_aload_n hM.1 hM.2.1 dX0_add_45 rfl (lv_at hl 0 rfl) ?_
    refine gf_X0_count hM hw (okX0.o ho) fl_X0_24 dX0_add_46 ?_
    refine lv_iload hM.1 hM.2.1 dX0_add_49 (lv_at hl 4 rfl) ?_
    refine lv_sipush (v := 365) hM.1 hM.2.1 dX0_add_51 (by decide) ?_
    refine lv_idiv hM.1 hM.2.1 dX0_add_54 (by decide) ?_
    refine x_iast hM hw (okX0.yearsGone ho) hf dX0_add_55 (fun h4 H locs hf hw => ?_)
    refine lv_aload_n hM.1 hM.2.1 dX0_add_56 rfl (lv_at hl 0 rfl) ?_
    refine lv_dup hM.1 hM.2.1 dX0_add_57 rfl ?_
    refine gf_X0_count hM hw (okX0.o ho) fl_X0_24 dX0_add_58 ?_
    refine lv_iconst (v := 1) hM.1 hM.2.1 dX0_add_61 ic_1 ?_
    refine lv_iadd hM.1 hM.2.1 dX0_add_62 ?_
    refine pf_X0_count hM hw (okX0.o ho) fl_X0_24 hf dX0_add_63 (fun h5 H locs hf hw => ?_)
    refine lv_aload_n hM.1 hM.2.1 dX0_add_66 rfl (lv_at hl 0 rfl) ?_
    refine gf_X0_count hM hw (okX0.o ho) fl_X0_24 dX0_add_67 ?_
    refine lv_iconst (v := 1) hM.1 hM.2.1 dX0_add_70 ic_1 ?_
    refine lv_isub hM.1 hM.2.1 dX0_add_71 ?_
    exact hR _ _ _ _ _ _ _ (Option.some.inj hf) rfl rfl hw dX0_add_72
  refine lv_iconst (v := (-1)) hM.1 hM.2.1 dX0_add_9 ic_m1 ?_
  exact hR _ _ _ _ _ _ _ (Option.some.inj hf) rfl rfl hw dX0_add_10
theorem hd_X0_add : yX0_add.cls = RX0 ∧ yX0_add.cls ≠ "java/lang/invoke/MethodHandle" ∧ yX0_add.cls ≠ "java/lang/invoke/VarHandle" ∧ (parseMethodDescriptor yX0_add.desc).map (fun d => d.parameters.length) = some 4 := ⟨rfl, by decide, by decide, by decide +kernel⟩
theorem dX0_leastAge_0 : decode cX0_leastAge 0 = .ok (.iconst 0, 1) := by decide +kernel
theorem dX0_leastAge_1 : decode cX0_leastAge 1 = .ok (.istore_n 3, 1) := by decide +kernel
theorem dX0_leastAge_2 : decode cX0_leastAge 2 = .ok (.iconst 0, 1) := by decide +kernel
theorem dX0_leastAge_3 : decode cX0_leastAge 3 = .ok (.istore 4, 2) := by decide +kernel
theorem dX0_leastAge_5 : decode cX0_leastAge 5 = .ok (.iload 4, 2) := by decide +kernel
theorem dX0_leastAge_7 : decode cX0_leastAge 7 = .ok (.iload_n 2, 1) := by decide +kernel
theorem dX0_leastAge_8 : decode cX0_leastAge 8 = .ok (.if_icmp .ge 53, 3) := by decide +kernel
theorem dX0_leastAge_11 : decode cX0_leastAge 11 = .ok (.iload 4, 2) := by decide +kernel
theorem dX0_leastAge_13 : decode cX0_leastAge 13 = .ok (.aload_n 0, 1) := by decide +kernel
theorem dX0_leastAge_14 : decode cX0_leastAge 14 = .ok (.getfield 24, 3) := by decide +kernel
theorem dX0_leastAge_17 : decode cX0_leastAge 17 = .ok (.if_icmp .ge 44, 3) := by decide +kernel
theorem dX0_leastAge_20 : decode cX0_leastAge 20 = .ok (.aload_n 0, 1) := by decide +kernel
theorem dX0_leastAge_21 : decode cX0_leastAge 21 = .ok (.getfield 9, 3) := by decide +kernel
theorem dX0_leastAge_24 : decode cX0_leastAge 24 = .ok (.iload 4, 2) := by decide +kernel
theorem dX0_leastAge_26 : decode cX0_leastAge 26 = .ok (.iaload, 1) := by decide +kernel
theorem dX0_leastAge_27 : decode cX0_leastAge 27 = .ok (.iload_n 1, 1) := by decide +kernel
theorem dX0_leastAge_28 : decode cX0_leastAge 28 = .ok (.if_icmp .ne 25, 3) := by decide +kernel
theorem dX0_leastAge_31 : decode cX0_leastAge 31 = .ok (.iload_n 3, 1) := by decide +kernel
theorem dX0_leastAge_32 : decode cX0_leastAge 32 = .ok (.aload_n 0, 1) := by decide +kernel
theorem dX0_leastAge_33 : decode cX0_leastAge 33 = .ok (.getfield 15, 3) := by decide +kernel
theorem dX0_leastAge_36 : decode cX0_leastAge 36 = .ok (.iload 4, 2) := by decide +kernel
theorem dX0_leastAge_38 : decode cX0_leastAge 38 = .ok (.iaload, 1) := by decide +kernel
theorem dX0_leastAge_39 : decode cX0_leastAge 39 = .ok (.aload_n 0, 1) := by decide +kernel
theorem dX0_leastAge_40 : decode cX0_leastAge 40 = .ok (.getfield 21, 3) := by decide +kernel
theorem dX0_leastAge_43 : decode cX0_leastAge 43 = .ok (.iload 4, 2) := by decide +kernel
theorem dX0_leastAge_45 : decode cX0_leastAge 45 = .ok (.iaload, 1) := by decide +kernel
theorem dX0_leastAge_46 : decode cX0_leastAge 46 = .ok (.isub, 1) := by decide +kernel
theorem dX0_leastAge_47 : decode cX0_leastAge 47 = .ok (.invokestatic 28, 3) := by decide +kernel
theorem dX0_leastAge_50 : decode cX0_leastAge 50 = .ok (.goto 4, 3) := by decide +kernel
theorem dX0_leastAge_53 : decode cX0_leastAge 53 = .ok (.iload_n 3, 1) := by decide +kernel
theorem dX0_leastAge_54 : decode cX0_leastAge 54 = .ok (.istore_n 3, 1) := by decide +kernel
theorem dX0_leastAge_55 : decode cX0_leastAge 55 = .ok (.iinc 4 1, 3) := by decide +kernel
theorem dX0_leastAge_58 : decode cX0_leastAge 58 = .ok (.goto (-53), 3) := by decide +kernel
theorem dX0_leastAge_61 : decode cX0_leastAge 61 = .ok (.iload_n 3, 1) := by decide +kernel
theorem dX0_leastAge_62 : decode cX0_leastAge 62 = .ok (.ireturn, 1) := by decide +kernel
def c_X0_leastAge_L5b {ρ : Type}  (p : Nat) (z1 : Int32) (z2 : Int32) (h : PH) (K1 : Int32 → Option ρ) (REC : Int32 → Int32 → Option ρ) (x3 : Int32) (x4 : Int32) : Option ρ :=
  if z2 ≤ x4 then
    K1 x3
  else
    if (h.1 p 4) ≤ x4 then
      K1 x3
    else
      gd (ixOK x4 20) <|
      if (h.1 (p + 1) x4.toNatClampNeg) = z1 then
        gd (ixOK x4 20) <|
        gd (ixOK x4 20) <|
        nm (jmax x3 ((h.1 (p + 2) x4.toNatClampNeg) - (h.1 (p + 4) x4.toNatClampNeg))) fun v5 =>
        nm (x4 + 1) fun v6 =>
        REC v5 v6
      else
        nm x3 fun v3 =>
        nm (x4 + 1) fun v4 =>
        REC v3 v4
set_option maxHeartbeats 4000000 in
set_option maxRecDepth 100000 in
theorem w_X0_leastAge_L5b {p0 : Program} {l : Launch} {e : Env} {s : State} {m : MethodId} {args : Array Value} {below : List Frame} {meth : Method} {c : Code} {Q : State → Prop} {D : va_G} {G : GG} {A : Nat → Prop} {H0 : Heap} {ad : Nat → Nat} {lay : List KK} {X : va_W} {ρ : Type} {p : Nat} {r0 : ρ} {z1 : Int32} {z2 : Int32} {x3 : Int32} {x4 : Int32} {h : PH} {H : Heap} {locs : List Loc} {ls : Array Slot} {K1 : Int32 → Option ρ} {REC : Int32 → Int32 → Option ρ} (hM : CallFix p0 m c cX0_leastAge 5 s args lw_g RX0) (ho : okX0 lay p) (hk1 : ∀ (x3 : Int32), ∀ (H : Heap) (locs : List Loc) (ls : Array Slot), K1 x3 = some r0 → Wd D G A H0 ad lay X h s H locs → lv_has ls 5 [(3, .int x3)] → W p0 l e (rmN 1 21) s m args below meth c H locs 0 0 Q (F0 m 61 ls [])) (hrec : ∀ (x3 : Int32) (x4 : Int32), ∀ (H : Heap) (locs : List Loc) (ls : Array Slot), REC x3 x4 = some r0 → Wd D G A H0 ad lay X h s H locs → lv_has ls 5 [(0, .ref (ad p)), (1, .int z1), (2, .int z2), (3, .int x3), (4, .int x4)] → W p0 l e (rmN 1 21) s m args below meth c H locs 0 0 Q (F0 m 5 ls [])) (hw : Wd D G A H0 ad lay X h s H locs) (hl : lv_has ls 5 [(0, .ref (ad p)), (1, .int z1), (2, .int z2), (3, .int x3), (4, .int x4)]) (hf : c_X0_leastAge_L5b p z1 z2 h K1 REC x3 x4 = some r0) : W p0 l e (rmN 1 21) s m args below meth c H locs 0 0 Q (F0 m 5 ls []) := by
  unfold c_X0_leastAge_L5b at hf
  refine lv_iload hM.1 hM.2.1 dX0_leastAge_5 (lv_at hl 4 rfl) ?_
  refine lv_iload_n hM.1 hM.2.1 dX0_leastAge_7 rfl (lv_at hl 2 rfl) ?_
  refine x_ic_ge (tgt := 61) hM hf dX0_leastAge_8 (by decide) (fun hf => ?_) (fun hf => ?_)
  · exact hk1 _ _ _ _ hf hw (lv_sub hl [3] rfl)
  refine lv_iload hM.1 hM.2.1 dX0_leastAge_11 (lv_at hl 4 rfl) ?_
  refine lv_aload_n hM.1 hM.2.1 dX0_leastAge_13 rfl (lv_at hl 0 rfl) ?_
  refine gf_X0_count hM hw (okX0.o ho) fl_X0_24 dX0_leastAge_14 ?_
  refine x_ic_ge (tgt := 61) hM hf dX0_leastAge_17 (by decide) (fun hf => ?_) (fun hf => ?_)
  · exact hk1 _ _ _ _ hf hw (lv_sub hl [3] rfl)
  refine lv_aload_n hM.1 hM.2.1 dX0_leastAge_20 rfl (lv_at hl 0 rfl) ?_
  refine gf_X0_kinds hM hw (okX0.o ho) fl_X0_9 dX0_leastAge_21 ?_
  refine lv_iload hM.1 hM.2.1 dX0_leastAge_24 (lv_at hl 4 rfl) ?_
  refine x_iald hM hw (okX0.kinds ho) hf dX0_leastAge_26 (fun hf => ?_)
  refine lv_iload_n hM.1 hM.2.1 dX0_leastAge_27 rfl (lv_at hl 1 rfl) ?_
  refine x_ic_ne (tgt := 53) hM hf dX0_leastAge_28 (by decide) (fun hf => ?_) (fun hf => ?_)
  · refine lv_iload_n hM.1 hM.2.1 dX0_leastAge_53 rfl (lv_at hl 3 rfl) ?_
    refine x_istore_n hM hf dX0_leastAge_54 rfl hl (by decide) (fun v3 => [(3, .int v3), (0, .ref (ad p)), (1, .int z1), (2, .int z2), (4, .int x4)]) (fun _ => rfl) (fun v3 ls hf hl => ?_)
    refine x_iinc (k := 4) (d := 1) hM hf dX0_leastAge_55 hl rfl (by decide) (by decide) (fun v4 => [(4, .int v4), (3, .int v3), (0, .ref (ad p)), (1, .int z1), (2, .int z2)]) (fun _ => rfl) (fun v4 ls hf hl => ?_)
    refine lv_goto (tgt := 5) hM.1 hM.2.1 dX0_leastAge_58 (by decide) ?_
    exact hrec _ _ _ _ _ hf hw (lv_sub hl [2, 3, 4, 1, 0] rfl)
  refine lv_iload_n hM.1 hM.2.1 dX0_leastAge_31 rfl (lv_at hl 3 rfl) ?_
  refine lv_aload_n hM.1 hM.2.1 dX0_leastAge_32 rfl (lv_at hl 0 rfl) ?_
  refine gf_X0_leasts hM hw (okX0.o ho) fl_X0_15 dX0_leastAge_33 ?_
  refine lv_iload hM.1 hM.2.1 dX0_leastAge_36 (lv_at hl 4 rfl) ?_
  refine x_iald hM hw (okX0.leasts ho) hf dX0_leastAge_38 (fun hf => ?_)
  refine lv_aload_n hM.1 hM.2.1 dX0_leastAge_39 rfl (lv_at hl 0 rfl) ?_
  refine gf_X0_yearsGone hM hw (okX0.o ho) fl_X0_21 dX0_leastAge_40 ?_
  refine lv_iload hM.1 hM.2.1 dX0_leastAge_43 (lv_at hl 4 rfl) ?_
  refine x_iald hM hw (okX0.yearsGone ho) hf dX0_leastAge_45 (fun hf => ?_)
  refine lv_isub hM.1 hM.2.1 dX0_leastAge_46 ?_
  refine x_mmax hM hl.1 hcs0 ml_X0_28 sm_J9_max_7cf53 in_J9 kc_J9_max_7cf53 (Nat.le_of_ble_eq_true rfl) (Nat.le_of_ble_eq_true rfl) dX0_leastAge_47 ?_
  refine lv_goto (tgt := 54) hM.1 hM.2.1 dX0_leastAge_50 (by decide) ?_
  refine x_istore_n hM hf dX0_leastAge_54 rfl hl (by decide) (fun v5 => [(3, .int v5), (0, .ref (ad p)), (1, .int z1), (2, .int z2), (4, .int x4)]) (fun _ => rfl) (fun v5 ls hf hl => ?_)
  refine x_iinc (k := 4) (d := 1) hM hf dX0_leastAge_55 hl rfl (by decide) (by decide) (fun v6 => [(4, .int v6), (3, .int v5), (0, .ref (ad p)), (1, .int z1), (2, .int z2)]) (fun _ => rfl) (fun v6 ls hf hl => ?_)
  refine lv_goto (tgt := 5) hM.1 hM.2.1 dX0_leastAge_58 (by decide) ?_
  exact hrec _ _ _ _ _ hf hw (lv_sub hl [2, 3, 4, 1, 0] rfl)
set_option maxHeartbeats 4000000 in
set_option maxRecDepth 100000 in
theorem w_X0_leastAge_L5 {p0 : Program} {l : Launch} {e : Env} {s : State} {m : MethodId} {args : Array Value} {below : List Frame} {meth : Method} {c : Code} {Q : State → Prop} {D : va_G} {G : GG} {A : Nat → Prop} {H0 : Heap} {ad : Nat → Nat} {lay : List KK} {X : va_W} {ρ : Type} {p : Nat} {r0 : ρ} {z1 : Int32} {z2 : Int32} {h : PH} {K1 : Int32 → Option ρ} (hM : CallFix p0 m c cX0_leastAge 5 s args lw_g RX0) (ho : okX0 lay p) (hk1 : ∀ (x3 : Int32), ∀ (H : Heap) (locs : List Loc) (ls : Array Slot), K1 x3 = some r0 → Wd D G A H0 ad lay X h s H locs → lv_has ls 5 [(3, .int x3)] → W p0 l e (rmN 1 21) s m args below meth c H locs 0 0 Q (F0 m 61 ls [])) (n : Nat) (x3 : Int32) (x4 : Int32) (hf : lq2 (c_X0_leastAge_L5b p z1 z2 h K1) n x3 x4 = some r0) : ∀ (H : Heap) (locs : List Loc) (ls : Array Slot), Wd D G A H0 ad lay X h s H locs → lv_has ls 5 [(0, .ref (ad p)), (1, .int z1), (2, .int z2), (3, .int x3), (4, .int x4)] → W p0 l e (rmN 1 21) s m args below meth c H locs 0 0 Q (F0 m 5 ls []) := by
  exact lq2_i (fun (x3 : Int32) (x4 : Int32) => ∀ (H : Heap) (locs : List Loc) (ls : Array Slot), Wd D G A H0 ad lay X h s H locs → lv_has ls 5 [(0, .ref (ad p)), (1, .int z1), (2, .int z2), (3, .int x3), (4, .int x4)] → W p0 l e (rmN 1 21) s m args below meth c H locs 0 0 Q (F0 m 5 ls [])) (fun REC x3 x4 ih hf H locs ls hw hl => w_X0_leastAge_L5b hM ho hk1 (fun x3 x4 H locs ls hf hw hl => ih x3 x4 hf H locs ls hw hl) hw hl hf) n x3 x4 hf
def c_X0_leastAge (p : Nat) (a1 : Int32) (a2 : Int32) (h : PH) : Option (Int32) :=
  nm (0 : Int32) fun v1 =>
  nm (0 : Int32) fun v2 =>
  lq2 (c_X0_leastAge_L5b p a1 a2 h
    (fun w7 =>
      some w7)) fu v1 v2
set_option maxHeartbeats 4000000 in
set_option maxRecDepth 100000 in
theorem ct_X0_leastAge (l : Launch) {lay : List KK} {p : Nat} (ho : okX0 lay p) (a1 : Int32) (a2 : Int32) : CtI l yX0_leastAge cX0_leastAge 5 (some .int) 1 21 lay (rd (fun h => c_X0_leastAge p a1 a2 h)) (fun ad => [.ref (ad p), .int a1, .int a2]) := by
  refine CtI.mk' RX0 (by decide) rfl (fun _ => Nat.le_of_ble_eq_true rfl) ?_
  intro p0 e s m args below meth c D G A H0 ad X h r0 H ls Q hM hw hl hf hR
  have hl : lv_has ls 5 [(0, .ref (ad p)), (1, .int a1), (2, .int a2)] := hl
  obtain ⟨v0, hv0, hr0⟩ : ∃ v0, c_X0_leastAge p a1 a2 h = some v0 ∧ r0 = (v0, h) := rd_some hf
  subst hr0
  have hf := hv0
  unfold c_X0_leastAge at hf
  refine lv_iconst (v := 0) hM.1 hM.2.1 dX0_leastAge_0 ic_0 ?_
  refine x_istore_n hM hf dX0_leastAge_1 rfl hl (by decide) (fun v1 => [(3, .int v1), (0, .ref (ad p)), (1, .int a1), (2, .int a2)]) (fun _ => rfl) (fun v1 ls hf hl => ?_)
  refine lv_iconst (v := 0) hM.1 hM.2.1 dX0_leastAge_2 ic_0 ?_
  refine x_istore hM hf dX0_leastAge_3 hl (by decide) (fun v2 => [(4, .int v2), (3, .int v1), (0, .ref (ad p)), (1, .int a1), (2, .int a2)]) (fun _ => rfl) (fun v2 ls hf hl => ?_)
  refine w_X0_leastAge_L5 hM ho (fun w7 H locs ls hf hw hl => ?_) fu _ _ hf _ _ _ hw (lv_sub hl [2, 3, 4, 1, 0] rfl)
  refine lv_iload_n hM.1 hM.2.1 dX0_leastAge_61 rfl (lv_at hl 0 rfl) ?_
  exact hR _ _ _ _ _ _ _ (congrArg (fun z => (z, _)) (Option.some.inj hf)) rfl rfl hw dX0_leastAge_62
theorem hd_X0_leastAge : yX0_leastAge.cls = RX0 ∧ yX0_leastAge.cls ≠ "java/lang/invoke/MethodHandle" ∧ yX0_leastAge.cls ≠ "java/lang/invoke/VarHandle" ∧ (parseMethodDescriptor yX0_leastAge.desc).map (fun d => d.parameters.length) = some 2 := ⟨rfl, by decide, by decide, by decide +kernel⟩
theorem dX0_greatestAge_0 : decode cX0_greatestAge 0 = .ok (.bipush 120, 2) := by decide +kernel
theorem dX0_greatestAge_2 : decode cX0_greatestAge 2 = .ok (.istore_n 3, 1) := by decide +kernel
theorem dX0_greatestAge_3 : decode cX0_greatestAge 3 = .ok (.iconst 0, 1) := by decide +kernel
theorem dX0_greatestAge_4 : decode cX0_greatestAge 4 = .ok (.istore 4, 2) := by decide +kernel
theorem dX0_greatestAge_6 : decode cX0_greatestAge 6 = .ok (.iload 4, 2) := by decide +kernel
theorem dX0_greatestAge_8 : decode cX0_greatestAge 8 = .ok (.iload_n 2, 1) := by decide +kernel
theorem dX0_greatestAge_9 : decode cX0_greatestAge 9 = .ok (.if_icmp .ge 53, 3) := by decide +kernel
theorem dX0_greatestAge_12 : decode cX0_greatestAge 12 = .ok (.iload 4, 2) := by decide +kernel
theorem dX0_greatestAge_14 : decode cX0_greatestAge 14 = .ok (.aload_n 0, 1) := by decide +kernel
theorem dX0_greatestAge_15 : decode cX0_greatestAge 15 = .ok (.getfield 24, 3) := by decide +kernel
theorem dX0_greatestAge_18 : decode cX0_greatestAge 18 = .ok (.if_icmp .ge 44, 3) := by decide +kernel
theorem dX0_greatestAge_21 : decode cX0_greatestAge 21 = .ok (.aload_n 0, 1) := by decide +kernel
theorem dX0_greatestAge_22 : decode cX0_greatestAge 22 = .ok (.getfield 9, 3) := by decide +kernel
theorem dX0_greatestAge_25 : decode cX0_greatestAge 25 = .ok (.iload 4, 2) := by decide +kernel
theorem dX0_greatestAge_27 : decode cX0_greatestAge 27 = .ok (.iaload, 1) := by decide +kernel
theorem dX0_greatestAge_28 : decode cX0_greatestAge 28 = .ok (.iload_n 1, 1) := by decide +kernel
theorem dX0_greatestAge_29 : decode cX0_greatestAge 29 = .ok (.if_icmp .ne 25, 3) := by decide +kernel
theorem dX0_greatestAge_32 : decode cX0_greatestAge 32 = .ok (.iload_n 3, 1) := by decide +kernel
theorem dX0_greatestAge_33 : decode cX0_greatestAge 33 = .ok (.aload_n 0, 1) := by decide +kernel
theorem dX0_greatestAge_34 : decode cX0_greatestAge 34 = .ok (.getfield 18, 3) := by decide +kernel
theorem dX0_greatestAge_37 : decode cX0_greatestAge 37 = .ok (.iload 4, 2) := by decide +kernel
theorem dX0_greatestAge_39 : decode cX0_greatestAge 39 = .ok (.iaload, 1) := by decide +kernel
theorem dX0_greatestAge_40 : decode cX0_greatestAge 40 = .ok (.aload_n 0, 1) := by decide +kernel
theorem dX0_greatestAge_41 : decode cX0_greatestAge 41 = .ok (.getfield 21, 3) := by decide +kernel
theorem dX0_greatestAge_44 : decode cX0_greatestAge 44 = .ok (.iload 4, 2) := by decide +kernel
theorem dX0_greatestAge_46 : decode cX0_greatestAge 46 = .ok (.iaload, 1) := by decide +kernel
theorem dX0_greatestAge_47 : decode cX0_greatestAge 47 = .ok (.isub, 1) := by decide +kernel
theorem dX0_greatestAge_48 : decode cX0_greatestAge 48 = .ok (.invokestatic 34, 3) := by decide +kernel
theorem dX0_greatestAge_51 : decode cX0_greatestAge 51 = .ok (.goto 4, 3) := by decide +kernel
theorem dX0_greatestAge_54 : decode cX0_greatestAge 54 = .ok (.iload_n 3, 1) := by decide +kernel
theorem dX0_greatestAge_55 : decode cX0_greatestAge 55 = .ok (.istore_n 3, 1) := by decide +kernel
theorem dX0_greatestAge_56 : decode cX0_greatestAge 56 = .ok (.iinc 4 1, 3) := by decide +kernel
theorem dX0_greatestAge_59 : decode cX0_greatestAge 59 = .ok (.goto (-53), 3) := by decide +kernel
theorem dX0_greatestAge_62 : decode cX0_greatestAge 62 = .ok (.iload_n 3, 1) := by decide +kernel
theorem dX0_greatestAge_63 : decode cX0_greatestAge 63 = .ok (.ireturn, 1) := by decide +kernel
def c_X0_greatestAge_L6b {ρ : Type}  (p : Nat) (z1 : Int32) (z2 : Int32) (h : PH) (K1 : Int32 → Option ρ) (REC : Int32 → Int32 → Option ρ) (x3 : Int32) (x4 : Int32) : Option ρ :=
  if z2 ≤ x4 then
    K1 x3
  else
    if (h.1 p 4) ≤ x4 then
      K1 x3
    else
      gd (ixOK x4 20) <|
      if (h.1 (p + 1) x4.toNatClampNeg) = z1 then
        gd (ixOK x4 20) <|
        gd (ixOK x4 20) <|
        nm (jmin x3 ((h.1 (p + 3) x4.toNatClampNeg) - (h.1 (p + 4) x4.toNatClampNeg))) fun v5 =>
        nm (x4 + 1) fun v6 =>
        REC v5 v6
      else
        nm x3 fun v3 =>
        nm (x4 + 1) fun v4 =>
        REC v3 v4
set_option maxHeartbeats 4000000 in
set_option maxRecDepth 100000 in
theorem w_X0_greatestAge_L6b {p0 : Program} {l : Launch} {e : Env} {s : State} {m : MethodId} {args : Array Value} {below : List Frame} {meth : Method} {c : Code} {Q : State → Prop} {D : va_G} {G : GG} {A : Nat → Prop} {H0 : Heap} {ad : Nat → Nat} {lay : List KK} {X : va_W} {ρ : Type} {p : Nat} {r0 : ρ} {z1 : Int32} {z2 : Int32} {x3 : Int32} {x4 : Int32} {h : PH} {H : Heap} {locs : List Loc} {ls : Array Slot} {K1 : Int32 → Option ρ} {REC : Int32 → Int32 → Option ρ} (hM : CallFix p0 m c cX0_greatestAge 5 s args lw_g RX0) (ho : okX0 lay p) (hk1 : ∀ (x3 : Int32), ∀ (H : Heap) (locs : List Loc) (ls : Array Slot), K1 x3 = some r0 → Wd D G A H0 ad lay X h s H locs → lv_has ls 5 [(3, .int x3)] → W p0 l e (rmN 1 21) s m args below meth c H locs 0 0 Q (F0 m 62 ls [])) (hrec : ∀ (x3 : Int32) (x4 : Int32), ∀ (H : Heap) (locs : List Loc) (ls : Array Slot), REC x3 x4 = some r0 → Wd D G A H0 ad lay X h s H locs → lv_has ls 5 [(0, .ref (ad p)), (1, .int z1), (2, .int z2), (3, .int x3), (4, .int x4)] → W p0 l e (rmN 1 21) s m args below meth c H locs 0 0 Q (F0 m 6 ls [])) (hw : Wd D G A H0 ad lay X h s H locs) (hl : lv_has ls 5 [(0, .ref (ad p)), (1, .int z1), (2, .int z2), (3, .int x3), (4, .int x4)]) (hf : c_X0_greatestAge_L6b p z1 z2 h K1 REC x3 x4 = some r0) : W p0 l e (rmN 1 21) s m args below meth c H locs 0 0 Q (F0 m 6 ls []) := by
  unfold c_X0_greatestAge_L6b at hf
  refine lv_iload hM.1 hM.2.1 dX0_greatestAge_6 (lv_at hl 4 rfl) ?_
  refine lv_iload_n hM.1 hM.2.1 dX0_greatestAge_8 rfl (lv_at hl 2 rfl) ?_
  refine x_ic_ge (tgt := 62) hM hf dX0_greatestAge_9 (by decide) (fun hf => ?_) (fun hf => ?_)
  · exact hk1 _ _ _ _ hf hw (lv_sub hl [3] rfl)
  refine lv_iload hM.1 hM.2.1 dX0_greatestAge_12 (lv_at hl 4 rfl) ?_
  refine lv_aload_n hM.1 hM.2.1 dX0_greatestAge_14 rfl (lv_at hl 0 rfl) ?_
  refine gf_X0_count hM hw (okX0.o ho) fl_X0_24 dX0_greatestAge_15 ?_
  refine x_ic_ge (tgt := 62) hM hf dX0_greatestAge_18 (by decide) (fun hf => ?_) (fun hf => ?_)
  · exact hk1 _ _ _ _ hf hw (lv_sub hl [3] rfl)
  refine lv_aload_n hM.1 hM.2.1 dX0_greatestAge_21 rfl (lv_at hl 0 rfl) ?_
  refine gf_X0_kinds hM hw (okX0.o ho) fl_X0_9 dX0_greatestAge_22 ?_
  refine lv_iload hM.1 hM.2.1 dX0_greatestAge_25 (lv_at hl 4 rfl) ?_
  refine x_iald hM hw (okX0.kinds ho) hf dX0_greatestAge_27 (fun hf => ?_)
  refine lv_iload_n hM.1 hM.2.1 dX0_greatestAge_28 rfl (lv_at hl 1 rfl) ?_
  refine x_ic_ne (tgt := 54) hM hf dX0_greatestAge_29 (by decide) (fun hf => ?_) (fun hf => ?_)
  · refine lv_iload_n hM.1 hM.2.1 dX0_greatestAge_54 rfl (lv_at hl 3 rfl) ?_
    refine x_istore_n hM hf dX0_greatestAge_55 rfl hl (by decide) (fun v3 => [(3, .int v3), (0, .ref (ad p)), (1, .int z1), (2, .int z2), (4, .int x4)]) (fun _ => rfl) (fun v3 ls hf hl => ?_)
    refine x_iinc (k := 4) (d := 1) hM hf dX0_greatestAge_56 hl rfl (by decide) (by decide) (fun v4 => [(4, .int v4), (3, .int v3), (0, .ref (ad p)), (1, .int z1), (2, .int z2)]) (fun _ => rfl) (fun v4 ls hf hl => ?_)
    refine lv_goto (tgt := 6) hM.1 hM.2.1 dX0_greatestAge_59 (by decide) ?_
    exact hrec _ _ _ _ _ hf hw (lv_sub hl [2, 3, 4, 1, 0] rfl)
  refine lv_iload_n hM.1 hM.2.1 dX0_greatestAge_32 rfl (lv_at hl 3 rfl) ?_
  refine lv_aload_n hM.1 hM.2.1 dX0_greatestAge_33 rfl (lv_at hl 0 rfl) ?_
  refine gf_X0_mosts hM hw (okX0.o ho) fl_X0_18 dX0_greatestAge_34 ?_
  refine lv_iload hM.1 hM.2.1 dX0_greatestAge_37 (lv_at hl 4 rfl) ?_
  refine x_iald hM hw (okX0.mosts ho) hf dX0_greatestAge_39 (fun hf => ?_)
  refine lv_aload_n hM.1 hM.2.1 dX0_greatestAge_40 rfl (lv_at hl 0 rfl) ?_
  refine gf_X0_yearsGone hM hw (okX0.o ho) fl_X0_21 dX0_greatestAge_41 ?_
  refine lv_iload hM.1 hM.2.1 dX0_greatestAge_44 (lv_at hl 4 rfl) ?_
  refine x_iald hM hw (okX0.yearsGone ho) hf dX0_greatestAge_46 (fun hf => ?_)
  refine lv_isub hM.1 hM.2.1 dX0_greatestAge_47 ?_
  refine x_mmin hM hl.1 hcs0 ml_X0_34 sm_J9_min_7cf53 in_J9 kc_J9_min_7cf53 (Nat.le_of_ble_eq_true rfl) (Nat.le_of_ble_eq_true rfl) dX0_greatestAge_48 ?_
  refine lv_goto (tgt := 55) hM.1 hM.2.1 dX0_greatestAge_51 (by decide) ?_
  refine x_istore_n hM hf dX0_greatestAge_55 rfl hl (by decide) (fun v5 => [(3, .int v5), (0, .ref (ad p)), (1, .int z1), (2, .int z2), (4, .int x4)]) (fun _ => rfl) (fun v5 ls hf hl => ?_)
  refine x_iinc (k := 4) (d := 1) hM hf dX0_greatestAge_56 hl rfl (by decide) (by decide) (fun v6 => [(4, .int v6), (3, .int v5), (0, .ref (ad p)), (1, .int z1), (2, .int z2)]) (fun _ => rfl) (fun v6 ls hf hl => ?_)
  refine lv_goto (tgt := 6) hM.1 hM.2.1 dX0_greatestAge_59 (by decide) ?_
  exact hrec _ _ _ _ _ hf hw (lv_sub hl [2, 3, 4, 1, 0] rfl)
set_option maxHeartbeats 4000000 in
set_option maxRecDepth 100000 in
theorem w_X0_greatestAge_L6 {p0 : Program} {l : Launch} {e : Env} {s : State} {m : MethodId} {args : Array Value} {below : List Frame} {meth : Method} {c : Code} {Q : State → Prop} {D : va_G} {G : GG} {A : Nat → Prop} {H0 : Heap} {ad : Nat → Nat} {lay : List KK} {X : va_W} {ρ : Type} {p : Nat} {r0 : ρ} {z1 : Int32} {z2 : Int32} {h : PH} {K1 : Int32 → Option ρ} (hM : CallFix p0 m c cX0_greatestAge 5 s args lw_g RX0) (ho : okX0 lay p) (hk1 : ∀ (x3 : Int32), ∀ (H : Heap) (locs : List Loc) (ls : Array Slot), K1 x3 = some r0 → Wd D G A H0 ad lay X h s H locs → lv_has ls 5 [(3, .int x3)] → W p0 l e (rmN 1 21) s m args below meth c H locs 0 0 Q (F0 m 62 ls [])) (n : Nat) (x3 : Int32) (x4 : Int32) (hf : lq2 (c_X0_greatestAge_L6b p z1 z2 h K1) n x3 x4 = some r0) : ∀ (H : Heap) (locs : List Loc) (ls : Array Slot), Wd D G A H0 ad lay X h s H locs → lv_has ls 5 [(0, .ref (ad p)), (1, .int z1), (2, .int z2), (3, .int x3), (4, .int x4)] → W p0 l e (rmN 1 21) s m args below meth c H locs 0 0 Q (F0 m 6 ls []) := by
  exact lq2_i (fun (x3 : Int32) (x4 : Int32) => ∀ (H : Heap) (locs : List Loc) (ls : Array Slot), Wd D G A H0 ad lay X h s H locs → lv_has ls 5 [(0, .ref (ad p)), (1, .int z1), (2, .int z2), (3, .int x3), (4, .int x4)] → W p0 l e (rmN 1 21) s m args below meth c H locs 0 0 Q (F0 m 6 ls [])) (fun REC x3 x4 ih hf H locs ls hw hl => w_X0_greatestAge_L6b hM ho hk1 (fun x3 x4 H locs ls hf hw hl => ih x3 x4 hf H locs ls hw hl) hw hl hf) n x3 x4 hf
def c_X0_greatestAge (p : Nat) (a1 : Int32) (a2 : Int32) (h : PH) : Option (Int32) :=
  nm (120 : Int32) fun v1 =>
  nm (0 : Int32) fun v2 =>
  lq2 (c_X0_greatestAge_L6b p a1 a2 h
    (fun w7 =>
      some w7)) fu v1 v2
set_option maxHeartbeats 4000000 in
set_option maxRecDepth 100000 in
theorem ct_X0_greatestAge (l : Launch) {lay : List KK} {p : Nat} (ho : okX0 lay p) (a1 : Int32) (a2 : Int32) : CtI l yX0_greatestAge cX0_greatestAge 5 (some .int) 1 21 lay (rd (fun h => c_X0_greatestAge p a1 a2 h)) (fun ad => [.ref (ad p), .int a1, .int a2]) := by
  refine CtI.mk' RX0 (by decide) rfl (fun _ => Nat.le_of_ble_eq_true rfl) ?_
  intro p0 e s m args below meth c D G A H0 ad X h r0 H ls Q hM hw hl hf hR
  have hl : lv_has ls 5 [(0, .ref (ad p)), (1, .int a1), (2, .int a2)] := hl
  obtain ⟨v0, hv0, hr0⟩ : ∃ v0, c_X0_greatestAge p a1 a2 h = some v0 ∧ r0 = (v0, h) := rd_some hf
  subst hr0
  have hf := hv0
  unfold c_X0_greatestAge at hf
  refine lv_bipush (v := 120) hM.1 hM.2.1 dX0_greatestAge_0 (by decide) ?_
  refine x_istore_n hM hf dX0_greatestAge_2 rfl hl (by decide) (fun v1 => [(3, .int v1), (0, .ref (ad p)), (1, .int a1), (2, .int a2)]) (fun _ => rfl) (fun v1 ls hf hl => ?_)
  refine lv_iconst (v := 0) hM.1 hM.2.1 dX0_greatestAge_3 ic_0 ?_
  refine x_istore hM hf dX0_greatestAge_4 hl (by decide) (fun v2 => [(4, .int v2), (3, .int v1), (0, .ref (ad p)), (1, .int a1), (2, .int a2)]) (fun _ => rfl) (fun v2 ls hf hl => ?_)
  refine w_X0_greatestAge_L6 hM ho (fun w7 H locs ls hf hw hl => ?_) fu _ _ hf _ _ _ hw (lv_sub hl [2, 3, 4, 1, 0] rfl)
  refine lv_iload_n hM.1 hM.2.1 dX0_greatestAge_62 rfl (lv_at hl 0 rfl) ?_
  exact hR _ _ _ _ _ _ _ (congrArg (fun z => (z, _)) (Option.some.inj hf)) rfl rfl hw dX0_greatestAge_63
theorem hd_X0_greatestAge : yX0_greatestAge.cls = RX0 ∧ yX0_greatestAge.cls ≠ "java/lang/invoke/MethodHandle" ∧ yX0_greatestAge.cls ≠ "java/lang/invoke/VarHandle" ∧ (parseMethodDescriptor yX0_greatestAge.desc).map (fun d => d.parameters.length) = some 2 := ⟨rfl, by decide, by decide, by decide +kernel⟩
