theorem dX6_clear_0 : decode cX6_clear 0 = .ok (.aload_n 0, 1) := by decide +kernel
theorem dX6_clear_1 : decode cX6_clear 1 = .ok (.iconst 0, 1) := by decide +kernel
theorem dX6_clear_2 : decode cX6_clear 2 = .ok (.putfield 24, 3) := by decide +kernel
theorem dX6_clear_5 : decode cX6_clear 5 = .ok (.return_, 1) := by decide +kernel
def c_X6_clear (p : Nat) (h : PH) : Option (PH) :=
  nm (setI h p 4 0) fun h1 =>
  some h1
set_option maxHeartbeats 4000000 in
set_option maxRecDepth 100000 in
theorem ct_X6_clear (l : Launch) {lay : List KK} {p : Nat} (ho : okX6 lay p) : CtV l yX6_clear cX6_clear 1 (none) 0 0 lay (fun h => c_X6_clear p h) (fun ad => [.ref (ad p)]) := by
  refine CtV.mk' RX6 (by decide) rfl (fun _ => Nat.le_of_ble_eq_true rfl) ?_
  intro p0 e s m args below meth c D G A H0 ad X h r0 H ls Q hM hw hl hf hR
  have hl : lv_has ls 1 [(0, .ref (ad p))] := hl
  unfold c_X6_clear at hf
  refine lv_aload_n hM.1 hM.2.1 dX6_clear_0 rfl (lv_at hl 0 rfl) ?_
  refine lv_iconst (v := 0) hM.1 hM.2.1 dX6_clear_1 ic_0 ?_
  refine pf_X6_count hM hw (okX6.o ho) fl_X6_24 hf dX6_clear_2 (fun h1 H locs hf hw => ?_)
  exact hR _ _ _ _ _ (Option.some.inj hf) rfl hw dX6_clear_5
theorem hd_X6_clear : yX6_clear.cls = RX6 ∧ yX6_clear.cls ≠ "java/lang/invoke/MethodHandle" ∧ yX6_clear.cls ≠ "java/lang/invoke/VarHandle" ∧ (parseMethodDescriptor yX6_clear.desc).map (fun d => d.parameters.length) = some 0 := ⟨rfl, by decide, by decide, by decide +kernel⟩
theorem dX6_add_0 : decode cX6_add 0 = .ok (.aload_n 0, 1) := by decide +kernel
theorem dX6_add_1 : decode cX6_add 1 = .ok (.getfield 24, 3) := by decide +kernel
theorem dX6_add_4 : decode cX6_add 4 = .ok (.bipush 20, 2) := by decide +kernel
theorem dX6_add_6 : decode cX6_add 6 = .ok (.if_icmp .lt 5, 3) := by decide +kernel
theorem dX6_add_9 : decode cX6_add 9 = .ok (.iconst (-1), 1) := by decide +kernel
theorem dX6_add_10 : decode cX6_add 10 = .ok (.ireturn, 1) := by decide +kernel
theorem dX6_add_11 : decode cX6_add 11 = .ok (.aload_n 0, 1) := by decide +kernel
theorem dX6_add_12 : decode cX6_add 12 = .ok (.getfield 9, 3) := by decide +kernel
theorem dX6_add_15 : decode cX6_add 15 = .ok (.aload_n 0, 1) := by decide +kernel
theorem dX6_add_16 : decode cX6_add 16 = .ok (.getfield 24, 3) := by decide +kernel
theorem dX6_add_19 : decode cX6_add 19 = .ok (.iload_n 1, 1) := by decide +kernel
theorem dX6_add_20 : decode cX6_add 20 = .ok (.iastore, 1) := by decide +kernel
theorem dX6_add_21 : decode cX6_add 21 = .ok (.aload_n 0, 1) := by decide +kernel
theorem dX6_add_22 : decode cX6_add 22 = .ok (.getfield 15, 3) := by decide +kernel
theorem dX6_add_25 : decode cX6_add 25 = .ok (.aload_n 0, 1) := by decide +kernel
theorem dX6_add_26 : decode cX6_add 26 = .ok (.getfield 24, 3) := by decide +kernel
theorem dX6_add_29 : decode cX6_add 29 = .ok (.iload_n 2, 1) := by decide +kernel
theorem dX6_add_30 : decode cX6_add 30 = .ok (.iastore, 1) := by decide +kernel
theorem dX6_add_31 : decode cX6_add 31 = .ok (.aload_n 0, 1) := by decide +kernel
theorem dX6_add_32 : decode cX6_add 32 = .ok (.getfield 18, 3) := by decide +kernel
theorem dX6_add_35 : decode cX6_add 35 = .ok (.aload_n 0, 1) := by decide +kernel
theorem dX6_add_36 : decode cX6_add 36 = .ok (.getfield 24, 3) := by decide +kernel
theorem dX6_add_39 : decode cX6_add 39 = .ok (.iload_n 3, 1) := by decide +kernel
theorem dX6_add_40 : decode cX6_add 40 = .ok (.iastore, 1) := by decide +kernel
theorem dX6_add_41 : decode cX6_add 41 = .ok (.aload_n 0, 1) := by decide +kernel
theorem dX6_add_42 : decode cX6_add 42 = .ok (.dup, 1) := by decide +kernel
theorem dX6_add_43 : decode cX6_add 43 = .ok (.getfield 24, 3) := by decide +kernel
theorem dX6_add_46 : decode cX6_add 46 = .ok (.iconst 1, 1) := by decide +kernel
theorem dX6_add_47 : decode cX6_add 47 = .ok (.iadd, 1) := by decide +kernel
theorem dX6_add_48 : decode cX6_add 48 = .ok (.putfield 24, 3) := by decide +kernel
theorem dX6_add_51 : decode cX6_add 51 = .ok (.aload_n 0, 1) := by decide +kernel
theorem dX6_add_52 : decode cX6_add 52 = .ok (.getfield 24, 3) := by decide +kernel
theorem dX6_add_55 : decode cX6_add 55 = .ok (.iconst 1, 1) := by decide +kernel
theorem dX6_add_56 : decode cX6_add 56 = .ok (.isub, 1) := by decide +kernel
theorem dX6_add_57 : decode cX6_add 57 = .ok (.ireturn, 1) := by decide +kernel
def c_X6_add (p : Nat) (a1 : Int32) (a2 : Int32) (a3 : Int32) (h : PH) : Option (Int32 × PH) :=
  if (h.1 p 4) < 20 then
    gd (ixOK (h.1 p 4) 20) <| nm (setI h (p + 1) (h.1 p 4).toNatClampNeg a1) fun h1 =>
    gd (ixOK (h1.1 p 4) 20) <| nm (setI h1 (p + 2) (h1.1 p 4).toNatClampNeg a2) fun h2 =>
    gd (ixOK (h2.1 p 4) 20) <| nm (setI h2 (p + 3) (h2.1 p 4).toNatClampNeg a3) fun h3 =>
    nm (setI h3 p 4 ((h3.1 p 4) + 1)) fun h4 =>
    some (((h4.1 p 4) - 1), h4)
  else
    some ((-1), h)
set_option maxHeartbeats 4000000 in
set_option maxRecDepth 100000 in
theorem ct_X6_add (l : Launch) {lay : List KK} {p : Nat} (ho : okX6 lay p) (a1 : Int32) (a2 : Int32) (a3 : Int32) : CtI l yX6_add cX6_add 4 (some .int) 0 0 lay (fun h => c_X6_add p a1 a2 a3 h) (fun ad => [.ref (ad p), .int a1, .int a2, .int a3]) := by
  refine CtI.mk' RX6 (by decide) rfl (fun _ => Nat.le_of_ble_eq_true rfl) ?_
  intro p0 e s m args below meth c D G A H0 ad X h r0 H ls Q hM hw hl hf hR
  have hl : lv_has ls 4 [(0, .ref (ad p)), (1, .int a1), (2, .int a2), (3, .int a3)] := hl
  unfold c_X6_add at hf
  refine lv_aload_n hM.1 hM.2.1 dX6_add_0 rfl (lv_at hl 0 rfl) ?_
  refine gf_X6_count hM hw (okX6.o ho) fl_X6_24 dX6_add_1 ?_
  refine lv_bipush (v := 20) hM.1 hM.2.1 dX6_add_4 (by decide) ?_
  refine x_ic_lt (tgt := 11) hM hf dX6_add_6 (by decide) (fun hf => ?_) (fun hf => ?_)
  · refine lv_aload_n hM.1 hM.2.1 dX6_add_11 rfl (lv_at hl 0 rfl) ?_
    refine gf_X6_excuses hM hw (okX6.o ho) fl_X6_9 dX6_add_12 ?_
    refine lv_aload_n hM.1 hM.2.1 dX6_add_15 rfl (lv_at hl 0 rfl) ?_
    refine gf_X6_count hM hw (okX6.o ho) fl_X6_24 dX6_add_16 ?_
    refine lv_iload_n hM.1 hM.2.1 dX6_add_19 rfl (lv_at hl 1 rfl) ?_
    refine x_iast hM hw (okX6.excuses ho) hf dX6_add_20 (fun h1 H locs hf hw => ?_)
    refine lv_aload_n hM.1 hM.2.1 dX6_add_21 rfl (lv_at hl 0 rfl) ?_
    refine gf_X6_men hM hw (okX6.o ho) fl_X6_15 dX6_add_22 ?_
    refine lv_aload_n hM.1 hM.2.1 dX6_add_25 rfl (lv_at hl 0 rfl) ?_
    refine gf_X6_count hM hw (okX6.o ho) fl_X6_24 dX6_add_26 ?_
    refine lv_iload_n hM.1 hM.2.1 dX6_add_29 rfl (lv_at hl 2 rfl) ?_
    refine x_iast hM hw (okX6.men ho) hf dX6_add_30 (fun h2 H locs hf hw => ?_)
    refine lv_aload_n hM.1 hM.2.1 dX6_add_31 rfl (lv_at hl 0 rfl) ?_
    refine gf_X6_oftens hM hw (okX6.o ho) fl_X6_18 dX6_add_32 ?_
    refine lv_aload_n hM.1 hM.2.1 dX6_add_35 rfl (lv_at hl 0 rfl) ?_
    refine gf_X6_count hM hw (okX6.o ho) fl_X6_24 dX6_add_36 ?_
    refine lv_iload_n hM.1 hM.2.1 dX6_add_39 rfl (lv_at hl 3 rfl) ?_
    refine x_iast hM hw (okX6.oftens ho) hf dX6_add_40 (fun h3 H locs hf hw => ?_)
    refine lv_aload_n hM.1 hM.2.1 dX6_add_41 rfl (lv_at hl 0 rfl) ?_
    refine lv_dup hM.1 hM.2.1 dX6_add_42 rfl ?_
    refine gf_X6_count hM hw (okX6.o ho) fl_X6_24 dX6_add_43 ?_
    refine lv_iconst (v := 1) hM.1 hM.2.1 dX6_add_46 ic_1 ?_
    refine lv_iadd hM.1 hM.2.1 dX6_add_47 ?_
    refine pf_X6_count hM hw (okX6.o ho) fl_X6_24 hf dX6_add_48 (fun h4 H locs hf hw => ?_)
    refine lv_aload_n hM.1 hM.2.1 dX6_add_51 rfl (lv_at hl 0 rfl) ?_
    refine gf_X6_count hM hw (okX6.o ho) fl_X6_24 dX6_add_52 ?_
    refine lv_iconst (v := 1) hM.1 hM.2.1 dX6_add_55 ic_1 ?_
    refine lv_isub hM.1 hM.2.1 dX6_add_56 ?_
    exact hR _ _ _ _ _ _ _ (Option.some.inj hf) rfl rfl hw dX6_add_57
  refine lv_iconst (v := (-1)) hM.1 hM.2.1 dX6_add_9 ic_m1 ?_
  exact hR _ _ _ _ _ _ _ (Option.some.inj hf) rfl rfl hw dX6_add_10
theorem hd_X6_add : yX6_add.cls = RX6 ∧ yX6_add.cls ≠ "java/lang/invoke/MethodHandle" ∧ yX6_add.cls ≠ "java/lang/invoke/VarHandle" ∧ (parseMethodDescriptor yX6_add.desc).map (fun d => d.parameters.length) = some 3 := ⟨rfl, by decide, by decide, by decide +kernel⟩
theorem dX6_collect_0 : decode cX6_collect 0 = .ok (.iconst 0, 1) := by decide +kernel
theorem dX6_collect_1 : decode cX6_collect 1 = .ok (.istore_n 3, 1) := by decide +kernel
theorem dX6_collect_2 : decode cX6_collect 2 = .ok (.iload_n 3, 1) := by decide +kernel
theorem dX6_collect_3 : decode cX6_collect 3 = .ok (.bipush 7, 2) := by decide +kernel
theorem dX6_collect_5 : decode cX6_collect 5 = .ok (.if_icmp .ge 16, 3) := by decide +kernel
theorem dX6_collect_8 : decode cX6_collect 8 = .ok (.aload_n 0, 1) := by decide +kernel
theorem dX6_collect_9 : decode cX6_collect 9 = .ok (.getfield 21, 3) := by decide +kernel
theorem dX6_collect_12 : decode cX6_collect 12 = .ok (.iload_n 3, 1) := by decide +kernel
theorem dX6_collect_13 : decode cX6_collect 13 = .ok (.iconst (-1), 1) := by decide +kernel
theorem dX6_collect_14 : decode cX6_collect 14 = .ok (.iastore, 1) := by decide +kernel
theorem dX6_collect_15 : decode cX6_collect 15 = .ok (.iinc 3 1, 3) := by decide +kernel
theorem dX6_collect_18 : decode cX6_collect 18 = .ok (.goto (-16), 3) := by decide +kernel
theorem dX6_collect_21 : decode cX6_collect 21 = .ok (.iconst 0, 1) := by decide +kernel
theorem dX6_collect_22 : decode cX6_collect 22 = .ok (.istore_n 3, 1) := by decide +kernel
theorem dX6_collect_23 : decode cX6_collect 23 = .ok (.iload_n 3, 1) := by decide +kernel
theorem dX6_collect_24 : decode cX6_collect 24 = .ok (.iload_n 2, 1) := by decide +kernel
theorem dX6_collect_25 : decode cX6_collect 25 = .ok (.if_icmp .ge 89, 3) := by decide +kernel
theorem dX6_collect_28 : decode cX6_collect 28 = .ok (.iload_n 3, 1) := by decide +kernel
theorem dX6_collect_29 : decode cX6_collect 29 = .ok (.aload_n 0, 1) := by decide +kernel
theorem dX6_collect_30 : decode cX6_collect 30 = .ok (.getfield 24, 3) := by decide +kernel
theorem dX6_collect_33 : decode cX6_collect 33 = .ok (.if_icmp .ge 81, 3) := by decide +kernel
theorem dX6_collect_36 : decode cX6_collect 36 = .ok (.aload_n 0, 1) := by decide +kernel
theorem dX6_collect_37 : decode cX6_collect 37 = .ok (.getfield 9, 3) := by decide +kernel
theorem dX6_collect_40 : decode cX6_collect 40 = .ok (.iload_n 3, 1) := by decide +kernel
theorem dX6_collect_41 : decode cX6_collect 41 = .ok (.iaload, 1) := by decide +kernel
theorem dX6_collect_42 : decode cX6_collect 42 = .ok (.istore 4, 2) := by decide +kernel
theorem dX6_collect_44 : decode cX6_collect 44 = .ok (.aload_n 0, 1) := by decide +kernel
theorem dX6_collect_45 : decode cX6_collect 45 = .ok (.getfield 15, 3) := by decide +kernel
theorem dX6_collect_48 : decode cX6_collect 48 = .ok (.iload_n 3, 1) := by decide +kernel
theorem dX6_collect_49 : decode cX6_collect 49 = .ok (.iaload, 1) := by decide +kernel
theorem dX6_collect_50 : decode cX6_collect 50 = .ok (.iload_n 1, 1) := by decide +kernel
theorem dX6_collect_51 : decode cX6_collect 51 = .ok (.if_icmp .ne 57, 3) := by decide +kernel
theorem dX6_collect_54 : decode cX6_collect 54 = .ok (.iload 4, 2) := by decide +kernel
theorem dX6_collect_56 : decode cX6_collect 56 = .ok (.ifCond .lt 52, 3) := by decide +kernel
theorem dX6_collect_59 : decode cX6_collect 59 = .ok (.iload 4, 2) := by decide +kernel
theorem dX6_collect_61 : decode cX6_collect 61 = .ok (.bipush 7, 2) := by decide +kernel
theorem dX6_collect_63 : decode cX6_collect 63 = .ok (.if_icmp .ge 45, 3) := by decide +kernel
theorem dX6_collect_66 : decode cX6_collect 66 = .ok (.aload_n 0, 1) := by decide +kernel
theorem dX6_collect_67 : decode cX6_collect 67 = .ok (.getfield 21, 3) := by decide +kernel
theorem dX6_collect_70 : decode cX6_collect 70 = .ok (.iload 4, 2) := by decide +kernel
theorem dX6_collect_72 : decode cX6_collect 72 = .ok (.iaload, 1) := by decide +kernel
theorem dX6_collect_73 : decode cX6_collect 73 = .ok (.iconst (-1), 1) := by decide +kernel
theorem dX6_collect_74 : decode cX6_collect 74 = .ok (.if_icmp .eq 21, 3) := by decide +kernel
theorem dX6_collect_77 : decode cX6_collect 77 = .ok (.aload_n 0, 1) := by decide +kernel
theorem dX6_collect_78 : decode cX6_collect 78 = .ok (.getfield 21, 3) := by decide +kernel
theorem dX6_collect_81 : decode cX6_collect 81 = .ok (.iload 4, 2) := by decide +kernel
theorem dX6_collect_83 : decode cX6_collect 83 = .ok (.iaload, 1) := by decide +kernel
theorem dX6_collect_84 : decode cX6_collect 84 = .ok (.aload_n 0, 1) := by decide +kernel
theorem dX6_collect_85 : decode cX6_collect 85 = .ok (.getfield 18, 3) := by decide +kernel
theorem dX6_collect_88 : decode cX6_collect 88 = .ok (.iload_n 3, 1) := by decide +kernel
theorem dX6_collect_89 : decode cX6_collect 89 = .ok (.iaload, 1) := by decide +kernel
theorem dX6_collect_90 : decode cX6_collect 90 = .ok (.if_icmp .eq 5, 3) := by decide +kernel
theorem dX6_collect_93 : decode cX6_collect 93 = .ok (.iconst 0, 1) := by decide +kernel
theorem dX6_collect_94 : decode cX6_collect 94 = .ok (.ireturn, 1) := by decide +kernel
theorem dX6_collect_95 : decode cX6_collect 95 = .ok (.aload_n 0, 1) := by decide +kernel
theorem dX6_collect_96 : decode cX6_collect 96 = .ok (.getfield 21, 3) := by decide +kernel
theorem dX6_collect_99 : decode cX6_collect 99 = .ok (.iload 4, 2) := by decide +kernel
theorem dX6_collect_101 : decode cX6_collect 101 = .ok (.aload_n 0, 1) := by decide +kernel
theorem dX6_collect_102 : decode cX6_collect 102 = .ok (.getfield 18, 3) := by decide +kernel
theorem dX6_collect_105 : decode cX6_collect 105 = .ok (.iload_n 3, 1) := by decide +kernel
theorem dX6_collect_106 : decode cX6_collect 106 = .ok (.iaload, 1) := by decide +kernel
theorem dX6_collect_107 : decode cX6_collect 107 = .ok (.iastore, 1) := by decide +kernel
theorem dX6_collect_108 : decode cX6_collect 108 = .ok (.iinc 3 1, 3) := by decide +kernel
theorem dX6_collect_111 : decode cX6_collect 111 = .ok (.goto (-88), 3) := by decide +kernel
theorem dX6_collect_114 : decode cX6_collect 114 = .ok (.iconst 1, 1) := by decide +kernel
theorem dX6_collect_115 : decode cX6_collect 115 = .ok (.ireturn, 1) := by decide +kernel
def c_X6_collect_L2b {ρ : Type}  (p : Nat) (z1 : Int32) (z2 : Int32) (K1 : PH → Option ρ) (REC : Int32 → PH → Option ρ) (x3 : Int32) (h : PH) : Option ρ :=
  if 7 ≤ x3 then
    K1 h
  else
    gd (ixOK x3 7) <| nm (setI h (p + 4) x3.toNatClampNeg (-1)) fun h2 =>
    nm (x3 + 1) fun v3 =>
    REC v3 h2
set_option maxHeartbeats 4000000 in
set_option maxRecDepth 100000 in
theorem w_X6_collect_L2b {p0 : Program} {l : Launch} {e : Env} {s : State} {m : MethodId} {args : Array Value} {below : List Frame} {meth : Method} {c : Code} {Q : State → Prop} {D : va_G} {G : GG} {A : Nat → Prop} {H0 : Heap} {ad : Nat → Nat} {lay : List KK} {X : va_W} {ρ : Type} {p : Nat} {r0 : ρ} {z1 : Int32} {z2 : Int32} {x3 : Int32} {h : PH} {H : Heap} {locs : List Loc} {ls : Array Slot} {K1 : PH → Option ρ} {REC : Int32 → PH → Option ρ} (hM : CallFix p0 m c cX6_collect 5 s args lw_g RX6) (ho : okX6 lay p) (hk1 : ∀ (h : PH), ∀ (H : Heap) (locs : List Loc) (ls : Array Slot), K1 h = some r0 → Wd D G A H0 ad lay X h s H locs → lv_has ls 5 [(0, .ref (ad p)), (1, .int z1), (2, .int z2)] → W p0 l e (rmN 0 0) s m args below meth c H locs 0 0 Q (F0 m 21 ls [])) (hrec : ∀ (x3 : Int32) (h : PH), ∀ (H : Heap) (locs : List Loc) (ls : Array Slot), REC x3 h = some r0 → Wd D G A H0 ad lay X h s H locs → lv_has ls 5 [(0, .ref (ad p)), (1, .int z1), (2, .int z2), (3, .int x3)] → W p0 l e (rmN 0 0) s m args below meth c H locs 0 0 Q (F0 m 2 ls [])) (hw : Wd D G A H0 ad lay X h s H locs) (hl : lv_has ls 5 [(0, .ref (ad p)), (1, .int z1), (2, .int z2), (3, .int x3)]) (hf : c_X6_collect_L2b p z1 z2 K1 REC x3 h = some r0) : W p0 l e (rmN 0 0) s m args below meth c H locs 0 0 Q (F0 m 2 ls []) := by
  unfold c_X6_collect_L2b at hf
  refine lv_iload_n hM.1 hM.2.1 dX6_collect_2 rfl (lv_at hl 3 rfl) ?_
  refine lv_bipush (v := 7) hM.1 hM.2.1 dX6_collect_3 (by decide) ?_
  refine x_ic_ge (tgt := 21) hM hf dX6_collect_5 (by decide) (fun hf => ?_) (fun hf => ?_)
  · exact hk1 _ _ _ _ hf hw (lv_sub hl [0, 1, 2] rfl)
  refine lv_aload_n hM.1 hM.2.1 dX6_collect_8 rfl (lv_at hl 0 rfl) ?_
  refine gf_X6_due hM hw (okX6.o ho) fl_X6_21 dX6_collect_9 ?_
  refine lv_iload_n hM.1 hM.2.1 dX6_collect_12 rfl (lv_at hl 3 rfl) ?_
  refine lv_iconst (v := (-1)) hM.1 hM.2.1 dX6_collect_13 ic_m1 ?_
  refine x_iast hM hw (okX6.due ho) hf dX6_collect_14 (fun h2 H locs hf hw => ?_)
  refine x_iinc (k := 3) (d := 1) hM hf dX6_collect_15 hl rfl (by decide) (by decide) (fun v3 => [(3, .int v3), (0, .ref (ad p)), (1, .int z1), (2, .int z2)]) (fun _ => rfl) (fun v3 ls hf hl => ?_)
  refine lv_goto (tgt := 2) hM.1 hM.2.1 dX6_collect_18 (by decide) ?_
  exact hrec _ _ _ _ _ hf hw (lv_sub hl [1, 2, 3, 0] rfl)
set_option maxHeartbeats 4000000 in
set_option maxRecDepth 100000 in
theorem w_X6_collect_L2 {p0 : Program} {l : Launch} {e : Env} {s : State} {m : MethodId} {args : Array Value} {below : List Frame} {meth : Method} {c : Code} {Q : State → Prop} {D : va_G} {G : GG} {A : Nat → Prop} {H0 : Heap} {ad : Nat → Nat} {lay : List KK} {X : va_W} {ρ : Type} {p : Nat} {r0 : ρ} {z1 : Int32} {z2 : Int32} {K1 : PH → Option ρ} (hM : CallFix p0 m c cX6_collect 5 s args lw_g RX6) (ho : okX6 lay p) (hk1 : ∀ (h : PH), ∀ (H : Heap) (locs : List Loc) (ls : Array Slot), K1 h = some r0 → Wd D G A H0 ad lay X h s H locs → lv_has ls 5 [(0, .ref (ad p)), (1, .int z1), (2, .int z2)] → W p0 l e (rmN 0 0) s m args below meth c H locs 0 0 Q (F0 m 21 ls [])) (n : Nat) (x3 : Int32) (h : PH) (hf : lq2 (c_X6_collect_L2b p z1 z2 K1) n x3 h = some r0) : ∀ (H : Heap) (locs : List Loc) (ls : Array Slot), Wd D G A H0 ad lay X h s H locs → lv_has ls 5 [(0, .ref (ad p)), (1, .int z1), (2, .int z2), (3, .int x3)] → W p0 l e (rmN 0 0) s m args below meth c H locs 0 0 Q (F0 m 2 ls []) := by
  exact lq2_i (fun (x3 : Int32) (h : PH) => ∀ (H : Heap) (locs : List Loc) (ls : Array Slot), Wd D G A H0 ad lay X h s H locs → lv_has ls 5 [(0, .ref (ad p)), (1, .int z1), (2, .int z2), (3, .int x3)] → W p0 l e (rmN 0 0) s m args below meth c H locs 0 0 Q (F0 m 2 ls [])) (fun REC x3 h ih hf H locs ls hw hl => w_X6_collect_L2b hM ho hk1 (fun x3 h H locs ls hf hw hl => ih x3 h hf H locs ls hw hl) hw hl hf) n x3 h hf
def c_X6_collect_L23b {ρ : Type}  (p : Nat) (z1 : Int32) (z2 : Int32) (K1 : PH → Option ρ) (K2 : PH → Option ρ) (REC : Int32 → PH → Option ρ) (x3 : Int32) (h : PH) : Option ρ :=
  if z2 ≤ x3 then
    K2 h
  else
    if (h.1 p 4) ≤ x3 then
      K2 h
    else
      gd (ixOK x3 20) <|
      nm (h.1 (p + 1) x3.toNatClampNeg) fun v6 =>
      gd (ixOK x3 20) <|
      if (h.1 (p + 2) x3.toNatClampNeg) = z1 then
        if v6 < 0 then
          nm (x3 + 1) fun v8 =>
          REC v8 h
        else
          if 7 ≤ v6 then
            nm (x3 + 1) fun v9 =>
            REC v9 h
          else
            gd (ixOK v6 7) <|
            if (h.1 (p + 4) v6.toNatClampNeg) = (-1) then
              gd (ixOK x3 20) <|
              gd (ixOK v6 7) <| nm (setI h (p + 4) v6.toNatClampNeg (h.1 (p + 3) x3.toNatClampNeg)) fun h10 =>
              nm (x3 + 1) fun v11 =>
              REC v11 h10
            else
              gd (ixOK v6 7) <|
              gd (ixOK x3 20) <|
              if (h.1 (p + 4) v6.toNatClampNeg) = (h.1 (p + 3) x3.toNatClampNeg) then
                gd (ixOK x3 20) <|
                gd (ixOK v6 7) <| nm (setI h (p + 4) v6.toNatClampNeg (h.1 (p + 3) x3.toNatClampNeg)) fun h12 =>
                nm (x3 + 1) fun v13 =>
                REC v13 h12
              else
                K1 h
      else
        nm (x3 + 1) fun v7 =>
        REC v7 h
set_option maxHeartbeats 4000000 in
set_option maxRecDepth 100000 in
theorem w_X6_collect_L23b {p0 : Program} {l : Launch} {e : Env} {s : State} {m : MethodId} {args : Array Value} {below : List Frame} {meth : Method} {c : Code} {Q : State → Prop} {D : va_G} {G : GG} {A : Nat → Prop} {H0 : Heap} {ad : Nat → Nat} {lay : List KK} {X : va_W} {ρ : Type} {p : Nat} {r0 : ρ} {z1 : Int32} {z2 : Int32} {x3 : Int32} {h : PH} {H : Heap} {locs : List Loc} {ls : Array Slot} {K1 : PH → Option ρ} {K2 : PH → Option ρ} {REC : Int32 → PH → Option ρ} (hM : CallFix p0 m c cX6_collect 5 s args lw_g RX6) (ho : okX6 lay p) (hk1 : ∀ (h : PH), ∀ (H : Heap) (locs : List Loc) (ls : Array Slot), K1 h = some r0 → Wd D G A H0 ad lay X h s H locs → lv_has ls 5 [] → W p0 l e (rmN 0 0) s m args below meth c H locs 0 0 Q (F0 m 93 ls [])) (hk2 : ∀ (h : PH), ∀ (H : Heap) (locs : List Loc) (ls : Array Slot), K2 h = some r0 → Wd D G A H0 ad lay X h s H locs → lv_has ls 5 [] → W p0 l e (rmN 0 0) s m args below meth c H locs 0 0 Q (F0 m 114 ls [])) (hrec : ∀ (x3 : Int32) (h : PH), ∀ (H : Heap) (locs : List Loc) (ls : Array Slot), REC x3 h = some r0 → Wd D G A H0 ad lay X h s H locs → lv_has ls 5 [(0, .ref (ad p)), (1, .int z1), (2, .int z2), (3, .int x3)] → W p0 l e (rmN 0 0) s m args below meth c H locs 0 0 Q (F0 m 23 ls [])) (hw : Wd D G A H0 ad lay X h s H locs) (hl : lv_has ls 5 [(0, .ref (ad p)), (1, .int z1), (2, .int z2), (3, .int x3)]) (hf : c_X6_collect_L23b p z1 z2 K1 K2 REC x3 h = some r0) : W p0 l e (rmN 0 0) s m args below meth c H locs 0 0 Q (F0 m 23 ls []) := by
  unfold c_X6_collect_L23b at hf
  refine lv_iload_n hM.1 hM.2.1 dX6_collect_23 rfl (lv_at hl 3 rfl) ?_
  refine lv_iload_n hM.1 hM.2.1 dX6_collect_24 rfl (lv_at hl 2 rfl) ?_
  refine x_ic_ge (tgt := 114) hM hf dX6_collect_25 (by decide) (fun hf => ?_) (fun hf => ?_)
  · exact hk2 _ _ _ _ hf hw (lv_sub hl [] rfl)
  refine lv_iload_n hM.1 hM.2.1 dX6_collect_28 rfl (lv_at hl 3 rfl) ?_
  refine lv_aload_n hM.1 hM.2.1 dX6_collect_29 rfl (lv_at hl 0 rfl) ?_
  refine gf_X6_count hM hw (okX6.o ho) fl_X6_24 dX6_collect_30 ?_
  refine x_ic_ge (tgt := 114) hM hf dX6_collect_33 (by decide) (fun hf => ?_) (fun hf => ?_)
  · exact hk2 _ _ _ _ hf hw (lv_sub hl [] rfl)
  refine lv_aload_n hM.1 hM.2.1 dX6_collect_36 rfl (lv_at hl 0 rfl) ?_
  refine gf_X6_excuses hM hw (okX6.o ho) fl_X6_9 dX6_collect_37 ?_
  refine lv_iload_n hM.1 hM.2.1 dX6_collect_40 rfl (lv_at hl 3 rfl) ?_
  refine x_iald hM hw (okX6.excuses ho) hf dX6_collect_41 (fun hf => ?_)
  refine x_istore hM hf dX6_collect_42 hl (by decide) (fun v6 => [(4, .int v6), (0, .ref (ad p)), (1, .int z1), (2, .int z2), (3, .int x3)]) (fun _ => rfl) (fun v6 ls hf hl => ?_)
  refine lv_aload_n hM.1 hM.2.1 dX6_collect_44 rfl (lv_at hl 1 rfl) ?_
  refine gf_X6_men hM hw (okX6.o ho) fl_X6_15 dX6_collect_45 ?_
  refine lv_iload_n hM.1 hM.2.1 dX6_collect_48 rfl (lv_at hl 4 rfl) ?_
  refine x_iald hM hw (okX6.men ho) hf dX6_collect_49 (fun hf => ?_)
  refine lv_iload_n hM.1 hM.2.1 dX6_collect_50 rfl (lv_at hl 2 rfl) ?_
  refine x_ic_ne (tgt := 108) hM hf dX6_collect_51 (by decide) (fun hf => ?_) (fun hf => ?_)
  · refine x_iinc (k := 4) (d := 1) hM hf dX6_collect_108 hl rfl (by decide) (by decide) (fun v7 => [(3, .int v7), (4, .int v6), (0, .ref (ad p)), (1, .int z1), (2, .int z2)]) (fun _ => rfl) (fun v7 ls hf hl => ?_)
    refine lv_goto (tgt := 23) hM.1 hM.2.1 dX6_collect_111 (by decide) ?_
    exact hrec _ _ _ _ _ hf hw (lv_sub hl [2, 3, 4, 0] rfl)
  refine lv_iload hM.1 hM.2.1 dX6_collect_54 (lv_at hl 0 rfl) ?_
  refine x_if_lt (tgt := 108) hM hf dX6_collect_56 (by decide) (fun hf => ?_) (fun hf => ?_)
  · refine x_iinc (k := 4) (d := 1) hM hf dX6_collect_108 hl rfl (by decide) (by decide) (fun v8 => [(3, .int v8), (4, .int v6), (0, .ref (ad p)), (1, .int z1), (2, .int z2)]) (fun _ => rfl) (fun v8 ls hf hl => ?_)
    refine lv_goto (tgt := 23) hM.1 hM.2.1 dX6_collect_111 (by decide) ?_
    exact hrec _ _ _ _ _ hf hw (lv_sub hl [2, 3, 4, 0] rfl)
  refine lv_iload hM.1 hM.2.1 dX6_collect_59 (lv_at hl 0 rfl) ?_
  refine lv_bipush (v := 7) hM.1 hM.2.1 dX6_collect_61 (by decide) ?_
  refine x_ic_ge (tgt := 108) hM hf dX6_collect_63 (by decide) (fun hf => ?_) (fun hf => ?_)
  · refine x_iinc (k := 4) (d := 1) hM hf dX6_collect_108 hl rfl (by decide) (by decide) (fun v9 => [(3, .int v9), (4, .int v6), (0, .ref (ad p)), (1, .int z1), (2, .int z2)]) (fun _ => rfl) (fun v9 ls hf hl => ?_)
    refine lv_goto (tgt := 23) hM.1 hM.2.1 dX6_collect_111 (by decide) ?_
    exact hrec _ _ _ _ _ hf hw (lv_sub hl [2, 3, 4, 0] rfl)
  refine lv_aload_n hM.1 hM.2.1 dX6_collect_66 rfl (lv_at hl 1 rfl) ?_
  refine gf_X6_due hM hw (okX6.o ho) fl_X6_21 dX6_collect_67 ?_
  refine lv_iload hM.1 hM.2.1 dX6_collect_70 (lv_at hl 0 rfl) ?_
  refine x_iald hM hw (okX6.due ho) hf dX6_collect_72 (fun hf => ?_)
  refine lv_iconst (v := (-1)) hM.1 hM.2.1 dX6_collect_73 ic_m1 ?_
  refine x_ic_eq (tgt := 95) hM hf dX6_collect_74 (by decide) (fun hf => ?_) (fun hf => ?_)
  · refine lv_aload_n hM.1 hM.2.1 dX6_collect_95 rfl (lv_at hl 1 rfl) ?_
    refine gf_X6_due hM hw (okX6.o ho) fl_X6_21 dX6_collect_96 ?_
    refine lv_iload hM.1 hM.2.1 dX6_collect_99 (lv_at hl 0 rfl) ?_
    refine lv_aload_n hM.1 hM.2.1 dX6_collect_101 rfl (lv_at hl 1 rfl) ?_
    refine gf_X6_oftens hM hw (okX6.o ho) fl_X6_18 dX6_collect_102 ?_
    refine lv_iload_n hM.1 hM.2.1 dX6_collect_105 rfl (lv_at hl 4 rfl) ?_
    refine x_iald hM hw (okX6.oftens ho) hf dX6_collect_106 (fun hf => ?_)
    refine x_iast hM hw (okX6.due ho) hf dX6_collect_107 (fun h10 H locs hf hw => ?_)
    refine x_iinc (k := 4) (d := 1) hM hf dX6_collect_108 hl rfl (by decide) (by decide) (fun v11 => [(3, .int v11), (4, .int v6), (0, .ref (ad p)), (1, .int z1), (2, .int z2)]) (fun _ => rfl) (fun v11 ls hf hl => ?_)
    refine lv_goto (tgt := 23) hM.1 hM.2.1 dX6_collect_111 (by decide) ?_
    exact hrec _ _ _ _ _ hf hw (lv_sub hl [2, 3, 4, 0] rfl)
  refine lv_aload_n hM.1 hM.2.1 dX6_collect_77 rfl (lv_at hl 1 rfl) ?_
  refine gf_X6_due hM hw (okX6.o ho) fl_X6_21 dX6_collect_78 ?_
  refine lv_iload hM.1 hM.2.1 dX6_collect_81 (lv_at hl 0 rfl) ?_
  refine x_iald hM hw (okX6.due ho) hf dX6_collect_83 (fun hf => ?_)
  refine lv_aload_n hM.1 hM.2.1 dX6_collect_84 rfl (lv_at hl 1 rfl) ?_
  refine gf_X6_oftens hM hw (okX6.o ho) fl_X6_18 dX6_collect_85 ?_
  refine lv_iload_n hM.1 hM.2.1 dX6_collect_88 rfl (lv_at hl 4 rfl) ?_
  refine x_iald hM hw (okX6.oftens ho) hf dX6_collect_89 (fun hf => ?_)
  refine x_ic_eq (tgt := 95) hM hf dX6_collect_90 (by decide) (fun hf => ?_) (fun hf => ?_)
  · refine lv_aload_n hM.1 hM.2.1 dX6_collect_95 rfl (lv_at hl 1 rfl) ?_
    refine gf_X6_due hM hw (okX6.o ho) fl_X6_21 dX6_collect_96 ?_
    refine lv_iload hM.1 hM.2.1 dX6_collect_99 (lv_at hl 0 rfl) ?_
    refine lv_aload_n hM.1 hM.2.1 dX6_collect_101 rfl (lv_at hl 1 rfl) ?_
    refine gf_X6_oftens hM hw (okX6.o ho) fl_X6_18 dX6_collect_102 ?_
    refine lv_iload_n hM.1 hM.2.1 dX6_collect_105 rfl (lv_at hl 4 rfl) ?_
    refine x_iald hM hw (okX6.oftens ho) hf dX6_collect_106 (fun hf => ?_)
    refine x_iast hM hw (okX6.due ho) hf dX6_collect_107 (fun h12 H locs hf hw => ?_)
    refine x_iinc (k := 4) (d := 1) hM hf dX6_collect_108 hl rfl (by decide) (by decide) (fun v13 => [(3, .int v13), (4, .int v6), (0, .ref (ad p)), (1, .int z1), (2, .int z2)]) (fun _ => rfl) (fun v13 ls hf hl => ?_)
    refine lv_goto (tgt := 23) hM.1 hM.2.1 dX6_collect_111 (by decide) ?_
    exact hrec _ _ _ _ _ hf hw (lv_sub hl [2, 3, 4, 0] rfl)
  exact hk1 _ _ _ _ hf hw (lv_sub hl [] rfl)
set_option maxHeartbeats 4000000 in
set_option maxRecDepth 100000 in
theorem w_X6_collect_L23 {p0 : Program} {l : Launch} {e : Env} {s : State} {m : MethodId} {args : Array Value} {below : List Frame} {meth : Method} {c : Code} {Q : State → Prop} {D : va_G} {G : GG} {A : Nat → Prop} {H0 : Heap} {ad : Nat → Nat} {lay : List KK} {X : va_W} {ρ : Type} {p : Nat} {r0 : ρ} {z1 : Int32} {z2 : Int32} {K1 : PH → Option ρ} {K2 : PH → Option ρ} (hM : CallFix p0 m c cX6_collect 5 s args lw_g RX6) (ho : okX6 lay p) (hk1 : ∀ (h : PH), ∀ (H : Heap) (locs : List Loc) (ls : Array Slot), K1 h = some r0 → Wd D G A H0 ad lay X h s H locs → lv_has ls 5 [] → W p0 l e (rmN 0 0) s m args below meth c H locs 0 0 Q (F0 m 93 ls [])) (hk2 : ∀ (h : PH), ∀ (H : Heap) (locs : List Loc) (ls : Array Slot), K2 h = some r0 → Wd D G A H0 ad lay X h s H locs → lv_has ls 5 [] → W p0 l e (rmN 0 0) s m args below meth c H locs 0 0 Q (F0 m 114 ls [])) (n : Nat) (x3 : Int32) (h : PH) (hf : lq2 (c_X6_collect_L23b p z1 z2 K1 K2) n x3 h = some r0) : ∀ (H : Heap) (locs : List Loc) (ls : Array Slot), Wd D G A H0 ad lay X h s H locs → lv_has ls 5 [(0, .ref (ad p)), (1, .int z1), (2, .int z2), (3, .int x3)] → W p0 l e (rmN 0 0) s m args below meth c H locs 0 0 Q (F0 m 23 ls []) := by
  exact lq2_i (fun (x3 : Int32) (h : PH) => ∀ (H : Heap) (locs : List Loc) (ls : Array Slot), Wd D G A H0 ad lay X h s H locs → lv_has ls 5 [(0, .ref (ad p)), (1, .int z1), (2, .int z2), (3, .int x3)] → W p0 l e (rmN 0 0) s m args below meth c H locs 0 0 Q (F0 m 23 ls [])) (fun REC x3 h ih hf H locs ls hw hl => w_X6_collect_L23b hM ho hk1 hk2 (fun x3 h H locs ls hf hw hl => ih x3 h hf H locs ls hw hl) hw hl hf) n x3 h hf
def c_X6_collect (p : Nat) (a1 : Int32) (a2 : Int32) (h : PH) : Option (Int32 × PH) :=
  nm (0 : Int32) fun v1 =>
  lq2 (c_X6_collect_L2b p a1 a2
    (fun h4 =>
      nm (0 : Int32) fun v5 =>
      lq2 (c_X6_collect_L23b p a1 a2
        (fun h14 =>
          some (0, h14))
        (fun h15 =>
          some (1, h15))) fu v5 h4)) fu v1 h
set_option maxHeartbeats 4000000 in
set_option maxRecDepth 100000 in
theorem ct_X6_collect (l : Launch) {lay : List KK} {p : Nat} (ho : okX6 lay p) (a1 : Int32) (a2 : Int32) : CtI l yX6_collect cX6_collect 5 (some .boolean) 0 0 lay (fun h => c_X6_collect p a1 a2 h) (fun ad => [.ref (ad p), .int a1, .int a2]) := by
  refine CtI.mk' RX6 (by decide) rfl (fun _ => Nat.le_of_ble_eq_true rfl) ?_
  intro p0 e s m args below meth c D G A H0 ad X h r0 H ls Q hM hw hl hf hR
  have hl : lv_has ls 5 [(0, .ref (ad p)), (1, .int a1), (2, .int a2)] := hl
  unfold c_X6_collect at hf
  refine lv_iconst (v := 0) hM.1 hM.2.1 dX6_collect_0 ic_0 ?_
  refine x_istore_n hM hf dX6_collect_1 rfl hl (by decide) (fun v1 => [(3, .int v1), (0, .ref (ad p)), (1, .int a1), (2, .int a2)]) (fun _ => rfl) (fun v1 ls hf hl => ?_)
  refine w_X6_collect_L2 hM ho (fun h4 H locs ls hf hw hl => ?_) fu _ _ hf _ _ _ hw (lv_sub hl [1, 2, 3, 0] rfl)
  refine lv_iconst (v := 0) hM.1 hM.2.1 dX6_collect_21 ic_0 ?_
  refine x_istore_n hM hf dX6_collect_22 rfl hl (by decide) (fun v5 => [(3, .int v5), (0, .ref (ad p)), (1, .int a1), (2, .int a2)]) (fun _ => rfl) (fun v5 ls hf hl => ?_)
  refine w_X6_collect_L23 hM ho (fun h14 H locs ls hf hw hl => ?_) (fun h15 H locs ls hf hw hl => ?_) fu _ _ hf _ _ _ hw (lv_sub hl [1, 2, 3, 0] rfl)
  · refine lv_iconst (v := 0) hM.1 hM.2.1 dX6_collect_93 ic_0 ?_
    exact hR _ _ _ _ _ _ _ (Option.some.inj hf) rfl (nar_z (by decide)) hw dX6_collect_94
  · refine lv_iconst (v := 1) hM.1 hM.2.1 dX6_collect_114 ic_1 ?_
    exact hR _ _ _ _ _ _ _ (Option.some.inj hf) rfl (nar_z (by decide)) hw dX6_collect_115
theorem hd_X6_collect : yX6_collect.cls = RX6 ∧ yX6_collect.cls ≠ "java/lang/invoke/MethodHandle" ∧ yX6_collect.cls ≠ "java/lang/invoke/VarHandle" ∧ (parseMethodDescriptor yX6_collect.desc).map (fun d => d.parameters.length) = some 2 := ⟨rfl, by decide, by decide, by decide +kernel⟩
theorem dX6_dutiesOf_0 : decode cX6_dutiesOf 0 = .ok (.iconst 0, 1) := by decide +kernel
theorem dX6_dutiesOf_1 : decode cX6_dutiesOf 1 = .ok (.istore_n 2, 1) := by decide +kernel
theorem dX6_dutiesOf_2 : decode cX6_dutiesOf 2 = .ok (.iconst 0, 1) := by decide +kernel
theorem dX6_dutiesOf_3 : decode cX6_dutiesOf 3 = .ok (.istore_n 3, 1) := by decide +kernel
theorem dX6_dutiesOf_4 : decode cX6_dutiesOf 4 = .ok (.iload_n 3, 1) := by decide +kernel
theorem dX6_dutiesOf_5 : decode cX6_dutiesOf 5 = .ok (.aload_n 0, 1) := by decide +kernel
theorem dX6_dutiesOf_6 : decode cX6_dutiesOf 6 = .ok (.getfield 49, 3) := by decide +kernel
theorem dX6_dutiesOf_9 : decode cX6_dutiesOf 9 = .ok (.if_icmp .ge 29, 3) := by decide +kernel
theorem dX6_dutiesOf_12 : decode cX6_dutiesOf 12 = .ok (.iload_n 2, 1) := by decide +kernel
theorem dX6_dutiesOf_13 : decode cX6_dutiesOf 13 = .ok (.aload_n 0, 1) := by decide +kernel
theorem dX6_dutiesOf_14 : decode cX6_dutiesOf 14 = .ok (.getfield 52, 3) := by decide +kernel
theorem dX6_dutiesOf_17 : decode cX6_dutiesOf 17 = .ok (.iload_n 3, 1) := by decide +kernel
theorem dX6_dutiesOf_18 : decode cX6_dutiesOf 18 = .ok (.aaload, 1) := by decide +kernel
theorem dX6_dutiesOf_19 : decode cX6_dutiesOf 19 = .ok (.iconst 0, 1) := by decide +kernel
theorem dX6_dutiesOf_20 : decode cX6_dutiesOf 20 = .ok (.iaload, 1) := by decide +kernel
theorem dX6_dutiesOf_21 : decode cX6_dutiesOf 21 = .ok (.iload_n 1, 1) := by decide +kernel
theorem dX6_dutiesOf_22 : decode cX6_dutiesOf 22 = .ok (.if_icmp .ne 7, 3) := by decide +kernel
theorem dX6_dutiesOf_25 : decode cX6_dutiesOf 25 = .ok (.iconst 1, 1) := by decide +kernel
theorem dX6_dutiesOf_26 : decode cX6_dutiesOf 26 = .ok (.goto 4, 3) := by decide +kernel
theorem dX6_dutiesOf_29 : decode cX6_dutiesOf 29 = .ok (.iconst 0, 1) := by decide +kernel
theorem dX6_dutiesOf_30 : decode cX6_dutiesOf 30 = .ok (.iadd, 1) := by decide +kernel
theorem dX6_dutiesOf_31 : decode cX6_dutiesOf 31 = .ok (.istore_n 2, 1) := by decide +kernel
theorem dX6_dutiesOf_32 : decode cX6_dutiesOf 32 = .ok (.iinc 3 1, 3) := by decide +kernel
theorem dX6_dutiesOf_35 : decode cX6_dutiesOf 35 = .ok (.goto (-31), 3) := by decide +kernel
theorem dX6_dutiesOf_38 : decode cX6_dutiesOf 38 = .ok (.iload_n 2, 1) := by decide +kernel
theorem dX6_dutiesOf_39 : decode cX6_dutiesOf 39 = .ok (.ireturn, 1) := by decide +kernel
def c_X6_dutiesOf_L4b {ρ : Type}  (q0 : Nat) (z1 : Int32) (h : PH) (K1 : Int32 → Option ρ) (REC : Int32 → Int32 → Option ρ) (x2 : Int32) (x3 : Int32) : Option ρ :=
  if (h.1 q0 2) ≤ x3 then
    K1 x2
  else
    gd (ixOK x3 9) <|
    if (h.1 (q0 + 21 + 1 + x3.toNatClampNeg) 0) = z1 then
      nm (x2 + 1) fun v6 =>
      nm (x3 + 1) fun v7 =>
      REC v6 v7
    else
      nm (x2 + 0) fun v4 =>
      nm (x3 + 1) fun v5 =>
      REC v4 v5
set_option maxHeartbeats 4000000 in
set_option maxRecDepth 100000 in
theorem w_X6_dutiesOf_L4b {p0 : Program} {l : Launch} {e : Env} {s : State} {m : MethodId} {args : Array Value} {below : List Frame} {meth : Method} {c : Code} {Q : State → Prop} {D : va_G} {G : GG} {A : Nat → Prop} {H0 : Heap} {ad : Nat → Nat} {lay : List KK} {X : va_W} {ρ : Type} {q0 : Nat} {r0 : ρ} {z1 : Int32} {x2 : Int32} {x3 : Int32} {h : PH} {H : Heap} {locs : List Loc} {ls : Array Slot} {K1 : Int32 → Option ρ} {REC : Int32 → Int32 → Option ρ} (hM : CallFix p0 m c cX6_dutiesOf 4 s args lw_g RX6) (ho0 : okX9 lay q0) (hk1 : ∀ (x2 : Int32), ∀ (H : Heap) (locs : List Loc) (ls : Array Slot), K1 x2 = some r0 → Wd D G A H0 ad lay X h s H locs → lv_has ls 4 [(2, .int x2)] → W p0 l e (rmN 0 0) s m args below meth c H locs 0 0 Q (F0 m 38 ls [])) (hrec : ∀ (x2 : Int32) (x3 : Int32), ∀ (H : Heap) (locs : List Loc) (ls : Array Slot), REC x2 x3 = some r0 → Wd D G A H0 ad lay X h s H locs → lv_has ls 4 [(0, .ref (ad q0)), (1, .int z1), (2, .int x2), (3, .int x3)] → W p0 l e (rmN 0 0) s m args below meth c H locs 0 0 Q (F0 m 4 ls [])) (hw : Wd D G A H0 ad lay X h s H locs) (hl : lv_has ls 4 [(0, .ref (ad q0)), (1, .int z1), (2, .int x2), (3, .int x3)]) (hf : c_X6_dutiesOf_L4b q0 z1 h K1 REC x2 x3 = some r0) : W p0 l e (rmN 0 0) s m args below meth c H locs 0 0 Q (F0 m 4 ls []) := by
  unfold c_X6_dutiesOf_L4b at hf
  refine lv_iload_n hM.1 hM.2.1 dX6_dutiesOf_4 rfl (lv_at hl 3 rfl) ?_
  refine lv_aload_n hM.1 hM.2.1 dX6_dutiesOf_5 rfl (lv_at hl 0 rfl) ?_
  refine gf_X9_duties hM hw (okX9.o ho0) fl_X6_49 dX6_dutiesOf_6 ?_
  refine x_ic_ge (tgt := 38) hM hf dX6_dutiesOf_9 (by decide) (fun hf => ?_) (fun hf => ?_)
  · exact hk1 _ _ _ _ hf hw (lv_sub hl [2] rfl)
  refine lv_iload_n hM.1 hM.2.1 dX6_dutiesOf_12 rfl (lv_at hl 2 rfl) ?_
  refine lv_aload_n hM.1 hM.2.1 dX6_dutiesOf_13 rfl (lv_at hl 0 rfl) ?_
  refine gf_X9_dutyRows hM hw (okX9.o ho0) fl_X6_52 dX6_dutiesOf_14 ?_
  refine lv_iload_n hM.1 hM.2.1 dX6_dutiesOf_17 rfl (lv_at hl 3 rfl) ?_
  refine x_aaldI hM hw (okX9.dutyRows ho0) hf dX6_dutiesOf_18 (fun hi3 hf => ?_)
  refine lv_iconst (v := 0) hM.1 hM.2.1 dX6_dutiesOf_19 ic_0 ?_
  refine x_ialdK hM hw (okX9.dutyRows_atI ho0 hi3) 0 (by decide) (by decide) dX6_dutiesOf_20 ?_
  refine lv_iload_n hM.1 hM.2.1 dX6_dutiesOf_21 rfl (lv_at hl 1 rfl) ?_
  refine x_ic_ne (tgt := 29) hM hf dX6_dutiesOf_22 (by decide) (fun hf => ?_) (fun hf => ?_)
  · refine lv_iconst (v := 0) hM.1 hM.2.1 dX6_dutiesOf_29 ic_0 ?_
    refine lv_iadd hM.1 hM.2.1 dX6_dutiesOf_30 ?_
    refine x_istore_n hM hf dX6_dutiesOf_31 rfl hl (by decide) (fun v4 => [(2, .int v4), (0, .ref (ad q0)), (1, .int z1), (3, .int x3)]) (fun _ => rfl) (fun v4 ls hf hl => ?_)
    refine x_iinc (k := 3) (d := 1) hM hf dX6_dutiesOf_32 hl rfl (by decide) (by decide) (fun v5 => [(3, .int v5), (2, .int v4), (0, .ref (ad q0)), (1, .int z1)]) (fun _ => rfl) (fun v5 ls hf hl => ?_)
    refine lv_goto (tgt := 4) hM.1 hM.2.1 dX6_dutiesOf_35 (by decide) ?_
    exact hrec _ _ _ _ _ hf hw (lv_sub hl [2, 3, 1, 0] rfl)
  refine lv_iconst (v := 1) hM.1 hM.2.1 dX6_dutiesOf_25 ic_1 ?_
  refine lv_goto (tgt := 30) hM.1 hM.2.1 dX6_dutiesOf_26 (by decide) ?_
  refine lv_iadd hM.1 hM.2.1 dX6_dutiesOf_30 ?_
  refine x_istore_n hM hf dX6_dutiesOf_31 rfl hl (by decide) (fun v6 => [(2, .int v6), (0, .ref (ad q0)), (1, .int z1), (3, .int x3)]) (fun _ => rfl) (fun v6 ls hf hl => ?_)
  refine x_iinc (k := 3) (d := 1) hM hf dX6_dutiesOf_32 hl rfl (by decide) (by decide) (fun v7 => [(3, .int v7), (2, .int v6), (0, .ref (ad q0)), (1, .int z1)]) (fun _ => rfl) (fun v7 ls hf hl => ?_)
  refine lv_goto (tgt := 4) hM.1 hM.2.1 dX6_dutiesOf_35 (by decide) ?_
  exact hrec _ _ _ _ _ hf hw (lv_sub hl [2, 3, 1, 0] rfl)
set_option maxHeartbeats 4000000 in
set_option maxRecDepth 100000 in
theorem w_X6_dutiesOf_L4 {p0 : Program} {l : Launch} {e : Env} {s : State} {m : MethodId} {args : Array Value} {below : List Frame} {meth : Method} {c : Code} {Q : State → Prop} {D : va_G} {G : GG} {A : Nat → Prop} {H0 : Heap} {ad : Nat → Nat} {lay : List KK} {X : va_W} {ρ : Type} {q0 : Nat} {r0 : ρ} {z1 : Int32} {h : PH} {K1 : Int32 → Option ρ} (hM : CallFix p0 m c cX6_dutiesOf 4 s args lw_g RX6) (ho0 : okX9 lay q0) (hk1 : ∀ (x2 : Int32), ∀ (H : Heap) (locs : List Loc) (ls : Array Slot), K1 x2 = some r0 → Wd D G A H0 ad lay X h s H locs → lv_has ls 4 [(2, .int x2)] → W p0 l e (rmN 0 0) s m args below meth c H locs 0 0 Q (F0 m 38 ls [])) (n : Nat) (x2 : Int32) (x3 : Int32) (hf : lq2 (c_X6_dutiesOf_L4b q0 z1 h K1) n x2 x3 = some r0) : ∀ (H : Heap) (locs : List Loc) (ls : Array Slot), Wd D G A H0 ad lay X h s H locs → lv_has ls 4 [(0, .ref (ad q0)), (1, .int z1), (2, .int x2), (3, .int x3)] → W p0 l e (rmN 0 0) s m args below meth c H locs 0 0 Q (F0 m 4 ls []) := by
  exact lq2_i (fun (x2 : Int32) (x3 : Int32) => ∀ (H : Heap) (locs : List Loc) (ls : Array Slot), Wd D G A H0 ad lay X h s H locs → lv_has ls 4 [(0, .ref (ad q0)), (1, .int z1), (2, .int x2), (3, .int x3)] → W p0 l e (rmN 0 0) s m args below meth c H locs 0 0 Q (F0 m 4 ls [])) (fun REC x2 x3 ih hf H locs ls hw hl => w_X6_dutiesOf_L4b hM ho0 hk1 (fun x2 x3 H locs ls hf hw hl => ih x2 x3 hf H locs ls hw hl) hw hl hf) n x2 x3 hf
def c_X6_dutiesOf (q0 : Nat) (a1 : Int32) (h : PH) : Option (Int32) :=
  nm (0 : Int32) fun v1 =>
  nm (0 : Int32) fun v2 =>
  lq2 (c_X6_dutiesOf_L4b q0 a1 h
    (fun w8 =>
      some w8)) fu v1 v2
set_option maxHeartbeats 4000000 in
set_option maxRecDepth 100000 in
theorem ct_X6_dutiesOf (l : Launch) {lay : List KK} {q0 : Nat} (ho0 : okX9 lay q0) (a1 : Int32) : CtI l yX6_dutiesOf cX6_dutiesOf 4 (some .int) 0 0 lay (rd (fun h => c_X6_dutiesOf q0 a1 h)) (fun ad => [.ref (ad q0), .int a1]) := by
  refine CtI.mk' RX6 (by decide) rfl (fun _ => Nat.le_of_ble_eq_true rfl) ?_
  intro p0 e s m args below meth c D G A H0 ad X h r0 H ls Q hM hw hl hf hR
  have hl : lv_has ls 4 [(0, .ref (ad q0)), (1, .int a1)] := hl
  obtain ⟨v0, hv0, hr0⟩ : ∃ v0, c_X6_dutiesOf q0 a1 h = some v0 ∧ r0 = (v0, h) := rd_some hf
  subst hr0
  have hf := hv0
  unfold c_X6_dutiesOf at hf
  refine lv_iconst (v := 0) hM.1 hM.2.1 dX6_dutiesOf_0 ic_0 ?_
  refine x_istore_n hM hf dX6_dutiesOf_1 rfl hl (by decide) (fun v1 => [(2, .int v1), (0, .ref (ad q0)), (1, .int a1)]) (fun _ => rfl) (fun v1 ls hf hl => ?_)
  refine lv_iconst (v := 0) hM.1 hM.2.1 dX6_dutiesOf_2 ic_0 ?_
  refine x_istore_n hM hf dX6_dutiesOf_3 rfl hl (by decide) (fun v2 => [(3, .int v2), (2, .int v1), (0, .ref (ad q0)), (1, .int a1)]) (fun _ => rfl) (fun v2 ls hf hl => ?_)
  refine w_X6_dutiesOf_L4 hM ho0 (fun w8 H locs ls hf hw hl => ?_) fu _ _ hf _ _ _ hw (lv_sub hl [2, 3, 1, 0] rfl)
  refine lv_iload_n hM.1 hM.2.1 dX6_dutiesOf_38 rfl (lv_at hl 0 rfl) ?_
  exact hR _ _ _ _ _ _ _ (congrArg (fun z => (z, _)) (Option.some.inj hf)) rfl rfl hw dX6_dutiesOf_39
theorem hd_X6_dutiesOf : yX6_dutiesOf.cls ≠ "java/lang/invoke/MethodHandle" ∧ yX6_dutiesOf.cls ≠ "java/lang/invoke/VarHandle" ∧ (parseMethodDescriptor yX6_dutiesOf.desc).map (fun d => d.parameters.length) = some 2 := ⟨by decide, by decide, by decide +kernel⟩
theorem dX6_subsets_0 : decode cX6_subsets 0 = .ok (.iconst 1, 1) := by decide +kernel
theorem dX6_subsets_1 : decode cX6_subsets 1 = .ok (.istore_n 2, 1) := by decide +kernel
theorem dX6_subsets_2 : decode cX6_subsets 2 = .ok (.iconst 0, 1) := by decide +kernel
theorem dX6_subsets_3 : decode cX6_subsets 3 = .ok (.istore_n 3, 1) := by decide +kernel
theorem dX6_subsets_4 : decode cX6_subsets 4 = .ok (.iload_n 3, 1) := by decide +kernel
theorem dX6_subsets_5 : decode cX6_subsets 5 = .ok (.iload_n 1, 1) := by decide +kernel
theorem dX6_subsets_6 : decode cX6_subsets 6 = .ok (.if_icmp .ge 19, 3) := by decide +kernel
theorem dX6_subsets_9 : decode cX6_subsets 9 = .ok (.iload_n 2, 1) := by decide +kernel
theorem dX6_subsets_10 : decode cX6_subsets 10 = .ok (.iload_n 0, 1) := by decide +kernel
theorem dX6_subsets_11 : decode cX6_subsets 11 = .ok (.iload_n 3, 1) := by decide +kernel
theorem dX6_subsets_12 : decode cX6_subsets 12 = .ok (.isub, 1) := by decide +kernel
theorem dX6_subsets_13 : decode cX6_subsets 13 = .ok (.imul, 1) := by decide +kernel
theorem dX6_subsets_14 : decode cX6_subsets 14 = .ok (.iload_n 3, 1) := by decide +kernel
theorem dX6_subsets_15 : decode cX6_subsets 15 = .ok (.iconst 1, 1) := by decide +kernel
theorem dX6_subsets_16 : decode cX6_subsets 16 = .ok (.iadd, 1) := by decide +kernel
theorem dX6_subsets_17 : decode cX6_subsets 17 = .ok (.idiv, 1) := by decide +kernel
theorem dX6_subsets_18 : decode cX6_subsets 18 = .ok (.istore_n 2, 1) := by decide +kernel
theorem dX6_subsets_19 : decode cX6_subsets 19 = .ok (.iinc 3 1, 3) := by decide +kernel
theorem dX6_subsets_22 : decode cX6_subsets 22 = .ok (.goto (-18), 3) := by decide +kernel
theorem dX6_subsets_25 : decode cX6_subsets 25 = .ok (.iload_n 2, 1) := by decide +kernel
theorem dX6_subsets_26 : decode cX6_subsets 26 = .ok (.ireturn, 1) := by decide +kernel
def c_X6_subsets_L4b {ρ : Type}  (z0 : Int32) (z1 : Int32) (K1 : Int32 → Option ρ) (REC : Int32 → Int32 → Option ρ) (x2 : Int32) (x3 : Int32) : Option ρ :=
  if z1 ≤ x3 then
    K1 x2
  else
    if (x3 + 1) = 0 then none else
    nm ((x2 * (z0 - x3)) / (x3 + 1)) fun v3 =>
    nm (x3 + 1) fun v4 =>
    REC v3 v4
set_option maxHeartbeats 4000000 in
set_option maxRecDepth 100000 in
theorem w_X6_subsets_L4b {p0 : Program} {l : Launch} {e : Env} {s : State} {m : MethodId} {args : Array Value} {below : List Frame} {meth : Method} {c : Code} {Q : State → Prop} {D : va_G} {G : GG} {A : Nat → Prop} {H0 : Heap} {ad : Nat → Nat} {lay : List KK} {X : va_W} {ρ : Type} {r0 : ρ} {z0 : Int32} {z1 : Int32} {x2 : Int32} {x3 : Int32} {h : PH} {H : Heap} {locs : List Loc} {ls : Array Slot} {K1 : Int32 → Option ρ} {REC : Int32 → Int32 → Option ρ} (hM : CallFix p0 m c cX6_subsets 4 s args lw_g RX6) (hk1 : ∀ (x2 : Int32), ∀ (H : Heap) (locs : List Loc) (ls : Array Slot), K1 x2 = some r0 → Wd D G A H0 ad lay X h s H locs → lv_has ls 4 [(2, .int x2)] → W p0 l e (rmN 0 0) s m args below meth c H locs 0 0 Q (F0 m 25 ls [])) (hrec : ∀ (x2 : Int32) (x3 : Int32), ∀ (H : Heap) (locs : List Loc) (ls : Array Slot), REC x2 x3 = some r0 → Wd D G A H0 ad lay X h s H locs → lv_has ls 4 [(0, .int z0), (1, .int z1), (2, .int x2), (3, .int x3)] → W p0 l e (rmN 0 0) s m args below meth c H locs 0 0 Q (F0 m 4 ls [])) (hw : Wd D G A H0 ad lay X h s H locs) (hl : lv_has ls 4 [(0, .int z0), (1, .int z1), (2, .int x2), (3, .int x3)]) (hf : c_X6_subsets_L4b z0 z1 K1 REC x2 x3 = some r0) : W p0 l e (rmN 0 0) s m args below meth c H locs 0 0 Q (F0 m 4 ls []) := by
  unfold c_X6_subsets_L4b at hf
  refine lv_iload_n hM.1 hM.2.1 dX6_subsets_4 rfl (lv_at hl 3 rfl) ?_
  refine lv_iload_n hM.1 hM.2.1 dX6_subsets_5 rfl (lv_at hl 1 rfl) ?_
  refine x_ic_ge (tgt := 25) hM hf dX6_subsets_6 (by decide) (fun hf => ?_) (fun hf => ?_)
  · exact hk1 _ _ _ _ hf hw (lv_sub hl [2] rfl)
  refine lv_iload_n hM.1 hM.2.1 dX6_subsets_9 rfl (lv_at hl 2 rfl) ?_
  refine lv_iload_n hM.1 hM.2.1 dX6_subsets_10 rfl (lv_at hl 0 rfl) ?_
  refine lv_iload_n hM.1 hM.2.1 dX6_subsets_11 rfl (lv_at hl 3 rfl) ?_
  refine lv_isub hM.1 hM.2.1 dX6_subsets_12 ?_
  refine lv_imul hM.1 hM.2.1 dX6_subsets_13 ?_
  refine lv_iload_n hM.1 hM.2.1 dX6_subsets_14 rfl (lv_at hl 3 rfl) ?_
  refine lv_iconst (v := 1) hM.1 hM.2.1 dX6_subsets_15 ic_1 ?_
  refine lv_iadd hM.1 hM.2.1 dX6_subsets_16 ?_
  refine x_idiv hM hf dX6_subsets_17 (fun hf => ?_)
  refine x_istore_n hM hf dX6_subsets_18 rfl hl (by decide) (fun v3 => [(2, .int v3), (0, .int z0), (1, .int z1), (3, .int x3)]) (fun _ => rfl) (fun v3 ls hf hl => ?_)
  refine x_iinc (k := 3) (d := 1) hM hf dX6_subsets_19 hl rfl (by decide) (by decide) (fun v4 => [(3, .int v4), (2, .int v3), (0, .int z0), (1, .int z1)]) (fun _ => rfl) (fun v4 ls hf hl => ?_)
  refine lv_goto (tgt := 4) hM.1 hM.2.1 dX6_subsets_22 (by decide) ?_
  exact hrec _ _ _ _ _ hf hw (lv_sub hl [2, 3, 1, 0] rfl)
set_option maxHeartbeats 4000000 in
set_option maxRecDepth 100000 in
theorem w_X6_subsets_L4 {p0 : Program} {l : Launch} {e : Env} {s : State} {m : MethodId} {args : Array Value} {below : List Frame} {meth : Method} {c : Code} {Q : State → Prop} {D : va_G} {G : GG} {A : Nat → Prop} {H0 : Heap} {ad : Nat → Nat} {lay : List KK} {X : va_W} {ρ : Type} {r0 : ρ} {z0 : Int32} {z1 : Int32} {h : PH} {K1 : Int32 → Option ρ} (hM : CallFix p0 m c cX6_subsets 4 s args lw_g RX6) (hk1 : ∀ (x2 : Int32), ∀ (H : Heap) (locs : List Loc) (ls : Array Slot), K1 x2 = some r0 → Wd D G A H0 ad lay X h s H locs → lv_has ls 4 [(2, .int x2)] → W p0 l e (rmN 0 0) s m args below meth c H locs 0 0 Q (F0 m 25 ls [])) (n : Nat) (x2 : Int32) (x3 : Int32) (hf : lq2 (c_X6_subsets_L4b z0 z1 K1) n x2 x3 = some r0) : ∀ (H : Heap) (locs : List Loc) (ls : Array Slot), Wd D G A H0 ad lay X h s H locs → lv_has ls 4 [(0, .int z0), (1, .int z1), (2, .int x2), (3, .int x3)] → W p0 l e (rmN 0 0) s m args below meth c H locs 0 0 Q (F0 m 4 ls []) := by
  exact lq2_i (fun (x2 : Int32) (x3 : Int32) => ∀ (H : Heap) (locs : List Loc) (ls : Array Slot), Wd D G A H0 ad lay X h s H locs → lv_has ls 4 [(0, .int z0), (1, .int z1), (2, .int x2), (3, .int x3)] → W p0 l e (rmN 0 0) s m args below meth c H locs 0 0 Q (F0 m 4 ls [])) (fun REC x2 x3 ih hf H locs ls hw hl => w_X6_subsets_L4b hM hk1 (fun x2 x3 H locs ls hf hw hl => ih x2 x3 hf H locs ls hw hl) hw hl hf) n x2 x3 hf
def c_X6_subsets (a0 : Int32) (a1 : Int32) : Option (Int32) :=
  nm (1 : Int32) fun v1 =>
  nm (0 : Int32) fun v2 =>
  lq2 (c_X6_subsets_L4b a0 a1
    (fun w5 =>
      some w5)) fu v1 v2
set_option maxHeartbeats 4000000 in
set_option maxRecDepth 100000 in
theorem ct_X6_subsets (l : Launch) {lay : List KK} (a0 : Int32) (a1 : Int32) : CtI l yX6_subsets cX6_subsets 4 (some .int) 0 0 lay (rd (fun _ => c_X6_subsets a0 a1)) (fun _ => [.int a0, .int a1]) := by
  refine CtI.mk' RX6 (by decide) rfl (fun _ => Nat.le_of_ble_eq_true rfl) ?_
  intro p0 e s m args below meth c D G A H0 ad X h r0 H ls Q hM hw hl hf hR
  have hl : lv_has ls 4 [(0, .int a0), (1, .int a1)] := hl
  obtain ⟨v0, hv0, hr0⟩ : ∃ v0, c_X6_subsets a0 a1 = some v0 ∧ r0 = (v0, h) := rd_some hf
  subst hr0
  have hf := hv0
  unfold c_X6_subsets at hf
  refine lv_iconst (v := 1) hM.1 hM.2.1 dX6_subsets_0 ic_1 ?_
  refine x_istore_n hM hf dX6_subsets_1 rfl hl (by decide) (fun v1 => [(2, .int v1), (0, .int a0), (1, .int a1)]) (fun _ => rfl) (fun v1 ls hf hl => ?_)
  refine lv_iconst (v := 0) hM.1 hM.2.1 dX6_subsets_2 ic_0 ?_
  refine x_istore_n hM hf dX6_subsets_3 rfl hl (by decide) (fun v2 => [(3, .int v2), (2, .int v1), (0, .int a0), (1, .int a1)]) (fun _ => rfl) (fun v2 ls hf hl => ?_)
  refine w_X6_subsets_L4 hM (fun w5 H locs ls hf hw hl => ?_) fu _ _ hf _ _ _ hw (lv_sub hl [2, 3, 1, 0] rfl)
  refine lv_iload_n hM.1 hM.2.1 dX6_subsets_25 rfl (lv_at hl 0 rfl) ?_
  exact hR _ _ _ _ _ _ _ (congrArg (fun z => (z, _)) (Option.some.inj hf)) rfl rfl hw dX6_subsets_26
theorem hd_X6_subsets : yX6_subsets.cls ≠ "java/lang/invoke/MethodHandle" ∧ yX6_subsets.cls ≠ "java/lang/invoke/VarHandle" ∧ (parseMethodDescriptor yX6_subsets.desc).map (fun d => d.parameters.length) = some 2 := ⟨by decide, by decide, by decide +kernel⟩
theorem dX6_ways_0 : decode cX6_ways 0 = .ok (.aload_n 0, 1) := by decide +kernel
theorem dX6_ways_1 : decode cX6_ways 1 = .ok (.iload_n 2, 1) := by decide +kernel
theorem dX6_ways_2 : decode cX6_ways 2 = .ok (.iload_n 3, 1) := by decide +kernel
theorem dX6_ways_3 : decode cX6_ways 3 = .ok (.invokevirtual 28, 3) := by decide +kernel
theorem dX6_ways_6 : decode cX6_ways 6 = .ok (.ifCond .ne 5, 3) := by decide +kernel
theorem dX6_ways_9 : decode cX6_ways 9 = .ok (.iconst 0, 1) := by decide +kernel
theorem dX6_ways_10 : decode cX6_ways 10 = .ok (.ireturn, 1) := by decide +kernel
theorem dX6_ways_11 : decode cX6_ways 11 = .ok (.aload_n 1, 1) := by decide +kernel
theorem dX6_ways_12 : decode cX6_ways 12 = .ok (.iload_n 2, 1) := by decide +kernel
theorem dX6_ways_13 : decode cX6_ways 13 = .ok (.invokestatic 32, 3) := by decide +kernel
theorem dX6_ways_16 : decode cX6_ways 16 = .ok (.istore 4, 2) := by decide +kernel
theorem dX6_ways_18 : decode cX6_ways 18 = .ok (.iconst 1, 1) := by decide +kernel
theorem dX6_ways_19 : decode cX6_ways 19 = .ok (.istore 5, 2) := by decide +kernel
theorem dX6_ways_21 : decode cX6_ways 21 = .ok (.iconst 1, 1) := by decide +kernel
theorem dX6_ways_22 : decode cX6_ways 22 = .ok (.istore 6, 2) := by decide +kernel
theorem dX6_ways_24 : decode cX6_ways 24 = .ok (.iconst 0, 1) := by decide +kernel
theorem dX6_ways_25 : decode cX6_ways 25 = .ok (.istore 7, 2) := by decide +kernel
theorem dX6_ways_27 : decode cX6_ways 27 = .ok (.iload 7, 2) := by decide +kernel
theorem dX6_ways_29 : decode cX6_ways 29 = .ok (.aload_n 1, 1) := by decide +kernel
theorem dX6_ways_30 : decode cX6_ways 30 = .ok (.getfield 36, 3) := by decide +kernel
theorem dX6_ways_33 : decode cX6_ways 33 = .ok (.if_icmp .ge 59, 3) := by decide +kernel
theorem dX6_ways_36 : decode cX6_ways 36 = .ok (.aload_n 0, 1) := by decide +kernel
theorem dX6_ways_37 : decode cX6_ways 37 = .ok (.getfield 21, 3) := by decide +kernel
theorem dX6_ways_40 : decode cX6_ways 40 = .ok (.iload 7, 2) := by decide +kernel
theorem dX6_ways_42 : decode cX6_ways 42 = .ok (.iaload, 1) := by decide +kernel
theorem dX6_ways_43 : decode cX6_ways 43 = .ok (.iconst (-1), 1) := by decide +kernel
theorem dX6_ways_44 : decode cX6_ways 44 = .ok (.if_icmp .ne 9, 3) := by decide +kernel
theorem dX6_ways_47 : decode cX6_ways 47 = .ok (.iinc 5 1, 3) := by decide +kernel
theorem dX6_ways_50 : decode cX6_ways 50 = .ok (.goto 36, 3) := by decide +kernel
theorem dX6_ways_53 : decode cX6_ways 53 = .ok (.iload 6, 2) := by decide +kernel
theorem dX6_ways_55 : decode cX6_ways 55 = .ok (.iload 4, 2) := by decide +kernel
theorem dX6_ways_57 : decode cX6_ways 57 = .ok (.aload_n 0, 1) := by decide +kernel
theorem dX6_ways_58 : decode cX6_ways 58 = .ok (.getfield 21, 3) := by decide +kernel
theorem dX6_ways_61 : decode cX6_ways 61 = .ok (.iload 7, 2) := by decide +kernel
theorem dX6_ways_63 : decode cX6_ways 63 = .ok (.iaload, 1) := by decide +kernel
theorem dX6_ways_64 : decode cX6_ways 64 = .ok (.invokestatic 40, 3) := by decide +kernel
theorem dX6_ways_67 : decode cX6_ways 67 = .ok (.imul, 1) := by decide +kernel
theorem dX6_ways_68 : decode cX6_ways 68 = .ok (.istore 6, 2) := by decide +kernel
theorem dX6_ways_70 : decode cX6_ways 70 = .ok (.iconst 0, 1) := by decide +kernel
theorem dX6_ways_71 : decode cX6_ways 71 = .ok (.iload 4, 2) := by decide +kernel
theorem dX6_ways_73 : decode cX6_ways 73 = .ok (.aload_n 0, 1) := by decide +kernel
theorem dX6_ways_74 : decode cX6_ways 74 = .ok (.getfield 21, 3) := by decide +kernel
theorem dX6_ways_77 : decode cX6_ways 77 = .ok (.iload 7, 2) := by decide +kernel
theorem dX6_ways_79 : decode cX6_ways 79 = .ok (.iaload, 1) := by decide +kernel
theorem dX6_ways_80 : decode cX6_ways 80 = .ok (.isub, 1) := by decide +kernel
theorem dX6_ways_81 : decode cX6_ways 81 = .ok (.invokestatic 44, 3) := by decide +kernel
theorem dX6_ways_84 : decode cX6_ways 84 = .ok (.istore 4, 2) := by decide +kernel
theorem dX6_ways_86 : decode cX6_ways 86 = .ok (.iinc 7 1, 3) := by decide +kernel
theorem dX6_ways_89 : decode cX6_ways 89 = .ok (.goto (-62), 3) := by decide +kernel
theorem dX6_ways_92 : decode cX6_ways 92 = .ok (.iconst 0, 1) := by decide +kernel
theorem dX6_ways_93 : decode cX6_ways 93 = .ok (.istore 7, 2) := by decide +kernel
theorem dX6_ways_95 : decode cX6_ways 95 = .ok (.iload 7, 2) := by decide +kernel
theorem dX6_ways_97 : decode cX6_ways 97 = .ok (.iload 4, 2) := by decide +kernel
theorem dX6_ways_99 : decode cX6_ways 99 = .ok (.if_icmp .ge 16, 3) := by decide +kernel
theorem dX6_ways_102 : decode cX6_ways 102 = .ok (.iload 6, 2) := by decide +kernel
theorem dX6_ways_104 : decode cX6_ways 104 = .ok (.iload 5, 2) := by decide +kernel
theorem dX6_ways_106 : decode cX6_ways 106 = .ok (.imul, 1) := by decide +kernel
theorem dX6_ways_107 : decode cX6_ways 107 = .ok (.istore 6, 2) := by decide +kernel
theorem dX6_ways_109 : decode cX6_ways 109 = .ok (.iinc 7 1, 3) := by decide +kernel
theorem dX6_ways_112 : decode cX6_ways 112 = .ok (.goto (-17), 3) := by decide +kernel
theorem dX6_ways_115 : decode cX6_ways 115 = .ok (.iload 6, 2) := by decide +kernel
theorem dX6_ways_117 : decode cX6_ways 117 = .ok (.ireturn, 1) := by decide +kernel
def c_X6_ways_L27b {ρ : Type}  (p : Nat) (q1 : Nat) (h : PH) (K1 : Int32 → Int32 → Int32 → Option ρ) (REC : Int32 → Int32 → Int32 → Int32 → Option ρ) (x4 : Int32) (x5 : Int32) (x6 : Int32) (x7 : Int32) : Option ρ :=
  if (h.1 q1 1) ≤ x7 then
    K1 x4 x5 x6
  else
    gd (ixOK x7 7) <|
    if (h.1 (p + 4) x7.toNatClampNeg) = (-1) then
      nm (x5 + 1) fun v12 =>
      nm (x7 + 1) fun v13 =>
      REC x4 v12 x6 v13
    else
      gd (ixOK x7 7) <|
      (c_X6_subsets x4 (h.1 (p + 4) x7.toNatClampNeg)).bind fun r8 =>
      nm (x6 * r8) fun v9 =>
      gd (ixOK x7 7) <|
      nm (jmax 0 (x4 - (h.1 (p + 4) x7.toNatClampNeg))) fun v10 =>
      nm (x7 + 1) fun v11 =>
      REC v10 x5 v9 v11
set_option maxHeartbeats 4000000 in
set_option maxRecDepth 100000 in
theorem w_X6_ways_L27b {p0 : Program} {l : Launch} {e : Env} {s : State} {m : MethodId} {args : Array Value} {below : List Frame} {meth : Method} {c : Code} {Q : State → Prop} {D : va_G} {G : GG} {A : Nat → Prop} {H0 : Heap} {ad : Nat → Nat} {lay : List KK} {X : va_W} {ρ : Type} {p : Nat} {q1 : Nat} {r0 : ρ} {x4 : Int32} {x5 : Int32} {x6 : Int32} {x7 : Int32} {h : PH} {H : Heap} {locs : List Loc} {ls : Array Slot} {K1 : Int32 → Int32 → Int32 → Option ρ} {REC : Int32 → Int32 → Int32 → Int32 → Option ρ} (hM : CallFix p0 m c cX6_ways 8 s args lw_g RX6) (ho : okX6 lay p) (ho1 : okX9 lay q1) (hk1 : ∀ (x4 : Int32) (x5 : Int32) (x6 : Int32), ∀ (H : Heap) (locs : List Loc) (ls : Array Slot), K1 x4 x5 x6 = some r0 → Wd D G A H0 ad lay X h s H locs → lv_has ls 8 [(4, .int x4), (5, .int x5), (6, .int x6)] → W p0 l e (rmN 1 24) s m args below meth c H locs 0 0 Q (F0 m 92 ls [])) (hrec : ∀ (x4 : Int32) (x5 : Int32) (x6 : Int32) (x7 : Int32), ∀ (H : Heap) (locs : List Loc) (ls : Array Slot), REC x4 x5 x6 x7 = some r0 → Wd D G A H0 ad lay X h s H locs → lv_has ls 8 [(0, .ref (ad p)), (1, .ref (ad q1)), (4, .int x4), (5, .int x5), (6, .int x6), (7, .int x7)] → W p0 l e (rmN 1 24) s m args below meth c H locs 0 0 Q (F0 m 27 ls [])) (hw : Wd D G A H0 ad lay X h s H locs) (hl : lv_has ls 8 [(0, .ref (ad p)), (1, .ref (ad q1)), (4, .int x4), (5, .int x5), (6, .int x6), (7, .int x7)]) (hf : c_X6_ways_L27b p q1 h K1 REC x4 x5 x6 x7 = some r0) : W p0 l e (rmN 1 24) s m args below meth c H locs 0 0 Q (F0 m 27 ls []) := by
  unfold c_X6_ways_L27b at hf
  refine lv_iload hM.1 hM.2.1 dX6_ways_27 (lv_at hl 5 rfl) ?_
  refine lv_aload_n hM.1 hM.2.1 dX6_ways_29 rfl (lv_at hl 1 rfl) ?_
  refine gf_X9_excuses hM hw (okX9.o ho1) fl_X6_36 dX6_ways_30 ?_
  refine x_ic_ge (tgt := 92) hM hf dX6_ways_33 (by decide) (fun hf => ?_) (fun hf => ?_)
  · exact hk1 _ _ _ _ _ _ hf hw (lv_sub hl [2, 3, 4] rfl)
  refine lv_aload_n hM.1 hM.2.1 dX6_ways_36 rfl (lv_at hl 0 rfl) ?_
  refine gf_X6_due hM hw (okX6.o ho) fl_X6_21 dX6_ways_37 ?_
  refine lv_iload hM.1 hM.2.1 dX6_ways_40 (lv_at hl 5 rfl) ?_
  refine x_iald hM hw (okX6.due ho) hf dX6_ways_42 (fun hf => ?_)
  refine lv_iconst (v := (-1)) hM.1 hM.2.1 dX6_ways_43 ic_m1 ?_
  refine x_ic_ne (tgt := 53) hM hf dX6_ways_44 (by decide) (fun hf => ?_) (fun hf => ?_)
  · refine lv_iload hM.1 hM.2.1 dX6_ways_53 (lv_at hl 4 rfl) ?_
    refine lv_iload hM.1 hM.2.1 dX6_ways_55 (lv_at hl 2 rfl) ?_
    refine lv_aload_n hM.1 hM.2.1 dX6_ways_57 rfl (lv_at hl 0 rfl) ?_
    refine gf_X6_due hM hw (okX6.o ho) fl_X6_21 dX6_ways_58 ?_
    refine lv_iload hM.1 hM.2.1 dX6_ways_61 (lv_at hl 5 rfl) ?_
    refine x_iald hM hw (okX6.due ho) hf dX6_ways_63 (fun hf => ?_)
    refine x_callSIr (rest := [.int x6]) hM hw (ct_X6_subsets l x4 (h.1 (p + 4) x7.toNatClampNeg)) [.int x4, .int (h.1 (p + 4) x7.toNatClampNeg)] rfl (gi_S ml_X6_40 sm_X6_subsets in_X6 kc_X6_subsets) hd_X6_subsets rfl ⟨Nat.le_of_ble_eq_true rfl, Nat.le_of_ble_eq_true rfl⟩ rfl (Nat.le_of_ble_eq_true rfl) hl.1 hcs0 hf dX6_ways_64 (fun r8 H locs hf hw => ?_)
    refine lv_imul hM.1 hM.2.1 dX6_ways_67 ?_
    refine x_istore hM hf dX6_ways_68 hl (by decide) (fun v9 => [(6, .int v9), (0, .ref (ad p)), (1, .ref (ad q1)), (4, .int x4), (5, .int x5), (7, .int x7)]) (fun _ => rfl) (fun v9 ls hf hl => ?_)
    refine lv_iconst (v := 0) hM.1 hM.2.1 dX6_ways_70 ic_0 ?_
    refine lv_iload hM.1 hM.2.1 dX6_ways_71 (lv_at hl 3 rfl) ?_
    refine lv_aload_n hM.1 hM.2.1 dX6_ways_73 rfl (lv_at hl 1 rfl) ?_
    refine gf_X6_due hM hw (okX6.o ho) fl_X6_21 dX6_ways_74 ?_
    refine lv_iload hM.1 hM.2.1 dX6_ways_77 (lv_at hl 5 rfl) ?_
    refine x_iald hM hw (okX6.due ho) hf dX6_ways_79 (fun hf => ?_)
    refine lv_isub hM.1 hM.2.1 dX6_ways_80 ?_
    refine x_mmax hM hl.1 hcs0 ml_X6_44 sm_J9_max_7cf53 in_J9 kc_J9_max_7cf53 (Nat.le_of_ble_eq_true rfl) (Nat.le_of_ble_eq_true rfl) dX6_ways_81 ?_
    refine x_istore hM hf dX6_ways_84 hl (by decide) (fun v10 => [(4, .int v10), (6, .int v9), (0, .ref (ad p)), (1, .ref (ad q1)), (5, .int x5), (7, .int x7)]) (fun _ => rfl) (fun v10 ls hf hl => ?_)
    refine x_iinc (k := 5) (d := 1) hM hf dX6_ways_86 hl rfl (by decide) (by decide) (fun v11 => [(7, .int v11), (4, .int v10), (6, .int v9), (0, .ref (ad p)), (1, .ref (ad q1)), (5, .int x5)]) (fun _ => rfl) (fun v11 ls hf hl => ?_)
    refine lv_goto (tgt := 27) hM.1 hM.2.1 dX6_ways_89 (by decide) ?_
    exact hrec _ _ _ _ _ _ _ hf hw (lv_sub hl [3, 4, 1, 5, 2, 0] rfl)
  refine x_iinc (k := 3) (d := 1) hM hf dX6_ways_47 hl rfl (by decide) (by decide) (fun v12 => [(5, .int v12), (0, .ref (ad p)), (1, .ref (ad q1)), (4, .int x4), (6, .int x6), (7, .int x7)]) (fun _ => rfl) (fun v12 ls hf hl => ?_)
  refine lv_goto (tgt := 86) hM.1 hM.2.1 dX6_ways_50 (by decide) ?_
  refine x_iinc (k := 5) (d := 1) hM hf dX6_ways_86 hl rfl (by decide) (by decide) (fun v13 => [(7, .int v13), (5, .int v12), (0, .ref (ad p)), (1, .ref (ad q1)), (4, .int x4), (6, .int x6)]) (fun _ => rfl) (fun v13 ls hf hl => ?_)
  refine lv_goto (tgt := 27) hM.1 hM.2.1 dX6_ways_89 (by decide) ?_
  exact hrec _ _ _ _ _ _ _ hf hw (lv_sub hl [2, 3, 4, 1, 5, 0] rfl)
set_option maxHeartbeats 4000000 in
set_option maxRecDepth 100000 in
theorem w_X6_ways_L27 {p0 : Program} {l : Launch} {e : Env} {s : State} {m : MethodId} {args : Array Value} {below : List Frame} {meth : Method} {c : Code} {Q : State → Prop} {D : va_G} {G : GG} {A : Nat → Prop} {H0 : Heap} {ad : Nat → Nat} {lay : List KK} {X : va_W} {ρ : Type} {p : Nat} {q1 : Nat} {r0 : ρ} {h : PH} {K1 : Int32 → Int32 → Int32 → Option ρ} (hM : CallFix p0 m c cX6_ways 8 s args lw_g RX6) (ho : okX6 lay p) (ho1 : okX9 lay q1) (hk1 : ∀ (x4 : Int32) (x5 : Int32) (x6 : Int32), ∀ (H : Heap) (locs : List Loc) (ls : Array Slot), K1 x4 x5 x6 = some r0 → Wd D G A H0 ad lay X h s H locs → lv_has ls 8 [(4, .int x4), (5, .int x5), (6, .int x6)] → W p0 l e (rmN 1 24) s m args below meth c H locs 0 0 Q (F0 m 92 ls [])) (n : Nat) (x4 : Int32) (x5 : Int32) (x6 : Int32) (x7 : Int32) (hf : lq4 (c_X6_ways_L27b p q1 h K1) n x4 x5 x6 x7 = some r0) : ∀ (H : Heap) (locs : List Loc) (ls : Array Slot), Wd D G A H0 ad lay X h s H locs → lv_has ls 8 [(0, .ref (ad p)), (1, .ref (ad q1)), (4, .int x4), (5, .int x5), (6, .int x6), (7, .int x7)] → W p0 l e (rmN 1 24) s m args below meth c H locs 0 0 Q (F0 m 27 ls []) := by
  exact lq4_i (fun (x4 : Int32) (x5 : Int32) (x6 : Int32) (x7 : Int32) => ∀ (H : Heap) (locs : List Loc) (ls : Array Slot), Wd D G A H0 ad lay X h s H locs → lv_has ls 8 [(0, .ref (ad p)), (1, .ref (ad q1)), (4, .int x4), (5, .int x5), (6, .int x6), (7, .int x7)] → W p0 l e (rmN 1 24) s m args below meth c H locs 0 0 Q (F0 m 27 ls [])) (fun REC x4 x5 x6 x7 ih hf H locs ls hw hl => w_X6_ways_L27b hM ho ho1 hk1 (fun x4 x5 x6 x7 H locs ls hf hw hl => ih x4 x5 x6 x7 hf H locs ls hw hl) hw hl hf) n x4 x5 x6 x7 hf
def c_X6_ways_L95b {ρ : Type}  (p : Nat) (q1 : Nat) (z4 : Int32) (z5 : Int32) (h : PH) (K1 : Int32 → Option ρ) (REC : Int32 → Int32 → Option ρ) (x6 : Int32) (x7 : Int32) : Option ρ :=
  if z4 ≤ x7 then
    K1 x6
  else
    nm (x6 * z5) fun v18 =>
    nm (x7 + 1) fun v19 =>
    REC v18 v19
set_option maxHeartbeats 4000000 in
set_option maxRecDepth 100000 in
theorem w_X6_ways_L95b {p0 : Program} {l : Launch} {e : Env} {s : State} {m : MethodId} {args : Array Value} {below : List Frame} {meth : Method} {c : Code} {Q : State → Prop} {D : va_G} {G : GG} {A : Nat → Prop} {H0 : Heap} {ad : Nat → Nat} {lay : List KK} {X : va_W} {ρ : Type} {p : Nat} {q1 : Nat} {r0 : ρ} {z4 : Int32} {z5 : Int32} {x6 : Int32} {x7 : Int32} {h : PH} {H : Heap} {locs : List Loc} {ls : Array Slot} {K1 : Int32 → Option ρ} {REC : Int32 → Int32 → Option ρ} (hM : CallFix p0 m c cX6_ways 8 s args lw_g RX6) (ho : okX6 lay p) (ho1 : okX9 lay q1) (hk1 : ∀ (x6 : Int32), ∀ (H : Heap) (locs : List Loc) (ls : Array Slot), K1 x6 = some r0 → Wd D G A H0 ad lay X h s H locs → lv_has ls 8 [(6, .int x6)] → W p0 l e (rmN 1 24) s m args below meth c H locs 0 0 Q (F0 m 115 ls [])) (hrec : ∀ (x6 : Int32) (x7 : Int32), ∀ (H : Heap) (locs : List Loc) (ls : Array Slot), REC x6 x7 = some r0 → Wd D G A H0 ad lay X h s H locs → lv_has ls 8 [(4, .int z4), (5, .int z5), (6, .int x6), (7, .int x7)] → W p0 l e (rmN 1 24) s m args below meth c H locs 0 0 Q (F0 m 95 ls [])) (hw : Wd D G A H0 ad lay X h s H locs) (hl : lv_has ls 8 [(4, .int z4), (5, .int z5), (6, .int x6), (7, .int x7)]) (hf : c_X6_ways_L95b p q1 z4 z5 h K1 REC x6 x7 = some r0) : W p0 l e (rmN 1 24) s m args below meth c H locs 0 0 Q (F0 m 95 ls []) := by
  unfold c_X6_ways_L95b at hf
  refine lv_iload hM.1 hM.2.1 dX6_ways_95 (lv_at hl 3 rfl) ?_
  refine lv_iload hM.1 hM.2.1 dX6_ways_97 (lv_at hl 0 rfl) ?_
  refine x_ic_ge (tgt := 115) hM hf dX6_ways_99 (by decide) (fun hf => ?_) (fun hf => ?_)
  · exact hk1 _ _ _ _ hf hw (lv_sub hl [2] rfl)
  refine lv_iload hM.1 hM.2.1 dX6_ways_102 (lv_at hl 2 rfl) ?_
  refine lv_iload hM.1 hM.2.1 dX6_ways_104 (lv_at hl 1 rfl) ?_
  refine lv_imul hM.1 hM.2.1 dX6_ways_106 ?_
  refine x_istore hM hf dX6_ways_107 hl (by decide) (fun v18 => [(6, .int v18), (4, .int z4), (5, .int z5), (7, .int x7)]) (fun _ => rfl) (fun v18 ls hf hl => ?_)
  refine x_iinc (k := 3) (d := 1) hM hf dX6_ways_109 hl rfl (by decide) (by decide) (fun v19 => [(7, .int v19), (6, .int v18), (4, .int z4), (5, .int z5)]) (fun _ => rfl) (fun v19 ls hf hl => ?_)
  refine lv_goto (tgt := 95) hM.1 hM.2.1 dX6_ways_112 (by decide) ?_
  exact hrec _ _ _ _ _ hf hw (lv_sub hl [2, 3, 1, 0] rfl)
set_option maxHeartbeats 4000000 in
set_option maxRecDepth 100000 in
theorem w_X6_ways_L95 {p0 : Program} {l : Launch} {e : Env} {s : State} {m : MethodId} {args : Array Value} {below : List Frame} {meth : Method} {c : Code} {Q : State → Prop} {D : va_G} {G : GG} {A : Nat → Prop} {H0 : Heap} {ad : Nat → Nat} {lay : List KK} {X : va_W} {ρ : Type} {p : Nat} {q1 : Nat} {r0 : ρ} {z4 : Int32} {z5 : Int32} {h : PH} {K1 : Int32 → Option ρ} (hM : CallFix p0 m c cX6_ways 8 s args lw_g RX6) (ho : okX6 lay p) (ho1 : okX9 lay q1) (hk1 : ∀ (x6 : Int32), ∀ (H : Heap) (locs : List Loc) (ls : Array Slot), K1 x6 = some r0 → Wd D G A H0 ad lay X h s H locs → lv_has ls 8 [(6, .int x6)] → W p0 l e (rmN 1 24) s m args below meth c H locs 0 0 Q (F0 m 115 ls [])) (n : Nat) (x6 : Int32) (x7 : Int32) (hf : lq2 (c_X6_ways_L95b p q1 z4 z5 h K1) n x6 x7 = some r0) : ∀ (H : Heap) (locs : List Loc) (ls : Array Slot), Wd D G A H0 ad lay X h s H locs → lv_has ls 8 [(4, .int z4), (5, .int z5), (6, .int x6), (7, .int x7)] → W p0 l e (rmN 1 24) s m args below meth c H locs 0 0 Q (F0 m 95 ls []) := by
  exact lq2_i (fun (x6 : Int32) (x7 : Int32) => ∀ (H : Heap) (locs : List Loc) (ls : Array Slot), Wd D G A H0 ad lay X h s H locs → lv_has ls 8 [(4, .int z4), (5, .int z5), (6, .int x6), (7, .int x7)] → W p0 l e (rmN 1 24) s m args below meth c H locs 0 0 Q (F0 m 95 ls [])) (fun REC x6 x7 ih hf H locs ls hw hl => w_X6_ways_L95b hM ho ho1 hk1 (fun x6 x7 H locs ls hf hw hl => ih x6 x7 hf H locs ls hw hl) hw hl hf) n x6 x7 hf
def c_X6_ways (p : Nat) (q1 : Nat) (a2 : Int32) (a3 : Int32) (h : PH) : Option (Int32 × PH) :=
  bind2 (c_X6_collect p a2 a3 h) fun r1 h2 =>
  if r1 = 0 then
    some (0, h2)
  else
    (c_X6_dutiesOf q1 a2 h2).bind fun r3 =>
    nm r3 fun v4 =>
    nm (1 : Int32) fun v5 =>
    nm (1 : Int32) fun v6 =>
    nm (0 : Int32) fun v7 =>
    lq4 (c_X6_ways_L27b p q1 h2
      (fun w14 w15 w16 =>
        nm (0 : Int32) fun v17 =>
        lq2 (c_X6_ways_L95b p q1 w14 w15 h2
          (fun w20 =>
            some (w20, h2))) fu w16 v17)) fu v4 v5 v6 v7
set_option maxHeartbeats 4000000 in
set_option maxRecDepth 100000 in
theorem ct_X6_ways (l : Launch) {lay : List KK} {p : Nat} {q1 : Nat} (ho : okX6 lay p) (ho1 : okX9 lay q1) (a2 : Int32) (a3 : Int32) : CtI l yX6_ways cX6_ways 8 (some .int) 1 24 lay (fun h => c_X6_ways p q1 a2 a3 h) (fun ad => [.ref (ad p), .ref (ad q1), .int a2, .int a3]) := by
  refine CtI.mk' RX6 (by decide) rfl (fun _ => Nat.le_of_ble_eq_true rfl) ?_
  intro p0 e s m args below meth c D G A H0 ad X h r0 H ls Q hM hw hl hf hR
  have hl : lv_has ls 8 [(0, .ref (ad p)), (1, .ref (ad q1)), (2, .int a2), (3, .int a3)] := hl
  unfold c_X6_ways at hf
  refine lv_aload_n hM.1 hM.2.1 dX6_ways_0 rfl (lv_at hl 0 rfl) ?_
  refine lv_iload_n hM.1 hM.2.1 dX6_ways_1 rfl (lv_at hl 2 rfl) ?_
  refine lv_iload_n hM.1 hM.2.1 dX6_ways_2 rfl (lv_at hl 3 rfl) ?_
  refine x_callVI (rest := []) hM hw (ct_X6_collect l ho a2 a3) [.int a2, .int a3] (okX6.o ho) rfl rfl rfl (gi_V ml_X6_28 im_X6_collect sl_X6_collect in_X6 kc_X6_collect) hd_X6_collect rfl ⟨Nat.le_of_ble_eq_true rfl, Nat.le_of_ble_eq_true rfl⟩ rfl (Nat.le_of_ble_eq_true rfl) hl.1 hcs0 hf dX6_ways_3 (fun r1 h2 H locs hf hw => ?_)
  refine x_if_ne (tgt := 11) hM hf dX6_ways_6 (by decide) (fun hf => ?_) (fun hf => ?_)
  · refine lv_aload_n hM.1 hM.2.1 dX6_ways_11 rfl (lv_at hl 1 rfl) ?_
    refine lv_iload_n hM.1 hM.2.1 dX6_ways_12 rfl (lv_at hl 2 rfl) ?_
    refine x_callSIr (rest := []) hM hw (ct_X6_dutiesOf l ho1 a2) [.ref (ad q1), .int a2] rfl (gi_S ml_X6_32 sm_X6_dutiesOf in_X6 kc_X6_dutiesOf) hd_X6_dutiesOf rfl ⟨Nat.le_of_ble_eq_true rfl, Nat.le_of_ble_eq_true rfl⟩ rfl (Nat.le_of_ble_eq_true rfl) hl.1 hcs0 hf dX6_ways_13 (fun r3 H locs hf hw => ?_)
    refine x_istore hM hf dX6_ways_16 hl (by decide) (fun v4 => [(4, .int v4), (0, .ref (ad p)), (1, .ref (ad q1)), (2, .int a2), (3, .int a3)]) (fun _ => rfl) (fun v4 ls hf hl => ?_)
    refine lv_iconst (v := 1) hM.1 hM.2.1 dX6_ways_18 ic_1 ?_
    refine x_istore hM hf dX6_ways_19 hl (by decide) (fun v5 => [(5, .int v5), (4, .int v4), (0, .ref (ad p)), (1, .ref (ad q1)), (2, .int a2), (3, .int a3)]) (fun _ => rfl) (fun v5 ls hf hl => ?_)
    refine lv_iconst (v := 1) hM.1 hM.2.1 dX6_ways_21 ic_1 ?_
    refine x_istore hM hf dX6_ways_22 hl (by decide) (fun v6 => [(6, .int v6), (5, .int v5), (4, .int v4), (0, .ref (ad p)), (1, .ref (ad q1)), (2, .int a2), (3, .int a3)]) (fun _ => rfl) (fun v6 ls hf hl => ?_)
    refine lv_iconst (v := 0) hM.1 hM.2.1 dX6_ways_24 ic_0 ?_
    refine x_istore hM hf dX6_ways_25 hl (by decide) (fun v7 => [(7, .int v7), (6, .int v6), (5, .int v5), (4, .int v4), (0, .ref (ad p)), (1, .ref (ad q1)), (2, .int a2), (3, .int a3)]) (fun _ => rfl) (fun v7 ls hf hl => ?_)
    refine w_X6_ways_L27 hM ho ho1 (fun w14 w15 w16 H locs ls hf hw hl => ?_) fu _ _ _ _ hf _ _ _ hw (lv_sub hl [4, 5, 3, 2, 1, 0] rfl)
    refine lv_iconst (v := 0) hM.1 hM.2.1 dX6_ways_92 ic_0 ?_
    refine x_istore hM hf dX6_ways_93 hl (by decide) (fun v17 => [(7, .int v17), (4, .int w14), (5, .int w15), (6, .int w16)]) (fun _ => rfl) (fun v17 ls hf hl => ?_)
    refine w_X6_ways_L95 hM ho ho1 (fun w20 H locs ls hf hw hl => ?_) fu _ _ hf _ _ _ hw (lv_sub hl [1, 2, 3, 0] rfl)
    refine lv_iload hM.1 hM.2.1 dX6_ways_115 (lv_at hl 0 rfl) ?_
    exact hR _ _ _ _ _ _ _ (Option.some.inj hf) rfl rfl hw dX6_ways_117
  refine lv_iconst (v := 0) hM.1 hM.2.1 dX6_ways_9 ic_0 ?_
  exact hR _ _ _ _ _ _ _ (Option.some.inj hf) rfl rfl hw dX6_ways_10
theorem hd_X6_ways : yX6_ways.cls = RX6 ∧ yX6_ways.cls ≠ "java/lang/invoke/MethodHandle" ∧ yX6_ways.cls ≠ "java/lang/invoke/VarHandle" ∧ (parseMethodDescriptor yX6_ways.desc).map (fun d => d.parameters.length) = some 3 := ⟨rfl, by decide, by decide, by decide +kernel⟩
