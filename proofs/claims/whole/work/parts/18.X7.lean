theorem dX7_bestAt_0 : decode cX7_bestAt 0 = .ok (.iload_n 1, 1) := by decide +kernel
theorem dX7_bestAt_1 : decode cX7_bestAt 1 = .ok (.ifCond .lt 20, 3) := by decide +kernel
theorem dX7_bestAt_4 : decode cX7_bestAt 4 = .ok (.iload_n 1, 1) := by decide +kernel
theorem dX7_bestAt_5 : decode cX7_bestAt 5 = .ok (.aload_n 0, 1) := by decide +kernel
theorem dX7_bestAt_6 : decode cX7_bestAt 6 = .ok (.getfield 31, 3) := by decide +kernel
theorem dX7_bestAt_9 : decode cX7_bestAt 9 = .ok (.if_icmp .ge 12, 3) := by decide +kernel
theorem dX7_bestAt_12 : decode cX7_bestAt 12 = .ok (.aload_n 0, 1) := by decide +kernel
theorem dX7_bestAt_13 : decode cX7_bestAt 13 = .ok (.getfield 28, 3) := by decide +kernel
theorem dX7_bestAt_16 : decode cX7_bestAt 16 = .ok (.iload_n 1, 1) := by decide +kernel
theorem dX7_bestAt_17 : decode cX7_bestAt 17 = .ok (.iaload, 1) := by decide +kernel
theorem dX7_bestAt_18 : decode cX7_bestAt 18 = .ok (.goto 5, 3) := by decide +kernel
theorem dX7_bestAt_21 : decode cX7_bestAt 21 = .ok (.bipush (-2), 2) := by decide +kernel
theorem dX7_bestAt_23 : decode cX7_bestAt 23 = .ok (.ireturn, 1) := by decide +kernel
def c_X7_bestAt (p : Nat) (a1 : Int32) (h : PH) : Option (Int32) :=
  if a1 < 0 then
    some (-2)
  else
    if (h.1 p 5) ≤ a1 then
      some (-2)
    else
      gd (ixOK a1 3) <|
      some (h.1 (p + 7) a1.toNatClampNeg)
set_option maxHeartbeats 4000000 in
set_option maxRecDepth 100000 in
theorem ct_X7_bestAt (l : Launch) {lay : List KK} {p : Nat} (ho : okX7 lay p) (a1 : Int32) : CtI l yX7_bestAt cX7_bestAt 2 (some .int) 0 0 lay (rd (fun h => c_X7_bestAt p a1 h)) (fun ad => [.ref (ad p), .int a1]) := by
  refine CtI.mk' RX7 (by decide) rfl (fun _ => Nat.le_of_ble_eq_true rfl) ?_
  intro p0 e s m args below meth c D G A H0 ad X h r0 H ls Q hM hw hl hf hR
  have hl : lv_has ls 2 [(0, .ref (ad p)), (1, .int a1)] := hl
  obtain ⟨v0, hv0, hr0⟩ : ∃ v0, c_X7_bestAt p a1 h = some v0 ∧ r0 = (v0, h) := rd_some hf
  subst hr0
  have hf := hv0
  unfold c_X7_bestAt at hf
  refine lv_iload_n hM.1 hM.2.1 dX7_bestAt_0 rfl (lv_at hl 1 rfl) ?_
  refine x_if_lt (tgt := 21) hM hf dX7_bestAt_1 (by decide) (fun hf => ?_) (fun hf => ?_)
  · refine lv_bipush (v := (-2)) hM.1 hM.2.1 dX7_bestAt_21 (by decide) ?_
    exact hR _ _ _ _ _ _ _ (congrArg (fun z => (z, _)) (Option.some.inj hf)) rfl rfl hw dX7_bestAt_23
  refine lv_iload_n hM.1 hM.2.1 dX7_bestAt_4 rfl (lv_at hl 1 rfl) ?_
  refine lv_aload_n hM.1 hM.2.1 dX7_bestAt_5 rfl (lv_at hl 0 rfl) ?_
  refine gf_X7_size hM hw (okX7.o ho) fl_X7_31 dX7_bestAt_6 ?_
  refine x_ic_ge (tgt := 21) hM hf dX7_bestAt_9 (by decide) (fun hf => ?_) (fun hf => ?_)
  · refine lv_bipush (v := (-2)) hM.1 hM.2.1 dX7_bestAt_21 (by decide) ?_
    exact hR _ _ _ _ _ _ _ (congrArg (fun z => (z, _)) (Option.some.inj hf)) rfl rfl hw dX7_bestAt_23
  refine lv_aload_n hM.1 hM.2.1 dX7_bestAt_12 rfl (lv_at hl 0 rfl) ?_
  refine gf_X7_best hM hw (okX7.o ho) fl_X7_28 dX7_bestAt_13 ?_
  refine lv_iload_n hM.1 hM.2.1 dX7_bestAt_16 rfl (lv_at hl 1 rfl) ?_
  refine x_iald hM hw (okX7.best ho) hf dX7_bestAt_17 (fun hf => ?_)
  refine lv_goto (tgt := 23) hM.1 hM.2.1 dX7_bestAt_18 (by decide) ?_
  exact hR _ _ _ _ _ _ _ (congrArg (fun z => (z, _)) (Option.some.inj hf)) rfl rfl hw dX7_bestAt_23
theorem hd_X7_bestAt : yX7_bestAt.cls = RX7 ∧ yX7_bestAt.cls ≠ "java/lang/invoke/MethodHandle" ∧ yX7_bestAt.cls ≠ "java/lang/invoke/VarHandle" ∧ (parseMethodDescriptor yX7_bestAt.desc).map (fun d => d.parameters.length) = some 1 := ⟨rfl, by decide, by decide, by decide +kernel⟩
theorem dX7_dayOf_0 : decode cX7_dayOf 0 = .ok (.aload_n 1, 1) := by decide +kernel
theorem dX7_dayOf_1 : decode cX7_dayOf 1 = .ok (.getfield 76, 3) := by decide +kernel
theorem dX7_dayOf_4 : decode cX7_dayOf 4 = .ok (.aload_n 0, 1) := by decide +kernel
theorem dX7_dayOf_5 : decode cX7_dayOf 5 = .ok (.getfield 18, 3) := by decide +kernel
theorem dX7_dayOf_8 : decode cX7_dayOf 8 = .ok (.iload_n 2, 1) := by decide +kernel
theorem dX7_dayOf_9 : decode cX7_dayOf 9 = .ok (.iaload, 1) := by decide +kernel
theorem dX7_dayOf_10 : decode cX7_dayOf 10 = .ok (.aaload, 1) := by decide +kernel
theorem dX7_dayOf_11 : decode cX7_dayOf 11 = .ok (.iconst 1, 1) := by decide +kernel
theorem dX7_dayOf_12 : decode cX7_dayOf 12 = .ok (.iaload, 1) := by decide +kernel
theorem dX7_dayOf_13 : decode cX7_dayOf 13 = .ok (.ireturn, 1) := by decide +kernel
def c_X7_dayOf (p : Nat) (q1 : Nat) (a2 : Int32) (h : PH) : Option (Int32) :=
  gd (ixOK a2 3) <|
  gd (ixOK (h.1 (p + 4) a2.toNatClampNeg) 9) <|
  some (h.1 (q1 + 21 + 1 + (h.1 (p + 4) a2.toNatClampNeg).toNatClampNeg) 1)
set_option maxHeartbeats 4000000 in
set_option maxRecDepth 100000 in
theorem ct_X7_dayOf (l : Launch) {lay : List KK} {p : Nat} {q1 : Nat} (ho : okX7 lay p) (ho1 : okX9 lay q1) (a2 : Int32) : CtI l yX7_dayOf cX7_dayOf 3 (some .int) 0 0 lay (rd (fun h => c_X7_dayOf p q1 a2 h)) (fun ad => [.ref (ad p), .ref (ad q1), .int a2]) := by
  refine CtI.mk' RX7 (by decide) rfl (fun _ => Nat.le_of_ble_eq_true rfl) ?_
  intro p0 e s m args below meth c D G A H0 ad X h r0 H ls Q hM hw hl hf hR
  have hl : lv_has ls 3 [(0, .ref (ad p)), (1, .ref (ad q1)), (2, .int a2)] := hl
  obtain ⟨v0, hv0, hr0⟩ : ∃ v0, c_X7_dayOf p q1 a2 h = some v0 ∧ r0 = (v0, h) := rd_some hf
  subst hr0
  have hf := hv0
  unfold c_X7_dayOf at hf
  refine lv_aload_n hM.1 hM.2.1 dX7_dayOf_0 rfl (lv_at hl 1 rfl) ?_
  refine gf_X9_dutyRows hM hw (okX9.o ho1) fl_X7_76 dX7_dayOf_1 ?_
  refine lv_aload_n hM.1 hM.2.1 dX7_dayOf_4 rfl (lv_at hl 0 rfl) ?_
  refine gf_X7_wanted hM hw (okX7.o ho) fl_X7_18 dX7_dayOf_5 ?_
  refine lv_iload_n hM.1 hM.2.1 dX7_dayOf_8 rfl (lv_at hl 2 rfl) ?_
  refine x_iald hM hw (okX7.wanted ho) hf dX7_dayOf_9 (fun hf => ?_)
  refine x_aaldI hM hw (okX9.dutyRows ho1) hf dX7_dayOf_10 (fun hi1 hf => ?_)
  refine lv_iconst (v := 1) hM.1 hM.2.1 dX7_dayOf_11 ic_1 ?_
  refine x_ialdK hM hw (okX9.dutyRows_atI ho1 hi1) 1 (by decide) (by decide) dX7_dayOf_12 ?_
  exact hR _ _ _ _ _ _ _ (congrArg (fun z => (z, _)) (Option.some.inj hf)) rfl rfl hw dX7_dayOf_13
theorem hd_X7_dayOf : yX7_dayOf.cls = RX7 ∧ yX7_dayOf.cls ≠ "java/lang/invoke/MethodHandle" ∧ yX7_dayOf.cls ≠ "java/lang/invoke/VarHandle" ∧ (parseMethodDescriptor yX7_dayOf.desc).map (fun d => d.parameters.length) = some 2 := ⟨rfl, by decide, by decide, by decide +kernel⟩
theorem dX7_list_0 : decode cX7_list 0 = .ok (.aload_n 0, 1) := by decide +kernel
theorem dX7_list_1 : decode cX7_list 1 = .ok (.iconst 0, 1) := by decide +kernel
theorem dX7_list_2 : decode cX7_list 2 = .ok (.putfield 31, 3) := by decide +kernel
theorem dX7_list_5 : decode cX7_list 5 = .ok (.iconst 0, 1) := by decide +kernel
theorem dX7_list_6 : decode cX7_list 6 = .ok (.istore_n 3, 1) := by decide +kernel
theorem dX7_list_7 : decode cX7_list 7 = .ok (.iload_n 3, 1) := by decide +kernel
theorem dX7_list_8 : decode cX7_list 8 = .ok (.aload_n 1, 1) := by decide +kernel
theorem dX7_list_9 : decode cX7_list 9 = .ok (.getfield 69, 3) := by decide +kernel
theorem dX7_list_12 : decode cX7_list 12 = .ok (.if_icmp .ge 120, 3) := by decide +kernel
theorem dX7_list_15 : decode cX7_list 15 = .ok (.iload_n 2, 1) := by decide +kernel
theorem dX7_list_16 : decode cX7_list 16 = .ok (.iload_n 3, 1) := by decide +kernel
theorem dX7_list_17 : decode cX7_list 17 = .ok (.ishr, 1) := by decide +kernel
theorem dX7_list_18 : decode cX7_list 18 = .ok (.iconst 1, 1) := by decide +kernel
theorem dX7_list_19 : decode cX7_list 19 = .ok (.iand, 1) := by decide +kernel
theorem dX7_list_20 : decode cX7_list 20 = .ok (.ifCond .eq 106, 3) := by decide +kernel
theorem dX7_list_23 : decode cX7_list 23 = .ok (.aload_n 0, 1) := by decide +kernel
theorem dX7_list_24 : decode cX7_list 24 = .ok (.getfield 31, 3) := by decide +kernel
theorem dX7_list_27 : decode cX7_list 27 = .ok (.iconst 3, 1) := by decide +kernel
theorem dX7_list_28 : decode cX7_list 28 = .ok (.if_icmp .ge 98, 3) := by decide +kernel
theorem dX7_list_31 : decode cX7_list 31 = .ok (.aload_n 0, 1) := by decide +kernel
theorem dX7_list_32 : decode cX7_list 32 = .ok (.getfield 18, 3) := by decide +kernel
theorem dX7_list_35 : decode cX7_list 35 = .ok (.aload_n 0, 1) := by decide +kernel
theorem dX7_list_36 : decode cX7_list 36 = .ok (.getfield 31, 3) := by decide +kernel
theorem dX7_list_39 : decode cX7_list 39 = .ok (.iload_n 3, 1) := by decide +kernel
theorem dX7_list_40 : decode cX7_list 40 = .ok (.iastore, 1) := by decide +kernel
theorem dX7_list_41 : decode cX7_list 41 = .ok (.aload_n 0, 1) := by decide +kernel
theorem dX7_list_42 : decode cX7_list 42 = .ok (.getfield 31, 3) := by decide +kernel
theorem dX7_list_45 : decode cX7_list 45 = .ok (.istore 4, 2) := by decide +kernel
theorem dX7_list_47 : decode cX7_list 47 = .ok (.iload 4, 2) := by decide +kernel
theorem dX7_list_49 : decode cX7_list 49 = .ok (.ifCond .le 56, 3) := by decide +kernel
theorem dX7_list_52 : decode cX7_list 52 = .ok (.iload 4, 2) := by decide +kernel
theorem dX7_list_54 : decode cX7_list 54 = .ok (.iconst 3, 1) := by decide +kernel
theorem dX7_list_55 : decode cX7_list 55 = .ok (.if_icmp .ge 50, 3) := by decide +kernel
theorem dX7_list_58 : decode cX7_list 58 = .ok (.aload_n 0, 1) := by decide +kernel
theorem dX7_list_59 : decode cX7_list 59 = .ok (.aload_n 1, 1) := by decide +kernel
theorem dX7_list_60 : decode cX7_list 60 = .ok (.aload_n 0, 1) := by decide +kernel
theorem dX7_list_61 : decode cX7_list 61 = .ok (.getfield 22, 3) := by decide +kernel
theorem dX7_list_64 : decode cX7_list 64 = .ok (.iload 4, 2) := by decide +kernel
theorem dX7_list_66 : decode cX7_list 66 = .ok (.iconst 1, 1) := by decide +kernel
theorem dX7_list_67 : decode cX7_list 67 = .ok (.isub, 1) := by decide +kernel
theorem dX7_list_68 : decode cX7_list 68 = .ok (.iaload, 1) := by decide +kernel
theorem dX7_list_69 : decode cX7_list 69 = .ok (.invokevirtual 72, 3) := by decide +kernel
theorem dX7_list_72 : decode cX7_list 72 = .ok (.aload_n 1, 1) := by decide +kernel
theorem dX7_list_73 : decode cX7_list 73 = .ok (.getfield 76, 3) := by decide +kernel
theorem dX7_list_76 : decode cX7_list 76 = .ok (.iload_n 3, 1) := by decide +kernel
theorem dX7_list_77 : decode cX7_list 77 = .ok (.aaload, 1) := by decide +kernel
theorem dX7_list_78 : decode cX7_list 78 = .ok (.iconst 1, 1) := by decide +kernel
theorem dX7_list_79 : decode cX7_list 79 = .ok (.iaload, 1) := by decide +kernel
theorem dX7_list_80 : decode cX7_list 80 = .ok (.if_icmp .le 25, 3) := by decide +kernel
theorem dX7_list_83 : decode cX7_list 83 = .ok (.aload_n 0, 1) := by decide +kernel
theorem dX7_list_84 : decode cX7_list 84 = .ok (.getfield 22, 3) := by decide +kernel
theorem dX7_list_87 : decode cX7_list 87 = .ok (.iload 4, 2) := by decide +kernel
theorem dX7_list_89 : decode cX7_list 89 = .ok (.aload_n 0, 1) := by decide +kernel
theorem dX7_list_90 : decode cX7_list 90 = .ok (.getfield 22, 3) := by decide +kernel
theorem dX7_list_93 : decode cX7_list 93 = .ok (.iload 4, 2) := by decide +kernel
theorem dX7_list_95 : decode cX7_list 95 = .ok (.iconst 1, 1) := by decide +kernel
theorem dX7_list_96 : decode cX7_list 96 = .ok (.isub, 1) := by decide +kernel
theorem dX7_list_97 : decode cX7_list 97 = .ok (.iaload, 1) := by decide +kernel
theorem dX7_list_98 : decode cX7_list 98 = .ok (.iastore, 1) := by decide +kernel
theorem dX7_list_99 : decode cX7_list 99 = .ok (.iinc 4 (-1), 3) := by decide +kernel
theorem dX7_list_102 : decode cX7_list 102 = .ok (.goto (-55), 3) := by decide +kernel
theorem dX7_list_105 : decode cX7_list 105 = .ok (.aload_n 0, 1) := by decide +kernel
theorem dX7_list_106 : decode cX7_list 106 = .ok (.getfield 22, 3) := by decide +kernel
theorem dX7_list_109 : decode cX7_list 109 = .ok (.iload 4, 2) := by decide +kernel
theorem dX7_list_111 : decode cX7_list 111 = .ok (.aload_n 0, 1) := by decide +kernel
theorem dX7_list_112 : decode cX7_list 112 = .ok (.getfield 31, 3) := by decide +kernel
theorem dX7_list_115 : decode cX7_list 115 = .ok (.iastore, 1) := by decide +kernel
theorem dX7_list_116 : decode cX7_list 116 = .ok (.aload_n 0, 1) := by decide +kernel
theorem dX7_list_117 : decode cX7_list 117 = .ok (.dup, 1) := by decide +kernel
theorem dX7_list_118 : decode cX7_list 118 = .ok (.getfield 31, 3) := by decide +kernel
theorem dX7_list_121 : decode cX7_list 121 = .ok (.iconst 1, 1) := by decide +kernel
theorem dX7_list_122 : decode cX7_list 122 = .ok (.iadd, 1) := by decide +kernel
theorem dX7_list_123 : decode cX7_list 123 = .ok (.putfield 31, 3) := by decide +kernel
theorem dX7_list_126 : decode cX7_list 126 = .ok (.iinc 3 1, 3) := by decide +kernel
theorem dX7_list_129 : decode cX7_list 129 = .ok (.goto (-122), 3) := by decide +kernel
theorem dX7_list_132 : decode cX7_list 132 = .ok (.return_, 1) := by decide +kernel
def c_X7_list_L47b {ρ : Type}  (p : Nat) (q1 : Nat) (z2 : Int32) (z3 : Int32) (K1 : Int32 → PH → Option ρ) (REC : Int32 → PH → Option ρ) (x4 : Int32) (h : PH) : Option ρ :=
  if x4 ≤ 0 then
    K1 x4 h
  else
    if 3 ≤ x4 then
      K1 x4 h
    else
      gd (ixOK (x4 - 1) 3) <|
      (c_X7_dayOf p q1 (h.1 (p + 5) (x4 - 1).toNatClampNeg) h).bind fun r7 =>
      gd (ixOK z3 9) <|
      if r7 ≤ (h.1 (q1 + 21 + 1 + z3.toNatClampNeg) 1) then
        K1 x4 h
      else
        gd (ixOK (x4 - 1) 3) <|
        gd (ixOK x4 3) <| nm (setI h (p + 5) x4.toNatClampNeg (h.1 (p + 5) (x4 - 1).toNatClampNeg)) fun h9 =>
        nm (x4 + (-1)) fun v10 =>
        REC v10 h9
set_option maxHeartbeats 4000000 in
set_option maxRecDepth 100000 in
theorem w_X7_list_L47b {p0 : Program} {l : Launch} {e : Env} {s : State} {m : MethodId} {args : Array Value} {below : List Frame} {meth : Method} {c : Code} {Q : State → Prop} {D : va_G} {G : GG} {A : Nat → Prop} {H0 : Heap} {ad : Nat → Nat} {lay : List KK} {X : va_W} {ρ : Type} {p : Nat} {q1 : Nat} {r0 : ρ} {z2 : Int32} {z3 : Int32} {x4 : Int32} {h : PH} {H : Heap} {locs : List Loc} {ls : Array Slot} {K1 : Int32 → PH → Option ρ} {REC : Int32 → PH → Option ρ} (hM : CallFix p0 m c cX7_list 5 s args lw_g RX7) (ho : okX7 lay p) (ho1 : okX9 lay q1) (hk1 : ∀ (x4 : Int32) (h : PH), ∀ (H : Heap) (locs : List Loc) (ls : Array Slot), K1 x4 h = some r0 → Wd D G A H0 ad lay X h s H locs → lv_has ls 5 [(0, .ref (ad p)), (1, .ref (ad q1)), (2, .int z2), (3, .int z3), (4, .int x4)] → W p0 l e (rmN 1 22) s m args below meth c H locs 0 0 Q (F0 m 105 ls [])) (hrec : ∀ (x4 : Int32) (h : PH), ∀ (H : Heap) (locs : List Loc) (ls : Array Slot), REC x4 h = some r0 → Wd D G A H0 ad lay X h s H locs → lv_has ls 5 [(0, .ref (ad p)), (1, .ref (ad q1)), (2, .int z2), (3, .int z3), (4, .int x4)] → W p0 l e (rmN 1 22) s m args below meth c H locs 0 0 Q (F0 m 47 ls [])) (hw : Wd D G A H0 ad lay X h s H locs) (hl : lv_has ls 5 [(0, .ref (ad p)), (1, .ref (ad q1)), (2, .int z2), (3, .int z3), (4, .int x4)]) (hf : c_X7_list_L47b p q1 z2 z3 K1 REC x4 h = some r0) : W p0 l e (rmN 1 22) s m args below meth c H locs 0 0 Q (F0 m 47 ls []) := by
  unfold c_X7_list_L47b at hf
  refine lv_iload hM.1 hM.2.1 dX7_list_47 (lv_at hl 4 rfl) ?_
  refine x_if_le (tgt := 105) hM hf dX7_list_49 (by decide) (fun hf => ?_) (fun hf => ?_)
  · exact hk1 _ _ _ _ _ hf hw hl
  refine lv_iload hM.1 hM.2.1 dX7_list_52 (lv_at hl 4 rfl) ?_
  refine lv_iconst (v := 3) hM.1 hM.2.1 dX7_list_54 ic_3 ?_
  refine x_ic_ge (tgt := 105) hM hf dX7_list_55 (by decide) (fun hf => ?_) (fun hf => ?_)
  · exact hk1 _ _ _ _ _ hf hw hl
  refine lv_aload_n hM.1 hM.2.1 dX7_list_58 rfl (lv_at hl 0 rfl) ?_
  refine lv_aload_n hM.1 hM.2.1 dX7_list_59 rfl (lv_at hl 1 rfl) ?_
  refine lv_aload_n hM.1 hM.2.1 dX7_list_60 rfl (lv_at hl 0 rfl) ?_
  refine gf_X7_order hM hw (okX7.o ho) fl_X7_22 dX7_list_61 ?_
  refine lv_iload hM.1 hM.2.1 dX7_list_64 (lv_at hl 4 rfl) ?_
  refine lv_iconst (v := 1) hM.1 hM.2.1 dX7_list_66 ic_1 ?_
  refine lv_isub hM.1 hM.2.1 dX7_list_67 ?_
  refine x_iald hM hw (okX7.order ho) hf dX7_list_68 (fun hf => ?_)
  refine x_callVIr (rest := []) hM hw (ct_X7_dayOf l ho ho1 (h.1 (p + 5) (x4 - 1).toNatClampNeg)) [.ref (ad q1), .int (h.1 (p + 5) (x4 - 1).toNatClampNeg)] (okX7.o ho) rfl rfl rfl (gi_V ml_X7_72 im_X7_dayOf sl_X7_dayOf in_X7 kc_X7_dayOf) hd_X7_dayOf rfl ⟨Nat.le_of_ble_eq_true rfl, Nat.le_of_ble_eq_true rfl⟩ rfl (Nat.le_of_ble_eq_true rfl) hl.1 hcs0 hf dX7_list_69 (fun r7 H locs hf hw => ?_)
  refine lv_aload_n hM.1 hM.2.1 dX7_list_72 rfl (lv_at hl 1 rfl) ?_
  refine gf_X9_dutyRows hM hw (okX9.o ho1) fl_X7_76 dX7_list_73 ?_
  refine lv_iload_n hM.1 hM.2.1 dX7_list_76 rfl (lv_at hl 3 rfl) ?_
  refine x_aaldI hM hw (okX9.dutyRows ho1) hf dX7_list_77 (fun hi8 hf => ?_)
  refine lv_iconst (v := 1) hM.1 hM.2.1 dX7_list_78 ic_1 ?_
  refine x_ialdK hM hw (okX9.dutyRows_atI ho1 hi8) 1 (by decide) (by decide) dX7_list_79 ?_
  refine x_ic_le (tgt := 105) hM hf dX7_list_80 (by decide) (fun hf => ?_) (fun hf => ?_)
  · exact hk1 _ _ _ _ _ hf hw hl
  refine lv_aload_n hM.1 hM.2.1 dX7_list_83 rfl (lv_at hl 0 rfl) ?_
  refine gf_X7_order hM hw (okX7.o ho) fl_X7_22 dX7_list_84 ?_
  refine lv_iload hM.1 hM.2.1 dX7_list_87 (lv_at hl 4 rfl) ?_
  refine lv_aload_n hM.1 hM.2.1 dX7_list_89 rfl (lv_at hl 0 rfl) ?_
  refine gf_X7_order hM hw (okX7.o ho) fl_X7_22 dX7_list_90 ?_
  refine lv_iload hM.1 hM.2.1 dX7_list_93 (lv_at hl 4 rfl) ?_
  refine lv_iconst (v := 1) hM.1 hM.2.1 dX7_list_95 ic_1 ?_
  refine lv_isub hM.1 hM.2.1 dX7_list_96 ?_
  refine x_iald hM hw (okX7.order ho) hf dX7_list_97 (fun hf => ?_)
  refine x_iast hM hw (okX7.order ho) hf dX7_list_98 (fun h9 H locs hf hw => ?_)
  refine x_iinc (k := 4) (d := (-1)) hM hf dX7_list_99 hl rfl (by decide) (by decide) (fun v10 => [(4, .int v10), (0, .ref (ad p)), (1, .ref (ad q1)), (2, .int z2), (3, .int z3)]) (fun _ => rfl) (fun v10 ls hf hl => ?_)
  refine lv_goto (tgt := 47) hM.1 hM.2.1 dX7_list_102 (by decide) ?_
  exact hrec _ _ _ _ _ hf hw (lv_sub hl [1, 2, 3, 4, 0] rfl)
set_option maxHeartbeats 4000000 in
set_option maxRecDepth 100000 in
theorem w_X7_list_L47 {p0 : Program} {l : Launch} {e : Env} {s : State} {m : MethodId} {args : Array Value} {below : List Frame} {meth : Method} {c : Code} {Q : State → Prop} {D : va_G} {G : GG} {A : Nat → Prop} {H0 : Heap} {ad : Nat → Nat} {lay : List KK} {X : va_W} {ρ : Type} {p : Nat} {q1 : Nat} {r0 : ρ} {z2 : Int32} {z3 : Int32} {K1 : Int32 → PH → Option ρ} (hM : CallFix p0 m c cX7_list 5 s args lw_g RX7) (ho : okX7 lay p) (ho1 : okX9 lay q1) (hk1 : ∀ (x4 : Int32) (h : PH), ∀ (H : Heap) (locs : List Loc) (ls : Array Slot), K1 x4 h = some r0 → Wd D G A H0 ad lay X h s H locs → lv_has ls 5 [(0, .ref (ad p)), (1, .ref (ad q1)), (2, .int z2), (3, .int z3), (4, .int x4)] → W p0 l e (rmN 1 22) s m args below meth c H locs 0 0 Q (F0 m 105 ls [])) (n : Nat) (x4 : Int32) (h : PH) (hf : lq2 (c_X7_list_L47b p q1 z2 z3 K1) n x4 h = some r0) : ∀ (H : Heap) (locs : List Loc) (ls : Array Slot), Wd D G A H0 ad lay X h s H locs → lv_has ls 5 [(0, .ref (ad p)), (1, .ref (ad q1)), (2, .int z2), (3, .int z3), (4, .int x4)] → W p0 l e (rmN 1 22) s m args below meth c H locs 0 0 Q (F0 m 47 ls []) := by
  exact lq2_i (fun (x4 : Int32) (h : PH) => ∀ (H : Heap) (locs : List Loc) (ls : Array Slot), Wd D G A H0 ad lay X h s H locs → lv_has ls 5 [(0, .ref (ad p)), (1, .ref (ad q1)), (2, .int z2), (3, .int z3), (4, .int x4)] → W p0 l e (rmN 1 22) s m args below meth c H locs 0 0 Q (F0 m 47 ls [])) (fun REC x4 h ih hf H locs ls hw hl => w_X7_list_L47b hM ho ho1 hk1 (fun x4 h H locs ls hf hw hl => ih x4 h hf H locs ls hw hl) hw hl hf) n x4 h hf
def c_X7_list_j105 {ρ : Type}  (p : Nat) (q1 : Nat) (z2 : Int32) (K1 : PH → Option ρ) (REC : Int32 → PH → Option ρ) (x3 : Int32) (x4 : Int32) (h : PH) : Option (ρ) :=
  gd (ixOK x4 3) <| nm (setI h (p + 5) x4.toNatClampNeg (h.1 p 5)) fun h13 =>
  nm (setI h13 p 5 ((h13.1 p 5) + 1)) fun h14 =>
  nm (x3 + 1) fun v15 =>
  REC v15 h14
set_option maxHeartbeats 4000000 in
set_option maxRecDepth 100000 in
theorem w_X7_list_j105 {p0 : Program} {l : Launch} {e : Env} {s : State} {m : MethodId} {args : Array Value} {below : List Frame} {meth : Method} {c : Code} {Q : State → Prop} {D : va_G} {G : GG} {A : Nat → Prop} {H0 : Heap} {ad : Nat → Nat} {lay : List KK} {X : va_W} {ρ : Type} {p : Nat} {q1 : Nat} {r0 : ρ} {x3 : Int32} {x4 : Int32} {z2 : Int32} {h : PH} {H : Heap} {locs : List Loc} {ls : Array Slot} {K1 : PH → Option ρ} {REC : Int32 → PH → Option ρ} (hM : CallFix p0 m c cX7_list 5 s args lw_g RX7) (ho : okX7 lay p) (ho1 : okX9 lay q1) (hk1 : ∀ (h : PH), ∀ (H : Heap) (locs : List Loc) (ls : Array Slot), K1 h = some r0 → Wd D G A H0 ad lay X h s H locs → lv_has ls 5 [] → W p0 l e (rmN 1 22) s m args below meth c H locs 0 0 Q (F0 m 132 ls [])) (hrec : ∀ (x3 : Int32) (h : PH), ∀ (H : Heap) (locs : List Loc) (ls : Array Slot), REC x3 h = some r0 → Wd D G A H0 ad lay X h s H locs → lv_has ls 5 [(0, .ref (ad p)), (1, .ref (ad q1)), (2, .int z2), (3, .int x3)] → W p0 l e (rmN 1 22) s m args below meth c H locs 0 0 Q (F0 m 7 ls [])) (hw : Wd D G A H0 ad lay X h s H locs) (hl : lv_has ls 5 [(0, .ref (ad p)), (1, .ref (ad q1)), (2, .int z2), (3, .int x3), (4, .int x4)]) (hf : c_X7_list_j105 p q1 z2 K1 REC x3 x4 h = some r0) : W p0 l e (rmN 1 22) s m args below meth c H locs 0 0 Q (F0 m 105 ls []) := by
  unfold c_X7_list_j105 at hf
  refine lv_aload_n hM.1 hM.2.1 dX7_list_105 rfl (lv_at hl 0 rfl) ?_
  refine gf_X7_order hM hw (okX7.o ho) fl_X7_22 dX7_list_106 ?_
  refine lv_iload hM.1 hM.2.1 dX7_list_109 (lv_at hl 4 rfl) ?_
  refine lv_aload_n hM.1 hM.2.1 dX7_list_111 rfl (lv_at hl 0 rfl) ?_
  refine gf_X7_size hM hw (okX7.o ho) fl_X7_31 dX7_list_112 ?_
  refine x_iast hM hw (okX7.order ho) hf dX7_list_115 (fun h13 H locs hf hw => ?_)
  refine lv_aload_n hM.1 hM.2.1 dX7_list_116 rfl (lv_at hl 0 rfl) ?_
  refine lv_dup hM.1 hM.2.1 dX7_list_117 rfl ?_
  refine gf_X7_size hM hw (okX7.o ho) fl_X7_31 dX7_list_118 ?_
  refine lv_iconst (v := 1) hM.1 hM.2.1 dX7_list_121 ic_1 ?_
  refine lv_iadd hM.1 hM.2.1 dX7_list_122 ?_
  refine pf_X7_size hM hw (okX7.o ho) fl_X7_31 hf dX7_list_123 (fun h14 H locs hf hw => ?_)
  refine x_iinc (k := 3) (d := 1) hM hf dX7_list_126 hl rfl (by decide) (by decide) (fun v15 => [(3, .int v15), (0, .ref (ad p)), (1, .ref (ad q1)), (2, .int z2), (4, .int x4)]) (fun _ => rfl) (fun v15 ls hf hl => ?_)
  refine lv_goto (tgt := 7) hM.1 hM.2.1 dX7_list_129 (by decide) ?_
  exact hrec _ _ _ _ _ hf hw (lv_sub hl [1, 2, 3, 0] rfl)
def c_X7_list_L7b {ρ : Type}  (p : Nat) (q1 : Nat) (z2 : Int32) (K1 : PH → Option ρ) (REC : Int32 → PH → Option ρ) (x3 : Int32) (h : PH) : Option ρ :=
  if (h.1 q1 2) ≤ x3 then
    K1 h
  else
    if ((z2 >>> (x3 &&& 31)) &&& 1) = 0 then
      nm (x3 + 1) fun v3 =>
      REC v3 h
    else
      if 3 ≤ (h.1 p 5) then
        nm (x3 + 1) fun v4 =>
        REC v4 h
      else
        gd (ixOK (h.1 p 5) 3) <| nm (setI h (p + 4) (h.1 p 5).toNatClampNeg x3) fun h5 =>
        nm (h5.1 p 5) fun v6 =>
        lq2 (c_X7_list_L47b p q1 z2 x3
          (fun w11 h12 =>
            c_X7_list_j105 p q1 z2 K1 REC x3 w11 h12)) fu v6 h5
set_option maxHeartbeats 4000000 in
set_option maxRecDepth 100000 in
theorem w_X7_list_L7b {p0 : Program} {l : Launch} {e : Env} {s : State} {m : MethodId} {args : Array Value} {below : List Frame} {meth : Method} {c : Code} {Q : State → Prop} {D : va_G} {G : GG} {A : Nat → Prop} {H0 : Heap} {ad : Nat → Nat} {lay : List KK} {X : va_W} {ρ : Type} {p : Nat} {q1 : Nat} {r0 : ρ} {z2 : Int32} {x3 : Int32} {h : PH} {H : Heap} {locs : List Loc} {ls : Array Slot} {K1 : PH → Option ρ} {REC : Int32 → PH → Option ρ} (hM : CallFix p0 m c cX7_list 5 s args lw_g RX7) (ho : okX7 lay p) (ho1 : okX9 lay q1) (hk1 : ∀ (h : PH), ∀ (H : Heap) (locs : List Loc) (ls : Array Slot), K1 h = some r0 → Wd D G A H0 ad lay X h s H locs → lv_has ls 5 [] → W p0 l e (rmN 1 22) s m args below meth c H locs 0 0 Q (F0 m 132 ls [])) (hrec : ∀ (x3 : Int32) (h : PH), ∀ (H : Heap) (locs : List Loc) (ls : Array Slot), REC x3 h = some r0 → Wd D G A H0 ad lay X h s H locs → lv_has ls 5 [(0, .ref (ad p)), (1, .ref (ad q1)), (2, .int z2), (3, .int x3)] → W p0 l e (rmN 1 22) s m args below meth c H locs 0 0 Q (F0 m 7 ls [])) (hw : Wd D G A H0 ad lay X h s H locs) (hl : lv_has ls 5 [(0, .ref (ad p)), (1, .ref (ad q1)), (2, .int z2), (3, .int x3)]) (hf : c_X7_list_L7b p q1 z2 K1 REC x3 h = some r0) : W p0 l e (rmN 1 22) s m args below meth c H locs 0 0 Q (F0 m 7 ls []) := by
  unfold c_X7_list_L7b at hf
  refine lv_iload_n hM.1 hM.2.1 dX7_list_7 rfl (lv_at hl 3 rfl) ?_
  refine lv_aload_n hM.1 hM.2.1 dX7_list_8 rfl (lv_at hl 1 rfl) ?_
  refine gf_X9_duties hM hw (okX9.o ho1) fl_X7_69 dX7_list_9 ?_
  refine x_ic_ge (tgt := 132) hM hf dX7_list_12 (by decide) (fun hf => ?_) (fun hf => ?_)
  · exact hk1 _ _ _ _ hf hw (lv_sub hl [] rfl)
  refine lv_iload_n hM.1 hM.2.1 dX7_list_15 rfl (lv_at hl 2 rfl) ?_
  refine lv_iload_n hM.1 hM.2.1 dX7_list_16 rfl (lv_at hl 3 rfl) ?_
  refine lv_ishr hM.1 hM.2.1 dX7_list_17 ?_
  refine lv_iconst (v := 1) hM.1 hM.2.1 dX7_list_18 ic_1 ?_
  refine lv_iand hM.1 hM.2.1 dX7_list_19 ?_
  refine x_if_eq (tgt := 126) hM hf dX7_list_20 (by decide) (fun hf => ?_) (fun hf => ?_)
  · refine x_iinc (k := 3) (d := 1) hM hf dX7_list_126 hl rfl (by decide) (by decide) (fun v3 => [(3, .int v3), (0, .ref (ad p)), (1, .ref (ad q1)), (2, .int z2)]) (fun _ => rfl) (fun v3 ls hf hl => ?_)
    refine lv_goto (tgt := 7) hM.1 hM.2.1 dX7_list_129 (by decide) ?_
    exact hrec _ _ _ _ _ hf hw (lv_sub hl [1, 2, 3, 0] rfl)
  refine lv_aload_n hM.1 hM.2.1 dX7_list_23 rfl (lv_at hl 0 rfl) ?_
  refine gf_X7_size hM hw (okX7.o ho) fl_X7_31 dX7_list_24 ?_
  refine lv_iconst (v := 3) hM.1 hM.2.1 dX7_list_27 ic_3 ?_
  refine x_ic_ge (tgt := 126) hM hf dX7_list_28 (by decide) (fun hf => ?_) (fun hf => ?_)
  · refine x_iinc (k := 3) (d := 1) hM hf dX7_list_126 hl rfl (by decide) (by decide) (fun v4 => [(3, .int v4), (0, .ref (ad p)), (1, .ref (ad q1)), (2, .int z2)]) (fun _ => rfl) (fun v4 ls hf hl => ?_)
    refine lv_goto (tgt := 7) hM.1 hM.2.1 dX7_list_129 (by decide) ?_
    exact hrec _ _ _ _ _ hf hw (lv_sub hl [1, 2, 3, 0] rfl)
  refine lv_aload_n hM.1 hM.2.1 dX7_list_31 rfl (lv_at hl 0 rfl) ?_
  refine gf_X7_wanted hM hw (okX7.o ho) fl_X7_18 dX7_list_32 ?_
  refine lv_aload_n hM.1 hM.2.1 dX7_list_35 rfl (lv_at hl 0 rfl) ?_
  refine gf_X7_size hM hw (okX7.o ho) fl_X7_31 dX7_list_36 ?_
  refine lv_iload_n hM.1 hM.2.1 dX7_list_39 rfl (lv_at hl 3 rfl) ?_
  refine x_iast hM hw (okX7.wanted ho) hf dX7_list_40 (fun h5 H locs hf hw => ?_)
  refine lv_aload_n hM.1 hM.2.1 dX7_list_41 rfl (lv_at hl 0 rfl) ?_
  refine gf_X7_size hM hw (okX7.o ho) fl_X7_31 dX7_list_42 ?_
  refine x_istore hM hf dX7_list_45 hl (by decide) (fun v6 => [(4, .int v6), (0, .ref (ad p)), (1, .ref (ad q1)), (2, .int z2), (3, .int x3)]) (fun _ => rfl) (fun v6 ls hf hl => ?_)
  refine w_X7_list_L47 hM ho ho1 (fun w11 h12 H locs ls hf hw hl => ?_) fu _ _ hf _ _ _ hw (lv_sub hl [1, 2, 3, 4, 0] rfl)
  exact w_X7_list_j105 hM ho ho1 hk1 hrec hw hl hf
set_option maxHeartbeats 4000000 in
set_option maxRecDepth 100000 in
theorem w_X7_list_L7 {p0 : Program} {l : Launch} {e : Env} {s : State} {m : MethodId} {args : Array Value} {below : List Frame} {meth : Method} {c : Code} {Q : State → Prop} {D : va_G} {G : GG} {A : Nat → Prop} {H0 : Heap} {ad : Nat → Nat} {lay : List KK} {X : va_W} {ρ : Type} {p : Nat} {q1 : Nat} {r0 : ρ} {z2 : Int32} {K1 : PH → Option ρ} (hM : CallFix p0 m c cX7_list 5 s args lw_g RX7) (ho : okX7 lay p) (ho1 : okX9 lay q1) (hk1 : ∀ (h : PH), ∀ (H : Heap) (locs : List Loc) (ls : Array Slot), K1 h = some r0 → Wd D G A H0 ad lay X h s H locs → lv_has ls 5 [] → W p0 l e (rmN 1 22) s m args below meth c H locs 0 0 Q (F0 m 132 ls [])) (n : Nat) (x3 : Int32) (h : PH) (hf : lq2 (c_X7_list_L7b p q1 z2 K1) n x3 h = some r0) : ∀ (H : Heap) (locs : List Loc) (ls : Array Slot), Wd D G A H0 ad lay X h s H locs → lv_has ls 5 [(0, .ref (ad p)), (1, .ref (ad q1)), (2, .int z2), (3, .int x3)] → W p0 l e (rmN 1 22) s m args below meth c H locs 0 0 Q (F0 m 7 ls []) := by
  exact lq2_i (fun (x3 : Int32) (h : PH) => ∀ (H : Heap) (locs : List Loc) (ls : Array Slot), Wd D G A H0 ad lay X h s H locs → lv_has ls 5 [(0, .ref (ad p)), (1, .ref (ad q1)), (2, .int z2), (3, .int x3)] → W p0 l e (rmN 1 22) s m args below meth c H locs 0 0 Q (F0 m 7 ls [])) (fun REC x3 h ih hf H locs ls hw hl => w_X7_list_L7b hM ho ho1 hk1 (fun x3 h H locs ls hf hw hl => ih x3 h hf H locs ls hw hl) hw hl hf) n x3 h hf
def c_X7_list (p : Nat) (q1 : Nat) (a2 : Int32) (h : PH) : Option (PH) :=
  nm (setI h p 5 0) fun h1 =>
  nm (0 : Int32) fun v2 =>
  lq2 (c_X7_list_L7b p q1 a2
    (fun h16 =>
      some h16)) fu v2 h1
set_option maxHeartbeats 4000000 in
set_option maxRecDepth 100000 in
theorem ct_X7_list (l : Launch) {lay : List KK} {p : Nat} {q1 : Nat} (ho : okX7 lay p) (ho1 : okX9 lay q1) (a2 : Int32) : CtV l yX7_list cX7_list 5 (none) 1 22 lay (fun h => c_X7_list p q1 a2 h) (fun ad => [.ref (ad p), .ref (ad q1), .int a2]) := by
  refine CtV.mk' RX7 (by decide) rfl (fun _ => Nat.le_of_ble_eq_true rfl) ?_
  intro p0 e s m args below meth c D G A H0 ad X h r0 H ls Q hM hw hl hf hR
  have hl : lv_has ls 5 [(0, .ref (ad p)), (1, .ref (ad q1)), (2, .int a2)] := hl
  unfold c_X7_list at hf
  refine lv_aload_n hM.1 hM.2.1 dX7_list_0 rfl (lv_at hl 0 rfl) ?_
  refine lv_iconst (v := 0) hM.1 hM.2.1 dX7_list_1 ic_0 ?_
  refine pf_X7_size hM hw (okX7.o ho) fl_X7_31 hf dX7_list_2 (fun h1 H locs hf hw => ?_)
  refine lv_iconst (v := 0) hM.1 hM.2.1 dX7_list_5 ic_0 ?_
  refine x_istore_n hM hf dX7_list_6 rfl hl (by decide) (fun v2 => [(3, .int v2), (0, .ref (ad p)), (1, .ref (ad q1)), (2, .int a2)]) (fun _ => rfl) (fun v2 ls hf hl => ?_)
  refine w_X7_list_L7 hM ho ho1 (fun h16 H locs ls hf hw hl => ?_) fu _ _ hf _ _ _ hw (lv_sub hl [1, 2, 3, 0] rfl)
  exact hR _ _ _ _ _ (Option.some.inj hf) rfl hw dX7_list_132
theorem hd_X7_list : yX7_list.cls = RX7 ∧ yX7_list.cls ≠ "java/lang/invoke/MethodHandle" ∧ yX7_list.cls ≠ "java/lang/invoke/VarHandle" ∧ (parseMethodDescriptor yX7_list.desc).map (fun d => d.parameters.length) = some 2 := ⟨rfl, by decide, by decide, by decide +kernel⟩
theorem dX7_choose_0 : decode cX7_choose 0 = .ok (.iload_n 2, 1) := by decide +kernel
theorem dX7_choose_1 : decode cX7_choose 1 = .ok (.istore_n 3, 1) := by decide +kernel
theorem dX7_choose_2 : decode cX7_choose 2 = .ok (.aload_n 0, 1) := by decide +kernel
theorem dX7_choose_3 : decode cX7_choose 3 = .ok (.getfield 31, 3) := by decide +kernel
theorem dX7_choose_6 : decode cX7_choose 6 = .ok (.iconst 1, 1) := by decide +kernel
theorem dX7_choose_7 : decode cX7_choose 7 = .ok (.isub, 1) := by decide +kernel
theorem dX7_choose_8 : decode cX7_choose 8 = .ok (.istore 4, 2) := by decide +kernel
theorem dX7_choose_10 : decode cX7_choose 10 = .ok (.iload 4, 2) := by decide +kernel
theorem dX7_choose_12 : decode cX7_choose 12 = .ok (.ifCond .lt 51, 3) := by decide +kernel
theorem dX7_choose_15 : decode cX7_choose 15 = .ok (.aload_n 0, 1) := by decide +kernel
theorem dX7_choose_16 : decode cX7_choose 16 = .ok (.getfield 25, 3) := by decide +kernel
theorem dX7_choose_19 : decode cX7_choose 19 = .ok (.iload 4, 2) := by decide +kernel
theorem dX7_choose_21 : decode cX7_choose 21 = .ok (.aload_n 1, 1) := by decide +kernel
theorem dX7_choose_22 : decode cX7_choose 22 = .ok (.getfield 46, 3) := by decide +kernel
theorem dX7_choose_25 : decode cX7_choose 25 = .ok (.ifCond .le 12, 3) := by decide +kernel
theorem dX7_choose_28 : decode cX7_choose 28 = .ok (.iload_n 3, 1) := by decide +kernel
theorem dX7_choose_29 : decode cX7_choose 29 = .ok (.aload_n 1, 1) := by decide +kernel
theorem dX7_choose_30 : decode cX7_choose 30 = .ok (.getfield 46, 3) := by decide +kernel
theorem dX7_choose_33 : decode cX7_choose 33 = .ok (.irem, 1) := by decide +kernel
theorem dX7_choose_34 : decode cX7_choose 34 = .ok (.goto 4, 3) := by decide +kernel
theorem dX7_choose_37 : decode cX7_choose 37 = .ok (.iconst 0, 1) := by decide +kernel
theorem dX7_choose_38 : decode cX7_choose 38 = .ok (.iastore, 1) := by decide +kernel
theorem dX7_choose_39 : decode cX7_choose 39 = .ok (.aload_n 1, 1) := by decide +kernel
theorem dX7_choose_40 : decode cX7_choose 40 = .ok (.getfield 46, 3) := by decide +kernel
theorem dX7_choose_43 : decode cX7_choose 43 = .ok (.ifCond .le 12, 3) := by decide +kernel
theorem dX7_choose_46 : decode cX7_choose 46 = .ok (.iload_n 3, 1) := by decide +kernel
theorem dX7_choose_47 : decode cX7_choose 47 = .ok (.aload_n 1, 1) := by decide +kernel
theorem dX7_choose_48 : decode cX7_choose 48 = .ok (.getfield 46, 3) := by decide +kernel
theorem dX7_choose_51 : decode cX7_choose 51 = .ok (.idiv, 1) := by decide +kernel
theorem dX7_choose_52 : decode cX7_choose 52 = .ok (.goto 4, 3) := by decide +kernel
theorem dX7_choose_55 : decode cX7_choose 55 = .ok (.iconst 0, 1) := by decide +kernel
theorem dX7_choose_56 : decode cX7_choose 56 = .ok (.istore_n 3, 1) := by decide +kernel
theorem dX7_choose_57 : decode cX7_choose 57 = .ok (.iinc 4 (-1), 3) := by decide +kernel
theorem dX7_choose_60 : decode cX7_choose 60 = .ok (.goto (-50), 3) := by decide +kernel
theorem dX7_choose_63 : decode cX7_choose 63 = .ok (.return_, 1) := by decide +kernel
def c_X7_choose_j38 {ρ : Type}  (p : Nat) (q1 : Nat) (K1 : PH → Option ρ) (REC : Int32 → Int32 → PH → Option ρ) (x3 : Int32) (x4 : Int32) (y0 : Int32) (y1 : Int32) (y2 : Nat) (h : PH) : Option (ρ) :=
  gd (ixOK y1 3) <| nm (setI h y2 y1.toNatClampNeg y0) fun h3 =>
  if (h3.1 q1 1) ≤ 0 then
    nm (0 : Int32) fun v4 =>
    nm (x4 + (-1)) fun v5 =>
    REC v4 v5 h3
  else
    if (h3.1 q1 1) = 0 then none else
    nm (x3 / (h3.1 q1 1)) fun v6 =>
    nm (x4 + (-1)) fun v7 =>
    REC v6 v7 h3
set_option maxHeartbeats 4000000 in
set_option maxRecDepth 100000 in
theorem w_X7_choose_j38 {p0 : Program} {l : Launch} {e : Env} {s : State} {m : MethodId} {args : Array Value} {below : List Frame} {meth : Method} {c : Code} {Q : State → Prop} {D : va_G} {G : GG} {A : Nat → Prop} {H0 : Heap} {ad : Nat → Nat} {lay : List KK} {X : va_W} {ρ : Type} {p : Nat} {q1 : Nat} {r0 : ρ} {x3 : Int32} {x4 : Int32} {y0 : Int32} {y1 : Int32} {y2 : Nat} {h : PH} {H : Heap} {locs : List Loc} {ls : Array Slot} {K1 : PH → Option ρ} {REC : Int32 → Int32 → PH → Option ρ} (hM : CallFix p0 m c cX7_choose 5 s args lw_g RX7) (ho : okX7 lay p) (ho1 : okX9 lay q1) (hk1 : ∀ (h : PH), ∀ (H : Heap) (locs : List Loc) (ls : Array Slot), K1 h = some r0 → Wd D G A H0 ad lay X h s H locs → lv_has ls 5 [] → W p0 l e (rmN 0 0) s m args below meth c H locs 0 0 Q (F0 m 63 ls [])) (hrec : ∀ (x3 : Int32) (x4 : Int32) (h : PH), ∀ (H : Heap) (locs : List Loc) (ls : Array Slot), REC x3 x4 h = some r0 → Wd D G A H0 ad lay X h s H locs → lv_has ls 5 [(0, .ref (ad p)), (1, .ref (ad q1)), (3, .int x3), (4, .int x4)] → W p0 l e (rmN 0 0) s m args below meth c H locs 0 0 Q (F0 m 10 ls [])) (oky2 : lay[y2]? = some (kI 3)) (hw : Wd D G A H0 ad lay X h s H locs) (hl : lv_has ls 5 [(0, .ref (ad p)), (1, .ref (ad q1)), (3, .int x3), (4, .int x4)]) (hf : c_X7_choose_j38 p q1 K1 REC x3 x4 y0 y1 y2 h = some r0) : W p0 l e (rmN 0 0) s m args below meth c H locs 0 0 Q (F0 m 38 ls [.int y0, .int y1, .ref (ad y2)]) := by
  unfold c_X7_choose_j38 at hf
  refine x_iast hM hw oky2 hf dX7_choose_38 (fun h3 H locs hf hw => ?_)
  refine lv_aload_n hM.1 hM.2.1 dX7_choose_39 rfl (lv_at hl 1 rfl) ?_
  refine gf_X9_excuses hM hw (okX9.o ho1) fl_X7_46 dX7_choose_40 ?_
  refine x_if_le (tgt := 55) hM hf dX7_choose_43 (by decide) (fun hf => ?_) (fun hf => ?_)
  · refine lv_iconst (v := 0) hM.1 hM.2.1 dX7_choose_55 ic_0 ?_
    refine x_istore_n hM hf dX7_choose_56 rfl hl (by decide) (fun v4 => [(3, .int v4), (0, .ref (ad p)), (1, .ref (ad q1)), (4, .int x4)]) (fun _ => rfl) (fun v4 ls hf hl => ?_)
    refine x_iinc (k := 3) (d := (-1)) hM hf dX7_choose_57 hl rfl (by decide) (by decide) (fun v5 => [(4, .int v5), (3, .int v4), (0, .ref (ad p)), (1, .ref (ad q1))]) (fun _ => rfl) (fun v5 ls hf hl => ?_)
    refine lv_goto (tgt := 10) hM.1 hM.2.1 dX7_choose_60 (by decide) ?_
    exact hrec _ _ _ _ _ _ hf hw (lv_sub hl [2, 3, 1, 0] rfl)
  refine lv_iload_n hM.1 hM.2.1 dX7_choose_46 rfl (lv_at hl 2 rfl) ?_
  refine lv_aload_n hM.1 hM.2.1 dX7_choose_47 rfl (lv_at hl 1 rfl) ?_
  refine gf_X9_excuses hM hw (okX9.o ho1) fl_X7_46 dX7_choose_48 ?_
  refine x_idiv hM hf dX7_choose_51 (fun hf => ?_)
  refine lv_goto (tgt := 56) hM.1 hM.2.1 dX7_choose_52 (by decide) ?_
  refine x_istore_n hM hf dX7_choose_56 rfl hl (by decide) (fun v6 => [(3, .int v6), (0, .ref (ad p)), (1, .ref (ad q1)), (4, .int x4)]) (fun _ => rfl) (fun v6 ls hf hl => ?_)
  refine x_iinc (k := 3) (d := (-1)) hM hf dX7_choose_57 hl rfl (by decide) (by decide) (fun v7 => [(4, .int v7), (3, .int v6), (0, .ref (ad p)), (1, .ref (ad q1))]) (fun _ => rfl) (fun v7 ls hf hl => ?_)
  refine lv_goto (tgt := 10) hM.1 hM.2.1 dX7_choose_60 (by decide) ?_
  exact hrec _ _ _ _ _ _ hf hw (lv_sub hl [2, 3, 1, 0] rfl)
def c_X7_choose_L10b {ρ : Type}  (p : Nat) (q1 : Nat) (K1 : PH → Option ρ) (REC : Int32 → Int32 → PH → Option ρ) (x3 : Int32) (x4 : Int32) (h : PH) : Option ρ :=
  if x4 < 0 then
    K1 h
  else
    if (h.1 q1 1) ≤ 0 then
      c_X7_choose_j38 p q1 K1 REC x3 x4 0 x4 (p + 6) h
    else
      if (h.1 q1 1) = 0 then none else
      c_X7_choose_j38 p q1 K1 REC x3 x4 (jrem x3 (h.1 q1 1)) x4 (p + 6) h
set_option maxHeartbeats 4000000 in
set_option maxRecDepth 100000 in
theorem w_X7_choose_L10b {p0 : Program} {l : Launch} {e : Env} {s : State} {m : MethodId} {args : Array Value} {below : List Frame} {meth : Method} {c : Code} {Q : State → Prop} {D : va_G} {G : GG} {A : Nat → Prop} {H0 : Heap} {ad : Nat → Nat} {lay : List KK} {X : va_W} {ρ : Type} {p : Nat} {q1 : Nat} {r0 : ρ} {x3 : Int32} {x4 : Int32} {h : PH} {H : Heap} {locs : List Loc} {ls : Array Slot} {K1 : PH → Option ρ} {REC : Int32 → Int32 → PH → Option ρ} (hM : CallFix p0 m c cX7_choose 5 s args lw_g RX7) (ho : okX7 lay p) (ho1 : okX9 lay q1) (hk1 : ∀ (h : PH), ∀ (H : Heap) (locs : List Loc) (ls : Array Slot), K1 h = some r0 → Wd D G A H0 ad lay X h s H locs → lv_has ls 5 [] → W p0 l e (rmN 0 0) s m args below meth c H locs 0 0 Q (F0 m 63 ls [])) (hrec : ∀ (x3 : Int32) (x4 : Int32) (h : PH), ∀ (H : Heap) (locs : List Loc) (ls : Array Slot), REC x3 x4 h = some r0 → Wd D G A H0 ad lay X h s H locs → lv_has ls 5 [(0, .ref (ad p)), (1, .ref (ad q1)), (3, .int x3), (4, .int x4)] → W p0 l e (rmN 0 0) s m args below meth c H locs 0 0 Q (F0 m 10 ls [])) (hw : Wd D G A H0 ad lay X h s H locs) (hl : lv_has ls 5 [(0, .ref (ad p)), (1, .ref (ad q1)), (3, .int x3), (4, .int x4)]) (hf : c_X7_choose_L10b p q1 K1 REC x3 x4 h = some r0) : W p0 l e (rmN 0 0) s m args below meth c H locs 0 0 Q (F0 m 10 ls []) := by
  unfold c_X7_choose_L10b at hf
  refine lv_iload hM.1 hM.2.1 dX7_choose_10 (lv_at hl 3 rfl) ?_
  refine x_if_lt (tgt := 63) hM hf dX7_choose_12 (by decide) (fun hf => ?_) (fun hf => ?_)
  · exact hk1 _ _ _ _ hf hw (lv_sub hl [] rfl)
  refine lv_aload_n hM.1 hM.2.1 dX7_choose_15 rfl (lv_at hl 0 rfl) ?_
  refine gf_X7_chosen hM hw (okX7.o ho) fl_X7_25 dX7_choose_16 ?_
  refine lv_iload hM.1 hM.2.1 dX7_choose_19 (lv_at hl 3 rfl) ?_
  refine lv_aload_n hM.1 hM.2.1 dX7_choose_21 rfl (lv_at hl 1 rfl) ?_
  refine gf_X9_excuses hM hw (okX9.o ho1) fl_X7_46 dX7_choose_22 ?_
  refine x_if_le (tgt := 37) hM hf dX7_choose_25 (by decide) (fun hf => ?_) (fun hf => ?_)
  · refine lv_iconst (v := 0) hM.1 hM.2.1 dX7_choose_37 ic_0 ?_
    exact w_X7_choose_j38 hM ho ho1 hk1 hrec (okX7.chosen ho) hw hl hf
  refine lv_iload_n hM.1 hM.2.1 dX7_choose_28 rfl (lv_at hl 2 rfl) ?_
  refine lv_aload_n hM.1 hM.2.1 dX7_choose_29 rfl (lv_at hl 1 rfl) ?_
  refine gf_X9_excuses hM hw (okX9.o ho1) fl_X7_46 dX7_choose_30 ?_
  refine x_irem hM hf dX7_choose_33 (fun hf => ?_)
  refine lv_goto (tgt := 38) hM.1 hM.2.1 dX7_choose_34 (by decide) ?_
  exact w_X7_choose_j38 hM ho ho1 hk1 hrec (okX7.chosen ho) hw hl hf
set_option maxHeartbeats 4000000 in
set_option maxRecDepth 100000 in
theorem w_X7_choose_L10 {p0 : Program} {l : Launch} {e : Env} {s : State} {m : MethodId} {args : Array Value} {below : List Frame} {meth : Method} {c : Code} {Q : State → Prop} {D : va_G} {G : GG} {A : Nat → Prop} {H0 : Heap} {ad : Nat → Nat} {lay : List KK} {X : va_W} {ρ : Type} {p : Nat} {q1 : Nat} {r0 : ρ} {K1 : PH → Option ρ} (hM : CallFix p0 m c cX7_choose 5 s args lw_g RX7) (ho : okX7 lay p) (ho1 : okX9 lay q1) (hk1 : ∀ (h : PH), ∀ (H : Heap) (locs : List Loc) (ls : Array Slot), K1 h = some r0 → Wd D G A H0 ad lay X h s H locs → lv_has ls 5 [] → W p0 l e (rmN 0 0) s m args below meth c H locs 0 0 Q (F0 m 63 ls [])) (n : Nat) (x3 : Int32) (x4 : Int32) (h : PH) (hf : lq3 (c_X7_choose_L10b p q1 K1) n x3 x4 h = some r0) : ∀ (H : Heap) (locs : List Loc) (ls : Array Slot), Wd D G A H0 ad lay X h s H locs → lv_has ls 5 [(0, .ref (ad p)), (1, .ref (ad q1)), (3, .int x3), (4, .int x4)] → W p0 l e (rmN 0 0) s m args below meth c H locs 0 0 Q (F0 m 10 ls []) := by
  exact lq3_i (fun (x3 : Int32) (x4 : Int32) (h : PH) => ∀ (H : Heap) (locs : List Loc) (ls : Array Slot), Wd D G A H0 ad lay X h s H locs → lv_has ls 5 [(0, .ref (ad p)), (1, .ref (ad q1)), (3, .int x3), (4, .int x4)] → W p0 l e (rmN 0 0) s m args below meth c H locs 0 0 Q (F0 m 10 ls [])) (fun REC x3 x4 h ih hf H locs ls hw hl => w_X7_choose_L10b hM ho ho1 hk1 (fun x3 x4 h H locs ls hf hw hl => ih x3 x4 h hf H locs ls hw hl) hw hl hf) n x3 x4 h hf
def c_X7_choose (p : Nat) (q1 : Nat) (a2 : Int32) (h : PH) : Option (PH) :=
  nm a2 fun v1 =>
  nm ((h.1 p 5) - 1) fun v2 =>
  lq3 (c_X7_choose_L10b p q1
    (fun h8 =>
      some h8)) fu v1 v2 h
set_option maxHeartbeats 4000000 in
set_option maxRecDepth 100000 in
theorem ct_X7_choose (l : Launch) {lay : List KK} {p : Nat} {q1 : Nat} (ho : okX7 lay p) (ho1 : okX9 lay q1) (a2 : Int32) : CtV l yX7_choose cX7_choose 5 (none) 0 0 lay (fun h => c_X7_choose p q1 a2 h) (fun ad => [.ref (ad p), .ref (ad q1), .int a2]) := by
  refine CtV.mk' RX7 (by decide) rfl (fun _ => Nat.le_of_ble_eq_true rfl) ?_
  intro p0 e s m args below meth c D G A H0 ad X h r0 H ls Q hM hw hl hf hR
  have hl : lv_has ls 5 [(0, .ref (ad p)), (1, .ref (ad q1)), (2, .int a2)] := hl
  unfold c_X7_choose at hf
  refine lv_iload_n hM.1 hM.2.1 dX7_choose_0 rfl (lv_at hl 2 rfl) ?_
  refine x_istore_n hM hf dX7_choose_1 rfl hl (by decide) (fun v1 => [(3, .int v1), (0, .ref (ad p)), (1, .ref (ad q1)), (2, .int a2)]) (fun _ => rfl) (fun v1 ls hf hl => ?_)
  refine lv_aload_n hM.1 hM.2.1 dX7_choose_2 rfl (lv_at hl 1 rfl) ?_
  refine gf_X7_size hM hw (okX7.o ho) fl_X7_31 dX7_choose_3 ?_
  refine lv_iconst (v := 1) hM.1 hM.2.1 dX7_choose_6 ic_1 ?_
  refine lv_isub hM.1 hM.2.1 dX7_choose_7 ?_
  refine x_istore hM hf dX7_choose_8 hl (by decide) (fun v2 => [(4, .int v2), (3, .int v1), (0, .ref (ad p)), (1, .ref (ad q1)), (2, .int a2)]) (fun _ => rfl) (fun v2 ls hf hl => ?_)
  refine w_X7_choose_L10 hM ho ho1 (fun h8 H locs ls hf hw hl => ?_) fu _ _ _ hf _ _ _ hw (lv_sub hl [2, 3, 1, 0] rfl)
  exact hR _ _ _ _ _ (Option.some.inj hf) rfl hw dX7_choose_63
theorem hd_X7_choose : yX7_choose.cls = RX7 ∧ yX7_choose.cls ≠ "java/lang/invoke/MethodHandle" ∧ yX7_choose.cls ≠ "java/lang/invoke/VarHandle" ∧ (parseMethodDescriptor yX7_choose.desc).map (fun d => d.parameters.length) = some 2 := ⟨rfl, by decide, by decide, by decide +kernel⟩
theorem dX7_coinsFor_0 : decode cX7_coinsFor 0 = .ok (.iconst 0, 1) := by decide +kernel
theorem dX7_coinsFor_1 : decode cX7_coinsFor 1 = .ok (.istore_n 3, 1) := by decide +kernel
theorem dX7_coinsFor_2 : decode cX7_coinsFor 2 = .ok (.aload_n 2, 1) := by decide +kernel
theorem dX7_coinsFor_3 : decode cX7_coinsFor 3 = .ok (.getfield 80, 3) := by decide +kernel
theorem dX7_coinsFor_6 : decode cX7_coinsFor 6 = .ok (.istore 4, 2) := by decide +kernel
theorem dX7_coinsFor_8 : decode cX7_coinsFor 8 = .ok (.iconst 0, 1) := by decide +kernel
theorem dX7_coinsFor_9 : decode cX7_coinsFor 9 = .ok (.istore 5, 2) := by decide +kernel
theorem dX7_coinsFor_11 : decode cX7_coinsFor 11 = .ok (.iload 5, 2) := by decide +kernel
theorem dX7_coinsFor_13 : decode cX7_coinsFor 13 = .ok (.aload_n 0, 1) := by decide +kernel
theorem dX7_coinsFor_14 : decode cX7_coinsFor 14 = .ok (.getfield 31, 3) := by decide +kernel
theorem dX7_coinsFor_17 : decode cX7_coinsFor 17 = .ok (.if_icmp .ge 53, 3) := by decide +kernel
theorem dX7_coinsFor_20 : decode cX7_coinsFor 20 = .ok (.aload_n 0, 1) := by decide +kernel
theorem dX7_coinsFor_21 : decode cX7_coinsFor 21 = .ok (.getfield 25, 3) := by decide +kernel
theorem dX7_coinsFor_24 : decode cX7_coinsFor 24 = .ok (.iload 5, 2) := by decide +kernel
theorem dX7_coinsFor_26 : decode cX7_coinsFor 26 = .ok (.iaload, 1) := by decide +kernel
theorem dX7_coinsFor_27 : decode cX7_coinsFor 27 = .ok (.istore 6, 2) := by decide +kernel
theorem dX7_coinsFor_29 : decode cX7_coinsFor 29 = .ok (.iload_n 3, 1) := by decide +kernel
theorem dX7_coinsFor_30 : decode cX7_coinsFor 30 = .ok (.iload 4, 2) := by decide +kernel
theorem dX7_coinsFor_32 : decode cX7_coinsFor 32 = .ok (.iload 6, 2) := by decide +kernel
theorem dX7_coinsFor_34 : decode cX7_coinsFor 34 = .ok (.ishr, 1) := by decide +kernel
theorem dX7_coinsFor_35 : decode cX7_coinsFor 35 = .ok (.iconst 1, 1) := by decide +kernel
theorem dX7_coinsFor_36 : decode cX7_coinsFor 36 = .ok (.iand, 1) := by decide +kernel
theorem dX7_coinsFor_37 : decode cX7_coinsFor 37 = .ok (.ifCond .eq 7, 3) := by decide +kernel
theorem dX7_coinsFor_40 : decode cX7_coinsFor 40 = .ok (.iconst 0, 1) := by decide +kernel
theorem dX7_coinsFor_41 : decode cX7_coinsFor 41 = .ok (.goto 12, 3) := by decide +kernel
theorem dX7_coinsFor_44 : decode cX7_coinsFor 44 = .ok (.aload_n 1, 1) := by decide +kernel
theorem dX7_coinsFor_45 : decode cX7_coinsFor 45 = .ok (.getfield 83, 3) := by decide +kernel
theorem dX7_coinsFor_48 : decode cX7_coinsFor 48 = .ok (.iload 6, 2) := by decide +kernel
theorem dX7_coinsFor_50 : decode cX7_coinsFor 50 = .ok (.aaload, 1) := by decide +kernel
theorem dX7_coinsFor_51 : decode cX7_coinsFor 51 = .ok (.iconst 0, 1) := by decide +kernel
theorem dX7_coinsFor_52 : decode cX7_coinsFor 52 = .ok (.iaload, 1) := by decide +kernel
theorem dX7_coinsFor_53 : decode cX7_coinsFor 53 = .ok (.iadd, 1) := by decide +kernel
theorem dX7_coinsFor_54 : decode cX7_coinsFor 54 = .ok (.istore_n 3, 1) := by decide +kernel
theorem dX7_coinsFor_55 : decode cX7_coinsFor 55 = .ok (.iload 4, 2) := by decide +kernel
theorem dX7_coinsFor_57 : decode cX7_coinsFor 57 = .ok (.iconst 1, 1) := by decide +kernel
theorem dX7_coinsFor_58 : decode cX7_coinsFor 58 = .ok (.iload 6, 2) := by decide +kernel
theorem dX7_coinsFor_60 : decode cX7_coinsFor 60 = .ok (.ishl, 1) := by decide +kernel
theorem dX7_coinsFor_61 : decode cX7_coinsFor 61 = .ok (.ior, 1) := by decide +kernel
theorem dX7_coinsFor_62 : decode cX7_coinsFor 62 = .ok (.istore 4, 2) := by decide +kernel
theorem dX7_coinsFor_64 : decode cX7_coinsFor 64 = .ok (.iinc 5 1, 3) := by decide +kernel
theorem dX7_coinsFor_67 : decode cX7_coinsFor 67 = .ok (.goto (-56), 3) := by decide +kernel
theorem dX7_coinsFor_70 : decode cX7_coinsFor 70 = .ok (.iload_n 3, 1) := by decide +kernel
theorem dX7_coinsFor_71 : decode cX7_coinsFor 71 = .ok (.ireturn, 1) := by decide +kernel
def c_X7_coinsFor_L11b {ρ : Type}  (p : Nat) (q1 : Nat) (q2 : Nat) (h : PH) (K1 : Int32 → Option ρ) (REC : Int32 → Int32 → Int32 → Option ρ) (x3 : Int32) (x4 : Int32) (x5 : Int32) : Option ρ :=
  if (h.1 p 5) ≤ x5 then
    K1 x3
  else
    gd (ixOK x5 3) <|
    nm (h.1 (p + 6) x5.toNatClampNeg) fun v4 =>
    if ((x4 >>> (v4 &&& 31)) &&& 1) = 0 then
      gd (ixOK v4 7) <|
      nm (x3 + (h.1 (q1 + 13 + 1 + v4.toNatClampNeg) 0)) fun v6 =>
      nm (x4 ||| ((1 : Int32) <<< (v4 &&& 31))) fun v7 =>
      nm (x5 + 1) fun v8 =>
      REC v6 v7 v8
    else
      nm (x3 + 0) fun v9 =>
      nm (x4 ||| ((1 : Int32) <<< (v4 &&& 31))) fun v10 =>
      nm (x5 + 1) fun v11 =>
      REC v9 v10 v11
set_option maxHeartbeats 4000000 in
set_option maxRecDepth 100000 in
theorem w_X7_coinsFor_L11b {p0 : Program} {l : Launch} {e : Env} {s : State} {m : MethodId} {args : Array Value} {below : List Frame} {meth : Method} {c : Code} {Q : State → Prop} {D : va_G} {G : GG} {A : Nat → Prop} {H0 : Heap} {ad : Nat → Nat} {lay : List KK} {X : va_W} {ρ : Type} {p : Nat} {q1 : Nat} {q2 : Nat} {r0 : ρ} {x3 : Int32} {x4 : Int32} {x5 : Int32} {h : PH} {H : Heap} {locs : List Loc} {ls : Array Slot} {K1 : Int32 → Option ρ} {REC : Int32 → Int32 → Int32 → Option ρ} (hM : CallFix p0 m c cX7_coinsFor 7 s args lw_g RX7) (ho : okX7 lay p) (ho1 : okX9 lay q1) (ho2 : okX8 lay q2) (hk1 : ∀ (x3 : Int32), ∀ (H : Heap) (locs : List Loc) (ls : Array Slot), K1 x3 = some r0 → Wd D G A H0 ad lay X h s H locs → lv_has ls 7 [(3, .int x3)] → W p0 l e (rmN 0 0) s m args below meth c H locs 0 0 Q (F0 m 70 ls [])) (hrec : ∀ (x3 : Int32) (x4 : Int32) (x5 : Int32), ∀ (H : Heap) (locs : List Loc) (ls : Array Slot), REC x3 x4 x5 = some r0 → Wd D G A H0 ad lay X h s H locs → lv_has ls 7 [(0, .ref (ad p)), (1, .ref (ad q1)), (3, .int x3), (4, .int x4), (5, .int x5)] → W p0 l e (rmN 0 0) s m args below meth c H locs 0 0 Q (F0 m 11 ls [])) (hw : Wd D G A H0 ad lay X h s H locs) (hl : lv_has ls 7 [(0, .ref (ad p)), (1, .ref (ad q1)), (3, .int x3), (4, .int x4), (5, .int x5)]) (hf : c_X7_coinsFor_L11b p q1 q2 h K1 REC x3 x4 x5 = some r0) : W p0 l e (rmN 0 0) s m args below meth c H locs 0 0 Q (F0 m 11 ls []) := by
  unfold c_X7_coinsFor_L11b at hf
  refine lv_iload hM.1 hM.2.1 dX7_coinsFor_11 (lv_at hl 4 rfl) ?_
  refine lv_aload_n hM.1 hM.2.1 dX7_coinsFor_13 rfl (lv_at hl 0 rfl) ?_
  refine gf_X7_size hM hw (okX7.o ho) fl_X7_31 dX7_coinsFor_14 ?_
  refine x_ic_ge (tgt := 70) hM hf dX7_coinsFor_17 (by decide) (fun hf => ?_) (fun hf => ?_)
  · exact hk1 _ _ _ _ hf hw (lv_sub hl [2] rfl)
  refine lv_aload_n hM.1 hM.2.1 dX7_coinsFor_20 rfl (lv_at hl 0 rfl) ?_
  refine gf_X7_chosen hM hw (okX7.o ho) fl_X7_25 dX7_coinsFor_21 ?_
  refine lv_iload hM.1 hM.2.1 dX7_coinsFor_24 (lv_at hl 4 rfl) ?_
  refine x_iald hM hw (okX7.chosen ho) hf dX7_coinsFor_26 (fun hf => ?_)
  refine x_istore hM hf dX7_coinsFor_27 hl (by decide) (fun v4 => [(6, .int v4), (0, .ref (ad p)), (1, .ref (ad q1)), (3, .int x3), (4, .int x4), (5, .int x5)]) (fun _ => rfl) (fun v4 ls hf hl => ?_)
  refine lv_iload_n hM.1 hM.2.1 dX7_coinsFor_29 rfl (lv_at hl 3 rfl) ?_
  refine lv_iload hM.1 hM.2.1 dX7_coinsFor_30 (lv_at hl 4 rfl) ?_
  refine lv_iload hM.1 hM.2.1 dX7_coinsFor_32 (lv_at hl 0 rfl) ?_
  refine lv_ishr hM.1 hM.2.1 dX7_coinsFor_34 ?_
  refine lv_iconst (v := 1) hM.1 hM.2.1 dX7_coinsFor_35 ic_1 ?_
  refine lv_iand hM.1 hM.2.1 dX7_coinsFor_36 ?_
  refine x_if_eq (tgt := 44) hM hf dX7_coinsFor_37 (by decide) (fun hf => ?_) (fun hf => ?_)
  · refine lv_aload_n hM.1 hM.2.1 dX7_coinsFor_44 rfl (lv_at hl 2 rfl) ?_
    refine gf_X9_excuseRows hM hw (okX9.o ho1) fl_X7_83 dX7_coinsFor_45 ?_
    refine lv_iload hM.1 hM.2.1 dX7_coinsFor_48 (lv_at hl 0 rfl) ?_
    refine x_aaldI hM hw (okX9.excuseRows ho1) hf dX7_coinsFor_50 (fun hi5 hf => ?_)
    refine lv_iconst (v := 0) hM.1 hM.2.1 dX7_coinsFor_51 ic_0 ?_
    refine x_ialdK hM hw (okX9.excuseRows_atI ho1 hi5) 0 (by decide) (by decide) dX7_coinsFor_52 ?_
    refine lv_iadd hM.1 hM.2.1 dX7_coinsFor_53 ?_
    refine x_istore_n hM hf dX7_coinsFor_54 rfl hl (by decide) (fun v6 => [(3, .int v6), (6, .int v4), (0, .ref (ad p)), (1, .ref (ad q1)), (4, .int x4), (5, .int x5)]) (fun _ => rfl) (fun v6 ls hf hl => ?_)
    refine lv_iload hM.1 hM.2.1 dX7_coinsFor_55 (lv_at hl 4 rfl) ?_
    refine lv_iconst (v := 1) hM.1 hM.2.1 dX7_coinsFor_57 ic_1 ?_
    refine lv_iload hM.1 hM.2.1 dX7_coinsFor_58 (lv_at hl 1 rfl) ?_
    refine lv_ishl hM.1 hM.2.1 dX7_coinsFor_60 ?_
    refine lv_ior hM.1 hM.2.1 dX7_coinsFor_61 ?_
    refine x_istore hM hf dX7_coinsFor_62 hl (by decide) (fun v7 => [(4, .int v7), (3, .int v6), (6, .int v4), (0, .ref (ad p)), (1, .ref (ad q1)), (5, .int x5)]) (fun _ => rfl) (fun v7 ls hf hl => ?_)
    refine x_iinc (k := 5) (d := 1) hM hf dX7_coinsFor_64 hl rfl (by decide) (by decide) (fun v8 => [(5, .int v8), (4, .int v7), (3, .int v6), (6, .int v4), (0, .ref (ad p)), (1, .ref (ad q1))]) (fun _ => rfl) (fun v8 ls hf hl => ?_)
    refine lv_goto (tgt := 11) hM.1 hM.2.1 dX7_coinsFor_67 (by decide) ?_
    exact hrec _ _ _ _ _ _ hf hw (lv_sub hl [4, 5, 2, 1, 0] rfl)
  refine lv_iconst (v := 0) hM.1 hM.2.1 dX7_coinsFor_40 ic_0 ?_
  refine lv_goto (tgt := 53) hM.1 hM.2.1 dX7_coinsFor_41 (by decide) ?_
  refine lv_iadd hM.1 hM.2.1 dX7_coinsFor_53 ?_
  refine x_istore_n hM hf dX7_coinsFor_54 rfl hl (by decide) (fun v9 => [(3, .int v9), (6, .int v4), (0, .ref (ad p)), (1, .ref (ad q1)), (4, .int x4), (5, .int x5)]) (fun _ => rfl) (fun v9 ls hf hl => ?_)
  refine lv_iload hM.1 hM.2.1 dX7_coinsFor_55 (lv_at hl 4 rfl) ?_
  refine lv_iconst (v := 1) hM.1 hM.2.1 dX7_coinsFor_57 ic_1 ?_
  refine lv_iload hM.1 hM.2.1 dX7_coinsFor_58 (lv_at hl 1 rfl) ?_
  refine lv_ishl hM.1 hM.2.1 dX7_coinsFor_60 ?_
  refine lv_ior hM.1 hM.2.1 dX7_coinsFor_61 ?_
  refine x_istore hM hf dX7_coinsFor_62 hl (by decide) (fun v10 => [(4, .int v10), (3, .int v9), (6, .int v4), (0, .ref (ad p)), (1, .ref (ad q1)), (5, .int x5)]) (fun _ => rfl) (fun v10 ls hf hl => ?_)
  refine x_iinc (k := 5) (d := 1) hM hf dX7_coinsFor_64 hl rfl (by decide) (by decide) (fun v11 => [(5, .int v11), (4, .int v10), (3, .int v9), (6, .int v4), (0, .ref (ad p)), (1, .ref (ad q1))]) (fun _ => rfl) (fun v11 ls hf hl => ?_)
  refine lv_goto (tgt := 11) hM.1 hM.2.1 dX7_coinsFor_67 (by decide) ?_
  exact hrec _ _ _ _ _ _ hf hw (lv_sub hl [4, 5, 2, 1, 0] rfl)
set_option maxHeartbeats 4000000 in
set_option maxRecDepth 100000 in
theorem w_X7_coinsFor_L11 {p0 : Program} {l : Launch} {e : Env} {s : State} {m : MethodId} {args : Array Value} {below : List Frame} {meth : Method} {c : Code} {Q : State → Prop} {D : va_G} {G : GG} {A : Nat → Prop} {H0 : Heap} {ad : Nat → Nat} {lay : List KK} {X : va_W} {ρ : Type} {p : Nat} {q1 : Nat} {q2 : Nat} {r0 : ρ} {h : PH} {K1 : Int32 → Option ρ} (hM : CallFix p0 m c cX7_coinsFor 7 s args lw_g RX7) (ho : okX7 lay p) (ho1 : okX9 lay q1) (ho2 : okX8 lay q2) (hk1 : ∀ (x3 : Int32), ∀ (H : Heap) (locs : List Loc) (ls : Array Slot), K1 x3 = some r0 → Wd D G A H0 ad lay X h s H locs → lv_has ls 7 [(3, .int x3)] → W p0 l e (rmN 0 0) s m args below meth c H locs 0 0 Q (F0 m 70 ls [])) (n : Nat) (x3 : Int32) (x4 : Int32) (x5 : Int32) (hf : lq3 (c_X7_coinsFor_L11b p q1 q2 h K1) n x3 x4 x5 = some r0) : ∀ (H : Heap) (locs : List Loc) (ls : Array Slot), Wd D G A H0 ad lay X h s H locs → lv_has ls 7 [(0, .ref (ad p)), (1, .ref (ad q1)), (3, .int x3), (4, .int x4), (5, .int x5)] → W p0 l e (rmN 0 0) s m args below meth c H locs 0 0 Q (F0 m 11 ls []) := by
  exact lq3_i (fun (x3 : Int32) (x4 : Int32) (x5 : Int32) => ∀ (H : Heap) (locs : List Loc) (ls : Array Slot), Wd D G A H0 ad lay X h s H locs → lv_has ls 7 [(0, .ref (ad p)), (1, .ref (ad q1)), (3, .int x3), (4, .int x4), (5, .int x5)] → W p0 l e (rmN 0 0) s m args below meth c H locs 0 0 Q (F0 m 11 ls [])) (fun REC x3 x4 x5 ih hf H locs ls hw hl => w_X7_coinsFor_L11b hM ho ho1 ho2 hk1 (fun x3 x4 x5 H locs ls hf hw hl => ih x3 x4 x5 hf H locs ls hw hl) hw hl hf) n x3 x4 x5 hf
def c_X7_coinsFor (p : Nat) (q1 : Nat) (q2 : Nat) (h : PH) : Option (Int32) :=
  nm (0 : Int32) fun v1 =>
  nm (h.1 q2 3) fun v2 =>
  nm (0 : Int32) fun v3 =>
  lq3 (c_X7_coinsFor_L11b p q1 q2 h
    (fun w12 =>
      some w12)) fu v1 v2 v3
set_option maxHeartbeats 4000000 in
set_option maxRecDepth 100000 in
theorem ct_X7_coinsFor (l : Launch) {lay : List KK} {p : Nat} {q1 : Nat} {q2 : Nat} (ho : okX7 lay p) (ho1 : okX9 lay q1) (ho2 : okX8 lay q2) : CtI l yX7_coinsFor cX7_coinsFor 7 (some .int) 0 0 lay (rd (fun h => c_X7_coinsFor p q1 q2 h)) (fun ad => [.ref (ad p), .ref (ad q1), .ref (ad q2)]) := by
  refine CtI.mk' RX7 (by decide) rfl (fun _ => Nat.le_of_ble_eq_true rfl) ?_
  intro p0 e s m args below meth c D G A H0 ad X h r0 H ls Q hM hw hl hf hR
  have hl : lv_has ls 7 [(0, .ref (ad p)), (1, .ref (ad q1)), (2, .ref (ad q2))] := hl
  obtain ⟨v0, hv0, hr0⟩ : ∃ v0, c_X7_coinsFor p q1 q2 h = some v0 ∧ r0 = (v0, h) := rd_some hf
  subst hr0
  have hf := hv0
  unfold c_X7_coinsFor at hf
  refine lv_iconst (v := 0) hM.1 hM.2.1 dX7_coinsFor_0 ic_0 ?_
  refine x_istore_n hM hf dX7_coinsFor_1 rfl hl (by decide) (fun v1 => [(3, .int v1), (0, .ref (ad p)), (1, .ref (ad q1)), (2, .ref (ad q2))]) (fun _ => rfl) (fun v1 ls hf hl => ?_)
  refine lv_aload_n hM.1 hM.2.1 dX7_coinsFor_2 rfl (lv_at hl 3 rfl) ?_
  refine gf_X8_owned hM hw (okX8.o ho2) fl_X7_80 dX7_coinsFor_3 ?_
  refine x_istore hM hf dX7_coinsFor_6 hl (by decide) (fun v2 => [(4, .int v2), (3, .int v1), (0, .ref (ad p)), (1, .ref (ad q1)), (2, .ref (ad q2))]) (fun _ => rfl) (fun v2 ls hf hl => ?_)
  refine lv_iconst (v := 0) hM.1 hM.2.1 dX7_coinsFor_8 ic_0 ?_
  refine x_istore hM hf dX7_coinsFor_9 hl (by decide) (fun v3 => [(5, .int v3), (4, .int v2), (3, .int v1), (0, .ref (ad p)), (1, .ref (ad q1)), (2, .ref (ad q2))]) (fun _ => rfl) (fun v3 ls hf hl => ?_)
  refine w_X7_coinsFor_L11 hM ho ho1 ho2 (fun w12 H locs ls hf hw hl => ?_) fu _ _ _ hf _ _ _ hw (lv_sub hl [3, 4, 2, 1, 0] rfl)
  refine lv_iload_n hM.1 hM.2.1 dX7_coinsFor_70 rfl (lv_at hl 0 rfl) ?_
  exact hR _ _ _ _ _ _ _ (congrArg (fun z => (z, _)) (Option.some.inj hf)) rfl rfl hw dX7_coinsFor_71
theorem hd_X7_coinsFor : yX7_coinsFor.cls = RX7 ∧ yX7_coinsFor.cls ≠ "java/lang/invoke/MethodHandle" ∧ yX7_coinsFor.cls ≠ "java/lang/invoke/VarHandle" ∧ (parseMethodDescriptor yX7_coinsFor.desc).map (fun d => d.parameters.length) = some 2 := ⟨rfl, by decide, by decide, by decide +kernel⟩
theorem dX7_usesOnceAgain_0 : decode cX7_usesOnceAgain 0 = .ok (.iconst 0, 1) := by decide +kernel
theorem dX7_usesOnceAgain_1 : decode cX7_usesOnceAgain 1 = .ok (.istore_n 2, 1) := by decide +kernel
theorem dX7_usesOnceAgain_2 : decode cX7_usesOnceAgain 2 = .ok (.iconst 0, 1) := by decide +kernel
theorem dX7_usesOnceAgain_3 : decode cX7_usesOnceAgain 3 = .ok (.istore_n 3, 1) := by decide +kernel
theorem dX7_usesOnceAgain_4 : decode cX7_usesOnceAgain 4 = .ok (.iload_n 3, 1) := by decide +kernel
theorem dX7_usesOnceAgain_5 : decode cX7_usesOnceAgain 5 = .ok (.aload_n 0, 1) := by decide +kernel
theorem dX7_usesOnceAgain_6 : decode cX7_usesOnceAgain 6 = .ok (.getfield 31, 3) := by decide +kernel
theorem dX7_usesOnceAgain_9 : decode cX7_usesOnceAgain 9 = .ok (.if_icmp .ge 47, 3) := by decide +kernel
theorem dX7_usesOnceAgain_12 : decode cX7_usesOnceAgain 12 = .ok (.aload_n 0, 1) := by decide +kernel
theorem dX7_usesOnceAgain_13 : decode cX7_usesOnceAgain 13 = .ok (.getfield 25, 3) := by decide +kernel
theorem dX7_usesOnceAgain_16 : decode cX7_usesOnceAgain 16 = .ok (.iload_n 3, 1) := by decide +kernel
theorem dX7_usesOnceAgain_17 : decode cX7_usesOnceAgain 17 = .ok (.iaload, 1) := by decide +kernel
theorem dX7_usesOnceAgain_18 : decode cX7_usesOnceAgain 18 = .ok (.istore 4, 2) := by decide +kernel
theorem dX7_usesOnceAgain_20 : decode cX7_usesOnceAgain 20 = .ok (.iload_n 2, 1) := by decide +kernel
theorem dX7_usesOnceAgain_21 : decode cX7_usesOnceAgain 21 = .ok (.iload 4, 2) := by decide +kernel
theorem dX7_usesOnceAgain_23 : decode cX7_usesOnceAgain 23 = .ok (.ishr, 1) := by decide +kernel
theorem dX7_usesOnceAgain_24 : decode cX7_usesOnceAgain 24 = .ok (.iconst 1, 1) := by decide +kernel
theorem dX7_usesOnceAgain_25 : decode cX7_usesOnceAgain 25 = .ok (.iand, 1) := by decide +kernel
theorem dX7_usesOnceAgain_26 : decode cX7_usesOnceAgain 26 = .ok (.ifCond .eq 17, 3) := by decide +kernel
theorem dX7_usesOnceAgain_29 : decode cX7_usesOnceAgain 29 = .ok (.aload_n 1, 1) := by decide +kernel
theorem dX7_usesOnceAgain_30 : decode cX7_usesOnceAgain 30 = .ok (.getfield 83, 3) := by decide +kernel
theorem dX7_usesOnceAgain_33 : decode cX7_usesOnceAgain 33 = .ok (.iload 4, 2) := by decide +kernel
theorem dX7_usesOnceAgain_35 : decode cX7_usesOnceAgain 35 = .ok (.aaload, 1) := by decide +kernel
theorem dX7_usesOnceAgain_36 : decode cX7_usesOnceAgain 36 = .ok (.iconst 4, 1) := by decide +kernel
theorem dX7_usesOnceAgain_37 : decode cX7_usesOnceAgain 37 = .ok (.iaload, 1) := by decide +kernel
theorem dX7_usesOnceAgain_38 : decode cX7_usesOnceAgain 38 = .ok (.ifCond .eq 5, 3) := by decide +kernel
theorem dX7_usesOnceAgain_41 : decode cX7_usesOnceAgain 41 = .ok (.iconst 1, 1) := by decide +kernel
theorem dX7_usesOnceAgain_42 : decode cX7_usesOnceAgain 42 = .ok (.ireturn, 1) := by decide +kernel
theorem dX7_usesOnceAgain_43 : decode cX7_usesOnceAgain 43 = .ok (.iload_n 2, 1) := by decide +kernel
theorem dX7_usesOnceAgain_44 : decode cX7_usesOnceAgain 44 = .ok (.iconst 1, 1) := by decide +kernel
theorem dX7_usesOnceAgain_45 : decode cX7_usesOnceAgain 45 = .ok (.iload 4, 2) := by decide +kernel
theorem dX7_usesOnceAgain_47 : decode cX7_usesOnceAgain 47 = .ok (.ishl, 1) := by decide +kernel
theorem dX7_usesOnceAgain_48 : decode cX7_usesOnceAgain 48 = .ok (.ior, 1) := by decide +kernel
theorem dX7_usesOnceAgain_49 : decode cX7_usesOnceAgain 49 = .ok (.istore_n 2, 1) := by decide +kernel
theorem dX7_usesOnceAgain_50 : decode cX7_usesOnceAgain 50 = .ok (.iinc 3 1, 3) := by decide +kernel
theorem dX7_usesOnceAgain_53 : decode cX7_usesOnceAgain 53 = .ok (.goto (-49), 3) := by decide +kernel
theorem dX7_usesOnceAgain_56 : decode cX7_usesOnceAgain 56 = .ok (.iconst 0, 1) := by decide +kernel
theorem dX7_usesOnceAgain_57 : decode cX7_usesOnceAgain 57 = .ok (.ireturn, 1) := by decide +kernel
def c_X7_usesOnceAgain_L4b {ρ : Type}  (p : Nat) (q1 : Nat) (h : PH) (K1 : Option ρ) (K2 : Option ρ) (REC : Int32 → Int32 → Option ρ) (x2 : Int32) (x3 : Int32) : Option ρ :=
  if (h.1 p 5) ≤ x3 then
    K2
  else
    gd (ixOK x3 3) <|
    nm (h.1 (p + 6) x3.toNatClampNeg) fun v3 =>
    if ((x2 >>> (v3 &&& 31)) &&& 1) = 0 then
      nm (x2 ||| ((1 : Int32) <<< (v3 &&& 31))) fun v4 =>
      nm (x3 + 1) fun v5 =>
      REC v4 v5
    else
      gd (ixOK v3 7) <|
      if (h.1 (q1 + 13 + 1 + v3.toNatClampNeg) 4) = 0 then
        nm (x2 ||| ((1 : Int32) <<< (v3 &&& 31))) fun v7 =>
        nm (x3 + 1) fun v8 =>
        REC v7 v8
      else
        K1
set_option maxHeartbeats 4000000 in
set_option maxRecDepth 100000 in
theorem w_X7_usesOnceAgain_L4b {p0 : Program} {l : Launch} {e : Env} {s : State} {m : MethodId} {args : Array Value} {below : List Frame} {meth : Method} {c : Code} {Q : State → Prop} {D : va_G} {G : GG} {A : Nat → Prop} {H0 : Heap} {ad : Nat → Nat} {lay : List KK} {X : va_W} {ρ : Type} {p : Nat} {q1 : Nat} {r0 : ρ} {x2 : Int32} {x3 : Int32} {h : PH} {H : Heap} {locs : List Loc} {ls : Array Slot} {K1 : Option ρ} {K2 : Option ρ} {REC : Int32 → Int32 → Option ρ} (hM : CallFix p0 m c cX7_usesOnceAgain 5 s args lw_g RX7) (ho : okX7 lay p) (ho1 : okX9 lay q1) (hk1 : ∀ (H : Heap) (locs : List Loc) (ls : Array Slot), K1 = some r0 → Wd D G A H0 ad lay X h s H locs → lv_has ls 5 [] → W p0 l e (rmN 0 0) s m args below meth c H locs 0 0 Q (F0 m 41 ls [])) (hk2 : ∀ (H : Heap) (locs : List Loc) (ls : Array Slot), K2 = some r0 → Wd D G A H0 ad lay X h s H locs → lv_has ls 5 [] → W p0 l e (rmN 0 0) s m args below meth c H locs 0 0 Q (F0 m 56 ls [])) (hrec : ∀ (x2 : Int32) (x3 : Int32), ∀ (H : Heap) (locs : List Loc) (ls : Array Slot), REC x2 x3 = some r0 → Wd D G A H0 ad lay X h s H locs → lv_has ls 5 [(0, .ref (ad p)), (1, .ref (ad q1)), (2, .int x2), (3, .int x3)] → W p0 l e (rmN 0 0) s m args below meth c H locs 0 0 Q (F0 m 4 ls [])) (hw : Wd D G A H0 ad lay X h s H locs) (hl : lv_has ls 5 [(0, .ref (ad p)), (1, .ref (ad q1)), (2, .int x2), (3, .int x3)]) (hf : c_X7_usesOnceAgain_L4b p q1 h K1 K2 REC x2 x3 = some r0) : W p0 l e (rmN 0 0) s m args below meth c H locs 0 0 Q (F0 m 4 ls []) := by
  unfold c_X7_usesOnceAgain_L4b at hf
  refine lv_iload_n hM.1 hM.2.1 dX7_usesOnceAgain_4 rfl (lv_at hl 3 rfl) ?_
  refine lv_aload_n hM.1 hM.2.1 dX7_usesOnceAgain_5 rfl (lv_at hl 0 rfl) ?_
  refine gf_X7_size hM hw (okX7.o ho) fl_X7_31 dX7_usesOnceAgain_6 ?_
  refine x_ic_ge (tgt := 56) hM hf dX7_usesOnceAgain_9 (by decide) (fun hf => ?_) (fun hf => ?_)
  · exact hk2 _ _ _ hf hw (lv_sub hl [] rfl)
  refine lv_aload_n hM.1 hM.2.1 dX7_usesOnceAgain_12 rfl (lv_at hl 0 rfl) ?_
  refine gf_X7_chosen hM hw (okX7.o ho) fl_X7_25 dX7_usesOnceAgain_13 ?_
  refine lv_iload_n hM.1 hM.2.1 dX7_usesOnceAgain_16 rfl (lv_at hl 3 rfl) ?_
  refine x_iald hM hw (okX7.chosen ho) hf dX7_usesOnceAgain_17 (fun hf => ?_)
  refine x_istore hM hf dX7_usesOnceAgain_18 hl (by decide) (fun v3 => [(4, .int v3), (0, .ref (ad p)), (1, .ref (ad q1)), (2, .int x2), (3, .int x3)]) (fun _ => rfl) (fun v3 ls hf hl => ?_)
  refine lv_iload_n hM.1 hM.2.1 dX7_usesOnceAgain_20 rfl (lv_at hl 3 rfl) ?_
  refine lv_iload hM.1 hM.2.1 dX7_usesOnceAgain_21 (lv_at hl 0 rfl) ?_
  refine lv_ishr hM.1 hM.2.1 dX7_usesOnceAgain_23 ?_
  refine lv_iconst (v := 1) hM.1 hM.2.1 dX7_usesOnceAgain_24 ic_1 ?_
  refine lv_iand hM.1 hM.2.1 dX7_usesOnceAgain_25 ?_
  refine x_if_eq (tgt := 43) hM hf dX7_usesOnceAgain_26 (by decide) (fun hf => ?_) (fun hf => ?_)
  · refine lv_iload_n hM.1 hM.2.1 dX7_usesOnceAgain_43 rfl (lv_at hl 3 rfl) ?_
    refine lv_iconst (v := 1) hM.1 hM.2.1 dX7_usesOnceAgain_44 ic_1 ?_
    refine lv_iload hM.1 hM.2.1 dX7_usesOnceAgain_45 (lv_at hl 0 rfl) ?_
    refine lv_ishl hM.1 hM.2.1 dX7_usesOnceAgain_47 ?_
    refine lv_ior hM.1 hM.2.1 dX7_usesOnceAgain_48 ?_
    refine x_istore_n hM hf dX7_usesOnceAgain_49 rfl hl (by decide) (fun v4 => [(2, .int v4), (4, .int v3), (0, .ref (ad p)), (1, .ref (ad q1)), (3, .int x3)]) (fun _ => rfl) (fun v4 ls hf hl => ?_)
    refine x_iinc (k := 4) (d := 1) hM hf dX7_usesOnceAgain_50 hl rfl (by decide) (by decide) (fun v5 => [(3, .int v5), (2, .int v4), (4, .int v3), (0, .ref (ad p)), (1, .ref (ad q1))]) (fun _ => rfl) (fun v5 ls hf hl => ?_)
    refine lv_goto (tgt := 4) hM.1 hM.2.1 dX7_usesOnceAgain_53 (by decide) ?_
    exact hrec _ _ _ _ _ hf hw (lv_sub hl [3, 4, 1, 0] rfl)
  refine lv_aload_n hM.1 hM.2.1 dX7_usesOnceAgain_29 rfl (lv_at hl 2 rfl) ?_
  refine gf_X9_excuseRows hM hw (okX9.o ho1) fl_X7_83 dX7_usesOnceAgain_30 ?_
  refine lv_iload hM.1 hM.2.1 dX7_usesOnceAgain_33 (lv_at hl 0 rfl) ?_
  refine x_aaldI hM hw (okX9.excuseRows ho1) hf dX7_usesOnceAgain_35 (fun hi6 hf => ?_)
  refine lv_iconst (v := 4) hM.1 hM.2.1 dX7_usesOnceAgain_36 ic_4 ?_
  refine x_ialdK hM hw (okX9.excuseRows_atI ho1 hi6) 4 (by decide) (by decide) dX7_usesOnceAgain_37 ?_
  refine x_if_eq (tgt := 43) hM hf dX7_usesOnceAgain_38 (by decide) (fun hf => ?_) (fun hf => ?_)
  · refine lv_iload_n hM.1 hM.2.1 dX7_usesOnceAgain_43 rfl (lv_at hl 3 rfl) ?_
    refine lv_iconst (v := 1) hM.1 hM.2.1 dX7_usesOnceAgain_44 ic_1 ?_
    refine lv_iload hM.1 hM.2.1 dX7_usesOnceAgain_45 (lv_at hl 0 rfl) ?_
    refine lv_ishl hM.1 hM.2.1 dX7_usesOnceAgain_47 ?_
    refine lv_ior hM.1 hM.2.1 dX7_usesOnceAgain_48 ?_
    refine x_istore_n hM hf dX7_usesOnceAgain_49 rfl hl (by decide) (fun v7 => [(2, .int v7), (4, .int v3), (0, .ref (ad p)), (1, .ref (ad q1)), (3, .int x3)]) (fun _ => rfl) (fun v7 ls hf hl => ?_)
    refine x_iinc (k := 4) (d := 1) hM hf dX7_usesOnceAgain_50 hl rfl (by decide) (by decide) (fun v8 => [(3, .int v8), (2, .int v7), (4, .int v3), (0, .ref (ad p)), (1, .ref (ad q1))]) (fun _ => rfl) (fun v8 ls hf hl => ?_)
    refine lv_goto (tgt := 4) hM.1 hM.2.1 dX7_usesOnceAgain_53 (by decide) ?_
    exact hrec _ _ _ _ _ hf hw (lv_sub hl [3, 4, 1, 0] rfl)
  exact hk1 _ _ _ hf hw (lv_sub hl [] rfl)
set_option maxHeartbeats 4000000 in
set_option maxRecDepth 100000 in
theorem w_X7_usesOnceAgain_L4 {p0 : Program} {l : Launch} {e : Env} {s : State} {m : MethodId} {args : Array Value} {below : List Frame} {meth : Method} {c : Code} {Q : State → Prop} {D : va_G} {G : GG} {A : Nat → Prop} {H0 : Heap} {ad : Nat → Nat} {lay : List KK} {X : va_W} {ρ : Type} {p : Nat} {q1 : Nat} {r0 : ρ} {h : PH} {K1 : Option ρ} {K2 : Option ρ} (hM : CallFix p0 m c cX7_usesOnceAgain 5 s args lw_g RX7) (ho : okX7 lay p) (ho1 : okX9 lay q1) (hk1 : ∀ (H : Heap) (locs : List Loc) (ls : Array Slot), K1 = some r0 → Wd D G A H0 ad lay X h s H locs → lv_has ls 5 [] → W p0 l e (rmN 0 0) s m args below meth c H locs 0 0 Q (F0 m 41 ls [])) (hk2 : ∀ (H : Heap) (locs : List Loc) (ls : Array Slot), K2 = some r0 → Wd D G A H0 ad lay X h s H locs → lv_has ls 5 [] → W p0 l e (rmN 0 0) s m args below meth c H locs 0 0 Q (F0 m 56 ls [])) (n : Nat) (x2 : Int32) (x3 : Int32) (hf : lq2 (c_X7_usesOnceAgain_L4b p q1 h K1 K2) n x2 x3 = some r0) : ∀ (H : Heap) (locs : List Loc) (ls : Array Slot), Wd D G A H0 ad lay X h s H locs → lv_has ls 5 [(0, .ref (ad p)), (1, .ref (ad q1)), (2, .int x2), (3, .int x3)] → W p0 l e (rmN 0 0) s m args below meth c H locs 0 0 Q (F0 m 4 ls []) := by
  exact lq2_i (fun (x2 : Int32) (x3 : Int32) => ∀ (H : Heap) (locs : List Loc) (ls : Array Slot), Wd D G A H0 ad lay X h s H locs → lv_has ls 5 [(0, .ref (ad p)), (1, .ref (ad q1)), (2, .int x2), (3, .int x3)] → W p0 l e (rmN 0 0) s m args below meth c H locs 0 0 Q (F0 m 4 ls [])) (fun REC x2 x3 ih hf H locs ls hw hl => w_X7_usesOnceAgain_L4b hM ho ho1 hk1 hk2 (fun x2 x3 H locs ls hf hw hl => ih x2 x3 hf H locs ls hw hl) hw hl hf) n x2 x3 hf
def c_X7_usesOnceAgain (p : Nat) (q1 : Nat) (h : PH) : Option (Int32) :=
  nm (0 : Int32) fun v1 =>
  nm (0 : Int32) fun v2 =>
  lq2 (c_X7_usesOnceAgain_L4b p q1 h
    (some 1)
    (some 0)) fu v1 v2
set_option maxHeartbeats 4000000 in
set_option maxRecDepth 100000 in
theorem ct_X7_usesOnceAgain (l : Launch) {lay : List KK} {p : Nat} {q1 : Nat} (ho : okX7 lay p) (ho1 : okX9 lay q1) : CtI l yX7_usesOnceAgain cX7_usesOnceAgain 5 (some .boolean) 0 0 lay (rd (fun h => c_X7_usesOnceAgain p q1 h)) (fun ad => [.ref (ad p), .ref (ad q1)]) := by
  refine CtI.mk' RX7 (by decide) rfl (fun _ => Nat.le_of_ble_eq_true rfl) ?_
  intro p0 e s m args below meth c D G A H0 ad X h r0 H ls Q hM hw hl hf hR
  have hl : lv_has ls 5 [(0, .ref (ad p)), (1, .ref (ad q1))] := hl
  obtain ⟨v0, hv0, hr0⟩ : ∃ v0, c_X7_usesOnceAgain p q1 h = some v0 ∧ r0 = (v0, h) := rd_some hf
  subst hr0
  have hf := hv0
  unfold c_X7_usesOnceAgain at hf
  refine lv_iconst (v := 0) hM.1 hM.2.1 dX7_usesOnceAgain_0 ic_0 ?_
  refine x_istore_n hM hf dX7_usesOnceAgain_1 rfl hl (by decide) (fun v1 => [(2, .int v1), (0, .ref (ad p)), (1, .ref (ad q1))]) (fun _ => rfl) (fun v1 ls hf hl => ?_)
  refine lv_iconst (v := 0) hM.1 hM.2.1 dX7_usesOnceAgain_2 ic_0 ?_
  refine x_istore_n hM hf dX7_usesOnceAgain_3 rfl hl (by decide) (fun v2 => [(3, .int v2), (2, .int v1), (0, .ref (ad p)), (1, .ref (ad q1))]) (fun _ => rfl) (fun v2 ls hf hl => ?_)
  refine w_X7_usesOnceAgain_L4 hM ho ho1 (fun H locs ls hf hw hl => ?_) (fun H locs ls hf hw hl => ?_) fu _ _ hf _ _ _ hw (lv_sub hl [2, 3, 1, 0] rfl)
  · refine lv_iconst (v := 1) hM.1 hM.2.1 dX7_usesOnceAgain_41 ic_1 ?_
    exact hR _ _ _ _ _ _ _ (congrArg (fun z => (z, _)) (Option.some.inj hf)) rfl (nar_z (by decide)) hw dX7_usesOnceAgain_42
  · refine lv_iconst (v := 0) hM.1 hM.2.1 dX7_usesOnceAgain_56 ic_0 ?_
    exact hR _ _ _ _ _ _ _ (congrArg (fun z => (z, _)) (Option.some.inj hf)) rfl (nar_z (by decide)) hw dX7_usesOnceAgain_57
theorem hd_X7_usesOnceAgain : yX7_usesOnceAgain.cls = RX7 ∧ yX7_usesOnceAgain.cls ≠ "java/lang/invoke/MethodHandle" ∧ yX7_usesOnceAgain.cls ≠ "java/lang/invoke/VarHandle" ∧ (parseMethodDescriptor yX7_usesOnceAgain.desc).map (fun d => d.parameters.length) = some 1 := ⟨rfl, by decide, by decide, by decide +kernel⟩
theorem dX7_works_0 : decode cX7_works 0 = .ok (.aload_n 0, 1) := by decide +kernel
theorem dX7_works_1 : decode cX7_works 1 = .ok (.getfield 12, 3) := by decide +kernel
theorem dX7_works_4 : decode cX7_works 4 = .ok (.aload_n 3, 1) := by decide +kernel
theorem dX7_works_5 : decode cX7_works 5 = .ok (.invokevirtual 86, 3) := by decide +kernel
theorem dX7_works_8 : decode cX7_works 8 = .ok (.iconst 0, 1) := by decide +kernel
theorem dX7_works_9 : decode cX7_works 9 = .ok (.istore 5, 2) := by decide +kernel
theorem dX7_works_11 : decode cX7_works 11 = .ok (.iload 5, 2) := by decide +kernel
theorem dX7_works_13 : decode cX7_works 13 = .ok (.aload_n 0, 1) := by decide +kernel
theorem dX7_works_14 : decode cX7_works 14 = .ok (.getfield 31, 3) := by decide +kernel
theorem dX7_works_17 : decode cX7_works 17 = .ok (.if_icmp .ge 160, 3) := by decide +kernel
theorem dX7_works_20 : decode cX7_works 20 = .ok (.aload_n 0, 1) := by decide +kernel
theorem dX7_works_21 : decode cX7_works 21 = .ok (.getfield 25, 3) := by decide +kernel
theorem dX7_works_24 : decode cX7_works 24 = .ok (.aload_n 0, 1) := by decide +kernel
theorem dX7_works_25 : decode cX7_works 25 = .ok (.getfield 22, 3) := by decide +kernel
theorem dX7_works_28 : decode cX7_works 28 = .ok (.iload 5, 2) := by decide +kernel
theorem dX7_works_30 : decode cX7_works 30 = .ok (.iaload, 1) := by decide +kernel
theorem dX7_works_31 : decode cX7_works 31 = .ok (.iaload, 1) := by decide +kernel
theorem dX7_works_32 : decode cX7_works 32 = .ok (.istore 6, 2) := by decide +kernel
theorem dX7_works_34 : decode cX7_works 34 = .ok (.aload_n 0, 1) := by decide +kernel
theorem dX7_works_35 : decode cX7_works 35 = .ok (.getfield 18, 3) := by decide +kernel
theorem dX7_works_38 : decode cX7_works 38 = .ok (.aload_n 0, 1) := by decide +kernel
theorem dX7_works_39 : decode cX7_works 39 = .ok (.getfield 22, 3) := by decide +kernel
theorem dX7_works_42 : decode cX7_works 42 = .ok (.iload 5, 2) := by decide +kernel
theorem dX7_works_44 : decode cX7_works 44 = .ok (.iaload, 1) := by decide +kernel
theorem dX7_works_45 : decode cX7_works 45 = .ok (.iaload, 1) := by decide +kernel
theorem dX7_works_46 : decode cX7_works 46 = .ok (.istore 7, 2) := by decide +kernel
theorem dX7_works_48 : decode cX7_works 48 = .ok (.aload_n 2, 1) := by decide +kernel
theorem dX7_works_49 : decode cX7_works 49 = .ok (.getfield 76, 3) := by decide +kernel
theorem dX7_works_52 : decode cX7_works 52 = .ok (.iload 7, 2) := by decide +kernel
theorem dX7_works_54 : decode cX7_works 54 = .ok (.aaload, 1) := by decide +kernel
theorem dX7_works_55 : decode cX7_works 55 = .ok (.astore 8, 2) := by decide +kernel
theorem dX7_works_57 : decode cX7_works 57 = .ok (.aload_n 1, 1) := by decide +kernel
theorem dX7_works_58 : decode cX7_works 58 = .ok (.aload_n 2, 1) := by decide +kernel
theorem dX7_works_59 : decode cX7_works 59 = .ok (.aload_n 0, 1) := by decide +kernel
theorem dX7_works_60 : decode cX7_works 60 = .ok (.getfield 12, 3) := by decide +kernel
theorem dX7_works_63 : decode cX7_works 63 = .ok (.aload 8, 2) := by decide +kernel
theorem dX7_works_65 : decode cX7_works 65 = .ok (.iconst 1, 1) := by decide +kernel
theorem dX7_works_66 : decode cX7_works 66 = .ok (.iaload, 1) := by decide +kernel
theorem dX7_works_67 : decode cX7_works 67 = .ok (.aload_n 0, 1) := by decide +kernel
theorem dX7_works_68 : decode cX7_works 68 = .ok (.getfield 12, 3) := by decide +kernel
theorem dX7_works_71 : decode cX7_works 71 = .ok (.getfield 90, 3) := by decide +kernel
theorem dX7_works_74 : decode cX7_works 74 = .ok (.isub, 1) := by decide +kernel
theorem dX7_works_75 : decode cX7_works 75 = .ok (.invokevirtual 93, 3) := by decide +kernel
theorem dX7_works_78 : decode cX7_works 78 = .ok (.aload_n 1, 1) := by decide +kernel
theorem dX7_works_79 : decode cX7_works 79 = .ok (.aload_n 2, 1) := by decide +kernel
theorem dX7_works_80 : decode cX7_works 80 = .ok (.aload_n 0, 1) := by decide +kernel
theorem dX7_works_81 : decode cX7_works 81 = .ok (.getfield 12, 3) := by decide +kernel
theorem dX7_works_84 : decode cX7_works 84 = .ok (.iload 6, 2) := by decide +kernel
theorem dX7_works_86 : decode cX7_works 86 = .ok (.aload 8, 2) := by decide +kernel
theorem dX7_works_88 : decode cX7_works 88 = .ok (.iconst 0, 1) := by decide +kernel
theorem dX7_works_89 : decode cX7_works 89 = .ok (.iaload, 1) := by decide +kernel
theorem dX7_works_90 : decode cX7_works 90 = .ok (.aload 8, 2) := by decide +kernel
theorem dX7_works_92 : decode cX7_works 92 = .ok (.iconst 2, 1) := by decide +kernel
theorem dX7_works_93 : decode cX7_works 93 = .ok (.iaload, 1) := by decide +kernel
theorem dX7_works_94 : decode cX7_works 94 = .ok (.aload_n 2, 1) := by decide +kernel
theorem dX7_works_95 : decode cX7_works 95 = .ok (.getfield 99, 3) := by decide +kernel
theorem dX7_works_98 : decode cX7_works 98 = .ok (.invokevirtual 102, 3) := by decide +kernel
theorem dX7_works_101 : decode cX7_works 101 = .ok (.iload 4, 2) := by decide +kernel
theorem dX7_works_103 : decode cX7_works 103 = .ok (.if_icmp .ge 5, 3) := by decide +kernel
theorem dX7_works_106 : decode cX7_works 106 = .ok (.iconst 0, 1) := by decide +kernel
theorem dX7_works_107 : decode cX7_works 107 = .ok (.ireturn, 1) := by decide +kernel
theorem dX7_works_108 : decode cX7_works 108 = .ok (.aload_n 1, 1) := by decide +kernel
theorem dX7_works_109 : decode cX7_works 109 = .ok (.aload_n 0, 1) := by decide +kernel
theorem dX7_works_110 : decode cX7_works 110 = .ok (.getfield 12, 3) := by decide +kernel
theorem dX7_works_113 : decode cX7_works 113 = .ok (.aload 8, 2) := by decide +kernel
theorem dX7_works_115 : decode cX7_works 115 = .ok (.iconst 0, 1) := by decide +kernel
theorem dX7_works_116 : decode cX7_works 116 = .ok (.iaload, 1) := by decide +kernel
theorem dX7_works_117 : decode cX7_works 117 = .ok (.aload_n 1, 1) := by decide +kernel
theorem dX7_works_118 : decode cX7_works 118 = .ok (.aload_n 2, 1) := by decide +kernel
theorem dX7_works_119 : decode cX7_works 119 = .ok (.aload_n 0, 1) := by decide +kernel
theorem dX7_works_120 : decode cX7_works 120 = .ok (.getfield 12, 3) := by decide +kernel
theorem dX7_works_123 : decode cX7_works 123 = .ok (.iload 6, 2) := by decide +kernel
theorem dX7_works_125 : decode cX7_works 125 = .ok (.aload 8, 2) := by decide +kernel
theorem dX7_works_127 : decode cX7_works 127 = .ok (.iconst 0, 1) := by decide +kernel
theorem dX7_works_128 : decode cX7_works 128 = .ok (.iaload, 1) := by decide +kernel
theorem dX7_works_129 : decode cX7_works 129 = .ok (.aload 8, 2) := by decide +kernel
theorem dX7_works_131 : decode cX7_works 131 = .ok (.iconst 2, 1) := by decide +kernel
theorem dX7_works_132 : decode cX7_works 132 = .ok (.iaload, 1) := by decide +kernel
theorem dX7_works_133 : decode cX7_works 133 = .ok (.aload_n 2, 1) := by decide +kernel
theorem dX7_works_134 : decode cX7_works 134 = .ok (.getfield 99, 3) := by decide +kernel
theorem dX7_works_137 : decode cX7_works 137 = .ok (.invokevirtual 106, 3) := by decide +kernel
theorem dX7_works_140 : decode cX7_works 140 = .ok (.invokevirtual 109, 3) := by decide +kernel
theorem dX7_works_143 : decode cX7_works 143 = .ok (.aload_n 0, 1) := by decide +kernel
theorem dX7_works_144 : decode cX7_works 144 = .ok (.getfield 12, 3) := by decide +kernel
theorem dX7_works_147 : decode cX7_works 147 = .ok (.getfield 113, 3) := by decide +kernel
theorem dX7_works_150 : decode cX7_works 150 = .ok (.iload 7, 2) := by decide +kernel
theorem dX7_works_152 : decode cX7_works 152 = .ok (.iload 6, 2) := by decide +kernel
theorem dX7_works_154 : decode cX7_works 154 = .ok (.iastore, 1) := by decide +kernel
theorem dX7_works_155 : decode cX7_works 155 = .ok (.aload_n 0, 1) := by decide +kernel
theorem dX7_works_156 : decode cX7_works 156 = .ok (.getfield 12, 3) := by decide +kernel
theorem dX7_works_159 : decode cX7_works 159 = .ok (.dup, 1) := by decide +kernel
theorem dX7_works_160 : decode cX7_works 160 = .ok (.getfield 116, 3) := by decide +kernel
theorem dX7_works_163 : decode cX7_works 163 = .ok (.iconst 1, 1) := by decide +kernel
theorem dX7_works_164 : decode cX7_works 164 = .ok (.iload 7, 2) := by decide +kernel
theorem dX7_works_166 : decode cX7_works 166 = .ok (.ishl, 1) := by decide +kernel
theorem dX7_works_167 : decode cX7_works 167 = .ok (.ior, 1) := by decide +kernel
theorem dX7_works_168 : decode cX7_works 168 = .ok (.putfield 116, 3) := by decide +kernel
theorem dX7_works_171 : decode cX7_works 171 = .ok (.iinc 5 1, 3) := by decide +kernel
theorem dX7_works_174 : decode cX7_works 174 = .ok (.goto (-163), 3) := by decide +kernel
theorem dX7_works_177 : decode cX7_works 177 = .ok (.iconst 1, 1) := by decide +kernel
theorem dX7_works_178 : decode cX7_works 178 = .ok (.ireturn, 1) := by decide +kernel
def c_X7_works_L11b {ρ : Type}  (p : Nat) (q1 : Nat) (q2 : Nat) (q3 : Nat) (z4 : Int32) (K1 : PH → Option ρ) (K2 : PH → Option ρ) (REC : Int32 → PH → Option ρ) (x5 : Int32) (h : PH) : Option ρ :=
  if (h.1 p 5) ≤ x5 then
    K2 h
  else
    gd (ixOK x5 3) <|
    gd (ixOK (h.1 (p + 5) x5.toNatClampNeg) 3) <|
    nm (h.1 (p + 6) (h.1 (p + 5) x5.toNatClampNeg).toNatClampNeg) fun v3 =>
    gd (ixOK x5 3) <|
    gd (ixOK (h.1 (p + 5) x5.toNatClampNeg) 3) <|
    nm (h.1 (p + 4) (h.1 (p + 5) x5.toNatClampNeg).toNatClampNeg) fun v4 =>
    gd (ixOK v4 9) <|
    (c_X1_mend q1 q2 (p + 1) ((h.1 (q2 + 21 + 1 + v4.toNatClampNeg) 1) - (h.1 (p + 1) 0)) h).bind fun h6 =>
    bind2 (c_X1_passes q1 q2 (p + 1) v3 (h6.1 (q2 + 21 + 1 + v4.toNatClampNeg) 0) (h6.1 (q2 + 21 + 1 + v4.toNatClampNeg) 2) (h6.1 q2 7) h6) fun r7 h8 =>
    if z4 ≤ r7 then
      bind2 (c_X1_wears q1 q2 (p + 1) v3 (h8.1 (q2 + 21 + 1 + v4.toNatClampNeg) 0) (h8.1 (q2 + 21 + 1 + v4.toNatClampNeg) 2) (h8.1 q2 7) h8) fun r9 h10 =>
      (c_X1_lose q1 (p + 1) (h8.1 (q2 + 21 + 1 + v4.toNatClampNeg) 0) r9 h10).bind fun h11 =>
      gd (ixOK v4 9) <| nm (setI h11 (p + 1 + 2) v4.toNatClampNeg v3) fun h12 =>
      nm (setI h12 (p + 1) 4 ((h12.1 (p + 1) 4) ||| ((1 : Int32) <<< (v4 &&& 31)))) fun h13 =>
      nm (x5 + 1) fun v14 =>
      REC v14 h13
    else
      K1 h8
set_option maxHeartbeats 4000000 in
set_option maxRecDepth 100000 in
theorem w_X7_works_L11b {p0 : Program} {l : Launch} {e : Env} {s : State} {m : MethodId} {args : Array Value} {below : List Frame} {meth : Method} {c : Code} {Q : State → Prop} {D : va_G} {G : GG} {A : Nat → Prop} {H0 : Heap} {ad : Nat → Nat} {lay : List KK} {X : va_W} {ρ : Type} {p : Nat} {q1 : Nat} {q2 : Nat} {q3 : Nat} {r0 : ρ} {z4 : Int32} {x5 : Int32} {h : PH} {H : Heap} {locs : List Loc} {ls : Array Slot} {K1 : PH → Option ρ} {K2 : PH → Option ρ} {REC : Int32 → PH → Option ρ} (hM : CallFix p0 m c cX7_works 9 s args lw_g RX7) (ho : okX7 lay p) (ho1 : okX1 lay q1) (ho2 : okX9 lay q2) (ho3 : okX8 lay q3) (hk1 : ∀ (h : PH), ∀ (H : Heap) (locs : List Loc) (ls : Array Slot), K1 h = some r0 → Wd D G A H0 ad lay X h s H locs → lv_has ls 9 [] → W p0 l e (rmN 4 104) s m args below meth c H locs 0 0 Q (F0 m 106 ls [])) (hk2 : ∀ (h : PH), ∀ (H : Heap) (locs : List Loc) (ls : Array Slot), K2 h = some r0 → Wd D G A H0 ad lay X h s H locs → lv_has ls 9 [] → W p0 l e (rmN 4 104) s m args below meth c H locs 0 0 Q (F0 m 177 ls [])) (hrec : ∀ (x5 : Int32) (h : PH), ∀ (H : Heap) (locs : List Loc) (ls : Array Slot), REC x5 h = some r0 → Wd D G A H0 ad lay X h s H locs → lv_has ls 9 [(0, .ref (ad p)), (1, .ref (ad q1)), (2, .ref (ad q2)), (4, .int z4), (5, .int x5)] → W p0 l e (rmN 4 104) s m args below meth c H locs 0 0 Q (F0 m 11 ls [])) (hw : Wd D G A H0 ad lay X h s H locs) (hl : lv_has ls 9 [(0, .ref (ad p)), (1, .ref (ad q1)), (2, .ref (ad q2)), (4, .int z4), (5, .int x5)]) (hf : c_X7_works_L11b p q1 q2 q3 z4 K1 K2 REC x5 h = some r0) : W p0 l e (rmN 4 104) s m args below meth c H locs 0 0 Q (F0 m 11 ls []) := by
  unfold c_X7_works_L11b at hf
  refine lv_iload hM.1 hM.2.1 dX7_works_11 (lv_at hl 4 rfl) ?_
  refine lv_aload_n hM.1 hM.2.1 dX7_works_13 rfl (lv_at hl 0 rfl) ?_
  refine gf_X7_size hM hw (okX7.o ho) fl_X7_31 dX7_works_14 ?_
  refine x_ic_ge (tgt := 177) hM hf dX7_works_17 (by decide) (fun hf => ?_) (fun hf => ?_)
  · exact hk2 _ _ _ _ hf hw (lv_sub hl [] rfl)
  refine lv_aload_n hM.1 hM.2.1 dX7_works_20 rfl (lv_at hl 0 rfl) ?_
  refine gf_X7_chosen hM hw (okX7.o ho) fl_X7_25 dX7_works_21 ?_
  refine lv_aload_n hM.1 hM.2.1 dX7_works_24 rfl (lv_at hl 0 rfl) ?_
  refine gf_X7_order hM hw (okX7.o ho) fl_X7_22 dX7_works_25 ?_
  refine lv_iload hM.1 hM.2.1 dX7_works_28 (lv_at hl 4 rfl) ?_
  refine x_iald hM hw (okX7.order ho) hf dX7_works_30 (fun hf => ?_)
  refine x_iald hM hw (okX7.chosen ho) hf dX7_works_31 (fun hf => ?_)
  refine x_istore hM hf dX7_works_32 hl (by decide) (fun v3 => [(6, .int v3), (0, .ref (ad p)), (1, .ref (ad q1)), (2, .ref (ad q2)), (4, .int z4), (5, .int x5)]) (fun _ => rfl) (fun v3 ls hf hl => ?_)
  refine lv_aload_n hM.1 hM.2.1 dX7_works_34 rfl (lv_at hl 1 rfl) ?_
  refine gf_X7_wanted hM hw (okX7.o ho) fl_X7_18 dX7_works_35 ?_
  refine lv_aload_n hM.1 hM.2.1 dX7_works_38 rfl (lv_at hl 1 rfl) ?_
  refine gf_X7_order hM hw (okX7.o ho) fl_X7_22 dX7_works_39 ?_
  refine lv_iload hM.1 hM.2.1 dX7_works_42 (lv_at hl 5 rfl) ?_
  refine x_iald hM hw (okX7.order ho) hf dX7_works_44 (fun hf => ?_)
  refine x_iald hM hw (okX7.wanted ho) hf dX7_works_45 (fun hf => ?_)
  refine x_istore hM hf dX7_works_46 hl (by decide) (fun v4 => [(7, .int v4), (6, .int v3), (0, .ref (ad p)), (1, .ref (ad q1)), (2, .ref (ad q2)), (4, .int z4), (5, .int x5)]) (fun _ => rfl) (fun v4 ls hf hl => ?_)
  refine lv_aload_n hM.1 hM.2.1 dX7_works_48 rfl (lv_at hl 4 rfl) ?_
  refine gf_X9_dutyRows hM hw (okX9.o ho2) fl_X7_76 dX7_works_49 ?_
  refine lv_iload hM.1 hM.2.1 dX7_works_52 (lv_at hl 0 rfl) ?_
  refine x_aaldI hM hw (okX9.dutyRows ho2) hf dX7_works_54 (fun hi5 hf => ?_)
  refine lv_astore (lv' := [(8, .ref (ad (q2 + 21 + 1 + v4.toNatClampNeg))), (7, .int v4), (6, .int v3), (0, .ref (ad p)), (1, .ref (ad q1)), (2, .ref (ad q2)), (4, .int z4), (5, .int x5)]) hM.1 hM.2.1 dX7_works_55 hl (by decide) rfl (fun ls hl => ?_)
  refine lv_aload_n hM.1 hM.2.1 dX7_works_57 rfl (lv_at hl 4 rfl) ?_
  refine lv_aload_n hM.1 hM.2.1 dX7_works_58 rfl (lv_at hl 5 rfl) ?_
  refine lv_aload_n hM.1 hM.2.1 dX7_works_59 rfl (lv_at hl 3 rfl) ?_
  refine gf_X7_trial hM hw (okX7.o ho) fl_X7_12 dX7_works_60 ?_
  refine lv_aload hM.1 hM.2.1 dX7_works_63 (lv_at hl 0 rfl) ?_
  refine lv_iconst (v := 1) hM.1 hM.2.1 dX7_works_65 ic_1 ?_
  refine x_ialdK hM hw (okX9.dutyRows_atI ho2 hi5) 1 (by decide) (by decide) dX7_works_66 ?_
  refine lv_aload_n hM.1 hM.2.1 dX7_works_67 rfl (lv_at hl 3 rfl) ?_
  refine gf_X7_trial hM hw (okX7.o ho) fl_X7_12 dX7_works_68 ?_
  refine gf_X8_today hM hw (okX8.o (okX7.trial ho)) fl_X7_90 dX7_works_71 ?_
  refine lv_isub hM.1 hM.2.1 dX7_works_74 ?_
  refine x_callVV (rest := []) hM hw (ct_X1_mend l ho1 ho2 (okX7.trial ho) ((h.1 (q2 + 21 + 1 + v4.toNatClampNeg) 1) - (h.1 (p + 1) 0))) [.ref (ad q2), .ref (ad (p + 1)), .int ((h.1 (q2 + 21 + 1 + v4.toNatClampNeg) 1) - (h.1 (p + 1) 0))] (okX1.o ho1) rfl rfl rfl (gi_V ml_X7_93 im_X1_mend sl_X1_mend in_X1 kc_X1_mend) hd_X1_mend rfl ⟨Nat.le_of_ble_eq_true rfl, Nat.le_of_ble_eq_true rfl⟩ rfl (Nat.le_of_ble_eq_true rfl) hl.1 hcs0 hf dX7_works_75 (fun h6 H locs hf hw => ?_)
  refine lv_aload_n hM.1 hM.2.1 dX7_works_78 rfl (lv_at hl 4 rfl) ?_
  refine lv_aload_n hM.1 hM.2.1 dX7_works_79 rfl (lv_at hl 5 rfl) ?_
  refine lv_aload_n hM.1 hM.2.1 dX7_works_80 rfl (lv_at hl 3 rfl) ?_
  refine gf_X7_trial hM hw (okX7.o ho) fl_X7_12 dX7_works_81 ?_
  refine lv_iload hM.1 hM.2.1 dX7_works_84 (lv_at hl 2 rfl) ?_
  refine lv_aload hM.1 hM.2.1 dX7_works_86 (lv_at hl 0 rfl) ?_
  refine lv_iconst (v := 0) hM.1 hM.2.1 dX7_works_88 ic_0 ?_
  refine x_ialdK hM hw (okX9.dutyRows_atI ho2 hi5) 0 (by decide) (by decide) dX7_works_89 ?_
  refine lv_aload hM.1 hM.2.1 dX7_works_90 (lv_at hl 0 rfl) ?_
  refine lv_iconst (v := 2) hM.1 hM.2.1 dX7_works_92 ic_2 ?_
  refine x_ialdK hM hw (okX9.dutyRows_atI ho2 hi5) 2 (by decide) (by decide) dX7_works_93 ?_
  refine lv_aload_n hM.1 hM.2.1 dX7_works_94 rfl (lv_at hl 5 rfl) ?_
  refine gf_X9_seed hM hw (okX9.o ho2) fl_X7_99 dX7_works_95 ?_
  refine x_callVI (rest := []) hM hw (ct_X1_passes l ho1 ho2 (okX7.trial ho) v3 (h6.1 (q2 + 21 + 1 + v4.toNatClampNeg) 0) (h6.1 (q2 + 21 + 1 + v4.toNatClampNeg) 2) (h6.1 q2 7)) [.ref (ad q2), .ref (ad (p + 1)), .int v3, .int (h6.1 (q2 + 21 + 1 + v4.toNatClampNeg) 0), .int (h6.1 (q2 + 21 + 1 + v4.toNatClampNeg) 2), .int (h6.1 q2 7)] (okX1.o ho1) rfl rfl rfl (gi_V ml_X7_102 im_X1_passes sl_X1_passes in_X1 kc_X1_passes) hd_X1_passes rfl ⟨Nat.le_of_ble_eq_true rfl, Nat.le_of_ble_eq_true rfl⟩ rfl (Nat.le_of_ble_eq_true rfl) hl.1 hcs0 hf dX7_works_98 (fun r7 h8 H locs hf hw => ?_)
  refine lv_iload hM.1 hM.2.1 dX7_works_101 (lv_at hl 6 rfl) ?_
  refine x_ic_ge (tgt := 108) hM hf dX7_works_103 (by decide) (fun hf => ?_) (fun hf => ?_)
  · refine lv_aload_n hM.1 hM.2.1 dX7_works_108 rfl (lv_at hl 4 rfl) ?_
    refine lv_aload_n hM.1 hM.2.1 dX7_works_109 rfl (lv_at hl 3 rfl) ?_
    refine gf_X7_trial hM hw (okX7.o ho) fl_X7_12 dX7_works_110 ?_
    refine lv_aload hM.1 hM.2.1 dX7_works_113 (lv_at hl 0 rfl) ?_
    refine lv_iconst (v := 0) hM.1 hM.2.1 dX7_works_115 ic_0 ?_
    refine x_ialdK hM hw (okX9.dutyRows_atI ho2 hi5) 0 (by decide) (by decide) dX7_works_116 ?_
    refine lv_aload_n hM.1 hM.2.1 dX7_works_117 rfl (lv_at hl 4 rfl) ?_
    refine lv_aload_n hM.1 hM.2.1 dX7_works_118 rfl (lv_at hl 5 rfl) ?_
    refine lv_aload_n hM.1 hM.2.1 dX7_works_119 rfl (lv_at hl 3 rfl) ?_
    refine gf_X7_trial hM hw (okX7.o ho) fl_X7_12 dX7_works_120 ?_
    refine lv_iload hM.1 hM.2.1 dX7_works_123 (lv_at hl 2 rfl) ?_
    refine lv_aload hM.1 hM.2.1 dX7_works_125 (lv_at hl 0 rfl) ?_
    refine lv_iconst (v := 0) hM.1 hM.2.1 dX7_works_127 ic_0 ?_
    refine x_ialdK hM hw (okX9.dutyRows_atI ho2 hi5) 0 (by decide) (by decide) dX7_works_128 ?_
    refine lv_aload hM.1 hM.2.1 dX7_works_129 (lv_at hl 0 rfl) ?_
    refine lv_iconst (v := 2) hM.1 hM.2.1 dX7_works_131 ic_2 ?_
    refine x_ialdK hM hw (okX9.dutyRows_atI ho2 hi5) 2 (by decide) (by decide) dX7_works_132 ?_
    refine lv_aload_n hM.1 hM.2.1 dX7_works_133 rfl (lv_at hl 5 rfl) ?_
    refine gf_X9_seed hM hw (okX9.o ho2) fl_X7_99 dX7_works_134 ?_
    refine x_callVI (rest := [.int (h8.1 (q2 + 21 + 1 + v4.toNatClampNeg) 0), .ref (ad (p + 1)), .ref (ad q1)]) hM hw (ct_X1_wears l ho1 ho2 (okX7.trial ho) v3 (h8.1 (q2 + 21 + 1 + v4.toNatClampNeg) 0) (h8.1 (q2 + 21 + 1 + v4.toNatClampNeg) 2) (h8.1 q2 7)) [.ref (ad q2), .ref (ad (p + 1)), .int v3, .int (h8.1 (q2 + 21 + 1 + v4.toNatClampNeg) 0), .int (h8.1 (q2 + 21 + 1 + v4.toNatClampNeg) 2), .int (h8.1 q2 7)] (okX1.o ho1) rfl rfl rfl (gi_V ml_X7_106 im_X1_wears sl_X1_wears in_X1 kc_X1_wears) hd_X1_wears rfl ⟨Nat.le_of_ble_eq_true rfl, Nat.le_of_ble_eq_true rfl⟩ rfl (Nat.le_of_ble_eq_true rfl) hl.1 hcs0 hf dX7_works_137 (fun r9 h10 H locs hf hw => ?_)
    refine x_callVV (rest := []) hM hw (ct_X1_lose l ho1 (okX7.trial ho) (h8.1 (q2 + 21 + 1 + v4.toNatClampNeg) 0) r9) [.ref (ad (p + 1)), .int (h8.1 (q2 + 21 + 1 + v4.toNatClampNeg) 0), .int r9] (okX1.o ho1) rfl rfl rfl (gi_V ml_X7_109 im_X1_lose sl_X1_lose in_X1 kc_X1_lose) hd_X1_lose rfl ⟨Nat.le_of_ble_eq_true rfl, Nat.le_of_ble_eq_true rfl⟩ rfl (Nat.le_of_ble_eq_true rfl) hl.1 hcs0 hf dX7_works_140 (fun h11 H locs hf hw => ?_)
    refine lv_aload_n hM.1 hM.2.1 dX7_works_143 rfl (lv_at hl 3 rfl) ?_
    refine gf_X7_trial hM hw (okX7.o ho) fl_X7_12 dX7_works_144 ?_
    refine gf_X8_plans hM hw (okX8.o (okX7.trial ho)) fl_X7_113 dX7_works_147 ?_
    refine lv_iload hM.1 hM.2.1 dX7_works_150 (lv_at hl 1 rfl) ?_
    refine lv_iload hM.1 hM.2.1 dX7_works_152 (lv_at hl 2 rfl) ?_
    refine x_iast hM hw (okX8.plans (okX7.trial ho)) hf dX7_works_154 (fun h12 H locs hf hw => ?_)
    refine lv_aload_n hM.1 hM.2.1 dX7_works_155 rfl (lv_at hl 3 rfl) ?_
    refine gf_X7_trial hM hw (okX7.o ho) fl_X7_12 dX7_works_156 ?_
    refine lv_dup hM.1 hM.2.1 dX7_works_159 rfl ?_
    refine gf_X8_freed hM hw (okX8.o (okX7.trial ho)) fl_X7_116 dX7_works_160 ?_
    refine lv_iconst (v := 1) hM.1 hM.2.1 dX7_works_163 ic_1 ?_
    refine lv_iload hM.1 hM.2.1 dX7_works_164 (lv_at hl 1 rfl) ?_
    refine lv_ishl hM.1 hM.2.1 dX7_works_166 ?_
    refine lv_ior hM.1 hM.2.1 dX7_works_167 ?_
    refine pf_X8_freed hM hw (okX8.o (okX7.trial ho)) fl_X7_116 hf dX7_works_168 (fun h13 H locs hf hw => ?_)
    refine x_iinc (k := 7) (d := 1) hM hf dX7_works_171 hl rfl (by decide) (by decide) (fun v14 => [(5, .int v14), (8, .ref (ad (q2 + 21 + 1 + v4.toNatClampNeg))), (7, .int v4), (6, .int v3), (0, .ref (ad p)), (1, .ref (ad q1)), (2, .ref (ad q2)), (4, .int z4)]) (fun _ => rfl) (fun v14 ls hf hl => ?_)
    refine lv_goto (tgt := 11) hM.1 hM.2.1 dX7_works_174 (by decide) ?_
    exact hrec _ _ _ _ _ hf hw (lv_sub hl [4, 5, 6, 7, 0] rfl)
  exact hk1 _ _ _ _ hf hw (lv_sub hl [] rfl)
set_option maxHeartbeats 4000000 in
set_option maxRecDepth 100000 in
theorem w_X7_works_L11 {p0 : Program} {l : Launch} {e : Env} {s : State} {m : MethodId} {args : Array Value} {below : List Frame} {meth : Method} {c : Code} {Q : State → Prop} {D : va_G} {G : GG} {A : Nat → Prop} {H0 : Heap} {ad : Nat → Nat} {lay : List KK} {X : va_W} {ρ : Type} {p : Nat} {q1 : Nat} {q2 : Nat} {q3 : Nat} {r0 : ρ} {z4 : Int32} {K1 : PH → Option ρ} {K2 : PH → Option ρ} (hM : CallFix p0 m c cX7_works 9 s args lw_g RX7) (ho : okX7 lay p) (ho1 : okX1 lay q1) (ho2 : okX9 lay q2) (ho3 : okX8 lay q3) (hk1 : ∀ (h : PH), ∀ (H : Heap) (locs : List Loc) (ls : Array Slot), K1 h = some r0 → Wd D G A H0 ad lay X h s H locs → lv_has ls 9 [] → W p0 l e (rmN 4 104) s m args below meth c H locs 0 0 Q (F0 m 106 ls [])) (hk2 : ∀ (h : PH), ∀ (H : Heap) (locs : List Loc) (ls : Array Slot), K2 h = some r0 → Wd D G A H0 ad lay X h s H locs → lv_has ls 9 [] → W p0 l e (rmN 4 104) s m args below meth c H locs 0 0 Q (F0 m 177 ls [])) (n : Nat) (x5 : Int32) (h : PH) (hf : lq2 (c_X7_works_L11b p q1 q2 q3 z4 K1 K2) n x5 h = some r0) : ∀ (H : Heap) (locs : List Loc) (ls : Array Slot), Wd D G A H0 ad lay X h s H locs → lv_has ls 9 [(0, .ref (ad p)), (1, .ref (ad q1)), (2, .ref (ad q2)), (4, .int z4), (5, .int x5)] → W p0 l e (rmN 4 104) s m args below meth c H locs 0 0 Q (F0 m 11 ls []) := by
  exact lq2_i (fun (x5 : Int32) (h : PH) => ∀ (H : Heap) (locs : List Loc) (ls : Array Slot), Wd D G A H0 ad lay X h s H locs → lv_has ls 9 [(0, .ref (ad p)), (1, .ref (ad q1)), (2, .ref (ad q2)), (4, .int z4), (5, .int x5)] → W p0 l e (rmN 4 104) s m args below meth c H locs 0 0 Q (F0 m 11 ls [])) (fun REC x5 h ih hf H locs ls hw hl => w_X7_works_L11b hM ho ho1 ho2 ho3 hk1 hk2 (fun x5 h H locs ls hf hw hl => ih x5 h hf H locs ls hw hl) hw hl hf) n x5 h hf
def c_X7_works (p : Nat) (q1 : Nat) (q2 : Nat) (q3 : Nat) (a4 : Int32) (h : PH) : Option (Int32 × PH) :=
  (c_X8_copy (p + 1) q3 h).bind fun h1 =>
  nm (0 : Int32) fun v2 =>
  lq2 (c_X7_works_L11b p q1 q2 q3 a4
    (fun h15 =>
      some (0, h15))
    (fun h16 =>
      some (1, h16))) fu v2 h1
set_option maxHeartbeats 4000000 in
set_option maxRecDepth 100000 in
theorem ct_X7_works (l : Launch) {lay : List KK} {p : Nat} {q1 : Nat} {q2 : Nat} {q3 : Nat} (ho : okX7 lay p) (ho1 : okX1 lay q1) (ho2 : okX9 lay q2) (ho3 : okX8 lay q3) (a4 : Int32) : CtI l yX7_works cX7_works 9 (some .boolean) 4 104 lay (fun h => c_X7_works p q1 q2 q3 a4 h) (fun ad => [.ref (ad p), .ref (ad q1), .ref (ad q2), .ref (ad q3), .int a4]) := by
  refine CtI.mk' RX7 (by decide) rfl (fun _ => Nat.le_of_ble_eq_true rfl) ?_
  intro p0 e s m args below meth c D G A H0 ad X h r0 H ls Q hM hw hl hf hR
  have hl : lv_has ls 9 [(0, .ref (ad p)), (1, .ref (ad q1)), (2, .ref (ad q2)), (3, .ref (ad q3)), (4, .int a4)] := hl
  unfold c_X7_works at hf
  refine lv_aload_n hM.1 hM.2.1 dX7_works_0 rfl (lv_at hl 0 rfl) ?_
  refine gf_X7_trial hM hw (okX7.o ho) fl_X7_12 dX7_works_1 ?_
  refine lv_aload_n hM.1 hM.2.1 dX7_works_4 rfl (lv_at hl 3 rfl) ?_
  refine x_callVV (rest := []) hM hw (ct_X8_copy l (okX7.trial ho) ho3) [.ref (ad q3)] (okX8.o (okX7.trial ho)) rfl rfl rfl (gi_V ml_X7_86 im_X8_copy sl_X8_copy in_X8 kc_X8_copy) hd_X8_copy rfl ⟨Nat.le_of_ble_eq_true rfl, Nat.le_of_ble_eq_true rfl⟩ rfl (Nat.le_of_ble_eq_true rfl) hl.1 hcs0 hf dX7_works_5 (fun h1 H locs hf hw => ?_)
  refine lv_iconst (v := 0) hM.1 hM.2.1 dX7_works_8 ic_0 ?_
  refine x_istore hM hf dX7_works_9 hl (by decide) (fun v2 => [(5, .int v2), (0, .ref (ad p)), (1, .ref (ad q1)), (2, .ref (ad q2)), (3, .ref (ad q3)), (4, .int a4)]) (fun _ => rfl) (fun v2 ls hf hl => ?_)
  refine w_X7_works_L11 hM ho ho1 ho2 ho3 (fun h15 H locs ls hf hw hl => ?_) (fun h16 H locs ls hf hw hl => ?_) fu _ _ hf _ _ _ hw (lv_sub hl [1, 2, 3, 5, 0] rfl)
  · refine lv_iconst (v := 0) hM.1 hM.2.1 dX7_works_106 ic_0 ?_
    exact hR _ _ _ _ _ _ _ (Option.some.inj hf) rfl (nar_z (by decide)) hw dX7_works_107
  · refine lv_iconst (v := 1) hM.1 hM.2.1 dX7_works_177 ic_1 ?_
    exact hR _ _ _ _ _ _ _ (Option.some.inj hf) rfl (nar_z (by decide)) hw dX7_works_178
theorem hd_X7_works : yX7_works.cls = RX7 ∧ yX7_works.cls ≠ "java/lang/invoke/MethodHandle" ∧ yX7_works.cls ≠ "java/lang/invoke/VarHandle" ∧ (parseMethodDescriptor yX7_works.desc).map (fun d => d.parameters.length) = some 4 := ⟨rfl, by decide, by decide, by decide +kernel⟩
theorem dX7_keepChosen_0 : decode cX7_keepChosen 0 = .ok (.iconst 0, 1) := by decide +kernel
theorem dX7_keepChosen_1 : decode cX7_keepChosen 1 = .ok (.istore_n 1, 1) := by decide +kernel
theorem dX7_keepChosen_2 : decode cX7_keepChosen 2 = .ok (.iload_n 1, 1) := by decide +kernel
theorem dX7_keepChosen_3 : decode cX7_keepChosen 3 = .ok (.aload_n 0, 1) := by decide +kernel
theorem dX7_keepChosen_4 : decode cX7_keepChosen 4 = .ok (.getfield 31, 3) := by decide +kernel
theorem dX7_keepChosen_7 : decode cX7_keepChosen 7 = .ok (.if_icmp .ge 21, 3) := by decide +kernel
theorem dX7_keepChosen_10 : decode cX7_keepChosen 10 = .ok (.aload_n 0, 1) := by decide +kernel
theorem dX7_keepChosen_11 : decode cX7_keepChosen 11 = .ok (.getfield 28, 3) := by decide +kernel
theorem dX7_keepChosen_14 : decode cX7_keepChosen 14 = .ok (.iload_n 1, 1) := by decide +kernel
theorem dX7_keepChosen_15 : decode cX7_keepChosen 15 = .ok (.aload_n 0, 1) := by decide +kernel
theorem dX7_keepChosen_16 : decode cX7_keepChosen 16 = .ok (.getfield 25, 3) := by decide +kernel
theorem dX7_keepChosen_19 : decode cX7_keepChosen 19 = .ok (.iload_n 1, 1) := by decide +kernel
theorem dX7_keepChosen_20 : decode cX7_keepChosen 20 = .ok (.iaload, 1) := by decide +kernel
theorem dX7_keepChosen_21 : decode cX7_keepChosen 21 = .ok (.iastore, 1) := by decide +kernel
theorem dX7_keepChosen_22 : decode cX7_keepChosen 22 = .ok (.iinc 1 1, 3) := by decide +kernel
theorem dX7_keepChosen_25 : decode cX7_keepChosen 25 = .ok (.goto (-23), 3) := by decide +kernel
theorem dX7_keepChosen_28 : decode cX7_keepChosen 28 = .ok (.return_, 1) := by decide +kernel
def c_X7_keepChosen_L2b {ρ : Type}  (p : Nat) (K1 : PH → Option ρ) (REC : Int32 → PH → Option ρ) (x1 : Int32) (h : PH) : Option ρ :=
  if (h.1 p 5) ≤ x1 then
    K1 h
  else
    gd (ixOK x1 3) <|
    gd (ixOK x1 3) <| nm (setI h (p + 7) x1.toNatClampNeg (h.1 (p + 6) x1.toNatClampNeg)) fun h2 =>
    nm (x1 + 1) fun v3 =>
    REC v3 h2
set_option maxHeartbeats 4000000 in
set_option maxRecDepth 100000 in
theorem w_X7_keepChosen_L2b {p0 : Program} {l : Launch} {e : Env} {s : State} {m : MethodId} {args : Array Value} {below : List Frame} {meth : Method} {c : Code} {Q : State → Prop} {D : va_G} {G : GG} {A : Nat → Prop} {H0 : Heap} {ad : Nat → Nat} {lay : List KK} {X : va_W} {ρ : Type} {p : Nat} {r0 : ρ} {x1 : Int32} {h : PH} {H : Heap} {locs : List Loc} {ls : Array Slot} {K1 : PH → Option ρ} {REC : Int32 → PH → Option ρ} (hM : CallFix p0 m c cX7_keepChosen 2 s args lw_g RX7) (ho : okX7 lay p) (hk1 : ∀ (h : PH), ∀ (H : Heap) (locs : List Loc) (ls : Array Slot), K1 h = some r0 → Wd D G A H0 ad lay X h s H locs → lv_has ls 2 [] → W p0 l e (rmN 0 0) s m args below meth c H locs 0 0 Q (F0 m 28 ls [])) (hrec : ∀ (x1 : Int32) (h : PH), ∀ (H : Heap) (locs : List Loc) (ls : Array Slot), REC x1 h = some r0 → Wd D G A H0 ad lay X h s H locs → lv_has ls 2 [(0, .ref (ad p)), (1, .int x1)] → W p0 l e (rmN 0 0) s m args below meth c H locs 0 0 Q (F0 m 2 ls [])) (hw : Wd D G A H0 ad lay X h s H locs) (hl : lv_has ls 2 [(0, .ref (ad p)), (1, .int x1)]) (hf : c_X7_keepChosen_L2b p K1 REC x1 h = some r0) : W p0 l e (rmN 0 0) s m args below meth c H locs 0 0 Q (F0 m 2 ls []) := by
  unfold c_X7_keepChosen_L2b at hf
  refine lv_iload_n hM.1 hM.2.1 dX7_keepChosen_2 rfl (lv_at hl 1 rfl) ?_
  refine lv_aload_n hM.1 hM.2.1 dX7_keepChosen_3 rfl (lv_at hl 0 rfl) ?_
  refine gf_X7_size hM hw (okX7.o ho) fl_X7_31 dX7_keepChosen_4 ?_
  refine x_ic_ge (tgt := 28) hM hf dX7_keepChosen_7 (by decide) (fun hf => ?_) (fun hf => ?_)
  · exact hk1 _ _ _ _ hf hw (lv_sub hl [] rfl)
  refine lv_aload_n hM.1 hM.2.1 dX7_keepChosen_10 rfl (lv_at hl 0 rfl) ?_
  refine gf_X7_best hM hw (okX7.o ho) fl_X7_28 dX7_keepChosen_11 ?_
  refine lv_iload_n hM.1 hM.2.1 dX7_keepChosen_14 rfl (lv_at hl 1 rfl) ?_
  refine lv_aload_n hM.1 hM.2.1 dX7_keepChosen_15 rfl (lv_at hl 0 rfl) ?_
  refine gf_X7_chosen hM hw (okX7.o ho) fl_X7_25 dX7_keepChosen_16 ?_
  refine lv_iload_n hM.1 hM.2.1 dX7_keepChosen_19 rfl (lv_at hl 1 rfl) ?_
  refine x_iald hM hw (okX7.chosen ho) hf dX7_keepChosen_20 (fun hf => ?_)
  refine x_iast hM hw (okX7.best ho) hf dX7_keepChosen_21 (fun h2 H locs hf hw => ?_)
  refine x_iinc (k := 1) (d := 1) hM hf dX7_keepChosen_22 hl rfl (by decide) (by decide) (fun v3 => [(1, .int v3), (0, .ref (ad p))]) (fun _ => rfl) (fun v3 ls hf hl => ?_)
  refine lv_goto (tgt := 2) hM.1 hM.2.1 dX7_keepChosen_25 (by decide) ?_
  exact hrec _ _ _ _ _ hf hw (lv_sub hl [1, 0] rfl)
set_option maxHeartbeats 4000000 in
set_option maxRecDepth 100000 in
theorem w_X7_keepChosen_L2 {p0 : Program} {l : Launch} {e : Env} {s : State} {m : MethodId} {args : Array Value} {below : List Frame} {meth : Method} {c : Code} {Q : State → Prop} {D : va_G} {G : GG} {A : Nat → Prop} {H0 : Heap} {ad : Nat → Nat} {lay : List KK} {X : va_W} {ρ : Type} {p : Nat} {r0 : ρ} {K1 : PH → Option ρ} (hM : CallFix p0 m c cX7_keepChosen 2 s args lw_g RX7) (ho : okX7 lay p) (hk1 : ∀ (h : PH), ∀ (H : Heap) (locs : List Loc) (ls : Array Slot), K1 h = some r0 → Wd D G A H0 ad lay X h s H locs → lv_has ls 2 [] → W p0 l e (rmN 0 0) s m args below meth c H locs 0 0 Q (F0 m 28 ls [])) (n : Nat) (x1 : Int32) (h : PH) (hf : lq2 (c_X7_keepChosen_L2b p K1) n x1 h = some r0) : ∀ (H : Heap) (locs : List Loc) (ls : Array Slot), Wd D G A H0 ad lay X h s H locs → lv_has ls 2 [(0, .ref (ad p)), (1, .int x1)] → W p0 l e (rmN 0 0) s m args below meth c H locs 0 0 Q (F0 m 2 ls []) := by
  exact lq2_i (fun (x1 : Int32) (h : PH) => ∀ (H : Heap) (locs : List Loc) (ls : Array Slot), Wd D G A H0 ad lay X h s H locs → lv_has ls 2 [(0, .ref (ad p)), (1, .int x1)] → W p0 l e (rmN 0 0) s m args below meth c H locs 0 0 Q (F0 m 2 ls [])) (fun REC x1 h ih hf H locs ls hw hl => w_X7_keepChosen_L2b hM ho hk1 (fun x1 h H locs ls hf hw hl => ih x1 h hf H locs ls hw hl) hw hl hf) n x1 h hf
def c_X7_keepChosen (p : Nat) (h : PH) : Option (PH) :=
  nm (0 : Int32) fun v1 =>
  lq2 (c_X7_keepChosen_L2b p
    (fun h4 =>
      some h4)) fu v1 h
set_option maxHeartbeats 4000000 in
set_option maxRecDepth 100000 in
theorem ct_X7_keepChosen (l : Launch) {lay : List KK} {p : Nat} (ho : okX7 lay p) : CtV l yX7_keepChosen cX7_keepChosen 2 (none) 0 0 lay (fun h => c_X7_keepChosen p h) (fun ad => [.ref (ad p)]) := by
  refine CtV.mk' RX7 (by decide) rfl (fun _ => Nat.le_of_ble_eq_true rfl) ?_
  intro p0 e s m args below meth c D G A H0 ad X h r0 H ls Q hM hw hl hf hR
  have hl : lv_has ls 2 [(0, .ref (ad p))] := hl
  unfold c_X7_keepChosen at hf
  refine lv_iconst (v := 0) hM.1 hM.2.1 dX7_keepChosen_0 ic_0 ?_
  refine x_istore_n hM hf dX7_keepChosen_1 rfl hl (by decide) (fun v1 => [(1, .int v1), (0, .ref (ad p))]) (fun _ => rfl) (fun v1 ls hf hl => ?_)
  refine w_X7_keepChosen_L2 hM ho (fun h4 H locs ls hf hw hl => ?_) fu _ _ hf _ _ _ hw (lv_sub hl [1, 0] rfl)
  exact hR _ _ _ _ _ (Option.some.inj hf) rfl hw dX7_keepChosen_28
theorem hd_X7_keepChosen : yX7_keepChosen.cls = RX7 ∧ yX7_keepChosen.cls ≠ "java/lang/invoke/MethodHandle" ∧ yX7_keepChosen.cls ≠ "java/lang/invoke/VarHandle" ∧ (parseMethodDescriptor yX7_keepChosen.desc).map (fun d => d.parameters.length) = some 0 := ⟨rfl, by decide, by decide, by decide +kernel⟩
theorem dX7_find_0 : decode cX7_find 0 = .ok (.aload_n 0, 1) := by decide +kernel
theorem dX7_find_1 : decode cX7_find 1 = .ok (.bipush (-2), 2) := by decide +kernel
theorem dX7_find_3 : decode cX7_find 3 = .ok (.putfield 35, 3) := by decide +kernel
theorem dX7_find_6 : decode cX7_find 6 = .ok (.iload 4, 2) := by decide +kernel
theorem dX7_find_8 : decode cX7_find 8 = .ok (.aload_n 3, 1) := by decide +kernel
theorem dX7_find_9 : decode cX7_find 9 = .ok (.invokevirtual 38, 3) := by decide +kernel
theorem dX7_find_12 : decode cX7_find 12 = .ok (.iand, 1) := by decide +kernel
theorem dX7_find_13 : decode cX7_find 13 = .ok (.ifCond .eq 5, 3) := by decide +kernel
theorem dX7_find_16 : decode cX7_find 16 = .ok (.iconst 0, 1) := by decide +kernel
theorem dX7_find_17 : decode cX7_find 17 = .ok (.ireturn, 1) := by decide +kernel
theorem dX7_find_18 : decode cX7_find 18 = .ok (.aload_n 0, 1) := by decide +kernel
theorem dX7_find_19 : decode cX7_find 19 = .ok (.aload_n 2, 1) := by decide +kernel
theorem dX7_find_20 : decode cX7_find 20 = .ok (.iload 4, 2) := by decide +kernel
theorem dX7_find_22 : decode cX7_find 22 = .ok (.invokevirtual 42, 3) := by decide +kernel
theorem dX7_find_25 : decode cX7_find 25 = .ok (.iconst 1, 1) := by decide +kernel
theorem dX7_find_26 : decode cX7_find 26 = .ok (.istore 6, 2) := by decide +kernel
theorem dX7_find_28 : decode cX7_find 28 = .ok (.iconst 0, 1) := by decide +kernel
theorem dX7_find_29 : decode cX7_find 29 = .ok (.istore 7, 2) := by decide +kernel
theorem dX7_find_31 : decode cX7_find 31 = .ok (.iload 7, 2) := by decide +kernel
theorem dX7_find_33 : decode cX7_find 33 = .ok (.aload_n 0, 1) := by decide +kernel
theorem dX7_find_34 : decode cX7_find 34 = .ok (.getfield 31, 3) := by decide +kernel
theorem dX7_find_37 : decode cX7_find 37 = .ok (.if_icmp .ge 18, 3) := by decide +kernel
theorem dX7_find_40 : decode cX7_find 40 = .ok (.iload 6, 2) := by decide +kernel
theorem dX7_find_42 : decode cX7_find 42 = .ok (.aload_n 2, 1) := by decide +kernel
theorem dX7_find_43 : decode cX7_find 43 = .ok (.getfield 46, 3) := by decide +kernel
theorem dX7_find_46 : decode cX7_find 46 = .ok (.imul, 1) := by decide +kernel
theorem dX7_find_47 : decode cX7_find 47 = .ok (.istore 6, 2) := by decide +kernel
theorem dX7_find_49 : decode cX7_find 49 = .ok (.iinc 7 1, 3) := by decide +kernel
theorem dX7_find_52 : decode cX7_find 52 = .ok (.goto (-21), 3) := by decide +kernel
theorem dX7_find_55 : decode cX7_find 55 = .ok (.iconst 0, 1) := by decide +kernel
theorem dX7_find_56 : decode cX7_find 56 = .ok (.istore 7, 2) := by decide +kernel
theorem dX7_find_58 : decode cX7_find 58 = .ok (.iload 7, 2) := by decide +kernel
theorem dX7_find_60 : decode cX7_find 60 = .ok (.iload 6, 2) := by decide +kernel
theorem dX7_find_62 : decode cX7_find 62 = .ok (.if_icmp .ge 84, 3) := by decide +kernel
theorem dX7_find_65 : decode cX7_find 65 = .ok (.aload_n 0, 1) := by decide +kernel
theorem dX7_find_66 : decode cX7_find 66 = .ok (.aload_n 2, 1) := by decide +kernel
theorem dX7_find_67 : decode cX7_find 67 = .ok (.iload 7, 2) := by decide +kernel
theorem dX7_find_69 : decode cX7_find 69 = .ok (.invokevirtual 51, 3) := by decide +kernel
theorem dX7_find_72 : decode cX7_find 72 = .ok (.aload_n 0, 1) := by decide +kernel
theorem dX7_find_73 : decode cX7_find 73 = .ok (.aload_n 2, 1) := by decide +kernel
theorem dX7_find_74 : decode cX7_find 74 = .ok (.aload_n 3, 1) := by decide +kernel
theorem dX7_find_75 : decode cX7_find 75 = .ok (.invokevirtual 54, 3) := by decide +kernel
theorem dX7_find_78 : decode cX7_find 78 = .ok (.istore 8, 2) := by decide +kernel
theorem dX7_find_80 : decode cX7_find 80 = .ok (.aload_n 0, 1) := by decide +kernel
theorem dX7_find_81 : decode cX7_find 81 = .ok (.getfield 35, 3) := by decide +kernel
theorem dX7_find_84 : decode cX7_find 84 = .ok (.bipush (-2), 2) := by decide +kernel
theorem dX7_find_86 : decode cX7_find 86 = .ok (.if_icmp .eq 12, 3) := by decide +kernel
theorem dX7_find_89 : decode cX7_find 89 = .ok (.iload 8, 2) := by decide +kernel
theorem dX7_find_91 : decode cX7_find 91 = .ok (.aload_n 0, 1) := by decide +kernel
theorem dX7_find_92 : decode cX7_find 92 = .ok (.getfield 35, 3) := by decide +kernel
theorem dX7_find_95 : decode cX7_find 95 = .ok (.if_icmp .ge 7, 3) := by decide +kernel
theorem dX7_find_98 : decode cX7_find 98 = .ok (.iconst 1, 1) := by decide +kernel
theorem dX7_find_99 : decode cX7_find 99 = .ok (.goto 4, 3) := by decide +kernel
theorem dX7_find_102 : decode cX7_find 102 = .ok (.iconst 0, 1) := by decide +kernel
theorem dX7_find_103 : decode cX7_find 103 = .ok (.istore 9, 2) := by decide +kernel
theorem dX7_find_105 : decode cX7_find 105 = .ok (.iload 9, 2) := by decide +kernel
theorem dX7_find_107 : decode cX7_find 107 = .ok (.ifCond .eq 33, 3) := by decide +kernel
theorem dX7_find_110 : decode cX7_find 110 = .ok (.aload_n 0, 1) := by decide +kernel
theorem dX7_find_111 : decode cX7_find 111 = .ok (.aload_n 2, 1) := by decide +kernel
theorem dX7_find_112 : decode cX7_find 112 = .ok (.invokevirtual 58, 3) := by decide +kernel
theorem dX7_find_115 : decode cX7_find 115 = .ok (.ifCond .ne 25, 3) := by decide +kernel
theorem dX7_find_118 : decode cX7_find 118 = .ok (.aload_n 0, 1) := by decide +kernel
theorem dX7_find_119 : decode cX7_find 119 = .ok (.aload_n 1, 1) := by decide +kernel
theorem dX7_find_120 : decode cX7_find 120 = .ok (.aload_n 2, 1) := by decide +kernel
theorem dX7_find_121 : decode cX7_find 121 = .ok (.aload_n 3, 1) := by decide +kernel
theorem dX7_find_122 : decode cX7_find 122 = .ok (.iload 5, 2) := by decide +kernel
theorem dX7_find_124 : decode cX7_find 124 = .ok (.invokevirtual 62, 3) := by decide +kernel
theorem dX7_find_127 : decode cX7_find 127 = .ok (.ifCond .eq 13, 3) := by decide +kernel
theorem dX7_find_130 : decode cX7_find 130 = .ok (.aload_n 0, 1) := by decide +kernel
theorem dX7_find_131 : decode cX7_find 131 = .ok (.iload 8, 2) := by decide +kernel
theorem dX7_find_133 : decode cX7_find 133 = .ok (.putfield 35, 3) := by decide +kernel
theorem dX7_find_136 : decode cX7_find 136 = .ok (.aload_n 0, 1) := by decide +kernel
theorem dX7_find_137 : decode cX7_find 137 = .ok (.invokevirtual 66, 3) := by decide +kernel
theorem dX7_find_140 : decode cX7_find 140 = .ok (.iinc 7 1, 3) := by decide +kernel
theorem dX7_find_143 : decode cX7_find 143 = .ok (.goto (-85), 3) := by decide +kernel
theorem dX7_find_146 : decode cX7_find 146 = .ok (.aload_n 0, 1) := by decide +kernel
theorem dX7_find_147 : decode cX7_find 147 = .ok (.getfield 35, 3) := by decide +kernel
theorem dX7_find_150 : decode cX7_find 150 = .ok (.bipush (-2), 2) := by decide +kernel
theorem dX7_find_152 : decode cX7_find 152 = .ok (.if_icmp .eq 7, 3) := by decide +kernel
theorem dX7_find_155 : decode cX7_find 155 = .ok (.iconst 1, 1) := by decide +kernel
theorem dX7_find_156 : decode cX7_find 156 = .ok (.goto 4, 3) := by decide +kernel
theorem dX7_find_159 : decode cX7_find 159 = .ok (.iconst 0, 1) := by decide +kernel
theorem dX7_find_160 : decode cX7_find 160 = .ok (.ireturn, 1) := by decide +kernel
def c_X7_find_L31b {ρ : Type}  (p : Nat) (q1 : Nat) (q2 : Nat) (q3 : Nat) (z5 : Int32) (h : PH) (K1 : Int32 → Option ρ) (REC : Int32 → Int32 → Option ρ) (x6 : Int32) (x7 : Int32) : Option ρ :=
  if (h.1 p 5) ≤ x7 then
    K1 x6
  else
    nm (x6 * (h.1 q2 1)) fun v6 =>
    nm (x7 + 1) fun v7 =>
    REC v6 v7
set_option maxHeartbeats 4000000 in
set_option maxRecDepth 100000 in
theorem w_X7_find_L31b {p0 : Program} {l : Launch} {e : Env} {s : State} {m : MethodId} {args : Array Value} {below : List Frame} {meth : Method} {c : Code} {Q : State → Prop} {D : va_G} {G : GG} {A : Nat → Prop} {H0 : Heap} {ad : Nat → Nat} {lay : List KK} {X : va_W} {ρ : Type} {p : Nat} {q1 : Nat} {q2 : Nat} {q3 : Nat} {r0 : ρ} {z5 : Int32} {x6 : Int32} {x7 : Int32} {h : PH} {H : Heap} {locs : List Loc} {ls : Array Slot} {K1 : Int32 → Option ρ} {REC : Int32 → Int32 → Option ρ} (hM : CallFix p0 m c cX7_find 10 s args lw_g RX7) (ho : okX7 lay p) (ho1 : okX1 lay q1) (ho2 : okX9 lay q2) (ho3 : okX8 lay q3) (hk1 : ∀ (x6 : Int32), ∀ (H : Heap) (locs : List Loc) (ls : Array Slot), K1 x6 = some r0 → Wd D G A H0 ad lay X h s H locs → lv_has ls 10 [(0, .ref (ad p)), (1, .ref (ad q1)), (2, .ref (ad q2)), (3, .ref (ad q3)), (5, .int z5), (6, .int x6)] → W p0 l e (rmN 5 132) s m args below meth c H locs 0 0 Q (F0 m 55 ls [])) (hrec : ∀ (x6 : Int32) (x7 : Int32), ∀ (H : Heap) (locs : List Loc) (ls : Array Slot), REC x6 x7 = some r0 → Wd D G A H0 ad lay X h s H locs → lv_has ls 10 [(0, .ref (ad p)), (1, .ref (ad q1)), (2, .ref (ad q2)), (3, .ref (ad q3)), (5, .int z5), (6, .int x6), (7, .int x7)] → W p0 l e (rmN 5 132) s m args below meth c H locs 0 0 Q (F0 m 31 ls [])) (hw : Wd D G A H0 ad lay X h s H locs) (hl : lv_has ls 10 [(0, .ref (ad p)), (1, .ref (ad q1)), (2, .ref (ad q2)), (3, .ref (ad q3)), (5, .int z5), (6, .int x6), (7, .int x7)]) (hf : c_X7_find_L31b p q1 q2 q3 z5 h K1 REC x6 x7 = some r0) : W p0 l e (rmN 5 132) s m args below meth c H locs 0 0 Q (F0 m 31 ls []) := by
  unfold c_X7_find_L31b at hf
  refine lv_iload hM.1 hM.2.1 dX7_find_31 (lv_at hl 6 rfl) ?_
  refine lv_aload_n hM.1 hM.2.1 dX7_find_33 rfl (lv_at hl 0 rfl) ?_
  refine gf_X7_size hM hw (okX7.o ho) fl_X7_31 dX7_find_34 ?_
  refine x_ic_ge (tgt := 55) hM hf dX7_find_37 (by decide) (fun hf => ?_) (fun hf => ?_)
  · exact hk1 _ _ _ _ hf hw (lv_sub hl [0, 1, 2, 3, 4, 5] rfl)
  refine lv_iload hM.1 hM.2.1 dX7_find_40 (lv_at hl 5 rfl) ?_
  refine lv_aload_n hM.1 hM.2.1 dX7_find_42 rfl (lv_at hl 2 rfl) ?_
  refine gf_X9_excuses hM hw (okX9.o ho2) fl_X7_46 dX7_find_43 ?_
  refine lv_imul hM.1 hM.2.1 dX7_find_46 ?_
  refine x_istore hM hf dX7_find_47 hl (by decide) (fun v6 => [(6, .int v6), (0, .ref (ad p)), (1, .ref (ad q1)), (2, .ref (ad q2)), (3, .ref (ad q3)), (5, .int z5), (7, .int x7)]) (fun _ => rfl) (fun v6 ls hf hl => ?_)
  refine x_iinc (k := 6) (d := 1) hM hf dX7_find_49 hl rfl (by decide) (by decide) (fun v7 => [(7, .int v7), (6, .int v6), (0, .ref (ad p)), (1, .ref (ad q1)), (2, .ref (ad q2)), (3, .ref (ad q3)), (5, .int z5)]) (fun _ => rfl) (fun v7 ls hf hl => ?_)
  refine lv_goto (tgt := 31) hM.1 hM.2.1 dX7_find_52 (by decide) ?_
  exact hrec _ _ _ _ _ hf hw (lv_sub hl [2, 3, 4, 5, 6, 1, 0] rfl)
set_option maxHeartbeats 4000000 in
set_option maxRecDepth 100000 in
theorem w_X7_find_L31 {p0 : Program} {l : Launch} {e : Env} {s : State} {m : MethodId} {args : Array Value} {below : List Frame} {meth : Method} {c : Code} {Q : State → Prop} {D : va_G} {G : GG} {A : Nat → Prop} {H0 : Heap} {ad : Nat → Nat} {lay : List KK} {X : va_W} {ρ : Type} {p : Nat} {q1 : Nat} {q2 : Nat} {q3 : Nat} {r0 : ρ} {z5 : Int32} {h : PH} {K1 : Int32 → Option ρ} (hM : CallFix p0 m c cX7_find 10 s args lw_g RX7) (ho : okX7 lay p) (ho1 : okX1 lay q1) (ho2 : okX9 lay q2) (ho3 : okX8 lay q3) (hk1 : ∀ (x6 : Int32), ∀ (H : Heap) (locs : List Loc) (ls : Array Slot), K1 x6 = some r0 → Wd D G A H0 ad lay X h s H locs → lv_has ls 10 [(0, .ref (ad p)), (1, .ref (ad q1)), (2, .ref (ad q2)), (3, .ref (ad q3)), (5, .int z5), (6, .int x6)] → W p0 l e (rmN 5 132) s m args below meth c H locs 0 0 Q (F0 m 55 ls [])) (n : Nat) (x6 : Int32) (x7 : Int32) (hf : lq2 (c_X7_find_L31b p q1 q2 q3 z5 h K1) n x6 x7 = some r0) : ∀ (H : Heap) (locs : List Loc) (ls : Array Slot), Wd D G A H0 ad lay X h s H locs → lv_has ls 10 [(0, .ref (ad p)), (1, .ref (ad q1)), (2, .ref (ad q2)), (3, .ref (ad q3)), (5, .int z5), (6, .int x6), (7, .int x7)] → W p0 l e (rmN 5 132) s m args below meth c H locs 0 0 Q (F0 m 31 ls []) := by
  exact lq2_i (fun (x6 : Int32) (x7 : Int32) => ∀ (H : Heap) (locs : List Loc) (ls : Array Slot), Wd D G A H0 ad lay X h s H locs → lv_has ls 10 [(0, .ref (ad p)), (1, .ref (ad q1)), (2, .ref (ad q2)), (3, .ref (ad q3)), (5, .int z5), (6, .int x6), (7, .int x7)] → W p0 l e (rmN 5 132) s m args below meth c H locs 0 0 Q (F0 m 31 ls [])) (fun REC x6 x7 ih hf H locs ls hw hl => w_X7_find_L31b hM ho ho1 ho2 ho3 hk1 (fun x6 x7 H locs ls hf hw hl => ih x6 x7 hf H locs ls hw hl) hw hl hf) n x6 x7 hf
def c_X7_find_j103 {ρ : Type}  (p : Nat) (q1 : Nat) (q2 : Nat) (q3 : Nat) (z5 : Int32) (z6 : Int32) (K1 : PH → Option ρ) (REC : Int32 → PH → Option ρ) (x7 : Int32) (x8 : Int32) (y0 : Int32) (h : PH) : Option (ρ) :=
  nm y0 fun v13 =>
  if v13 = 0 then
    nm (x7 + 1) fun v14 =>
    REC v14 h
  else
    (c_X7_usesOnceAgain p q2 h).bind fun r15 =>
    if r15 = 0 then
      bind2 (c_X7_works p q1 q2 q3 z5 h) fun r17 h18 =>
      if r17 = 0 then
        nm (x7 + 1) fun v19 =>
        REC v19 h18
      else
        nm (setI h18 p 6 x8) fun h20 =>
        (c_X7_keepChosen p h20).bind fun h21 =>
        nm (x7 + 1) fun v22 =>
        REC v22 h21
    else
      nm (x7 + 1) fun v16 =>
      REC v16 h
set_option maxHeartbeats 4000000 in
set_option maxRecDepth 100000 in
theorem w_X7_find_j103 {p0 : Program} {l : Launch} {e : Env} {s : State} {m : MethodId} {args : Array Value} {below : List Frame} {meth : Method} {c : Code} {Q : State → Prop} {D : va_G} {G : GG} {A : Nat → Prop} {H0 : Heap} {ad : Nat → Nat} {lay : List KK} {X : va_W} {ρ : Type} {p : Nat} {q1 : Nat} {q2 : Nat} {q3 : Nat} {r0 : ρ} {x7 : Int32} {x8 : Int32} {z5 : Int32} {z6 : Int32} {y0 : Int32} {h : PH} {H : Heap} {locs : List Loc} {ls : Array Slot} {K1 : PH → Option ρ} {REC : Int32 → PH → Option ρ} (hM : CallFix p0 m c cX7_find 10 s args lw_g RX7) (ho : okX7 lay p) (ho1 : okX1 lay q1) (ho2 : okX9 lay q2) (ho3 : okX8 lay q3) (hk1 : ∀ (h : PH), ∀ (H : Heap) (locs : List Loc) (ls : Array Slot), K1 h = some r0 → Wd D G A H0 ad lay X h s H locs → lv_has ls 10 [(0, .ref (ad p))] → W p0 l e (rmN 5 132) s m args below meth c H locs 0 0 Q (F0 m 146 ls [])) (hrec : ∀ (x7 : Int32) (h : PH), ∀ (H : Heap) (locs : List Loc) (ls : Array Slot), REC x7 h = some r0 → Wd D G A H0 ad lay X h s H locs → lv_has ls 10 [(0, .ref (ad p)), (1, .ref (ad q1)), (2, .ref (ad q2)), (3, .ref (ad q3)), (5, .int z5), (6, .int z6), (7, .int x7)] → W p0 l e (rmN 5 132) s m args below meth c H locs 0 0 Q (F0 m 58 ls [])) (hw : Wd D G A H0 ad lay X h s H locs) (hl : lv_has ls 10 [(0, .ref (ad p)), (1, .ref (ad q1)), (2, .ref (ad q2)), (3, .ref (ad q3)), (5, .int z5), (6, .int z6), (7, .int x7), (8, .int x8)]) (hf : c_X7_find_j103 p q1 q2 q3 z5 z6 K1 REC x7 x8 y0 h = some r0) : W p0 l e (rmN 5 132) s m args below meth c H locs 0 0 Q (F0 m 103 ls [.int y0]) := by
  unfold c_X7_find_j103 at hf
  refine x_istore hM hf dX7_find_103 hl (by decide) (fun v13 => [(9, .int v13), (0, .ref (ad p)), (1, .ref (ad q1)), (2, .ref (ad q2)), (3, .ref (ad q3)), (5, .int z5), (6, .int z6), (7, .int x7), (8, .int x8)]) (fun _ => rfl) (fun v13 ls hf hl => ?_)
  refine lv_iload hM.1 hM.2.1 dX7_find_105 (lv_at hl 0 rfl) ?_
  refine x_if_eq (tgt := 140) hM hf dX7_find_107 (by decide) (fun hf => ?_) (fun hf => ?_)
  · refine x_iinc (k := 7) (d := 1) hM hf dX7_find_140 hl rfl (by decide) (by decide) (fun v14 => [(7, .int v14), (9, .int v13), (0, .ref (ad p)), (1, .ref (ad q1)), (2, .ref (ad q2)), (3, .ref (ad q3)), (5, .int z5), (6, .int z6), (8, .int x8)]) (fun _ => rfl) (fun v14 ls hf hl => ?_)
    refine lv_goto (tgt := 58) hM.1 hM.2.1 dX7_find_143 (by decide) ?_
    exact hrec _ _ _ _ _ hf hw (lv_sub hl [2, 3, 4, 5, 6, 7, 0] rfl)
  refine lv_aload_n hM.1 hM.2.1 dX7_find_110 rfl (lv_at hl 1 rfl) ?_
  refine lv_aload_n hM.1 hM.2.1 dX7_find_111 rfl (lv_at hl 3 rfl) ?_
  refine x_callVIr (rest := []) hM hw (ct_X7_usesOnceAgain l ho ho2) [.ref (ad q2)] (okX7.o ho) rfl rfl rfl (gi_V ml_X7_58 im_X7_usesOnceAgain sl_X7_usesOnceAgain in_X7 kc_X7_usesOnceAgain) hd_X7_usesOnceAgain rfl ⟨Nat.le_of_ble_eq_true rfl, Nat.le_of_ble_eq_true rfl⟩ rfl (Nat.le_of_ble_eq_true rfl) hl.1 hcs0 hf dX7_find_112 (fun r15 H locs hf hw => ?_)
  refine x_if_ne (tgt := 140) hM hf dX7_find_115 (by decide) (fun hf => ?_) (fun hf => ?_)
  · refine x_iinc (k := 7) (d := 1) hM hf dX7_find_140 hl rfl (by decide) (by decide) (fun v16 => [(7, .int v16), (9, .int v13), (0, .ref (ad p)), (1, .ref (ad q1)), (2, .ref (ad q2)), (3, .ref (ad q3)), (5, .int z5), (6, .int z6), (8, .int x8)]) (fun _ => rfl) (fun v16 ls hf hl => ?_)
    refine lv_goto (tgt := 58) hM.1 hM.2.1 dX7_find_143 (by decide) ?_
    exact hrec _ _ _ _ _ hf hw (lv_sub hl [2, 3, 4, 5, 6, 7, 0] rfl)
  refine lv_aload_n hM.1 hM.2.1 dX7_find_118 rfl (lv_at hl 1 rfl) ?_
  refine lv_aload_n hM.1 hM.2.1 dX7_find_119 rfl (lv_at hl 2 rfl) ?_
  refine lv_aload_n hM.1 hM.2.1 dX7_find_120 rfl (lv_at hl 3 rfl) ?_
  refine lv_aload_n hM.1 hM.2.1 dX7_find_121 rfl (lv_at hl 4 rfl) ?_
  refine lv_iload hM.1 hM.2.1 dX7_find_122 (lv_at hl 5 rfl) ?_
  refine x_callVI (rest := []) hM hw (ct_X7_works l ho ho1 ho2 ho3 z5) [.ref (ad q1), .ref (ad q2), .ref (ad q3), .int z5] (okX7.o ho) rfl rfl rfl (gi_V ml_X7_62 im_X7_works sl_X7_works in_X7 kc_X7_works) hd_X7_works rfl ⟨Nat.le_of_ble_eq_true rfl, Nat.le_of_ble_eq_true rfl⟩ rfl (Nat.le_of_ble_eq_true rfl) hl.1 hcs0 hf dX7_find_124 (fun r17 h18 H locs hf hw => ?_)
  refine x_if_eq (tgt := 140) hM hf dX7_find_127 (by decide) (fun hf => ?_) (fun hf => ?_)
  · refine x_iinc (k := 7) (d := 1) hM hf dX7_find_140 hl rfl (by decide) (by decide) (fun v19 => [(7, .int v19), (9, .int v13), (0, .ref (ad p)), (1, .ref (ad q1)), (2, .ref (ad q2)), (3, .ref (ad q3)), (5, .int z5), (6, .int z6), (8, .int x8)]) (fun _ => rfl) (fun v19 ls hf hl => ?_)
    refine lv_goto (tgt := 58) hM.1 hM.2.1 dX7_find_143 (by decide) ?_
    exact hrec _ _ _ _ _ hf hw (lv_sub hl [2, 3, 4, 5, 6, 7, 0] rfl)
  refine lv_aload_n hM.1 hM.2.1 dX7_find_130 rfl (lv_at hl 1 rfl) ?_
  refine lv_iload hM.1 hM.2.1 dX7_find_131 (lv_at hl 8 rfl) ?_
  refine pf_X7_leastCoins hM hw (okX7.o ho) fl_X7_35 hf dX7_find_133 (fun h20 H locs hf hw => ?_)
  refine lv_aload_n hM.1 hM.2.1 dX7_find_136 rfl (lv_at hl 1 rfl) ?_
  refine x_callVV (rest := []) hM hw (ct_X7_keepChosen l ho) [] (okX7.o ho) rfl rfl rfl (gi_V ml_X7_66 im_X7_keepChosen sl_X7_keepChosen in_X7 kc_X7_keepChosen) hd_X7_keepChosen rfl ⟨Nat.le_of_ble_eq_true rfl, Nat.le_of_ble_eq_true rfl⟩ rfl (Nat.le_of_ble_eq_true rfl) hl.1 hcs0 hf dX7_find_137 (fun h21 H locs hf hw => ?_)
  refine x_iinc (k := 7) (d := 1) hM hf dX7_find_140 hl rfl (by decide) (by decide) (fun v22 => [(7, .int v22), (9, .int v13), (0, .ref (ad p)), (1, .ref (ad q1)), (2, .ref (ad q2)), (3, .ref (ad q3)), (5, .int z5), (6, .int z6), (8, .int x8)]) (fun _ => rfl) (fun v22 ls hf hl => ?_)
  refine lv_goto (tgt := 58) hM.1 hM.2.1 dX7_find_143 (by decide) ?_
  exact hrec _ _ _ _ _ hf hw (lv_sub hl [2, 3, 4, 5, 6, 7, 0] rfl)
def c_X7_find_L58b {ρ : Type}  (p : Nat) (q1 : Nat) (q2 : Nat) (q3 : Nat) (z5 : Int32) (z6 : Int32) (K1 : PH → Option ρ) (REC : Int32 → PH → Option ρ) (x7 : Int32) (h : PH) : Option ρ :=
  if z6 ≤ x7 then
    K1 h
  else
    (c_X7_choose p q2 x7 h).bind fun h10 =>
    (c_X7_coinsFor p q2 q3 h10).bind fun r11 =>
    nm r11 fun v12 =>
    if (h10.1 p 6) = (-2) then
      c_X7_find_j103 p q1 q2 q3 z5 z6 K1 REC x7 v12 1 h10
    else
      if (h10.1 p 6) ≤ v12 then
        c_X7_find_j103 p q1 q2 q3 z5 z6 K1 REC x7 v12 0 h10
      else
        c_X7_find_j103 p q1 q2 q3 z5 z6 K1 REC x7 v12 1 h10
set_option maxHeartbeats 4000000 in
set_option maxRecDepth 100000 in
theorem w_X7_find_L58b {p0 : Program} {l : Launch} {e : Env} {s : State} {m : MethodId} {args : Array Value} {below : List Frame} {meth : Method} {c : Code} {Q : State → Prop} {D : va_G} {G : GG} {A : Nat → Prop} {H0 : Heap} {ad : Nat → Nat} {lay : List KK} {X : va_W} {ρ : Type} {p : Nat} {q1 : Nat} {q2 : Nat} {q3 : Nat} {r0 : ρ} {z5 : Int32} {z6 : Int32} {x7 : Int32} {h : PH} {H : Heap} {locs : List Loc} {ls : Array Slot} {K1 : PH → Option ρ} {REC : Int32 → PH → Option ρ} (hM : CallFix p0 m c cX7_find 10 s args lw_g RX7) (ho : okX7 lay p) (ho1 : okX1 lay q1) (ho2 : okX9 lay q2) (ho3 : okX8 lay q3) (hk1 : ∀ (h : PH), ∀ (H : Heap) (locs : List Loc) (ls : Array Slot), K1 h = some r0 → Wd D G A H0 ad lay X h s H locs → lv_has ls 10 [(0, .ref (ad p))] → W p0 l e (rmN 5 132) s m args below meth c H locs 0 0 Q (F0 m 146 ls [])) (hrec : ∀ (x7 : Int32) (h : PH), ∀ (H : Heap) (locs : List Loc) (ls : Array Slot), REC x7 h = some r0 → Wd D G A H0 ad lay X h s H locs → lv_has ls 10 [(0, .ref (ad p)), (1, .ref (ad q1)), (2, .ref (ad q2)), (3, .ref (ad q3)), (5, .int z5), (6, .int z6), (7, .int x7)] → W p0 l e (rmN 5 132) s m args below meth c H locs 0 0 Q (F0 m 58 ls [])) (hw : Wd D G A H0 ad lay X h s H locs) (hl : lv_has ls 10 [(0, .ref (ad p)), (1, .ref (ad q1)), (2, .ref (ad q2)), (3, .ref (ad q3)), (5, .int z5), (6, .int z6), (7, .int x7)]) (hf : c_X7_find_L58b p q1 q2 q3 z5 z6 K1 REC x7 h = some r0) : W p0 l e (rmN 5 132) s m args below meth c H locs 0 0 Q (F0 m 58 ls []) := by
  unfold c_X7_find_L58b at hf
  refine lv_iload hM.1 hM.2.1 dX7_find_58 (lv_at hl 6 rfl) ?_
  refine lv_iload hM.1 hM.2.1 dX7_find_60 (lv_at hl 5 rfl) ?_
  refine x_ic_ge (tgt := 146) hM hf dX7_find_62 (by decide) (fun hf => ?_) (fun hf => ?_)
  · exact hk1 _ _ _ _ hf hw (lv_sub hl [0] rfl)
  refine lv_aload_n hM.1 hM.2.1 dX7_find_65 rfl (lv_at hl 0 rfl) ?_
  refine lv_aload_n hM.1 hM.2.1 dX7_find_66 rfl (lv_at hl 2 rfl) ?_
  refine lv_iload hM.1 hM.2.1 dX7_find_67 (lv_at hl 6 rfl) ?_
  refine x_callVV (rest := []) hM hw (ct_X7_choose l ho ho2 x7) [.ref (ad q2), .int x7] (okX7.o ho) rfl rfl rfl (gi_V ml_X7_51 im_X7_choose sl_X7_choose in_X7 kc_X7_choose) hd_X7_choose rfl ⟨Nat.le_of_ble_eq_true rfl, Nat.le_of_ble_eq_true rfl⟩ rfl (Nat.le_of_ble_eq_true rfl) hl.1 hcs0 hf dX7_find_69 (fun h10 H locs hf hw => ?_)
  refine lv_aload_n hM.1 hM.2.1 dX7_find_72 rfl (lv_at hl 0 rfl) ?_
  refine lv_aload_n hM.1 hM.2.1 dX7_find_73 rfl (lv_at hl 2 rfl) ?_
  refine lv_aload_n hM.1 hM.2.1 dX7_find_74 rfl (lv_at hl 3 rfl) ?_
  refine x_callVIr (rest := []) hM hw (ct_X7_coinsFor l ho ho2 ho3) [.ref (ad q2), .ref (ad q3)] (okX7.o ho) rfl rfl rfl (gi_V ml_X7_54 im_X7_coinsFor sl_X7_coinsFor in_X7 kc_X7_coinsFor) hd_X7_coinsFor rfl ⟨Nat.le_of_ble_eq_true rfl, Nat.le_of_ble_eq_true rfl⟩ rfl (Nat.le_of_ble_eq_true rfl) hl.1 hcs0 hf dX7_find_75 (fun r11 H locs hf hw => ?_)
  refine x_istore hM hf dX7_find_78 hl (by decide) (fun v12 => [(8, .int v12), (0, .ref (ad p)), (1, .ref (ad q1)), (2, .ref (ad q2)), (3, .ref (ad q3)), (5, .int z5), (6, .int z6), (7, .int x7)]) (fun _ => rfl) (fun v12 ls hf hl => ?_)
  refine lv_aload_n hM.1 hM.2.1 dX7_find_80 rfl (lv_at hl 1 rfl) ?_
  refine gf_X7_leastCoins hM hw (okX7.o ho) fl_X7_35 dX7_find_81 ?_
  refine lv_bipush (v := (-2)) hM.1 hM.2.1 dX7_find_84 (by decide) ?_
  refine x_ic_eq (tgt := 98) hM hf dX7_find_86 (by decide) (fun hf => ?_) (fun hf => ?_)
  · refine lv_iconst (v := 1) hM.1 hM.2.1 dX7_find_98 ic_1 ?_
    refine lv_goto (tgt := 103) hM.1 hM.2.1 dX7_find_99 (by decide) ?_
    exact w_X7_find_j103 hM ho ho1 ho2 ho3 hk1 hrec hw (lv_sub hl [1, 2, 3, 4, 5, 6, 7, 0] rfl) hf
  refine lv_iload hM.1 hM.2.1 dX7_find_89 (lv_at hl 0 rfl) ?_
  refine lv_aload_n hM.1 hM.2.1 dX7_find_91 rfl (lv_at hl 1 rfl) ?_
  refine gf_X7_leastCoins hM hw (okX7.o ho) fl_X7_35 dX7_find_92 ?_
  refine x_ic_ge (tgt := 102) hM hf dX7_find_95 (by decide) (fun hf => ?_) (fun hf => ?_)
  · refine lv_iconst (v := 0) hM.1 hM.2.1 dX7_find_102 ic_0 ?_
    exact w_X7_find_j103 hM ho ho1 ho2 ho3 hk1 hrec hw (lv_sub hl [1, 2, 3, 4, 5, 6, 7, 0] rfl) hf
  refine lv_iconst (v := 1) hM.1 hM.2.1 dX7_find_98 ic_1 ?_
  refine lv_goto (tgt := 103) hM.1 hM.2.1 dX7_find_99 (by decide) ?_
  exact w_X7_find_j103 hM ho ho1 ho2 ho3 hk1 hrec hw (lv_sub hl [1, 2, 3, 4, 5, 6, 7, 0] rfl) hf
set_option maxHeartbeats 4000000 in
set_option maxRecDepth 100000 in
theorem w_X7_find_L58 {p0 : Program} {l : Launch} {e : Env} {s : State} {m : MethodId} {args : Array Value} {below : List Frame} {meth : Method} {c : Code} {Q : State → Prop} {D : va_G} {G : GG} {A : Nat → Prop} {H0 : Heap} {ad : Nat → Nat} {lay : List KK} {X : va_W} {ρ : Type} {p : Nat} {q1 : Nat} {q2 : Nat} {q3 : Nat} {r0 : ρ} {z5 : Int32} {z6 : Int32} {K1 : PH → Option ρ} (hM : CallFix p0 m c cX7_find 10 s args lw_g RX7) (ho : okX7 lay p) (ho1 : okX1 lay q1) (ho2 : okX9 lay q2) (ho3 : okX8 lay q3) (hk1 : ∀ (h : PH), ∀ (H : Heap) (locs : List Loc) (ls : Array Slot), K1 h = some r0 → Wd D G A H0 ad lay X h s H locs → lv_has ls 10 [(0, .ref (ad p))] → W p0 l e (rmN 5 132) s m args below meth c H locs 0 0 Q (F0 m 146 ls [])) (n : Nat) (x7 : Int32) (h : PH) (hf : lq2 (c_X7_find_L58b p q1 q2 q3 z5 z6 K1) n x7 h = some r0) : ∀ (H : Heap) (locs : List Loc) (ls : Array Slot), Wd D G A H0 ad lay X h s H locs → lv_has ls 10 [(0, .ref (ad p)), (1, .ref (ad q1)), (2, .ref (ad q2)), (3, .ref (ad q3)), (5, .int z5), (6, .int z6), (7, .int x7)] → W p0 l e (rmN 5 132) s m args below meth c H locs 0 0 Q (F0 m 58 ls []) := by
  exact lq2_i (fun (x7 : Int32) (h : PH) => ∀ (H : Heap) (locs : List Loc) (ls : Array Slot), Wd D G A H0 ad lay X h s H locs → lv_has ls 10 [(0, .ref (ad p)), (1, .ref (ad q1)), (2, .ref (ad q2)), (3, .ref (ad q3)), (5, .int z5), (6, .int z6), (7, .int x7)] → W p0 l e (rmN 5 132) s m args below meth c H locs 0 0 Q (F0 m 58 ls [])) (fun REC x7 h ih hf H locs ls hw hl => w_X7_find_L58b hM ho ho1 ho2 ho3 hk1 (fun x7 h H locs ls hf hw hl => ih x7 h hf H locs ls hw hl) hw hl hf) n x7 h hf
def c_X7_find (p : Nat) (q1 : Nat) (q2 : Nat) (q3 : Nat) (a4 : Int32) (a5 : Int32) (h : PH) : Option (Int32 × PH) :=
  nm (setI h p 6 (-2)) fun h1 =>
  (c_X8_over q3 h1).bind fun r2 =>
  if (a4 &&& r2) = 0 then
    (c_X7_list p q2 a4 h1).bind fun h3 =>
    nm (1 : Int32) fun v4 =>
    nm (0 : Int32) fun v5 =>
    lq2 (c_X7_find_L31b p q1 q2 q3 a5 h3
      (fun w8 =>
        nm (0 : Int32) fun v9 =>
        lq2 (c_X7_find_L58b p q1 q2 q3 a5 w8
          (fun h23 =>
            if (h23.1 p 6) = (-2) then
              some (0, h23)
            else
              some (1, h23))) fu v9 h3)) fu v4 v5
  else
    some (0, h1)
set_option maxHeartbeats 4000000 in
set_option maxRecDepth 100000 in
theorem ct_X7_find (l : Launch) {lay : List KK} {p : Nat} {q1 : Nat} {q2 : Nat} {q3 : Nat} (ho : okX7 lay p) (ho1 : okX1 lay q1) (ho2 : okX9 lay q2) (ho3 : okX8 lay q3) (a4 : Int32) (a5 : Int32) : CtI l yX7_find cX7_find 10 (some .boolean) 5 132 lay (fun h => c_X7_find p q1 q2 q3 a4 a5 h) (fun ad => [.ref (ad p), .ref (ad q1), .ref (ad q2), .ref (ad q3), .int a4, .int a5]) := by
  refine CtI.mk' RX7 (by decide) rfl (fun _ => Nat.le_of_ble_eq_true rfl) ?_
  intro p0 e s m args below meth c D G A H0 ad X h r0 H ls Q hM hw hl hf hR
  have hl : lv_has ls 10 [(0, .ref (ad p)), (1, .ref (ad q1)), (2, .ref (ad q2)), (3, .ref (ad q3)), (4, .int a4), (5, .int a5)] := hl
  unfold c_X7_find at hf
  refine lv_aload_n hM.1 hM.2.1 dX7_find_0 rfl (lv_at hl 0 rfl) ?_
  refine lv_bipush (v := (-2)) hM.1 hM.2.1 dX7_find_1 (by decide) ?_
  refine pf_X7_leastCoins hM hw (okX7.o ho) fl_X7_35 hf dX7_find_3 (fun h1 H locs hf hw => ?_)
  refine lv_iload hM.1 hM.2.1 dX7_find_6 (lv_at hl 4 rfl) ?_
  refine lv_aload_n hM.1 hM.2.1 dX7_find_8 rfl (lv_at hl 3 rfl) ?_
  refine x_callVIr (rest := [.int a4]) hM hw (ct_X8_over l ho3) [] (okX8.o ho3) rfl rfl rfl (gi_V ml_X7_38 im_X8_over sl_X8_over in_X8 kc_X8_over) hd_X8_over rfl ⟨Nat.le_of_ble_eq_true rfl, Nat.le_of_ble_eq_true rfl⟩ rfl (Nat.le_of_ble_eq_true rfl) hl.1 hcs0 hf dX7_find_9 (fun r2 H locs hf hw => ?_)
  refine lv_iand hM.1 hM.2.1 dX7_find_12 ?_
  refine x_if_eq (tgt := 18) hM hf dX7_find_13 (by decide) (fun hf => ?_) (fun hf => ?_)
  · refine lv_aload_n hM.1 hM.2.1 dX7_find_18 rfl (lv_at hl 0 rfl) ?_
    refine lv_aload_n hM.1 hM.2.1 dX7_find_19 rfl (lv_at hl 2 rfl) ?_
    refine lv_iload hM.1 hM.2.1 dX7_find_20 (lv_at hl 4 rfl) ?_
    refine x_callVV (rest := []) hM hw (ct_X7_list l ho ho2 a4) [.ref (ad q2), .int a4] (okX7.o ho) rfl rfl rfl (gi_V ml_X7_42 im_X7_list sl_X7_list in_X7 kc_X7_list) hd_X7_list rfl ⟨Nat.le_of_ble_eq_true rfl, Nat.le_of_ble_eq_true rfl⟩ rfl (Nat.le_of_ble_eq_true rfl) hl.1 hcs0 hf dX7_find_22 (fun h3 H locs hf hw => ?_)
    refine lv_iconst (v := 1) hM.1 hM.2.1 dX7_find_25 ic_1 ?_
    refine x_istore hM hf dX7_find_26 hl (by decide) (fun v4 => [(6, .int v4), (0, .ref (ad p)), (1, .ref (ad q1)), (2, .ref (ad q2)), (3, .ref (ad q3)), (4, .int a4), (5, .int a5)]) (fun _ => rfl) (fun v4 ls hf hl => ?_)
    refine lv_iconst (v := 0) hM.1 hM.2.1 dX7_find_28 ic_0 ?_
    refine x_istore hM hf dX7_find_29 hl (by decide) (fun v5 => [(7, .int v5), (6, .int v4), (0, .ref (ad p)), (1, .ref (ad q1)), (2, .ref (ad q2)), (3, .ref (ad q3)), (4, .int a4), (5, .int a5)]) (fun _ => rfl) (fun v5 ls hf hl => ?_)
    refine w_X7_find_L31 hM ho ho1 ho2 ho3 (fun w8 H locs ls hf hw hl => ?_) fu _ _ hf _ _ _ hw (lv_sub hl [2, 3, 4, 5, 7, 1, 0] rfl)
    refine lv_iconst (v := 0) hM.1 hM.2.1 dX7_find_55 ic_0 ?_
    refine x_istore hM hf dX7_find_56 hl (by decide) (fun v9 => [(7, .int v9), (0, .ref (ad p)), (1, .ref (ad q1)), (2, .ref (ad q2)), (3, .ref (ad q3)), (5, .int a5), (6, .int w8)]) (fun _ => rfl) (fun v9 ls hf hl => ?_)
    refine w_X7_find_L58 hM ho ho1 ho2 ho3 (fun h23 H locs ls hf hw hl => ?_) fu _ _ hf _ _ _ hw (lv_sub hl [1, 2, 3, 4, 5, 6, 0] rfl)
    refine lv_aload_n hM.1 hM.2.1 dX7_find_146 rfl (lv_at hl 0 rfl) ?_
    refine gf_X7_leastCoins hM hw (okX7.o ho) fl_X7_35 dX7_find_147 ?_
    refine lv_bipush (v := (-2)) hM.1 hM.2.1 dX7_find_150 (by decide) ?_
    refine x_ic_eq (tgt := 159) hM hf dX7_find_152 (by decide) (fun hf => ?_) (fun hf => ?_)
    · refine lv_iconst (v := 0) hM.1 hM.2.1 dX7_find_159 ic_0 ?_
      exact hR _ _ _ _ _ _ _ (Option.some.inj hf) rfl (nar_z (by decide)) hw dX7_find_160
    refine lv_iconst (v := 1) hM.1 hM.2.1 dX7_find_155 ic_1 ?_
    refine lv_goto (tgt := 160) hM.1 hM.2.1 dX7_find_156 (by decide) ?_
    exact hR _ _ _ _ _ _ _ (Option.some.inj hf) rfl (nar_z (by decide)) hw dX7_find_160
  refine lv_iconst (v := 0) hM.1 hM.2.1 dX7_find_16 ic_0 ?_
  exact hR _ _ _ _ _ _ _ (Option.some.inj hf) rfl (nar_z (by decide)) hw dX7_find_17
theorem hd_X7_find : yX7_find.cls = RX7 ∧ yX7_find.cls ≠ "java/lang/invoke/MethodHandle" ∧ yX7_find.cls ≠ "java/lang/invoke/VarHandle" ∧ (parseMethodDescriptor yX7_find.desc).map (fun d => d.parameters.length) = some 5 := ⟨rfl, by decide, by decide, by decide +kernel⟩
