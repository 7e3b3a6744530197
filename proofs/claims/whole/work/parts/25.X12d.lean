theorem dX12_rumour_0 : decode cX12_rumour 0 = .ok (.aload_n 0, 1) := by decide +kernel
theorem dX12_rumour_1 : decode cX12_rumour 1 = .ok (.iload_n 1, 1) := by decide +kernel
theorem dX12_rumour_2 : decode cX12_rumour 2 = .ok (.invokevirtual 425, 3) := by decide +kernel
theorem dX12_rumour_5 : decode cX12_rumour 5 = .ok (.ifCond .eq 13, 3) := by decide +kernel
theorem dX12_rumour_8 : decode cX12_rumour 8 = .ok (.iload_n 2, 1) := by decide +kernel
theorem dX12_rumour_9 : decode cX12_rumour 9 = .ok (.iconst (-1), 1) := by decide +kernel
theorem dX12_rumour_10 : decode cX12_rumour 10 = .ok (.bipush 9, 2) := by decide +kernel
theorem dX12_rumour_12 : decode cX12_rumour 12 = .ok (.invokestatic 359, 3) := by decide +kernel
theorem dX12_rumour_15 : decode cX12_rumour 15 = .ok (.ifCond .ne 5, 3) := by decide +kernel
theorem dX12_rumour_18 : decode cX12_rumour 18 = .ok (.iconst (-1), 1) := by decide +kernel
theorem dX12_rumour_19 : decode cX12_rumour 19 = .ok (.ireturn, 1) := by decide +kernel
theorem dX12_rumour_20 : decode cX12_rumour 20 = .ok (.iconst 1, 1) := by decide +kernel
theorem dX12_rumour_21 : decode cX12_rumour 21 = .ok (.iload_n 1, 1) := by decide +kernel
theorem dX12_rumour_22 : decode cX12_rumour 22 = .ok (.ishl, 1) := by decide +kernel
theorem dX12_rumour_23 : decode cX12_rumour 23 = .ok (.istore_n 3, 1) := by decide +kernel
theorem dX12_rumour_24 : decode cX12_rumour 24 = .ok (.iconst 0, 1) := by decide +kernel
theorem dX12_rumour_25 : decode cX12_rumour 25 = .ok (.istore 4, 2) := by decide +kernel
theorem dX12_rumour_27 : decode cX12_rumour 27 = .ok (.iconst 1, 1) := by decide +kernel
theorem dX12_rumour_28 : decode cX12_rumour 28 = .ok (.istore 5, 2) := by decide +kernel
theorem dX12_rumour_30 : decode cX12_rumour 30 = .ok (.iload 5, 2) := by decide +kernel
theorem dX12_rumour_32 : decode cX12_rumour 32 = .ok (.ifCond .eq 91, 3) := by decide +kernel
theorem dX12_rumour_35 : decode cX12_rumour 35 = .ok (.iload 4, 2) := by decide +kernel
theorem dX12_rumour_37 : decode cX12_rumour 37 = .ok (.iload_n 2, 1) := by decide +kernel
theorem dX12_rumour_38 : decode cX12_rumour 38 = .ok (.if_icmp .eq 85, 3) := by decide +kernel
theorem dX12_rumour_41 : decode cX12_rumour 41 = .ok (.iload_n 3, 1) := by decide +kernel
theorem dX12_rumour_42 : decode cX12_rumour 42 = .ok (.istore 6, 2) := by decide +kernel
theorem dX12_rumour_44 : decode cX12_rumour 44 = .ok (.iconst 0, 1) := by decide +kernel
theorem dX12_rumour_45 : decode cX12_rumour 45 = .ok (.istore 7, 2) := by decide +kernel
theorem dX12_rumour_47 : decode cX12_rumour 47 = .ok (.iload 7, 2) := by decide +kernel
theorem dX12_rumour_49 : decode cX12_rumour 49 = .ok (.aload_n 0, 1) := by decide +kernel
theorem dX12_rumour_50 : decode cX12_rumour 50 = .ok (.getfield 49, 3) := by decide +kernel
theorem dX12_rumour_53 : decode cX12_rumour 53 = .ok (.aload_n 0, 1) := by decide +kernel
theorem dX12_rumour_54 : decode cX12_rumour 54 = .ok (.getfield 266, 3) := by decide +kernel
theorem dX12_rumour_57 : decode cX12_rumour 57 = .ok (.iaload, 1) := by decide +kernel
theorem dX12_rumour_58 : decode cX12_rumour 58 = .ok (.if_icmp .ge 38, 3) := by decide +kernel
theorem dX12_rumour_61 : decode cX12_rumour 61 = .ok (.iload_n 3, 1) := by decide +kernel
theorem dX12_rumour_62 : decode cX12_rumour 62 = .ok (.iload 7, 2) := by decide +kernel
theorem dX12_rumour_64 : decode cX12_rumour 64 = .ok (.ishr, 1) := by decide +kernel
theorem dX12_rumour_65 : decode cX12_rumour 65 = .ok (.iconst 1, 1) := by decide +kernel
theorem dX12_rumour_66 : decode cX12_rumour 66 = .ok (.iand, 1) := by decide +kernel
theorem dX12_rumour_67 : decode cX12_rumour 67 = .ok (.iconst 1, 1) := by decide +kernel
theorem dX12_rumour_68 : decode cX12_rumour 68 = .ok (.if_icmp .ne 22, 3) := by decide +kernel
theorem dX12_rumour_71 : decode cX12_rumour 71 = .ok (.iload 6, 2) := by decide +kernel
theorem dX12_rumour_73 : decode cX12_rumour 73 = .ok (.aload_n 0, 1) := by decide +kernel
theorem dX12_rumour_74 : decode cX12_rumour 74 = .ok (.getfield 58, 3) := by decide +kernel
theorem dX12_rumour_77 : decode cX12_rumour 77 = .ok (.iconst 5, 1) := by decide +kernel
theorem dX12_rumour_78 : decode cX12_rumour 78 = .ok (.aload_n 0, 1) := by decide +kernel
theorem dX12_rumour_79 : decode cX12_rumour 79 = .ok (.getfield 266, 3) := by decide +kernel
theorem dX12_rumour_82 : decode cX12_rumour 82 = .ok (.imul, 1) := by decide +kernel
theorem dX12_rumour_83 : decode cX12_rumour 83 = .ok (.iload 7, 2) := by decide +kernel
theorem dX12_rumour_85 : decode cX12_rumour 85 = .ok (.iadd, 1) := by decide +kernel
theorem dX12_rumour_86 : decode cX12_rumour 86 = .ok (.iaload, 1) := by decide +kernel
theorem dX12_rumour_87 : decode cX12_rumour 87 = .ok (.ior, 1) := by decide +kernel
theorem dX12_rumour_88 : decode cX12_rumour 88 = .ok (.istore 6, 2) := by decide +kernel
theorem dX12_rumour_90 : decode cX12_rumour 90 = .ok (.iinc 7 1, 3) := by decide +kernel
theorem dX12_rumour_93 : decode cX12_rumour 93 = .ok (.goto (-46), 3) := by decide +kernel
theorem dX12_rumour_96 : decode cX12_rumour 96 = .ok (.iload 6, 2) := by decide +kernel
theorem dX12_rumour_98 : decode cX12_rumour 98 = .ok (.iload_n 3, 1) := by decide +kernel
theorem dX12_rumour_99 : decode cX12_rumour 99 = .ok (.if_icmp .eq 7, 3) := by decide +kernel
theorem dX12_rumour_102 : decode cX12_rumour 102 = .ok (.iconst 1, 1) := by decide +kernel
theorem dX12_rumour_103 : decode cX12_rumour 103 = .ok (.goto 4, 3) := by decide +kernel
theorem dX12_rumour_106 : decode cX12_rumour 106 = .ok (.iconst 0, 1) := by decide +kernel
theorem dX12_rumour_107 : decode cX12_rumour 107 = .ok (.istore 5, 2) := by decide +kernel
theorem dX12_rumour_109 : decode cX12_rumour 109 = .ok (.iload 5, 2) := by decide +kernel
theorem dX12_rumour_111 : decode cX12_rumour 111 = .ok (.ifCond .eq 6, 3) := by decide +kernel
theorem dX12_rumour_114 : decode cX12_rumour 114 = .ok (.iinc 4 1, 3) := by decide +kernel
theorem dX12_rumour_117 : decode cX12_rumour 117 = .ok (.iload 6, 2) := by decide +kernel
theorem dX12_rumour_119 : decode cX12_rumour 119 = .ok (.istore_n 3, 1) := by decide +kernel
theorem dX12_rumour_120 : decode cX12_rumour 120 = .ok (.goto (-90), 3) := by decide +kernel
theorem dX12_rumour_123 : decode cX12_rumour 123 = .ok (.iload_n 2, 1) := by decide +kernel
theorem dX12_rumour_124 : decode cX12_rumour 124 = .ok (.iconst (-1), 1) := by decide +kernel
theorem dX12_rumour_125 : decode cX12_rumour 125 = .ok (.if_icmp .ne 8, 3) := by decide +kernel
theorem dX12_rumour_128 : decode cX12_rumour 128 = .ok (.iload 4, 2) := by decide +kernel
theorem dX12_rumour_130 : decode cX12_rumour 130 = .ok (.goto 4, 3) := by decide +kernel
theorem dX12_rumour_133 : decode cX12_rumour 133 = .ok (.iload_n 3, 1) := by decide +kernel
theorem dX12_rumour_134 : decode cX12_rumour 134 = .ok (.ireturn, 1) := by decide +kernel
def c_X12_rumour_L47b {ρ : Type}  (z2 : Int32) (z3 : Int32) (z4 : Int32) (h : PH) (K1 : Int32 → Option ρ) (REC : Int32 → Int32 → Option ρ) (x6 : Int32) (x7 : Int32) : Option ρ :=
  gd (ixOK (h.1 0 18) 2) <|
  if (h.1 11 (h.1 0 18).toNatClampNeg) ≤ x7 then
    K1 x6
  else
    if ((z3 >>> (x7 &&& 31)) &&& 1) = 1 then
      gd (ixOK ((5 * (h.1 0 18)) + x7) 10) <|
      nm (x6 ||| (h.1 14 ((5 * (h.1 0 18)) + x7).toNatClampNeg)) fun v9 =>
      nm (x7 + 1) fun v10 =>
      REC v9 v10
    else
      nm (x7 + 1) fun v8 =>
      REC x6 v8
set_option maxHeartbeats 4000000 in
set_option maxRecDepth 100000 in
theorem w_X12_rumour_L47b {p0 : Program} {l : Launch} {e : Env} {s : State} {m : MethodId} {args : Array Value} {below : List Frame} {meth : Method} {c : Code} {Q : State → Prop} {D : va_G} {G : GG} {A : Nat → Prop} {H0 : Heap} {ad : Nat → Nat} {lay : List KK} {X : va_W} {ρ : Type} {r0 : ρ} {z2 : Int32} {z3 : Int32} {z4 : Int32} {x6 : Int32} {x7 : Int32} {h : PH} {H : Heap} {locs : List Loc} {ls : Array Slot} {K1 : Int32 → Option ρ} {REC : Int32 → Int32 → Option ρ} (hM : CallFix p0 m c cX12_rumour 8 s args lw_g RX12) (ho : okX12 lay) (hk1 : ∀ (x6 : Int32), ∀ (H : Heap) (locs : List Loc) (ls : Array Slot), K1 x6 = some r0 → Wd D G A H0 ad lay X h s H locs → lv_has ls 8 [(0, .ref (ad 0)), (2, .int z2), (3, .int z3), (4, .int z4), (6, .int x6)] → W p0 l e (rmN 2 43) s m args below meth c H locs 0 0 Q (F0 m 96 ls [])) (hrec : ∀ (x6 : Int32) (x7 : Int32), ∀ (H : Heap) (locs : List Loc) (ls : Array Slot), REC x6 x7 = some r0 → Wd D G A H0 ad lay X h s H locs → lv_has ls 8 [(0, .ref (ad 0)), (2, .int z2), (3, .int z3), (4, .int z4), (6, .int x6), (7, .int x7)] → W p0 l e (rmN 2 43) s m args below meth c H locs 0 0 Q (F0 m 47 ls [])) (hw : Wd D G A H0 ad lay X h s H locs) (hl : lv_has ls 8 [(0, .ref (ad 0)), (2, .int z2), (3, .int z3), (4, .int z4), (6, .int x6), (7, .int x7)]) (hf : c_X12_rumour_L47b z2 z3 z4 h K1 REC x6 x7 = some r0) : W p0 l e (rmN 2 43) s m args below meth c H locs 0 0 Q (F0 m 47 ls []) := by
  unfold c_X12_rumour_L47b at hf
  refine lv_iload hM.1 hM.2.1 dX12_rumour_47 (lv_at hl 5 rfl) ?_
  refine lv_aload_n hM.1 hM.2.1 dX12_rumour_49 rfl (lv_at hl 0 rfl) ?_
  refine gf_X12_men hM hw (okX12.o ho) fl_X12_49 dX12_rumour_50 ?_
  refine lv_aload_n hM.1 hM.2.1 dX12_rumour_53 rfl (lv_at hl 0 rfl) ?_
  refine gf_X12_live hM hw (okX12.o ho) fl_X12_266 dX12_rumour_54 ?_
  refine x_iald hM hw (okX12.men ho) hf dX12_rumour_57 (fun hf => ?_)
  refine x_ic_ge (tgt := 96) hM hf dX12_rumour_58 (by decide) (fun hf => ?_) (fun hf => ?_)
  · exact hk1 _ _ _ _ hf hw (lv_sub hl [0, 1, 2, 3, 4] rfl)
  refine lv_iload_n hM.1 hM.2.1 dX12_rumour_61 rfl (lv_at hl 2 rfl) ?_
  refine lv_iload hM.1 hM.2.1 dX12_rumour_62 (lv_at hl 5 rfl) ?_
  refine lv_ishr hM.1 hM.2.1 dX12_rumour_64 ?_
  refine lv_iconst (v := 1) hM.1 hM.2.1 dX12_rumour_65 ic_1 ?_
  refine lv_iand hM.1 hM.2.1 dX12_rumour_66 ?_
  refine lv_iconst (v := 1) hM.1 hM.2.1 dX12_rumour_67 ic_1 ?_
  refine x_ic_ne (tgt := 90) hM hf dX12_rumour_68 (by decide) (fun hf => ?_) (fun hf => ?_)
  · refine x_iinc (k := 5) (d := 1) hM hf dX12_rumour_90 hl rfl (by decide) (by decide) (fun v8 => [(7, .int v8), (0, .ref (ad 0)), (2, .int z2), (3, .int z3), (4, .int z4), (6, .int x6)]) (fun _ => rfl) (fun v8 ls hf hl => ?_)
    refine lv_goto (tgt := 47) hM.1 hM.2.1 dX12_rumour_93 (by decide) ?_
    exact hrec _ _ _ _ _ hf hw (lv_sub hl [1, 2, 3, 4, 5, 0] rfl)
  refine lv_iload hM.1 hM.2.1 dX12_rumour_71 (lv_at hl 4 rfl) ?_
  refine lv_aload_n hM.1 hM.2.1 dX12_rumour_73 rfl (lv_at hl 0 rfl) ?_
  refine gf_X12_knowing hM hw (okX12.o ho) fl_X12_58 dX12_rumour_74 ?_
  refine lv_iconst (v := 5) hM.1 hM.2.1 dX12_rumour_77 ic_5 ?_
  refine lv_aload_n hM.1 hM.2.1 dX12_rumour_78 rfl (lv_at hl 0 rfl) ?_
  refine gf_X12_live hM hw (okX12.o ho) fl_X12_266 dX12_rumour_79 ?_
  refine lv_imul hM.1 hM.2.1 dX12_rumour_82 ?_
  refine lv_iload hM.1 hM.2.1 dX12_rumour_83 (lv_at hl 5 rfl) ?_
  refine lv_iadd hM.1 hM.2.1 dX12_rumour_85 ?_
  refine x_iald hM hw (okX12.knowing ho) hf dX12_rumour_86 (fun hf => ?_)
  refine lv_ior hM.1 hM.2.1 dX12_rumour_87 ?_
  refine x_istore hM hf dX12_rumour_88 hl (by decide) (fun v9 => [(6, .int v9), (0, .ref (ad 0)), (2, .int z2), (3, .int z3), (4, .int z4), (7, .int x7)]) (fun _ => rfl) (fun v9 ls hf hl => ?_)
  refine x_iinc (k := 5) (d := 1) hM hf dX12_rumour_90 hl rfl (by decide) (by decide) (fun v10 => [(7, .int v10), (6, .int v9), (0, .ref (ad 0)), (2, .int z2), (3, .int z3), (4, .int z4)]) (fun _ => rfl) (fun v10 ls hf hl => ?_)
  refine lv_goto (tgt := 47) hM.1 hM.2.1 dX12_rumour_93 (by decide) ?_
  exact hrec _ _ _ _ _ hf hw (lv_sub hl [2, 3, 4, 5, 1, 0] rfl)
set_option maxHeartbeats 4000000 in
set_option maxRecDepth 100000 in
theorem w_X12_rumour_L47 {p0 : Program} {l : Launch} {e : Env} {s : State} {m : MethodId} {args : Array Value} {below : List Frame} {meth : Method} {c : Code} {Q : State → Prop} {D : va_G} {G : GG} {A : Nat → Prop} {H0 : Heap} {ad : Nat → Nat} {lay : List KK} {X : va_W} {ρ : Type} {r0 : ρ} {z2 : Int32} {z3 : Int32} {z4 : Int32} {h : PH} {K1 : Int32 → Option ρ} (hM : CallFix p0 m c cX12_rumour 8 s args lw_g RX12) (ho : okX12 lay) (hk1 : ∀ (x6 : Int32), ∀ (H : Heap) (locs : List Loc) (ls : Array Slot), K1 x6 = some r0 → Wd D G A H0 ad lay X h s H locs → lv_has ls 8 [(0, .ref (ad 0)), (2, .int z2), (3, .int z3), (4, .int z4), (6, .int x6)] → W p0 l e (rmN 2 43) s m args below meth c H locs 0 0 Q (F0 m 96 ls [])) (n : Nat) (x6 : Int32) (x7 : Int32) (hf : lq2 (c_X12_rumour_L47b z2 z3 z4 h K1) n x6 x7 = some r0) : ∀ (H : Heap) (locs : List Loc) (ls : Array Slot), Wd D G A H0 ad lay X h s H locs → lv_has ls 8 [(0, .ref (ad 0)), (2, .int z2), (3, .int z3), (4, .int z4), (6, .int x6), (7, .int x7)] → W p0 l e (rmN 2 43) s m args below meth c H locs 0 0 Q (F0 m 47 ls []) := by
  exact lq2_i (fun (x6 : Int32) (x7 : Int32) => ∀ (H : Heap) (locs : List Loc) (ls : Array Slot), Wd D G A H0 ad lay X h s H locs → lv_has ls 8 [(0, .ref (ad 0)), (2, .int z2), (3, .int z3), (4, .int z4), (6, .int x6), (7, .int x7)] → W p0 l e (rmN 2 43) s m args below meth c H locs 0 0 Q (F0 m 47 ls [])) (fun REC x6 x7 ih hf H locs ls hw hl => w_X12_rumour_L47b hM ho hk1 (fun x6 x7 H locs ls hf hw hl => ih x6 x7 hf H locs ls hw hl) hw hl hf) n x6 x7 hf
def c_X12_rumour_L30b {ρ : Type}  (z2 : Int32) (h : PH) (K1 : Int32 → Int32 → Option ρ) (REC : Int32 → Int32 → Int32 → Option ρ) (x3 : Int32) (x4 : Int32) (x5 : Int32) : Option ρ :=
  if x5 = 0 then
    K1 x3 x4
  else
    if x4 = z2 then
      K1 x3 x4
    else
      nm x3 fun v6 =>
      nm (0 : Int32) fun v7 =>
      lq2 (c_X12_rumour_L47b z2 x3 x4 h
        (fun w11 =>
          if w11 = x3 then
            nm (0 : Int32) fun v12 =>
            if v12 = 0 then
              nm w11 fun v13 =>
              REC v13 x4 v12
            else
              nm (x4 + 1) fun v14 =>
              nm w11 fun v15 =>
              REC v15 v14 v12
          else
            nm (1 : Int32) fun v16 =>
            if v16 = 0 then
              nm w11 fun v17 =>
              REC v17 x4 v16
            else
              nm (x4 + 1) fun v18 =>
              nm w11 fun v19 =>
              REC v19 v18 v16)) fu v6 v7
set_option maxHeartbeats 4000000 in
set_option maxRecDepth 100000 in
theorem w_X12_rumour_L30b {p0 : Program} {l : Launch} {e : Env} {s : State} {m : MethodId} {args : Array Value} {below : List Frame} {meth : Method} {c : Code} {Q : State → Prop} {D : va_G} {G : GG} {A : Nat → Prop} {H0 : Heap} {ad : Nat → Nat} {lay : List KK} {X : va_W} {ρ : Type} {r0 : ρ} {z2 : Int32} {x3 : Int32} {x4 : Int32} {x5 : Int32} {h : PH} {H : Heap} {locs : List Loc} {ls : Array Slot} {K1 : Int32 → Int32 → Option ρ} {REC : Int32 → Int32 → Int32 → Option ρ} (hM : CallFix p0 m c cX12_rumour 8 s args lw_g RX12) (ho : okX12 lay) (hk1 : ∀ (x3 : Int32) (x4 : Int32), ∀ (H : Heap) (locs : List Loc) (ls : Array Slot), K1 x3 x4 = some r0 → Wd D G A H0 ad lay X h s H locs → lv_has ls 8 [(2, .int z2), (3, .int x3), (4, .int x4)] → W p0 l e (rmN 2 43) s m args below meth c H locs 0 0 Q (F0 m 123 ls [])) (hrec : ∀ (x3 : Int32) (x4 : Int32) (x5 : Int32), ∀ (H : Heap) (locs : List Loc) (ls : Array Slot), REC x3 x4 x5 = some r0 → Wd D G A H0 ad lay X h s H locs → lv_has ls 8 [(0, .ref (ad 0)), (2, .int z2), (3, .int x3), (4, .int x4), (5, .int x5)] → W p0 l e (rmN 2 43) s m args below meth c H locs 0 0 Q (F0 m 30 ls [])) (hw : Wd D G A H0 ad lay X h s H locs) (hl : lv_has ls 8 [(0, .ref (ad 0)), (2, .int z2), (3, .int x3), (4, .int x4), (5, .int x5)]) (hf : c_X12_rumour_L30b z2 h K1 REC x3 x4 x5 = some r0) : W p0 l e (rmN 2 43) s m args below meth c H locs 0 0 Q (F0 m 30 ls []) := by
  unfold c_X12_rumour_L30b at hf
  refine lv_iload hM.1 hM.2.1 dX12_rumour_30 (lv_at hl 4 rfl) ?_
  refine x_if_eq (tgt := 123) hM hf dX12_rumour_32 (by decide) (fun hf => ?_) (fun hf => ?_)
  · exact hk1 _ _ _ _ _ hf hw (lv_sub hl [1, 2, 3] rfl)
  refine lv_iload hM.1 hM.2.1 dX12_rumour_35 (lv_at hl 3 rfl) ?_
  refine lv_iload_n hM.1 hM.2.1 dX12_rumour_37 rfl (lv_at hl 1 rfl) ?_
  refine x_ic_eq (tgt := 123) hM hf dX12_rumour_38 (by decide) (fun hf => ?_) (fun hf => ?_)
  · exact hk1 _ _ _ _ _ hf hw (lv_sub hl [1, 2, 3] rfl)
  refine lv_iload_n hM.1 hM.2.1 dX12_rumour_41 rfl (lv_at hl 2 rfl) ?_
  refine x_istore hM hf dX12_rumour_42 hl (by decide) (fun v6 => [(6, .int v6), (0, .ref (ad 0)), (2, .int z2), (3, .int x3), (4, .int x4), (5, .int x5)]) (fun _ => rfl) (fun v6 ls hf hl => ?_)
  refine lv_iconst (v := 0) hM.1 hM.2.1 dX12_rumour_44 ic_0 ?_
  refine x_istore hM hf dX12_rumour_45 hl (by decide) (fun v7 => [(7, .int v7), (6, .int v6), (0, .ref (ad 0)), (2, .int z2), (3, .int x3), (4, .int x4), (5, .int x5)]) (fun _ => rfl) (fun v7 ls hf hl => ?_)
  refine w_X12_rumour_L47 hM ho (fun w11 H locs ls hf hw hl => ?_) fu _ _ hf _ _ _ hw (lv_sub hl [2, 3, 4, 5, 1, 0] rfl)
  refine lv_iload hM.1 hM.2.1 dX12_rumour_96 (lv_at hl 4 rfl) ?_
  refine lv_iload_n hM.1 hM.2.1 dX12_rumour_98 rfl (lv_at hl 2 rfl) ?_
  refine x_ic_eq (tgt := 106) hM hf dX12_rumour_99 (by decide) (fun hf => ?_) (fun hf => ?_)
  · refine lv_iconst (v := 0) hM.1 hM.2.1 dX12_rumour_106 ic_0 ?_
    refine x_istore hM hf dX12_rumour_107 hl (by decide) (fun v12 => [(5, .int v12), (0, .ref (ad 0)), (2, .int z2), (3, .int x3), (4, .int x4), (6, .int w11)]) (fun _ => rfl) (fun v12 ls hf hl => ?_)
    refine lv_iload hM.1 hM.2.1 dX12_rumour_109 (lv_at hl 0 rfl) ?_
    refine x_if_eq (tgt := 117) hM hf dX12_rumour_111 (by decide) (fun hf => ?_) (fun hf => ?_)
    · refine lv_iload hM.1 hM.2.1 dX12_rumour_117 (lv_at hl 5 rfl) ?_
      refine x_istore_n hM hf dX12_rumour_119 rfl hl (by decide) (fun v13 => [(3, .int v13), (5, .int v12), (0, .ref (ad 0)), (2, .int z2), (4, .int x4), (6, .int w11)]) (fun _ => rfl) (fun v13 ls hf hl => ?_)
      refine lv_goto (tgt := 30) hM.1 hM.2.1 dX12_rumour_120 (by decide) ?_
      exact hrec _ _ _ _ _ _ hf hw (lv_sub hl [2, 3, 0, 4, 1] rfl)
    refine x_iinc (k := 4) (d := 1) hM hf dX12_rumour_114 hl rfl (by decide) (by decide) (fun v14 => [(4, .int v14), (5, .int v12), (0, .ref (ad 0)), (2, .int z2), (3, .int x3), (6, .int w11)]) (fun _ => rfl) (fun v14 ls hf hl => ?_)
    refine lv_iload hM.1 hM.2.1 dX12_rumour_117 (lv_at hl 5 rfl) ?_
    refine x_istore_n hM hf dX12_rumour_119 rfl hl (by decide) (fun v15 => [(3, .int v15), (4, .int v14), (5, .int v12), (0, .ref (ad 0)), (2, .int z2), (6, .int w11)]) (fun _ => rfl) (fun v15 ls hf hl => ?_)
    refine lv_goto (tgt := 30) hM.1 hM.2.1 dX12_rumour_120 (by decide) ?_
    exact hrec _ _ _ _ _ _ hf hw (lv_sub hl [3, 4, 0, 1, 2] rfl)
  refine lv_iconst (v := 1) hM.1 hM.2.1 dX12_rumour_102 ic_1 ?_
  refine lv_goto (tgt := 107) hM.1 hM.2.1 dX12_rumour_103 (by decide) ?_
  refine x_istore hM hf dX12_rumour_107 hl (by decide) (fun v16 => [(5, .int v16), (0, .ref (ad 0)), (2, .int z2), (3, .int x3), (4, .int x4), (6, .int w11)]) (fun _ => rfl) (fun v16 ls hf hl => ?_)
  refine lv_iload hM.1 hM.2.1 dX12_rumour_109 (lv_at hl 0 rfl) ?_
  refine x_if_eq (tgt := 117) hM hf dX12_rumour_111 (by decide) (fun hf => ?_) (fun hf => ?_)
  · refine lv_iload hM.1 hM.2.1 dX12_rumour_117 (lv_at hl 5 rfl) ?_
    refine x_istore_n hM hf dX12_rumour_119 rfl hl (by decide) (fun v17 => [(3, .int v17), (5, .int v16), (0, .ref (ad 0)), (2, .int z2), (4, .int x4), (6, .int w11)]) (fun _ => rfl) (fun v17 ls hf hl => ?_)
    refine lv_goto (tgt := 30) hM.1 hM.2.1 dX12_rumour_120 (by decide) ?_
    exact hrec _ _ _ _ _ _ hf hw (lv_sub hl [2, 3, 0, 4, 1] rfl)
  refine x_iinc (k := 4) (d := 1) hM hf dX12_rumour_114 hl rfl (by decide) (by decide) (fun v18 => [(4, .int v18), (5, .int v16), (0, .ref (ad 0)), (2, .int z2), (3, .int x3), (6, .int w11)]) (fun _ => rfl) (fun v18 ls hf hl => ?_)
  refine lv_iload hM.1 hM.2.1 dX12_rumour_117 (lv_at hl 5 rfl) ?_
  refine x_istore_n hM hf dX12_rumour_119 rfl hl (by decide) (fun v19 => [(3, .int v19), (4, .int v18), (5, .int v16), (0, .ref (ad 0)), (2, .int z2), (6, .int w11)]) (fun _ => rfl) (fun v19 ls hf hl => ?_)
  refine lv_goto (tgt := 30) hM.1 hM.2.1 dX12_rumour_120 (by decide) ?_
  exact hrec _ _ _ _ _ _ hf hw (lv_sub hl [3, 4, 0, 1, 2] rfl)
set_option maxHeartbeats 4000000 in
set_option maxRecDepth 100000 in
theorem w_X12_rumour_L30 {p0 : Program} {l : Launch} {e : Env} {s : State} {m : MethodId} {args : Array Value} {below : List Frame} {meth : Method} {c : Code} {Q : State → Prop} {D : va_G} {G : GG} {A : Nat → Prop} {H0 : Heap} {ad : Nat → Nat} {lay : List KK} {X : va_W} {ρ : Type} {r0 : ρ} {z2 : Int32} {h : PH} {K1 : Int32 → Int32 → Option ρ} (hM : CallFix p0 m c cX12_rumour 8 s args lw_g RX12) (ho : okX12 lay) (hk1 : ∀ (x3 : Int32) (x4 : Int32), ∀ (H : Heap) (locs : List Loc) (ls : Array Slot), K1 x3 x4 = some r0 → Wd D G A H0 ad lay X h s H locs → lv_has ls 8 [(2, .int z2), (3, .int x3), (4, .int x4)] → W p0 l e (rmN 2 43) s m args below meth c H locs 0 0 Q (F0 m 123 ls [])) (n : Nat) (x3 : Int32) (x4 : Int32) (x5 : Int32) (hf : lq3 (c_X12_rumour_L30b z2 h K1) n x3 x4 x5 = some r0) : ∀ (H : Heap) (locs : List Loc) (ls : Array Slot), Wd D G A H0 ad lay X h s H locs → lv_has ls 8 [(0, .ref (ad 0)), (2, .int z2), (3, .int x3), (4, .int x4), (5, .int x5)] → W p0 l e (rmN 2 43) s m args below meth c H locs 0 0 Q (F0 m 30 ls []) := by
  exact lq3_i (fun (x3 : Int32) (x4 : Int32) (x5 : Int32) => ∀ (H : Heap) (locs : List Loc) (ls : Array Slot), Wd D G A H0 ad lay X h s H locs → lv_has ls 8 [(0, .ref (ad 0)), (2, .int z2), (3, .int x3), (4, .int x4), (5, .int x5)] → W p0 l e (rmN 2 43) s m args below meth c H locs 0 0 Q (F0 m 30 ls [])) (fun REC x3 x4 x5 ih hf H locs ls hw hl => w_X12_rumour_L30b hM ho hk1 (fun x3 x4 x5 H locs ls hf hw hl => ih x3 x4 x5 hf H locs ls hw hl) hw hl hf) n x3 x4 x5 hf
def c_X12_rumour (a1 : Int32) (a2 : Int32) (h : PH) : Option (Int32) :=
  (c_X12_isMan a1 h).bind fun r1 =>
  if r1 = 0 then
    some (-1)
  else
    (c_X12_in a2 (-1) 9).bind fun r2 =>
    if r2 = 0 then
      some (-1)
    else
      nm ((1 : Int32) <<< (a1 &&& 31)) fun v3 =>
      nm (0 : Int32) fun v4 =>
      nm (1 : Int32) fun v5 =>
      lq3 (c_X12_rumour_L30b a2 h
        (fun w20 w21 =>
          if a2 = (-1) then
            some w21
          else
            some w20)) fu v3 v4 v5
set_option maxHeartbeats 4000000 in
set_option maxRecDepth 100000 in
theorem ct_X12_rumour (l : Launch) {lay : List KK} (ho : okX12 lay) (a1 : Int32) (a2 : Int32) : CtI l yX12_rumour cX12_rumour 8 (some .int) 2 43 lay (rd (fun h => c_X12_rumour a1 a2 h)) (fun ad => [.ref (ad 0), .int a1, .int a2]) := by
  refine CtI.mk' RX12 (by decide) rfl (fun _ => Nat.le_of_ble_eq_true rfl) ?_
  intro p0 e s m args below meth c D G A H0 ad X h r0 H ls Q hM hw hl hf hR
  have hl : lv_has ls 8 [(0, .ref (ad 0)), (1, .int a1), (2, .int a2)] := hl
  obtain ⟨v0, hv0, hr0⟩ : ∃ v0, c_X12_rumour a1 a2 h = some v0 ∧ r0 = (v0, h) := rd_some hf
  subst hr0
  have hf := hv0
  unfold c_X12_rumour at hf
  refine lv_aload_n hM.1 hM.2.1 dX12_rumour_0 rfl (lv_at hl 0 rfl) ?_
  refine lv_iload_n hM.1 hM.2.1 dX12_rumour_1 rfl (lv_at hl 1 rfl) ?_
  refine x_callVIr (rest := []) hM hw (ct_X12_isMan l ho a1) [.int a1] (okX12.o ho) rfl rfl rfl (gi_V ml_X12_425 im_X12_isMan sl_X12_isMan in_X12 kc_X12_isMan) hd_X12_isMan rfl ⟨Nat.le_of_ble_eq_true rfl, Nat.le_of_ble_eq_true rfl⟩ rfl (Nat.le_of_ble_eq_true rfl) hl.1 hcs0 hf dX12_rumour_2 (fun r1 H locs hf hw => ?_)
  refine x_if_eq (tgt := 18) hM hf dX12_rumour_5 (by decide) (fun hf => ?_) (fun hf => ?_)
  · refine lv_iconst (v := (-1)) hM.1 hM.2.1 dX12_rumour_18 ic_m1 ?_
    exact hR _ _ _ _ _ _ _ (congrArg (fun z => (z, _)) (Option.some.inj hf)) rfl rfl hw dX12_rumour_19
  refine lv_iload_n hM.1 hM.2.1 dX12_rumour_8 rfl (lv_at hl 2 rfl) ?_
  refine lv_iconst (v := (-1)) hM.1 hM.2.1 dX12_rumour_9 ic_m1 ?_
  refine lv_bipush (v := 9) hM.1 hM.2.1 dX12_rumour_10 (by decide) ?_
  refine x_callSIr (rest := []) hM hw (ct_X12_in l a2 (-1) 9) [.int a2, .int (-1), .int 9] rfl (gi_S ml_X12_359 sm_X12_in in_X12 kc_X12_in) hd_X12_in rfl ⟨Nat.le_of_ble_eq_true rfl, Nat.le_of_ble_eq_true rfl⟩ rfl (Nat.le_of_ble_eq_true rfl) hl.1 hcs0 hf dX12_rumour_12 (fun r2 H locs hf hw => ?_)
  refine x_if_ne (tgt := 20) hM hf dX12_rumour_15 (by decide) (fun hf => ?_) (fun hf => ?_)
  · refine lv_iconst (v := 1) hM.1 hM.2.1 dX12_rumour_20 ic_1 ?_
    refine lv_iload_n hM.1 hM.2.1 dX12_rumour_21 rfl (lv_at hl 1 rfl) ?_
    refine lv_ishl hM.1 hM.2.1 dX12_rumour_22 ?_
    refine x_istore_n hM hf dX12_rumour_23 rfl hl (by decide) (fun v3 => [(3, .int v3), (0, .ref (ad 0)), (1, .int a1), (2, .int a2)]) (fun _ => rfl) (fun v3 ls hf hl => ?_)
    refine lv_iconst (v := 0) hM.1 hM.2.1 dX12_rumour_24 ic_0 ?_
    refine x_istore hM hf dX12_rumour_25 hl (by decide) (fun v4 => [(4, .int v4), (3, .int v3), (0, .ref (ad 0)), (1, .int a1), (2, .int a2)]) (fun _ => rfl) (fun v4 ls hf hl => ?_)
    refine lv_iconst (v := 1) hM.1 hM.2.1 dX12_rumour_27 ic_1 ?_
    refine x_istore hM hf dX12_rumour_28 hl (by decide) (fun v5 => [(5, .int v5), (4, .int v4), (3, .int v3), (0, .ref (ad 0)), (1, .int a1), (2, .int a2)]) (fun _ => rfl) (fun v5 ls hf hl => ?_)
    refine w_X12_rumour_L30 hM ho (fun w20 w21 H locs ls hf hw hl => ?_) fu _ _ _ hf _ _ _ hw (lv_sub hl [3, 5, 2, 1, 0] rfl)
    refine lv_iload_n hM.1 hM.2.1 dX12_rumour_123 rfl (lv_at hl 0 rfl) ?_
    refine lv_iconst (v := (-1)) hM.1 hM.2.1 dX12_rumour_124 ic_m1 ?_
    refine x_ic_ne (tgt := 133) hM hf dX12_rumour_125 (by decide) (fun hf => ?_) (fun hf => ?_)
    · refine lv_iload_n hM.1 hM.2.1 dX12_rumour_133 rfl (lv_at hl 1 rfl) ?_
      exact hR _ _ _ _ _ _ _ (congrArg (fun z => (z, _)) (Option.some.inj hf)) rfl rfl hw dX12_rumour_134
    refine lv_iload hM.1 hM.2.1 dX12_rumour_128 (lv_at hl 2 rfl) ?_
    refine lv_goto (tgt := 134) hM.1 hM.2.1 dX12_rumour_130 (by decide) ?_
    exact hR _ _ _ _ _ _ _ (congrArg (fun z => (z, _)) (Option.some.inj hf)) rfl rfl hw dX12_rumour_134
  refine lv_iconst (v := (-1)) hM.1 hM.2.1 dX12_rumour_18 ic_m1 ?_
  exact hR _ _ _ _ _ _ _ (congrArg (fun z => (z, _)) (Option.some.inj hf)) rfl rfl hw dX12_rumour_19
theorem hd_X12_rumour : yX12_rumour.cls = RX12 ∧ yX12_rumour.cls ≠ "java/lang/invoke/MethodHandle" ∧ yX12_rumour.cls ≠ "java/lang/invoke/VarHandle" ∧ (parseMethodDescriptor yX12_rumour.desc).map (fun d => d.parameters.length) = some 2 := ⟨rfl, by decide, by decide, by decide +kernel⟩
theorem dX12_areApart_0 : decode cX12_areApart 0 = .ok (.iconst 0, 1) := by decide +kernel
theorem dX12_areApart_1 : decode cX12_areApart 1 = .ok (.istore_n 2, 1) := by decide +kernel
theorem dX12_areApart_2 : decode cX12_areApart 2 = .ok (.iload_n 2, 1) := by decide +kernel
theorem dX12_areApart_3 : decode cX12_areApart 3 = .ok (.aload_n 0, 1) := by decide +kernel
theorem dX12_areApart_4 : decode cX12_areApart 4 = .ok (.getfield 61, 3) := by decide +kernel
theorem dX12_areApart_7 : decode cX12_areApart 7 = .ok (.aload_n 0, 1) := by decide +kernel
theorem dX12_areApart_8 : decode cX12_areApart 8 = .ok (.getfield 266, 3) := by decide +kernel
theorem dX12_areApart_11 : decode cX12_areApart 11 = .ok (.iaload, 1) := by decide +kernel
theorem dX12_areApart_12 : decode cX12_areApart 12 = .ok (.if_icmp .ge 119, 3) := by decide +kernel
theorem dX12_areApart_15 : decode cX12_areApart 15 = .ok (.iload_n 2, 1) := by decide +kernel
theorem dX12_areApart_16 : decode cX12_areApart 16 = .ok (.iconst 1, 1) := by decide +kernel
theorem dX12_areApart_17 : decode cX12_areApart 17 = .ok (.iadd, 1) := by decide +kernel
theorem dX12_areApart_18 : decode cX12_areApart 18 = .ok (.istore_n 3, 1) := by decide +kernel
theorem dX12_areApart_19 : decode cX12_areApart 19 = .ok (.iload_n 3, 1) := by decide +kernel
theorem dX12_areApart_20 : decode cX12_areApart 20 = .ok (.aload_n 0, 1) := by decide +kernel
theorem dX12_areApart_21 : decode cX12_areApart 21 = .ok (.getfield 61, 3) := by decide +kernel
theorem dX12_areApart_24 : decode cX12_areApart 24 = .ok (.aload_n 0, 1) := by decide +kernel
theorem dX12_areApart_25 : decode cX12_areApart 25 = .ok (.getfield 266, 3) := by decide +kernel
theorem dX12_areApart_28 : decode cX12_areApart 28 = .ok (.iaload, 1) := by decide +kernel
theorem dX12_areApart_29 : decode cX12_areApart 29 = .ok (.if_icmp .ge 96, 3) := by decide +kernel
theorem dX12_areApart_32 : decode cX12_areApart 32 = .ok (.iconst 0, 1) := by decide +kernel
theorem dX12_areApart_33 : decode cX12_areApart 33 = .ok (.istore 4, 2) := by decide +kernel
theorem dX12_areApart_35 : decode cX12_areApart 35 = .ok (.iconst 0, 1) := by decide +kernel
theorem dX12_areApart_36 : decode cX12_areApart 36 = .ok (.istore 5, 2) := by decide +kernel
theorem dX12_areApart_38 : decode cX12_areApart 38 = .ok (.iload 5, 2) := by decide +kernel
theorem dX12_areApart_40 : decode cX12_areApart 40 = .ok (.aload_n 0, 1) := by decide +kernel
theorem dX12_areApart_41 : decode cX12_areApart 41 = .ok (.getfield 95, 3) := by decide +kernel
theorem dX12_areApart_44 : decode cX12_areApart 44 = .ok (.aload_n 0, 1) := by decide +kernel
theorem dX12_areApart_45 : decode cX12_areApart 45 = .ok (.getfield 266, 3) := by decide +kernel
theorem dX12_areApart_48 : decode cX12_areApart 48 = .ok (.iaload, 1) := by decide +kernel
theorem dX12_areApart_49 : decode cX12_areApart 49 = .ok (.if_icmp .ge 63, 3) := by decide +kernel
theorem dX12_areApart_52 : decode cX12_areApart 52 = .ok (.iload_n 1, 1) := by decide +kernel
theorem dX12_areApart_53 : decode cX12_areApart 53 = .ok (.iload 5, 2) := by decide +kernel
theorem dX12_areApart_55 : decode cX12_areApart 55 = .ok (.ishr, 1) := by decide +kernel
theorem dX12_areApart_56 : decode cX12_areApart 56 = .ok (.iconst 1, 1) := by decide +kernel
theorem dX12_areApart_57 : decode cX12_areApart 57 = .ok (.iand, 1) := by decide +kernel
theorem dX12_areApart_58 : decode cX12_areApart 58 = .ok (.iconst 1, 1) := by decide +kernel
theorem dX12_areApart_59 : decode cX12_areApart 59 = .ok (.if_icmp .ne 47, 3) := by decide +kernel
theorem dX12_areApart_62 : decode cX12_areApart 62 = .ok (.aload_n 0, 1) := by decide +kernel
theorem dX12_areApart_63 : decode cX12_areApart 63 = .ok (.getfield 98, 3) := by decide +kernel
theorem dX12_areApart_66 : decode cX12_areApart 66 = .ok (.bipush 6, 2) := by decide +kernel
theorem dX12_areApart_68 : decode cX12_areApart 68 = .ok (.aload_n 0, 1) := by decide +kernel
theorem dX12_areApart_69 : decode cX12_areApart 69 = .ok (.getfield 266, 3) := by decide +kernel
theorem dX12_areApart_72 : decode cX12_areApart 72 = .ok (.imul, 1) := by decide +kernel
theorem dX12_areApart_73 : decode cX12_areApart 73 = .ok (.iload 5, 2) := by decide +kernel
theorem dX12_areApart_75 : decode cX12_areApart 75 = .ok (.iadd, 1) := by decide +kernel
theorem dX12_areApart_76 : decode cX12_areApart 76 = .ok (.iaload, 1) := by decide +kernel
theorem dX12_areApart_77 : decode cX12_areApart 77 = .ok (.iload_n 2, 1) := by decide +kernel
theorem dX12_areApart_78 : decode cX12_areApart 78 = .ok (.ishr, 1) := by decide +kernel
theorem dX12_areApart_79 : decode cX12_areApart 79 = .ok (.iconst 1, 1) := by decide +kernel
theorem dX12_areApart_80 : decode cX12_areApart 80 = .ok (.iand, 1) := by decide +kernel
theorem dX12_areApart_81 : decode cX12_areApart 81 = .ok (.aload_n 0, 1) := by decide +kernel
theorem dX12_areApart_82 : decode cX12_areApart 82 = .ok (.getfield 98, 3) := by decide +kernel
theorem dX12_areApart_85 : decode cX12_areApart 85 = .ok (.bipush 6, 2) := by decide +kernel
theorem dX12_areApart_87 : decode cX12_areApart 87 = .ok (.aload_n 0, 1) := by decide +kernel
theorem dX12_areApart_88 : decode cX12_areApart 88 = .ok (.getfield 266, 3) := by decide +kernel
theorem dX12_areApart_91 : decode cX12_areApart 91 = .ok (.imul, 1) := by decide +kernel
theorem dX12_areApart_92 : decode cX12_areApart 92 = .ok (.iload 5, 2) := by decide +kernel
theorem dX12_areApart_94 : decode cX12_areApart 94 = .ok (.iadd, 1) := by decide +kernel
theorem dX12_areApart_95 : decode cX12_areApart 95 = .ok (.iaload, 1) := by decide +kernel
theorem dX12_areApart_96 : decode cX12_areApart 96 = .ok (.iload_n 3, 1) := by decide +kernel
theorem dX12_areApart_97 : decode cX12_areApart 97 = .ok (.ishr, 1) := by decide +kernel
theorem dX12_areApart_98 : decode cX12_areApart 98 = .ok (.iconst 1, 1) := by decide +kernel
theorem dX12_areApart_99 : decode cX12_areApart 99 = .ok (.iand, 1) := by decide +kernel
theorem dX12_areApart_100 : decode cX12_areApart 100 = .ok (.if_icmp .eq 6, 3) := by decide +kernel
theorem dX12_areApart_103 : decode cX12_areApart 103 = .ok (.iconst 1, 1) := by decide +kernel
theorem dX12_areApart_104 : decode cX12_areApart 104 = .ok (.istore 4, 2) := by decide +kernel
theorem dX12_areApart_106 : decode cX12_areApart 106 = .ok (.iinc 5 1, 3) := by decide +kernel
theorem dX12_areApart_109 : decode cX12_areApart 109 = .ok (.goto (-71), 3) := by decide +kernel
theorem dX12_areApart_112 : decode cX12_areApart 112 = .ok (.iload 4, 2) := by decide +kernel
theorem dX12_areApart_114 : decode cX12_areApart 114 = .ok (.ifCond .ne 5, 3) := by decide +kernel
theorem dX12_areApart_117 : decode cX12_areApart 117 = .ok (.iconst 0, 1) := by decide +kernel
theorem dX12_areApart_118 : decode cX12_areApart 118 = .ok (.ireturn, 1) := by decide +kernel
theorem dX12_areApart_119 : decode cX12_areApart 119 = .ok (.iinc 3 1, 3) := by decide +kernel
theorem dX12_areApart_122 : decode cX12_areApart 122 = .ok (.goto (-103), 3) := by decide +kernel
theorem dX12_areApart_125 : decode cX12_areApart 125 = .ok (.iinc 2 1, 3) := by decide +kernel
theorem dX12_areApart_128 : decode cX12_areApart 128 = .ok (.goto (-126), 3) := by decide +kernel
theorem dX12_areApart_131 : decode cX12_areApart 131 = .ok (.iconst 1, 1) := by decide +kernel
theorem dX12_areApart_132 : decode cX12_areApart 132 = .ok (.ireturn, 1) := by decide +kernel
def c_X12_areApart_L38b {ρ : Type}  (z1 : Int32) (z2 : Int32) (z3 : Int32) (h : PH) (K1 : Int32 → Option ρ) (REC : Int32 → Int32 → Option ρ) (x4 : Int32) (x5 : Int32) : Option ρ :=
  gd (ixOK (h.1 0 18) 2) <|
  if (h.1 26 (h.1 0 18).toNatClampNeg) ≤ x5 then
    K1 x4
  else
    if ((z1 >>> (x5 &&& 31)) &&& 1) = 1 then
      gd (ixOK ((6 * (h.1 0 18)) + x5) 12) <|
      gd (ixOK ((6 * (h.1 0 18)) + x5) 12) <|
      if (((h.1 27 ((6 * (h.1 0 18)) + x5).toNatClampNeg) >>> (z2 &&& 31)) &&& 1) = (((h.1 27 ((6 * (h.1 0 18)) + x5).toNatClampNeg) >>> (z3 &&& 31)) &&& 1) then
        nm (x5 + 1) fun v6 =>
        REC x4 v6
      else
        nm (1 : Int32) fun v7 =>
        nm (x5 + 1) fun v8 =>
        REC v7 v8
    else
      nm (x5 + 1) fun v5 =>
      REC x4 v5
set_option maxHeartbeats 4000000 in
set_option maxRecDepth 100000 in
theorem w_X12_areApart_L38b {p0 : Program} {l : Launch} {e : Env} {s : State} {m : MethodId} {args : Array Value} {below : List Frame} {meth : Method} {c : Code} {Q : State → Prop} {D : va_G} {G : GG} {A : Nat → Prop} {H0 : Heap} {ad : Nat → Nat} {lay : List KK} {X : va_W} {ρ : Type} {r0 : ρ} {z1 : Int32} {z2 : Int32} {z3 : Int32} {x4 : Int32} {x5 : Int32} {h : PH} {H : Heap} {locs : List Loc} {ls : Array Slot} {K1 : Int32 → Option ρ} {REC : Int32 → Int32 → Option ρ} (hM : CallFix p0 m c cX12_areApart 6 s args lw_g RX12) (ho : okX12 lay) (hk1 : ∀ (x4 : Int32), ∀ (H : Heap) (locs : List Loc) (ls : Array Slot), K1 x4 = some r0 → Wd D G A H0 ad lay X h s H locs → lv_has ls 6 [(0, .ref (ad 0)), (1, .int z1), (2, .int z2), (3, .int z3), (4, .int x4)] → W p0 l e (rmN 0 0) s m args below meth c H locs 0 0 Q (F0 m 112 ls [])) (hrec : ∀ (x4 : Int32) (x5 : Int32), ∀ (H : Heap) (locs : List Loc) (ls : Array Slot), REC x4 x5 = some r0 → Wd D G A H0 ad lay X h s H locs → lv_has ls 6 [(0, .ref (ad 0)), (1, .int z1), (2, .int z2), (3, .int z3), (4, .int x4), (5, .int x5)] → W p0 l e (rmN 0 0) s m args below meth c H locs 0 0 Q (F0 m 38 ls [])) (hw : Wd D G A H0 ad lay X h s H locs) (hl : lv_has ls 6 [(0, .ref (ad 0)), (1, .int z1), (2, .int z2), (3, .int z3), (4, .int x4), (5, .int x5)]) (hf : c_X12_areApart_L38b z1 z2 z3 h K1 REC x4 x5 = some r0) : W p0 l e (rmN 0 0) s m args below meth c H locs 0 0 Q (F0 m 38 ls []) := by
  unfold c_X12_areApart_L38b at hf
  refine lv_iload hM.1 hM.2.1 dX12_areApart_38 (lv_at hl 5 rfl) ?_
  refine lv_aload_n hM.1 hM.2.1 dX12_areApart_40 rfl (lv_at hl 0 rfl) ?_
  refine gf_X12_tests hM hw (okX12.o ho) fl_X12_95 dX12_areApart_41 ?_
  refine lv_aload_n hM.1 hM.2.1 dX12_areApart_44 rfl (lv_at hl 0 rfl) ?_
  refine gf_X12_live hM hw (okX12.o ho) fl_X12_266 dX12_areApart_45 ?_
  refine x_iald hM hw (okX12.tests ho) hf dX12_areApart_48 (fun hf => ?_)
  refine x_ic_ge (tgt := 112) hM hf dX12_areApart_49 (by decide) (fun hf => ?_) (fun hf => ?_)
  · exact hk1 _ _ _ _ hf hw (lv_sub hl [0, 1, 2, 3, 4] rfl)
  refine lv_iload_n hM.1 hM.2.1 dX12_areApart_52 rfl (lv_at hl 1 rfl) ?_
  refine lv_iload hM.1 hM.2.1 dX12_areApart_53 (lv_at hl 5 rfl) ?_
  refine lv_ishr hM.1 hM.2.1 dX12_areApart_55 ?_
  refine lv_iconst (v := 1) hM.1 hM.2.1 dX12_areApart_56 ic_1 ?_
  refine lv_iand hM.1 hM.2.1 dX12_areApart_57 ?_
  refine lv_iconst (v := 1) hM.1 hM.2.1 dX12_areApart_58 ic_1 ?_
  refine x_ic_ne (tgt := 106) hM hf dX12_areApart_59 (by decide) (fun hf => ?_) (fun hf => ?_)
  · refine x_iinc (k := 5) (d := 1) hM hf dX12_areApart_106 hl rfl (by decide) (by decide) (fun v5 => [(5, .int v5), (0, .ref (ad 0)), (1, .int z1), (2, .int z2), (3, .int z3), (4, .int x4)]) (fun _ => rfl) (fun v5 ls hf hl => ?_)
    refine lv_goto (tgt := 38) hM.1 hM.2.1 dX12_areApart_109 (by decide) ?_
    exact hrec _ _ _ _ _ hf hw (lv_sub hl [1, 2, 3, 4, 5, 0] rfl)
  refine lv_aload_n hM.1 hM.2.1 dX12_areApart_62 rfl (lv_at hl 0 rfl) ?_
  refine gf_X12_ringsOf hM hw (okX12.o ho) fl_X12_98 dX12_areApart_63 ?_
  refine lv_bipush (v := 6) hM.1 hM.2.1 dX12_areApart_66 (by decide) ?_
  refine lv_aload_n hM.1 hM.2.1 dX12_areApart_68 rfl (lv_at hl 0 rfl) ?_
  refine gf_X12_live hM hw (okX12.o ho) fl_X12_266 dX12_areApart_69 ?_
  refine lv_imul hM.1 hM.2.1 dX12_areApart_72 ?_
  refine lv_iload hM.1 hM.2.1 dX12_areApart_73 (lv_at hl 5 rfl) ?_
  refine lv_iadd hM.1 hM.2.1 dX12_areApart_75 ?_
  refine x_iald hM hw (okX12.ringsOf ho) hf dX12_areApart_76 (fun hf => ?_)
  refine lv_iload_n hM.1 hM.2.1 dX12_areApart_77 rfl (lv_at hl 2 rfl) ?_
  refine lv_ishr hM.1 hM.2.1 dX12_areApart_78 ?_
  refine lv_iconst (v := 1) hM.1 hM.2.1 dX12_areApart_79 ic_1 ?_
  refine lv_iand hM.1 hM.2.1 dX12_areApart_80 ?_
  refine lv_aload_n hM.1 hM.2.1 dX12_areApart_81 rfl (lv_at hl 0 rfl) ?_
  refine gf_X12_ringsOf hM hw (okX12.o ho) fl_X12_98 dX12_areApart_82 ?_
  refine lv_bipush (v := 6) hM.1 hM.2.1 dX12_areApart_85 (by decide) ?_
  refine lv_aload_n hM.1 hM.2.1 dX12_areApart_87 rfl (lv_at hl 0 rfl) ?_
  refine gf_X12_live hM hw (okX12.o ho) fl_X12_266 dX12_areApart_88 ?_
  refine lv_imul hM.1 hM.2.1 dX12_areApart_91 ?_
  refine lv_iload hM.1 hM.2.1 dX12_areApart_92 (lv_at hl 5 rfl) ?_
  refine lv_iadd hM.1 hM.2.1 dX12_areApart_94 ?_
  refine x_iald hM hw (okX12.ringsOf ho) hf dX12_areApart_95 (fun hf => ?_)
  refine lv_iload_n hM.1 hM.2.1 dX12_areApart_96 rfl (lv_at hl 3 rfl) ?_
  refine lv_ishr hM.1 hM.2.1 dX12_areApart_97 ?_
  refine lv_iconst (v := 1) hM.1 hM.2.1 dX12_areApart_98 ic_1 ?_
  refine lv_iand hM.1 hM.2.1 dX12_areApart_99 ?_
  refine x_ic_eq (tgt := 106) hM hf dX12_areApart_100 (by decide) (fun hf => ?_) (fun hf => ?_)
  · refine x_iinc (k := 5) (d := 1) hM hf dX12_areApart_106 hl rfl (by decide) (by decide) (fun v6 => [(5, .int v6), (0, .ref (ad 0)), (1, .int z1), (2, .int z2), (3, .int z3), (4, .int x4)]) (fun _ => rfl) (fun v6 ls hf hl => ?_)
    refine lv_goto (tgt := 38) hM.1 hM.2.1 dX12_areApart_109 (by decide) ?_
    exact hrec _ _ _ _ _ hf hw (lv_sub hl [1, 2, 3, 4, 5, 0] rfl)
  refine lv_iconst (v := 1) hM.1 hM.2.1 dX12_areApart_103 ic_1 ?_
  refine x_istore hM hf dX12_areApart_104 hl (by decide) (fun v7 => [(4, .int v7), (0, .ref (ad 0)), (1, .int z1), (2, .int z2), (3, .int z3), (5, .int x5)]) (fun _ => rfl) (fun v7 ls hf hl => ?_)
  refine x_iinc (k := 5) (d := 1) hM hf dX12_areApart_106 hl rfl (by decide) (by decide) (fun v8 => [(5, .int v8), (4, .int v7), (0, .ref (ad 0)), (1, .int z1), (2, .int z2), (3, .int z3)]) (fun _ => rfl) (fun v8 ls hf hl => ?_)
  refine lv_goto (tgt := 38) hM.1 hM.2.1 dX12_areApart_109 (by decide) ?_
  exact hrec _ _ _ _ _ hf hw (lv_sub hl [2, 3, 4, 5, 1, 0] rfl)
set_option maxHeartbeats 4000000 in
set_option maxRecDepth 100000 in
theorem w_X12_areApart_L38 {p0 : Program} {l : Launch} {e : Env} {s : State} {m : MethodId} {args : Array Value} {below : List Frame} {meth : Method} {c : Code} {Q : State → Prop} {D : va_G} {G : GG} {A : Nat → Prop} {H0 : Heap} {ad : Nat → Nat} {lay : List KK} {X : va_W} {ρ : Type} {r0 : ρ} {z1 : Int32} {z2 : Int32} {z3 : Int32} {h : PH} {K1 : Int32 → Option ρ} (hM : CallFix p0 m c cX12_areApart 6 s args lw_g RX12) (ho : okX12 lay) (hk1 : ∀ (x4 : Int32), ∀ (H : Heap) (locs : List Loc) (ls : Array Slot), K1 x4 = some r0 → Wd D G A H0 ad lay X h s H locs → lv_has ls 6 [(0, .ref (ad 0)), (1, .int z1), (2, .int z2), (3, .int z3), (4, .int x4)] → W p0 l e (rmN 0 0) s m args below meth c H locs 0 0 Q (F0 m 112 ls [])) (n : Nat) (x4 : Int32) (x5 : Int32) (hf : lq2 (c_X12_areApart_L38b z1 z2 z3 h K1) n x4 x5 = some r0) : ∀ (H : Heap) (locs : List Loc) (ls : Array Slot), Wd D G A H0 ad lay X h s H locs → lv_has ls 6 [(0, .ref (ad 0)), (1, .int z1), (2, .int z2), (3, .int z3), (4, .int x4), (5, .int x5)] → W p0 l e (rmN 0 0) s m args below meth c H locs 0 0 Q (F0 m 38 ls []) := by
  exact lq2_i (fun (x4 : Int32) (x5 : Int32) => ∀ (H : Heap) (locs : List Loc) (ls : Array Slot), Wd D G A H0 ad lay X h s H locs → lv_has ls 6 [(0, .ref (ad 0)), (1, .int z1), (2, .int z2), (3, .int z3), (4, .int x4), (5, .int x5)] → W p0 l e (rmN 0 0) s m args below meth c H locs 0 0 Q (F0 m 38 ls [])) (fun REC x4 x5 ih hf H locs ls hw hl => w_X12_areApart_L38b hM ho hk1 (fun x4 x5 H locs ls hf hw hl => ih x4 x5 hf H locs ls hw hl) hw hl hf) n x4 x5 hf
def c_X12_areApart_L19b {ρ : Type}  (z1 : Int32) (z2 : Int32) (h : PH) (K1 : Option ρ) (K2 : Option ρ) (REC : Int32 → Option ρ) (x3 : Int32) : Option ρ :=
  gd (ixOK (h.1 0 18) 2) <|
  if (h.1 15 (h.1 0 18).toNatClampNeg) ≤ x3 then
    K2
  else
    nm (0 : Int32) fun v3 =>
    nm (0 : Int32) fun v4 =>
    lq2 (c_X12_areApart_L38b z1 z2 x3 h
      (fun w9 =>
        if w9 = 0 then
          K1
        else
          nm (x3 + 1) fun v10 =>
          REC v10)) fu v3 v4
set_option maxHeartbeats 4000000 in
set_option maxRecDepth 100000 in
theorem w_X12_areApart_L19b {p0 : Program} {l : Launch} {e : Env} {s : State} {m : MethodId} {args : Array Value} {below : List Frame} {meth : Method} {c : Code} {Q : State → Prop} {D : va_G} {G : GG} {A : Nat → Prop} {H0 : Heap} {ad : Nat → Nat} {lay : List KK} {X : va_W} {ρ : Type} {r0 : ρ} {z1 : Int32} {z2 : Int32} {x3 : Int32} {h : PH} {H : Heap} {locs : List Loc} {ls : Array Slot} {K1 : Option ρ} {K2 : Option ρ} {REC : Int32 → Option ρ} (hM : CallFix p0 m c cX12_areApart 6 s args lw_g RX12) (ho : okX12 lay) (hk1 : ∀ (H : Heap) (locs : List Loc) (ls : Array Slot), K1 = some r0 → Wd D G A H0 ad lay X h s H locs → lv_has ls 6 [] → W p0 l e (rmN 0 0) s m args below meth c H locs 0 0 Q (F0 m 117 ls [])) (hk2 : ∀ (H : Heap) (locs : List Loc) (ls : Array Slot), K2 = some r0 → Wd D G A H0 ad lay X h s H locs → lv_has ls 6 [(0, .ref (ad 0)), (1, .int z1), (2, .int z2)] → W p0 l e (rmN 0 0) s m args below meth c H locs 0 0 Q (F0 m 125 ls [])) (hrec : ∀ (x3 : Int32), ∀ (H : Heap) (locs : List Loc) (ls : Array Slot), REC x3 = some r0 → Wd D G A H0 ad lay X h s H locs → lv_has ls 6 [(0, .ref (ad 0)), (1, .int z1), (2, .int z2), (3, .int x3)] → W p0 l e (rmN 0 0) s m args below meth c H locs 0 0 Q (F0 m 19 ls [])) (hw : Wd D G A H0 ad lay X h s H locs) (hl : lv_has ls 6 [(0, .ref (ad 0)), (1, .int z1), (2, .int z2), (3, .int x3)]) (hf : c_X12_areApart_L19b z1 z2 h K1 K2 REC x3 = some r0) : W p0 l e (rmN 0 0) s m args below meth c H locs 0 0 Q (F0 m 19 ls []) := by
  unfold c_X12_areApart_L19b at hf
  refine lv_iload_n hM.1 hM.2.1 dX12_areApart_19 rfl (lv_at hl 3 rfl) ?_
  refine lv_aload_n hM.1 hM.2.1 dX12_areApart_20 rfl (lv_at hl 0 rfl) ?_
  refine gf_X12_excuses hM hw (okX12.o ho) fl_X12_61 dX12_areApart_21 ?_
  refine lv_aload_n hM.1 hM.2.1 dX12_areApart_24 rfl (lv_at hl 0 rfl) ?_
  refine gf_X12_live hM hw (okX12.o ho) fl_X12_266 dX12_areApart_25 ?_
  refine x_iald hM hw (okX12.excuses ho) hf dX12_areApart_28 (fun hf => ?_)
  refine x_ic_ge (tgt := 125) hM hf dX12_areApart_29 (by decide) (fun hf => ?_) (fun hf => ?_)
  · exact hk2 _ _ _ hf hw (lv_sub hl [0, 1, 2] rfl)
  refine lv_iconst (v := 0) hM.1 hM.2.1 dX12_areApart_32 ic_0 ?_
  refine x_istore hM hf dX12_areApart_33 hl (by decide) (fun v3 => [(4, .int v3), (0, .ref (ad 0)), (1, .int z1), (2, .int z2), (3, .int x3)]) (fun _ => rfl) (fun v3 ls hf hl => ?_)
  refine lv_iconst (v := 0) hM.1 hM.2.1 dX12_areApart_35 ic_0 ?_
  refine x_istore hM hf dX12_areApart_36 hl (by decide) (fun v4 => [(5, .int v4), (4, .int v3), (0, .ref (ad 0)), (1, .int z1), (2, .int z2), (3, .int x3)]) (fun _ => rfl) (fun v4 ls hf hl => ?_)
  refine w_X12_areApart_L38 hM ho (fun w9 H locs ls hf hw hl => ?_) fu _ _ hf _ _ _ hw (lv_sub hl [2, 3, 4, 5, 1, 0] rfl)
  refine lv_iload hM.1 hM.2.1 dX12_areApart_112 (lv_at hl 4 rfl) ?_
  refine x_if_ne (tgt := 119) hM hf dX12_areApart_114 (by decide) (fun hf => ?_) (fun hf => ?_)
  · refine x_iinc (k := 3) (d := 1) hM hf dX12_areApart_119 hl rfl (by decide) (by decide) (fun v10 => [(3, .int v10), (0, .ref (ad 0)), (1, .int z1), (2, .int z2), (4, .int w9)]) (fun _ => rfl) (fun v10 ls hf hl => ?_)
    refine lv_goto (tgt := 19) hM.1 hM.2.1 dX12_areApart_122 (by decide) ?_
    exact hrec _ _ _ _ hf hw (lv_sub hl [1, 2, 3, 0] rfl)
  exact hk1 _ _ _ hf hw (lv_sub hl [] rfl)
set_option maxHeartbeats 4000000 in
set_option maxRecDepth 100000 in
theorem w_X12_areApart_L19 {p0 : Program} {l : Launch} {e : Env} {s : State} {m : MethodId} {args : Array Value} {below : List Frame} {meth : Method} {c : Code} {Q : State → Prop} {D : va_G} {G : GG} {A : Nat → Prop} {H0 : Heap} {ad : Nat → Nat} {lay : List KK} {X : va_W} {ρ : Type} {r0 : ρ} {z1 : Int32} {z2 : Int32} {h : PH} {K1 : Option ρ} {K2 : Option ρ} (hM : CallFix p0 m c cX12_areApart 6 s args lw_g RX12) (ho : okX12 lay) (hk1 : ∀ (H : Heap) (locs : List Loc) (ls : Array Slot), K1 = some r0 → Wd D G A H0 ad lay X h s H locs → lv_has ls 6 [] → W p0 l e (rmN 0 0) s m args below meth c H locs 0 0 Q (F0 m 117 ls [])) (hk2 : ∀ (H : Heap) (locs : List Loc) (ls : Array Slot), K2 = some r0 → Wd D G A H0 ad lay X h s H locs → lv_has ls 6 [(0, .ref (ad 0)), (1, .int z1), (2, .int z2)] → W p0 l e (rmN 0 0) s m args below meth c H locs 0 0 Q (F0 m 125 ls [])) (n : Nat) (x3 : Int32) (hf : lq1 (c_X12_areApart_L19b z1 z2 h K1 K2) n x3 = some r0) : ∀ (H : Heap) (locs : List Loc) (ls : Array Slot), Wd D G A H0 ad lay X h s H locs → lv_has ls 6 [(0, .ref (ad 0)), (1, .int z1), (2, .int z2), (3, .int x3)] → W p0 l e (rmN 0 0) s m args below meth c H locs 0 0 Q (F0 m 19 ls []) := by
  exact lq1_i (fun (x3 : Int32) => ∀ (H : Heap) (locs : List Loc) (ls : Array Slot), Wd D G A H0 ad lay X h s H locs → lv_has ls 6 [(0, .ref (ad 0)), (1, .int z1), (2, .int z2), (3, .int x3)] → W p0 l e (rmN 0 0) s m args below meth c H locs 0 0 Q (F0 m 19 ls [])) (fun REC x3 ih hf H locs ls hw hl => w_X12_areApart_L19b hM ho hk1 hk2 (fun x3 H locs ls hf hw hl => ih x3 hf H locs ls hw hl) hw hl hf) n x3 hf
def c_X12_areApart_L2b {ρ : Type}  (z1 : Int32) (h : PH) (K1 : Option ρ) (K2 : Option ρ) (REC : Int32 → Option ρ) (x2 : Int32) : Option ρ :=
  gd (ixOK (h.1 0 18) 2) <|
  if (h.1 15 (h.1 0 18).toNatClampNeg) ≤ x2 then
    K2
  else
    nm (x2 + 1) fun v2 =>
    lq1 (c_X12_areApart_L19b z1 x2 h
      (K1)
      (nm (x2 + 1) fun v11 =>
      REC v11)) fu v2
set_option maxHeartbeats 4000000 in
set_option maxRecDepth 100000 in
theorem w_X12_areApart_L2b {p0 : Program} {l : Launch} {e : Env} {s : State} {m : MethodId} {args : Array Value} {below : List Frame} {meth : Method} {c : Code} {Q : State → Prop} {D : va_G} {G : GG} {A : Nat → Prop} {H0 : Heap} {ad : Nat → Nat} {lay : List KK} {X : va_W} {ρ : Type} {r0 : ρ} {z1 : Int32} {x2 : Int32} {h : PH} {H : Heap} {locs : List Loc} {ls : Array Slot} {K1 : Option ρ} {K2 : Option ρ} {REC : Int32 → Option ρ} (hM : CallFix p0 m c cX12_areApart 6 s args lw_g RX12) (ho : okX12 lay) (hk1 : ∀ (H : Heap) (locs : List Loc) (ls : Array Slot), K1 = some r0 → Wd D G A H0 ad lay X h s H locs → lv_has ls 6 [] → W p0 l e (rmN 0 0) s m args below meth c H locs 0 0 Q (F0 m 117 ls [])) (hk2 : ∀ (H : Heap) (locs : List Loc) (ls : Array Slot), K2 = some r0 → Wd D G A H0 ad lay X h s H locs → lv_has ls 6 [] → W p0 l e (rmN 0 0) s m args below meth c H locs 0 0 Q (F0 m 131 ls [])) (hrec : ∀ (x2 : Int32), ∀ (H : Heap) (locs : List Loc) (ls : Array Slot), REC x2 = some r0 → Wd D G A H0 ad lay X h s H locs → lv_has ls 6 [(0, .ref (ad 0)), (1, .int z1), (2, .int x2)] → W p0 l e (rmN 0 0) s m args below meth c H locs 0 0 Q (F0 m 2 ls [])) (hw : Wd D G A H0 ad lay X h s H locs) (hl : lv_has ls 6 [(0, .ref (ad 0)), (1, .int z1), (2, .int x2)]) (hf : c_X12_areApart_L2b z1 h K1 K2 REC x2 = some r0) : W p0 l e (rmN 0 0) s m args below meth c H locs 0 0 Q (F0 m 2 ls []) := by
  unfold c_X12_areApart_L2b at hf
  refine lv_iload_n hM.1 hM.2.1 dX12_areApart_2 rfl (lv_at hl 2 rfl) ?_
  refine lv_aload_n hM.1 hM.2.1 dX12_areApart_3 rfl (lv_at hl 0 rfl) ?_
  refine gf_X12_excuses hM hw (okX12.o ho) fl_X12_61 dX12_areApart_4 ?_
  refine lv_aload_n hM.1 hM.2.1 dX12_areApart_7 rfl (lv_at hl 0 rfl) ?_
  refine gf_X12_live hM hw (okX12.o ho) fl_X12_266 dX12_areApart_8 ?_
  refine x_iald hM hw (okX12.excuses ho) hf dX12_areApart_11 (fun hf => ?_)
  refine x_ic_ge (tgt := 131) hM hf dX12_areApart_12 (by decide) (fun hf => ?_) (fun hf => ?_)
  · exact hk2 _ _ _ hf hw (lv_sub hl [] rfl)
  refine lv_iload_n hM.1 hM.2.1 dX12_areApart_15 rfl (lv_at hl 2 rfl) ?_
  refine lv_iconst (v := 1) hM.1 hM.2.1 dX12_areApart_16 ic_1 ?_
  refine lv_iadd hM.1 hM.2.1 dX12_areApart_17 ?_
  refine x_istore_n hM hf dX12_areApart_18 rfl hl (by decide) (fun v2 => [(3, .int v2), (0, .ref (ad 0)), (1, .int z1), (2, .int x2)]) (fun _ => rfl) (fun v2 ls hf hl => ?_)
  refine w_X12_areApart_L19 hM ho (fun H locs ls hf hw hl => ?_) (fun H locs ls hf hw hl => ?_) fu _ hf _ _ _ hw (lv_sub hl [1, 2, 3, 0] rfl)
  · exact hk1 _ _ _ hf hw hl
  · refine x_iinc (k := 2) (d := 1) hM hf dX12_areApart_125 hl rfl (by decide) (by decide) (fun v11 => [(2, .int v11), (0, .ref (ad 0)), (1, .int z1)]) (fun _ => rfl) (fun v11 ls hf hl => ?_)
    refine lv_goto (tgt := 2) hM.1 hM.2.1 dX12_areApart_128 (by decide) ?_
    exact hrec _ _ _ _ hf hw (lv_sub hl [1, 2, 0] rfl)
set_option maxHeartbeats 4000000 in
set_option maxRecDepth 100000 in
theorem w_X12_areApart_L2 {p0 : Program} {l : Launch} {e : Env} {s : State} {m : MethodId} {args : Array Value} {below : List Frame} {meth : Method} {c : Code} {Q : State → Prop} {D : va_G} {G : GG} {A : Nat → Prop} {H0 : Heap} {ad : Nat → Nat} {lay : List KK} {X : va_W} {ρ : Type} {r0 : ρ} {z1 : Int32} {h : PH} {K1 : Option ρ} {K2 : Option ρ} (hM : CallFix p0 m c cX12_areApart 6 s args lw_g RX12) (ho : okX12 lay) (hk1 : ∀ (H : Heap) (locs : List Loc) (ls : Array Slot), K1 = some r0 → Wd D G A H0 ad lay X h s H locs → lv_has ls 6 [] → W p0 l e (rmN 0 0) s m args below meth c H locs 0 0 Q (F0 m 117 ls [])) (hk2 : ∀ (H : Heap) (locs : List Loc) (ls : Array Slot), K2 = some r0 → Wd D G A H0 ad lay X h s H locs → lv_has ls 6 [] → W p0 l e (rmN 0 0) s m args below meth c H locs 0 0 Q (F0 m 131 ls [])) (n : Nat) (x2 : Int32) (hf : lq1 (c_X12_areApart_L2b z1 h K1 K2) n x2 = some r0) : ∀ (H : Heap) (locs : List Loc) (ls : Array Slot), Wd D G A H0 ad lay X h s H locs → lv_has ls 6 [(0, .ref (ad 0)), (1, .int z1), (2, .int x2)] → W p0 l e (rmN 0 0) s m args below meth c H locs 0 0 Q (F0 m 2 ls []) := by
  exact lq1_i (fun (x2 : Int32) => ∀ (H : Heap) (locs : List Loc) (ls : Array Slot), Wd D G A H0 ad lay X h s H locs → lv_has ls 6 [(0, .ref (ad 0)), (1, .int z1), (2, .int x2)] → W p0 l e (rmN 0 0) s m args below meth c H locs 0 0 Q (F0 m 2 ls [])) (fun REC x2 ih hf H locs ls hw hl => w_X12_areApart_L2b hM ho hk1 hk2 (fun x2 H locs ls hf hw hl => ih x2 hf H locs ls hw hl) hw hl hf) n x2 hf
def c_X12_areApart (a1 : Int32) (h : PH) : Option (Int32) :=
  nm (0 : Int32) fun v1 =>
  lq1 (c_X12_areApart_L2b a1 h
    (some 0)
    (some 1)) fu v1
set_option maxHeartbeats 4000000 in
set_option maxRecDepth 100000 in
theorem ct_X12_areApart (l : Launch) {lay : List KK} (ho : okX12 lay) (a1 : Int32) : CtI l yX12_areApart cX12_areApart 6 (some .boolean) 0 0 lay (rd (fun h => c_X12_areApart a1 h)) (fun ad => [.ref (ad 0), .int a1]) := by
  refine CtI.mk' RX12 (by decide) rfl (fun _ => Nat.le_of_ble_eq_true rfl) ?_
  intro p0 e s m args below meth c D G A H0 ad X h r0 H ls Q hM hw hl hf hR
  have hl : lv_has ls 6 [(0, .ref (ad 0)), (1, .int a1)] := hl
  obtain ⟨v0, hv0, hr0⟩ : ∃ v0, c_X12_areApart a1 h = some v0 ∧ r0 = (v0, h) := rd_some hf
  subst hr0
  have hf := hv0
  unfold c_X12_areApart at hf
  refine lv_iconst (v := 0) hM.1 hM.2.1 dX12_areApart_0 ic_0 ?_
  refine x_istore_n hM hf dX12_areApart_1 rfl hl (by decide) (fun v1 => [(2, .int v1), (0, .ref (ad 0)), (1, .int a1)]) (fun _ => rfl) (fun v1 ls hf hl => ?_)
  refine w_X12_areApart_L2 hM ho (fun H locs ls hf hw hl => ?_) (fun H locs ls hf hw hl => ?_) fu _ hf _ _ _ hw (lv_sub hl [1, 2, 0] rfl)
  · refine lv_iconst (v := 0) hM.1 hM.2.1 dX12_areApart_117 ic_0 ?_
    exact hR _ _ _ _ _ _ _ (congrArg (fun z => (z, _)) (Option.some.inj hf)) rfl (nar_z (by decide)) hw dX12_areApart_118
  · refine lv_iconst (v := 1) hM.1 hM.2.1 dX12_areApart_131 ic_1 ?_
    exact hR _ _ _ _ _ _ _ (congrArg (fun z => (z, _)) (Option.some.inj hf)) rfl (nar_z (by decide)) hw dX12_areApart_132
theorem hd_X12_areApart : yX12_areApart.cls = RX12 ∧ yX12_areApart.cls ≠ "java/lang/invoke/MethodHandle" ∧ yX12_areApart.cls ≠ "java/lang/invoke/VarHandle" ∧ (parseMethodDescriptor yX12_areApart.desc).map (fun d => d.parameters.length) = some 1 := ⟨rfl, by decide, by decide, by decide +kernel⟩
theorem dX12_apart_0 : decode cX12_apart 0 = .ok (.iload_n 1, 1) := by decide +kernel
theorem dX12_apart_1 : decode cX12_apart 1 = .ok (.iconst 0, 1) := by decide +kernel
theorem dX12_apart_2 : decode cX12_apart 2 = .ok (.iconst 1, 1) := by decide +kernel
theorem dX12_apart_3 : decode cX12_apart 3 = .ok (.invokestatic 359, 3) := by decide +kernel
theorem dX12_apart_6 : decode cX12_apart 6 = .ok (.ifCond .ne 5, 3) := by decide +kernel
theorem dX12_apart_9 : decode cX12_apart 9 = .ok (.iconst (-1), 1) := by decide +kernel
theorem dX12_apart_10 : decode cX12_apart 10 = .ok (.ireturn, 1) := by decide +kernel
theorem dX12_apart_11 : decode cX12_apart 11 = .ok (.bipush (-2), 2) := by decide +kernel
theorem dX12_apart_13 : decode cX12_apart 13 = .ok (.istore_n 2, 1) := by decide +kernel
theorem dX12_apart_14 : decode cX12_apart 14 = .ok (.iconst 0, 1) := by decide +kernel
theorem dX12_apart_15 : decode cX12_apart 15 = .ok (.istore_n 3, 1) := by decide +kernel
theorem dX12_apart_16 : decode cX12_apart 16 = .ok (.iload_n 3, 1) := by decide +kernel
theorem dX12_apart_17 : decode cX12_apart 17 = .ok (.iconst 1, 1) := by decide +kernel
theorem dX12_apart_18 : decode cX12_apart 18 = .ok (.aload_n 0, 1) := by decide +kernel
theorem dX12_apart_19 : decode cX12_apart 19 = .ok (.getfield 95, 3) := by decide +kernel
theorem dX12_apart_22 : decode cX12_apart 22 = .ok (.aload_n 0, 1) := by decide +kernel
theorem dX12_apart_23 : decode cX12_apart 23 = .ok (.getfield 266, 3) := by decide +kernel
theorem dX12_apart_26 : decode cX12_apart 26 = .ok (.iaload, 1) := by decide +kernel
theorem dX12_apart_27 : decode cX12_apart 27 = .ok (.ishl, 1) := by decide +kernel
theorem dX12_apart_28 : decode cX12_apart 28 = .ok (.if_icmp .ge 34, 3) := by decide +kernel
theorem dX12_apart_31 : decode cX12_apart 31 = .ok (.iload_n 2, 1) := by decide +kernel
theorem dX12_apart_32 : decode cX12_apart 32 = .ok (.ifCond .lt 14, 3) := by decide +kernel
theorem dX12_apart_35 : decode cX12_apart 35 = .ok (.iload_n 3, 1) := by decide +kernel
theorem dX12_apart_36 : decode cX12_apart 36 = .ok (.invokestatic 452, 3) := by decide +kernel
theorem dX12_apart_39 : decode cX12_apart 39 = .ok (.iload_n 2, 1) := by decide +kernel
theorem dX12_apart_40 : decode cX12_apart 40 = .ok (.invokestatic 452, 3) := by decide +kernel
theorem dX12_apart_43 : decode cX12_apart 43 = .ok (.if_icmp .ge 13, 3) := by decide +kernel
theorem dX12_apart_46 : decode cX12_apart 46 = .ok (.aload_n 0, 1) := by decide +kernel
theorem dX12_apart_47 : decode cX12_apart 47 = .ok (.iload_n 3, 1) := by decide +kernel
theorem dX12_apart_48 : decode cX12_apart 48 = .ok (.invokevirtual 486, 3) := by decide +kernel
theorem dX12_apart_51 : decode cX12_apart 51 = .ok (.ifCond .eq 5, 3) := by decide +kernel
theorem dX12_apart_54 : decode cX12_apart 54 = .ok (.iload_n 3, 1) := by decide +kernel
theorem dX12_apart_55 : decode cX12_apart 55 = .ok (.istore_n 2, 1) := by decide +kernel
theorem dX12_apart_56 : decode cX12_apart 56 = .ok (.iinc 3 1, 3) := by decide +kernel
theorem dX12_apart_59 : decode cX12_apart 59 = .ok (.goto (-43), 3) := by decide +kernel
theorem dX12_apart_62 : decode cX12_apart 62 = .ok (.iload_n 2, 1) := by decide +kernel
theorem dX12_apart_63 : decode cX12_apart 63 = .ok (.ifCond .lt 8, 3) := by decide +kernel
theorem dX12_apart_66 : decode cX12_apart 66 = .ok (.iload_n 1, 1) := by decide +kernel
theorem dX12_apart_67 : decode cX12_apart 67 = .ok (.iconst 1, 1) := by decide +kernel
theorem dX12_apart_68 : decode cX12_apart 68 = .ok (.if_icmp .ne 7, 3) := by decide +kernel
theorem dX12_apart_71 : decode cX12_apart 71 = .ok (.iload_n 2, 1) := by decide +kernel
theorem dX12_apart_72 : decode cX12_apart 72 = .ok (.goto 7, 3) := by decide +kernel
theorem dX12_apart_75 : decode cX12_apart 75 = .ok (.iload_n 2, 1) := by decide +kernel
theorem dX12_apart_76 : decode cX12_apart 76 = .ok (.invokestatic 452, 3) := by decide +kernel
theorem dX12_apart_79 : decode cX12_apart 79 = .ok (.ireturn, 1) := by decide +kernel
def c_X12_apart_L16b {ρ : Type}  (z1 : Int32) (h : PH) (K1 : Int32 → Option ρ) (REC : Int32 → Int32 → Option ρ) (x2 : Int32) (x3 : Int32) : Option ρ :=
  gd (ixOK (h.1 0 18) 2) <|
  if ((1 : Int32) <<< ((h.1 26 (h.1 0 18).toNatClampNeg) &&& 31)) ≤ x3 then
    K1 x2
  else
    if x2 < 0 then
      (c_X12_areApart x3 h).bind fun r4 =>
      if r4 = 0 then
        nm (x3 + 1) fun v5 =>
        REC x2 v5
      else
        nm x3 fun v6 =>
        nm (x3 + 1) fun v7 =>
        REC v6 v7
    else
      (c_X12_bits x3).bind fun r8 =>
      (c_X12_bits x2).bind fun r9 =>
      if r9 ≤ r8 then
        nm (x3 + 1) fun v10 =>
        REC x2 v10
      else
        (c_X12_areApart x3 h).bind fun r11 =>
        if r11 = 0 then
          nm (x3 + 1) fun v12 =>
          REC x2 v12
        else
          nm x3 fun v13 =>
          nm (x3 + 1) fun v14 =>
          REC v13 v14
set_option maxHeartbeats 4000000 in
set_option maxRecDepth 100000 in
theorem w_X12_apart_L16b {p0 : Program} {l : Launch} {e : Env} {s : State} {m : MethodId} {args : Array Value} {below : List Frame} {meth : Method} {c : Code} {Q : State → Prop} {D : va_G} {G : GG} {A : Nat → Prop} {H0 : Heap} {ad : Nat → Nat} {lay : List KK} {X : va_W} {ρ : Type} {r0 : ρ} {z1 : Int32} {x2 : Int32} {x3 : Int32} {h : PH} {H : Heap} {locs : List Loc} {ls : Array Slot} {K1 : Int32 → Option ρ} {REC : Int32 → Int32 → Option ρ} (hM : CallFix p0 m c cX12_apart 4 s args lw_g RX12) (ho : okX12 lay) (hk1 : ∀ (x2 : Int32), ∀ (H : Heap) (locs : List Loc) (ls : Array Slot), K1 x2 = some r0 → Wd D G A H0 ad lay X h s H locs → lv_has ls 4 [(1, .int z1), (2, .int x2)] → W p0 l e (rmN 1 25) s m args below meth c H locs 0 0 Q (F0 m 62 ls [])) (hrec : ∀ (x2 : Int32) (x3 : Int32), ∀ (H : Heap) (locs : List Loc) (ls : Array Slot), REC x2 x3 = some r0 → Wd D G A H0 ad lay X h s H locs → lv_has ls 4 [(0, .ref (ad 0)), (1, .int z1), (2, .int x2), (3, .int x3)] → W p0 l e (rmN 1 25) s m args below meth c H locs 0 0 Q (F0 m 16 ls [])) (hw : Wd D G A H0 ad lay X h s H locs) (hl : lv_has ls 4 [(0, .ref (ad 0)), (1, .int z1), (2, .int x2), (3, .int x3)]) (hf : c_X12_apart_L16b z1 h K1 REC x2 x3 = some r0) : W p0 l e (rmN 1 25) s m args below meth c H locs 0 0 Q (F0 m 16 ls []) := by
  unfold c_X12_apart_L16b at hf
  refine lv_iload_n hM.1 hM.2.1 dX12_apart_16 rfl (lv_at hl 3 rfl) ?_
  refine lv_iconst (v := 1) hM.1 hM.2.1 dX12_apart_17 ic_1 ?_
  refine lv_aload_n hM.1 hM.2.1 dX12_apart_18 rfl (lv_at hl 0 rfl) ?_
  refine gf_X12_tests hM hw (okX12.o ho) fl_X12_95 dX12_apart_19 ?_
  refine lv_aload_n hM.1 hM.2.1 dX12_apart_22 rfl (lv_at hl 0 rfl) ?_
  refine gf_X12_live hM hw (okX12.o ho) fl_X12_266 dX12_apart_23 ?_
  refine x_iald hM hw (okX12.tests ho) hf dX12_apart_26 (fun hf => ?_)
  refine lv_ishl hM.1 hM.2.1 dX12_apart_27 ?_
  refine x_ic_ge (tgt := 62) hM hf dX12_apart_28 (by decide) (fun hf => ?_) (fun hf => ?_)
  · exact hk1 _ _ _ _ hf hw (lv_sub hl [1, 2] rfl)
  refine lv_iload_n hM.1 hM.2.1 dX12_apart_31 rfl (lv_at hl 2 rfl) ?_
  refine x_if_lt (tgt := 46) hM hf dX12_apart_32 (by decide) (fun hf => ?_) (fun hf => ?_)
  · refine lv_aload_n hM.1 hM.2.1 dX12_apart_46 rfl (lv_at hl 0 rfl) ?_
    refine lv_iload_n hM.1 hM.2.1 dX12_apart_47 rfl (lv_at hl 3 rfl) ?_
    refine x_callVIr (rest := []) hM hw (ct_X12_areApart l ho x3) [.int x3] (okX12.o ho) rfl rfl rfl (gi_V ml_X12_486 im_X12_areApart sl_X12_areApart in_X12 kc_X12_areApart) hd_X12_areApart rfl ⟨Nat.le_of_ble_eq_true rfl, Nat.le_of_ble_eq_true rfl⟩ rfl (Nat.le_of_ble_eq_true rfl) hl.1 hcs0 hf dX12_apart_48 (fun r4 H locs hf hw => ?_)
    refine x_if_eq (tgt := 56) hM hf dX12_apart_51 (by decide) (fun hf => ?_) (fun hf => ?_)
    · refine x_iinc (k := 3) (d := 1) hM hf dX12_apart_56 hl rfl (by decide) (by decide) (fun v5 => [(3, .int v5), (0, .ref (ad 0)), (1, .int z1), (2, .int x2)]) (fun _ => rfl) (fun v5 ls hf hl => ?_)
      refine lv_goto (tgt := 16) hM.1 hM.2.1 dX12_apart_59 (by decide) ?_
      exact hrec _ _ _ _ _ hf hw (lv_sub hl [1, 2, 3, 0] rfl)
    refine lv_iload_n hM.1 hM.2.1 dX12_apart_54 rfl (lv_at hl 3 rfl) ?_
    refine x_istore_n hM hf dX12_apart_55 rfl hl (by decide) (fun v6 => [(2, .int v6), (0, .ref (ad 0)), (1, .int z1), (3, .int x3)]) (fun _ => rfl) (fun v6 ls hf hl => ?_)
    refine x_iinc (k := 3) (d := 1) hM hf dX12_apart_56 hl rfl (by decide) (by decide) (fun v7 => [(3, .int v7), (2, .int v6), (0, .ref (ad 0)), (1, .int z1)]) (fun _ => rfl) (fun v7 ls hf hl => ?_)
    refine lv_goto (tgt := 16) hM.1 hM.2.1 dX12_apart_59 (by decide) ?_
    exact hrec _ _ _ _ _ hf hw (lv_sub hl [2, 3, 1, 0] rfl)
  refine lv_iload_n hM.1 hM.2.1 dX12_apart_35 rfl (lv_at hl 3 rfl) ?_
  refine x_callSIr (rest := []) hM hw (ct_X12_bits l x3) [.int x3] rfl (gi_S ml_X12_452 sm_X12_bits in_X12 kc_X12_bits) hd_X12_bits rfl ⟨Nat.le_of_ble_eq_true rfl, Nat.le_of_ble_eq_true rfl⟩ rfl (Nat.le_of_ble_eq_true rfl) hl.1 hcs0 hf dX12_apart_36 (fun r8 H locs hf hw => ?_)
  refine lv_iload_n hM.1 hM.2.1 dX12_apart_39 rfl (lv_at hl 2 rfl) ?_
  refine x_callSIr (rest := [.int r8]) hM hw (ct_X12_bits l x2) [.int x2] rfl (gi_S ml_X12_452 sm_X12_bits in_X12 kc_X12_bits) hd_X12_bits rfl ⟨Nat.le_of_ble_eq_true rfl, Nat.le_of_ble_eq_true rfl⟩ rfl (Nat.le_of_ble_eq_true rfl) hl.1 hcs0 hf dX12_apart_40 (fun r9 H locs hf hw => ?_)
  refine x_ic_ge (tgt := 56) hM hf dX12_apart_43 (by decide) (fun hf => ?_) (fun hf => ?_)
  · refine x_iinc (k := 3) (d := 1) hM hf dX12_apart_56 hl rfl (by decide) (by decide) (fun v10 => [(3, .int v10), (0, .ref (ad 0)), (1, .int z1), (2, .int x2)]) (fun _ => rfl) (fun v10 ls hf hl => ?_)
    refine lv_goto (tgt := 16) hM.1 hM.2.1 dX12_apart_59 (by decide) ?_
    exact hrec _ _ _ _ _ hf hw (lv_sub hl [1, 2, 3, 0] rfl)
  refine lv_aload_n hM.1 hM.2.1 dX12_apart_46 rfl (lv_at hl 0 rfl) ?_
  refine lv_iload_n hM.1 hM.2.1 dX12_apart_47 rfl (lv_at hl 3 rfl) ?_
  refine x_callVIr (rest := []) hM hw (ct_X12_areApart l ho x3) [.int x3] (okX12.o ho) rfl rfl rfl (gi_V ml_X12_486 im_X12_areApart sl_X12_areApart in_X12 kc_X12_areApart) hd_X12_areApart rfl ⟨Nat.le_of_ble_eq_true rfl, Nat.le_of_ble_eq_true rfl⟩ rfl (Nat.le_of_ble_eq_true rfl) hl.1 hcs0 hf dX12_apart_48 (fun r11 H locs hf hw => ?_)
  refine x_if_eq (tgt := 56) hM hf dX12_apart_51 (by decide) (fun hf => ?_) (fun hf => ?_)
  · refine x_iinc (k := 3) (d := 1) hM hf dX12_apart_56 hl rfl (by decide) (by decide) (fun v12 => [(3, .int v12), (0, .ref (ad 0)), (1, .int z1), (2, .int x2)]) (fun _ => rfl) (fun v12 ls hf hl => ?_)
    refine lv_goto (tgt := 16) hM.1 hM.2.1 dX12_apart_59 (by decide) ?_
    exact hrec _ _ _ _ _ hf hw (lv_sub hl [1, 2, 3, 0] rfl)
  refine lv_iload_n hM.1 hM.2.1 dX12_apart_54 rfl (lv_at hl 3 rfl) ?_
  refine x_istore_n hM hf dX12_apart_55 rfl hl (by decide) (fun v13 => [(2, .int v13), (0, .ref (ad 0)), (1, .int z1), (3, .int x3)]) (fun _ => rfl) (fun v13 ls hf hl => ?_)
  refine x_iinc (k := 3) (d := 1) hM hf dX12_apart_56 hl rfl (by decide) (by decide) (fun v14 => [(3, .int v14), (2, .int v13), (0, .ref (ad 0)), (1, .int z1)]) (fun _ => rfl) (fun v14 ls hf hl => ?_)
  refine lv_goto (tgt := 16) hM.1 hM.2.1 dX12_apart_59 (by decide) ?_
  exact hrec _ _ _ _ _ hf hw (lv_sub hl [2, 3, 1, 0] rfl)
set_option maxHeartbeats 4000000 in
set_option maxRecDepth 100000 in
theorem w_X12_apart_L16 {p0 : Program} {l : Launch} {e : Env} {s : State} {m : MethodId} {args : Array Value} {below : List Frame} {meth : Method} {c : Code} {Q : State → Prop} {D : va_G} {G : GG} {A : Nat → Prop} {H0 : Heap} {ad : Nat → Nat} {lay : List KK} {X : va_W} {ρ : Type} {r0 : ρ} {z1 : Int32} {h : PH} {K1 : Int32 → Option ρ} (hM : CallFix p0 m c cX12_apart 4 s args lw_g RX12) (ho : okX12 lay) (hk1 : ∀ (x2 : Int32), ∀ (H : Heap) (locs : List Loc) (ls : Array Slot), K1 x2 = some r0 → Wd D G A H0 ad lay X h s H locs → lv_has ls 4 [(1, .int z1), (2, .int x2)] → W p0 l e (rmN 1 25) s m args below meth c H locs 0 0 Q (F0 m 62 ls [])) (n : Nat) (x2 : Int32) (x3 : Int32) (hf : lq2 (c_X12_apart_L16b z1 h K1) n x2 x3 = some r0) : ∀ (H : Heap) (locs : List Loc) (ls : Array Slot), Wd D G A H0 ad lay X h s H locs → lv_has ls 4 [(0, .ref (ad 0)), (1, .int z1), (2, .int x2), (3, .int x3)] → W p0 l e (rmN 1 25) s m args below meth c H locs 0 0 Q (F0 m 16 ls []) := by
  exact lq2_i (fun (x2 : Int32) (x3 : Int32) => ∀ (H : Heap) (locs : List Loc) (ls : Array Slot), Wd D G A H0 ad lay X h s H locs → lv_has ls 4 [(0, .ref (ad 0)), (1, .int z1), (2, .int x2), (3, .int x3)] → W p0 l e (rmN 1 25) s m args below meth c H locs 0 0 Q (F0 m 16 ls [])) (fun REC x2 x3 ih hf H locs ls hw hl => w_X12_apart_L16b hM ho hk1 (fun x2 x3 H locs ls hf hw hl => ih x2 x3 hf H locs ls hw hl) hw hl hf) n x2 x3 hf
def c_X12_apart (a1 : Int32) (h : PH) : Option (Int32) :=
  (c_X12_in a1 0 1).bind fun r1 =>
  if r1 = 0 then
    some (-1)
  else
    nm ((-2) : Int32) fun v2 =>
    nm (0 : Int32) fun v3 =>
    lq2 (c_X12_apart_L16b a1 h
      (fun w15 =>
        if w15 < 0 then
          some w15
        else
          if a1 = 1 then
            some w15
          else
            (c_X12_bits w15).bind fun r16 =>
            some r16)) fu v2 v3
set_option maxHeartbeats 4000000 in
set_option maxRecDepth 100000 in
theorem ct_X12_apart (l : Launch) {lay : List KK} (ho : okX12 lay) (a1 : Int32) : CtI l yX12_apart cX12_apart 4 (some .int) 1 25 lay (rd (fun h => c_X12_apart a1 h)) (fun ad => [.ref (ad 0), .int a1]) := by
  refine CtI.mk' RX12 (by decide) rfl (fun _ => Nat.le_of_ble_eq_true rfl) ?_
  intro p0 e s m args below meth c D G A H0 ad X h r0 H ls Q hM hw hl hf hR
  have hl : lv_has ls 4 [(0, .ref (ad 0)), (1, .int a1)] := hl
  obtain ⟨v0, hv0, hr0⟩ : ∃ v0, c_X12_apart a1 h = some v0 ∧ r0 = (v0, h) := rd_some hf
  subst hr0
  have hf := hv0
  unfold c_X12_apart at hf
  refine lv_iload_n hM.1 hM.2.1 dX12_apart_0 rfl (lv_at hl 1 rfl) ?_
  refine lv_iconst (v := 0) hM.1 hM.2.1 dX12_apart_1 ic_0 ?_
  refine lv_iconst (v := 1) hM.1 hM.2.1 dX12_apart_2 ic_1 ?_
  refine x_callSIr (rest := []) hM hw (ct_X12_in l a1 0 1) [.int a1, .int 0, .int 1] rfl (gi_S ml_X12_359 sm_X12_in in_X12 kc_X12_in) hd_X12_in rfl ⟨Nat.le_of_ble_eq_true rfl, Nat.le_of_ble_eq_true rfl⟩ rfl (Nat.le_of_ble_eq_true rfl) hl.1 hcs0 hf dX12_apart_3 (fun r1 H locs hf hw => ?_)
  refine x_if_ne (tgt := 11) hM hf dX12_apart_6 (by decide) (fun hf => ?_) (fun hf => ?_)
  · refine lv_bipush (v := (-2)) hM.1 hM.2.1 dX12_apart_11 (by decide) ?_
    refine x_istore_n hM hf dX12_apart_13 rfl hl (by decide) (fun v2 => [(2, .int v2), (0, .ref (ad 0)), (1, .int a1)]) (fun _ => rfl) (fun v2 ls hf hl => ?_)
    refine lv_iconst (v := 0) hM.1 hM.2.1 dX12_apart_14 ic_0 ?_
    refine x_istore_n hM hf dX12_apart_15 rfl hl (by decide) (fun v3 => [(3, .int v3), (2, .int v2), (0, .ref (ad 0)), (1, .int a1)]) (fun _ => rfl) (fun v3 ls hf hl => ?_)
    refine w_X12_apart_L16 hM ho (fun w15 H locs ls hf hw hl => ?_) fu _ _ hf _ _ _ hw (lv_sub hl [2, 3, 1, 0] rfl)
    refine lv_iload_n hM.1 hM.2.1 dX12_apart_62 rfl (lv_at hl 1 rfl) ?_
    refine x_if_lt (tgt := 71) hM hf dX12_apart_63 (by decide) (fun hf => ?_) (fun hf => ?_)
    · refine lv_iload_n hM.1 hM.2.1 dX12_apart_71 rfl (lv_at hl 1 rfl) ?_
      refine lv_goto (tgt := 79) hM.1 hM.2.1 dX12_apart_72 (by decide) ?_
      exact hR _ _ _ _ _ _ _ (congrArg (fun z => (z, _)) (Option.some.inj hf)) rfl rfl hw dX12_apart_79
    refine lv_iload_n hM.1 hM.2.1 dX12_apart_66 rfl (lv_at hl 0 rfl) ?_
    refine lv_iconst (v := 1) hM.1 hM.2.1 dX12_apart_67 ic_1 ?_
    refine x_ic_ne (tgt := 75) hM hf dX12_apart_68 (by decide) (fun hf => ?_) (fun hf => ?_)
    · refine lv_iload_n hM.1 hM.2.1 dX12_apart_75 rfl (lv_at hl 1 rfl) ?_
      refine x_callSIr (rest := []) hM hw (ct_X12_bits l w15) [.int w15] rfl (gi_S ml_X12_452 sm_X12_bits in_X12 kc_X12_bits) hd_X12_bits rfl ⟨Nat.le_of_ble_eq_true rfl, Nat.le_of_ble_eq_true rfl⟩ rfl (Nat.le_of_ble_eq_true rfl) hl.1 hcs0 hf dX12_apart_76 (fun r16 H locs hf hw => ?_)
      exact hR _ _ _ _ _ _ _ (congrArg (fun z => (z, _)) (Option.some.inj hf)) rfl rfl hw dX12_apart_79
    refine lv_iload_n hM.1 hM.2.1 dX12_apart_71 rfl (lv_at hl 1 rfl) ?_
    refine lv_goto (tgt := 79) hM.1 hM.2.1 dX12_apart_72 (by decide) ?_
    exact hR _ _ _ _ _ _ _ (congrArg (fun z => (z, _)) (Option.some.inj hf)) rfl rfl hw dX12_apart_79
  refine lv_iconst (v := (-1)) hM.1 hM.2.1 dX12_apart_9 ic_m1 ?_
  exact hR _ _ _ _ _ _ _ (congrArg (fun z => (z, _)) (Option.some.inj hf)) rfl rfl hw dX12_apart_10
theorem hd_X12_apart : yX12_apart.cls = RX12 ∧ yX12_apart.cls ≠ "java/lang/invoke/MethodHandle" ∧ yX12_apart.cls ≠ "java/lang/invoke/VarHandle" ∧ (parseMethodDescriptor yX12_apart.desc).map (fun d => d.parameters.length) = some 1 := ⟨rfl, by decide, by decide, by decide +kernel⟩
theorem dX12_askOf_0 : decode cX12_askOf 0 = .ok (.iload_n 0, 1) := by decide +kernel
theorem dX12_askOf_1 : decode cX12_askOf 1 = .ok (.iload_n 1, 1) := by decide +kernel
theorem dX12_askOf_2 : decode cX12_askOf 2 = .ok (.iconst 1, 1) := by decide +kernel
theorem dX12_askOf_3 : decode cX12_askOf 3 = .ok (.isub, 1) := by decide +kernel
theorem dX12_askOf_4 : decode cX12_askOf 4 = .ok (.iload_n 2, 1) := by decide +kernel
theorem dX12_askOf_5 : decode cX12_askOf 5 = .ok (.isub, 1) := by decide +kernel
theorem dX12_askOf_6 : decode cX12_askOf 6 = .ok (.invokestatic 455, 3) := by decide +kernel
theorem dX12_askOf_9 : decode cX12_askOf 9 = .ok (.idiv, 1) := by decide +kernel
theorem dX12_askOf_10 : decode cX12_askOf 10 = .ok (.bipush 7, 2) := by decide +kernel
theorem dX12_askOf_12 : decode cX12_askOf 12 = .ok (.irem, 1) := by decide +kernel
theorem dX12_askOf_13 : decode cX12_askOf 13 = .ok (.ireturn, 1) := by decide +kernel
def c_X12_askOf (a0 : Int32) (a1 : Int32) (a2 : Int32) : Option (Int32) :=
  (c_X12_sevens ((a1 - 1) - a2)).bind fun r1 =>
  if r1 = 0 then none else
  some (jrem (a0 / r1) 7)
set_option maxHeartbeats 4000000 in
set_option maxRecDepth 100000 in
theorem ct_X12_askOf (l : Launch) {lay : List KK} (a0 : Int32) (a1 : Int32) (a2 : Int32) : CtI l yX12_askOf cX12_askOf 3 (some .int) 1 22 lay (rd (fun _ => c_X12_askOf a0 a1 a2)) (fun _ => [.int a0, .int a1, .int a2]) := by
  refine CtI.mk' RX12 (by decide) rfl (fun _ => Nat.le_of_ble_eq_true rfl) ?_
  intro p0 e s m args below meth c D G A H0 ad X h r0 H ls Q hM hw hl hf hR
  have hl : lv_has ls 3 [(0, .int a0), (1, .int a1), (2, .int a2)] := hl
  obtain ⟨v0, hv0, hr0⟩ : ∃ v0, c_X12_askOf a0 a1 a2 = some v0 ∧ r0 = (v0, h) := rd_some hf
  subst hr0
  have hf := hv0
  unfold c_X12_askOf at hf
  refine lv_iload_n hM.1 hM.2.1 dX12_askOf_0 rfl (lv_at hl 0 rfl) ?_
  refine lv_iload_n hM.1 hM.2.1 dX12_askOf_1 rfl (lv_at hl 1 rfl) ?_
  refine lv_iconst (v := 1) hM.1 hM.2.1 dX12_askOf_2 ic_1 ?_
  refine lv_isub hM.1 hM.2.1 dX12_askOf_3 ?_
  refine lv_iload_n hM.1 hM.2.1 dX12_askOf_4 rfl (lv_at hl 2 rfl) ?_
  refine lv_isub hM.1 hM.2.1 dX12_askOf_5 ?_
  refine x_callSIr (rest := [.int a0]) hM hw (ct_X12_sevens l ((a1 - 1) - a2)) [.int ((a1 - 1) - a2)] rfl (gi_S ml_X12_455 sm_X12_sevens in_X12 kc_X12_sevens) hd_X12_sevens rfl ⟨Nat.le_of_ble_eq_true rfl, Nat.le_of_ble_eq_true rfl⟩ rfl (Nat.le_of_ble_eq_true rfl) hl.1 hcs0 hf dX12_askOf_6 (fun r1 H locs hf hw => ?_)
  refine x_idiv hM hf dX12_askOf_9 (fun hf => ?_)
  refine lv_bipush (v := 7) hM.1 hM.2.1 dX12_askOf_10 (by decide) ?_
  refine x_iremK hM (by decide) dX12_askOf_12 ?_
  exact hR _ _ _ _ _ _ _ (congrArg (fun z => (z, _)) (Option.some.inj hf)) rfl rfl hw dX12_askOf_13
theorem hd_X12_askOf : yX12_askOf.cls ≠ "java/lang/invoke/MethodHandle" ∧ yX12_askOf.cls ≠ "java/lang/invoke/VarHandle" ∧ (parseMethodDescriptor yX12_askOf.desc).map (fun d => d.parameters.length) = some 3 := ⟨by decide, by decide, by decide +kernel⟩
theorem dX12_gainOf_0 : decode cX12_gainOf 0 = .ok (.iload_n 0, 1) := by decide +kernel
theorem dX12_gainOf_1 : decode cX12_gainOf 1 = .ok (.iload_n 1, 1) := by decide +kernel
theorem dX12_gainOf_2 : decode cX12_gainOf 2 = .ok (.iload_n 2, 1) := by decide +kernel
theorem dX12_gainOf_3 : decode cX12_gainOf 3 = .ok (.invokestatic 489, 3) := by decide +kernel
theorem dX12_gainOf_6 : decode cX12_gainOf 6 = .ok (.istore 5, 2) := by decide +kernel
theorem dX12_gainOf_8 : decode cX12_gainOf 8 = .ok (.iconst 0, 1) := by decide +kernel
theorem dX12_gainOf_9 : decode cX12_gainOf 9 = .ok (.istore 6, 2) := by decide +kernel
theorem dX12_gainOf_11 : decode cX12_gainOf 11 = .ok (.iconst 0, 1) := by decide +kernel
theorem dX12_gainOf_12 : decode cX12_gainOf 12 = .ok (.istore 7, 2) := by decide +kernel
theorem dX12_gainOf_14 : decode cX12_gainOf 14 = .ok (.iload 7, 2) := by decide +kernel
theorem dX12_gainOf_16 : decode cX12_gainOf 16 = .ok (.iload_n 1, 1) := by decide +kernel
theorem dX12_gainOf_17 : decode cX12_gainOf 17 = .ok (.if_icmp .ge 37, 3) := by decide +kernel
theorem dX12_gainOf_20 : decode cX12_gainOf 20 = .ok (.iload_n 0, 1) := by decide +kernel
theorem dX12_gainOf_21 : decode cX12_gainOf 21 = .ok (.iload_n 1, 1) := by decide +kernel
theorem dX12_gainOf_22 : decode cX12_gainOf 22 = .ok (.iload 7, 2) := by decide +kernel
theorem dX12_gainOf_24 : decode cX12_gainOf 24 = .ok (.invokestatic 489, 3) := by decide +kernel
theorem dX12_gainOf_27 : decode cX12_gainOf 27 = .ok (.istore 8, 2) := by decide +kernel
theorem dX12_gainOf_29 : decode cX12_gainOf 29 = .ok (.iload 8, 2) := by decide +kernel
theorem dX12_gainOf_31 : decode cX12_gainOf 31 = .ok (.iload 5, 2) := by decide +kernel
theorem dX12_gainOf_33 : decode cX12_gainOf 33 = .ok (.if_icmp .ge 5, 3) := by decide +kernel
theorem dX12_gainOf_36 : decode cX12_gainOf 36 = .ok (.iconst 0, 1) := by decide +kernel
theorem dX12_gainOf_37 : decode cX12_gainOf 37 = .ok (.ireturn, 1) := by decide +kernel
theorem dX12_gainOf_38 : decode cX12_gainOf 38 = .ok (.iload 8, 2) := by decide +kernel
theorem dX12_gainOf_40 : decode cX12_gainOf 40 = .ok (.iload 5, 2) := by decide +kernel
theorem dX12_gainOf_42 : decode cX12_gainOf 42 = .ok (.if_icmp .ne 6, 3) := by decide +kernel
theorem dX12_gainOf_45 : decode cX12_gainOf 45 = .ok (.iinc 6 1, 3) := by decide +kernel
theorem dX12_gainOf_48 : decode cX12_gainOf 48 = .ok (.iinc 7 1, 3) := by decide +kernel
theorem dX12_gainOf_51 : decode cX12_gainOf 51 = .ok (.goto (-37), 3) := by decide +kernel
theorem dX12_gainOf_54 : decode cX12_gainOf 54 = .ok (.iload 4, 2) := by decide +kernel
theorem dX12_gainOf_56 : decode cX12_gainOf 56 = .ok (.iload 6, 2) := by decide +kernel
theorem dX12_gainOf_58 : decode cX12_gainOf 58 = .ok (.idiv, 1) := by decide +kernel
theorem dX12_gainOf_59 : decode cX12_gainOf 59 = .ok (.iload 5, 2) := by decide +kernel
theorem dX12_gainOf_61 : decode cX12_gainOf 61 = .ok (.iload_n 3, 1) := by decide +kernel
theorem dX12_gainOf_62 : decode cX12_gainOf 62 = .ok (.isub, 1) := by decide +kernel
theorem dX12_gainOf_63 : decode cX12_gainOf 63 = .ok (.imul, 1) := by decide +kernel
theorem dX12_gainOf_64 : decode cX12_gainOf 64 = .ok (.ireturn, 1) := by decide +kernel
def c_X12_gainOf_L14b {ρ : Type}  (z0 : Int32) (z1 : Int32) (z3 : Int32) (z4 : Int32) (z5 : Int32) (K1 : Option ρ) (K2 : Int32 → Option ρ) (REC : Int32 → Int32 → Option ρ) (x6 : Int32) (x7 : Int32) : Option ρ :=
  if z1 ≤ x7 then
    K2 x6
  else
    (c_X12_askOf z0 z1 x7).bind fun r5 =>
    nm r5 fun v6 =>
    if z5 ≤ v6 then
      if v6 = z5 then
        nm (x6 + 1) fun v8 =>
        nm (x7 + 1) fun v9 =>
        REC v8 v9
      else
        nm (x7 + 1) fun v7 =>
        REC x6 v7
    else
      K1
set_option maxHeartbeats 4000000 in
set_option maxRecDepth 100000 in
theorem w_X12_gainOf_L14b {p0 : Program} {l : Launch} {e : Env} {s : State} {m : MethodId} {args : Array Value} {below : List Frame} {meth : Method} {c : Code} {Q : State → Prop} {D : va_G} {G : GG} {A : Nat → Prop} {H0 : Heap} {ad : Nat → Nat} {lay : List KK} {X : va_W} {ρ : Type} {r0 : ρ} {z0 : Int32} {z1 : Int32} {z3 : Int32} {z4 : Int32} {z5 : Int32} {x6 : Int32} {x7 : Int32} {h : PH} {H : Heap} {locs : List Loc} {ls : Array Slot} {K1 : Option ρ} {K2 : Int32 → Option ρ} {REC : Int32 → Int32 → Option ρ} (hM : CallFix p0 m c cX12_gainOf 9 s args lw_g RX12) (hk1 : ∀ (H : Heap) (locs : List Loc) (ls : Array Slot), K1 = some r0 → Wd D G A H0 ad lay X h s H locs → lv_has ls 9 [] → W p0 l e (rmN 2 44) s m args below meth c H locs 0 0 Q (F0 m 36 ls [])) (hk2 : ∀ (x6 : Int32), ∀ (H : Heap) (locs : List Loc) (ls : Array Slot), K2 x6 = some r0 → Wd D G A H0 ad lay X h s H locs → lv_has ls 9 [(3, .int z3), (4, .int z4), (5, .int z5), (6, .int x6)] → W p0 l e (rmN 2 44) s m args below meth c H locs 0 0 Q (F0 m 54 ls [])) (hrec : ∀ (x6 : Int32) (x7 : Int32), ∀ (H : Heap) (locs : List Loc) (ls : Array Slot), REC x6 x7 = some r0 → Wd D G A H0 ad lay X h s H locs → lv_has ls 9 [(0, .int z0), (1, .int z1), (3, .int z3), (4, .int z4), (5, .int z5), (6, .int x6), (7, .int x7)] → W p0 l e (rmN 2 44) s m args below meth c H locs 0 0 Q (F0 m 14 ls [])) (hw : Wd D G A H0 ad lay X h s H locs) (hl : lv_has ls 9 [(0, .int z0), (1, .int z1), (3, .int z3), (4, .int z4), (5, .int z5), (6, .int x6), (7, .int x7)]) (hf : c_X12_gainOf_L14b z0 z1 z3 z4 z5 K1 K2 REC x6 x7 = some r0) : W p0 l e (rmN 2 44) s m args below meth c H locs 0 0 Q (F0 m 14 ls []) := by
  unfold c_X12_gainOf_L14b at hf
  refine lv_iload hM.1 hM.2.1 dX12_gainOf_14 (lv_at hl 6 rfl) ?_
  refine lv_iload_n hM.1 hM.2.1 dX12_gainOf_16 rfl (lv_at hl 1 rfl) ?_
  refine x_ic_ge (tgt := 54) hM hf dX12_gainOf_17 (by decide) (fun hf => ?_) (fun hf => ?_)
  · exact hk2 _ _ _ _ hf hw (lv_sub hl [2, 3, 4, 5] rfl)
  refine lv_iload_n hM.1 hM.2.1 dX12_gainOf_20 rfl (lv_at hl 0 rfl) ?_
  refine lv_iload_n hM.1 hM.2.1 dX12_gainOf_21 rfl (lv_at hl 1 rfl) ?_
  refine lv_iload hM.1 hM.2.1 dX12_gainOf_22 (lv_at hl 6 rfl) ?_
  refine x_callSIr (rest := []) hM hw (ct_X12_askOf l z0 z1 x7) [.int z0, .int z1, .int x7] rfl (gi_S ml_X12_489 sm_X12_askOf in_X12 kc_X12_askOf) hd_X12_askOf rfl ⟨Nat.le_of_ble_eq_true rfl, Nat.le_of_ble_eq_true rfl⟩ rfl (Nat.le_of_ble_eq_true rfl) hl.1 hcs0 hf dX12_gainOf_24 (fun r5 H locs hf hw => ?_)
  refine x_istore hM hf dX12_gainOf_27 hl (by decide) (fun v6 => [(8, .int v6), (0, .int z0), (1, .int z1), (3, .int z3), (4, .int z4), (5, .int z5), (6, .int x6), (7, .int x7)]) (fun _ => rfl) (fun v6 ls hf hl => ?_)
  refine lv_iload hM.1 hM.2.1 dX12_gainOf_29 (lv_at hl 0 rfl) ?_
  refine lv_iload hM.1 hM.2.1 dX12_gainOf_31 (lv_at hl 5 rfl) ?_
  refine x_ic_ge (tgt := 38) hM hf dX12_gainOf_33 (by decide) (fun hf => ?_) (fun hf => ?_)
  · refine lv_iload hM.1 hM.2.1 dX12_gainOf_38 (lv_at hl 0 rfl) ?_
    refine lv_iload hM.1 hM.2.1 dX12_gainOf_40 (lv_at hl 5 rfl) ?_
    refine x_ic_ne (tgt := 48) hM hf dX12_gainOf_42 (by decide) (fun hf => ?_) (fun hf => ?_)
    · refine x_iinc (k := 7) (d := 1) hM hf dX12_gainOf_48 hl rfl (by decide) (by decide) (fun v7 => [(7, .int v7), (8, .int v6), (0, .int z0), (1, .int z1), (3, .int z3), (4, .int z4), (5, .int z5), (6, .int x6)]) (fun _ => rfl) (fun v7 ls hf hl => ?_)
      refine lv_goto (tgt := 14) hM.1 hM.2.1 dX12_gainOf_51 (by decide) ?_
      exact hrec _ _ _ _ _ hf hw (lv_sub hl [2, 3, 4, 5, 6, 7, 0] rfl)
    refine x_iinc (k := 6) (d := 1) hM hf dX12_gainOf_45 hl rfl (by decide) (by decide) (fun v8 => [(6, .int v8), (8, .int v6), (0, .int z0), (1, .int z1), (3, .int z3), (4, .int z4), (5, .int z5), (7, .int x7)]) (fun _ => rfl) (fun v8 ls hf hl => ?_)
    refine x_iinc (k := 7) (d := 1) hM hf dX12_gainOf_48 hl rfl (by decide) (by decide) (fun v9 => [(7, .int v9), (6, .int v8), (8, .int v6), (0, .int z0), (1, .int z1), (3, .int z3), (4, .int z4), (5, .int z5)]) (fun _ => rfl) (fun v9 ls hf hl => ?_)
    refine lv_goto (tgt := 14) hM.1 hM.2.1 dX12_gainOf_51 (by decide) ?_
    exact hrec _ _ _ _ _ hf hw (lv_sub hl [3, 4, 5, 6, 7, 1, 0] rfl)
  exact hk1 _ _ _ hf hw (lv_sub hl [] rfl)
set_option maxHeartbeats 4000000 in
set_option maxRecDepth 100000 in
theorem w_X12_gainOf_L14 {p0 : Program} {l : Launch} {e : Env} {s : State} {m : MethodId} {args : Array Value} {below : List Frame} {meth : Method} {c : Code} {Q : State → Prop} {D : va_G} {G : GG} {A : Nat → Prop} {H0 : Heap} {ad : Nat → Nat} {lay : List KK} {X : va_W} {ρ : Type} {r0 : ρ} {z0 : Int32} {z1 : Int32} {z3 : Int32} {z4 : Int32} {z5 : Int32} {h : PH} {K1 : Option ρ} {K2 : Int32 → Option ρ} (hM : CallFix p0 m c cX12_gainOf 9 s args lw_g RX12) (hk1 : ∀ (H : Heap) (locs : List Loc) (ls : Array Slot), K1 = some r0 → Wd D G A H0 ad lay X h s H locs → lv_has ls 9 [] → W p0 l e (rmN 2 44) s m args below meth c H locs 0 0 Q (F0 m 36 ls [])) (hk2 : ∀ (x6 : Int32), ∀ (H : Heap) (locs : List Loc) (ls : Array Slot), K2 x6 = some r0 → Wd D G A H0 ad lay X h s H locs → lv_has ls 9 [(3, .int z3), (4, .int z4), (5, .int z5), (6, .int x6)] → W p0 l e (rmN 2 44) s m args below meth c H locs 0 0 Q (F0 m 54 ls [])) (n : Nat) (x6 : Int32) (x7 : Int32) (hf : lq2 (c_X12_gainOf_L14b z0 z1 z3 z4 z5 K1 K2) n x6 x7 = some r0) : ∀ (H : Heap) (locs : List Loc) (ls : Array Slot), Wd D G A H0 ad lay X h s H locs → lv_has ls 9 [(0, .int z0), (1, .int z1), (3, .int z3), (4, .int z4), (5, .int z5), (6, .int x6), (7, .int x7)] → W p0 l e (rmN 2 44) s m args below meth c H locs 0 0 Q (F0 m 14 ls []) := by
  exact lq2_i (fun (x6 : Int32) (x7 : Int32) => ∀ (H : Heap) (locs : List Loc) (ls : Array Slot), Wd D G A H0 ad lay X h s H locs → lv_has ls 9 [(0, .int z0), (1, .int z1), (3, .int z3), (4, .int z4), (5, .int z5), (6, .int x6), (7, .int x7)] → W p0 l e (rmN 2 44) s m args below meth c H locs 0 0 Q (F0 m 14 ls [])) (fun REC x6 x7 ih hf H locs ls hw hl => w_X12_gainOf_L14b hM hk1 hk2 (fun x6 x7 H locs ls hf hw hl => ih x6 x7 hf H locs ls hw hl) hw hl hf) n x6 x7 hf
def c_X12_gainOf (a0 : Int32) (a1 : Int32) (a2 : Int32) (a3 : Int32) (a4 : Int32) : Option (Int32) :=
  (c_X12_askOf a0 a1 a2).bind fun r1 =>
  nm r1 fun v2 =>
  nm (0 : Int32) fun v3 =>
  nm (0 : Int32) fun v4 =>
  lq2 (c_X12_gainOf_L14b a0 a1 a3 a4 v2
    (some 0)
    (fun w10 =>
      if w10 = 0 then none else
      some ((a4 / w10) * (v2 - a3)))) fu v3 v4
set_option maxHeartbeats 4000000 in
set_option maxRecDepth 100000 in
theorem ct_X12_gainOf (l : Launch) {lay : List KK} (a0 : Int32) (a1 : Int32) (a2 : Int32) (a3 : Int32) (a4 : Int32) : CtI l yX12_gainOf cX12_gainOf 9 (some .int) 2 44 lay (rd (fun _ => c_X12_gainOf a0 a1 a2 a3 a4)) (fun _ => [.int a0, .int a1, .int a2, .int a3, .int a4]) := by
  refine CtI.mk' RX12 (by decide) rfl (fun _ => Nat.le_of_ble_eq_true rfl) ?_
  intro p0 e s m args below meth c D G A H0 ad X h r0 H ls Q hM hw hl hf hR
  have hl : lv_has ls 9 [(0, .int a0), (1, .int a1), (2, .int a2), (3, .int a3), (4, .int a4)] := hl
  obtain ⟨v0, hv0, hr0⟩ : ∃ v0, c_X12_gainOf a0 a1 a2 a3 a4 = some v0 ∧ r0 = (v0, h) := rd_some hf
  subst hr0
  have hf := hv0
  unfold c_X12_gainOf at hf
  refine lv_iload_n hM.1 hM.2.1 dX12_gainOf_0 rfl (lv_at hl 0 rfl) ?_
  refine lv_iload_n hM.1 hM.2.1 dX12_gainOf_1 rfl (lv_at hl 1 rfl) ?_
  refine lv_iload_n hM.1 hM.2.1 dX12_gainOf_2 rfl (lv_at hl 2 rfl) ?_
  refine x_callSIr (rest := []) hM hw (ct_X12_askOf l a0 a1 a2) [.int a0, .int a1, .int a2] rfl (gi_S ml_X12_489 sm_X12_askOf in_X12 kc_X12_askOf) hd_X12_askOf rfl ⟨Nat.le_of_ble_eq_true rfl, Nat.le_of_ble_eq_true rfl⟩ rfl (Nat.le_of_ble_eq_true rfl) hl.1 hcs0 hf dX12_gainOf_3 (fun r1 H locs hf hw => ?_)
  refine x_istore hM hf dX12_gainOf_6 hl (by decide) (fun v2 => [(5, .int v2), (0, .int a0), (1, .int a1), (2, .int a2), (3, .int a3), (4, .int a4)]) (fun _ => rfl) (fun v2 ls hf hl => ?_)
  refine lv_iconst (v := 0) hM.1 hM.2.1 dX12_gainOf_8 ic_0 ?_
  refine x_istore hM hf dX12_gainOf_9 hl (by decide) (fun v3 => [(6, .int v3), (5, .int v2), (0, .int a0), (1, .int a1), (2, .int a2), (3, .int a3), (4, .int a4)]) (fun _ => rfl) (fun v3 ls hf hl => ?_)
  refine lv_iconst (v := 0) hM.1 hM.2.1 dX12_gainOf_11 ic_0 ?_
  refine x_istore hM hf dX12_gainOf_12 hl (by decide) (fun v4 => [(7, .int v4), (6, .int v3), (5, .int v2), (0, .int a0), (1, .int a1), (2, .int a2), (3, .int a3), (4, .int a4)]) (fun _ => rfl) (fun v4 ls hf hl => ?_)
  refine w_X12_gainOf_L14 hM (fun H locs ls hf hw hl => ?_) (fun w10 H locs ls hf hw hl => ?_) fu _ _ hf _ _ _ hw (lv_sub hl [3, 4, 6, 7, 2, 1, 0] rfl)
  · refine lv_iconst (v := 0) hM.1 hM.2.1 dX12_gainOf_36 ic_0 ?_
    exact hR _ _ _ _ _ _ _ (congrArg (fun z => (z, _)) (Option.some.inj hf)) rfl rfl hw dX12_gainOf_37
  · refine lv_iload hM.1 hM.2.1 dX12_gainOf_54 (lv_at hl 1 rfl) ?_
    refine lv_iload hM.1 hM.2.1 dX12_gainOf_56 (lv_at hl 3 rfl) ?_
    refine x_idiv hM hf dX12_gainOf_58 (fun hf => ?_)
    refine lv_iload hM.1 hM.2.1 dX12_gainOf_59 (lv_at hl 2 rfl) ?_
    refine lv_iload_n hM.1 hM.2.1 dX12_gainOf_61 rfl (lv_at hl 0 rfl) ?_
    refine lv_isub hM.1 hM.2.1 dX12_gainOf_62 ?_
    refine lv_imul hM.1 hM.2.1 dX12_gainOf_63 ?_
    exact hR _ _ _ _ _ _ _ (congrArg (fun z => (z, _)) (Option.some.inj hf)) rfl rfl hw dX12_gainOf_64
theorem hd_X12_gainOf : yX12_gainOf.cls ≠ "java/lang/invoke/MethodHandle" ∧ yX12_gainOf.cls ≠ "java/lang/invoke/VarHandle" ∧ (parseMethodDescriptor yX12_gainOf.desc).map (fun d => d.parameters.length) = some 5 := ⟨by decide, by decide, by decide +kernel⟩
theorem dX12_areAsking_0 : decode cX12_areAsking 0 = .ok (.iconst 0, 1) := by decide +kernel
theorem dX12_areAsking_1 : decode cX12_areAsking 1 = .ok (.istore_n 3, 1) := by decide +kernel
theorem dX12_areAsking_2 : decode cX12_areAsking 2 = .ok (.iload_n 3, 1) := by decide +kernel
theorem dX12_areAsking_3 : decode cX12_areAsking 3 = .ok (.iload_n 1, 1) := by decide +kernel
theorem dX12_areAsking_4 : decode cX12_areAsking 4 = .ok (.if_icmp .ge 21, 3) := by decide +kernel
theorem dX12_areAsking_7 : decode cX12_areAsking 7 = .ok (.iload_n 0, 1) := by decide +kernel
theorem dX12_areAsking_8 : decode cX12_areAsking 8 = .ok (.iload_n 1, 1) := by decide +kernel
theorem dX12_areAsking_9 : decode cX12_areAsking 9 = .ok (.iload_n 3, 1) := by decide +kernel
theorem dX12_areAsking_10 : decode cX12_areAsking 10 = .ok (.invokestatic 489, 3) := by decide +kernel
theorem dX12_areAsking_13 : decode cX12_areAsking 13 = .ok (.iload_n 2, 1) := by decide +kernel
theorem dX12_areAsking_14 : decode cX12_areAsking 14 = .ok (.if_icmp .le 5, 3) := by decide +kernel
theorem dX12_areAsking_17 : decode cX12_areAsking 17 = .ok (.iconst 0, 1) := by decide +kernel
theorem dX12_areAsking_18 : decode cX12_areAsking 18 = .ok (.ireturn, 1) := by decide +kernel
theorem dX12_areAsking_19 : decode cX12_areAsking 19 = .ok (.iinc 3 1, 3) := by decide +kernel
theorem dX12_areAsking_22 : decode cX12_areAsking 22 = .ok (.goto (-20), 3) := by decide +kernel
theorem dX12_areAsking_25 : decode cX12_areAsking 25 = .ok (.iconst 1, 1) := by decide +kernel
theorem dX12_areAsking_26 : decode cX12_areAsking 26 = .ok (.ireturn, 1) := by decide +kernel
def c_X12_areAsking_L2b {ρ : Type}  (z0 : Int32) (z1 : Int32) (z2 : Int32) (K1 : Option ρ) (K2 : Option ρ) (REC : Int32 → Option ρ) (x3 : Int32) : Option ρ :=
  if z1 ≤ x3 then
    K2
  else
    (c_X12_askOf z0 z1 x3).bind fun r2 =>
    if r2 ≤ z2 then
      nm (x3 + 1) fun v3 =>
      REC v3
    else
      K1
set_option maxHeartbeats 4000000 in
set_option maxRecDepth 100000 in
theorem w_X12_areAsking_L2b {p0 : Program} {l : Launch} {e : Env} {s : State} {m : MethodId} {args : Array Value} {below : List Frame} {meth : Method} {c : Code} {Q : State → Prop} {D : va_G} {G : GG} {A : Nat → Prop} {H0 : Heap} {ad : Nat → Nat} {lay : List KK} {X : va_W} {ρ : Type} {r0 : ρ} {z0 : Int32} {z1 : Int32} {z2 : Int32} {x3 : Int32} {h : PH} {H : Heap} {locs : List Loc} {ls : Array Slot} {K1 : Option ρ} {K2 : Option ρ} {REC : Int32 → Option ρ} (hM : CallFix p0 m c cX12_areAsking 4 s args lw_g RX12) (hk1 : ∀ (H : Heap) (locs : List Loc) (ls : Array Slot), K1 = some r0 → Wd D G A H0 ad lay X h s H locs → lv_has ls 4 [] → W p0 l e (rmN 2 44) s m args below meth c H locs 0 0 Q (F0 m 17 ls [])) (hk2 : ∀ (H : Heap) (locs : List Loc) (ls : Array Slot), K2 = some r0 → Wd D G A H0 ad lay X h s H locs → lv_has ls 4 [] → W p0 l e (rmN 2 44) s m args below meth c H locs 0 0 Q (F0 m 25 ls [])) (hrec : ∀ (x3 : Int32), ∀ (H : Heap) (locs : List Loc) (ls : Array Slot), REC x3 = some r0 → Wd D G A H0 ad lay X h s H locs → lv_has ls 4 [(0, .int z0), (1, .int z1), (2, .int z2), (3, .int x3)] → W p0 l e (rmN 2 44) s m args below meth c H locs 0 0 Q (F0 m 2 ls [])) (hw : Wd D G A H0 ad lay X h s H locs) (hl : lv_has ls 4 [(0, .int z0), (1, .int z1), (2, .int z2), (3, .int x3)]) (hf : c_X12_areAsking_L2b z0 z1 z2 K1 K2 REC x3 = some r0) : W p0 l e (rmN 2 44) s m args below meth c H locs 0 0 Q (F0 m 2 ls []) := by
  unfold c_X12_areAsking_L2b at hf
  refine lv_iload_n hM.1 hM.2.1 dX12_areAsking_2 rfl (lv_at hl 3 rfl) ?_
  refine lv_iload_n hM.1 hM.2.1 dX12_areAsking_3 rfl (lv_at hl 1 rfl) ?_
  refine x_ic_ge (tgt := 25) hM hf dX12_areAsking_4 (by decide) (fun hf => ?_) (fun hf => ?_)
  · exact hk2 _ _ _ hf hw (lv_sub hl [] rfl)
  refine lv_iload_n hM.1 hM.2.1 dX12_areAsking_7 rfl (lv_at hl 0 rfl) ?_
  refine lv_iload_n hM.1 hM.2.1 dX12_areAsking_8 rfl (lv_at hl 1 rfl) ?_
  refine lv_iload_n hM.1 hM.2.1 dX12_areAsking_9 rfl (lv_at hl 3 rfl) ?_
  refine x_callSIr (rest := []) hM hw (ct_X12_askOf l z0 z1 x3) [.int z0, .int z1, .int x3] rfl (gi_S ml_X12_489 sm_X12_askOf in_X12 kc_X12_askOf) hd_X12_askOf rfl ⟨Nat.le_of_ble_eq_true rfl, Nat.le_of_ble_eq_true rfl⟩ rfl (Nat.le_of_ble_eq_true rfl) hl.1 hcs0 hf dX12_areAsking_10 (fun r2 H locs hf hw => ?_)
  refine lv_iload_n hM.1 hM.2.1 dX12_areAsking_13 rfl (lv_at hl 2 rfl) ?_
  refine x_ic_le (tgt := 19) hM hf dX12_areAsking_14 (by decide) (fun hf => ?_) (fun hf => ?_)
  · refine x_iinc (k := 3) (d := 1) hM hf dX12_areAsking_19 hl rfl (by decide) (by decide) (fun v3 => [(3, .int v3), (0, .int z0), (1, .int z1), (2, .int z2)]) (fun _ => rfl) (fun v3 ls hf hl => ?_)
    refine lv_goto (tgt := 2) hM.1 hM.2.1 dX12_areAsking_22 (by decide) ?_
    exact hrec _ _ _ _ hf hw (lv_sub hl [1, 2, 3, 0] rfl)
  exact hk1 _ _ _ hf hw (lv_sub hl [] rfl)
set_option maxHeartbeats 4000000 in
set_option maxRecDepth 100000 in
theorem w_X12_areAsking_L2 {p0 : Program} {l : Launch} {e : Env} {s : State} {m : MethodId} {args : Array Value} {below : List Frame} {meth : Method} {c : Code} {Q : State → Prop} {D : va_G} {G : GG} {A : Nat → Prop} {H0 : Heap} {ad : Nat → Nat} {lay : List KK} {X : va_W} {ρ : Type} {r0 : ρ} {z0 : Int32} {z1 : Int32} {z2 : Int32} {h : PH} {K1 : Option ρ} {K2 : Option ρ} (hM : CallFix p0 m c cX12_areAsking 4 s args lw_g RX12) (hk1 : ∀ (H : Heap) (locs : List Loc) (ls : Array Slot), K1 = some r0 → Wd D G A H0 ad lay X h s H locs → lv_has ls 4 [] → W p0 l e (rmN 2 44) s m args below meth c H locs 0 0 Q (F0 m 17 ls [])) (hk2 : ∀ (H : Heap) (locs : List Loc) (ls : Array Slot), K2 = some r0 → Wd D G A H0 ad lay X h s H locs → lv_has ls 4 [] → W p0 l e (rmN 2 44) s m args below meth c H locs 0 0 Q (F0 m 25 ls [])) (n : Nat) (x3 : Int32) (hf : lq1 (c_X12_areAsking_L2b z0 z1 z2 K1 K2) n x3 = some r0) : ∀ (H : Heap) (locs : List Loc) (ls : Array Slot), Wd D G A H0 ad lay X h s H locs → lv_has ls 4 [(0, .int z0), (1, .int z1), (2, .int z2), (3, .int x3)] → W p0 l e (rmN 2 44) s m args below meth c H locs 0 0 Q (F0 m 2 ls []) := by
  exact lq1_i (fun (x3 : Int32) => ∀ (H : Heap) (locs : List Loc) (ls : Array Slot), Wd D G A H0 ad lay X h s H locs → lv_has ls 4 [(0, .int z0), (1, .int z1), (2, .int z2), (3, .int x3)] → W p0 l e (rmN 2 44) s m args below meth c H locs 0 0 Q (F0 m 2 ls [])) (fun REC x3 ih hf H locs ls hw hl => w_X12_areAsking_L2b hM hk1 hk2 (fun x3 H locs ls hf hw hl => ih x3 hf H locs ls hw hl) hw hl hf) n x3 hf
def c_X12_areAsking (a0 : Int32) (a1 : Int32) (a2 : Int32) : Option (Int32) :=
  nm (0 : Int32) fun v1 =>
  lq1 (c_X12_areAsking_L2b a0 a1 a2
    (some 0)
    (some 1)) fu v1
set_option maxHeartbeats 4000000 in
set_option maxRecDepth 100000 in
theorem ct_X12_areAsking (l : Launch) {lay : List KK} (a0 : Int32) (a1 : Int32) (a2 : Int32) : CtI l yX12_areAsking cX12_areAsking 4 (some .boolean) 2 44 lay (rd (fun _ => c_X12_areAsking a0 a1 a2)) (fun _ => [.int a0, .int a1, .int a2]) := by
  refine CtI.mk' RX12 (by decide) rfl (fun _ => Nat.le_of_ble_eq_true rfl) ?_
  intro p0 e s m args below meth c D G A H0 ad X h r0 H ls Q hM hw hl hf hR
  have hl : lv_has ls 4 [(0, .int a0), (1, .int a1), (2, .int a2)] := hl
  obtain ⟨v0, hv0, hr0⟩ : ∃ v0, c_X12_areAsking a0 a1 a2 = some v0 ∧ r0 = (v0, h) := rd_some hf
  subst hr0
  have hf := hv0
  unfold c_X12_areAsking at hf
  refine lv_iconst (v := 0) hM.1 hM.2.1 dX12_areAsking_0 ic_0 ?_
  refine x_istore_n hM hf dX12_areAsking_1 rfl hl (by decide) (fun v1 => [(3, .int v1), (0, .int a0), (1, .int a1), (2, .int a2)]) (fun _ => rfl) (fun v1 ls hf hl => ?_)
  refine w_X12_areAsking_L2 hM (fun H locs ls hf hw hl => ?_) (fun H locs ls hf hw hl => ?_) fu _ hf _ _ _ hw (lv_sub hl [1, 2, 3, 0] rfl)
  · refine lv_iconst (v := 0) hM.1 hM.2.1 dX12_areAsking_17 ic_0 ?_
    exact hR _ _ _ _ _ _ _ (congrArg (fun z => (z, _)) (Option.some.inj hf)) rfl (nar_z (by decide)) hw dX12_areAsking_18
  · refine lv_iconst (v := 1) hM.1 hM.2.1 dX12_areAsking_25 ic_1 ?_
    exact hR _ _ _ _ _ _ _ (congrArg (fun z => (z, _)) (Option.some.inj hf)) rfl (nar_z (by decide)) hw dX12_areAsking_26
theorem hd_X12_areAsking : yX12_areAsking.cls ≠ "java/lang/invoke/MethodHandle" ∧ yX12_areAsking.cls ≠ "java/lang/invoke/VarHandle" ∧ (parseMethodDescriptor yX12_areAsking.desc).map (fun d => d.parameters.length) = some 3 := ⟨by decide, by decide, by decide +kernel⟩
theorem dX12_isAtRest_0 : decode cX12_isAtRest 0 = .ok (.iconst 0, 1) := by decide +kernel
theorem dX12_isAtRest_1 : decode cX12_isAtRest 1 = .ok (.istore 5, 2) := by decide +kernel
theorem dX12_isAtRest_3 : decode cX12_isAtRest 3 = .ok (.iload 5, 2) := by decide +kernel
theorem dX12_isAtRest_5 : decode cX12_isAtRest 5 = .ok (.iload_n 1, 1) := by decide +kernel
theorem dX12_isAtRest_6 : decode cX12_isAtRest 6 = .ok (.if_icmp .ge 74, 3) := by decide +kernel
theorem dX12_isAtRest_9 : decode cX12_isAtRest 9 = .ok (.iload_n 0, 1) := by decide +kernel
theorem dX12_isAtRest_10 : decode cX12_isAtRest 10 = .ok (.iload_n 1, 1) := by decide +kernel
theorem dX12_isAtRest_11 : decode cX12_isAtRest 11 = .ok (.iload 5, 2) := by decide +kernel
theorem dX12_isAtRest_13 : decode cX12_isAtRest 13 = .ok (.invokestatic 489, 3) := by decide +kernel
theorem dX12_isAtRest_16 : decode cX12_isAtRest 16 = .ok (.istore 6, 2) := by decide +kernel
theorem dX12_isAtRest_18 : decode cX12_isAtRest 18 = .ok (.iconst 0, 1) := by decide +kernel
theorem dX12_isAtRest_19 : decode cX12_isAtRest 19 = .ok (.istore 7, 2) := by decide +kernel
theorem dX12_isAtRest_21 : decode cX12_isAtRest 21 = .ok (.iload 7, 2) := by decide +kernel
theorem dX12_isAtRest_23 : decode cX12_isAtRest 23 = .ok (.iload_n 2, 1) := by decide +kernel
theorem dX12_isAtRest_24 : decode cX12_isAtRest 24 = .ok (.if_icmp .gt 50, 3) := by decide +kernel
theorem dX12_isAtRest_27 : decode cX12_isAtRest 27 = .ok (.iload_n 0, 1) := by decide +kernel
theorem dX12_isAtRest_28 : decode cX12_isAtRest 28 = .ok (.iload 7, 2) := by decide +kernel
theorem dX12_isAtRest_30 : decode cX12_isAtRest 30 = .ok (.iload 6, 2) := by decide +kernel
theorem dX12_isAtRest_32 : decode cX12_isAtRest 32 = .ok (.isub, 1) := by decide +kernel
theorem dX12_isAtRest_33 : decode cX12_isAtRest 33 = .ok (.iload_n 1, 1) := by decide +kernel
theorem dX12_isAtRest_34 : decode cX12_isAtRest 34 = .ok (.iconst 1, 1) := by decide +kernel
theorem dX12_isAtRest_35 : decode cX12_isAtRest 35 = .ok (.isub, 1) := by decide +kernel
theorem dX12_isAtRest_36 : decode cX12_isAtRest 36 = .ok (.iload 5, 2) := by decide +kernel
theorem dX12_isAtRest_38 : decode cX12_isAtRest 38 = .ok (.isub, 1) := by decide +kernel
theorem dX12_isAtRest_39 : decode cX12_isAtRest 39 = .ok (.invokestatic 455, 3) := by decide +kernel
theorem dX12_isAtRest_42 : decode cX12_isAtRest 42 = .ok (.imul, 1) := by decide +kernel
theorem dX12_isAtRest_43 : decode cX12_isAtRest 43 = .ok (.iadd, 1) := by decide +kernel
theorem dX12_isAtRest_44 : decode cX12_isAtRest 44 = .ok (.iload_n 1, 1) := by decide +kernel
theorem dX12_isAtRest_45 : decode cX12_isAtRest 45 = .ok (.iload 5, 2) := by decide +kernel
theorem dX12_isAtRest_47 : decode cX12_isAtRest 47 = .ok (.iload_n 3, 1) := by decide +kernel
theorem dX12_isAtRest_48 : decode cX12_isAtRest 48 = .ok (.iload 4, 2) := by decide +kernel
theorem dX12_isAtRest_50 : decode cX12_isAtRest 50 = .ok (.invokestatic 492, 3) := by decide +kernel
theorem dX12_isAtRest_53 : decode cX12_isAtRest 53 = .ok (.iload_n 0, 1) := by decide +kernel
theorem dX12_isAtRest_54 : decode cX12_isAtRest 54 = .ok (.iload_n 1, 1) := by decide +kernel
theorem dX12_isAtRest_55 : decode cX12_isAtRest 55 = .ok (.iload 5, 2) := by decide +kernel
theorem dX12_isAtRest_57 : decode cX12_isAtRest 57 = .ok (.iload_n 3, 1) := by decide +kernel
theorem dX12_isAtRest_58 : decode cX12_isAtRest 58 = .ok (.iload 4, 2) := by decide +kernel
theorem dX12_isAtRest_60 : decode cX12_isAtRest 60 = .ok (.invokestatic 492, 3) := by decide +kernel
theorem dX12_isAtRest_63 : decode cX12_isAtRest 63 = .ok (.if_icmp .le 5, 3) := by decide +kernel
theorem dX12_isAtRest_66 : decode cX12_isAtRest 66 = .ok (.iconst 0, 1) := by decide +kernel
theorem dX12_isAtRest_67 : decode cX12_isAtRest 67 = .ok (.ireturn, 1) := by decide +kernel
theorem dX12_isAtRest_68 : decode cX12_isAtRest 68 = .ok (.iinc 7 1, 3) := by decide +kernel
theorem dX12_isAtRest_71 : decode cX12_isAtRest 71 = .ok (.goto (-50), 3) := by decide +kernel
theorem dX12_isAtRest_74 : decode cX12_isAtRest 74 = .ok (.iinc 5 1, 3) := by decide +kernel
theorem dX12_isAtRest_77 : decode cX12_isAtRest 77 = .ok (.goto (-74), 3) := by decide +kernel
theorem dX12_isAtRest_80 : decode cX12_isAtRest 80 = .ok (.iconst 1, 1) := by decide +kernel
theorem dX12_isAtRest_81 : decode cX12_isAtRest 81 = .ok (.ireturn, 1) := by decide +kernel
def c_X12_isAtRest_L21b {ρ : Type}  (z0 : Int32) (z1 : Int32) (z2 : Int32) (z3 : Int32) (z4 : Int32) (z5 : Int32) (z6 : Int32) (K1 : Option ρ) (K2 : Option ρ) (REC : Int32 → Option ρ) (x7 : Int32) : Option ρ :=
  if z2 < x7 then
    K2
  else
    (c_X12_sevens ((z1 - 1) - z5)).bind fun r5 =>
    (c_X12_gainOf (z0 + ((x7 - z6) * r5)) z1 z5 z3 z4).bind fun r6 =>
    (c_X12_gainOf z0 z1 z5 z3 z4).bind fun r7 =>
    if r6 ≤ r7 then
      nm (x7 + 1) fun v8 =>
      REC v8
    else
      K1
set_option maxHeartbeats 4000000 in
set_option maxRecDepth 100000 in
theorem w_X12_isAtRest_L21b {p0 : Program} {l : Launch} {e : Env} {s : State} {m : MethodId} {args : Array Value} {below : List Frame} {meth : Method} {c : Code} {Q : State → Prop} {D : va_G} {G : GG} {A : Nat → Prop} {H0 : Heap} {ad : Nat → Nat} {lay : List KK} {X : va_W} {ρ : Type} {r0 : ρ} {z0 : Int32} {z1 : Int32} {z2 : Int32} {z3 : Int32} {z4 : Int32} {z5 : Int32} {z6 : Int32} {x7 : Int32} {h : PH} {H : Heap} {locs : List Loc} {ls : Array Slot} {K1 : Option ρ} {K2 : Option ρ} {REC : Int32 → Option ρ} (hM : CallFix p0 m c cX12_isAtRest 8 s args lw_g RX12) (hk1 : ∀ (H : Heap) (locs : List Loc) (ls : Array Slot), K1 = some r0 → Wd D G A H0 ad lay X h s H locs → lv_has ls 8 [] → W p0 l e (rmN 3 72) s m args below meth c H locs 0 0 Q (F0 m 66 ls [])) (hk2 : ∀ (H : Heap) (locs : List Loc) (ls : Array Slot), K2 = some r0 → Wd D G A H0 ad lay X h s H locs → lv_has ls 8 [(0, .int z0), (1, .int z1), (2, .int z2), (3, .int z3), (4, .int z4), (5, .int z5)] → W p0 l e (rmN 3 72) s m args below meth c H locs 0 0 Q (F0 m 74 ls [])) (hrec : ∀ (x7 : Int32), ∀ (H : Heap) (locs : List Loc) (ls : Array Slot), REC x7 = some r0 → Wd D G A H0 ad lay X h s H locs → lv_has ls 8 [(0, .int z0), (1, .int z1), (2, .int z2), (3, .int z3), (4, .int z4), (5, .int z5), (6, .int z6), (7, .int x7)] → W p0 l e (rmN 3 72) s m args below meth c H locs 0 0 Q (F0 m 21 ls [])) (hw : Wd D G A H0 ad lay X h s H locs) (hl : lv_has ls 8 [(0, .int z0), (1, .int z1), (2, .int z2), (3, .int z3), (4, .int z4), (5, .int z5), (6, .int z6), (7, .int x7)]) (hf : c_X12_isAtRest_L21b z0 z1 z2 z3 z4 z5 z6 K1 K2 REC x7 = some r0) : W p0 l e (rmN 3 72) s m args below meth c H locs 0 0 Q (F0 m 21 ls []) := by
  unfold c_X12_isAtRest_L21b at hf
  refine lv_iload hM.1 hM.2.1 dX12_isAtRest_21 (lv_at hl 7 rfl) ?_
  refine lv_iload_n hM.1 hM.2.1 dX12_isAtRest_23 rfl (lv_at hl 2 rfl) ?_
  refine x_ic_gt (tgt := 74) hM hf dX12_isAtRest_24 (by decide) (fun hf => ?_) (fun hf => ?_)
  · exact hk2 _ _ _ hf hw (lv_sub hl [0, 1, 2, 3, 4, 5] rfl)
  refine lv_iload_n hM.1 hM.2.1 dX12_isAtRest_27 rfl (lv_at hl 0 rfl) ?_
  refine lv_iload hM.1 hM.2.1 dX12_isAtRest_28 (lv_at hl 7 rfl) ?_
  refine lv_iload hM.1 hM.2.1 dX12_isAtRest_30 (lv_at hl 6 rfl) ?_
  refine lv_isub hM.1 hM.2.1 dX12_isAtRest_32 ?_
  refine lv_iload_n hM.1 hM.2.1 dX12_isAtRest_33 rfl (lv_at hl 1 rfl) ?_
  refine lv_iconst (v := 1) hM.1 hM.2.1 dX12_isAtRest_34 ic_1 ?_
  refine lv_isub hM.1 hM.2.1 dX12_isAtRest_35 ?_
  refine lv_iload hM.1 hM.2.1 dX12_isAtRest_36 (lv_at hl 5 rfl) ?_
  refine lv_isub hM.1 hM.2.1 dX12_isAtRest_38 ?_
  refine x_callSIr (rest := [.int (x7 - z6), .int z0]) hM hw (ct_X12_sevens l ((z1 - 1) - z5)) [.int ((z1 - 1) - z5)] rfl (gi_S ml_X12_455 sm_X12_sevens in_X12 kc_X12_sevens) hd_X12_sevens rfl ⟨Nat.le_of_ble_eq_true rfl, Nat.le_of_ble_eq_true rfl⟩ rfl (Nat.le_of_ble_eq_true rfl) hl.1 hcs0 hf dX12_isAtRest_39 (fun r5 H locs hf hw => ?_)
  refine lv_imul hM.1 hM.2.1 dX12_isAtRest_42 ?_
  refine lv_iadd hM.1 hM.2.1 dX12_isAtRest_43 ?_
  refine lv_iload_n hM.1 hM.2.1 dX12_isAtRest_44 rfl (lv_at hl 1 rfl) ?_
  refine lv_iload hM.1 hM.2.1 dX12_isAtRest_45 (lv_at hl 5 rfl) ?_
  refine lv_iload_n hM.1 hM.2.1 dX12_isAtRest_47 rfl (lv_at hl 3 rfl) ?_
  refine lv_iload hM.1 hM.2.1 dX12_isAtRest_48 (lv_at hl 4 rfl) ?_
  refine x_callSIr (rest := []) hM hw (ct_X12_gainOf l (z0 + ((x7 - z6) * r5)) z1 z5 z3 z4) [.int (z0 + ((x7 - z6) * r5)), .int z1, .int z5, .int z3, .int z4] rfl (gi_S ml_X12_492 sm_X12_gainOf in_X12 kc_X12_gainOf) hd_X12_gainOf rfl ⟨Nat.le_of_ble_eq_true rfl, Nat.le_of_ble_eq_true rfl⟩ rfl (Nat.le_of_ble_eq_true rfl) hl.1 hcs0 hf dX12_isAtRest_50 (fun r6 H locs hf hw => ?_)
  refine lv_iload_n hM.1 hM.2.1 dX12_isAtRest_53 rfl (lv_at hl 0 rfl) ?_
  refine lv_iload_n hM.1 hM.2.1 dX12_isAtRest_54 rfl (lv_at hl 1 rfl) ?_
  refine lv_iload hM.1 hM.2.1 dX12_isAtRest_55 (lv_at hl 5 rfl) ?_
  refine lv_iload_n hM.1 hM.2.1 dX12_isAtRest_57 rfl (lv_at hl 3 rfl) ?_
  refine lv_iload hM.1 hM.2.1 dX12_isAtRest_58 (lv_at hl 4 rfl) ?_
  refine x_callSIr (rest := [.int r6]) hM hw (ct_X12_gainOf l z0 z1 z5 z3 z4) [.int z0, .int z1, .int z5, .int z3, .int z4] rfl (gi_S ml_X12_492 sm_X12_gainOf in_X12 kc_X12_gainOf) hd_X12_gainOf rfl ⟨Nat.le_of_ble_eq_true rfl, Nat.le_of_ble_eq_true rfl⟩ rfl (Nat.le_of_ble_eq_true rfl) hl.1 hcs0 hf dX12_isAtRest_60 (fun r7 H locs hf hw => ?_)
  refine x_ic_le (tgt := 68) hM hf dX12_isAtRest_63 (by decide) (fun hf => ?_) (fun hf => ?_)
  · refine x_iinc (k := 7) (d := 1) hM hf dX12_isAtRest_68 hl rfl (by decide) (by decide) (fun v8 => [(7, .int v8), (0, .int z0), (1, .int z1), (2, .int z2), (3, .int z3), (4, .int z4), (5, .int z5), (6, .int z6)]) (fun _ => rfl) (fun v8 ls hf hl => ?_)
    refine lv_goto (tgt := 21) hM.1 hM.2.1 dX12_isAtRest_71 (by decide) ?_
    exact hrec _ _ _ _ hf hw (lv_sub hl [1, 2, 3, 4, 5, 6, 7, 0] rfl)
  exact hk1 _ _ _ hf hw (lv_sub hl [] rfl)
set_option maxHeartbeats 4000000 in
set_option maxRecDepth 100000 in
theorem w_X12_isAtRest_L21 {p0 : Program} {l : Launch} {e : Env} {s : State} {m : MethodId} {args : Array Value} {below : List Frame} {meth : Method} {c : Code} {Q : State → Prop} {D : va_G} {G : GG} {A : Nat → Prop} {H0 : Heap} {ad : Nat → Nat} {lay : List KK} {X : va_W} {ρ : Type} {r0 : ρ} {z0 : Int32} {z1 : Int32} {z2 : Int32} {z3 : Int32} {z4 : Int32} {z5 : Int32} {z6 : Int32} {h : PH} {K1 : Option ρ} {K2 : Option ρ} (hM : CallFix p0 m c cX12_isAtRest 8 s args lw_g RX12) (hk1 : ∀ (H : Heap) (locs : List Loc) (ls : Array Slot), K1 = some r0 → Wd D G A H0 ad lay X h s H locs → lv_has ls 8 [] → W p0 l e (rmN 3 72) s m args below meth c H locs 0 0 Q (F0 m 66 ls [])) (hk2 : ∀ (H : Heap) (locs : List Loc) (ls : Array Slot), K2 = some r0 → Wd D G A H0 ad lay X h s H locs → lv_has ls 8 [(0, .int z0), (1, .int z1), (2, .int z2), (3, .int z3), (4, .int z4), (5, .int z5)] → W p0 l e (rmN 3 72) s m args below meth c H locs 0 0 Q (F0 m 74 ls [])) (n : Nat) (x7 : Int32) (hf : lq1 (c_X12_isAtRest_L21b z0 z1 z2 z3 z4 z5 z6 K1 K2) n x7 = some r0) : ∀ (H : Heap) (locs : List Loc) (ls : Array Slot), Wd D G A H0 ad lay X h s H locs → lv_has ls 8 [(0, .int z0), (1, .int z1), (2, .int z2), (3, .int z3), (4, .int z4), (5, .int z5), (6, .int z6), (7, .int x7)] → W p0 l e (rmN 3 72) s m args below meth c H locs 0 0 Q (F0 m 21 ls []) := by
  exact lq1_i (fun (x7 : Int32) => ∀ (H : Heap) (locs : List Loc) (ls : Array Slot), Wd D G A H0 ad lay X h s H locs → lv_has ls 8 [(0, .int z0), (1, .int z1), (2, .int z2), (3, .int z3), (4, .int z4), (5, .int z5), (6, .int z6), (7, .int x7)] → W p0 l e (rmN 3 72) s m args below meth c H locs 0 0 Q (F0 m 21 ls [])) (fun REC x7 ih hf H locs ls hw hl => w_X12_isAtRest_L21b hM hk1 hk2 (fun x7 H locs ls hf hw hl => ih x7 hf H locs ls hw hl) hw hl hf) n x7 hf
def c_X12_isAtRest_L3b {ρ : Type}  (z0 : Int32) (z1 : Int32) (z2 : Int32) (z3 : Int32) (z4 : Int32) (K1 : Option ρ) (K2 : Option ρ) (REC : Int32 → Option ρ) (x5 : Int32) : Option ρ :=
  if z1 ≤ x5 then
    K2
  else
    (c_X12_askOf z0 z1 x5).bind fun r2 =>
    nm r2 fun v3 =>
    nm (0 : Int32) fun v4 =>
    lq1 (c_X12_isAtRest_L21b z0 z1 z2 z3 z4 x5 v3
      (K1)
      (nm (x5 + 1) fun v9 =>
      REC v9)) fu v4
set_option maxHeartbeats 4000000 in
set_option maxRecDepth 100000 in
theorem w_X12_isAtRest_L3b {p0 : Program} {l : Launch} {e : Env} {s : State} {m : MethodId} {args : Array Value} {below : List Frame} {meth : Method} {c : Code} {Q : State → Prop} {D : va_G} {G : GG} {A : Nat → Prop} {H0 : Heap} {ad : Nat → Nat} {lay : List KK} {X : va_W} {ρ : Type} {r0 : ρ} {z0 : Int32} {z1 : Int32} {z2 : Int32} {z3 : Int32} {z4 : Int32} {x5 : Int32} {h : PH} {H : Heap} {locs : List Loc} {ls : Array Slot} {K1 : Option ρ} {K2 : Option ρ} {REC : Int32 → Option ρ} (hM : CallFix p0 m c cX12_isAtRest 8 s args lw_g RX12) (hk1 : ∀ (H : Heap) (locs : List Loc) (ls : Array Slot), K1 = some r0 → Wd D G A H0 ad lay X h s H locs → lv_has ls 8 [] → W p0 l e (rmN 3 72) s m args below meth c H locs 0 0 Q (F0 m 66 ls [])) (hk2 : ∀ (H : Heap) (locs : List Loc) (ls : Array Slot), K2 = some r0 → Wd D G A H0 ad lay X h s H locs → lv_has ls 8 [] → W p0 l e (rmN 3 72) s m args below meth c H locs 0 0 Q (F0 m 80 ls [])) (hrec : ∀ (x5 : Int32), ∀ (H : Heap) (locs : List Loc) (ls : Array Slot), REC x5 = some r0 → Wd D G A H0 ad lay X h s H locs → lv_has ls 8 [(0, .int z0), (1, .int z1), (2, .int z2), (3, .int z3), (4, .int z4), (5, .int x5)] → W p0 l e (rmN 3 72) s m args below meth c H locs 0 0 Q (F0 m 3 ls [])) (hw : Wd D G A H0 ad lay X h s H locs) (hl : lv_has ls 8 [(0, .int z0), (1, .int z1), (2, .int z2), (3, .int z3), (4, .int z4), (5, .int x5)]) (hf : c_X12_isAtRest_L3b z0 z1 z2 z3 z4 K1 K2 REC x5 = some r0) : W p0 l e (rmN 3 72) s m args below meth c H locs 0 0 Q (F0 m 3 ls []) := by
  unfold c_X12_isAtRest_L3b at hf
  refine lv_iload hM.1 hM.2.1 dX12_isAtRest_3 (lv_at hl 5 rfl) ?_
  refine lv_iload_n hM.1 hM.2.1 dX12_isAtRest_5 rfl (lv_at hl 1 rfl) ?_
  refine x_ic_ge (tgt := 80) hM hf dX12_isAtRest_6 (by decide) (fun hf => ?_) (fun hf => ?_)
  · exact hk2 _ _ _ hf hw (lv_sub hl [] rfl)
  refine lv_iload_n hM.1 hM.2.1 dX12_isAtRest_9 rfl (lv_at hl 0 rfl) ?_
  refine lv_iload_n hM.1 hM.2.1 dX12_isAtRest_10 rfl (lv_at hl 1 rfl) ?_
  refine lv_iload hM.1 hM.2.1 dX12_isAtRest_11 (lv_at hl 5 rfl) ?_
  refine x_callSIr (rest := []) hM hw (ct_X12_askOf l z0 z1 x5) [.int z0, .int z1, .int x5] rfl (gi_S ml_X12_489 sm_X12_askOf in_X12 kc_X12_askOf) hd_X12_askOf rfl ⟨Nat.le_of_ble_eq_true rfl, Nat.le_of_ble_eq_true rfl⟩ rfl (Nat.le_of_ble_eq_true rfl) hl.1 hcs0 hf dX12_isAtRest_13 (fun r2 H locs hf hw => ?_)
  refine x_istore hM hf dX12_isAtRest_16 hl (by decide) (fun v3 => [(6, .int v3), (0, .int z0), (1, .int z1), (2, .int z2), (3, .int z3), (4, .int z4), (5, .int x5)]) (fun _ => rfl) (fun v3 ls hf hl => ?_)
  refine lv_iconst (v := 0) hM.1 hM.2.1 dX12_isAtRest_18 ic_0 ?_
  refine x_istore hM hf dX12_isAtRest_19 hl (by decide) (fun v4 => [(7, .int v4), (6, .int v3), (0, .int z0), (1, .int z1), (2, .int z2), (3, .int z3), (4, .int z4), (5, .int x5)]) (fun _ => rfl) (fun v4 ls hf hl => ?_)
  refine w_X12_isAtRest_L21 hM (fun H locs ls hf hw hl => ?_) (fun H locs ls hf hw hl => ?_) fu _ hf _ _ _ hw (lv_sub hl [2, 3, 4, 5, 6, 7, 1, 0] rfl)
  · exact hk1 _ _ _ hf hw hl
  · refine x_iinc (k := 5) (d := 1) hM hf dX12_isAtRest_74 hl rfl (by decide) (by decide) (fun v9 => [(5, .int v9), (0, .int z0), (1, .int z1), (2, .int z2), (3, .int z3), (4, .int z4)]) (fun _ => rfl) (fun v9 ls hf hl => ?_)
    refine lv_goto (tgt := 3) hM.1 hM.2.1 dX12_isAtRest_77 (by decide) ?_
    exact hrec _ _ _ _ hf hw (lv_sub hl [1, 2, 3, 4, 5, 0] rfl)
set_option maxHeartbeats 4000000 in
set_option maxRecDepth 100000 in
theorem w_X12_isAtRest_L3 {p0 : Program} {l : Launch} {e : Env} {s : State} {m : MethodId} {args : Array Value} {below : List Frame} {meth : Method} {c : Code} {Q : State → Prop} {D : va_G} {G : GG} {A : Nat → Prop} {H0 : Heap} {ad : Nat → Nat} {lay : List KK} {X : va_W} {ρ : Type} {r0 : ρ} {z0 : Int32} {z1 : Int32} {z2 : Int32} {z3 : Int32} {z4 : Int32} {h : PH} {K1 : Option ρ} {K2 : Option ρ} (hM : CallFix p0 m c cX12_isAtRest 8 s args lw_g RX12) (hk1 : ∀ (H : Heap) (locs : List Loc) (ls : Array Slot), K1 = some r0 → Wd D G A H0 ad lay X h s H locs → lv_has ls 8 [] → W p0 l e (rmN 3 72) s m args below meth c H locs 0 0 Q (F0 m 66 ls [])) (hk2 : ∀ (H : Heap) (locs : List Loc) (ls : Array Slot), K2 = some r0 → Wd D G A H0 ad lay X h s H locs → lv_has ls 8 [] → W p0 l e (rmN 3 72) s m args below meth c H locs 0 0 Q (F0 m 80 ls [])) (n : Nat) (x5 : Int32) (hf : lq1 (c_X12_isAtRest_L3b z0 z1 z2 z3 z4 K1 K2) n x5 = some r0) : ∀ (H : Heap) (locs : List Loc) (ls : Array Slot), Wd D G A H0 ad lay X h s H locs → lv_has ls 8 [(0, .int z0), (1, .int z1), (2, .int z2), (3, .int z3), (4, .int z4), (5, .int x5)] → W p0 l e (rmN 3 72) s m args below meth c H locs 0 0 Q (F0 m 3 ls []) := by
  exact lq1_i (fun (x5 : Int32) => ∀ (H : Heap) (locs : List Loc) (ls : Array Slot), Wd D G A H0 ad lay X h s H locs → lv_has ls 8 [(0, .int z0), (1, .int z1), (2, .int z2), (3, .int z3), (4, .int z4), (5, .int x5)] → W p0 l e (rmN 3 72) s m args below meth c H locs 0 0 Q (F0 m 3 ls [])) (fun REC x5 ih hf H locs ls hw hl => w_X12_isAtRest_L3b hM hk1 hk2 (fun x5 H locs ls hf hw hl => ih x5 hf H locs ls hw hl) hw hl hf) n x5 hf
def c_X12_isAtRest (a0 : Int32) (a1 : Int32) (a2 : Int32) (a3 : Int32) (a4 : Int32) : Option (Int32) :=
  nm (0 : Int32) fun v1 =>
  lq1 (c_X12_isAtRest_L3b a0 a1 a2 a3 a4
    (some 0)
    (some 1)) fu v1
set_option maxHeartbeats 4000000 in
set_option maxRecDepth 100000 in
theorem ct_X12_isAtRest (l : Launch) {lay : List KK} (a0 : Int32) (a1 : Int32) (a2 : Int32) (a3 : Int32) (a4 : Int32) : CtI l yX12_isAtRest cX12_isAtRest 8 (some .boolean) 3 72 lay (rd (fun _ => c_X12_isAtRest a0 a1 a2 a3 a4)) (fun _ => [.int a0, .int a1, .int a2, .int a3, .int a4]) := by
  refine CtI.mk' RX12 (by decide) rfl (fun _ => Nat.le_of_ble_eq_true rfl) ?_
  intro p0 e s m args below meth c D G A H0 ad X h r0 H ls Q hM hw hl hf hR
  have hl : lv_has ls 8 [(0, .int a0), (1, .int a1), (2, .int a2), (3, .int a3), (4, .int a4)] := hl
  obtain ⟨v0, hv0, hr0⟩ : ∃ v0, c_X12_isAtRest a0 a1 a2 a3 a4 = some v0 ∧ r0 = (v0, h) := rd_some hf
  subst hr0
  have hf := hv0
  unfold c_X12_isAtRest at hf
  refine lv_iconst (v := 0) hM.1 hM.2.1 dX12_isAtRest_0 ic_0 ?_
  refine x_istore hM hf dX12_isAtRest_1 hl (by decide) (fun v1 => [(5, .int v1), (0, .int a0), (1, .int a1), (2, .int a2), (3, .int a3), (4, .int a4)]) (fun _ => rfl) (fun v1 ls hf hl => ?_)
  refine w_X12_isAtRest_L3 hM (fun H locs ls hf hw hl => ?_) (fun H locs ls hf hw hl => ?_) fu _ hf _ _ _ hw (lv_sub hl [1, 2, 3, 4, 5, 0] rfl)
  · refine lv_iconst (v := 0) hM.1 hM.2.1 dX12_isAtRest_66 ic_0 ?_
    exact hR _ _ _ _ _ _ _ (congrArg (fun z => (z, _)) (Option.some.inj hf)) rfl (nar_z (by decide)) hw dX12_isAtRest_67
  · refine lv_iconst (v := 1) hM.1 hM.2.1 dX12_isAtRest_80 ic_1 ?_
    exact hR _ _ _ _ _ _ _ (congrArg (fun z => (z, _)) (Option.some.inj hf)) rfl (nar_z (by decide)) hw dX12_isAtRest_81
theorem hd_X12_isAtRest : yX12_isAtRest.cls ≠ "java/lang/invoke/MethodHandle" ∧ yX12_isAtRest.cls ≠ "java/lang/invoke/VarHandle" ∧ (parseMethodDescriptor yX12_isAtRest.desc).map (fun d => d.parameters.length) = some 5 := ⟨by decide, by decide, by decide +kernel⟩
theorem dX12_sellers_0 : decode cX12_sellers 0 = .ok (.iload_n 1, 1) := by decide +kernel
theorem dX12_sellers_1 : decode cX12_sellers 1 = .ok (.iconst 2, 1) := by decide +kernel
theorem dX12_sellers_2 : decode cX12_sellers 2 = .ok (.iconst 3, 1) := by decide +kernel
theorem dX12_sellers_3 : decode cX12_sellers 3 = .ok (.invokestatic 359, 3) := by decide +kernel
theorem dX12_sellers_6 : decode cX12_sellers 6 = .ok (.ifCond .eq 40, 3) := by decide +kernel
theorem dX12_sellers_9 : decode cX12_sellers 9 = .ok (.iload_n 2, 1) := by decide +kernel
theorem dX12_sellers_10 : decode cX12_sellers 10 = .ok (.iconst 0, 1) := by decide +kernel
theorem dX12_sellers_11 : decode cX12_sellers 11 = .ok (.bipush 6, 2) := by decide +kernel
theorem dX12_sellers_13 : decode cX12_sellers 13 = .ok (.invokestatic 359, 3) := by decide +kernel
theorem dX12_sellers_16 : decode cX12_sellers 16 = .ok (.ifCond .eq 30, 3) := by decide +kernel
theorem dX12_sellers_19 : decode cX12_sellers 19 = .ok (.iload_n 3, 1) := by decide +kernel
theorem dX12_sellers_20 : decode cX12_sellers 20 = .ok (.iconst 0, 1) := by decide +kernel
theorem dX12_sellers_21 : decode cX12_sellers 21 = .ok (.bipush 9, 2) := by decide +kernel
theorem dX12_sellers_23 : decode cX12_sellers 23 = .ok (.invokestatic 359, 3) := by decide +kernel
theorem dX12_sellers_26 : decode cX12_sellers 26 = .ok (.ifCond .eq 20, 3) := by decide +kernel
theorem dX12_sellers_29 : decode cX12_sellers 29 = .ok (.iload 4, 2) := by decide +kernel
theorem dX12_sellers_31 : decode cX12_sellers 31 = .ok (.iconst 0, 1) := by decide +kernel
theorem dX12_sellers_32 : decode cX12_sellers 32 = .ok (.bipush 99, 2) := by decide +kernel
theorem dX12_sellers_34 : decode cX12_sellers 34 = .ok (.invokestatic 359, 3) := by decide +kernel
theorem dX12_sellers_37 : decode cX12_sellers 37 = .ok (.ifCond .eq 9, 3) := by decide +kernel
theorem dX12_sellers_40 : decode cX12_sellers 40 = .ok (.iload 5, 2) := by decide +kernel
theorem dX12_sellers_42 : decode cX12_sellers 42 = .ok (.iconst (-1), 1) := by decide +kernel
theorem dX12_sellers_43 : decode cX12_sellers 43 = .ok (.if_icmp .ge 5, 3) := by decide +kernel
theorem dX12_sellers_46 : decode cX12_sellers 46 = .ok (.iconst (-1), 1) := by decide +kernel
theorem dX12_sellers_47 : decode cX12_sellers 47 = .ok (.ireturn, 1) := by decide +kernel
theorem dX12_sellers_48 : decode cX12_sellers 48 = .ok (.iconst 0, 1) := by decide +kernel
theorem dX12_sellers_49 : decode cX12_sellers 49 = .ok (.istore 6, 2) := by decide +kernel
theorem dX12_sellers_51 : decode cX12_sellers 51 = .ok (.iconst 0, 1) := by decide +kernel
theorem dX12_sellers_52 : decode cX12_sellers 52 = .ok (.istore 7, 2) := by decide +kernel
theorem dX12_sellers_54 : decode cX12_sellers 54 = .ok (.iload 7, 2) := by decide +kernel
theorem dX12_sellers_56 : decode cX12_sellers 56 = .ok (.iload_n 1, 1) := by decide +kernel
theorem dX12_sellers_57 : decode cX12_sellers 57 = .ok (.invokestatic 455, 3) := by decide +kernel
theorem dX12_sellers_60 : decode cX12_sellers 60 = .ok (.if_icmp .ge 48, 3) := by decide +kernel
theorem dX12_sellers_63 : decode cX12_sellers 63 = .ok (.iload 7, 2) := by decide +kernel
theorem dX12_sellers_65 : decode cX12_sellers 65 = .ok (.iload_n 1, 1) := by decide +kernel
theorem dX12_sellers_66 : decode cX12_sellers 66 = .ok (.iload_n 2, 1) := by decide +kernel
theorem dX12_sellers_67 : decode cX12_sellers 67 = .ok (.invokestatic 496, 3) := by decide +kernel
theorem dX12_sellers_70 : decode cX12_sellers 70 = .ok (.ifCond .eq 32, 3) := by decide +kernel
theorem dX12_sellers_73 : decode cX12_sellers 73 = .ok (.iload 7, 2) := by decide +kernel
theorem dX12_sellers_75 : decode cX12_sellers 75 = .ok (.iload_n 1, 1) := by decide +kernel
theorem dX12_sellers_76 : decode cX12_sellers 76 = .ok (.iload_n 2, 1) := by decide +kernel
theorem dX12_sellers_77 : decode cX12_sellers 77 = .ok (.iload_n 3, 1) := by decide +kernel
theorem dX12_sellers_78 : decode cX12_sellers 78 = .ok (.iload 4, 2) := by decide +kernel
theorem dX12_sellers_80 : decode cX12_sellers 80 = .ok (.invokestatic 499, 3) := by decide +kernel
theorem dX12_sellers_83 : decode cX12_sellers 83 = .ok (.ifCond .ne 6, 3) := by decide +kernel
theorem dX12_sellers_86 : decode cX12_sellers 86 = .ok (.goto 16, 3) := by decide +kernel
theorem dX12_sellers_89 : decode cX12_sellers 89 = .ok (.iload 6, 2) := by decide +kernel
theorem dX12_sellers_91 : decode cX12_sellers 91 = .ok (.iload 5, 2) := by decide +kernel
theorem dX12_sellers_93 : decode cX12_sellers 93 = .ok (.if_icmp .ne 6, 3) := by decide +kernel
theorem dX12_sellers_96 : decode cX12_sellers 96 = .ok (.iload 7, 2) := by decide +kernel
theorem dX12_sellers_98 : decode cX12_sellers 98 = .ok (.ireturn, 1) := by decide +kernel
theorem dX12_sellers_99 : decode cX12_sellers 99 = .ok (.iinc 6 1, 3) := by decide +kernel
theorem dX12_sellers_102 : decode cX12_sellers 102 = .ok (.iinc 7 1, 3) := by decide +kernel
theorem dX12_sellers_105 : decode cX12_sellers 105 = .ok (.goto (-51), 3) := by decide +kernel
theorem dX12_sellers_108 : decode cX12_sellers 108 = .ok (.iload 5, 2) := by decide +kernel
theorem dX12_sellers_110 : decode cX12_sellers 110 = .ok (.iconst (-1), 1) := by decide +kernel
theorem dX12_sellers_111 : decode cX12_sellers 111 = .ok (.if_icmp .ne 8, 3) := by decide +kernel
theorem dX12_sellers_114 : decode cX12_sellers 114 = .ok (.iload 6, 2) := by decide +kernel
theorem dX12_sellers_116 : decode cX12_sellers 116 = .ok (.goto 4, 3) := by decide +kernel
theorem dX12_sellers_119 : decode cX12_sellers 119 = .ok (.iconst (-1), 1) := by decide +kernel
theorem dX12_sellers_120 : decode cX12_sellers 120 = .ok (.ireturn, 1) := by decide +kernel
def c_X12_sellers_L54b {ρ : Type}  (z1 : Int32) (z2 : Int32) (z3 : Int32) (z4 : Int32) (z5 : Int32) (K1 : Int32 → Option ρ) (K2 : Int32 → Option ρ) (REC : Int32 → Int32 → Option ρ) (x6 : Int32) (x7 : Int32) : Option ρ :=
  (c_X12_sevens z1).bind fun r7 =>
  if r7 ≤ x7 then
    K2 x6
  else
    (c_X12_areAsking x7 z1 z2).bind fun r8 =>
    if r8 = 0 then
      nm (x7 + 1) fun v9 =>
      REC x6 v9
    else
      (c_X12_isAtRest x7 z1 z2 z3 z4).bind fun r10 =>
      if r10 = 0 then
        nm (x7 + 1) fun v13 =>
        REC x6 v13
      else
        if x6 = z5 then
          K1 x7
        else
          nm (x6 + 1) fun v11 =>
          nm (x7 + 1) fun v12 =>
          REC v11 v12
set_option maxHeartbeats 4000000 in
set_option maxRecDepth 100000 in
theorem w_X12_sellers_L54b {p0 : Program} {l : Launch} {e : Env} {s : State} {m : MethodId} {args : Array Value} {below : List Frame} {meth : Method} {c : Code} {Q : State → Prop} {D : va_G} {G : GG} {A : Nat → Prop} {H0 : Heap} {ad : Nat → Nat} {lay : List KK} {X : va_W} {ρ : Type} {r0 : ρ} {z1 : Int32} {z2 : Int32} {z3 : Int32} {z4 : Int32} {z5 : Int32} {x6 : Int32} {x7 : Int32} {h : PH} {H : Heap} {locs : List Loc} {ls : Array Slot} {K1 : Int32 → Option ρ} {K2 : Int32 → Option ρ} {REC : Int32 → Int32 → Option ρ} (hM : CallFix p0 m c cX12_sellers 8 s args lw_g RX12) (ho : okX12 lay) (hk1 : ∀ (x7 : Int32), ∀ (H : Heap) (locs : List Loc) (ls : Array Slot), K1 x7 = some r0 → Wd D G A H0 ad lay X h s H locs → lv_has ls 8 [(7, .int x7)] → W p0 l e (rmN 4 99) s m args below meth c H locs 0 0 Q (F0 m 96 ls [])) (hk2 : ∀ (x6 : Int32), ∀ (H : Heap) (locs : List Loc) (ls : Array Slot), K2 x6 = some r0 → Wd D G A H0 ad lay X h s H locs → lv_has ls 8 [(5, .int z5), (6, .int x6)] → W p0 l e (rmN 4 99) s m args below meth c H locs 0 0 Q (F0 m 108 ls [])) (hrec : ∀ (x6 : Int32) (x7 : Int32), ∀ (H : Heap) (locs : List Loc) (ls : Array Slot), REC x6 x7 = some r0 → Wd D G A H0 ad lay X h s H locs → lv_has ls 8 [(1, .int z1), (2, .int z2), (3, .int z3), (4, .int z4), (5, .int z5), (6, .int x6), (7, .int x7)] → W p0 l e (rmN 4 99) s m args below meth c H locs 0 0 Q (F0 m 54 ls [])) (hw : Wd D G A H0 ad lay X h s H locs) (hl : lv_has ls 8 [(1, .int z1), (2, .int z2), (3, .int z3), (4, .int z4), (5, .int z5), (6, .int x6), (7, .int x7)]) (hf : c_X12_sellers_L54b z1 z2 z3 z4 z5 K1 K2 REC x6 x7 = some r0) : W p0 l e (rmN 4 99) s m args below meth c H locs 0 0 Q (F0 m 54 ls []) := by
  unfold c_X12_sellers_L54b at hf
  refine lv_iload hM.1 hM.2.1 dX12_sellers_54 (lv_at hl 6 rfl) ?_
  refine lv_iload_n hM.1 hM.2.1 dX12_sellers_56 rfl (lv_at hl 0 rfl) ?_
  refine x_callSIr (rest := [.int x7]) hM hw (ct_X12_sevens l z1) [.int z1] rfl (gi_S ml_X12_455 sm_X12_sevens in_X12 kc_X12_sevens) hd_X12_sevens rfl ⟨Nat.le_of_ble_eq_true rfl, Nat.le_of_ble_eq_true rfl⟩ rfl (Nat.le_of_ble_eq_true rfl) hl.1 hcs0 hf dX12_sellers_57 (fun r7 H locs hf hw => ?_)
  refine x_ic_ge (tgt := 108) hM hf dX12_sellers_60 (by decide) (fun hf => ?_) (fun hf => ?_)
  · exact hk2 _ _ _ _ hf hw (lv_sub hl [4, 5] rfl)
  refine lv_iload hM.1 hM.2.1 dX12_sellers_63 (lv_at hl 6 rfl) ?_
  refine lv_iload_n hM.1 hM.2.1 dX12_sellers_65 rfl (lv_at hl 0 rfl) ?_
  refine lv_iload_n hM.1 hM.2.1 dX12_sellers_66 rfl (lv_at hl 1 rfl) ?_
  refine x_callSIr (rest := []) hM hw (ct_X12_areAsking l x7 z1 z2) [.int x7, .int z1, .int z2] rfl (gi_S ml_X12_496 sm_X12_areAsking in_X12 kc_X12_areAsking) hd_X12_areAsking rfl ⟨Nat.le_of_ble_eq_true rfl, Nat.le_of_ble_eq_true rfl⟩ rfl (Nat.le_of_ble_eq_true rfl) hl.1 hcs0 hf dX12_sellers_67 (fun r8 H locs hf hw => ?_)
  refine x_if_eq (tgt := 102) hM hf dX12_sellers_70 (by decide) (fun hf => ?_) (fun hf => ?_)
  · refine x_iinc (k := 6) (d := 1) hM hf dX12_sellers_102 hl rfl (by decide) (by decide) (fun v9 => [(7, .int v9), (1, .int z1), (2, .int z2), (3, .int z3), (4, .int z4), (5, .int z5), (6, .int x6)]) (fun _ => rfl) (fun v9 ls hf hl => ?_)
    refine lv_goto (tgt := 54) hM.1 hM.2.1 dX12_sellers_105 (by decide) ?_
    exact hrec _ _ _ _ _ hf hw (lv_sub hl [1, 2, 3, 4, 5, 6, 0] rfl)
  refine lv_iload hM.1 hM.2.1 dX12_sellers_73 (lv_at hl 6 rfl) ?_
  refine lv_iload_n hM.1 hM.2.1 dX12_sellers_75 rfl (lv_at hl 0 rfl) ?_
  refine lv_iload_n hM.1 hM.2.1 dX12_sellers_76 rfl (lv_at hl 1 rfl) ?_
  refine lv_iload_n hM.1 hM.2.1 dX12_sellers_77 rfl (lv_at hl 2 rfl) ?_
  refine lv_iload hM.1 hM.2.1 dX12_sellers_78 (lv_at hl 3 rfl) ?_
  refine x_callSIr (rest := []) hM hw (ct_X12_isAtRest l x7 z1 z2 z3 z4) [.int x7, .int z1, .int z2, .int z3, .int z4] rfl (gi_S ml_X12_499 sm_X12_isAtRest in_X12 kc_X12_isAtRest) hd_X12_isAtRest rfl ⟨Nat.le_of_ble_eq_true rfl, Nat.le_of_ble_eq_true rfl⟩ rfl (Nat.le_of_ble_eq_true rfl) hl.1 hcs0 hf dX12_sellers_80 (fun r10 H locs hf hw => ?_)
  refine x_if_ne (tgt := 89) hM hf dX12_sellers_83 (by decide) (fun hf => ?_) (fun hf => ?_)
  · refine lv_iload hM.1 hM.2.1 dX12_sellers_89 (lv_at hl 5 rfl) ?_
    refine lv_iload hM.1 hM.2.1 dX12_sellers_91 (lv_at hl 4 rfl) ?_
    refine x_ic_ne (tgt := 99) hM hf dX12_sellers_93 (by decide) (fun hf => ?_) (fun hf => ?_)
    · refine x_iinc (k := 5) (d := 1) hM hf dX12_sellers_99 hl rfl (by decide) (by decide) (fun v11 => [(6, .int v11), (1, .int z1), (2, .int z2), (3, .int z3), (4, .int z4), (5, .int z5), (7, .int x7)]) (fun _ => rfl) (fun v11 ls hf hl => ?_)
      refine x_iinc (k := 6) (d := 1) hM hf dX12_sellers_102 hl rfl (by decide) (by decide) (fun v12 => [(7, .int v12), (6, .int v11), (1, .int z1), (2, .int z2), (3, .int z3), (4, .int z4), (5, .int z5)]) (fun _ => rfl) (fun v12 ls hf hl => ?_)
      refine lv_goto (tgt := 54) hM.1 hM.2.1 dX12_sellers_105 (by decide) ?_
      exact hrec _ _ _ _ _ hf hw (lv_sub hl [2, 3, 4, 5, 6, 1, 0] rfl)
    exact hk1 _ _ _ _ hf hw (lv_sub hl [6] rfl)
  refine lv_goto (tgt := 102) hM.1 hM.2.1 dX12_sellers_86 (by decide) ?_
  refine x_iinc (k := 6) (d := 1) hM hf dX12_sellers_102 hl rfl (by decide) (by decide) (fun v13 => [(7, .int v13), (1, .int z1), (2, .int z2), (3, .int z3), (4, .int z4), (5, .int z5), (6, .int x6)]) (fun _ => rfl) (fun v13 ls hf hl => ?_)
  refine lv_goto (tgt := 54) hM.1 hM.2.1 dX12_sellers_105 (by decide) ?_
  exact hrec _ _ _ _ _ hf hw (lv_sub hl [1, 2, 3, 4, 5, 6, 0] rfl)
set_option maxHeartbeats 4000000 in
set_option maxRecDepth 100000 in
theorem w_X12_sellers_L54 {p0 : Program} {l : Launch} {e : Env} {s : State} {m : MethodId} {args : Array Value} {below : List Frame} {meth : Method} {c : Code} {Q : State → Prop} {D : va_G} {G : GG} {A : Nat → Prop} {H0 : Heap} {ad : Nat → Nat} {lay : List KK} {X : va_W} {ρ : Type} {r0 : ρ} {z1 : Int32} {z2 : Int32} {z3 : Int32} {z4 : Int32} {z5 : Int32} {h : PH} {K1 : Int32 → Option ρ} {K2 : Int32 → Option ρ} (hM : CallFix p0 m c cX12_sellers 8 s args lw_g RX12) (ho : okX12 lay) (hk1 : ∀ (x7 : Int32), ∀ (H : Heap) (locs : List Loc) (ls : Array Slot), K1 x7 = some r0 → Wd D G A H0 ad lay X h s H locs → lv_has ls 8 [(7, .int x7)] → W p0 l e (rmN 4 99) s m args below meth c H locs 0 0 Q (F0 m 96 ls [])) (hk2 : ∀ (x6 : Int32), ∀ (H : Heap) (locs : List Loc) (ls : Array Slot), K2 x6 = some r0 → Wd D G A H0 ad lay X h s H locs → lv_has ls 8 [(5, .int z5), (6, .int x6)] → W p0 l e (rmN 4 99) s m args below meth c H locs 0 0 Q (F0 m 108 ls [])) (n : Nat) (x6 : Int32) (x7 : Int32) (hf : lq2 (c_X12_sellers_L54b z1 z2 z3 z4 z5 K1 K2) n x6 x7 = some r0) : ∀ (H : Heap) (locs : List Loc) (ls : Array Slot), Wd D G A H0 ad lay X h s H locs → lv_has ls 8 [(1, .int z1), (2, .int z2), (3, .int z3), (4, .int z4), (5, .int z5), (6, .int x6), (7, .int x7)] → W p0 l e (rmN 4 99) s m args below meth c H locs 0 0 Q (F0 m 54 ls []) := by
  exact lq2_i (fun (x6 : Int32) (x7 : Int32) => ∀ (H : Heap) (locs : List Loc) (ls : Array Slot), Wd D G A H0 ad lay X h s H locs → lv_has ls 8 [(1, .int z1), (2, .int z2), (3, .int z3), (4, .int z4), (5, .int z5), (6, .int x6), (7, .int x7)] → W p0 l e (rmN 4 99) s m args below meth c H locs 0 0 Q (F0 m 54 ls [])) (fun REC x6 x7 ih hf H locs ls hw hl => w_X12_sellers_L54b hM ho hk1 hk2 (fun x6 x7 H locs ls hf hw hl => ih x6 x7 hf H locs ls hw hl) hw hl hf) n x6 x7 hf
def c_X12_sellers (a1 : Int32) (a2 : Int32) (a3 : Int32) (a4 : Int32) (a5 : Int32) : Option (Int32) :=
  (c_X12_in a1 2 3).bind fun r1 =>
  if r1 = 0 then
    some (-1)
  else
    (c_X12_in a2 0 6).bind fun r2 =>
    if r2 = 0 then
      some (-1)
    else
      (c_X12_in a3 0 9).bind fun r3 =>
      if r3 = 0 then
        some (-1)
      else
        (c_X12_in a4 0 99).bind fun r4 =>
        if r4 = 0 then
          some (-1)
        else
          if (-1) ≤ a5 then
            nm (0 : Int32) fun v5 =>
            nm (0 : Int32) fun v6 =>
            lq2 (c_X12_sellers_L54b a1 a2 a3 a4 a5
              (fun w14 =>
                some w14)
              (fun w15 =>
                if a5 = (-1) then
                  some w15
                else
                  some (-1))) fu v5 v6
          else
            some (-1)
set_option maxHeartbeats 4000000 in
set_option maxRecDepth 100000 in
theorem ct_X12_sellers (l : Launch) {lay : List KK} (ho : okX12 lay) (a1 : Int32) (a2 : Int32) (a3 : Int32) (a4 : Int32) (a5 : Int32) : CtI l yX12_sellers cX12_sellers 8 (some .int) 4 99 lay (rd (fun _ => c_X12_sellers a1 a2 a3 a4 a5)) (fun ad => [.ref (ad 0), .int a1, .int a2, .int a3, .int a4, .int a5]) := by
  refine CtI.mk' RX12 (by decide) rfl (fun _ => Nat.le_of_ble_eq_true rfl) ?_
  intro p0 e s m args below meth c D G A H0 ad X h r0 H ls Q hM hw hl hf hR
  have hl : lv_has ls 8 [(0, .ref (ad 0)), (1, .int a1), (2, .int a2), (3, .int a3), (4, .int a4), (5, .int a5)] := hl
  obtain ⟨v0, hv0, hr0⟩ : ∃ v0, c_X12_sellers a1 a2 a3 a4 a5 = some v0 ∧ r0 = (v0, h) := rd_some hf
  subst hr0
  have hf := hv0
  unfold c_X12_sellers at hf
  refine lv_iload_n hM.1 hM.2.1 dX12_sellers_0 rfl (lv_at hl 1 rfl) ?_
  refine lv_iconst (v := 2) hM.1 hM.2.1 dX12_sellers_1 ic_2 ?_
  refine lv_iconst (v := 3) hM.1 hM.2.1 dX12_sellers_2 ic_3 ?_
  refine x_callSIr (rest := []) hM hw (ct_X12_in l a1 2 3) [.int a1, .int 2, .int 3] rfl (gi_S ml_X12_359 sm_X12_in in_X12 kc_X12_in) hd_X12_in rfl ⟨Nat.le_of_ble_eq_true rfl, Nat.le_of_ble_eq_true rfl⟩ rfl (Nat.le_of_ble_eq_true rfl) hl.1 hcs0 hf dX12_sellers_3 (fun r1 H locs hf hw => ?_)
  refine x_if_eq (tgt := 46) hM hf dX12_sellers_6 (by decide) (fun hf => ?_) (fun hf => ?_)
  · refine lv_iconst (v := (-1)) hM.1 hM.2.1 dX12_sellers_46 ic_m1 ?_
    exact hR _ _ _ _ _ _ _ (congrArg (fun z => (z, _)) (Option.some.inj hf)) rfl rfl hw dX12_sellers_47
  refine lv_iload_n hM.1 hM.2.1 dX12_sellers_9 rfl (lv_at hl 2 rfl) ?_
  refine lv_iconst (v := 0) hM.1 hM.2.1 dX12_sellers_10 ic_0 ?_
  refine lv_bipush (v := 6) hM.1 hM.2.1 dX12_sellers_11 (by decide) ?_
  refine x_callSIr (rest := []) hM hw (ct_X12_in l a2 0 6) [.int a2, .int 0, .int 6] rfl (gi_S ml_X12_359 sm_X12_in in_X12 kc_X12_in) hd_X12_in rfl ⟨Nat.le_of_ble_eq_true rfl, Nat.le_of_ble_eq_true rfl⟩ rfl (Nat.le_of_ble_eq_true rfl) hl.1 hcs0 hf dX12_sellers_13 (fun r2 H locs hf hw => ?_)
  refine x_if_eq (tgt := 46) hM hf dX12_sellers_16 (by decide) (fun hf => ?_) (fun hf => ?_)
  · refine lv_iconst (v := (-1)) hM.1 hM.2.1 dX12_sellers_46 ic_m1 ?_
    exact hR _ _ _ _ _ _ _ (congrArg (fun z => (z, _)) (Option.some.inj hf)) rfl rfl hw dX12_sellers_47
  refine lv_iload_n hM.1 hM.2.1 dX12_sellers_19 rfl (lv_at hl 3 rfl) ?_
  refine lv_iconst (v := 0) hM.1 hM.2.1 dX12_sellers_20 ic_0 ?_
  refine lv_bipush (v := 9) hM.1 hM.2.1 dX12_sellers_21 (by decide) ?_
  refine x_callSIr (rest := []) hM hw (ct_X12_in l a3 0 9) [.int a3, .int 0, .int 9] rfl (gi_S ml_X12_359 sm_X12_in in_X12 kc_X12_in) hd_X12_in rfl ⟨Nat.le_of_ble_eq_true rfl, Nat.le_of_ble_eq_true rfl⟩ rfl (Nat.le_of_ble_eq_true rfl) hl.1 hcs0 hf dX12_sellers_23 (fun r3 H locs hf hw => ?_)
  refine x_if_eq (tgt := 46) hM hf dX12_sellers_26 (by decide) (fun hf => ?_) (fun hf => ?_)
  · refine lv_iconst (v := (-1)) hM.1 hM.2.1 dX12_sellers_46 ic_m1 ?_
    exact hR _ _ _ _ _ _ _ (congrArg (fun z => (z, _)) (Option.some.inj hf)) rfl rfl hw dX12_sellers_47
  refine lv_iload hM.1 hM.2.1 dX12_sellers_29 (lv_at hl 4 rfl) ?_
  refine lv_iconst (v := 0) hM.1 hM.2.1 dX12_sellers_31 ic_0 ?_
  refine lv_bipush (v := 99) hM.1 hM.2.1 dX12_sellers_32 (by decide) ?_
  refine x_callSIr (rest := []) hM hw (ct_X12_in l a4 0 99) [.int a4, .int 0, .int 99] rfl (gi_S ml_X12_359 sm_X12_in in_X12 kc_X12_in) hd_X12_in rfl ⟨Nat.le_of_ble_eq_true rfl, Nat.le_of_ble_eq_true rfl⟩ rfl (Nat.le_of_ble_eq_true rfl) hl.1 hcs0 hf dX12_sellers_34 (fun r4 H locs hf hw => ?_)
  refine x_if_eq (tgt := 46) hM hf dX12_sellers_37 (by decide) (fun hf => ?_) (fun hf => ?_)
  · refine lv_iconst (v := (-1)) hM.1 hM.2.1 dX12_sellers_46 ic_m1 ?_
    exact hR _ _ _ _ _ _ _ (congrArg (fun z => (z, _)) (Option.some.inj hf)) rfl rfl hw dX12_sellers_47
  refine lv_iload hM.1 hM.2.1 dX12_sellers_40 (lv_at hl 5 rfl) ?_
  refine lv_iconst (v := (-1)) hM.1 hM.2.1 dX12_sellers_42 ic_m1 ?_
  refine x_ic_ge (tgt := 48) hM hf dX12_sellers_43 (by decide) (fun hf => ?_) (fun hf => ?_)
  · refine lv_iconst (v := 0) hM.1 hM.2.1 dX12_sellers_48 ic_0 ?_
    refine x_istore hM hf dX12_sellers_49 hl (by decide) (fun v5 => [(6, .int v5), (0, .ref (ad 0)), (1, .int a1), (2, .int a2), (3, .int a3), (4, .int a4), (5, .int a5)]) (fun _ => rfl) (fun v5 ls hf hl => ?_)
    refine lv_iconst (v := 0) hM.1 hM.2.1 dX12_sellers_51 ic_0 ?_
    refine x_istore hM hf dX12_sellers_52 hl (by decide) (fun v6 => [(7, .int v6), (6, .int v5), (0, .ref (ad 0)), (1, .int a1), (2, .int a2), (3, .int a3), (4, .int a4), (5, .int a5)]) (fun _ => rfl) (fun v6 ls hf hl => ?_)
    refine w_X12_sellers_L54 hM ho (fun w14 H locs ls hf hw hl => ?_) (fun w15 H locs ls hf hw hl => ?_) fu _ _ hf _ _ _ hw (lv_sub hl [3, 4, 5, 6, 7, 1, 0] rfl)
    · refine lv_iload hM.1 hM.2.1 dX12_sellers_96 (lv_at hl 0 rfl) ?_
      exact hR _ _ _ _ _ _ _ (congrArg (fun z => (z, _)) (Option.some.inj hf)) rfl rfl hw dX12_sellers_98
    · refine lv_iload hM.1 hM.2.1 dX12_sellers_108 (lv_at hl 0 rfl) ?_
      refine lv_iconst (v := (-1)) hM.1 hM.2.1 dX12_sellers_110 ic_m1 ?_
      refine x_ic_ne (tgt := 119) hM hf dX12_sellers_111 (by decide) (fun hf => ?_) (fun hf => ?_)
      · refine lv_iconst (v := (-1)) hM.1 hM.2.1 dX12_sellers_119 ic_m1 ?_
        exact hR _ _ _ _ _ _ _ (congrArg (fun z => (z, _)) (Option.some.inj hf)) rfl rfl hw dX12_sellers_120
      refine lv_iload hM.1 hM.2.1 dX12_sellers_114 (lv_at hl 1 rfl) ?_
      refine lv_goto (tgt := 120) hM.1 hM.2.1 dX12_sellers_116 (by decide) ?_
      exact hR _ _ _ _ _ _ _ (congrArg (fun z => (z, _)) (Option.some.inj hf)) rfl rfl hw dX12_sellers_120
  refine lv_iconst (v := (-1)) hM.1 hM.2.1 dX12_sellers_46 ic_m1 ?_
  exact hR _ _ _ _ _ _ _ (congrArg (fun z => (z, _)) (Option.some.inj hf)) rfl rfl hw dX12_sellers_47
theorem hd_X12_sellers : yX12_sellers.cls = RX12 ∧ yX12_sellers.cls ≠ "java/lang/invoke/MethodHandle" ∧ yX12_sellers.cls ≠ "java/lang/invoke/VarHandle" ∧ (parseMethodDescriptor yX12_sellers.desc).map (fun d => d.parameters.length) = some 5 := ⟨rfl, by decide, by decide, by decide +kernel⟩
theorem dX12_calm_0 : decode cX12_calm 0 = .ok (.aload_n 0, 1) := by decide +kernel
theorem dX12_calm_1 : decode cX12_calm 1 = .ok (.iload_n 1, 1) := by decide +kernel
theorem dX12_calm_2 : decode cX12_calm 2 = .ok (.invokevirtual 428, 3) := by decide +kernel
theorem dX12_calm_5 : decode cX12_calm 5 = .ok (.ifCond .eq 21, 3) := by decide +kernel
theorem dX12_calm_8 : decode cX12_calm 8 = .ok (.aload_n 0, 1) := by decide +kernel
theorem dX12_calm_9 : decode cX12_calm 9 = .ok (.iload_n 2, 1) := by decide +kernel
theorem dX12_calm_10 : decode cX12_calm 10 = .ok (.invokevirtual 425, 3) := by decide +kernel
theorem dX12_calm_13 : decode cX12_calm 13 = .ok (.ifCond .eq 13, 3) := by decide +kernel
theorem dX12_calm_16 : decode cX12_calm 16 = .ok (.iload_n 3, 1) := by decide +kernel
theorem dX12_calm_17 : decode cX12_calm 17 = .ok (.iconst 0, 1) := by decide +kernel
theorem dX12_calm_18 : decode cX12_calm 18 = .ok (.bipush 100, 2) := by decide +kernel
theorem dX12_calm_20 : decode cX12_calm 20 = .ok (.invokestatic 359, 3) := by decide +kernel
theorem dX12_calm_23 : decode cX12_calm 23 = .ok (.ifCond .ne 5, 3) := by decide +kernel
theorem dX12_calm_26 : decode cX12_calm 26 = .ok (.iconst (-1), 1) := by decide +kernel
theorem dX12_calm_27 : decode cX12_calm 27 = .ok (.ireturn, 1) := by decide +kernel
theorem dX12_calm_28 : decode cX12_calm 28 = .ok (.aload_n 0, 1) := by decide +kernel
theorem dX12_calm_29 : decode cX12_calm 29 = .ok (.invokevirtual 437, 3) := by decide +kernel
theorem dX12_calm_32 : decode cX12_calm 32 = .ok (.aload_n 0, 1) := by decide +kernel
theorem dX12_calm_33 : decode cX12_calm 33 = .ok (.getfield 149, 3) := by decide +kernel
theorem dX12_calm_36 : decode cX12_calm 36 = .ok (.iconst 0, 1) := by decide +kernel
theorem dX12_calm_37 : decode cX12_calm 37 = .ok (.iaload, 1) := by decide +kernel
theorem dX12_calm_38 : decode cX12_calm 38 = .ok (.bipush 99, 2) := by decide +kernel
theorem dX12_calm_40 : decode cX12_calm 40 = .ok (.if_icmp .gt 79, 3) := by decide +kernel
theorem dX12_calm_43 : decode cX12_calm 43 = .ok (.aload_n 0, 1) := by decide +kernel
theorem dX12_calm_44 : decode cX12_calm 44 = .ok (.iload_n 1, 1) := by decide +kernel
theorem dX12_calm_45 : decode cX12_calm 45 = .ok (.iload_n 2, 1) := by decide +kernel
theorem dX12_calm_46 : decode cX12_calm 46 = .ok (.iconst 1, 1) := by decide +kernel
theorem dX12_calm_47 : decode cX12_calm 47 = .ok (.iconst 0, 1) := by decide +kernel
theorem dX12_calm_48 : decode cX12_calm 48 = .ok (.invokevirtual 397, 3) := by decide +kernel
theorem dX12_calm_51 : decode cX12_calm 51 = .ok (.aload_n 0, 1) := by decide +kernel
theorem dX12_calm_52 : decode cX12_calm 52 = .ok (.getfield 149, 3) := by decide +kernel
theorem dX12_calm_55 : decode cX12_calm 55 = .ok (.iconst 0, 1) := by decide +kernel
theorem dX12_calm_56 : decode cX12_calm 56 = .ok (.iaload, 1) := by decide +kernel
theorem dX12_calm_57 : decode cX12_calm 57 = .ok (.aload_n 0, 1) := by decide +kernel
theorem dX12_calm_58 : decode cX12_calm 58 = .ok (.getfield 67, 3) := by decide +kernel
theorem dX12_calm_61 : decode cX12_calm 61 = .ok (.bipush 7, 2) := by decide +kernel
theorem dX12_calm_63 : decode cX12_calm 63 = .ok (.aload_n 0, 1) := by decide +kernel
theorem dX12_calm_64 : decode cX12_calm 64 = .ok (.getfield 266, 3) := by decide +kernel
theorem dX12_calm_67 : decode cX12_calm 67 = .ok (.imul, 1) := by decide +kernel
theorem dX12_calm_68 : decode cX12_calm 68 = .ok (.iload_n 1, 1) := by decide +kernel
theorem dX12_calm_69 : decode cX12_calm 69 = .ok (.iadd, 1) := by decide +kernel
theorem dX12_calm_70 : decode cX12_calm 70 = .ok (.iaload, 1) := by decide +kernel
theorem dX12_calm_71 : decode cX12_calm 71 = .ok (.if_icmp .le 7, 3) := by decide +kernel
theorem dX12_calm_74 : decode cX12_calm 74 = .ok (.iconst 0, 1) := by decide +kernel
theorem dX12_calm_75 : decode cX12_calm 75 = .ok (.goto 12, 3) := by decide +kernel
theorem dX12_calm_78 : decode cX12_calm 78 = .ok (.aload_n 0, 1) := by decide +kernel
theorem dX12_calm_79 : decode cX12_calm 79 = .ok (.iconst 0, 1) := by decide +kernel
theorem dX12_calm_80 : decode cX12_calm 80 = .ok (.bipush 50, 2) := by decide +kernel
theorem dX12_calm_82 : decode cX12_calm 82 = .ok (.bipush 100, 2) := by decide +kernel
theorem dX12_calm_84 : decode cX12_calm 84 = .ok (.invokevirtual 404, 3) := by decide +kernel
theorem dX12_calm_87 : decode cX12_calm 87 = .ok (.istore 4, 2) := by decide +kernel
theorem dX12_calm_89 : decode cX12_calm 89 = .ok (.iload 4, 2) := by decide +kernel
theorem dX12_calm_91 : decode cX12_calm 91 = .ok (.iload_n 3, 1) := by decide +kernel
theorem dX12_calm_92 : decode cX12_calm 92 = .ok (.if_icmp .lt 10, 3) := by decide +kernel
theorem dX12_calm_95 : decode cX12_calm 95 = .ok (.aload_n 0, 1) := by decide +kernel
theorem dX12_calm_96 : decode cX12_calm 96 = .ok (.getfield 149, 3) := by decide +kernel
theorem dX12_calm_99 : decode cX12_calm 99 = .ok (.iconst 0, 1) := by decide +kernel
theorem dX12_calm_100 : decode cX12_calm 100 = .ok (.iaload, 1) := by decide +kernel
theorem dX12_calm_101 : decode cX12_calm 101 = .ok (.ireturn, 1) := by decide +kernel
theorem dX12_calm_102 : decode cX12_calm 102 = .ok (.aload_n 0, 1) := by decide +kernel
theorem dX12_calm_103 : decode cX12_calm 103 = .ok (.invokevirtual 419, 3) := by decide +kernel
theorem dX12_calm_106 : decode cX12_calm 106 = .ok (.aload_n 0, 1) := by decide +kernel
theorem dX12_calm_107 : decode cX12_calm 107 = .ok (.getfield 149, 3) := by decide +kernel
theorem dX12_calm_110 : decode cX12_calm 110 = .ok (.iconst 0, 1) := by decide +kernel
theorem dX12_calm_111 : decode cX12_calm 111 = .ok (.dup2, 1) := by decide +kernel
theorem dX12_calm_112 : decode cX12_calm 112 = .ok (.iaload, 1) := by decide +kernel
theorem dX12_calm_113 : decode cX12_calm 113 = .ok (.iconst 1, 1) := by decide +kernel
theorem dX12_calm_114 : decode cX12_calm 114 = .ok (.iadd, 1) := by decide +kernel
theorem dX12_calm_115 : decode cX12_calm 115 = .ok (.iastore, 1) := by decide +kernel
theorem dX12_calm_116 : decode cX12_calm 116 = .ok (.goto (-84), 3) := by decide +kernel
theorem dX12_calm_119 : decode cX12_calm 119 = .ok (.bipush (-2), 2) := by decide +kernel
theorem dX12_calm_121 : decode cX12_calm 121 = .ok (.ireturn, 1) := by decide +kernel
def c_X12_calm_j87 {ρ : Type}  (z1 : Int32) (z2 : Int32) (z3 : Int32) (K1 : PH → Option ρ) (K2 : PH → Option ρ) (REC : PH → Option ρ) (y0 : Int32) (h : PH) : Option (ρ) :=
  nm y0 fun v8 =>
  if v8 < z3 then
    (c_X12_mendsAll h).bind fun h9 =>
    nm (setI h9 44 0 ((h9.1 44 0) + 1)) fun h10 =>
    REC h10
  else
    K1 h
set_option maxHeartbeats 4000000 in
set_option maxRecDepth 100000 in
theorem w_X12_calm_j87 {p0 : Program} {l : Launch} {e : Env} {s : State} {m : MethodId} {args : Array Value} {below : List Frame} {meth : Method} {c : Code} {Q : State → Prop} {D : va_G} {G : GG} {A : Nat → Prop} {H0 : Heap} {ad : Nat → Nat} {lay : List KK} {X : va_W} {ρ : Type} {r0 : ρ} {z1 : Int32} {z2 : Int32} {z3 : Int32} {y0 : Int32} {h : PH} {H : Heap} {locs : List Loc} {ls : Array Slot} {K1 : PH → Option ρ} {K2 : PH → Option ρ} {REC : PH → Option ρ} (hM : CallFix p0 m c cX12_calm 5 s args lw_g RX12) (ho : okX12 lay) (hk1 : ∀ (h : PH), ∀ (H : Heap) (locs : List Loc) (ls : Array Slot), K1 h = some r0 → Wd D G A H0 ad lay X h s H locs → lv_has ls 5 [(0, .ref (ad 0))] → W p0 l e (rmN 4 90) s m args below meth c H locs 0 0 Q (F0 m 95 ls [])) (hk2 : ∀ (h : PH), ∀ (H : Heap) (locs : List Loc) (ls : Array Slot), K2 h = some r0 → Wd D G A H0 ad lay X h s H locs → lv_has ls 5 [] → W p0 l e (rmN 4 90) s m args below meth c H locs 0 0 Q (F0 m 119 ls [])) (hrec : ∀ (h : PH), ∀ (H : Heap) (locs : List Loc) (ls : Array Slot), REC h = some r0 → Wd D G A H0 ad lay X h s H locs → lv_has ls 5 [(0, .ref (ad 0)), (1, .int z1), (2, .int z2), (3, .int z3)] → W p0 l e (rmN 4 90) s m args below meth c H locs 0 0 Q (F0 m 32 ls [])) (hw : Wd D G A H0 ad lay X h s H locs) (hl : lv_has ls 5 [(0, .ref (ad 0)), (1, .int z1), (2, .int z2), (3, .int z3)]) (hf : c_X12_calm_j87 z1 z2 z3 K1 K2 REC y0 h = some r0) : W p0 l e (rmN 4 90) s m args below meth c H locs 0 0 Q (F0 m 87 ls [.int y0]) := by
  unfold c_X12_calm_j87 at hf
  refine x_istore hM hf dX12_calm_87 hl (by decide) (fun v8 => [(4, .int v8), (0, .ref (ad 0)), (1, .int z1), (2, .int z2), (3, .int z3)]) (fun _ => rfl) (fun v8 ls hf hl => ?_)
  refine lv_iload hM.1 hM.2.1 dX12_calm_89 (lv_at hl 0 rfl) ?_
  refine lv_iload_n hM.1 hM.2.1 dX12_calm_91 rfl (lv_at hl 4 rfl) ?_
  refine x_ic_lt (tgt := 102) hM hf dX12_calm_92 (by decide) (fun hf => ?_) (fun hf => ?_)
  · refine lv_aload_n hM.1 hM.2.1 dX12_calm_102 rfl (lv_at hl 1 rfl) ?_
    refine x_callVV (rest := []) hM hw (ct_X12_mendsAll l ho) [] (okX12.o ho) rfl rfl rfl (gi_V ml_X12_419 im_X12_mendsAll sl_X12_mendsAll in_X12 kc_X12_mendsAll) hd_X12_mendsAll rfl ⟨Nat.le_of_ble_eq_true rfl, Nat.le_of_ble_eq_true rfl⟩ rfl (Nat.le_of_ble_eq_true rfl) hl.1 hcs0 hf dX12_calm_103 (fun h9 H locs hf hw => ?_)
    refine lv_aload_n hM.1 hM.2.1 dX12_calm_106 rfl (lv_at hl 1 rfl) ?_
    refine gf_X12_row hM hw (okX12.o ho) fl_X12_149 dX12_calm_107 ?_
    refine lv_iconst (v := 0) hM.1 hM.2.1 dX12_calm_110 ic_0 ?_
    refine lv_dup2_11 hM.1 hM.2.1 dX12_calm_111 rfl rfl ?_
    refine x_ialdK hM hw (okX12.row ho) 0 (by decide) (by decide) dX12_calm_112 ?_
    refine lv_iconst (v := 1) hM.1 hM.2.1 dX12_calm_113 ic_1 ?_
    refine lv_iadd hM.1 hM.2.1 dX12_calm_114 ?_
    refine x_iastK hM hw (okX12.row ho) 0 (by decide) (by decide) hf dX12_calm_115 (fun h10 H locs hf hw => ?_)
    refine lv_goto (tgt := 32) hM.1 hM.2.1 dX12_calm_116 (by decide) ?_
    exact hrec _ _ _ _ hf hw (lv_sub hl [1, 2, 3, 4] rfl)
  exact hk1 _ _ _ _ hf hw (lv_sub hl [1] rfl)
def c_X12_calm_L32b {ρ : Type}  (z1 : Int32) (z2 : Int32) (z3 : Int32) (K1 : PH → Option ρ) (K2 : PH → Option ρ) (REC : PH → Option ρ) (h : PH) : Option ρ :=
  if 99 < (h.1 44 0) then
    K2 h
  else
    (c_X12_looks z1 z2 1 0 h).bind fun h5 =>
    gd (ixOK ((7 * (h5.1 0 18)) + z1) 14) <|
    if (h5.1 44 0) ≤ (h5.1 17 ((7 * (h5.1 0 18)) + z1).toNatClampNeg) then
      bind2 (c_X12_asks 0 50 100 h5) fun r6 h7 =>
      c_X12_calm_j87 z1 z2 z3 K1 K2 REC r6 h7
    else
      c_X12_calm_j87 z1 z2 z3 K1 K2 REC 0 h5
set_option maxHeartbeats 4000000 in
set_option maxRecDepth 100000 in
theorem w_X12_calm_L32b {p0 : Program} {l : Launch} {e : Env} {s : State} {m : MethodId} {args : Array Value} {below : List Frame} {meth : Method} {c : Code} {Q : State → Prop} {D : va_G} {G : GG} {A : Nat → Prop} {H0 : Heap} {ad : Nat → Nat} {lay : List KK} {X : va_W} {ρ : Type} {r0 : ρ} {z1 : Int32} {z2 : Int32} {z3 : Int32} {h : PH} {H : Heap} {locs : List Loc} {ls : Array Slot} {K1 : PH → Option ρ} {K2 : PH → Option ρ} {REC : PH → Option ρ} (hM : CallFix p0 m c cX12_calm 5 s args lw_g RX12) (ho : okX12 lay) (hk1 : ∀ (h : PH), ∀ (H : Heap) (locs : List Loc) (ls : Array Slot), K1 h = some r0 → Wd D G A H0 ad lay X h s H locs → lv_has ls 5 [(0, .ref (ad 0))] → W p0 l e (rmN 4 90) s m args below meth c H locs 0 0 Q (F0 m 95 ls [])) (hk2 : ∀ (h : PH), ∀ (H : Heap) (locs : List Loc) (ls : Array Slot), K2 h = some r0 → Wd D G A H0 ad lay X h s H locs → lv_has ls 5 [] → W p0 l e (rmN 4 90) s m args below meth c H locs 0 0 Q (F0 m 119 ls [])) (hrec : ∀ (h : PH), ∀ (H : Heap) (locs : List Loc) (ls : Array Slot), REC h = some r0 → Wd D G A H0 ad lay X h s H locs → lv_has ls 5 [(0, .ref (ad 0)), (1, .int z1), (2, .int z2), (3, .int z3)] → W p0 l e (rmN 4 90) s m args below meth c H locs 0 0 Q (F0 m 32 ls [])) (hw : Wd D G A H0 ad lay X h s H locs) (hl : lv_has ls 5 [(0, .ref (ad 0)), (1, .int z1), (2, .int z2), (3, .int z3)]) (hf : c_X12_calm_L32b z1 z2 z3 K1 K2 REC h = some r0) : W p0 l e (rmN 4 90) s m args below meth c H locs 0 0 Q (F0 m 32 ls []) := by
  unfold c_X12_calm_L32b at hf
  refine lv_aload_n hM.1 hM.2.1 dX12_calm_32 rfl (lv_at hl 0 rfl) ?_
  refine gf_X12_row hM hw (okX12.o ho) fl_X12_149 dX12_calm_33 ?_
  refine lv_iconst (v := 0) hM.1 hM.2.1 dX12_calm_36 ic_0 ?_
  refine x_ialdK hM hw (okX12.row ho) 0 (by decide) (by decide) dX12_calm_37 ?_
  refine lv_bipush (v := 99) hM.1 hM.2.1 dX12_calm_38 (by decide) ?_
  refine x_ic_gt (tgt := 119) hM hf dX12_calm_40 (by decide) (fun hf => ?_) (fun hf => ?_)
  · exact hk2 _ _ _ _ hf hw (lv_sub hl [] rfl)
  refine lv_aload_n hM.1 hM.2.1 dX12_calm_43 rfl (lv_at hl 0 rfl) ?_
  refine lv_iload_n hM.1 hM.2.1 dX12_calm_44 rfl (lv_at hl 1 rfl) ?_
  refine lv_iload_n hM.1 hM.2.1 dX12_calm_45 rfl (lv_at hl 2 rfl) ?_
  refine lv_iconst (v := 1) hM.1 hM.2.1 dX12_calm_46 ic_1 ?_
  refine lv_iconst (v := 0) hM.1 hM.2.1 dX12_calm_47 ic_0 ?_
  refine x_callVV (rest := []) hM hw (ct_X12_looks l ho z1 z2 1 0) [.int z1, .int z2, .int 1, .int 0] (okX12.o ho) rfl rfl rfl (gi_V ml_X12_397 im_X12_looks sl_X12_looks in_X12 kc_X12_looks) hd_X12_looks rfl ⟨Nat.le_of_ble_eq_true rfl, Nat.le_of_ble_eq_true rfl⟩ rfl (Nat.le_of_ble_eq_true rfl) hl.1 hcs0 hf dX12_calm_48 (fun h5 H locs hf hw => ?_)
  refine lv_aload_n hM.1 hM.2.1 dX12_calm_51 rfl (lv_at hl 0 rfl) ?_
  refine gf_X12_row hM hw (okX12.o ho) fl_X12_149 dX12_calm_52 ?_
  refine lv_iconst (v := 0) hM.1 hM.2.1 dX12_calm_55 ic_0 ?_
  refine x_ialdK hM hw (okX12.row ho) 0 (by decide) (by decide) dX12_calm_56 ?_
  refine lv_aload_n hM.1 hM.2.1 dX12_calm_57 rfl (lv_at hl 0 rfl) ?_
  refine gf_X12_goodOf hM hw (okX12.o ho) fl_X12_67 dX12_calm_58 ?_
  refine lv_bipush (v := 7) hM.1 hM.2.1 dX12_calm_61 (by decide) ?_
  refine lv_aload_n hM.1 hM.2.1 dX12_calm_63 rfl (lv_at hl 0 rfl) ?_
  refine gf_X12_live hM hw (okX12.o ho) fl_X12_266 dX12_calm_64 ?_
  refine lv_imul hM.1 hM.2.1 dX12_calm_67 ?_
  refine lv_iload_n hM.1 hM.2.1 dX12_calm_68 rfl (lv_at hl 1 rfl) ?_
  refine lv_iadd hM.1 hM.2.1 dX12_calm_69 ?_
  refine x_iald hM hw (okX12.goodOf ho) hf dX12_calm_70 (fun hf => ?_)
  refine x_ic_le (tgt := 78) hM hf dX12_calm_71 (by decide) (fun hf => ?_) (fun hf => ?_)
  · refine lv_aload_n hM.1 hM.2.1 dX12_calm_78 rfl (lv_at hl 0 rfl) ?_
    refine lv_iconst (v := 0) hM.1 hM.2.1 dX12_calm_79 ic_0 ?_
    refine lv_bipush (v := 50) hM.1 hM.2.1 dX12_calm_80 (by decide) ?_
    refine lv_bipush (v := 100) hM.1 hM.2.1 dX12_calm_82 (by decide) ?_
    refine x_callVI (rest := []) hM hw (ct_X12_asks l ho 0 50 100) [.int 0, .int 50, .int 100] (okX12.o ho) rfl rfl rfl (gi_V ml_X12_404 im_X12_asks sl_X12_asks in_X12 kc_X12_asks) hd_X12_asks rfl ⟨Nat.le_of_ble_eq_true rfl, Nat.le_of_ble_eq_true rfl⟩ rfl (Nat.le_of_ble_eq_true rfl) hl.1 hcs0 hf dX12_calm_84 (fun r6 h7 H locs hf hw => ?_)
    exact w_X12_calm_j87 hM ho hk1 hk2 hrec hw hl hf
  refine lv_iconst (v := 0) hM.1 hM.2.1 dX12_calm_74 ic_0 ?_
  refine lv_goto (tgt := 87) hM.1 hM.2.1 dX12_calm_75 (by decide) ?_
  exact w_X12_calm_j87 hM ho hk1 hk2 hrec hw hl hf
set_option maxHeartbeats 4000000 in
set_option maxRecDepth 100000 in
theorem w_X12_calm_L32 {p0 : Program} {l : Launch} {e : Env} {s : State} {m : MethodId} {args : Array Value} {below : List Frame} {meth : Method} {c : Code} {Q : State → Prop} {D : va_G} {G : GG} {A : Nat → Prop} {H0 : Heap} {ad : Nat → Nat} {lay : List KK} {X : va_W} {ρ : Type} {r0 : ρ} {z1 : Int32} {z2 : Int32} {z3 : Int32} {K1 : PH → Option ρ} {K2 : PH → Option ρ} (hM : CallFix p0 m c cX12_calm 5 s args lw_g RX12) (ho : okX12 lay) (hk1 : ∀ (h : PH), ∀ (H : Heap) (locs : List Loc) (ls : Array Slot), K1 h = some r0 → Wd D G A H0 ad lay X h s H locs → lv_has ls 5 [(0, .ref (ad 0))] → W p0 l e (rmN 4 90) s m args below meth c H locs 0 0 Q (F0 m 95 ls [])) (hk2 : ∀ (h : PH), ∀ (H : Heap) (locs : List Loc) (ls : Array Slot), K2 h = some r0 → Wd D G A H0 ad lay X h s H locs → lv_has ls 5 [] → W p0 l e (rmN 4 90) s m args below meth c H locs 0 0 Q (F0 m 119 ls [])) (n : Nat) (h : PH) (hf : lq1 (c_X12_calm_L32b z1 z2 z3 K1 K2) n h = some r0) : ∀ (H : Heap) (locs : List Loc) (ls : Array Slot), Wd D G A H0 ad lay X h s H locs → lv_has ls 5 [(0, .ref (ad 0)), (1, .int z1), (2, .int z2), (3, .int z3)] → W p0 l e (rmN 4 90) s m args below meth c H locs 0 0 Q (F0 m 32 ls []) := by
  exact lq1_i (fun (h : PH) => ∀ (H : Heap) (locs : List Loc) (ls : Array Slot), Wd D G A H0 ad lay X h s H locs → lv_has ls 5 [(0, .ref (ad 0)), (1, .int z1), (2, .int z2), (3, .int z3)] → W p0 l e (rmN 4 90) s m args below meth c H locs 0 0 Q (F0 m 32 ls [])) (fun REC h ih hf H locs ls hw hl => w_X12_calm_L32b hM ho hk1 hk2 (fun h H locs ls hf hw hl => ih h hf H locs ls hw hl) hw hl hf) n h hf
def c_X12_calm (a1 : Int32) (a2 : Int32) (a3 : Int32) (h : PH) : Option (Int32 × PH) :=
  (c_X12_isExcuse a1 h).bind fun r1 =>
  if r1 = 0 then
    some ((-1), h)
  else
    (c_X12_isMan a2 h).bind fun r2 =>
    if r2 = 0 then
      some ((-1), h)
    else
      (c_X12_in a3 0 100).bind fun r3 =>
      if r3 = 0 then
        some ((-1), h)
      else
        (c_X12_copies h).bind fun h4 =>
        lq1 (c_X12_calm_L32b a1 a2 a3
          (fun h11 =>
            some ((h11.1 44 0), h11))
          (fun h12 =>
            some ((-2), h12))) fu h4
set_option maxHeartbeats 4000000 in
set_option maxRecDepth 100000 in
theorem ct_X12_calm (l : Launch) {lay : List KK} (ho : okX12 lay) (a1 : Int32) (a2 : Int32) (a3 : Int32) : CtI l yX12_calm cX12_calm 5 (some .int) 4 90 lay (fun h => c_X12_calm a1 a2 a3 h) (fun ad => [.ref (ad 0), .int a1, .int a2, .int a3]) := by
  refine CtI.mk' RX12 (by decide) rfl (fun _ => Nat.le_of_ble_eq_true rfl) ?_
  intro p0 e s m args below meth c D G A H0 ad X h r0 H ls Q hM hw hl hf hR
  have hl : lv_has ls 5 [(0, .ref (ad 0)), (1, .int a1), (2, .int a2), (3, .int a3)] := hl
  unfold c_X12_calm at hf
  refine lv_aload_n hM.1 hM.2.1 dX12_calm_0 rfl (lv_at hl 0 rfl) ?_
  refine lv_iload_n hM.1 hM.2.1 dX12_calm_1 rfl (lv_at hl 1 rfl) ?_
  refine x_callVIr (rest := []) hM hw (ct_X12_isExcuse l ho a1) [.int a1] (okX12.o ho) rfl rfl rfl (gi_V ml_X12_428 im_X12_isExcuse sl_X12_isExcuse in_X12 kc_X12_isExcuse) hd_X12_isExcuse rfl ⟨Nat.le_of_ble_eq_true rfl, Nat.le_of_ble_eq_true rfl⟩ rfl (Nat.le_of_ble_eq_true rfl) hl.1 hcs0 hf dX12_calm_2 (fun r1 H locs hf hw => ?_)
  refine x_if_eq (tgt := 26) hM hf dX12_calm_5 (by decide) (fun hf => ?_) (fun hf => ?_)
  · refine lv_iconst (v := (-1)) hM.1 hM.2.1 dX12_calm_26 ic_m1 ?_
    exact hR _ _ _ _ _ _ _ (Option.some.inj hf) rfl rfl hw dX12_calm_27
  refine lv_aload_n hM.1 hM.2.1 dX12_calm_8 rfl (lv_at hl 0 rfl) ?_
  refine lv_iload_n hM.1 hM.2.1 dX12_calm_9 rfl (lv_at hl 2 rfl) ?_
  refine x_callVIr (rest := []) hM hw (ct_X12_isMan l ho a2) [.int a2] (okX12.o ho) rfl rfl rfl (gi_V ml_X12_425 im_X12_isMan sl_X12_isMan in_X12 kc_X12_isMan) hd_X12_isMan rfl ⟨Nat.le_of_ble_eq_true rfl, Nat.le_of_ble_eq_true rfl⟩ rfl (Nat.le_of_ble_eq_true rfl) hl.1 hcs0 hf dX12_calm_10 (fun r2 H locs hf hw => ?_)
  refine x_if_eq (tgt := 26) hM hf dX12_calm_13 (by decide) (fun hf => ?_) (fun hf => ?_)
  · refine lv_iconst (v := (-1)) hM.1 hM.2.1 dX12_calm_26 ic_m1 ?_
    exact hR _ _ _ _ _ _ _ (Option.some.inj hf) rfl rfl hw dX12_calm_27
  refine lv_iload_n hM.1 hM.2.1 dX12_calm_16 rfl (lv_at hl 3 rfl) ?_
  refine lv_iconst (v := 0) hM.1 hM.2.1 dX12_calm_17 ic_0 ?_
  refine lv_bipush (v := 100) hM.1 hM.2.1 dX12_calm_18 (by decide) ?_
  refine x_callSIr (rest := []) hM hw (ct_X12_in l a3 0 100) [.int a3, .int 0, .int 100] rfl (gi_S ml_X12_359 sm_X12_in in_X12 kc_X12_in) hd_X12_in rfl ⟨Nat.le_of_ble_eq_true rfl, Nat.le_of_ble_eq_true rfl⟩ rfl (Nat.le_of_ble_eq_true rfl) hl.1 hcs0 hf dX12_calm_20 (fun r3 H locs hf hw => ?_)
  refine x_if_ne (tgt := 28) hM hf dX12_calm_23 (by decide) (fun hf => ?_) (fun hf => ?_)
  · refine lv_aload_n hM.1 hM.2.1 dX12_calm_28 rfl (lv_at hl 0 rfl) ?_
    refine x_callVV (rest := []) hM hw (ct_X12_copies l ho) [] (okX12.o ho) rfl rfl rfl (gi_V ml_X12_437 im_X12_copies sl_X12_copies in_X12 kc_X12_copies) hd_X12_copies rfl ⟨Nat.le_of_ble_eq_true rfl, Nat.le_of_ble_eq_true rfl⟩ rfl (Nat.le_of_ble_eq_true rfl) hl.1 hcs0 hf dX12_calm_29 (fun h4 H locs hf hw => ?_)
    refine w_X12_calm_L32 hM ho (fun h11 H locs ls hf hw hl => ?_) (fun h12 H locs ls hf hw hl => ?_) fu _ hf _ _ _ hw hl
    · refine lv_aload_n hM.1 hM.2.1 dX12_calm_95 rfl (lv_at hl 0 rfl) ?_
      refine gf_X12_row hM hw (okX12.o ho) fl_X12_149 dX12_calm_96 ?_
      refine lv_iconst (v := 0) hM.1 hM.2.1 dX12_calm_99 ic_0 ?_
      refine x_ialdK hM hw (okX12.row ho) 0 (by decide) (by decide) dX12_calm_100 ?_
      exact hR _ _ _ _ _ _ _ (Option.some.inj hf) rfl rfl hw dX12_calm_101
    · refine lv_bipush (v := (-2)) hM.1 hM.2.1 dX12_calm_119 (by decide) ?_
      exact hR _ _ _ _ _ _ _ (Option.some.inj hf) rfl rfl hw dX12_calm_121
  refine lv_iconst (v := (-1)) hM.1 hM.2.1 dX12_calm_26 ic_m1 ?_
  exact hR _ _ _ _ _ _ _ (Option.some.inj hf) rfl rfl hw dX12_calm_27
theorem hd_X12_calm : yX12_calm.cls = RX12 ∧ yX12_calm.cls ≠ "java/lang/invoke/MethodHandle" ∧ yX12_calm.cls ≠ "java/lang/invoke/VarHandle" ∧ (parseMethodDescriptor yX12_calm.desc).map (fun d => d.parameters.length) = some 3 := ⟨rfl, by decide, by decide, by decide +kernel⟩
theorem dX12_say_0 : decode cX12_say 0 = .ok (.aload_n 0, 1) := by decide +kernel
theorem dX12_say_1 : decode cX12_say 1 = .ok (.getfield 287, 3) := by decide +kernel
theorem dX12_say_4 : decode cX12_say 4 = .ok (.bipush 20, 2) := by decide +kernel
theorem dX12_say_6 : decode cX12_say 6 = .ok (.if_icmp .eq 45, 3) := by decide +kernel
theorem dX12_say_9 : decode cX12_say 9 = .ok (.iload_n 1, 1) := by decide +kernel
theorem dX12_say_10 : decode cX12_say 10 = .ok (.iconst 0, 1) := by decide +kernel
theorem dX12_say_11 : decode cX12_say 11 = .ok (.bipush 9, 2) := by decide +kernel
theorem dX12_say_13 : decode cX12_say 13 = .ok (.invokestatic 359, 3) := by decide +kernel
theorem dX12_say_16 : decode cX12_say 16 = .ok (.ifCond .eq 35, 3) := by decide +kernel
theorem dX12_say_19 : decode cX12_say 19 = .ok (.iload_n 2, 1) := by decide +kernel
theorem dX12_say_20 : decode cX12_say 20 = .ok (.iconst 0, 1) := by decide +kernel
theorem dX12_say_21 : decode cX12_say 21 = .ok (.bipush 120, 2) := by decide +kernel
theorem dX12_say_23 : decode cX12_say 23 = .ok (.invokestatic 359, 3) := by decide +kernel
theorem dX12_say_26 : decode cX12_say 26 = .ok (.ifCond .eq 25, 3) := by decide +kernel
theorem dX12_say_29 : decode cX12_say 29 = .ok (.iload_n 3, 1) := by decide +kernel
theorem dX12_say_30 : decode cX12_say 30 = .ok (.iload_n 2, 1) := by decide +kernel
theorem dX12_say_31 : decode cX12_say 31 = .ok (.bipush 120, 2) := by decide +kernel
theorem dX12_say_33 : decode cX12_say 33 = .ok (.invokestatic 359, 3) := by decide +kernel
theorem dX12_say_36 : decode cX12_say 36 = .ok (.ifCond .eq 15, 3) := by decide +kernel
theorem dX12_say_39 : decode cX12_say 39 = .ok (.iload 4, 2) := by decide +kernel
theorem dX12_say_41 : decode cX12_say 41 = .ok (.iconst 0, 1) := by decide +kernel
theorem dX12_say_42 : decode cX12_say 42 = .ok (.sipush 9999, 3) := by decide +kernel
theorem dX12_say_45 : decode cX12_say 45 = .ok (.invokestatic 359, 3) := by decide +kernel
theorem dX12_say_48 : decode cX12_say 48 = .ok (.ifCond .ne 5, 3) := by decide +kernel
theorem dX12_say_51 : decode cX12_say 51 = .ok (.iconst (-1), 1) := by decide +kernel
theorem dX12_say_52 : decode cX12_say 52 = .ok (.ireturn, 1) := by decide +kernel
theorem dX12_say_53 : decode cX12_say 53 = .ok (.aload_n 0, 1) := by decide +kernel
theorem dX12_say_54 : decode cX12_say 54 = .ok (.getfield 155, 3) := by decide +kernel
theorem dX12_say_57 : decode cX12_say 57 = .ok (.aload_n 0, 1) := by decide +kernel
theorem dX12_say_58 : decode cX12_say 58 = .ok (.getfield 287, 3) := by decide +kernel
theorem dX12_say_61 : decode cX12_say 61 = .ok (.iload_n 1, 1) := by decide +kernel
theorem dX12_say_62 : decode cX12_say 62 = .ok (.iastore, 1) := by decide +kernel
theorem dX12_say_63 : decode cX12_say 63 = .ok (.aload_n 0, 1) := by decide +kernel
theorem dX12_say_64 : decode cX12_say 64 = .ok (.getfield 158, 3) := by decide +kernel
theorem dX12_say_67 : decode cX12_say 67 = .ok (.aload_n 0, 1) := by decide +kernel
theorem dX12_say_68 : decode cX12_say 68 = .ok (.getfield 287, 3) := by decide +kernel
theorem dX12_say_71 : decode cX12_say 71 = .ok (.iload_n 2, 1) := by decide +kernel
theorem dX12_say_72 : decode cX12_say 72 = .ok (.iastore, 1) := by decide +kernel
theorem dX12_say_73 : decode cX12_say 73 = .ok (.aload_n 0, 1) := by decide +kernel
theorem dX12_say_74 : decode cX12_say 74 = .ok (.getfield 161, 3) := by decide +kernel
theorem dX12_say_77 : decode cX12_say 77 = .ok (.aload_n 0, 1) := by decide +kernel
theorem dX12_say_78 : decode cX12_say 78 = .ok (.getfield 287, 3) := by decide +kernel
theorem dX12_say_81 : decode cX12_say 81 = .ok (.iload_n 3, 1) := by decide +kernel
theorem dX12_say_82 : decode cX12_say 82 = .ok (.iastore, 1) := by decide +kernel
theorem dX12_say_83 : decode cX12_say 83 = .ok (.aload_n 0, 1) := by decide +kernel
theorem dX12_say_84 : decode cX12_say 84 = .ok (.getfield 164, 3) := by decide +kernel
theorem dX12_say_87 : decode cX12_say 87 = .ok (.aload_n 0, 1) := by decide +kernel
theorem dX12_say_88 : decode cX12_say 88 = .ok (.getfield 287, 3) := by decide +kernel
theorem dX12_say_91 : decode cX12_say 91 = .ok (.iload 4, 2) := by decide +kernel
theorem dX12_say_93 : decode cX12_say 93 = .ok (.iastore, 1) := by decide +kernel
theorem dX12_say_94 : decode cX12_say 94 = .ok (.aload_n 0, 1) := by decide +kernel
theorem dX12_say_95 : decode cX12_say 95 = .ok (.dup, 1) := by decide +kernel
theorem dX12_say_96 : decode cX12_say 96 = .ok (.getfield 287, 3) := by decide +kernel
theorem dX12_say_99 : decode cX12_say 99 = .ok (.iconst 1, 1) := by decide +kernel
theorem dX12_say_100 : decode cX12_say 100 = .ok (.iadd, 1) := by decide +kernel
theorem dX12_say_101 : decode cX12_say 101 = .ok (.putfield 287, 3) := by decide +kernel
theorem dX12_say_104 : decode cX12_say 104 = .ok (.aload_n 0, 1) := by decide +kernel
theorem dX12_say_105 : decode cX12_say 105 = .ok (.getfield 287, 3) := by decide +kernel
theorem dX12_say_108 : decode cX12_say 108 = .ok (.iconst 1, 1) := by decide +kernel
theorem dX12_say_109 : decode cX12_say 109 = .ok (.isub, 1) := by decide +kernel
theorem dX12_say_110 : decode cX12_say 110 = .ok (.ireturn, 1) := by decide +kernel
def c_X12_say (a1 : Int32) (a2 : Int32) (a3 : Int32) (a4 : Int32) (h : PH) : Option (Int32 × PH) :=
  if (h.1 0 67) = 20 then
    some ((-1), h)
  else
    (c_X12_in a1 0 9).bind fun r1 =>
    if r1 = 0 then
      some ((-1), h)
    else
      (c_X12_in a2 0 120).bind fun r2 =>
      if r2 = 0 then
        some ((-1), h)
      else
        (c_X12_in a3 a2 120).bind fun r3 =>
        if r3 = 0 then
          some ((-1), h)
        else
          (c_X12_in a4 0 9999).bind fun r4 =>
          if r4 = 0 then
            some ((-1), h)
          else
            gd (ixOK (h.1 0 67) 20) <| nm (setI h 46 (h.1 0 67).toNatClampNeg a1) fun h5 =>
            gd (ixOK (h5.1 0 67) 20) <| nm (setI h5 47 (h5.1 0 67).toNatClampNeg a2) fun h6 =>
            gd (ixOK (h6.1 0 67) 20) <| nm (setI h6 48 (h6.1 0 67).toNatClampNeg a3) fun h7 =>
            gd (ixOK (h7.1 0 67) 20) <| nm (setI h7 49 (h7.1 0 67).toNatClampNeg a4) fun h8 =>
            nm (setI h8 0 67 ((h8.1 0 67) + 1)) fun h9 =>
            some (((h9.1 0 67) - 1), h9)
set_option maxHeartbeats 4000000 in
set_option maxRecDepth 100000 in
theorem ct_X12_say (l : Launch) {lay : List KK} (ho : okX12 lay) (a1 : Int32) (a2 : Int32) (a3 : Int32) (a4 : Int32) : CtI l yX12_say cX12_say 5 (some .int) 1 22 lay (fun h => c_X12_say a1 a2 a3 a4 h) (fun ad => [.ref (ad 0), .int a1, .int a2, .int a3, .int a4]) := by
  refine CtI.mk' RX12 (by decide) rfl (fun _ => Nat.le_of_ble_eq_true rfl) ?_
  intro p0 e s m args below meth c D G A H0 ad X h r0 H ls Q hM hw hl hf hR
  have hl : lv_has ls 5 [(0, .ref (ad 0)), (1, .int a1), (2, .int a2), (3, .int a3), (4, .int a4)] := hl
  unfold c_X12_say at hf
  refine lv_aload_n hM.1 hM.2.1 dX12_say_0 rfl (lv_at hl 0 rfl) ?_
  refine gf_X12_saids hM hw (okX12.o ho) fl_X12_287 dX12_say_1 ?_
  refine lv_bipush (v := 20) hM.1 hM.2.1 dX12_say_4 (by decide) ?_
  refine x_ic_eq (tgt := 51) hM hf dX12_say_6 (by decide) (fun hf => ?_) (fun hf => ?_)
  · refine lv_iconst (v := (-1)) hM.1 hM.2.1 dX12_say_51 ic_m1 ?_
    exact hR _ _ _ _ _ _ _ (Option.some.inj hf) rfl rfl hw dX12_say_52
  refine lv_iload_n hM.1 hM.2.1 dX12_say_9 rfl (lv_at hl 1 rfl) ?_
  refine lv_iconst (v := 0) hM.1 hM.2.1 dX12_say_10 ic_0 ?_
  refine lv_bipush (v := 9) hM.1 hM.2.1 dX12_say_11 (by decide) ?_
  refine x_callSIr (rest := []) hM hw (ct_X12_in l a1 0 9) [.int a1, .int 0, .int 9] rfl (gi_S ml_X12_359 sm_X12_in in_X12 kc_X12_in) hd_X12_in rfl ⟨Nat.le_of_ble_eq_true rfl, Nat.le_of_ble_eq_true rfl⟩ rfl (Nat.le_of_ble_eq_true rfl) hl.1 hcs0 hf dX12_say_13 (fun r1 H locs hf hw => ?_)
  refine x_if_eq (tgt := 51) hM hf dX12_say_16 (by decide) (fun hf => ?_) (fun hf => ?_)
  · refine lv_iconst (v := (-1)) hM.1 hM.2.1 dX12_say_51 ic_m1 ?_
    exact hR _ _ _ _ _ _ _ (Option.some.inj hf) rfl rfl hw dX12_say_52
  refine lv_iload_n hM.1 hM.2.1 dX12_say_19 rfl (lv_at hl 2 rfl) ?_
  refine lv_iconst (v := 0) hM.1 hM.2.1 dX12_say_20 ic_0 ?_
  refine lv_bipush (v := 120) hM.1 hM.2.1 dX12_say_21 (by decide) ?_
  refine x_callSIr (rest := []) hM hw (ct_X12_in l a2 0 120) [.int a2, .int 0, .int 120] rfl (gi_S ml_X12_359 sm_X12_in in_X12 kc_X12_in) hd_X12_in rfl ⟨Nat.le_of_ble_eq_true rfl, Nat.le_of_ble_eq_true rfl⟩ rfl (Nat.le_of_ble_eq_true rfl) hl.1 hcs0 hf dX12_say_23 (fun r2 H locs hf hw => ?_)
  refine x_if_eq (tgt := 51) hM hf dX12_say_26 (by decide) (fun hf => ?_) (fun hf => ?_)
  · refine lv_iconst (v := (-1)) hM.1 hM.2.1 dX12_say_51 ic_m1 ?_
    exact hR _ _ _ _ _ _ _ (Option.some.inj hf) rfl rfl hw dX12_say_52
  refine lv_iload_n hM.1 hM.2.1 dX12_say_29 rfl (lv_at hl 3 rfl) ?_
  refine lv_iload_n hM.1 hM.2.1 dX12_say_30 rfl (lv_at hl 2 rfl) ?_
  refine lv_bipush (v := 120) hM.1 hM.2.1 dX12_say_31 (by decide) ?_
  refine x_callSIr (rest := []) hM hw (ct_X12_in l a3 a2 120) [.int a3, .int a2, .int 120] rfl (gi_S ml_X12_359 sm_X12_in in_X12 kc_X12_in) hd_X12_in rfl ⟨Nat.le_of_ble_eq_true rfl, Nat.le_of_ble_eq_true rfl⟩ rfl (Nat.le_of_ble_eq_true rfl) hl.1 hcs0 hf dX12_say_33 (fun r3 H locs hf hw => ?_)
  refine x_if_eq (tgt := 51) hM hf dX12_say_36 (by decide) (fun hf => ?_) (fun hf => ?_)
  · refine lv_iconst (v := (-1)) hM.1 hM.2.1 dX12_say_51 ic_m1 ?_
    exact hR _ _ _ _ _ _ _ (Option.some.inj hf) rfl rfl hw dX12_say_52
  refine lv_iload hM.1 hM.2.1 dX12_say_39 (lv_at hl 4 rfl) ?_
  refine lv_iconst (v := 0) hM.1 hM.2.1 dX12_say_41 ic_0 ?_
  refine lv_sipush (v := 9999) hM.1 hM.2.1 dX12_say_42 (by decide) ?_
  refine x_callSIr (rest := []) hM hw (ct_X12_in l a4 0 9999) [.int a4, .int 0, .int 9999] rfl (gi_S ml_X12_359 sm_X12_in in_X12 kc_X12_in) hd_X12_in rfl ⟨Nat.le_of_ble_eq_true rfl, Nat.le_of_ble_eq_true rfl⟩ rfl (Nat.le_of_ble_eq_true rfl) hl.1 hcs0 hf dX12_say_45 (fun r4 H locs hf hw => ?_)
  refine x_if_ne (tgt := 53) hM hf dX12_say_48 (by decide) (fun hf => ?_) (fun hf => ?_)
  · refine lv_aload_n hM.1 hM.2.1 dX12_say_53 rfl (lv_at hl 0 rfl) ?_
    refine gf_X12_saidKind hM hw (okX12.o ho) fl_X12_155 dX12_say_54 ?_
    refine lv_aload_n hM.1 hM.2.1 dX12_say_57 rfl (lv_at hl 0 rfl) ?_
    refine gf_X12_saids hM hw (okX12.o ho) fl_X12_287 dX12_say_58 ?_
    refine lv_iload_n hM.1 hM.2.1 dX12_say_61 rfl (lv_at hl 1 rfl) ?_
    refine x_iast hM hw (okX12.saidKind ho) hf dX12_say_62 (fun h5 H locs hf hw => ?_)
    refine lv_aload_n hM.1 hM.2.1 dX12_say_63 rfl (lv_at hl 0 rfl) ?_
    refine gf_X12_saidLeast hM hw (okX12.o ho) fl_X12_158 dX12_say_64 ?_
    refine lv_aload_n hM.1 hM.2.1 dX12_say_67 rfl (lv_at hl 0 rfl) ?_
    refine gf_X12_saids hM hw (okX12.o ho) fl_X12_287 dX12_say_68 ?_
    refine lv_iload_n hM.1 hM.2.1 dX12_say_71 rfl (lv_at hl 2 rfl) ?_
    refine x_iast hM hw (okX12.saidLeast ho) hf dX12_say_72 (fun h6 H locs hf hw => ?_)
    refine lv_aload_n hM.1 hM.2.1 dX12_say_73 rfl (lv_at hl 0 rfl) ?_
    refine gf_X12_saidMost hM hw (okX12.o ho) fl_X12_161 dX12_say_74 ?_
    refine lv_aload_n hM.1 hM.2.1 dX12_say_77 rfl (lv_at hl 0 rfl) ?_
    refine gf_X12_saids hM hw (okX12.o ho) fl_X12_287 dX12_say_78 ?_
    refine lv_iload_n hM.1 hM.2.1 dX12_say_81 rfl (lv_at hl 3 rfl) ?_
    refine x_iast hM hw (okX12.saidMost ho) hf dX12_say_82 (fun h7 H locs hf hw => ?_)
    refine lv_aload_n hM.1 hM.2.1 dX12_say_83 rfl (lv_at hl 0 rfl) ?_
    refine gf_X12_saidDay hM hw (okX12.o ho) fl_X12_164 dX12_say_84 ?_
    refine lv_aload_n hM.1 hM.2.1 dX12_say_87 rfl (lv_at hl 0 rfl) ?_
    refine gf_X12_saids hM hw (okX12.o ho) fl_X12_287 dX12_say_88 ?_
    refine lv_iload hM.1 hM.2.1 dX12_say_91 (lv_at hl 4 rfl) ?_
    refine x_iast hM hw (okX12.saidDay ho) hf dX12_say_93 (fun h8 H locs hf hw => ?_)
    refine lv_aload_n hM.1 hM.2.1 dX12_say_94 rfl (lv_at hl 0 rfl) ?_
    refine lv_dup hM.1 hM.2.1 dX12_say_95 rfl ?_
    refine gf_X12_saids hM hw (okX12.o ho) fl_X12_287 dX12_say_96 ?_
    refine lv_iconst (v := 1) hM.1 hM.2.1 dX12_say_99 ic_1 ?_
    refine lv_iadd hM.1 hM.2.1 dX12_say_100 ?_
    refine pf_X12_saids hM hw (okX12.o ho) fl_X12_287 hf dX12_say_101 (fun h9 H locs hf hw => ?_)
    refine lv_aload_n hM.1 hM.2.1 dX12_say_104 rfl (lv_at hl 0 rfl) ?_
    refine gf_X12_saids hM hw (okX12.o ho) fl_X12_287 dX12_say_105 ?_
    refine lv_iconst (v := 1) hM.1 hM.2.1 dX12_say_108 ic_1 ?_
    refine lv_isub hM.1 hM.2.1 dX12_say_109 ?_
    exact hR _ _ _ _ _ _ _ (Option.some.inj hf) rfl rfl hw dX12_say_110
  refine lv_iconst (v := (-1)) hM.1 hM.2.1 dX12_say_51 ic_m1 ?_
  exact hR _ _ _ _ _ _ _ (Option.some.inj hf) rfl rfl hw dX12_say_52
theorem hd_X12_say : yX12_say.cls = RX12 ∧ yX12_say.cls ≠ "java/lang/invoke/MethodHandle" ∧ yX12_say.cls ≠ "java/lang/invoke/VarHandle" ∧ (parseMethodDescriptor yX12_say.desc).map (fun d => d.parameters.length) = some 4 := ⟨rfl, by decide, by decide, by decide +kernel⟩
theorem dX12_span_0 : decode cX12_span 0 = .ok (.iload_n 1, 1) := by decide +kernel
theorem dX12_span_1 : decode cX12_span 1 = .ok (.iconst 0, 1) := by decide +kernel
theorem dX12_span_2 : decode cX12_span 2 = .ok (.bipush 9, 2) := by decide +kernel
theorem dX12_span_4 : decode cX12_span 4 = .ok (.invokestatic 359, 3) := by decide +kernel
theorem dX12_span_7 : decode cX12_span 7 = .ok (.ifCond .eq 24, 3) := by decide +kernel
theorem dX12_span_10 : decode cX12_span 10 = .ok (.iload_n 2, 1) := by decide +kernel
theorem dX12_span_11 : decode cX12_span 11 = .ok (.iconst 0, 1) := by decide +kernel
theorem dX12_span_12 : decode cX12_span 12 = .ok (.aload_n 0, 1) := by decide +kernel
theorem dX12_span_13 : decode cX12_span 13 = .ok (.getfield 287, 3) := by decide +kernel
theorem dX12_span_16 : decode cX12_span 16 = .ok (.invokestatic 359, 3) := by decide +kernel
theorem dX12_span_19 : decode cX12_span 19 = .ok (.ifCond .eq 12, 3) := by decide +kernel
theorem dX12_span_22 : decode cX12_span 22 = .ok (.iload_n 3, 1) := by decide +kernel
theorem dX12_span_23 : decode cX12_span 23 = .ok (.iconst 0, 1) := by decide +kernel
theorem dX12_span_24 : decode cX12_span 24 = .ok (.iconst 1, 1) := by decide +kernel
theorem dX12_span_25 : decode cX12_span 25 = .ok (.invokestatic 359, 3) := by decide +kernel
theorem dX12_span_28 : decode cX12_span 28 = .ok (.ifCond .ne 5, 3) := by decide +kernel
theorem dX12_span_31 : decode cX12_span 31 = .ok (.iconst (-1), 1) := by decide +kernel
theorem dX12_span_32 : decode cX12_span 32 = .ok (.ireturn, 1) := by decide +kernel
theorem dX12_span_33 : decode cX12_span 33 = .ok (.iconst 0, 1) := by decide +kernel
theorem dX12_span_34 : decode cX12_span 34 = .ok (.istore 4, 2) := by decide +kernel
theorem dX12_span_36 : decode cX12_span 36 = .ok (.bipush 120, 2) := by decide +kernel
theorem dX12_span_38 : decode cX12_span 38 = .ok (.istore 5, 2) := by decide +kernel
theorem dX12_span_40 : decode cX12_span 40 = .ok (.iconst 0, 1) := by decide +kernel
theorem dX12_span_41 : decode cX12_span 41 = .ok (.istore 6, 2) := by decide +kernel
theorem dX12_span_43 : decode cX12_span 43 = .ok (.iload 6, 2) := by decide +kernel
theorem dX12_span_45 : decode cX12_span 45 = .ok (.iload_n 2, 1) := by decide +kernel
theorem dX12_span_46 : decode cX12_span 46 = .ok (.if_icmp .ge 90, 3) := by decide +kernel
theorem dX12_span_49 : decode cX12_span 49 = .ok (.aload_n 0, 1) := by decide +kernel
theorem dX12_span_50 : decode cX12_span 50 = .ok (.getfield 155, 3) := by decide +kernel
theorem dX12_span_53 : decode cX12_span 53 = .ok (.iload 6, 2) := by decide +kernel
theorem dX12_span_55 : decode cX12_span 55 = .ok (.iaload, 1) := by decide +kernel
theorem dX12_span_56 : decode cX12_span 56 = .ok (.iload_n 1, 1) := by decide +kernel
theorem dX12_span_57 : decode cX12_span 57 = .ok (.if_icmp .eq 6, 3) := by decide +kernel
theorem dX12_span_60 : decode cX12_span 60 = .ok (.goto 70, 3) := by decide +kernel
theorem dX12_span_63 : decode cX12_span 63 = .ok (.aload_n 0, 1) := by decide +kernel
theorem dX12_span_64 : decode cX12_span 64 = .ok (.getfield 164, 3) := by decide +kernel
theorem dX12_span_67 : decode cX12_span 67 = .ok (.iload 6, 2) := by decide +kernel
theorem dX12_span_69 : decode cX12_span 69 = .ok (.iaload, 1) := by decide +kernel
theorem dX12_span_70 : decode cX12_span 70 = .ok (.sipush 365, 3) := by decide +kernel
theorem dX12_span_73 : decode cX12_span 73 = .ok (.idiv, 1) := by decide +kernel
theorem dX12_span_74 : decode cX12_span 74 = .ok (.istore 7, 2) := by decide +kernel
theorem dX12_span_76 : decode cX12_span 76 = .ok (.aload_n 0, 1) := by decide +kernel
theorem dX12_span_77 : decode cX12_span 77 = .ok (.getfield 158, 3) := by decide +kernel
theorem dX12_span_80 : decode cX12_span 80 = .ok (.iload 6, 2) := by decide +kernel
theorem dX12_span_82 : decode cX12_span 82 = .ok (.iaload, 1) := by decide +kernel
theorem dX12_span_83 : decode cX12_span 83 = .ok (.iload 7, 2) := by decide +kernel
theorem dX12_span_85 : decode cX12_span 85 = .ok (.isub, 1) := by decide +kernel
theorem dX12_span_86 : decode cX12_span 86 = .ok (.iload 4, 2) := by decide +kernel
theorem dX12_span_88 : decode cX12_span 88 = .ok (.if_icmp .le 15, 3) := by decide +kernel
theorem dX12_span_91 : decode cX12_span 91 = .ok (.aload_n 0, 1) := by decide +kernel
theorem dX12_span_92 : decode cX12_span 92 = .ok (.getfield 158, 3) := by decide +kernel
theorem dX12_span_95 : decode cX12_span 95 = .ok (.iload 6, 2) := by decide +kernel
theorem dX12_span_97 : decode cX12_span 97 = .ok (.iaload, 1) := by decide +kernel
theorem dX12_span_98 : decode cX12_span 98 = .ok (.iload 7, 2) := by decide +kernel
theorem dX12_span_100 : decode cX12_span 100 = .ok (.isub, 1) := by decide +kernel
theorem dX12_span_101 : decode cX12_span 101 = .ok (.istore 4, 2) := by decide +kernel
theorem dX12_span_103 : decode cX12_span 103 = .ok (.aload_n 0, 1) := by decide +kernel
theorem dX12_span_104 : decode cX12_span 104 = .ok (.getfield 161, 3) := by decide +kernel
theorem dX12_span_107 : decode cX12_span 107 = .ok (.iload 6, 2) := by decide +kernel
theorem dX12_span_109 : decode cX12_span 109 = .ok (.iaload, 1) := by decide +kernel
theorem dX12_span_110 : decode cX12_span 110 = .ok (.iload 7, 2) := by decide +kernel
theorem dX12_span_112 : decode cX12_span 112 = .ok (.isub, 1) := by decide +kernel
theorem dX12_span_113 : decode cX12_span 113 = .ok (.iload 5, 2) := by decide +kernel
theorem dX12_span_115 : decode cX12_span 115 = .ok (.if_icmp .ge 15, 3) := by decide +kernel
theorem dX12_span_118 : decode cX12_span 118 = .ok (.aload_n 0, 1) := by decide +kernel
theorem dX12_span_119 : decode cX12_span 119 = .ok (.getfield 161, 3) := by decide +kernel
theorem dX12_span_122 : decode cX12_span 122 = .ok (.iload 6, 2) := by decide +kernel
theorem dX12_span_124 : decode cX12_span 124 = .ok (.iaload, 1) := by decide +kernel
theorem dX12_span_125 : decode cX12_span 125 = .ok (.iload 7, 2) := by decide +kernel
theorem dX12_span_127 : decode cX12_span 127 = .ok (.isub, 1) := by decide +kernel
theorem dX12_span_128 : decode cX12_span 128 = .ok (.istore 5, 2) := by decide +kernel
theorem dX12_span_130 : decode cX12_span 130 = .ok (.iinc 6 1, 3) := by decide +kernel
theorem dX12_span_133 : decode cX12_span 133 = .ok (.goto (-90), 3) := by decide +kernel
theorem dX12_span_136 : decode cX12_span 136 = .ok (.iload 4, 2) := by decide +kernel
theorem dX12_span_138 : decode cX12_span 138 = .ok (.iload 5, 2) := by decide +kernel
theorem dX12_span_140 : decode cX12_span 140 = .ok (.if_icmp .le 8, 3) := by decide +kernel
theorem dX12_span_143 : decode cX12_span 143 = .ok (.bipush (-2), 2) := by decide +kernel
theorem dX12_span_145 : decode cX12_span 145 = .ok (.goto 14, 3) := by decide +kernel
theorem dX12_span_148 : decode cX12_span 148 = .ok (.iload_n 3, 1) := by decide +kernel
theorem dX12_span_149 : decode cX12_span 149 = .ok (.ifCond .ne 8, 3) := by decide +kernel
theorem dX12_span_152 : decode cX12_span 152 = .ok (.iload 4, 2) := by decide +kernel
theorem dX12_span_154 : decode cX12_span 154 = .ok (.goto 5, 3) := by decide +kernel
theorem dX12_span_157 : decode cX12_span 157 = .ok (.iload 5, 2) := by decide +kernel
theorem dX12_span_159 : decode cX12_span 159 = .ok (.ireturn, 1) := by decide +kernel
def c_X12_span_j103 {ρ : Type}  (z1 : Int32) (z2 : Int32) (z3 : Int32) (K1 : Int32 → Int32 → Option ρ) (REC : Int32 → Int32 → Int32 → Option ρ) (x4 : Int32) (x5 : Int32) (x6 : Int32) (x7 : Int32) (h : PH) : Option (ρ) :=
  gd (ixOK x6 20) <|
  if x5 ≤ ((h.1 48 x6.toNatClampNeg) - x7) then
    nm (x6 + 1) fun v8 =>
    REC x4 x5 v8
  else
    gd (ixOK x6 20) <|
    nm ((h.1 48 x6.toNatClampNeg) - x7) fun v9 =>
    nm (x6 + 1) fun v10 =>
    REC x4 v9 v10
set_option maxHeartbeats 4000000 in
set_option maxRecDepth 100000 in
theorem w_X12_span_j103 {p0 : Program} {l : Launch} {e : Env} {s : State} {m : MethodId} {args : Array Value} {below : List Frame} {meth : Method} {c : Code} {Q : State → Prop} {D : va_G} {G : GG} {A : Nat → Prop} {H0 : Heap} {ad : Nat → Nat} {lay : List KK} {X : va_W} {ρ : Type} {r0 : ρ} {x4 : Int32} {x5 : Int32} {x6 : Int32} {x7 : Int32} {z1 : Int32} {z2 : Int32} {z3 : Int32} {h : PH} {H : Heap} {locs : List Loc} {ls : Array Slot} {K1 : Int32 → Int32 → Option ρ} {REC : Int32 → Int32 → Int32 → Option ρ} (hM : CallFix p0 m c cX12_span 8 s args lw_g RX12) (ho : okX12 lay) (hk1 : ∀ (x4 : Int32) (x5 : Int32), ∀ (H : Heap) (locs : List Loc) (ls : Array Slot), K1 x4 x5 = some r0 → Wd D G A H0 ad lay X h s H locs → lv_has ls 8 [(3, .int z3), (4, .int x4), (5, .int x5)] → W p0 l e (rmN 1 22) s m args below meth c H locs 0 0 Q (F0 m 136 ls [])) (hrec : ∀ (x4 : Int32) (x5 : Int32) (x6 : Int32), ∀ (H : Heap) (locs : List Loc) (ls : Array Slot), REC x4 x5 x6 = some r0 → Wd D G A H0 ad lay X h s H locs → lv_has ls 8 [(0, .ref (ad 0)), (1, .int z1), (2, .int z2), (3, .int z3), (4, .int x4), (5, .int x5), (6, .int x6)] → W p0 l e (rmN 1 22) s m args below meth c H locs 0 0 Q (F0 m 43 ls [])) (hw : Wd D G A H0 ad lay X h s H locs) (hl : lv_has ls 8 [(0, .ref (ad 0)), (1, .int z1), (2, .int z2), (3, .int z3), (4, .int x4), (5, .int x5), (6, .int x6), (7, .int x7)]) (hf : c_X12_span_j103 z1 z2 z3 K1 REC x4 x5 x6 x7 h = some r0) : W p0 l e (rmN 1 22) s m args below meth c H locs 0 0 Q (F0 m 103 ls []) := by
  unfold c_X12_span_j103 at hf
  refine lv_aload_n hM.1 hM.2.1 dX12_span_103 rfl (lv_at hl 0 rfl) ?_
  refine gf_X12_saidMost hM hw (okX12.o ho) fl_X12_161 dX12_span_104 ?_
  refine lv_iload hM.1 hM.2.1 dX12_span_107 (lv_at hl 6 rfl) ?_
  refine x_iald hM hw (okX12.saidMost ho) hf dX12_span_109 (fun hf => ?_)
  refine lv_iload hM.1 hM.2.1 dX12_span_110 (lv_at hl 7 rfl) ?_
  refine lv_isub hM.1 hM.2.1 dX12_span_112 ?_
  refine lv_iload hM.1 hM.2.1 dX12_span_113 (lv_at hl 5 rfl) ?_
  refine x_ic_ge (tgt := 130) hM hf dX12_span_115 (by decide) (fun hf => ?_) (fun hf => ?_)
  · refine x_iinc (k := 6) (d := 1) hM hf dX12_span_130 hl rfl (by decide) (by decide) (fun v8 => [(6, .int v8), (0, .ref (ad 0)), (1, .int z1), (2, .int z2), (3, .int z3), (4, .int x4), (5, .int x5), (7, .int x7)]) (fun _ => rfl) (fun v8 ls hf hl => ?_)
    refine lv_goto (tgt := 43) hM.1 hM.2.1 dX12_span_133 (by decide) ?_
    exact hrec _ _ _ _ _ _ hf hw (lv_sub hl [1, 2, 3, 4, 5, 6, 0] rfl)
  refine lv_aload_n hM.1 hM.2.1 dX12_span_118 rfl (lv_at hl 0 rfl) ?_
  refine gf_X12_saidMost hM hw (okX12.o ho) fl_X12_161 dX12_span_119 ?_
  refine lv_iload hM.1 hM.2.1 dX12_span_122 (lv_at hl 6 rfl) ?_
  refine x_iald hM hw (okX12.saidMost ho) hf dX12_span_124 (fun hf => ?_)
  refine lv_iload hM.1 hM.2.1 dX12_span_125 (lv_at hl 7 rfl) ?_
  refine lv_isub hM.1 hM.2.1 dX12_span_127 ?_
  refine x_istore hM hf dX12_span_128 hl (by decide) (fun v9 => [(5, .int v9), (0, .ref (ad 0)), (1, .int z1), (2, .int z2), (3, .int z3), (4, .int x4), (6, .int x6), (7, .int x7)]) (fun _ => rfl) (fun v9 ls hf hl => ?_)
  refine x_iinc (k := 6) (d := 1) hM hf dX12_span_130 hl rfl (by decide) (by decide) (fun v10 => [(6, .int v10), (5, .int v9), (0, .ref (ad 0)), (1, .int z1), (2, .int z2), (3, .int z3), (4, .int x4), (7, .int x7)]) (fun _ => rfl) (fun v10 ls hf hl => ?_)
  refine lv_goto (tgt := 43) hM.1 hM.2.1 dX12_span_133 (by decide) ?_
  exact hrec _ _ _ _ _ _ hf hw (lv_sub hl [2, 3, 4, 5, 6, 1, 0] rfl)
def c_X12_span_L43b {ρ : Type}  (z1 : Int32) (z2 : Int32) (z3 : Int32) (h : PH) (K1 : Int32 → Int32 → Option ρ) (REC : Int32 → Int32 → Int32 → Option ρ) (x4 : Int32) (x5 : Int32) (x6 : Int32) : Option ρ :=
  if z2 ≤ x6 then
    K1 x4 x5
  else
    gd (ixOK x6 20) <|
    if (h.1 46 x6.toNatClampNeg) = z1 then
      gd (ixOK x6 20) <|
      nm ((h.1 49 x6.toNatClampNeg) / 365) fun v7 =>
      gd (ixOK x6 20) <|
      if ((h.1 47 x6.toNatClampNeg) - v7) ≤ x4 then
        c_X12_span_j103 z1 z2 z3 K1 REC x4 x5 x6 v7 h
      else
        gd (ixOK x6 20) <|
        nm ((h.1 47 x6.toNatClampNeg) - v7) fun v11 =>
        c_X12_span_j103 z1 z2 z3 K1 REC v11 x5 x6 v7 h
    else
      nm (x6 + 1) fun v12 =>
      REC x4 x5 v12
set_option maxHeartbeats 4000000 in
set_option maxRecDepth 100000 in
theorem w_X12_span_L43b {p0 : Program} {l : Launch} {e : Env} {s : State} {m : MethodId} {args : Array Value} {below : List Frame} {meth : Method} {c : Code} {Q : State → Prop} {D : va_G} {G : GG} {A : Nat → Prop} {H0 : Heap} {ad : Nat → Nat} {lay : List KK} {X : va_W} {ρ : Type} {r0 : ρ} {z1 : Int32} {z2 : Int32} {z3 : Int32} {x4 : Int32} {x5 : Int32} {x6 : Int32} {h : PH} {H : Heap} {locs : List Loc} {ls : Array Slot} {K1 : Int32 → Int32 → Option ρ} {REC : Int32 → Int32 → Int32 → Option ρ} (hM : CallFix p0 m c cX12_span 8 s args lw_g RX12) (ho : okX12 lay) (hk1 : ∀ (x4 : Int32) (x5 : Int32), ∀ (H : Heap) (locs : List Loc) (ls : Array Slot), K1 x4 x5 = some r0 → Wd D G A H0 ad lay X h s H locs → lv_has ls 8 [(3, .int z3), (4, .int x4), (5, .int x5)] → W p0 l e (rmN 1 22) s m args below meth c H locs 0 0 Q (F0 m 136 ls [])) (hrec : ∀ (x4 : Int32) (x5 : Int32) (x6 : Int32), ∀ (H : Heap) (locs : List Loc) (ls : Array Slot), REC x4 x5 x6 = some r0 → Wd D G A H0 ad lay X h s H locs → lv_has ls 8 [(0, .ref (ad 0)), (1, .int z1), (2, .int z2), (3, .int z3), (4, .int x4), (5, .int x5), (6, .int x6)] → W p0 l e (rmN 1 22) s m args below meth c H locs 0 0 Q (F0 m 43 ls [])) (hw : Wd D G A H0 ad lay X h s H locs) (hl : lv_has ls 8 [(0, .ref (ad 0)), (1, .int z1), (2, .int z2), (3, .int z3), (4, .int x4), (5, .int x5), (6, .int x6)]) (hf : c_X12_span_L43b z1 z2 z3 h K1 REC x4 x5 x6 = some r0) : W p0 l e (rmN 1 22) s m args below meth c H locs 0 0 Q (F0 m 43 ls []) := by
  unfold c_X12_span_L43b at hf
  refine lv_iload hM.1 hM.2.1 dX12_span_43 (lv_at hl 6 rfl) ?_
  refine lv_iload_n hM.1 hM.2.1 dX12_span_45 rfl (lv_at hl 2 rfl) ?_
  refine x_ic_ge (tgt := 136) hM hf dX12_span_46 (by decide) (fun hf => ?_) (fun hf => ?_)
  · exact hk1 _ _ _ _ _ hf hw (lv_sub hl [3, 4, 5] rfl)
  refine lv_aload_n hM.1 hM.2.1 dX12_span_49 rfl (lv_at hl 0 rfl) ?_
  refine gf_X12_saidKind hM hw (okX12.o ho) fl_X12_155 dX12_span_50 ?_
  refine lv_iload hM.1 hM.2.1 dX12_span_53 (lv_at hl 6 rfl) ?_
  refine x_iald hM hw (okX12.saidKind ho) hf dX12_span_55 (fun hf => ?_)
  refine lv_iload_n hM.1 hM.2.1 dX12_span_56 rfl (lv_at hl 1 rfl) ?_
  refine x_ic_eq (tgt := 63) hM hf dX12_span_57 (by decide) (fun hf => ?_) (fun hf => ?_)
  · refine lv_aload_n hM.1 hM.2.1 dX12_span_63 rfl (lv_at hl 0 rfl) ?_
    refine gf_X12_saidDay hM hw (okX12.o ho) fl_X12_164 dX12_span_64 ?_
    refine lv_iload hM.1 hM.2.1 dX12_span_67 (lv_at hl 6 rfl) ?_
    refine x_iald hM hw (okX12.saidDay ho) hf dX12_span_69 (fun hf => ?_)
    refine lv_sipush (v := 365) hM.1 hM.2.1 dX12_span_70 (by decide) ?_
    refine lv_idiv hM.1 hM.2.1 dX12_span_73 (by decide) ?_
    refine x_istore hM hf dX12_span_74 hl (by decide) (fun v7 => [(7, .int v7), (0, .ref (ad 0)), (1, .int z1), (2, .int z2), (3, .int z3), (4, .int x4), (5, .int x5), (6, .int x6)]) (fun _ => rfl) (fun v7 ls hf hl => ?_)
    refine lv_aload_n hM.1 hM.2.1 dX12_span_76 rfl (lv_at hl 1 rfl) ?_
    refine gf_X12_saidLeast hM hw (okX12.o ho) fl_X12_158 dX12_span_77 ?_
    refine lv_iload hM.1 hM.2.1 dX12_span_80 (lv_at hl 7 rfl) ?_
    refine x_iald hM hw (okX12.saidLeast ho) hf dX12_span_82 (fun hf => ?_)
    refine lv_iload hM.1 hM.2.1 dX12_span_83 (lv_at hl 0 rfl) ?_
    refine lv_isub hM.1 hM.2.1 dX12_span_85 ?_
    refine lv_iload hM.1 hM.2.1 dX12_span_86 (lv_at hl 5 rfl) ?_
    refine x_ic_le (tgt := 103) hM hf dX12_span_88 (by decide) (fun hf => ?_) (fun hf => ?_)
    · exact w_X12_span_j103 hM ho hk1 hrec hw (lv_sub hl [1, 2, 3, 4, 5, 6, 7, 0] rfl) hf
    refine lv_aload_n hM.1 hM.2.1 dX12_span_91 rfl (lv_at hl 1 rfl) ?_
    refine gf_X12_saidLeast hM hw (okX12.o ho) fl_X12_158 dX12_span_92 ?_
    refine lv_iload hM.1 hM.2.1 dX12_span_95 (lv_at hl 7 rfl) ?_
    refine x_iald hM hw (okX12.saidLeast ho) hf dX12_span_97 (fun hf => ?_)
    refine lv_iload hM.1 hM.2.1 dX12_span_98 (lv_at hl 0 rfl) ?_
    refine lv_isub hM.1 hM.2.1 dX12_span_100 ?_
    refine x_istore hM hf dX12_span_101 hl (by decide) (fun v11 => [(4, .int v11), (7, .int v7), (0, .ref (ad 0)), (1, .int z1), (2, .int z2), (3, .int z3), (5, .int x5), (6, .int x6)]) (fun _ => rfl) (fun v11 ls hf hl => ?_)
    exact w_X12_span_j103 hM ho hk1 hrec hw (lv_sub hl [2, 3, 4, 5, 0, 6, 7, 1] rfl) hf
  refine lv_goto (tgt := 130) hM.1 hM.2.1 dX12_span_60 (by decide) ?_
  refine x_iinc (k := 6) (d := 1) hM hf dX12_span_130 hl rfl (by decide) (by decide) (fun v12 => [(6, .int v12), (0, .ref (ad 0)), (1, .int z1), (2, .int z2), (3, .int z3), (4, .int x4), (5, .int x5)]) (fun _ => rfl) (fun v12 ls hf hl => ?_)
  refine lv_goto (tgt := 43) hM.1 hM.2.1 dX12_span_133 (by decide) ?_
  exact hrec _ _ _ _ _ _ hf hw (lv_sub hl [1, 2, 3, 4, 5, 6, 0] rfl)
set_option maxHeartbeats 4000000 in
set_option maxRecDepth 100000 in
theorem w_X12_span_L43 {p0 : Program} {l : Launch} {e : Env} {s : State} {m : MethodId} {args : Array Value} {below : List Frame} {meth : Method} {c : Code} {Q : State → Prop} {D : va_G} {G : GG} {A : Nat → Prop} {H0 : Heap} {ad : Nat → Nat} {lay : List KK} {X : va_W} {ρ : Type} {r0 : ρ} {z1 : Int32} {z2 : Int32} {z3 : Int32} {h : PH} {K1 : Int32 → Int32 → Option ρ} (hM : CallFix p0 m c cX12_span 8 s args lw_g RX12) (ho : okX12 lay) (hk1 : ∀ (x4 : Int32) (x5 : Int32), ∀ (H : Heap) (locs : List Loc) (ls : Array Slot), K1 x4 x5 = some r0 → Wd D G A H0 ad lay X h s H locs → lv_has ls 8 [(3, .int z3), (4, .int x4), (5, .int x5)] → W p0 l e (rmN 1 22) s m args below meth c H locs 0 0 Q (F0 m 136 ls [])) (n : Nat) (x4 : Int32) (x5 : Int32) (x6 : Int32) (hf : lq3 (c_X12_span_L43b z1 z2 z3 h K1) n x4 x5 x6 = some r0) : ∀ (H : Heap) (locs : List Loc) (ls : Array Slot), Wd D G A H0 ad lay X h s H locs → lv_has ls 8 [(0, .ref (ad 0)), (1, .int z1), (2, .int z2), (3, .int z3), (4, .int x4), (5, .int x5), (6, .int x6)] → W p0 l e (rmN 1 22) s m args below meth c H locs 0 0 Q (F0 m 43 ls []) := by
  exact lq3_i (fun (x4 : Int32) (x5 : Int32) (x6 : Int32) => ∀ (H : Heap) (locs : List Loc) (ls : Array Slot), Wd D G A H0 ad lay X h s H locs → lv_has ls 8 [(0, .ref (ad 0)), (1, .int z1), (2, .int z2), (3, .int z3), (4, .int x4), (5, .int x5), (6, .int x6)] → W p0 l e (rmN 1 22) s m args below meth c H locs 0 0 Q (F0 m 43 ls [])) (fun REC x4 x5 x6 ih hf H locs ls hw hl => w_X12_span_L43b hM ho hk1 (fun x4 x5 x6 H locs ls hf hw hl => ih x4 x5 x6 hf H locs ls hw hl) hw hl hf) n x4 x5 x6 hf
def c_X12_span (a1 : Int32) (a2 : Int32) (a3 : Int32) (h : PH) : Option (Int32) :=
  (c_X12_in a1 0 9).bind fun r1 =>
  if r1 = 0 then
    some (-1)
  else
    (c_X12_in a2 0 (h.1 0 67)).bind fun r2 =>
    if r2 = 0 then
      some (-1)
    else
      (c_X12_in a3 0 1).bind fun r3 =>
      if r3 = 0 then
        some (-1)
      else
        nm (0 : Int32) fun v4 =>
        nm (120 : Int32) fun v5 =>
        nm (0 : Int32) fun v6 =>
        lq3 (c_X12_span_L43b a1 a2 a3 h
          (fun w13 w14 =>
            if w13 ≤ w14 then
              if a3 = 0 then
                some w13
              else
                some w14
            else
              some (-2))) fu v4 v5 v6
set_option maxHeartbeats 4000000 in
set_option maxRecDepth 100000 in
theorem ct_X12_span (l : Launch) {lay : List KK} (ho : okX12 lay) (a1 : Int32) (a2 : Int32) (a3 : Int32) : CtI l yX12_span cX12_span 8 (some .int) 1 22 lay (rd (fun h => c_X12_span a1 a2 a3 h)) (fun ad => [.ref (ad 0), .int a1, .int a2, .int a3]) := by
  refine CtI.mk' RX12 (by decide) rfl (fun _ => Nat.le_of_ble_eq_true rfl) ?_
  intro p0 e s m args below meth c D G A H0 ad X h r0 H ls Q hM hw hl hf hR
  have hl : lv_has ls 8 [(0, .ref (ad 0)), (1, .int a1), (2, .int a2), (3, .int a3)] := hl
  obtain ⟨v0, hv0, hr0⟩ : ∃ v0, c_X12_span a1 a2 a3 h = some v0 ∧ r0 = (v0, h) := rd_some hf
  subst hr0
  have hf := hv0
  unfold c_X12_span at hf
  refine lv_iload_n hM.1 hM.2.1 dX12_span_0 rfl (lv_at hl 1 rfl) ?_
  refine lv_iconst (v := 0) hM.1 hM.2.1 dX12_span_1 ic_0 ?_
  refine lv_bipush (v := 9) hM.1 hM.2.1 dX12_span_2 (by decide) ?_
  refine x_callSIr (rest := []) hM hw (ct_X12_in l a1 0 9) [.int a1, .int 0, .int 9] rfl (gi_S ml_X12_359 sm_X12_in in_X12 kc_X12_in) hd_X12_in rfl ⟨Nat.le_of_ble_eq_true rfl, Nat.le_of_ble_eq_true rfl⟩ rfl (Nat.le_of_ble_eq_true rfl) hl.1 hcs0 hf dX12_span_4 (fun r1 H locs hf hw => ?_)
  refine x_if_eq (tgt := 31) hM hf dX12_span_7 (by decide) (fun hf => ?_) (fun hf => ?_)
  · refine lv_iconst (v := (-1)) hM.1 hM.2.1 dX12_span_31 ic_m1 ?_
    exact hR _ _ _ _ _ _ _ (congrArg (fun z => (z, _)) (Option.some.inj hf)) rfl rfl hw dX12_span_32
  refine lv_iload_n hM.1 hM.2.1 dX12_span_10 rfl (lv_at hl 2 rfl) ?_
  refine lv_iconst (v := 0) hM.1 hM.2.1 dX12_span_11 ic_0 ?_
  refine lv_aload_n hM.1 hM.2.1 dX12_span_12 rfl (lv_at hl 0 rfl) ?_
  refine gf_X12_saids hM hw (okX12.o ho) fl_X12_287 dX12_span_13 ?_
  refine x_callSIr (rest := []) hM hw (ct_X12_in l a2 0 (h.1 0 67)) [.int a2, .int 0, .int (h.1 0 67)] rfl (gi_S ml_X12_359 sm_X12_in in_X12 kc_X12_in) hd_X12_in rfl ⟨Nat.le_of_ble_eq_true rfl, Nat.le_of_ble_eq_true rfl⟩ rfl (Nat.le_of_ble_eq_true rfl) hl.1 hcs0 hf dX12_span_16 (fun r2 H locs hf hw => ?_)
  refine x_if_eq (tgt := 31) hM hf dX12_span_19 (by decide) (fun hf => ?_) (fun hf => ?_)
  · refine lv_iconst (v := (-1)) hM.1 hM.2.1 dX12_span_31 ic_m1 ?_
    exact hR _ _ _ _ _ _ _ (congrArg (fun z => (z, _)) (Option.some.inj hf)) rfl rfl hw dX12_span_32
  refine lv_iload_n hM.1 hM.2.1 dX12_span_22 rfl (lv_at hl 3 rfl) ?_
  refine lv_iconst (v := 0) hM.1 hM.2.1 dX12_span_23 ic_0 ?_
  refine lv_iconst (v := 1) hM.1 hM.2.1 dX12_span_24 ic_1 ?_
  refine x_callSIr (rest := []) hM hw (ct_X12_in l a3 0 1) [.int a3, .int 0, .int 1] rfl (gi_S ml_X12_359 sm_X12_in in_X12 kc_X12_in) hd_X12_in rfl ⟨Nat.le_of_ble_eq_true rfl, Nat.le_of_ble_eq_true rfl⟩ rfl (Nat.le_of_ble_eq_true rfl) hl.1 hcs0 hf dX12_span_25 (fun r3 H locs hf hw => ?_)
  refine x_if_ne (tgt := 33) hM hf dX12_span_28 (by decide) (fun hf => ?_) (fun hf => ?_)
  · refine lv_iconst (v := 0) hM.1 hM.2.1 dX12_span_33 ic_0 ?_
    refine x_istore hM hf dX12_span_34 hl (by decide) (fun v4 => [(4, .int v4), (0, .ref (ad 0)), (1, .int a1), (2, .int a2), (3, .int a3)]) (fun _ => rfl) (fun v4 ls hf hl => ?_)
    refine lv_bipush (v := 120) hM.1 hM.2.1 dX12_span_36 (by decide) ?_
    refine x_istore hM hf dX12_span_38 hl (by decide) (fun v5 => [(5, .int v5), (4, .int v4), (0, .ref (ad 0)), (1, .int a1), (2, .int a2), (3, .int a3)]) (fun _ => rfl) (fun v5 ls hf hl => ?_)
    refine lv_iconst (v := 0) hM.1 hM.2.1 dX12_span_40 ic_0 ?_
    refine x_istore hM hf dX12_span_41 hl (by decide) (fun v6 => [(6, .int v6), (5, .int v5), (4, .int v4), (0, .ref (ad 0)), (1, .int a1), (2, .int a2), (3, .int a3)]) (fun _ => rfl) (fun v6 ls hf hl => ?_)
    refine w_X12_span_L43 hM ho (fun w13 w14 H locs ls hf hw hl => ?_) fu _ _ _ hf _ _ _ hw (lv_sub hl [3, 4, 5, 6, 2, 1, 0] rfl)
    refine lv_iload hM.1 hM.2.1 dX12_span_136 (lv_at hl 1 rfl) ?_
    refine lv_iload hM.1 hM.2.1 dX12_span_138 (lv_at hl 2 rfl) ?_
    refine x_ic_le (tgt := 148) hM hf dX12_span_140 (by decide) (fun hf => ?_) (fun hf => ?_)
    · refine lv_iload_n hM.1 hM.2.1 dX12_span_148 rfl (lv_at hl 0 rfl) ?_
      refine x_if_ne (tgt := 157) hM hf dX12_span_149 (by decide) (fun hf => ?_) (fun hf => ?_)
      · refine lv_iload hM.1 hM.2.1 dX12_span_157 (lv_at hl 2 rfl) ?_
        exact hR _ _ _ _ _ _ _ (congrArg (fun z => (z, _)) (Option.some.inj hf)) rfl rfl hw dX12_span_159
      refine lv_iload hM.1 hM.2.1 dX12_span_152 (lv_at hl 1 rfl) ?_
      refine lv_goto (tgt := 159) hM.1 hM.2.1 dX12_span_154 (by decide) ?_
      exact hR _ _ _ _ _ _ _ (congrArg (fun z => (z, _)) (Option.some.inj hf)) rfl rfl hw dX12_span_159
    refine lv_bipush (v := (-2)) hM.1 hM.2.1 dX12_span_143 (by decide) ?_
    refine lv_goto (tgt := 159) hM.1 hM.2.1 dX12_span_145 (by decide) ?_
    exact hR _ _ _ _ _ _ _ (congrArg (fun z => (z, _)) (Option.some.inj hf)) rfl rfl hw dX12_span_159
  refine lv_iconst (v := (-1)) hM.1 hM.2.1 dX12_span_31 ic_m1 ?_
  exact hR _ _ _ _ _ _ _ (congrArg (fun z => (z, _)) (Option.some.inj hf)) rfl rfl hw dX12_span_32
theorem hd_X12_span : yX12_span.cls = RX12 ∧ yX12_span.cls ≠ "java/lang/invoke/MethodHandle" ∧ yX12_span.cls ≠ "java/lang/invoke/VarHandle" ∧ (parseMethodDescriptor yX12_span.desc).map (fun d => d.parameters.length) = some 3 := ⟨rfl, by decide, by decide, by decide +kernel⟩
theorem dX12_know_0 : decode cX12_know 0 = .ok (.aload_n 0, 1) := by decide +kernel
theorem dX12_know_1 : decode cX12_know 1 = .ok (.getfield 290, 3) := by decide +kernel
theorem dX12_know_4 : decode cX12_know 4 = .ok (.bipush 20, 2) := by decide +kernel
theorem dX12_know_6 : decode cX12_know 6 = .ok (.if_icmp .eq 29, 3) := by decide +kernel
theorem dX12_know_9 : decode cX12_know 9 = .ok (.aload_n 0, 1) := by decide +kernel
theorem dX12_know_10 : decode cX12_know 10 = .ok (.iload_n 1, 1) := by decide +kernel
theorem dX12_know_11 : decode cX12_know 11 = .ok (.invokevirtual 428, 3) := by decide +kernel
theorem dX12_know_14 : decode cX12_know 14 = .ok (.ifCond .eq 21, 3) := by decide +kernel
theorem dX12_know_17 : decode cX12_know 17 = .ok (.aload_n 0, 1) := by decide +kernel
theorem dX12_know_18 : decode cX12_know 18 = .ok (.iload_n 2, 1) := by decide +kernel
theorem dX12_know_19 : decode cX12_know 19 = .ok (.invokevirtual 425, 3) := by decide +kernel
theorem dX12_know_22 : decode cX12_know 22 = .ok (.ifCond .eq 13, 3) := by decide +kernel
theorem dX12_know_25 : decode cX12_know 25 = .ok (.iload_n 3, 1) := by decide +kernel
theorem dX12_know_26 : decode cX12_know 26 = .ok (.iconst 0, 1) := by decide +kernel
theorem dX12_know_27 : decode cX12_know 27 = .ok (.bipush 9, 2) := by decide +kernel
theorem dX12_know_29 : decode cX12_know 29 = .ok (.invokestatic 359, 3) := by decide +kernel
theorem dX12_know_32 : decode cX12_know 32 = .ok (.ifCond .ne 5, 3) := by decide +kernel
theorem dX12_know_35 : decode cX12_know 35 = .ok (.iconst (-1), 1) := by decide +kernel
theorem dX12_know_36 : decode cX12_know 36 = .ok (.ireturn, 1) := by decide +kernel
theorem dX12_know_37 : decode cX12_know 37 = .ok (.aload_n 0, 1) := by decide +kernel
theorem dX12_know_38 : decode cX12_know 38 = .ok (.getfield 167, 3) := by decide +kernel
theorem dX12_know_41 : decode cX12_know 41 = .ok (.aload_n 0, 1) := by decide +kernel
theorem dX12_know_42 : decode cX12_know 42 = .ok (.getfield 290, 3) := by decide +kernel
theorem dX12_know_45 : decode cX12_know 45 = .ok (.iload_n 1, 1) := by decide +kernel
theorem dX12_know_46 : decode cX12_know 46 = .ok (.iastore, 1) := by decide +kernel
theorem dX12_know_47 : decode cX12_know 47 = .ok (.aload_n 0, 1) := by decide +kernel
theorem dX12_know_48 : decode cX12_know 48 = .ok (.getfield 170, 3) := by decide +kernel
theorem dX12_know_51 : decode cX12_know 51 = .ok (.aload_n 0, 1) := by decide +kernel
theorem dX12_know_52 : decode cX12_know 52 = .ok (.getfield 290, 3) := by decide +kernel
theorem dX12_know_55 : decode cX12_know 55 = .ok (.iload_n 2, 1) := by decide +kernel
theorem dX12_know_56 : decode cX12_know 56 = .ok (.iastore, 1) := by decide +kernel
theorem dX12_know_57 : decode cX12_know 57 = .ok (.aload_n 0, 1) := by decide +kernel
theorem dX12_know_58 : decode cX12_know 58 = .ok (.getfield 173, 3) := by decide +kernel
theorem dX12_know_61 : decode cX12_know 61 = .ok (.aload_n 0, 1) := by decide +kernel
theorem dX12_know_62 : decode cX12_know 62 = .ok (.getfield 290, 3) := by decide +kernel
theorem dX12_know_65 : decode cX12_know 65 = .ok (.iload_n 3, 1) := by decide +kernel
theorem dX12_know_66 : decode cX12_know 66 = .ok (.iastore, 1) := by decide +kernel
theorem dX12_know_67 : decode cX12_know 67 = .ok (.aload_n 0, 1) := by decide +kernel
theorem dX12_know_68 : decode cX12_know 68 = .ok (.dup, 1) := by decide +kernel
theorem dX12_know_69 : decode cX12_know 69 = .ok (.getfield 290, 3) := by decide +kernel
theorem dX12_know_72 : decode cX12_know 72 = .ok (.iconst 1, 1) := by decide +kernel
theorem dX12_know_73 : decode cX12_know 73 = .ok (.iadd, 1) := by decide +kernel
theorem dX12_know_74 : decode cX12_know 74 = .ok (.putfield 290, 3) := by decide +kernel
theorem dX12_know_77 : decode cX12_know 77 = .ok (.aload_n 0, 1) := by decide +kernel
theorem dX12_know_78 : decode cX12_know 78 = .ok (.getfield 290, 3) := by decide +kernel
theorem dX12_know_81 : decode cX12_know 81 = .ok (.iconst 1, 1) := by decide +kernel
theorem dX12_know_82 : decode cX12_know 82 = .ok (.isub, 1) := by decide +kernel
theorem dX12_know_83 : decode cX12_know 83 = .ok (.ireturn, 1) := by decide +kernel
def c_X12_know (a1 : Int32) (a2 : Int32) (a3 : Int32) (h : PH) : Option (Int32 × PH) :=
  if (h.1 0 72) = 20 then
    some ((-1), h)
  else
    (c_X12_isExcuse a1 h).bind fun r1 =>
    if r1 = 0 then
      some ((-1), h)
    else
      (c_X12_isMan a2 h).bind fun r2 =>
      if r2 = 0 then
        some ((-1), h)
      else
        (c_X12_in a3 0 9).bind fun r3 =>
        if r3 = 0 then
          some ((-1), h)
        else
          gd (ixOK (h.1 0 72) 20) <| nm (setI h 50 (h.1 0 72).toNatClampNeg a1) fun h4 =>
          gd (ixOK (h4.1 0 72) 20) <| nm (setI h4 51 (h4.1 0 72).toNatClampNeg a2) fun h5 =>
          gd (ixOK (h5.1 0 72) 20) <| nm (setI h5 52 (h5.1 0 72).toNatClampNeg a3) fun h6 =>
          nm (setI h6 0 72 ((h6.1 0 72) + 1)) fun h7 =>
          some (((h7.1 0 72) - 1), h7)
set_option maxHeartbeats 4000000 in
set_option maxRecDepth 100000 in
theorem ct_X12_know (l : Launch) {lay : List KK} (ho : okX12 lay) (a1 : Int32) (a2 : Int32) (a3 : Int32) : CtI l yX12_know cX12_know 4 (some .int) 2 43 lay (fun h => c_X12_know a1 a2 a3 h) (fun ad => [.ref (ad 0), .int a1, .int a2, .int a3]) := by
  refine CtI.mk' RX12 (by decide) rfl (fun _ => Nat.le_of_ble_eq_true rfl) ?_
  intro p0 e s m args below meth c D G A H0 ad X h r0 H ls Q hM hw hl hf hR
  have hl : lv_has ls 4 [(0, .ref (ad 0)), (1, .int a1), (2, .int a2), (3, .int a3)] := hl
  unfold c_X12_know at hf
  refine lv_aload_n hM.1 hM.2.1 dX12_know_0 rfl (lv_at hl 0 rfl) ?_
  refine gf_X12_knowns hM hw (okX12.o ho) fl_X12_290 dX12_know_1 ?_
  refine lv_bipush (v := 20) hM.1 hM.2.1 dX12_know_4 (by decide) ?_
  refine x_ic_eq (tgt := 35) hM hf dX12_know_6 (by decide) (fun hf => ?_) (fun hf => ?_)
  · refine lv_iconst (v := (-1)) hM.1 hM.2.1 dX12_know_35 ic_m1 ?_
    exact hR _ _ _ _ _ _ _ (Option.some.inj hf) rfl rfl hw dX12_know_36
  refine lv_aload_n hM.1 hM.2.1 dX12_know_9 rfl (lv_at hl 0 rfl) ?_
  refine lv_iload_n hM.1 hM.2.1 dX12_know_10 rfl (lv_at hl 1 rfl) ?_
  refine x_callVIr (rest := []) hM hw (ct_X12_isExcuse l ho a1) [.int a1] (okX12.o ho) rfl rfl rfl (gi_V ml_X12_428 im_X12_isExcuse sl_X12_isExcuse in_X12 kc_X12_isExcuse) hd_X12_isExcuse rfl ⟨Nat.le_of_ble_eq_true rfl, Nat.le_of_ble_eq_true rfl⟩ rfl (Nat.le_of_ble_eq_true rfl) hl.1 hcs0 hf dX12_know_11 (fun r1 H locs hf hw => ?_)
  refine x_if_eq (tgt := 35) hM hf dX12_know_14 (by decide) (fun hf => ?_) (fun hf => ?_)
  · refine lv_iconst (v := (-1)) hM.1 hM.2.1 dX12_know_35 ic_m1 ?_
    exact hR _ _ _ _ _ _ _ (Option.some.inj hf) rfl rfl hw dX12_know_36
  refine lv_aload_n hM.1 hM.2.1 dX12_know_17 rfl (lv_at hl 0 rfl) ?_
  refine lv_iload_n hM.1 hM.2.1 dX12_know_18 rfl (lv_at hl 2 rfl) ?_
  refine x_callVIr (rest := []) hM hw (ct_X12_isMan l ho a2) [.int a2] (okX12.o ho) rfl rfl rfl (gi_V ml_X12_425 im_X12_isMan sl_X12_isMan in_X12 kc_X12_isMan) hd_X12_isMan rfl ⟨Nat.le_of_ble_eq_true rfl, Nat.le_of_ble_eq_true rfl⟩ rfl (Nat.le_of_ble_eq_true rfl) hl.1 hcs0 hf dX12_know_19 (fun r2 H locs hf hw => ?_)
  refine x_if_eq (tgt := 35) hM hf dX12_know_22 (by decide) (fun hf => ?_) (fun hf => ?_)
  · refine lv_iconst (v := (-1)) hM.1 hM.2.1 dX12_know_35 ic_m1 ?_
    exact hR _ _ _ _ _ _ _ (Option.some.inj hf) rfl rfl hw dX12_know_36
  refine lv_iload_n hM.1 hM.2.1 dX12_know_25 rfl (lv_at hl 3 rfl) ?_
  refine lv_iconst (v := 0) hM.1 hM.2.1 dX12_know_26 ic_0 ?_
  refine lv_bipush (v := 9) hM.1 hM.2.1 dX12_know_27 (by decide) ?_
  refine x_callSIr (rest := []) hM hw (ct_X12_in l a3 0 9) [.int a3, .int 0, .int 9] rfl (gi_S ml_X12_359 sm_X12_in in_X12 kc_X12_in) hd_X12_in rfl ⟨Nat.le_of_ble_eq_true rfl, Nat.le_of_ble_eq_true rfl⟩ rfl (Nat.le_of_ble_eq_true rfl) hl.1 hcs0 hf dX12_know_29 (fun r3 H locs hf hw => ?_)
  refine x_if_ne (tgt := 37) hM hf dX12_know_32 (by decide) (fun hf => ?_) (fun hf => ?_)
  · refine lv_aload_n hM.1 hM.2.1 dX12_know_37 rfl (lv_at hl 0 rfl) ?_
    refine gf_X12_knownExcuse hM hw (okX12.o ho) fl_X12_167 dX12_know_38 ?_
    refine lv_aload_n hM.1 hM.2.1 dX12_know_41 rfl (lv_at hl 0 rfl) ?_
    refine gf_X12_knowns hM hw (okX12.o ho) fl_X12_290 dX12_know_42 ?_
    refine lv_iload_n hM.1 hM.2.1 dX12_know_45 rfl (lv_at hl 1 rfl) ?_
    refine x_iast hM hw (okX12.knownExcuse ho) hf dX12_know_46 (fun h4 H locs hf hw => ?_)
    refine lv_aload_n hM.1 hM.2.1 dX12_know_47 rfl (lv_at hl 0 rfl) ?_
    refine gf_X12_knownMan hM hw (okX12.o ho) fl_X12_170 dX12_know_48 ?_
    refine lv_aload_n hM.1 hM.2.1 dX12_know_51 rfl (lv_at hl 0 rfl) ?_
    refine gf_X12_knowns hM hw (okX12.o ho) fl_X12_290 dX12_know_52 ?_
    refine lv_iload_n hM.1 hM.2.1 dX12_know_55 rfl (lv_at hl 2 rfl) ?_
    refine x_iast hM hw (okX12.knownMan ho) hf dX12_know_56 (fun h5 H locs hf hw => ?_)
    refine lv_aload_n hM.1 hM.2.1 dX12_know_57 rfl (lv_at hl 0 rfl) ?_
    refine gf_X12_knownOften hM hw (okX12.o ho) fl_X12_173 dX12_know_58 ?_
    refine lv_aload_n hM.1 hM.2.1 dX12_know_61 rfl (lv_at hl 0 rfl) ?_
    refine gf_X12_knowns hM hw (okX12.o ho) fl_X12_290 dX12_know_62 ?_
    refine lv_iload_n hM.1 hM.2.1 dX12_know_65 rfl (lv_at hl 3 rfl) ?_
    refine x_iast hM hw (okX12.knownOften ho) hf dX12_know_66 (fun h6 H locs hf hw => ?_)
    refine lv_aload_n hM.1 hM.2.1 dX12_know_67 rfl (lv_at hl 0 rfl) ?_
    refine lv_dup hM.1 hM.2.1 dX12_know_68 rfl ?_
    refine gf_X12_knowns hM hw (okX12.o ho) fl_X12_290 dX12_know_69 ?_
    refine lv_iconst (v := 1) hM.1 hM.2.1 dX12_know_72 ic_1 ?_
    refine lv_iadd hM.1 hM.2.1 dX12_know_73 ?_
    refine pf_X12_knowns hM hw (okX12.o ho) fl_X12_290 hf dX12_know_74 (fun h7 H locs hf hw => ?_)
    refine lv_aload_n hM.1 hM.2.1 dX12_know_77 rfl (lv_at hl 0 rfl) ?_
    refine gf_X12_knowns hM hw (okX12.o ho) fl_X12_290 dX12_know_78 ?_
    refine lv_iconst (v := 1) hM.1 hM.2.1 dX12_know_81 ic_1 ?_
    refine lv_isub hM.1 hM.2.1 dX12_know_82 ?_
    exact hR _ _ _ _ _ _ _ (Option.some.inj hf) rfl rfl hw dX12_know_83
  refine lv_iconst (v := (-1)) hM.1 hM.2.1 dX12_know_35 ic_m1 ?_
  exact hR _ _ _ _ _ _ _ (Option.some.inj hf) rfl rfl hw dX12_know_36
theorem hd_X12_know : yX12_know.cls = RX12 ∧ yX12_know.cls ≠ "java/lang/invoke/MethodHandle" ∧ yX12_know.cls ≠ "java/lang/invoke/VarHandle" ∧ (parseMethodDescriptor yX12_know.desc).map (fun d => d.parameters.length) = some 3 := ⟨rfl, by decide, by decide, by decide +kernel⟩
theorem dX12_forget_0 : decode cX12_forget 0 = .ok (.aload_n 0, 1) := by decide +kernel
theorem dX12_forget_1 : decode cX12_forget 1 = .ok (.getfield 287, 3) := by decide +kernel
theorem dX12_forget_4 : decode cX12_forget 4 = .ok (.aload_n 0, 1) := by decide +kernel
theorem dX12_forget_5 : decode cX12_forget 5 = .ok (.getfield 290, 3) := by decide +kernel
theorem dX12_forget_8 : decode cX12_forget 8 = .ok (.iadd, 1) := by decide +kernel
theorem dX12_forget_9 : decode cX12_forget 9 = .ok (.istore_n 1, 1) := by decide +kernel
theorem dX12_forget_10 : decode cX12_forget 10 = .ok (.aload_n 0, 1) := by decide +kernel
theorem dX12_forget_11 : decode cX12_forget 11 = .ok (.iconst 0, 1) := by decide +kernel
theorem dX12_forget_12 : decode cX12_forget 12 = .ok (.putfield 287, 3) := by decide +kernel
theorem dX12_forget_15 : decode cX12_forget 15 = .ok (.aload_n 0, 1) := by decide +kernel
theorem dX12_forget_16 : decode cX12_forget 16 = .ok (.iconst 0, 1) := by decide +kernel
theorem dX12_forget_17 : decode cX12_forget 17 = .ok (.putfield 290, 3) := by decide +kernel
theorem dX12_forget_20 : decode cX12_forget 20 = .ok (.iload_n 1, 1) := by decide +kernel
theorem dX12_forget_21 : decode cX12_forget 21 = .ok (.ireturn, 1) := by decide +kernel
def c_X12_forget (h : PH) : Option (Int32 × PH) :=
  nm ((h.1 0 67) + (h.1 0 72)) fun v1 =>
  nm (setI h 0 67 0) fun h2 =>
  nm (setI h2 0 72 0) fun h3 =>
  some (v1, h3)
set_option maxHeartbeats 4000000 in
set_option maxRecDepth 100000 in
theorem ct_X12_forget (l : Launch) {lay : List KK} (ho : okX12 lay) : CtI l yX12_forget cX12_forget 2 (some .int) 0 0 lay (fun h => c_X12_forget h) (fun ad => [.ref (ad 0)]) := by
  refine CtI.mk' RX12 (by decide) rfl (fun _ => Nat.le_of_ble_eq_true rfl) ?_
  intro p0 e s m args below meth c D G A H0 ad X h r0 H ls Q hM hw hl hf hR
  have hl : lv_has ls 2 [(0, .ref (ad 0))] := hl
  unfold c_X12_forget at hf
  refine lv_aload_n hM.1 hM.2.1 dX12_forget_0 rfl (lv_at hl 0 rfl) ?_
  refine gf_X12_saids hM hw (okX12.o ho) fl_X12_287 dX12_forget_1 ?_
  refine lv_aload_n hM.1 hM.2.1 dX12_forget_4 rfl (lv_at hl 0 rfl) ?_
  refine gf_X12_knowns hM hw (okX12.o ho) fl_X12_290 dX12_forget_5 ?_
  refine lv_iadd hM.1 hM.2.1 dX12_forget_8 ?_
  refine x_istore_n hM hf dX12_forget_9 rfl hl (by decide) (fun v1 => [(1, .int v1), (0, .ref (ad 0))]) (fun _ => rfl) (fun v1 ls hf hl => ?_)
  refine lv_aload_n hM.1 hM.2.1 dX12_forget_10 rfl (lv_at hl 1 rfl) ?_
  refine lv_iconst (v := 0) hM.1 hM.2.1 dX12_forget_11 ic_0 ?_
  refine pf_X12_saids hM hw (okX12.o ho) fl_X12_287 hf dX12_forget_12 (fun h2 H locs hf hw => ?_)
  refine lv_aload_n hM.1 hM.2.1 dX12_forget_15 rfl (lv_at hl 1 rfl) ?_
  refine lv_iconst (v := 0) hM.1 hM.2.1 dX12_forget_16 ic_0 ?_
  refine pf_X12_knowns hM hw (okX12.o ho) fl_X12_290 hf dX12_forget_17 (fun h3 H locs hf hw => ?_)
  refine lv_iload_n hM.1 hM.2.1 dX12_forget_20 rfl (lv_at hl 0 rfl) ?_
  exact hR _ _ _ _ _ _ _ (Option.some.inj hf) rfl rfl hw dX12_forget_21
theorem hd_X12_forget : yX12_forget.cls = RX12 ∧ yX12_forget.cls ≠ "java/lang/invoke/MethodHandle" ∧ yX12_forget.cls ≠ "java/lang/invoke/VarHandle" ∧ (parseMethodDescriptor yX12_forget.desc).map (fun d => d.parameters.length) = some 0 := ⟨rfl, by decide, by decide, by decide +kernel⟩
theorem dX12_chosen_0 : decode cX12_chosen 0 = .ok (.iconst 1, 1) := by decide +kernel
theorem dX12_chosen_1 : decode cX12_chosen 1 = .ok (.istore_n 2, 1) := by decide +kernel
theorem dX12_chosen_2 : decode cX12_chosen 2 = .ok (.iconst 0, 1) := by decide +kernel
theorem dX12_chosen_3 : decode cX12_chosen 3 = .ok (.istore_n 3, 1) := by decide +kernel
theorem dX12_chosen_4 : decode cX12_chosen 4 = .ok (.iload_n 3, 1) := by decide +kernel
theorem dX12_chosen_5 : decode cX12_chosen 5 = .ok (.iload_n 1, 1) := by decide +kernel
theorem dX12_chosen_6 : decode cX12_chosen 6 = .ok (.if_icmp .ge 19, 3) := by decide +kernel
theorem dX12_chosen_9 : decode cX12_chosen 9 = .ok (.iload_n 2, 1) := by decide +kernel
theorem dX12_chosen_10 : decode cX12_chosen 10 = .ok (.iload_n 0, 1) := by decide +kernel
theorem dX12_chosen_11 : decode cX12_chosen 11 = .ok (.iload_n 3, 1) := by decide +kernel
theorem dX12_chosen_12 : decode cX12_chosen 12 = .ok (.isub, 1) := by decide +kernel
theorem dX12_chosen_13 : decode cX12_chosen 13 = .ok (.imul, 1) := by decide +kernel
theorem dX12_chosen_14 : decode cX12_chosen 14 = .ok (.iload_n 3, 1) := by decide +kernel
theorem dX12_chosen_15 : decode cX12_chosen 15 = .ok (.iconst 1, 1) := by decide +kernel
theorem dX12_chosen_16 : decode cX12_chosen 16 = .ok (.iadd, 1) := by decide +kernel
theorem dX12_chosen_17 : decode cX12_chosen 17 = .ok (.idiv, 1) := by decide +kernel
theorem dX12_chosen_18 : decode cX12_chosen 18 = .ok (.istore_n 2, 1) := by decide +kernel
theorem dX12_chosen_19 : decode cX12_chosen 19 = .ok (.iinc 3 1, 3) := by decide +kernel
theorem dX12_chosen_22 : decode cX12_chosen 22 = .ok (.goto (-18), 3) := by decide +kernel
theorem dX12_chosen_25 : decode cX12_chosen 25 = .ok (.iload_n 2, 1) := by decide +kernel
theorem dX12_chosen_26 : decode cX12_chosen 26 = .ok (.ireturn, 1) := by decide +kernel
def c_X12_chosen_L4b {ρ : Type}  (z0 : Int32) (z1 : Int32) (K1 : Int32 → Option ρ) (REC : Int32 → Int32 → Option ρ) (x2 : Int32) (x3 : Int32) : Option ρ :=
  if z1 ≤ x3 then
    K1 x2
  else
    if (x3 + 1) = 0 then none else
    nm ((x2 * (z0 - x3)) / (x3 + 1)) fun v3 =>
    nm (x3 + 1) fun v4 =>
    REC v3 v4
set_option maxHeartbeats 4000000 in
set_option maxRecDepth 100000 in
theorem w_X12_chosen_L4b {p0 : Program} {l : Launch} {e : Env} {s : State} {m : MethodId} {args : Array Value} {below : List Frame} {meth : Method} {c : Code} {Q : State → Prop} {D : va_G} {G : GG} {A : Nat → Prop} {H0 : Heap} {ad : Nat → Nat} {lay : List KK} {X : va_W} {ρ : Type} {r0 : ρ} {z0 : Int32} {z1 : Int32} {x2 : Int32} {x3 : Int32} {h : PH} {H : Heap} {locs : List Loc} {ls : Array Slot} {K1 : Int32 → Option ρ} {REC : Int32 → Int32 → Option ρ} (hM : CallFix p0 m c cX12_chosen 4 s args lw_g RX12) (hk1 : ∀ (x2 : Int32), ∀ (H : Heap) (locs : List Loc) (ls : Array Slot), K1 x2 = some r0 → Wd D G A H0 ad lay X h s H locs → lv_has ls 4 [(2, .int x2)] → W p0 l e (rmN 0 0) s m args below meth c H locs 0 0 Q (F0 m 25 ls [])) (hrec : ∀ (x2 : Int32) (x3 : Int32), ∀ (H : Heap) (locs : List Loc) (ls : Array Slot), REC x2 x3 = some r0 → Wd D G A H0 ad lay X h s H locs → lv_has ls 4 [(0, .int z0), (1, .int z1), (2, .int x2), (3, .int x3)] → W p0 l e (rmN 0 0) s m args below meth c H locs 0 0 Q (F0 m 4 ls [])) (hw : Wd D G A H0 ad lay X h s H locs) (hl : lv_has ls 4 [(0, .int z0), (1, .int z1), (2, .int x2), (3, .int x3)]) (hf : c_X12_chosen_L4b z0 z1 K1 REC x2 x3 = some r0) : W p0 l e (rmN 0 0) s m args below meth c H locs 0 0 Q (F0 m 4 ls []) := by
  unfold c_X12_chosen_L4b at hf
  refine lv_iload_n hM.1 hM.2.1 dX12_chosen_4 rfl (lv_at hl 3 rfl) ?_
  refine lv_iload_n hM.1 hM.2.1 dX12_chosen_5 rfl (lv_at hl 1 rfl) ?_
  refine x_ic_ge (tgt := 25) hM hf dX12_chosen_6 (by decide) (fun hf => ?_) (fun hf => ?_)
  · exact hk1 _ _ _ _ hf hw (lv_sub hl [2] rfl)
  refine lv_iload_n hM.1 hM.2.1 dX12_chosen_9 rfl (lv_at hl 2 rfl) ?_
  refine lv_iload_n hM.1 hM.2.1 dX12_chosen_10 rfl (lv_at hl 0 rfl) ?_
  refine lv_iload_n hM.1 hM.2.1 dX12_chosen_11 rfl (lv_at hl 3 rfl) ?_
  refine lv_isub hM.1 hM.2.1 dX12_chosen_12 ?_
  refine lv_imul hM.1 hM.2.1 dX12_chosen_13 ?_
  refine lv_iload_n hM.1 hM.2.1 dX12_chosen_14 rfl (lv_at hl 3 rfl) ?_
  refine lv_iconst (v := 1) hM.1 hM.2.1 dX12_chosen_15 ic_1 ?_
  refine lv_iadd hM.1 hM.2.1 dX12_chosen_16 ?_
  refine x_idiv hM hf dX12_chosen_17 (fun hf => ?_)
  refine x_istore_n hM hf dX12_chosen_18 rfl hl (by decide) (fun v3 => [(2, .int v3), (0, .int z0), (1, .int z1), (3, .int x3)]) (fun _ => rfl) (fun v3 ls hf hl => ?_)
  refine x_iinc (k := 3) (d := 1) hM hf dX12_chosen_19 hl rfl (by decide) (by decide) (fun v4 => [(3, .int v4), (2, .int v3), (0, .int z0), (1, .int z1)]) (fun _ => rfl) (fun v4 ls hf hl => ?_)
  refine lv_goto (tgt := 4) hM.1 hM.2.1 dX12_chosen_22 (by decide) ?_
  exact hrec _ _ _ _ _ hf hw (lv_sub hl [2, 3, 1, 0] rfl)
set_option maxHeartbeats 4000000 in
set_option maxRecDepth 100000 in
theorem w_X12_chosen_L4 {p0 : Program} {l : Launch} {e : Env} {s : State} {m : MethodId} {args : Array Value} {below : List Frame} {meth : Method} {c : Code} {Q : State → Prop} {D : va_G} {G : GG} {A : Nat → Prop} {H0 : Heap} {ad : Nat → Nat} {lay : List KK} {X : va_W} {ρ : Type} {r0 : ρ} {z0 : Int32} {z1 : Int32} {h : PH} {K1 : Int32 → Option ρ} (hM : CallFix p0 m c cX12_chosen 4 s args lw_g RX12) (hk1 : ∀ (x2 : Int32), ∀ (H : Heap) (locs : List Loc) (ls : Array Slot), K1 x2 = some r0 → Wd D G A H0 ad lay X h s H locs → lv_has ls 4 [(2, .int x2)] → W p0 l e (rmN 0 0) s m args below meth c H locs 0 0 Q (F0 m 25 ls [])) (n : Nat) (x2 : Int32) (x3 : Int32) (hf : lq2 (c_X12_chosen_L4b z0 z1 K1) n x2 x3 = some r0) : ∀ (H : Heap) (locs : List Loc) (ls : Array Slot), Wd D G A H0 ad lay X h s H locs → lv_has ls 4 [(0, .int z0), (1, .int z1), (2, .int x2), (3, .int x3)] → W p0 l e (rmN 0 0) s m args below meth c H locs 0 0 Q (F0 m 4 ls []) := by
  exact lq2_i (fun (x2 : Int32) (x3 : Int32) => ∀ (H : Heap) (locs : List Loc) (ls : Array Slot), Wd D G A H0 ad lay X h s H locs → lv_has ls 4 [(0, .int z0), (1, .int z1), (2, .int x2), (3, .int x3)] → W p0 l e (rmN 0 0) s m args below meth c H locs 0 0 Q (F0 m 4 ls [])) (fun REC x2 x3 ih hf H locs ls hw hl => w_X12_chosen_L4b hM hk1 (fun x2 x3 H locs ls hf hw hl => ih x2 x3 hf H locs ls hw hl) hw hl hf) n x2 x3 hf
def c_X12_chosen (a0 : Int32) (a1 : Int32) : Option (Int32) :=
  nm (1 : Int32) fun v1 =>
  nm (0 : Int32) fun v2 =>
  lq2 (c_X12_chosen_L4b a0 a1
    (fun w5 =>
      some w5)) fu v1 v2
set_option maxHeartbeats 4000000 in
set_option maxRecDepth 100000 in
theorem ct_X12_chosen (l : Launch) {lay : List KK} (a0 : Int32) (a1 : Int32) : CtI l yX12_chosen cX12_chosen 4 (some .int) 0 0 lay (rd (fun _ => c_X12_chosen a0 a1)) (fun _ => [.int a0, .int a1]) := by
  refine CtI.mk' RX12 (by decide) rfl (fun _ => Nat.le_of_ble_eq_true rfl) ?_
  intro p0 e s m args below meth c D G A H0 ad X h r0 H ls Q hM hw hl hf hR
  have hl : lv_has ls 4 [(0, .int a0), (1, .int a1)] := hl
  obtain ⟨v0, hv0, hr0⟩ : ∃ v0, c_X12_chosen a0 a1 = some v0 ∧ r0 = (v0, h) := rd_some hf
  subst hr0
  have hf := hv0
  unfold c_X12_chosen at hf
  refine lv_iconst (v := 1) hM.1 hM.2.1 dX12_chosen_0 ic_1 ?_
  refine x_istore_n hM hf dX12_chosen_1 rfl hl (by decide) (fun v1 => [(2, .int v1), (0, .int a0), (1, .int a1)]) (fun _ => rfl) (fun v1 ls hf hl => ?_)
  refine lv_iconst (v := 0) hM.1 hM.2.1 dX12_chosen_2 ic_0 ?_
  refine x_istore_n hM hf dX12_chosen_3 rfl hl (by decide) (fun v2 => [(3, .int v2), (2, .int v1), (0, .int a0), (1, .int a1)]) (fun _ => rfl) (fun v2 ls hf hl => ?_)
  refine w_X12_chosen_L4 hM (fun w5 H locs ls hf hw hl => ?_) fu _ _ hf _ _ _ hw (lv_sub hl [2, 3, 1, 0] rfl)
  refine lv_iload_n hM.1 hM.2.1 dX12_chosen_25 rfl (lv_at hl 0 rfl) ?_
  exact hR _ _ _ _ _ _ _ (congrArg (fun z => (z, _)) (Option.some.inj hf)) rfl rfl hw dX12_chosen_26
theorem hd_X12_chosen : yX12_chosen.cls ≠ "java/lang/invoke/MethodHandle" ∧ yX12_chosen.cls ≠ "java/lang/invoke/VarHandle" ∧ (parseMethodDescriptor yX12_chosen.desc).map (fun d => d.parameters.length) = some 2 := ⟨by decide, by decide, by decide +kernel⟩
theorem dX12_fits_0 : decode cX12_fits 0 = .ok (.aload_n 0, 1) := by decide +kernel
theorem dX12_fits_1 : decode cX12_fits 1 = .ok (.iload_n 1, 1) := by decide +kernel
theorem dX12_fits_2 : decode cX12_fits 2 = .ok (.invokevirtual 425, 3) := by decide +kernel
theorem dX12_fits_5 : decode cX12_fits 5 = .ok (.ifCond .eq 15, 3) := by decide +kernel
theorem dX12_fits_8 : decode cX12_fits 8 = .ok (.iload_n 2, 1) := by decide +kernel
theorem dX12_fits_9 : decode cX12_fits 9 = .ok (.iconst 0, 1) := by decide +kernel
theorem dX12_fits_10 : decode cX12_fits 10 = .ok (.aload_n 0, 1) := by decide +kernel
theorem dX12_fits_11 : decode cX12_fits 11 = .ok (.getfield 290, 3) := by decide +kernel
theorem dX12_fits_14 : decode cX12_fits 14 = .ok (.invokestatic 359, 3) := by decide +kernel
theorem dX12_fits_17 : decode cX12_fits 17 = .ok (.ifCond .ne 5, 3) := by decide +kernel
theorem dX12_fits_20 : decode cX12_fits 20 = .ok (.iconst (-1), 1) := by decide +kernel
theorem dX12_fits_21 : decode cX12_fits 21 = .ok (.ireturn, 1) := by decide +kernel
theorem dX12_fits_22 : decode cX12_fits 22 = .ok (.iconst 0, 1) := by decide +kernel
theorem dX12_fits_23 : decode cX12_fits 23 = .ok (.istore_n 3, 1) := by decide +kernel
theorem dX12_fits_24 : decode cX12_fits 24 = .ok (.iload_n 3, 1) := by decide +kernel
theorem dX12_fits_25 : decode cX12_fits 25 = .ok (.bipush 7, 2) := by decide +kernel
theorem dX12_fits_27 : decode cX12_fits 27 = .ok (.if_icmp .ge 16, 3) := by decide +kernel
theorem dX12_fits_30 : decode cX12_fits 30 = .ok (.aload_n 0, 1) := by decide +kernel
theorem dX12_fits_31 : decode cX12_fits 31 = .ok (.getfield 176, 3) := by decide +kernel
theorem dX12_fits_34 : decode cX12_fits 34 = .ok (.iload_n 3, 1) := by decide +kernel
theorem dX12_fits_35 : decode cX12_fits 35 = .ok (.iconst (-1), 1) := by decide +kernel
theorem dX12_fits_36 : decode cX12_fits 36 = .ok (.iastore, 1) := by decide +kernel
theorem dX12_fits_37 : decode cX12_fits 37 = .ok (.iinc 3 1, 3) := by decide +kernel
theorem dX12_fits_40 : decode cX12_fits 40 = .ok (.goto (-16), 3) := by decide +kernel
theorem dX12_fits_43 : decode cX12_fits 43 = .ok (.iconst 0, 1) := by decide +kernel
theorem dX12_fits_44 : decode cX12_fits 44 = .ok (.istore_n 3, 1) := by decide +kernel
theorem dX12_fits_45 : decode cX12_fits 45 = .ok (.iload_n 3, 1) := by decide +kernel
theorem dX12_fits_46 : decode cX12_fits 46 = .ok (.iload_n 2, 1) := by decide +kernel
theorem dX12_fits_47 : decode cX12_fits 47 = .ok (.if_icmp .ge 71, 3) := by decide +kernel
theorem dX12_fits_50 : decode cX12_fits 50 = .ok (.aload_n 0, 1) := by decide +kernel
theorem dX12_fits_51 : decode cX12_fits 51 = .ok (.getfield 170, 3) := by decide +kernel
theorem dX12_fits_54 : decode cX12_fits 54 = .ok (.iload_n 3, 1) := by decide +kernel
theorem dX12_fits_55 : decode cX12_fits 55 = .ok (.iaload, 1) := by decide +kernel
theorem dX12_fits_56 : decode cX12_fits 56 = .ok (.iload_n 1, 1) := by decide +kernel
theorem dX12_fits_57 : decode cX12_fits 57 = .ok (.if_icmp .eq 6, 3) := by decide +kernel
theorem dX12_fits_60 : decode cX12_fits 60 = .ok (.goto 52, 3) := by decide +kernel
theorem dX12_fits_63 : decode cX12_fits 63 = .ok (.aload_n 0, 1) := by decide +kernel
theorem dX12_fits_64 : decode cX12_fits 64 = .ok (.getfield 167, 3) := by decide +kernel
theorem dX12_fits_67 : decode cX12_fits 67 = .ok (.iload_n 3, 1) := by decide +kernel
theorem dX12_fits_68 : decode cX12_fits 68 = .ok (.iaload, 1) := by decide +kernel
theorem dX12_fits_69 : decode cX12_fits 69 = .ok (.istore 4, 2) := by decide +kernel
theorem dX12_fits_71 : decode cX12_fits 71 = .ok (.aload_n 0, 1) := by decide +kernel
theorem dX12_fits_72 : decode cX12_fits 72 = .ok (.getfield 176, 3) := by decide +kernel
theorem dX12_fits_75 : decode cX12_fits 75 = .ok (.iload 4, 2) := by decide +kernel
theorem dX12_fits_77 : decode cX12_fits 77 = .ok (.iaload, 1) := by decide +kernel
theorem dX12_fits_78 : decode cX12_fits 78 = .ok (.ifCond .lt 21, 3) := by decide +kernel
theorem dX12_fits_81 : decode cX12_fits 81 = .ok (.aload_n 0, 1) := by decide +kernel
theorem dX12_fits_82 : decode cX12_fits 82 = .ok (.getfield 176, 3) := by decide +kernel
theorem dX12_fits_85 : decode cX12_fits 85 = .ok (.iload 4, 2) := by decide +kernel
theorem dX12_fits_87 : decode cX12_fits 87 = .ok (.iaload, 1) := by decide +kernel
theorem dX12_fits_88 : decode cX12_fits 88 = .ok (.aload_n 0, 1) := by decide +kernel
theorem dX12_fits_89 : decode cX12_fits 89 = .ok (.getfield 173, 3) := by decide +kernel
theorem dX12_fits_92 : decode cX12_fits 92 = .ok (.iload_n 3, 1) := by decide +kernel
theorem dX12_fits_93 : decode cX12_fits 93 = .ok (.iaload, 1) := by decide +kernel
theorem dX12_fits_94 : decode cX12_fits 94 = .ok (.if_icmp .eq 5, 3) := by decide +kernel
theorem dX12_fits_97 : decode cX12_fits 97 = .ok (.iconst 0, 1) := by decide +kernel
theorem dX12_fits_98 : decode cX12_fits 98 = .ok (.ireturn, 1) := by decide +kernel
theorem dX12_fits_99 : decode cX12_fits 99 = .ok (.aload_n 0, 1) := by decide +kernel
theorem dX12_fits_100 : decode cX12_fits 100 = .ok (.getfield 176, 3) := by decide +kernel
theorem dX12_fits_103 : decode cX12_fits 103 = .ok (.iload 4, 2) := by decide +kernel
theorem dX12_fits_105 : decode cX12_fits 105 = .ok (.aload_n 0, 1) := by decide +kernel
theorem dX12_fits_106 : decode cX12_fits 106 = .ok (.getfield 173, 3) := by decide +kernel
theorem dX12_fits_109 : decode cX12_fits 109 = .ok (.iload_n 3, 1) := by decide +kernel
theorem dX12_fits_110 : decode cX12_fits 110 = .ok (.iaload, 1) := by decide +kernel
theorem dX12_fits_111 : decode cX12_fits 111 = .ok (.iastore, 1) := by decide +kernel
theorem dX12_fits_112 : decode cX12_fits 112 = .ok (.iinc 3 1, 3) := by decide +kernel
theorem dX12_fits_115 : decode cX12_fits 115 = .ok (.goto (-70), 3) := by decide +kernel
theorem dX12_fits_118 : decode cX12_fits 118 = .ok (.iconst 0, 1) := by decide +kernel
theorem dX12_fits_119 : decode cX12_fits 119 = .ok (.istore_n 3, 1) := by decide +kernel
theorem dX12_fits_120 : decode cX12_fits 120 = .ok (.iconst 0, 1) := by decide +kernel
theorem dX12_fits_121 : decode cX12_fits 121 = .ok (.istore 4, 2) := by decide +kernel
theorem dX12_fits_123 : decode cX12_fits 123 = .ok (.iload 4, 2) := by decide +kernel
theorem dX12_fits_125 : decode cX12_fits 125 = .ok (.aload_n 0, 1) := by decide +kernel
theorem dX12_fits_126 : decode cX12_fits 126 = .ok (.getfield 80, 3) := by decide +kernel
theorem dX12_fits_129 : decode cX12_fits 129 = .ok (.aload_n 0, 1) := by decide +kernel
theorem dX12_fits_130 : decode cX12_fits 130 = .ok (.getfield 266, 3) := by decide +kernel
theorem dX12_fits_133 : decode cX12_fits 133 = .ok (.iaload, 1) := by decide +kernel
theorem dX12_fits_134 : decode cX12_fits 134 = .ok (.if_icmp .ge 22, 3) := by decide +kernel
theorem dX12_fits_137 : decode cX12_fits 137 = .ok (.aload_n 0, 1) := by decide +kernel
theorem dX12_fits_138 : decode cX12_fits 138 = .ok (.iload 4, 2) := by decide +kernel
theorem dX12_fits_140 : decode cX12_fits 140 = .ok (.invokevirtual 373, 3) := by decide +kernel
theorem dX12_fits_143 : decode cX12_fits 143 = .ok (.iload_n 1, 1) := by decide +kernel
theorem dX12_fits_144 : decode cX12_fits 144 = .ok (.if_icmp .ne 6, 3) := by decide +kernel
theorem dX12_fits_147 : decode cX12_fits 147 = .ok (.iinc 3 1, 3) := by decide +kernel
theorem dX12_fits_150 : decode cX12_fits 150 = .ok (.iinc 4 1, 3) := by decide +kernel
theorem dX12_fits_153 : decode cX12_fits 153 = .ok (.goto (-30), 3) := by decide +kernel
theorem dX12_fits_156 : decode cX12_fits 156 = .ok (.iconst 1, 1) := by decide +kernel
theorem dX12_fits_157 : decode cX12_fits 157 = .ok (.istore 4, 2) := by decide +kernel
theorem dX12_fits_159 : decode cX12_fits 159 = .ok (.iconst 1, 1) := by decide +kernel
theorem dX12_fits_160 : decode cX12_fits 160 = .ok (.istore 5, 2) := by decide +kernel
theorem dX12_fits_162 : decode cX12_fits 162 = .ok (.iconst 0, 1) := by decide +kernel
theorem dX12_fits_163 : decode cX12_fits 163 = .ok (.istore 6, 2) := by decide +kernel
theorem dX12_fits_165 : decode cX12_fits 165 = .ok (.iload 6, 2) := by decide +kernel
theorem dX12_fits_167 : decode cX12_fits 167 = .ok (.aload_n 0, 1) := by decide +kernel
theorem dX12_fits_168 : decode cX12_fits 168 = .ok (.getfield 61, 3) := by decide +kernel
theorem dX12_fits_171 : decode cX12_fits 171 = .ok (.aload_n 0, 1) := by decide +kernel
theorem dX12_fits_172 : decode cX12_fits 172 = .ok (.getfield 266, 3) := by decide +kernel
theorem dX12_fits_175 : decode cX12_fits 175 = .ok (.iaload, 1) := by decide +kernel
theorem dX12_fits_176 : decode cX12_fits 176 = .ok (.if_icmp .ge 64, 3) := by decide +kernel
theorem dX12_fits_179 : decode cX12_fits 179 = .ok (.aload_n 0, 1) := by decide +kernel
theorem dX12_fits_180 : decode cX12_fits 180 = .ok (.getfield 176, 3) := by decide +kernel
theorem dX12_fits_183 : decode cX12_fits 183 = .ok (.iload 6, 2) := by decide +kernel
theorem dX12_fits_185 : decode cX12_fits 185 = .ok (.iaload, 1) := by decide +kernel
theorem dX12_fits_186 : decode cX12_fits 186 = .ok (.ifCond .ge 9, 3) := by decide +kernel
theorem dX12_fits_189 : decode cX12_fits 189 = .ok (.iinc 5 1, 3) := by decide +kernel
theorem dX12_fits_192 : decode cX12_fits 192 = .ok (.goto 42, 3) := by decide +kernel
theorem dX12_fits_195 : decode cX12_fits 195 = .ok (.aload_n 0, 1) := by decide +kernel
theorem dX12_fits_196 : decode cX12_fits 196 = .ok (.getfield 176, 3) := by decide +kernel
theorem dX12_fits_199 : decode cX12_fits 199 = .ok (.iload 6, 2) := by decide +kernel
theorem dX12_fits_201 : decode cX12_fits 201 = .ok (.iaload, 1) := by decide +kernel
theorem dX12_fits_202 : decode cX12_fits 202 = .ok (.iload_n 3, 1) := by decide +kernel
theorem dX12_fits_203 : decode cX12_fits 203 = .ok (.if_icmp .le 5, 3) := by decide +kernel
theorem dX12_fits_206 : decode cX12_fits 206 = .ok (.iconst 0, 1) := by decide +kernel
theorem dX12_fits_207 : decode cX12_fits 207 = .ok (.ireturn, 1) := by decide +kernel
theorem dX12_fits_208 : decode cX12_fits 208 = .ok (.iload 4, 2) := by decide +kernel
theorem dX12_fits_210 : decode cX12_fits 210 = .ok (.iload_n 3, 1) := by decide +kernel
theorem dX12_fits_211 : decode cX12_fits 211 = .ok (.aload_n 0, 1) := by decide +kernel
theorem dX12_fits_212 : decode cX12_fits 212 = .ok (.getfield 176, 3) := by decide +kernel
theorem dX12_fits_215 : decode cX12_fits 215 = .ok (.iload 6, 2) := by decide +kernel
theorem dX12_fits_217 : decode cX12_fits 217 = .ok (.iaload, 1) := by decide +kernel
theorem dX12_fits_218 : decode cX12_fits 218 = .ok (.invokestatic 503, 3) := by decide +kernel
theorem dX12_fits_221 : decode cX12_fits 221 = .ok (.imul, 1) := by decide +kernel
theorem dX12_fits_222 : decode cX12_fits 222 = .ok (.istore 4, 2) := by decide +kernel
theorem dX12_fits_224 : decode cX12_fits 224 = .ok (.iload_n 3, 1) := by decide +kernel
theorem dX12_fits_225 : decode cX12_fits 225 = .ok (.aload_n 0, 1) := by decide +kernel
theorem dX12_fits_226 : decode cX12_fits 226 = .ok (.getfield 176, 3) := by decide +kernel
theorem dX12_fits_229 : decode cX12_fits 229 = .ok (.iload 6, 2) := by decide +kernel
theorem dX12_fits_231 : decode cX12_fits 231 = .ok (.iaload, 1) := by decide +kernel
theorem dX12_fits_232 : decode cX12_fits 232 = .ok (.isub, 1) := by decide +kernel
theorem dX12_fits_233 : decode cX12_fits 233 = .ok (.istore_n 3, 1) := by decide +kernel
theorem dX12_fits_234 : decode cX12_fits 234 = .ok (.iinc 6 1, 3) := by decide +kernel
theorem dX12_fits_237 : decode cX12_fits 237 = .ok (.goto (-72), 3) := by decide +kernel
theorem dX12_fits_240 : decode cX12_fits 240 = .ok (.iconst 0, 1) := by decide +kernel
theorem dX12_fits_241 : decode cX12_fits 241 = .ok (.istore 6, 2) := by decide +kernel
theorem dX12_fits_243 : decode cX12_fits 243 = .ok (.iload 6, 2) := by decide +kernel
theorem dX12_fits_245 : decode cX12_fits 245 = .ok (.iload_n 3, 1) := by decide +kernel
theorem dX12_fits_246 : decode cX12_fits 246 = .ok (.if_icmp .ge 16, 3) := by decide +kernel
theorem dX12_fits_249 : decode cX12_fits 249 = .ok (.iload 4, 2) := by decide +kernel
theorem dX12_fits_251 : decode cX12_fits 251 = .ok (.iload 5, 2) := by decide +kernel
theorem dX12_fits_253 : decode cX12_fits 253 = .ok (.imul, 1) := by decide +kernel
theorem dX12_fits_254 : decode cX12_fits 254 = .ok (.istore 4, 2) := by decide +kernel
theorem dX12_fits_256 : decode cX12_fits 256 = .ok (.iinc 6 1, 3) := by decide +kernel
theorem dX12_fits_259 : decode cX12_fits 259 = .ok (.goto (-16), 3) := by decide +kernel
theorem dX12_fits_262 : decode cX12_fits 262 = .ok (.iload 4, 2) := by decide +kernel
theorem dX12_fits_264 : decode cX12_fits 264 = .ok (.ireturn, 1) := by decide +kernel
def c_X12_fits_L24b {ρ : Type}  (z1 : Int32) (z2 : Int32) (K1 : PH → Option ρ) (REC : Int32 → PH → Option ρ) (x3 : Int32) (h : PH) : Option ρ :=
  if 7 ≤ x3 then
    K1 h
  else
    gd (ixOK x3 7) <| nm (setI h 53 x3.toNatClampNeg (-1)) fun h4 =>
    nm (x3 + 1) fun v5 =>
    REC v5 h4
set_option maxHeartbeats 4000000 in
set_option maxRecDepth 100000 in
theorem w_X12_fits_L24b {p0 : Program} {l : Launch} {e : Env} {s : State} {m : MethodId} {args : Array Value} {below : List Frame} {meth : Method} {c : Code} {Q : State → Prop} {D : va_G} {G : GG} {A : Nat → Prop} {H0 : Heap} {ad : Nat → Nat} {lay : List KK} {X : va_W} {ρ : Type} {r0 : ρ} {z1 : Int32} {z2 : Int32} {x3 : Int32} {h : PH} {H : Heap} {locs : List Loc} {ls : Array Slot} {K1 : PH → Option ρ} {REC : Int32 → PH → Option ρ} (hM : CallFix p0 m c cX12_fits 7 s args lw_g RX12) (ho : okX12 lay) (hk1 : ∀ (h : PH), ∀ (H : Heap) (locs : List Loc) (ls : Array Slot), K1 h = some r0 → Wd D G A H0 ad lay X h s H locs → lv_has ls 7 [(0, .ref (ad 0)), (1, .int z1), (2, .int z2)] → W p0 l e (rmN 2 43) s m args below meth c H locs 0 0 Q (F0 m 43 ls [])) (hrec : ∀ (x3 : Int32) (h : PH), ∀ (H : Heap) (locs : List Loc) (ls : Array Slot), REC x3 h = some r0 → Wd D G A H0 ad lay X h s H locs → lv_has ls 7 [(0, .ref (ad 0)), (1, .int z1), (2, .int z2), (3, .int x3)] → W p0 l e (rmN 2 43) s m args below meth c H locs 0 0 Q (F0 m 24 ls [])) (hw : Wd D G A H0 ad lay X h s H locs) (hl : lv_has ls 7 [(0, .ref (ad 0)), (1, .int z1), (2, .int z2), (3, .int x3)]) (hf : c_X12_fits_L24b z1 z2 K1 REC x3 h = some r0) : W p0 l e (rmN 2 43) s m args below meth c H locs 0 0 Q (F0 m 24 ls []) := by
  unfold c_X12_fits_L24b at hf
  refine lv_iload_n hM.1 hM.2.1 dX12_fits_24 rfl (lv_at hl 3 rfl) ?_
  refine lv_bipush (v := 7) hM.1 hM.2.1 dX12_fits_25 (by decide) ?_
  refine x_ic_ge (tgt := 43) hM hf dX12_fits_27 (by decide) (fun hf => ?_) (fun hf => ?_)
  · exact hk1 _ _ _ _ hf hw (lv_sub hl [0, 1, 2] rfl)
  refine lv_aload_n hM.1 hM.2.1 dX12_fits_30 rfl (lv_at hl 0 rfl) ?_
  refine gf_X12_often hM hw (okX12.o ho) fl_X12_176 dX12_fits_31 ?_
  refine lv_iload_n hM.1 hM.2.1 dX12_fits_34 rfl (lv_at hl 3 rfl) ?_
  refine lv_iconst (v := (-1)) hM.1 hM.2.1 dX12_fits_35 ic_m1 ?_
  refine x_iast hM hw (okX12.often ho) hf dX12_fits_36 (fun h4 H locs hf hw => ?_)
  refine x_iinc (k := 3) (d := 1) hM hf dX12_fits_37 hl rfl (by decide) (by decide) (fun v5 => [(3, .int v5), (0, .ref (ad 0)), (1, .int z1), (2, .int z2)]) (fun _ => rfl) (fun v5 ls hf hl => ?_)
  refine lv_goto (tgt := 24) hM.1 hM.2.1 dX12_fits_40 (by decide) ?_
  exact hrec _ _ _ _ _ hf hw (lv_sub hl [1, 2, 3, 0] rfl)
set_option maxHeartbeats 4000000 in
set_option maxRecDepth 100000 in
theorem w_X12_fits_L24 {p0 : Program} {l : Launch} {e : Env} {s : State} {m : MethodId} {args : Array Value} {below : List Frame} {meth : Method} {c : Code} {Q : State → Prop} {D : va_G} {G : GG} {A : Nat → Prop} {H0 : Heap} {ad : Nat → Nat} {lay : List KK} {X : va_W} {ρ : Type} {r0 : ρ} {z1 : Int32} {z2 : Int32} {K1 : PH → Option ρ} (hM : CallFix p0 m c cX12_fits 7 s args lw_g RX12) (ho : okX12 lay) (hk1 : ∀ (h : PH), ∀ (H : Heap) (locs : List Loc) (ls : Array Slot), K1 h = some r0 → Wd D G A H0 ad lay X h s H locs → lv_has ls 7 [(0, .ref (ad 0)), (1, .int z1), (2, .int z2)] → W p0 l e (rmN 2 43) s m args below meth c H locs 0 0 Q (F0 m 43 ls [])) (n : Nat) (x3 : Int32) (h : PH) (hf : lq2 (c_X12_fits_L24b z1 z2 K1) n x3 h = some r0) : ∀ (H : Heap) (locs : List Loc) (ls : Array Slot), Wd D G A H0 ad lay X h s H locs → lv_has ls 7 [(0, .ref (ad 0)), (1, .int z1), (2, .int z2), (3, .int x3)] → W p0 l e (rmN 2 43) s m args below meth c H locs 0 0 Q (F0 m 24 ls []) := by
  exact lq2_i (fun (x3 : Int32) (h : PH) => ∀ (H : Heap) (locs : List Loc) (ls : Array Slot), Wd D G A H0 ad lay X h s H locs → lv_has ls 7 [(0, .ref (ad 0)), (1, .int z1), (2, .int z2), (3, .int x3)] → W p0 l e (rmN 2 43) s m args below meth c H locs 0 0 Q (F0 m 24 ls [])) (fun REC x3 h ih hf H locs ls hw hl => w_X12_fits_L24b hM ho hk1 (fun x3 h H locs ls hf hw hl => ih x3 h hf H locs ls hw hl) hw hl hf) n x3 h hf
def c_X12_fits_L45b {ρ : Type}  (z1 : Int32) (z2 : Int32) (K1 : PH → Option ρ) (K2 : PH → Option ρ) (REC : Int32 → PH → Option ρ) (x3 : Int32) (h : PH) : Option ρ :=
  if z2 ≤ x3 then
    K2 h
  else
    gd (ixOK x3 20) <|
    if (h.1 51 x3.toNatClampNeg) = z1 then
      gd (ixOK x3 20) <|
      nm (h.1 50 x3.toNatClampNeg) fun v8 =>
      gd (ixOK v8 7) <|
      if (h.1 53 v8.toNatClampNeg) < 0 then
        gd (ixOK x3 20) <|
        gd (ixOK v8 7) <| nm (setI h 53 v8.toNatClampNeg (h.1 52 x3.toNatClampNeg)) fun h9 =>
        nm (x3 + 1) fun v10 =>
        REC v10 h9
      else
        gd (ixOK v8 7) <|
        gd (ixOK x3 20) <|
        if (h.1 53 v8.toNatClampNeg) = (h.1 52 x3.toNatClampNeg) then
          gd (ixOK x3 20) <|
          gd (ixOK v8 7) <| nm (setI h 53 v8.toNatClampNeg (h.1 52 x3.toNatClampNeg)) fun h11 =>
          nm (x3 + 1) fun v12 =>
          REC v12 h11
        else
          K1 h
    else
      nm (x3 + 1) fun v13 =>
      REC v13 h
set_option maxHeartbeats 4000000 in
set_option maxRecDepth 100000 in
theorem w_X12_fits_L45b {p0 : Program} {l : Launch} {e : Env} {s : State} {m : MethodId} {args : Array Value} {below : List Frame} {meth : Method} {c : Code} {Q : State → Prop} {D : va_G} {G : GG} {A : Nat → Prop} {H0 : Heap} {ad : Nat → Nat} {lay : List KK} {X : va_W} {ρ : Type} {r0 : ρ} {z1 : Int32} {z2 : Int32} {x3 : Int32} {h : PH} {H : Heap} {locs : List Loc} {ls : Array Slot} {K1 : PH → Option ρ} {K2 : PH → Option ρ} {REC : Int32 → PH → Option ρ} (hM : CallFix p0 m c cX12_fits 7 s args lw_g RX12) (ho : okX12 lay) (hk1 : ∀ (h : PH), ∀ (H : Heap) (locs : List Loc) (ls : Array Slot), K1 h = some r0 → Wd D G A H0 ad lay X h s H locs → lv_has ls 7 [] → W p0 l e (rmN 2 43) s m args below meth c H locs 0 0 Q (F0 m 97 ls [])) (hk2 : ∀ (h : PH), ∀ (H : Heap) (locs : List Loc) (ls : Array Slot), K2 h = some r0 → Wd D G A H0 ad lay X h s H locs → lv_has ls 7 [(0, .ref (ad 0)), (1, .int z1)] → W p0 l e (rmN 2 43) s m args below meth c H locs 0 0 Q (F0 m 118 ls [])) (hrec : ∀ (x3 : Int32) (h : PH), ∀ (H : Heap) (locs : List Loc) (ls : Array Slot), REC x3 h = some r0 → Wd D G A H0 ad lay X h s H locs → lv_has ls 7 [(0, .ref (ad 0)), (1, .int z1), (2, .int z2), (3, .int x3)] → W p0 l e (rmN 2 43) s m args below meth c H locs 0 0 Q (F0 m 45 ls [])) (hw : Wd D G A H0 ad lay X h s H locs) (hl : lv_has ls 7 [(0, .ref (ad 0)), (1, .int z1), (2, .int z2), (3, .int x3)]) (hf : c_X12_fits_L45b z1 z2 K1 K2 REC x3 h = some r0) : W p0 l e (rmN 2 43) s m args below meth c H locs 0 0 Q (F0 m 45 ls []) := by
  unfold c_X12_fits_L45b at hf
  refine lv_iload_n hM.1 hM.2.1 dX12_fits_45 rfl (lv_at hl 3 rfl) ?_
  refine lv_iload_n hM.1 hM.2.1 dX12_fits_46 rfl (lv_at hl 2 rfl) ?_
  refine x_ic_ge (tgt := 118) hM hf dX12_fits_47 (by decide) (fun hf => ?_) (fun hf => ?_)
  · exact hk2 _ _ _ _ hf hw (lv_sub hl [0, 1] rfl)
  refine lv_aload_n hM.1 hM.2.1 dX12_fits_50 rfl (lv_at hl 0 rfl) ?_
  refine gf_X12_knownMan hM hw (okX12.o ho) fl_X12_170 dX12_fits_51 ?_
  refine lv_iload_n hM.1 hM.2.1 dX12_fits_54 rfl (lv_at hl 3 rfl) ?_
  refine x_iald hM hw (okX12.knownMan ho) hf dX12_fits_55 (fun hf => ?_)
  refine lv_iload_n hM.1 hM.2.1 dX12_fits_56 rfl (lv_at hl 1 rfl) ?_
  refine x_ic_eq (tgt := 63) hM hf dX12_fits_57 (by decide) (fun hf => ?_) (fun hf => ?_)
  · refine lv_aload_n hM.1 hM.2.1 dX12_fits_63 rfl (lv_at hl 0 rfl) ?_
    refine gf_X12_knownExcuse hM hw (okX12.o ho) fl_X12_167 dX12_fits_64 ?_
    refine lv_iload_n hM.1 hM.2.1 dX12_fits_67 rfl (lv_at hl 3 rfl) ?_
    refine x_iald hM hw (okX12.knownExcuse ho) hf dX12_fits_68 (fun hf => ?_)
    refine x_istore hM hf dX12_fits_69 hl (by decide) (fun v8 => [(4, .int v8), (0, .ref (ad 0)), (1, .int z1), (2, .int z2), (3, .int x3)]) (fun _ => rfl) (fun v8 ls hf hl => ?_)
    refine lv_aload_n hM.1 hM.2.1 dX12_fits_71 rfl (lv_at hl 1 rfl) ?_
    refine gf_X12_often hM hw (okX12.o ho) fl_X12_176 dX12_fits_72 ?_
    refine lv_iload hM.1 hM.2.1 dX12_fits_75 (lv_at hl 0 rfl) ?_
    refine x_iald hM hw (okX12.often ho) hf dX12_fits_77 (fun hf => ?_)
    refine x_if_lt (tgt := 99) hM hf dX12_fits_78 (by decide) (fun hf => ?_) (fun hf => ?_)
    · refine lv_aload_n hM.1 hM.2.1 dX12_fits_99 rfl (lv_at hl 1 rfl) ?_
      refine gf_X12_often hM hw (okX12.o ho) fl_X12_176 dX12_fits_100 ?_
      refine lv_iload hM.1 hM.2.1 dX12_fits_103 (lv_at hl 0 rfl) ?_
      refine lv_aload_n hM.1 hM.2.1 dX12_fits_105 rfl (lv_at hl 1 rfl) ?_
      refine gf_X12_knownOften hM hw (okX12.o ho) fl_X12_173 dX12_fits_106 ?_
      refine lv_iload_n hM.1 hM.2.1 dX12_fits_109 rfl (lv_at hl 4 rfl) ?_
      refine x_iald hM hw (okX12.knownOften ho) hf dX12_fits_110 (fun hf => ?_)
      refine x_iast hM hw (okX12.often ho) hf dX12_fits_111 (fun h9 H locs hf hw => ?_)
      refine x_iinc (k := 4) (d := 1) hM hf dX12_fits_112 hl rfl (by decide) (by decide) (fun v10 => [(3, .int v10), (4, .int v8), (0, .ref (ad 0)), (1, .int z1), (2, .int z2)]) (fun _ => rfl) (fun v10 ls hf hl => ?_)
      refine lv_goto (tgt := 45) hM.1 hM.2.1 dX12_fits_115 (by decide) ?_
      exact hrec _ _ _ _ _ hf hw (lv_sub hl [2, 3, 4, 0] rfl)
    refine lv_aload_n hM.1 hM.2.1 dX12_fits_81 rfl (lv_at hl 1 rfl) ?_
    refine gf_X12_often hM hw (okX12.o ho) fl_X12_176 dX12_fits_82 ?_
    refine lv_iload hM.1 hM.2.1 dX12_fits_85 (lv_at hl 0 rfl) ?_
    refine x_iald hM hw (okX12.often ho) hf dX12_fits_87 (fun hf => ?_)
    refine lv_aload_n hM.1 hM.2.1 dX12_fits_88 rfl (lv_at hl 1 rfl) ?_
    refine gf_X12_knownOften hM hw (okX12.o ho) fl_X12_173 dX12_fits_89 ?_
    refine lv_iload_n hM.1 hM.2.1 dX12_fits_92 rfl (lv_at hl 4 rfl) ?_
    refine x_iald hM hw (okX12.knownOften ho) hf dX12_fits_93 (fun hf => ?_)
    refine x_ic_eq (tgt := 99) hM hf dX12_fits_94 (by decide) (fun hf => ?_) (fun hf => ?_)
    · refine lv_aload_n hM.1 hM.2.1 dX12_fits_99 rfl (lv_at hl 1 rfl) ?_
      refine gf_X12_often hM hw (okX12.o ho) fl_X12_176 dX12_fits_100 ?_
      refine lv_iload hM.1 hM.2.1 dX12_fits_103 (lv_at hl 0 rfl) ?_
      refine lv_aload_n hM.1 hM.2.1 dX12_fits_105 rfl (lv_at hl 1 rfl) ?_
      refine gf_X12_knownOften hM hw (okX12.o ho) fl_X12_173 dX12_fits_106 ?_
      refine lv_iload_n hM.1 hM.2.1 dX12_fits_109 rfl (lv_at hl 4 rfl) ?_
      refine x_iald hM hw (okX12.knownOften ho) hf dX12_fits_110 (fun hf => ?_)
      refine x_iast hM hw (okX12.often ho) hf dX12_fits_111 (fun h11 H locs hf hw => ?_)
      refine x_iinc (k := 4) (d := 1) hM hf dX12_fits_112 hl rfl (by decide) (by decide) (fun v12 => [(3, .int v12), (4, .int v8), (0, .ref (ad 0)), (1, .int z1), (2, .int z2)]) (fun _ => rfl) (fun v12 ls hf hl => ?_)
      refine lv_goto (tgt := 45) hM.1 hM.2.1 dX12_fits_115 (by decide) ?_
      exact hrec _ _ _ _ _ hf hw (lv_sub hl [2, 3, 4, 0] rfl)
    exact hk1 _ _ _ _ hf hw (lv_sub hl [] rfl)
  refine lv_goto (tgt := 112) hM.1 hM.2.1 dX12_fits_60 (by decide) ?_
  refine x_iinc (k := 3) (d := 1) hM hf dX12_fits_112 hl rfl (by decide) (by decide) (fun v13 => [(3, .int v13), (0, .ref (ad 0)), (1, .int z1), (2, .int z2)]) (fun _ => rfl) (fun v13 ls hf hl => ?_)
  refine lv_goto (tgt := 45) hM.1 hM.2.1 dX12_fits_115 (by decide) ?_
  exact hrec _ _ _ _ _ hf hw (lv_sub hl [1, 2, 3, 0] rfl)
set_option maxHeartbeats 4000000 in
set_option maxRecDepth 100000 in
theorem w_X12_fits_L45 {p0 : Program} {l : Launch} {e : Env} {s : State} {m : MethodId} {args : Array Value} {below : List Frame} {meth : Method} {c : Code} {Q : State → Prop} {D : va_G} {G : GG} {A : Nat → Prop} {H0 : Heap} {ad : Nat → Nat} {lay : List KK} {X : va_W} {ρ : Type} {r0 : ρ} {z1 : Int32} {z2 : Int32} {K1 : PH → Option ρ} {K2 : PH → Option ρ} (hM : CallFix p0 m c cX12_fits 7 s args lw_g RX12) (ho : okX12 lay) (hk1 : ∀ (h : PH), ∀ (H : Heap) (locs : List Loc) (ls : Array Slot), K1 h = some r0 → Wd D G A H0 ad lay X h s H locs → lv_has ls 7 [] → W p0 l e (rmN 2 43) s m args below meth c H locs 0 0 Q (F0 m 97 ls [])) (hk2 : ∀ (h : PH), ∀ (H : Heap) (locs : List Loc) (ls : Array Slot), K2 h = some r0 → Wd D G A H0 ad lay X h s H locs → lv_has ls 7 [(0, .ref (ad 0)), (1, .int z1)] → W p0 l e (rmN 2 43) s m args below meth c H locs 0 0 Q (F0 m 118 ls [])) (n : Nat) (x3 : Int32) (h : PH) (hf : lq2 (c_X12_fits_L45b z1 z2 K1 K2) n x3 h = some r0) : ∀ (H : Heap) (locs : List Loc) (ls : Array Slot), Wd D G A H0 ad lay X h s H locs → lv_has ls 7 [(0, .ref (ad 0)), (1, .int z1), (2, .int z2), (3, .int x3)] → W p0 l e (rmN 2 43) s m args below meth c H locs 0 0 Q (F0 m 45 ls []) := by
  exact lq2_i (fun (x3 : Int32) (h : PH) => ∀ (H : Heap) (locs : List Loc) (ls : Array Slot), Wd D G A H0 ad lay X h s H locs → lv_has ls 7 [(0, .ref (ad 0)), (1, .int z1), (2, .int z2), (3, .int x3)] → W p0 l e (rmN 2 43) s m args below meth c H locs 0 0 Q (F0 m 45 ls [])) (fun REC x3 h ih hf H locs ls hw hl => w_X12_fits_L45b hM ho hk1 hk2 (fun x3 h H locs ls hf hw hl => ih x3 h hf H locs ls hw hl) hw hl hf) n x3 h hf
def c_X12_fits_L123b {ρ : Type}  (z1 : Int32) (h : PH) (K1 : Int32 → Option ρ) (REC : Int32 → Int32 → Option ρ) (x3 : Int32) (x4 : Int32) : Option ρ :=
  gd (ixOK (h.1 0 18) 2) <|
  if (h.1 21 (h.1 0 18).toNatClampNeg) ≤ x4 then
    K1 x3
  else
    (c_X12_manOf x4 h).bind fun r18 =>
    if r18 = z1 then
      nm (x3 + 1) fun v20 =>
      nm (x4 + 1) fun v21 =>
      REC v20 v21
    else
      nm (x4 + 1) fun v19 =>
      REC x3 v19
set_option maxHeartbeats 4000000 in
set_option maxRecDepth 100000 in
theorem w_X12_fits_L123b {p0 : Program} {l : Launch} {e : Env} {s : State} {m : MethodId} {args : Array Value} {below : List Frame} {meth : Method} {c : Code} {Q : State → Prop} {D : va_G} {G : GG} {A : Nat → Prop} {H0 : Heap} {ad : Nat → Nat} {lay : List KK} {X : va_W} {ρ : Type} {r0 : ρ} {z1 : Int32} {x3 : Int32} {x4 : Int32} {h : PH} {H : Heap} {locs : List Loc} {ls : Array Slot} {K1 : Int32 → Option ρ} {REC : Int32 → Int32 → Option ρ} (hM : CallFix p0 m c cX12_fits 7 s args lw_g RX12) (ho : okX12 lay) (hk1 : ∀ (x3 : Int32), ∀ (H : Heap) (locs : List Loc) (ls : Array Slot), K1 x3 = some r0 → Wd D G A H0 ad lay X h s H locs → lv_has ls 7 [(0, .ref (ad 0)), (3, .int x3)] → W p0 l e (rmN 2 43) s m args below meth c H locs 0 0 Q (F0 m 156 ls [])) (hrec : ∀ (x3 : Int32) (x4 : Int32), ∀ (H : Heap) (locs : List Loc) (ls : Array Slot), REC x3 x4 = some r0 → Wd D G A H0 ad lay X h s H locs → lv_has ls 7 [(0, .ref (ad 0)), (1, .int z1), (3, .int x3), (4, .int x4)] → W p0 l e (rmN 2 43) s m args below meth c H locs 0 0 Q (F0 m 123 ls [])) (hw : Wd D G A H0 ad lay X h s H locs) (hl : lv_has ls 7 [(0, .ref (ad 0)), (1, .int z1), (3, .int x3), (4, .int x4)]) (hf : c_X12_fits_L123b z1 h K1 REC x3 x4 = some r0) : W p0 l e (rmN 2 43) s m args below meth c H locs 0 0 Q (F0 m 123 ls []) := by
  unfold c_X12_fits_L123b at hf
  refine lv_iload hM.1 hM.2.1 dX12_fits_123 (lv_at hl 3 rfl) ?_
  refine lv_aload_n hM.1 hM.2.1 dX12_fits_125 rfl (lv_at hl 0 rfl) ?_
  refine gf_X12_duties hM hw (okX12.o ho) fl_X12_80 dX12_fits_126 ?_
  refine lv_aload_n hM.1 hM.2.1 dX12_fits_129 rfl (lv_at hl 0 rfl) ?_
  refine gf_X12_live hM hw (okX12.o ho) fl_X12_266 dX12_fits_130 ?_
  refine x_iald hM hw (okX12.duties ho) hf dX12_fits_133 (fun hf => ?_)
  refine x_ic_ge (tgt := 156) hM hf dX12_fits_134 (by decide) (fun hf => ?_) (fun hf => ?_)
  · exact hk1 _ _ _ _ hf hw (lv_sub hl [0, 2] rfl)
  refine lv_aload_n hM.1 hM.2.1 dX12_fits_137 rfl (lv_at hl 0 rfl) ?_
  refine lv_iload hM.1 hM.2.1 dX12_fits_138 (lv_at hl 3 rfl) ?_
  refine x_callVIr (rest := []) hM hw (ct_X12_manOf l ho x4) [.int x4] (okX12.o ho) rfl rfl rfl (gi_V ml_X12_373 im_X12_manOf sl_X12_manOf in_X12 kc_X12_manOf) hd_X12_manOf rfl ⟨Nat.le_of_ble_eq_true rfl, Nat.le_of_ble_eq_true rfl⟩ rfl (Nat.le_of_ble_eq_true rfl) hl.1 hcs0 hf dX12_fits_140 (fun r18 H locs hf hw => ?_)
  refine lv_iload_n hM.1 hM.2.1 dX12_fits_143 rfl (lv_at hl 1 rfl) ?_
  refine x_ic_ne (tgt := 150) hM hf dX12_fits_144 (by decide) (fun hf => ?_) (fun hf => ?_)
  · refine x_iinc (k := 3) (d := 1) hM hf dX12_fits_150 hl rfl (by decide) (by decide) (fun v19 => [(4, .int v19), (0, .ref (ad 0)), (1, .int z1), (3, .int x3)]) (fun _ => rfl) (fun v19 ls hf hl => ?_)
    refine lv_goto (tgt := 123) hM.1 hM.2.1 dX12_fits_153 (by decide) ?_
    exact hrec _ _ _ _ _ hf hw (lv_sub hl [1, 2, 3, 0] rfl)
  refine x_iinc (k := 2) (d := 1) hM hf dX12_fits_147 hl rfl (by decide) (by decide) (fun v20 => [(3, .int v20), (0, .ref (ad 0)), (1, .int z1), (4, .int x4)]) (fun _ => rfl) (fun v20 ls hf hl => ?_)
  refine x_iinc (k := 3) (d := 1) hM hf dX12_fits_150 hl rfl (by decide) (by decide) (fun v21 => [(4, .int v21), (3, .int v20), (0, .ref (ad 0)), (1, .int z1)]) (fun _ => rfl) (fun v21 ls hf hl => ?_)
  refine lv_goto (tgt := 123) hM.1 hM.2.1 dX12_fits_153 (by decide) ?_
  exact hrec _ _ _ _ _ hf hw (lv_sub hl [2, 3, 1, 0] rfl)
set_option maxHeartbeats 4000000 in
set_option maxRecDepth 100000 in
theorem w_X12_fits_L123 {p0 : Program} {l : Launch} {e : Env} {s : State} {m : MethodId} {args : Array Value} {below : List Frame} {meth : Method} {c : Code} {Q : State → Prop} {D : va_G} {G : GG} {A : Nat → Prop} {H0 : Heap} {ad : Nat → Nat} {lay : List KK} {X : va_W} {ρ : Type} {r0 : ρ} {z1 : Int32} {h : PH} {K1 : Int32 → Option ρ} (hM : CallFix p0 m c cX12_fits 7 s args lw_g RX12) (ho : okX12 lay) (hk1 : ∀ (x3 : Int32), ∀ (H : Heap) (locs : List Loc) (ls : Array Slot), K1 x3 = some r0 → Wd D G A H0 ad lay X h s H locs → lv_has ls 7 [(0, .ref (ad 0)), (3, .int x3)] → W p0 l e (rmN 2 43) s m args below meth c H locs 0 0 Q (F0 m 156 ls [])) (n : Nat) (x3 : Int32) (x4 : Int32) (hf : lq2 (c_X12_fits_L123b z1 h K1) n x3 x4 = some r0) : ∀ (H : Heap) (locs : List Loc) (ls : Array Slot), Wd D G A H0 ad lay X h s H locs → lv_has ls 7 [(0, .ref (ad 0)), (1, .int z1), (3, .int x3), (4, .int x4)] → W p0 l e (rmN 2 43) s m args below meth c H locs 0 0 Q (F0 m 123 ls []) := by
  exact lq2_i (fun (x3 : Int32) (x4 : Int32) => ∀ (H : Heap) (locs : List Loc) (ls : Array Slot), Wd D G A H0 ad lay X h s H locs → lv_has ls 7 [(0, .ref (ad 0)), (1, .int z1), (3, .int x3), (4, .int x4)] → W p0 l e (rmN 2 43) s m args below meth c H locs 0 0 Q (F0 m 123 ls [])) (fun REC x3 x4 ih hf H locs ls hw hl => w_X12_fits_L123b hM ho hk1 (fun x3 x4 H locs ls hf hw hl => ih x3 x4 hf H locs ls hw hl) hw hl hf) n x3 x4 hf
def c_X12_fits_L165b {ρ : Type}  (h : PH) (K1 : Option ρ) (K2 : Int32 → Int32 → Int32 → Option ρ) (REC : Int32 → Int32 → Int32 → Int32 → Option ρ) (x3 : Int32) (x4 : Int32) (x5 : Int32) (x6 : Int32) : Option ρ :=
  gd (ixOK (h.1 0 18) 2) <|
  if (h.1 15 (h.1 0 18).toNatClampNeg) ≤ x6 then
    K2 x3 x4 x5
  else
    gd (ixOK x6 7) <|
    if 0 ≤ (h.1 53 x6.toNatClampNeg) then
      gd (ixOK x6 7) <|
      if (h.1 53 x6.toNatClampNeg) ≤ x3 then
        gd (ixOK x6 7) <|
        (c_X12_chosen x3 (h.1 53 x6.toNatClampNeg)).bind fun r26 =>
        nm (x4 * r26) fun v27 =>
        gd (ixOK x6 7) <|
        nm (x3 - (h.1 53 x6.toNatClampNeg)) fun v28 =>
        nm (x6 + 1) fun v29 =>
        REC v28 v27 x5 v29
      else
        K1
    else
      nm (x5 + 1) fun v30 =>
      nm (x6 + 1) fun v31 =>
      REC x3 x4 v30 v31
set_option maxHeartbeats 4000000 in
set_option maxRecDepth 100000 in
theorem w_X12_fits_L165b {p0 : Program} {l : Launch} {e : Env} {s : State} {m : MethodId} {args : Array Value} {below : List Frame} {meth : Method} {c : Code} {Q : State → Prop} {D : va_G} {G : GG} {A : Nat → Prop} {H0 : Heap} {ad : Nat → Nat} {lay : List KK} {X : va_W} {ρ : Type} {r0 : ρ} {x3 : Int32} {x4 : Int32} {x5 : Int32} {x6 : Int32} {h : PH} {H : Heap} {locs : List Loc} {ls : Array Slot} {K1 : Option ρ} {K2 : Int32 → Int32 → Int32 → Option ρ} {REC : Int32 → Int32 → Int32 → Int32 → Option ρ} (hM : CallFix p0 m c cX12_fits 7 s args lw_g RX12) (ho : okX12 lay) (hk1 : ∀ (H : Heap) (locs : List Loc) (ls : Array Slot), K1 = some r0 → Wd D G A H0 ad lay X h s H locs → lv_has ls 7 [] → W p0 l e (rmN 2 43) s m args below meth c H locs 0 0 Q (F0 m 206 ls [])) (hk2 : ∀ (x3 : Int32) (x4 : Int32) (x5 : Int32), ∀ (H : Heap) (locs : List Loc) (ls : Array Slot), K2 x3 x4 x5 = some r0 → Wd D G A H0 ad lay X h s H locs → lv_has ls 7 [(3, .int x3), (4, .int x4), (5, .int x5)] → W p0 l e (rmN 2 43) s m args below meth c H locs 0 0 Q (F0 m 240 ls [])) (hrec : ∀ (x3 : Int32) (x4 : Int32) (x5 : Int32) (x6 : Int32), ∀ (H : Heap) (locs : List Loc) (ls : Array Slot), REC x3 x4 x5 x6 = some r0 → Wd D G A H0 ad lay X h s H locs → lv_has ls 7 [(0, .ref (ad 0)), (3, .int x3), (4, .int x4), (5, .int x5), (6, .int x6)] → W p0 l e (rmN 2 43) s m args below meth c H locs 0 0 Q (F0 m 165 ls [])) (hw : Wd D G A H0 ad lay X h s H locs) (hl : lv_has ls 7 [(0, .ref (ad 0)), (3, .int x3), (4, .int x4), (5, .int x5), (6, .int x6)]) (hf : c_X12_fits_L165b h K1 K2 REC x3 x4 x5 x6 = some r0) : W p0 l e (rmN 2 43) s m args below meth c H locs 0 0 Q (F0 m 165 ls []) := by
  unfold c_X12_fits_L165b at hf
  refine lv_iload hM.1 hM.2.1 dX12_fits_165 (lv_at hl 4 rfl) ?_
  refine lv_aload_n hM.1 hM.2.1 dX12_fits_167 rfl (lv_at hl 0 rfl) ?_
  refine gf_X12_excuses hM hw (okX12.o ho) fl_X12_61 dX12_fits_168 ?_
  refine lv_aload_n hM.1 hM.2.1 dX12_fits_171 rfl (lv_at hl 0 rfl) ?_
  refine gf_X12_live hM hw (okX12.o ho) fl_X12_266 dX12_fits_172 ?_
  refine x_iald hM hw (okX12.excuses ho) hf dX12_fits_175 (fun hf => ?_)
  refine x_ic_ge (tgt := 240) hM hf dX12_fits_176 (by decide) (fun hf => ?_) (fun hf => ?_)
  · exact hk2 _ _ _ _ _ _ hf hw (lv_sub hl [1, 2, 3] rfl)
  refine lv_aload_n hM.1 hM.2.1 dX12_fits_179 rfl (lv_at hl 0 rfl) ?_
  refine gf_X12_often hM hw (okX12.o ho) fl_X12_176 dX12_fits_180 ?_
  refine lv_iload hM.1 hM.2.1 dX12_fits_183 (lv_at hl 4 rfl) ?_
  refine x_iald hM hw (okX12.often ho) hf dX12_fits_185 (fun hf => ?_)
  refine x_if_ge (tgt := 195) hM hf dX12_fits_186 (by decide) (fun hf => ?_) (fun hf => ?_)
  · refine lv_aload_n hM.1 hM.2.1 dX12_fits_195 rfl (lv_at hl 0 rfl) ?_
    refine gf_X12_often hM hw (okX12.o ho) fl_X12_176 dX12_fits_196 ?_
    refine lv_iload hM.1 hM.2.1 dX12_fits_199 (lv_at hl 4 rfl) ?_
    refine x_iald hM hw (okX12.often ho) hf dX12_fits_201 (fun hf => ?_)
    refine lv_iload_n hM.1 hM.2.1 dX12_fits_202 rfl (lv_at hl 1 rfl) ?_
    refine x_ic_le (tgt := 208) hM hf dX12_fits_203 (by decide) (fun hf => ?_) (fun hf => ?_)
    · refine lv_iload hM.1 hM.2.1 dX12_fits_208 (lv_at hl 2 rfl) ?_
      refine lv_iload_n hM.1 hM.2.1 dX12_fits_210 rfl (lv_at hl 1 rfl) ?_
      refine lv_aload_n hM.1 hM.2.1 dX12_fits_211 rfl (lv_at hl 0 rfl) ?_
      refine gf_X12_often hM hw (okX12.o ho) fl_X12_176 dX12_fits_212 ?_
      refine lv_iload hM.1 hM.2.1 dX12_fits_215 (lv_at hl 4 rfl) ?_
      refine x_iald hM hw (okX12.often ho) hf dX12_fits_217 (fun hf => ?_)
      refine x_callSIr (rest := [.int x4]) hM hw (ct_X12_chosen l x3 (h.1 53 x6.toNatClampNeg)) [.int x3, .int (h.1 53 x6.toNatClampNeg)] rfl (gi_S ml_X12_503 sm_X12_chosen in_X12 kc_X12_chosen) hd_X12_chosen rfl ⟨Nat.le_of_ble_eq_true rfl, Nat.le_of_ble_eq_true rfl⟩ rfl (Nat.le_of_ble_eq_true rfl) hl.1 hcs0 hf dX12_fits_218 (fun r26 H locs hf hw => ?_)
      refine lv_imul hM.1 hM.2.1 dX12_fits_221 ?_
      refine x_istore hM hf dX12_fits_222 hl (by decide) (fun v27 => [(4, .int v27), (0, .ref (ad 0)), (3, .int x3), (5, .int x5), (6, .int x6)]) (fun _ => rfl) (fun v27 ls hf hl => ?_)
      refine lv_iload_n hM.1 hM.2.1 dX12_fits_224 rfl (lv_at hl 2 rfl) ?_
      refine lv_aload_n hM.1 hM.2.1 dX12_fits_225 rfl (lv_at hl 1 rfl) ?_
      refine gf_X12_often hM hw (okX12.o ho) fl_X12_176 dX12_fits_226 ?_
      refine lv_iload hM.1 hM.2.1 dX12_fits_229 (lv_at hl 4 rfl) ?_
      refine x_iald hM hw (okX12.often ho) hf dX12_fits_231 (fun hf => ?_)
      refine lv_isub hM.1 hM.2.1 dX12_fits_232 ?_
      refine x_istore_n hM hf dX12_fits_233 rfl hl (by decide) (fun v28 => [(3, .int v28), (4, .int v27), (0, .ref (ad 0)), (5, .int x5), (6, .int x6)]) (fun _ => rfl) (fun v28 ls hf hl => ?_)
      refine x_iinc (k := 4) (d := 1) hM hf dX12_fits_234 hl rfl (by decide) (by decide) (fun v29 => [(6, .int v29), (3, .int v28), (4, .int v27), (0, .ref (ad 0)), (5, .int x5)]) (fun _ => rfl) (fun v29 ls hf hl => ?_)
      refine lv_goto (tgt := 165) hM.1 hM.2.1 dX12_fits_237 (by decide) ?_
      exact hrec _ _ _ _ _ _ _ hf hw (lv_sub hl [3, 1, 2, 4, 0] rfl)
    exact hk1 _ _ _ hf hw (lv_sub hl [] rfl)
  refine x_iinc (k := 3) (d := 1) hM hf dX12_fits_189 hl rfl (by decide) (by decide) (fun v30 => [(5, .int v30), (0, .ref (ad 0)), (3, .int x3), (4, .int x4), (6, .int x6)]) (fun _ => rfl) (fun v30 ls hf hl => ?_)
  refine lv_goto (tgt := 234) hM.1 hM.2.1 dX12_fits_192 (by decide) ?_
  refine x_iinc (k := 4) (d := 1) hM hf dX12_fits_234 hl rfl (by decide) (by decide) (fun v31 => [(6, .int v31), (5, .int v30), (0, .ref (ad 0)), (3, .int x3), (4, .int x4)]) (fun _ => rfl) (fun v31 ls hf hl => ?_)
  refine lv_goto (tgt := 165) hM.1 hM.2.1 dX12_fits_237 (by decide) ?_
  exact hrec _ _ _ _ _ _ _ hf hw (lv_sub hl [2, 3, 4, 1, 0] rfl)
set_option maxHeartbeats 4000000 in
set_option maxRecDepth 100000 in
theorem w_X12_fits_L165 {p0 : Program} {l : Launch} {e : Env} {s : State} {m : MethodId} {args : Array Value} {below : List Frame} {meth : Method} {c : Code} {Q : State → Prop} {D : va_G} {G : GG} {A : Nat → Prop} {H0 : Heap} {ad : Nat → Nat} {lay : List KK} {X : va_W} {ρ : Type} {r0 : ρ} {h : PH} {K1 : Option ρ} {K2 : Int32 → Int32 → Int32 → Option ρ} (hM : CallFix p0 m c cX12_fits 7 s args lw_g RX12) (ho : okX12 lay) (hk1 : ∀ (H : Heap) (locs : List Loc) (ls : Array Slot), K1 = some r0 → Wd D G A H0 ad lay X h s H locs → lv_has ls 7 [] → W p0 l e (rmN 2 43) s m args below meth c H locs 0 0 Q (F0 m 206 ls [])) (hk2 : ∀ (x3 : Int32) (x4 : Int32) (x5 : Int32), ∀ (H : Heap) (locs : List Loc) (ls : Array Slot), K2 x3 x4 x5 = some r0 → Wd D G A H0 ad lay X h s H locs → lv_has ls 7 [(3, .int x3), (4, .int x4), (5, .int x5)] → W p0 l e (rmN 2 43) s m args below meth c H locs 0 0 Q (F0 m 240 ls [])) (n : Nat) (x3 : Int32) (x4 : Int32) (x5 : Int32) (x6 : Int32) (hf : lq4 (c_X12_fits_L165b h K1 K2) n x3 x4 x5 x6 = some r0) : ∀ (H : Heap) (locs : List Loc) (ls : Array Slot), Wd D G A H0 ad lay X h s H locs → lv_has ls 7 [(0, .ref (ad 0)), (3, .int x3), (4, .int x4), (5, .int x5), (6, .int x6)] → W p0 l e (rmN 2 43) s m args below meth c H locs 0 0 Q (F0 m 165 ls []) := by
  exact lq4_i (fun (x3 : Int32) (x4 : Int32) (x5 : Int32) (x6 : Int32) => ∀ (H : Heap) (locs : List Loc) (ls : Array Slot), Wd D G A H0 ad lay X h s H locs → lv_has ls 7 [(0, .ref (ad 0)), (3, .int x3), (4, .int x4), (5, .int x5), (6, .int x6)] → W p0 l e (rmN 2 43) s m args below meth c H locs 0 0 Q (F0 m 165 ls [])) (fun REC x3 x4 x5 x6 ih hf H locs ls hw hl => w_X12_fits_L165b hM ho hk1 hk2 (fun x3 x4 x5 x6 H locs ls hf hw hl => ih x3 x4 x5 x6 hf H locs ls hw hl) hw hl hf) n x3 x4 x5 x6 hf
def c_X12_fits_L243b {ρ : Type}  (z3 : Int32) (z5 : Int32) (h : PH) (K1 : Int32 → Option ρ) (REC : Int32 → Int32 → Option ρ) (x4 : Int32) (x6 : Int32) : Option ρ :=
  if z3 ≤ x6 then
    K1 x4
  else
    nm (x4 * z5) fun v36 =>
    nm (x6 + 1) fun v37 =>
    REC v36 v37
set_option maxHeartbeats 4000000 in
set_option maxRecDepth 100000 in
theorem w_X12_fits_L243b {p0 : Program} {l : Launch} {e : Env} {s : State} {m : MethodId} {args : Array Value} {below : List Frame} {meth : Method} {c : Code} {Q : State → Prop} {D : va_G} {G : GG} {A : Nat → Prop} {H0 : Heap} {ad : Nat → Nat} {lay : List KK} {X : va_W} {ρ : Type} {r0 : ρ} {z3 : Int32} {z5 : Int32} {x4 : Int32} {x6 : Int32} {h : PH} {H : Heap} {locs : List Loc} {ls : Array Slot} {K1 : Int32 → Option ρ} {REC : Int32 → Int32 → Option ρ} (hM : CallFix p0 m c cX12_fits 7 s args lw_g RX12) (ho : okX12 lay) (hk1 : ∀ (x4 : Int32), ∀ (H : Heap) (locs : List Loc) (ls : Array Slot), K1 x4 = some r0 → Wd D G A H0 ad lay X h s H locs → lv_has ls 7 [(4, .int x4)] → W p0 l e (rmN 2 43) s m args below meth c H locs 0 0 Q (F0 m 262 ls [])) (hrec : ∀ (x4 : Int32) (x6 : Int32), ∀ (H : Heap) (locs : List Loc) (ls : Array Slot), REC x4 x6 = some r0 → Wd D G A H0 ad lay X h s H locs → lv_has ls 7 [(3, .int z3), (4, .int x4), (5, .int z5), (6, .int x6)] → W p0 l e (rmN 2 43) s m args below meth c H locs 0 0 Q (F0 m 243 ls [])) (hw : Wd D G A H0 ad lay X h s H locs) (hl : lv_has ls 7 [(3, .int z3), (4, .int x4), (5, .int z5), (6, .int x6)]) (hf : c_X12_fits_L243b z3 z5 h K1 REC x4 x6 = some r0) : W p0 l e (rmN 2 43) s m args below meth c H locs 0 0 Q (F0 m 243 ls []) := by
  unfold c_X12_fits_L243b at hf
  refine lv_iload hM.1 hM.2.1 dX12_fits_243 (lv_at hl 3 rfl) ?_
  refine lv_iload_n hM.1 hM.2.1 dX12_fits_245 rfl (lv_at hl 0 rfl) ?_
  refine x_ic_ge (tgt := 262) hM hf dX12_fits_246 (by decide) (fun hf => ?_) (fun hf => ?_)
  · exact hk1 _ _ _ _ hf hw (lv_sub hl [1] rfl)
  refine lv_iload hM.1 hM.2.1 dX12_fits_249 (lv_at hl 1 rfl) ?_
  refine lv_iload hM.1 hM.2.1 dX12_fits_251 (lv_at hl 2 rfl) ?_
  refine lv_imul hM.1 hM.2.1 dX12_fits_253 ?_
  refine x_istore hM hf dX12_fits_254 hl (by decide) (fun v36 => [(4, .int v36), (3, .int z3), (5, .int z5), (6, .int x6)]) (fun _ => rfl) (fun v36 ls hf hl => ?_)
  refine x_iinc (k := 3) (d := 1) hM hf dX12_fits_256 hl rfl (by decide) (by decide) (fun v37 => [(6, .int v37), (4, .int v36), (3, .int z3), (5, .int z5)]) (fun _ => rfl) (fun v37 ls hf hl => ?_)
  refine lv_goto (tgt := 243) hM.1 hM.2.1 dX12_fits_259 (by decide) ?_
  exact hrec _ _ _ _ _ hf hw (lv_sub hl [2, 1, 3, 0] rfl)
set_option maxHeartbeats 4000000 in
set_option maxRecDepth 100000 in
theorem w_X12_fits_L243 {p0 : Program} {l : Launch} {e : Env} {s : State} {m : MethodId} {args : Array Value} {below : List Frame} {meth : Method} {c : Code} {Q : State → Prop} {D : va_G} {G : GG} {A : Nat → Prop} {H0 : Heap} {ad : Nat → Nat} {lay : List KK} {X : va_W} {ρ : Type} {r0 : ρ} {z3 : Int32} {z5 : Int32} {h : PH} {K1 : Int32 → Option ρ} (hM : CallFix p0 m c cX12_fits 7 s args lw_g RX12) (ho : okX12 lay) (hk1 : ∀ (x4 : Int32), ∀ (H : Heap) (locs : List Loc) (ls : Array Slot), K1 x4 = some r0 → Wd D G A H0 ad lay X h s H locs → lv_has ls 7 [(4, .int x4)] → W p0 l e (rmN 2 43) s m args below meth c H locs 0 0 Q (F0 m 262 ls [])) (n : Nat) (x4 : Int32) (x6 : Int32) (hf : lq2 (c_X12_fits_L243b z3 z5 h K1) n x4 x6 = some r0) : ∀ (H : Heap) (locs : List Loc) (ls : Array Slot), Wd D G A H0 ad lay X h s H locs → lv_has ls 7 [(3, .int z3), (4, .int x4), (5, .int z5), (6, .int x6)] → W p0 l e (rmN 2 43) s m args below meth c H locs 0 0 Q (F0 m 243 ls []) := by
  exact lq2_i (fun (x4 : Int32) (x6 : Int32) => ∀ (H : Heap) (locs : List Loc) (ls : Array Slot), Wd D G A H0 ad lay X h s H locs → lv_has ls 7 [(3, .int z3), (4, .int x4), (5, .int z5), (6, .int x6)] → W p0 l e (rmN 2 43) s m args below meth c H locs 0 0 Q (F0 m 243 ls [])) (fun REC x4 x6 ih hf H locs ls hw hl => w_X12_fits_L243b hM ho hk1 (fun x4 x6 H locs ls hf hw hl => ih x4 x6 hf H locs ls hw hl) hw hl hf) n x4 x6 hf
def c_X12_fits (a1 : Int32) (a2 : Int32) (h : PH) : Option (Int32 × PH) :=
  (c_X12_isMan a1 h).bind fun r1 =>
  if r1 = 0 then
    some ((-1), h)
  else
    (c_X12_in a2 0 (h.1 0 72)).bind fun r2 =>
    if r2 = 0 then
      some ((-1), h)
    else
      nm (0 : Int32) fun v3 =>
      lq2 (c_X12_fits_L24b a1 a2
        (fun h6 =>
          nm (0 : Int32) fun v7 =>
          lq2 (c_X12_fits_L45b a1 a2
            (fun h14 =>
              some (0, h14))
            (fun h15 =>
              nm (0 : Int32) fun v16 =>
              nm (0 : Int32) fun v17 =>
              lq2 (c_X12_fits_L123b a1 h15
                (fun w22 =>
                  nm (1 : Int32) fun v23 =>
                  nm (1 : Int32) fun v24 =>
                  nm (0 : Int32) fun v25 =>
                  lq4 (c_X12_fits_L165b h15
                    (some (0, h15))
                    (fun w32 w33 w34 =>
                      nm (0 : Int32) fun v35 =>
                      lq2 (c_X12_fits_L243b w32 w34 h15
                        (fun w38 =>
                          some (w38, h15))) fu w33 v35)) fu w22 v23 v24 v25)) fu v16 v17)) fu v7 h6)) fu v3 h
set_option maxHeartbeats 4000000 in
set_option maxRecDepth 100000 in
theorem ct_X12_fits (l : Launch) {lay : List KK} (ho : okX12 lay) (a1 : Int32) (a2 : Int32) : CtI l yX12_fits cX12_fits 7 (some .int) 2 43 lay (fun h => c_X12_fits a1 a2 h) (fun ad => [.ref (ad 0), .int a1, .int a2]) := by
  refine CtI.mk' RX12 (by decide) rfl (fun _ => Nat.le_of_ble_eq_true rfl) ?_
  intro p0 e s m args below meth c D G A H0 ad X h r0 H ls Q hM hw hl hf hR
  have hl : lv_has ls 7 [(0, .ref (ad 0)), (1, .int a1), (2, .int a2)] := hl
  unfold c_X12_fits at hf
  refine lv_aload_n hM.1 hM.2.1 dX12_fits_0 rfl (lv_at hl 0 rfl) ?_
  refine lv_iload_n hM.1 hM.2.1 dX12_fits_1 rfl (lv_at hl 1 rfl) ?_
  refine x_callVIr (rest := []) hM hw (ct_X12_isMan l ho a1) [.int a1] (okX12.o ho) rfl rfl rfl (gi_V ml_X12_425 im_X12_isMan sl_X12_isMan in_X12 kc_X12_isMan) hd_X12_isMan rfl ⟨Nat.le_of_ble_eq_true rfl, Nat.le_of_ble_eq_true rfl⟩ rfl (Nat.le_of_ble_eq_true rfl) hl.1 hcs0 hf dX12_fits_2 (fun r1 H locs hf hw => ?_)
  refine x_if_eq (tgt := 20) hM hf dX12_fits_5 (by decide) (fun hf => ?_) (fun hf => ?_)
  · refine lv_iconst (v := (-1)) hM.1 hM.2.1 dX12_fits_20 ic_m1 ?_
    exact hR _ _ _ _ _ _ _ (Option.some.inj hf) rfl rfl hw dX12_fits_21
  refine lv_iload_n hM.1 hM.2.1 dX12_fits_8 rfl (lv_at hl 2 rfl) ?_
  refine lv_iconst (v := 0) hM.1 hM.2.1 dX12_fits_9 ic_0 ?_
  refine lv_aload_n hM.1 hM.2.1 dX12_fits_10 rfl (lv_at hl 0 rfl) ?_
  refine gf_X12_knowns hM hw (okX12.o ho) fl_X12_290 dX12_fits_11 ?_
  refine x_callSIr (rest := []) hM hw (ct_X12_in l a2 0 (h.1 0 72)) [.int a2, .int 0, .int (h.1 0 72)] rfl (gi_S ml_X12_359 sm_X12_in in_X12 kc_X12_in) hd_X12_in rfl ⟨Nat.le_of_ble_eq_true rfl, Nat.le_of_ble_eq_true rfl⟩ rfl (Nat.le_of_ble_eq_true rfl) hl.1 hcs0 hf dX12_fits_14 (fun r2 H locs hf hw => ?_)
  refine x_if_ne (tgt := 22) hM hf dX12_fits_17 (by decide) (fun hf => ?_) (fun hf => ?_)
  · refine lv_iconst (v := 0) hM.1 hM.2.1 dX12_fits_22 ic_0 ?_
    refine x_istore_n hM hf dX12_fits_23 rfl hl (by decide) (fun v3 => [(3, .int v3), (0, .ref (ad 0)), (1, .int a1), (2, .int a2)]) (fun _ => rfl) (fun v3 ls hf hl => ?_)
    refine w_X12_fits_L24 hM ho (fun h6 H locs ls hf hw hl => ?_) fu _ _ hf _ _ _ hw (lv_sub hl [1, 2, 3, 0] rfl)
    refine lv_iconst (v := 0) hM.1 hM.2.1 dX12_fits_43 ic_0 ?_
    refine x_istore_n hM hf dX12_fits_44 rfl hl (by decide) (fun v7 => [(3, .int v7), (0, .ref (ad 0)), (1, .int a1), (2, .int a2)]) (fun _ => rfl) (fun v7 ls hf hl => ?_)
    refine w_X12_fits_L45 hM ho (fun h14 H locs ls hf hw hl => ?_) (fun h15 H locs ls hf hw hl => ?_) fu _ _ hf _ _ _ hw (lv_sub hl [1, 2, 3, 0] rfl)
    · refine lv_iconst (v := 0) hM.1 hM.2.1 dX12_fits_97 ic_0 ?_
      exact hR _ _ _ _ _ _ _ (Option.some.inj hf) rfl rfl hw dX12_fits_98
    · refine lv_iconst (v := 0) hM.1 hM.2.1 dX12_fits_118 ic_0 ?_
      refine x_istore_n hM hf dX12_fits_119 rfl hl (by decide) (fun v16 => [(3, .int v16), (0, .ref (ad 0)), (1, .int a1)]) (fun _ => rfl) (fun v16 ls hf hl => ?_)
      refine lv_iconst (v := 0) hM.1 hM.2.1 dX12_fits_120 ic_0 ?_
      refine x_istore hM hf dX12_fits_121 hl (by decide) (fun v17 => [(4, .int v17), (3, .int v16), (0, .ref (ad 0)), (1, .int a1)]) (fun _ => rfl) (fun v17 ls hf hl => ?_)
      refine w_X12_fits_L123 hM ho (fun w22 H locs ls hf hw hl => ?_) fu _ _ hf _ _ _ hw (lv_sub hl [2, 3, 1, 0] rfl)
      refine lv_iconst (v := 1) hM.1 hM.2.1 dX12_fits_156 ic_1 ?_
      refine x_istore hM hf dX12_fits_157 hl (by decide) (fun v23 => [(4, .int v23), (0, .ref (ad 0)), (3, .int w22)]) (fun _ => rfl) (fun v23 ls hf hl => ?_)
      refine lv_iconst (v := 1) hM.1 hM.2.1 dX12_fits_159 ic_1 ?_
      refine x_istore hM hf dX12_fits_160 hl (by decide) (fun v24 => [(5, .int v24), (4, .int v23), (0, .ref (ad 0)), (3, .int w22)]) (fun _ => rfl) (fun v24 ls hf hl => ?_)
      refine lv_iconst (v := 0) hM.1 hM.2.1 dX12_fits_162 ic_0 ?_
      refine x_istore hM hf dX12_fits_163 hl (by decide) (fun v25 => [(6, .int v25), (5, .int v24), (4, .int v23), (0, .ref (ad 0)), (3, .int w22)]) (fun _ => rfl) (fun v25 ls hf hl => ?_)
      refine w_X12_fits_L165 hM ho (fun H locs ls hf hw hl => ?_) (fun w32 w33 w34 H locs ls hf hw hl => ?_) fu _ _ _ _ hf _ _ _ hw (lv_sub hl [3, 4, 2, 1, 0] rfl)
      · refine lv_iconst (v := 0) hM.1 hM.2.1 dX12_fits_206 ic_0 ?_
        exact hR _ _ _ _ _ _ _ (Option.some.inj hf) rfl rfl hw dX12_fits_207
      · refine lv_iconst (v := 0) hM.1 hM.2.1 dX12_fits_240 ic_0 ?_
        refine x_istore hM hf dX12_fits_241 hl (by decide) (fun v35 => [(6, .int v35), (3, .int w32), (4, .int w33), (5, .int w34)]) (fun _ => rfl) (fun v35 ls hf hl => ?_)
        refine w_X12_fits_L243 hM ho (fun w38 H locs ls hf hw hl => ?_) fu _ _ hf _ _ _ hw (lv_sub hl [1, 2, 3, 0] rfl)
        refine lv_iload hM.1 hM.2.1 dX12_fits_262 (lv_at hl 0 rfl) ?_
        exact hR _ _ _ _ _ _ _ (Option.some.inj hf) rfl rfl hw dX12_fits_264
  refine lv_iconst (v := (-1)) hM.1 hM.2.1 dX12_fits_20 ic_m1 ?_
  exact hR _ _ _ _ _ _ _ (Option.some.inj hf) rfl rfl hw dX12_fits_21
theorem hd_X12_fits : yX12_fits.cls = RX12 ∧ yX12_fits.cls ≠ "java/lang/invoke/MethodHandle" ∧ yX12_fits.cls ≠ "java/lang/invoke/VarHandle" ∧ (parseMethodDescriptor yX12_fits.desc).map (fun d => d.parameters.length) = some 2 := ⟨rfl, by decide, by decide, by decide +kernel⟩
theorem dX12_hold_0 : decode cX12_hold 0 = .ok (.iload_n 1, 1) := by decide +kernel
theorem dX12_hold_1 : decode cX12_hold 1 = .ok (.iconst 0, 1) := by decide +kernel
theorem dX12_hold_2 : decode cX12_hold 2 = .ok (.iconst 2, 1) := by decide +kernel
theorem dX12_hold_3 : decode cX12_hold 3 = .ok (.invokestatic 359, 3) := by decide +kernel
theorem dX12_hold_6 : decode cX12_hold 6 = .ok (.ifCond .ne 5, 3) := by decide +kernel
theorem dX12_hold_9 : decode cX12_hold 9 = .ok (.iconst 0, 1) := by decide +kernel
theorem dX12_hold_10 : decode cX12_hold 10 = .ok (.ireturn, 1) := by decide +kernel
theorem dX12_hold_11 : decode cX12_hold 11 = .ok (.aload_n 0, 1) := by decide +kernel
theorem dX12_hold_12 : decode cX12_hold 12 = .ok (.getfield 179, 3) := by decide +kernel
theorem dX12_hold_15 : decode cX12_hold 15 = .ok (.iload_n 1, 1) := by decide +kernel
theorem dX12_hold_16 : decode cX12_hold 16 = .ok (.iconst 1, 1) := by decide +kernel
theorem dX12_hold_17 : decode cX12_hold 17 = .ok (.bastore, 1) := by decide +kernel
theorem dX12_hold_18 : decode cX12_hold 18 = .ok (.iconst 0, 1) := by decide +kernel
theorem dX12_hold_19 : decode cX12_hold 19 = .ok (.istore_n 2, 1) := by decide +kernel
theorem dX12_hold_20 : decode cX12_hold 20 = .ok (.iload_n 2, 1) := by decide +kernel
theorem dX12_hold_21 : decode cX12_hold 21 = .ok (.bipush 40, 2) := by decide +kernel
theorem dX12_hold_23 : decode cX12_hold 23 = .ok (.if_icmp .ge 26, 3) := by decide +kernel
theorem dX12_hold_26 : decode cX12_hold 26 = .ok (.aload_n 0, 1) := by decide +kernel
theorem dX12_hold_27 : decode cX12_hold 27 = .ok (.getfield 182, 3) := by decide +kernel
theorem dX12_hold_30 : decode cX12_hold 30 = .ok (.bipush 40, 2) := by decide +kernel
theorem dX12_hold_32 : decode cX12_hold 32 = .ok (.iload_n 1, 1) := by decide +kernel
theorem dX12_hold_33 : decode cX12_hold 33 = .ok (.imul, 1) := by decide +kernel
theorem dX12_hold_34 : decode cX12_hold 34 = .ok (.iload_n 2, 1) := by decide +kernel
theorem dX12_hold_35 : decode cX12_hold 35 = .ok (.iadd, 1) := by decide +kernel
theorem dX12_hold_36 : decode cX12_hold 36 = .ok (.aload_n 0, 1) := by decide +kernel
theorem dX12_hold_37 : decode cX12_hold 37 = .ok (.getfield 146, 3) := by decide +kernel
theorem dX12_hold_40 : decode cX12_hold 40 = .ok (.iload_n 2, 1) := by decide +kernel
theorem dX12_hold_41 : decode cX12_hold 41 = .ok (.iaload, 1) := by decide +kernel
theorem dX12_hold_42 : decode cX12_hold 42 = .ok (.iastore, 1) := by decide +kernel
theorem dX12_hold_43 : decode cX12_hold 43 = .ok (.iinc 2 1, 3) := by decide +kernel
theorem dX12_hold_46 : decode cX12_hold 46 = .ok (.goto (-26), 3) := by decide +kernel
theorem dX12_hold_49 : decode cX12_hold 49 = .ok (.iconst 1, 1) := by decide +kernel
theorem dX12_hold_50 : decode cX12_hold 50 = .ok (.ireturn, 1) := by decide +kernel
def c_X12_hold_L20b {ρ : Type}  (z1 : Int32) (K1 : PH → Option ρ) (REC : Int32 → PH → Option ρ) (x2 : Int32) (h : PH) : Option ρ :=
  if 40 ≤ x2 then
    K1 h
  else
    gd (ixOK x2 40) <|
    gd (ixOK ((40 * z1) + x2) 120) <| nm (setI h 55 ((40 * z1) + x2).toNatClampNeg (h.1 43 x2.toNatClampNeg)) fun h4 =>
    nm (x2 + 1) fun v5 =>
    REC v5 h4
set_option maxHeartbeats 4000000 in
set_option maxRecDepth 100000 in
theorem w_X12_hold_L20b {p0 : Program} {l : Launch} {e : Env} {s : State} {m : MethodId} {args : Array Value} {below : List Frame} {meth : Method} {c : Code} {Q : State → Prop} {D : va_G} {G : GG} {A : Nat → Prop} {H0 : Heap} {ad : Nat → Nat} {lay : List KK} {X : va_W} {ρ : Type} {r0 : ρ} {z1 : Int32} {x2 : Int32} {h : PH} {H : Heap} {locs : List Loc} {ls : Array Slot} {K1 : PH → Option ρ} {REC : Int32 → PH → Option ρ} (hM : CallFix p0 m c cX12_hold 3 s args lw_g RX12) (ho : okX12 lay) (hk1 : ∀ (h : PH), ∀ (H : Heap) (locs : List Loc) (ls : Array Slot), K1 h = some r0 → Wd D G A H0 ad lay X h s H locs → lv_has ls 3 [] → W p0 l e (rmN 1 22) s m args below meth c H locs 0 0 Q (F0 m 49 ls [])) (hrec : ∀ (x2 : Int32) (h : PH), ∀ (H : Heap) (locs : List Loc) (ls : Array Slot), REC x2 h = some r0 → Wd D G A H0 ad lay X h s H locs → lv_has ls 3 [(0, .ref (ad 0)), (1, .int z1), (2, .int x2)] → W p0 l e (rmN 1 22) s m args below meth c H locs 0 0 Q (F0 m 20 ls [])) (hw : Wd D G A H0 ad lay X h s H locs) (hl : lv_has ls 3 [(0, .ref (ad 0)), (1, .int z1), (2, .int x2)]) (hf : c_X12_hold_L20b z1 K1 REC x2 h = some r0) : W p0 l e (rmN 1 22) s m args below meth c H locs 0 0 Q (F0 m 20 ls []) := by
  unfold c_X12_hold_L20b at hf
  refine lv_iload_n hM.1 hM.2.1 dX12_hold_20 rfl (lv_at hl 2 rfl) ?_
  refine lv_bipush (v := 40) hM.1 hM.2.1 dX12_hold_21 (by decide) ?_
  refine x_ic_ge (tgt := 49) hM hf dX12_hold_23 (by decide) (fun hf => ?_) (fun hf => ?_)
  · exact hk1 _ _ _ _ hf hw (lv_sub hl [] rfl)
  refine lv_aload_n hM.1 hM.2.1 dX12_hold_26 rfl (lv_at hl 0 rfl) ?_
  refine gf_X12_heldRows hM hw (okX12.o ho) fl_X12_182 dX12_hold_27 ?_
  refine lv_bipush (v := 40) hM.1 hM.2.1 dX12_hold_30 (by decide) ?_
  refine lv_iload_n hM.1 hM.2.1 dX12_hold_32 rfl (lv_at hl 1 rfl) ?_
  refine lv_imul hM.1 hM.2.1 dX12_hold_33 ?_
  refine lv_iload_n hM.1 hM.2.1 dX12_hold_34 rfl (lv_at hl 2 rfl) ?_
  refine lv_iadd hM.1 hM.2.1 dX12_hold_35 ?_
  refine lv_aload_n hM.1 hM.2.1 dX12_hold_36 rfl (lv_at hl 0 rfl) ?_
  refine gf_X12_now hM hw (okX12.o ho) fl_X12_146 dX12_hold_37 ?_
  refine lv_iload_n hM.1 hM.2.1 dX12_hold_40 rfl (lv_at hl 2 rfl) ?_
  refine x_iald hM hw (okX12.now ho) hf dX12_hold_41 (fun hf => ?_)
  refine x_iast hM hw (okX12.heldRows ho) hf dX12_hold_42 (fun h4 H locs hf hw => ?_)
  refine x_iinc (k := 2) (d := 1) hM hf dX12_hold_43 hl rfl (by decide) (by decide) (fun v5 => [(2, .int v5), (0, .ref (ad 0)), (1, .int z1)]) (fun _ => rfl) (fun v5 ls hf hl => ?_)
  refine lv_goto (tgt := 20) hM.1 hM.2.1 dX12_hold_46 (by decide) ?_
  exact hrec _ _ _ _ _ hf hw (lv_sub hl [1, 2, 0] rfl)
set_option maxHeartbeats 4000000 in
set_option maxRecDepth 100000 in
theorem w_X12_hold_L20 {p0 : Program} {l : Launch} {e : Env} {s : State} {m : MethodId} {args : Array Value} {below : List Frame} {meth : Method} {c : Code} {Q : State → Prop} {D : va_G} {G : GG} {A : Nat → Prop} {H0 : Heap} {ad : Nat → Nat} {lay : List KK} {X : va_W} {ρ : Type} {r0 : ρ} {z1 : Int32} {K1 : PH → Option ρ} (hM : CallFix p0 m c cX12_hold 3 s args lw_g RX12) (ho : okX12 lay) (hk1 : ∀ (h : PH), ∀ (H : Heap) (locs : List Loc) (ls : Array Slot), K1 h = some r0 → Wd D G A H0 ad lay X h s H locs → lv_has ls 3 [] → W p0 l e (rmN 1 22) s m args below meth c H locs 0 0 Q (F0 m 49 ls [])) (n : Nat) (x2 : Int32) (h : PH) (hf : lq2 (c_X12_hold_L20b z1 K1) n x2 h = some r0) : ∀ (H : Heap) (locs : List Loc) (ls : Array Slot), Wd D G A H0 ad lay X h s H locs → lv_has ls 3 [(0, .ref (ad 0)), (1, .int z1), (2, .int x2)] → W p0 l e (rmN 1 22) s m args below meth c H locs 0 0 Q (F0 m 20 ls []) := by
  exact lq2_i (fun (x2 : Int32) (h : PH) => ∀ (H : Heap) (locs : List Loc) (ls : Array Slot), Wd D G A H0 ad lay X h s H locs → lv_has ls 3 [(0, .ref (ad 0)), (1, .int z1), (2, .int x2)] → W p0 l e (rmN 1 22) s m args below meth c H locs 0 0 Q (F0 m 20 ls [])) (fun REC x2 h ih hf H locs ls hw hl => w_X12_hold_L20b hM ho hk1 (fun x2 h H locs ls hf hw hl => ih x2 h hf H locs ls hw hl) hw hl hf) n x2 h hf
def c_X12_hold (a1 : Int32) (h : PH) : Option (Int32 × PH) :=
  (c_X12_in a1 0 2).bind fun r1 =>
  if r1 = 0 then
    some (0, h)
  else
    gd (ixOK a1 3) <| nm (setI h 54 a1.toNatClampNeg (vp_nar .boolean 1)) fun h2 =>
    nm (0 : Int32) fun v3 =>
    lq2 (c_X12_hold_L20b a1
      (fun h6 =>
        some (1, h6))) fu v3 h2
set_option maxHeartbeats 4000000 in
set_option maxRecDepth 100000 in
theorem ct_X12_hold (l : Launch) {lay : List KK} (ho : okX12 lay) (a1 : Int32) : CtI l yX12_hold cX12_hold 3 (some .boolean) 1 22 lay (fun h => c_X12_hold a1 h) (fun ad => [.ref (ad 0), .int a1]) := by
  refine CtI.mk' RX12 (by decide) rfl (fun _ => Nat.le_of_ble_eq_true rfl) ?_
  intro p0 e s m args below meth c D G A H0 ad X h r0 H ls Q hM hw hl hf hR
  have hl : lv_has ls 3 [(0, .ref (ad 0)), (1, .int a1)] := hl
  unfold c_X12_hold at hf
  refine lv_iload_n hM.1 hM.2.1 dX12_hold_0 rfl (lv_at hl 1 rfl) ?_
  refine lv_iconst (v := 0) hM.1 hM.2.1 dX12_hold_1 ic_0 ?_
  refine lv_iconst (v := 2) hM.1 hM.2.1 dX12_hold_2 ic_2 ?_
  refine x_callSIr (rest := []) hM hw (ct_X12_in l a1 0 2) [.int a1, .int 0, .int 2] rfl (gi_S ml_X12_359 sm_X12_in in_X12 kc_X12_in) hd_X12_in rfl ⟨Nat.le_of_ble_eq_true rfl, Nat.le_of_ble_eq_true rfl⟩ rfl (Nat.le_of_ble_eq_true rfl) hl.1 hcs0 hf dX12_hold_3 (fun r1 H locs hf hw => ?_)
  refine x_if_ne (tgt := 11) hM hf dX12_hold_6 (by decide) (fun hf => ?_) (fun hf => ?_)
  · refine lv_aload_n hM.1 hM.2.1 dX12_hold_11 rfl (lv_at hl 0 rfl) ?_
    refine gf_X12_isHeld hM hw (okX12.o ho) fl_X12_179 dX12_hold_12 ?_
    refine lv_iload_n hM.1 hM.2.1 dX12_hold_15 rfl (lv_at hl 1 rfl) ?_
    refine lv_iconst (v := 1) hM.1 hM.2.1 dX12_hold_16 ic_1 ?_
    refine x_zast hM hw (okX12.isHeld ho) hf dX12_hold_17 (fun h2 H locs hf hw => ?_)
    refine lv_iconst (v := 0) hM.1 hM.2.1 dX12_hold_18 ic_0 ?_
    refine x_istore_n hM hf dX12_hold_19 rfl hl (by decide) (fun v3 => [(2, .int v3), (0, .ref (ad 0)), (1, .int a1)]) (fun _ => rfl) (fun v3 ls hf hl => ?_)
    refine w_X12_hold_L20 hM ho (fun h6 H locs ls hf hw hl => ?_) fu _ _ hf _ _ _ hw (lv_sub hl [1, 2, 0] rfl)
    refine lv_iconst (v := 1) hM.1 hM.2.1 dX12_hold_49 ic_1 ?_
    exact hR _ _ _ _ _ _ _ (Option.some.inj hf) rfl (nar_z (by decide)) hw dX12_hold_50
  refine lv_iconst (v := 0) hM.1 hM.2.1 dX12_hold_9 ic_0 ?_
  exact hR _ _ _ _ _ _ _ (Option.some.inj hf) rfl (nar_z (by decide)) hw dX12_hold_10
theorem hd_X12_hold : yX12_hold.cls = RX12 ∧ yX12_hold.cls ≠ "java/lang/invoke/MethodHandle" ∧ yX12_hold.cls ≠ "java/lang/invoke/VarHandle" ∧ (parseMethodDescriptor yX12_hold.desc).map (fun d => d.parameters.length) = some 1 := ⟨rfl, by decide, by decide, by decide +kernel⟩
theorem dX12_restore_0 : decode cX12_restore 0 = .ok (.iload_n 1, 1) := by decide +kernel
theorem dX12_restore_1 : decode cX12_restore 1 = .ok (.iconst 0, 1) := by decide +kernel
theorem dX12_restore_2 : decode cX12_restore 2 = .ok (.iconst 2, 1) := by decide +kernel
theorem dX12_restore_3 : decode cX12_restore 3 = .ok (.invokestatic 359, 3) := by decide +kernel
theorem dX12_restore_6 : decode cX12_restore 6 = .ok (.ifCond .eq 12, 3) := by decide +kernel
theorem dX12_restore_9 : decode cX12_restore 9 = .ok (.aload_n 0, 1) := by decide +kernel
theorem dX12_restore_10 : decode cX12_restore 10 = .ok (.getfield 179, 3) := by decide +kernel
theorem dX12_restore_13 : decode cX12_restore 13 = .ok (.iload_n 1, 1) := by decide +kernel
theorem dX12_restore_14 : decode cX12_restore 14 = .ok (.baload, 1) := by decide +kernel
theorem dX12_restore_15 : decode cX12_restore 15 = .ok (.ifCond .ne 5, 3) := by decide +kernel
theorem dX12_restore_18 : decode cX12_restore 18 = .ok (.iconst 0, 1) := by decide +kernel
theorem dX12_restore_19 : decode cX12_restore 19 = .ok (.ireturn, 1) := by decide +kernel
theorem dX12_restore_20 : decode cX12_restore 20 = .ok (.iconst 0, 1) := by decide +kernel
theorem dX12_restore_21 : decode cX12_restore 21 = .ok (.istore_n 2, 1) := by decide +kernel
theorem dX12_restore_22 : decode cX12_restore 22 = .ok (.iload_n 2, 1) := by decide +kernel
theorem dX12_restore_23 : decode cX12_restore 23 = .ok (.bipush 40, 2) := by decide +kernel
theorem dX12_restore_25 : decode cX12_restore 25 = .ok (.if_icmp .ge 26, 3) := by decide +kernel
theorem dX12_restore_28 : decode cX12_restore 28 = .ok (.aload_n 0, 1) := by decide +kernel
theorem dX12_restore_29 : decode cX12_restore 29 = .ok (.getfield 146, 3) := by decide +kernel
theorem dX12_restore_32 : decode cX12_restore 32 = .ok (.iload_n 2, 1) := by decide +kernel
theorem dX12_restore_33 : decode cX12_restore 33 = .ok (.aload_n 0, 1) := by decide +kernel
theorem dX12_restore_34 : decode cX12_restore 34 = .ok (.getfield 182, 3) := by decide +kernel
theorem dX12_restore_37 : decode cX12_restore 37 = .ok (.bipush 40, 2) := by decide +kernel
theorem dX12_restore_39 : decode cX12_restore 39 = .ok (.iload_n 1, 1) := by decide +kernel
theorem dX12_restore_40 : decode cX12_restore 40 = .ok (.imul, 1) := by decide +kernel
theorem dX12_restore_41 : decode cX12_restore 41 = .ok (.iload_n 2, 1) := by decide +kernel
theorem dX12_restore_42 : decode cX12_restore 42 = .ok (.iadd, 1) := by decide +kernel
theorem dX12_restore_43 : decode cX12_restore 43 = .ok (.iaload, 1) := by decide +kernel
theorem dX12_restore_44 : decode cX12_restore 44 = .ok (.iastore, 1) := by decide +kernel
theorem dX12_restore_45 : decode cX12_restore 45 = .ok (.iinc 2 1, 3) := by decide +kernel
theorem dX12_restore_48 : decode cX12_restore 48 = .ok (.goto (-26), 3) := by decide +kernel
theorem dX12_restore_51 : decode cX12_restore 51 = .ok (.aload_n 0, 1) := by decide +kernel
theorem dX12_restore_52 : decode cX12_restore 52 = .ok (.iconst 0, 1) := by decide +kernel
theorem dX12_restore_53 : decode cX12_restore 53 = .ok (.putfield 284, 3) := by decide +kernel
theorem dX12_restore_56 : decode cX12_restore 56 = .ok (.iconst 1, 1) := by decide +kernel
theorem dX12_restore_57 : decode cX12_restore 57 = .ok (.ireturn, 1) := by decide +kernel
def c_X12_restore_L22b {ρ : Type}  (z1 : Int32) (K1 : PH → Option ρ) (REC : Int32 → PH → Option ρ) (x2 : Int32) (h : PH) : Option ρ :=
  if 40 ≤ x2 then
    K1 h
  else
    gd (ixOK ((40 * z1) + x2) 120) <|
    gd (ixOK x2 40) <| nm (setI h 43 x2.toNatClampNeg (h.1 55 ((40 * z1) + x2).toNatClampNeg)) fun h3 =>
    nm (x2 + 1) fun v4 =>
    REC v4 h3
set_option maxHeartbeats 4000000 in
set_option maxRecDepth 100000 in
theorem w_X12_restore_L22b {p0 : Program} {l : Launch} {e : Env} {s : State} {m : MethodId} {args : Array Value} {below : List Frame} {meth : Method} {c : Code} {Q : State → Prop} {D : va_G} {G : GG} {A : Nat → Prop} {H0 : Heap} {ad : Nat → Nat} {lay : List KK} {X : va_W} {ρ : Type} {r0 : ρ} {z1 : Int32} {x2 : Int32} {h : PH} {H : Heap} {locs : List Loc} {ls : Array Slot} {K1 : PH → Option ρ} {REC : Int32 → PH → Option ρ} (hM : CallFix p0 m c cX12_restore 3 s args lw_g RX12) (ho : okX12 lay) (hk1 : ∀ (h : PH), ∀ (H : Heap) (locs : List Loc) (ls : Array Slot), K1 h = some r0 → Wd D G A H0 ad lay X h s H locs → lv_has ls 3 [(0, .ref (ad 0))] → W p0 l e (rmN 1 22) s m args below meth c H locs 0 0 Q (F0 m 51 ls [])) (hrec : ∀ (x2 : Int32) (h : PH), ∀ (H : Heap) (locs : List Loc) (ls : Array Slot), REC x2 h = some r0 → Wd D G A H0 ad lay X h s H locs → lv_has ls 3 [(0, .ref (ad 0)), (1, .int z1), (2, .int x2)] → W p0 l e (rmN 1 22) s m args below meth c H locs 0 0 Q (F0 m 22 ls [])) (hw : Wd D G A H0 ad lay X h s H locs) (hl : lv_has ls 3 [(0, .ref (ad 0)), (1, .int z1), (2, .int x2)]) (hf : c_X12_restore_L22b z1 K1 REC x2 h = some r0) : W p0 l e (rmN 1 22) s m args below meth c H locs 0 0 Q (F0 m 22 ls []) := by
  unfold c_X12_restore_L22b at hf
  refine lv_iload_n hM.1 hM.2.1 dX12_restore_22 rfl (lv_at hl 2 rfl) ?_
  refine lv_bipush (v := 40) hM.1 hM.2.1 dX12_restore_23 (by decide) ?_
  refine x_ic_ge (tgt := 51) hM hf dX12_restore_25 (by decide) (fun hf => ?_) (fun hf => ?_)
  · exact hk1 _ _ _ _ hf hw (lv_sub hl [0] rfl)
  refine lv_aload_n hM.1 hM.2.1 dX12_restore_28 rfl (lv_at hl 0 rfl) ?_
  refine gf_X12_now hM hw (okX12.o ho) fl_X12_146 dX12_restore_29 ?_
  refine lv_iload_n hM.1 hM.2.1 dX12_restore_32 rfl (lv_at hl 2 rfl) ?_
  refine lv_aload_n hM.1 hM.2.1 dX12_restore_33 rfl (lv_at hl 0 rfl) ?_
  refine gf_X12_heldRows hM hw (okX12.o ho) fl_X12_182 dX12_restore_34 ?_
  refine lv_bipush (v := 40) hM.1 hM.2.1 dX12_restore_37 (by decide) ?_
  refine lv_iload_n hM.1 hM.2.1 dX12_restore_39 rfl (lv_at hl 1 rfl) ?_
  refine lv_imul hM.1 hM.2.1 dX12_restore_40 ?_
  refine lv_iload_n hM.1 hM.2.1 dX12_restore_41 rfl (lv_at hl 2 rfl) ?_
  refine lv_iadd hM.1 hM.2.1 dX12_restore_42 ?_
  refine x_iald hM hw (okX12.heldRows ho) hf dX12_restore_43 (fun hf => ?_)
  refine x_iast hM hw (okX12.now ho) hf dX12_restore_44 (fun h3 H locs hf hw => ?_)
  refine x_iinc (k := 2) (d := 1) hM hf dX12_restore_45 hl rfl (by decide) (by decide) (fun v4 => [(2, .int v4), (0, .ref (ad 0)), (1, .int z1)]) (fun _ => rfl) (fun v4 ls hf hl => ?_)
  refine lv_goto (tgt := 22) hM.1 hM.2.1 dX12_restore_48 (by decide) ?_
  exact hrec _ _ _ _ _ hf hw (lv_sub hl [1, 2, 0] rfl)
set_option maxHeartbeats 4000000 in
set_option maxRecDepth 100000 in
theorem w_X12_restore_L22 {p0 : Program} {l : Launch} {e : Env} {s : State} {m : MethodId} {args : Array Value} {below : List Frame} {meth : Method} {c : Code} {Q : State → Prop} {D : va_G} {G : GG} {A : Nat → Prop} {H0 : Heap} {ad : Nat → Nat} {lay : List KK} {X : va_W} {ρ : Type} {r0 : ρ} {z1 : Int32} {K1 : PH → Option ρ} (hM : CallFix p0 m c cX12_restore 3 s args lw_g RX12) (ho : okX12 lay) (hk1 : ∀ (h : PH), ∀ (H : Heap) (locs : List Loc) (ls : Array Slot), K1 h = some r0 → Wd D G A H0 ad lay X h s H locs → lv_has ls 3 [(0, .ref (ad 0))] → W p0 l e (rmN 1 22) s m args below meth c H locs 0 0 Q (F0 m 51 ls [])) (n : Nat) (x2 : Int32) (h : PH) (hf : lq2 (c_X12_restore_L22b z1 K1) n x2 h = some r0) : ∀ (H : Heap) (locs : List Loc) (ls : Array Slot), Wd D G A H0 ad lay X h s H locs → lv_has ls 3 [(0, .ref (ad 0)), (1, .int z1), (2, .int x2)] → W p0 l e (rmN 1 22) s m args below meth c H locs 0 0 Q (F0 m 22 ls []) := by
  exact lq2_i (fun (x2 : Int32) (h : PH) => ∀ (H : Heap) (locs : List Loc) (ls : Array Slot), Wd D G A H0 ad lay X h s H locs → lv_has ls 3 [(0, .ref (ad 0)), (1, .int z1), (2, .int x2)] → W p0 l e (rmN 1 22) s m args below meth c H locs 0 0 Q (F0 m 22 ls [])) (fun REC x2 h ih hf H locs ls hw hl => w_X12_restore_L22b hM ho hk1 (fun x2 h H locs ls hf hw hl => ih x2 h hf H locs ls hw hl) hw hl hf) n x2 h hf
def c_X12_restore (a1 : Int32) (h : PH) : Option (Int32 × PH) :=
  (c_X12_in a1 0 2).bind fun r1 =>
  if r1 = 0 then
    some (0, h)
  else
    gd (ixOK a1 3) <|
    if (h.1 54 a1.toNatClampNeg) = 0 then
      some (0, h)
    else
      nm (0 : Int32) fun v2 =>
      lq2 (c_X12_restore_L22b a1
        (fun h5 =>
          nm (setI h5 0 63 0) fun h6 =>
          some (1, h6))) fu v2 h
set_option maxHeartbeats 4000000 in
set_option maxRecDepth 100000 in
theorem ct_X12_restore (l : Launch) {lay : List KK} (ho : okX12 lay) (a1 : Int32) : CtI l yX12_restore cX12_restore 3 (some .boolean) 1 22 lay (fun h => c_X12_restore a1 h) (fun ad => [.ref (ad 0), .int a1]) := by
  refine CtI.mk' RX12 (by decide) rfl (fun _ => Nat.le_of_ble_eq_true rfl) ?_
  intro p0 e s m args below meth c D G A H0 ad X h r0 H ls Q hM hw hl hf hR
  have hl : lv_has ls 3 [(0, .ref (ad 0)), (1, .int a1)] := hl
  unfold c_X12_restore at hf
  refine lv_iload_n hM.1 hM.2.1 dX12_restore_0 rfl (lv_at hl 1 rfl) ?_
  refine lv_iconst (v := 0) hM.1 hM.2.1 dX12_restore_1 ic_0 ?_
  refine lv_iconst (v := 2) hM.1 hM.2.1 dX12_restore_2 ic_2 ?_
  refine x_callSIr (rest := []) hM hw (ct_X12_in l a1 0 2) [.int a1, .int 0, .int 2] rfl (gi_S ml_X12_359 sm_X12_in in_X12 kc_X12_in) hd_X12_in rfl ⟨Nat.le_of_ble_eq_true rfl, Nat.le_of_ble_eq_true rfl⟩ rfl (Nat.le_of_ble_eq_true rfl) hl.1 hcs0 hf dX12_restore_3 (fun r1 H locs hf hw => ?_)
  refine x_if_eq (tgt := 18) hM hf dX12_restore_6 (by decide) (fun hf => ?_) (fun hf => ?_)
  · refine lv_iconst (v := 0) hM.1 hM.2.1 dX12_restore_18 ic_0 ?_
    exact hR _ _ _ _ _ _ _ (Option.some.inj hf) rfl (nar_z (by decide)) hw dX12_restore_19
  refine lv_aload_n hM.1 hM.2.1 dX12_restore_9 rfl (lv_at hl 0 rfl) ?_
  refine gf_X12_isHeld hM hw (okX12.o ho) fl_X12_179 dX12_restore_10 ?_
  refine lv_iload_n hM.1 hM.2.1 dX12_restore_13 rfl (lv_at hl 1 rfl) ?_
  refine x_zald hM hw (okX12.isHeld ho) hf dX12_restore_14 (fun hf => ?_)
  refine x_if_ne (tgt := 20) hM hf dX12_restore_15 (by decide) (fun hf => ?_) (fun hf => ?_)
  · refine lv_iconst (v := 0) hM.1 hM.2.1 dX12_restore_20 ic_0 ?_
    refine x_istore_n hM hf dX12_restore_21 rfl hl (by decide) (fun v2 => [(2, .int v2), (0, .ref (ad 0)), (1, .int a1)]) (fun _ => rfl) (fun v2 ls hf hl => ?_)
    refine w_X12_restore_L22 hM ho (fun h5 H locs ls hf hw hl => ?_) fu _ _ hf _ _ _ hw (lv_sub hl [1, 2, 0] rfl)
    refine lv_aload_n hM.1 hM.2.1 dX12_restore_51 rfl (lv_at hl 0 rfl) ?_
    refine lv_iconst (v := 0) hM.1 hM.2.1 dX12_restore_52 ic_0 ?_
    refine pf_X12_undos hM hw (okX12.o ho) fl_X12_284 hf dX12_restore_53 (fun h6 H locs hf hw => ?_)
    refine lv_iconst (v := 1) hM.1 hM.2.1 dX12_restore_56 ic_1 ?_
    exact hR _ _ _ _ _ _ _ (Option.some.inj hf) rfl (nar_z (by decide)) hw dX12_restore_57
  refine lv_iconst (v := 0) hM.1 hM.2.1 dX12_restore_18 ic_0 ?_
  exact hR _ _ _ _ _ _ _ (Option.some.inj hf) rfl (nar_z (by decide)) hw dX12_restore_19
theorem hd_X12_restore : yX12_restore.cls = RX12 ∧ yX12_restore.cls ≠ "java/lang/invoke/MethodHandle" ∧ yX12_restore.cls ≠ "java/lang/invoke/VarHandle" ∧ (parseMethodDescriptor yX12_restore.desc).map (fun d => d.parameters.length) = some 1 := ⟨rfl, by decide, by decide, by decide +kernel⟩
theorem dX12_count_0 : decode cX12_count 0 = .ok (.iload_n 1, 1) := by decide +kernel
theorem dX12_count_1 : decode cX12_count 1 = .ok (.tableswitch 259 0 15 #[79, 89, 99, 109, 119, 126, 133, 140, 147, 147, 147, 194, 199, 204, 209, 214], 79) := by decide +kernel
theorem dX12_count_80 : decode cX12_count 80 = .ok (.aload_n 0, 1) := by decide +kernel
theorem dX12_count_81 : decode cX12_count 81 = .ok (.getfield 49, 3) := by decide +kernel
theorem dX12_count_84 : decode cX12_count 84 = .ok (.aload_n 0, 1) := by decide +kernel
theorem dX12_count_85 : decode cX12_count 85 = .ok (.getfield 266, 3) := by decide +kernel
theorem dX12_count_88 : decode cX12_count 88 = .ok (.iaload, 1) := by decide +kernel
theorem dX12_count_89 : decode cX12_count 89 = .ok (.ireturn, 1) := by decide +kernel
theorem dX12_count_90 : decode cX12_count 90 = .ok (.aload_n 0, 1) := by decide +kernel
theorem dX12_count_91 : decode cX12_count 91 = .ok (.getfield 61, 3) := by decide +kernel
theorem dX12_count_94 : decode cX12_count 94 = .ok (.aload_n 0, 1) := by decide +kernel
theorem dX12_count_95 : decode cX12_count 95 = .ok (.getfield 266, 3) := by decide +kernel
theorem dX12_count_98 : decode cX12_count 98 = .ok (.iaload, 1) := by decide +kernel
theorem dX12_count_99 : decode cX12_count 99 = .ok (.ireturn, 1) := by decide +kernel
theorem dX12_count_100 : decode cX12_count 100 = .ok (.aload_n 0, 1) := by decide +kernel
theorem dX12_count_101 : decode cX12_count 101 = .ok (.getfield 80, 3) := by decide +kernel
theorem dX12_count_104 : decode cX12_count 104 = .ok (.aload_n 0, 1) := by decide +kernel
theorem dX12_count_105 : decode cX12_count 105 = .ok (.getfield 266, 3) := by decide +kernel
theorem dX12_count_108 : decode cX12_count 108 = .ok (.iaload, 1) := by decide +kernel
theorem dX12_count_109 : decode cX12_count 109 = .ok (.ireturn, 1) := by decide +kernel
theorem dX12_count_110 : decode cX12_count 110 = .ok (.aload_n 0, 1) := by decide +kernel
theorem dX12_count_111 : decode cX12_count 111 = .ok (.getfield 95, 3) := by decide +kernel
theorem dX12_count_114 : decode cX12_count 114 = .ok (.aload_n 0, 1) := by decide +kernel
theorem dX12_count_115 : decode cX12_count 115 = .ok (.getfield 266, 3) := by decide +kernel
theorem dX12_count_118 : decode cX12_count 118 = .ok (.iaload, 1) := by decide +kernel
theorem dX12_count_119 : decode cX12_count 119 = .ok (.ireturn, 1) := by decide +kernel
theorem dX12_count_120 : decode cX12_count 120 = .ok (.aload_n 0, 1) := by decide +kernel
theorem dX12_count_121 : decode cX12_count 121 = .ok (.getfield 146, 3) := by decide +kernel
theorem dX12_count_124 : decode cX12_count 124 = .ok (.iconst 0, 1) := by decide +kernel
theorem dX12_count_125 : decode cX12_count 125 = .ok (.iaload, 1) := by decide +kernel
theorem dX12_count_126 : decode cX12_count 126 = .ok (.ireturn, 1) := by decide +kernel
theorem dX12_count_127 : decode cX12_count 127 = .ok (.aload_n 0, 1) := by decide +kernel
theorem dX12_count_128 : decode cX12_count 128 = .ok (.getfield 146, 3) := by decide +kernel
theorem dX12_count_131 : decode cX12_count 131 = .ok (.iconst 1, 1) := by decide +kernel
theorem dX12_count_132 : decode cX12_count 132 = .ok (.iaload, 1) := by decide +kernel
theorem dX12_count_133 : decode cX12_count 133 = .ok (.ireturn, 1) := by decide +kernel
theorem dX12_count_134 : decode cX12_count 134 = .ok (.aload_n 0, 1) := by decide +kernel
theorem dX12_count_135 : decode cX12_count 135 = .ok (.getfield 146, 3) := by decide +kernel
theorem dX12_count_138 : decode cX12_count 138 = .ok (.iconst 2, 1) := by decide +kernel
theorem dX12_count_139 : decode cX12_count 139 = .ok (.iaload, 1) := by decide +kernel
theorem dX12_count_140 : decode cX12_count 140 = .ok (.ireturn, 1) := by decide +kernel
theorem dX12_count_141 : decode cX12_count 141 = .ok (.aload_n 0, 1) := by decide +kernel
theorem dX12_count_142 : decode cX12_count 142 = .ok (.getfield 146, 3) := by decide +kernel
theorem dX12_count_145 : decode cX12_count 145 = .ok (.iconst 3, 1) := by decide +kernel
theorem dX12_count_146 : decode cX12_count 146 = .ok (.iaload, 1) := by decide +kernel
theorem dX12_count_147 : decode cX12_count 147 = .ok (.ireturn, 1) := by decide +kernel
theorem dX12_count_148 : decode cX12_count 148 = .ok (.iconst 0, 1) := by decide +kernel
theorem dX12_count_149 : decode cX12_count 149 = .ok (.istore_n 2, 1) := by decide +kernel
theorem dX12_count_150 : decode cX12_count 150 = .ok (.iconst 0, 1) := by decide +kernel
theorem dX12_count_151 : decode cX12_count 151 = .ok (.istore_n 3, 1) := by decide +kernel
theorem dX12_count_152 : decode cX12_count 152 = .ok (.iload_n 3, 1) := by decide +kernel
theorem dX12_count_153 : decode cX12_count 153 = .ok (.aload_n 0, 1) := by decide +kernel
theorem dX12_count_154 : decode cX12_count 154 = .ok (.getfield 80, 3) := by decide +kernel
theorem dX12_count_157 : decode cX12_count 157 = .ok (.aload_n 0, 1) := by decide +kernel
theorem dX12_count_158 : decode cX12_count 158 = .ok (.getfield 266, 3) := by decide +kernel
theorem dX12_count_161 : decode cX12_count 161 = .ok (.iaload, 1) := by decide +kernel
theorem dX12_count_162 : decode cX12_count 162 = .ok (.if_icmp .ge 31, 3) := by decide +kernel
theorem dX12_count_165 : decode cX12_count 165 = .ok (.aload_n 0, 1) := by decide +kernel
theorem dX12_count_166 : decode cX12_count 166 = .ok (.getfield 146, 3) := by decide +kernel
theorem dX12_count_169 : decode cX12_count 169 = .ok (.bipush 13, 2) := by decide +kernel
theorem dX12_count_171 : decode cX12_count 171 = .ok (.iload_n 3, 1) := by decide +kernel
theorem dX12_count_172 : decode cX12_count 172 = .ok (.iadd, 1) := by decide +kernel
theorem dX12_count_173 : decode cX12_count 173 = .ok (.iaload, 1) := by decide +kernel
theorem dX12_count_174 : decode cX12_count 174 = .ok (.iload_n 1, 1) := by decide +kernel
theorem dX12_count_175 : decode cX12_count 175 = .ok (.bipush 7, 2) := by decide +kernel
theorem dX12_count_177 : decode cX12_count 177 = .ok (.isub, 1) := by decide +kernel
theorem dX12_count_178 : decode cX12_count 178 = .ok (.if_icmp .ne 9, 3) := by decide +kernel
theorem dX12_count_181 : decode cX12_count 181 = .ok (.iload_n 2, 1) := by decide +kernel
theorem dX12_count_182 : decode cX12_count 182 = .ok (.iconst 1, 1) := by decide +kernel
theorem dX12_count_183 : decode cX12_count 183 = .ok (.iload_n 3, 1) := by decide +kernel
theorem dX12_count_184 : decode cX12_count 184 = .ok (.ishl, 1) := by decide +kernel
theorem dX12_count_185 : decode cX12_count 185 = .ok (.ior, 1) := by decide +kernel
theorem dX12_count_186 : decode cX12_count 186 = .ok (.istore_n 2, 1) := by decide +kernel
theorem dX12_count_187 : decode cX12_count 187 = .ok (.iinc 3 1, 3) := by decide +kernel
theorem dX12_count_190 : decode cX12_count 190 = .ok (.goto (-38), 3) := by decide +kernel
theorem dX12_count_193 : decode cX12_count 193 = .ok (.iload_n 2, 1) := by decide +kernel
theorem dX12_count_194 : decode cX12_count 194 = .ok (.ireturn, 1) := by decide +kernel
theorem dX12_count_195 : decode cX12_count 195 = .ok (.aload_n 0, 1) := by decide +kernel
theorem dX12_count_196 : decode cX12_count 196 = .ok (.getfield 199, 3) := by decide +kernel
theorem dX12_count_199 : decode cX12_count 199 = .ok (.ireturn, 1) := by decide +kernel
theorem dX12_count_200 : decode cX12_count 200 = .ok (.aload_n 0, 1) := by decide +kernel
theorem dX12_count_201 : decode cX12_count 201 = .ok (.getfield 284, 3) := by decide +kernel
theorem dX12_count_204 : decode cX12_count 204 = .ok (.ireturn, 1) := by decide +kernel
theorem dX12_count_205 : decode cX12_count 205 = .ok (.aload_n 0, 1) := by decide +kernel
theorem dX12_count_206 : decode cX12_count 206 = .ok (.getfield 287, 3) := by decide +kernel
theorem dX12_count_209 : decode cX12_count 209 = .ok (.ireturn, 1) := by decide +kernel
theorem dX12_count_210 : decode cX12_count 210 = .ok (.aload_n 0, 1) := by decide +kernel
theorem dX12_count_211 : decode cX12_count 211 = .ok (.getfield 290, 3) := by decide +kernel
theorem dX12_count_214 : decode cX12_count 214 = .ok (.ireturn, 1) := by decide +kernel
theorem dX12_count_215 : decode cX12_count 215 = .ok (.aload_n 0, 1) := by decide +kernel
theorem dX12_count_216 : decode cX12_count 216 = .ok (.getfield 179, 3) := by decide +kernel
theorem dX12_count_219 : decode cX12_count 219 = .ok (.iconst 0, 1) := by decide +kernel
theorem dX12_count_220 : decode cX12_count 220 = .ok (.baload, 1) := by decide +kernel
theorem dX12_count_221 : decode cX12_count 221 = .ok (.ifCond .eq 7, 3) := by decide +kernel
theorem dX12_count_224 : decode cX12_count 224 = .ok (.iconst 1, 1) := by decide +kernel
theorem dX12_count_225 : decode cX12_count 225 = .ok (.goto 4, 3) := by decide +kernel
theorem dX12_count_228 : decode cX12_count 228 = .ok (.iconst 0, 1) := by decide +kernel
theorem dX12_count_229 : decode cX12_count 229 = .ok (.aload_n 0, 1) := by decide +kernel
theorem dX12_count_230 : decode cX12_count 230 = .ok (.getfield 179, 3) := by decide +kernel
theorem dX12_count_233 : decode cX12_count 233 = .ok (.iconst 1, 1) := by decide +kernel
theorem dX12_count_234 : decode cX12_count 234 = .ok (.baload, 1) := by decide +kernel
theorem dX12_count_235 : decode cX12_count 235 = .ok (.ifCond .eq 7, 3) := by decide +kernel
theorem dX12_count_238 : decode cX12_count 238 = .ok (.iconst 1, 1) := by decide +kernel
theorem dX12_count_239 : decode cX12_count 239 = .ok (.goto 4, 3) := by decide +kernel
theorem dX12_count_242 : decode cX12_count 242 = .ok (.iconst 0, 1) := by decide +kernel
theorem dX12_count_243 : decode cX12_count 243 = .ok (.iadd, 1) := by decide +kernel
theorem dX12_count_244 : decode cX12_count 244 = .ok (.aload_n 0, 1) := by decide +kernel
theorem dX12_count_245 : decode cX12_count 245 = .ok (.getfield 179, 3) := by decide +kernel
theorem dX12_count_248 : decode cX12_count 248 = .ok (.iconst 2, 1) := by decide +kernel
theorem dX12_count_249 : decode cX12_count 249 = .ok (.baload, 1) := by decide +kernel
theorem dX12_count_250 : decode cX12_count 250 = .ok (.ifCond .eq 7, 3) := by decide +kernel
theorem dX12_count_253 : decode cX12_count 253 = .ok (.iconst 1, 1) := by decide +kernel
theorem dX12_count_254 : decode cX12_count 254 = .ok (.goto 4, 3) := by decide +kernel
theorem dX12_count_257 : decode cX12_count 257 = .ok (.iconst 0, 1) := by decide +kernel
theorem dX12_count_258 : decode cX12_count 258 = .ok (.iadd, 1) := by decide +kernel
theorem dX12_count_259 : decode cX12_count 259 = .ok (.ireturn, 1) := by decide +kernel
theorem dX12_count_260 : decode cX12_count 260 = .ok (.iconst (-1), 1) := by decide +kernel
theorem dX12_count_261 : decode cX12_count 261 = .ok (.ireturn, 1) := by decide +kernel
def c_X12_count_L152b {ρ : Type}  (z1 : Int32) (h : PH) (K1 : Int32 → Option ρ) (REC : Int32 → Int32 → Option ρ) (x2 : Int32) (x3 : Int32) : Option ρ :=
  gd (ixOK (h.1 0 18) 2) <|
  if (h.1 21 (h.1 0 18).toNatClampNeg) ≤ x3 then
    K1 x2
  else
    gd (ixOK (13 + x3) 40) <|
    if (h.1 43 (13 + x3).toNatClampNeg) = (z1 - 7) then
      nm (x2 ||| ((1 : Int32) <<< (x3 &&& 31))) fun v4 =>
      nm (x3 + 1) fun v5 =>
      REC v4 v5
    else
      nm (x3 + 1) fun v3 =>
      REC x2 v3
set_option maxHeartbeats 4000000 in
set_option maxRecDepth 100000 in
theorem w_X12_count_L152b {p0 : Program} {l : Launch} {e : Env} {s : State} {m : MethodId} {args : Array Value} {below : List Frame} {meth : Method} {c : Code} {Q : State → Prop} {D : va_G} {G : GG} {A : Nat → Prop} {H0 : Heap} {ad : Nat → Nat} {lay : List KK} {X : va_W} {ρ : Type} {r0 : ρ} {z1 : Int32} {x2 : Int32} {x3 : Int32} {h : PH} {H : Heap} {locs : List Loc} {ls : Array Slot} {K1 : Int32 → Option ρ} {REC : Int32 → Int32 → Option ρ} (hM : CallFix p0 m c cX12_count 4 s args lw_g RX12) (ho : okX12 lay) (hk1 : ∀ (x2 : Int32), ∀ (H : Heap) (locs : List Loc) (ls : Array Slot), K1 x2 = some r0 → Wd D G A H0 ad lay X h s H locs → lv_has ls 4 [(2, .int x2)] → W p0 l e (rmN 0 0) s m args below meth c H locs 0 0 Q (F0 m 193 ls [])) (hrec : ∀ (x2 : Int32) (x3 : Int32), ∀ (H : Heap) (locs : List Loc) (ls : Array Slot), REC x2 x3 = some r0 → Wd D G A H0 ad lay X h s H locs → lv_has ls 4 [(0, .ref (ad 0)), (1, .int z1), (2, .int x2), (3, .int x3)] → W p0 l e (rmN 0 0) s m args below meth c H locs 0 0 Q (F0 m 152 ls [])) (hw : Wd D G A H0 ad lay X h s H locs) (hl : lv_has ls 4 [(0, .ref (ad 0)), (1, .int z1), (2, .int x2), (3, .int x3)]) (hf : c_X12_count_L152b z1 h K1 REC x2 x3 = some r0) : W p0 l e (rmN 0 0) s m args below meth c H locs 0 0 Q (F0 m 152 ls []) := by
  unfold c_X12_count_L152b at hf
  refine lv_iload_n hM.1 hM.2.1 dX12_count_152 rfl (lv_at hl 3 rfl) ?_
  refine lv_aload_n hM.1 hM.2.1 dX12_count_153 rfl (lv_at hl 0 rfl) ?_
  refine gf_X12_duties hM hw (okX12.o ho) fl_X12_80 dX12_count_154 ?_
  refine lv_aload_n hM.1 hM.2.1 dX12_count_157 rfl (lv_at hl 0 rfl) ?_
  refine gf_X12_live hM hw (okX12.o ho) fl_X12_266 dX12_count_158 ?_
  refine x_iald hM hw (okX12.duties ho) hf dX12_count_161 (fun hf => ?_)
  refine x_ic_ge (tgt := 193) hM hf dX12_count_162 (by decide) (fun hf => ?_) (fun hf => ?_)
  · exact hk1 _ _ _ _ hf hw (lv_sub hl [2] rfl)
  refine lv_aload_n hM.1 hM.2.1 dX12_count_165 rfl (lv_at hl 0 rfl) ?_
  refine gf_X12_now hM hw (okX12.o ho) fl_X12_146 dX12_count_166 ?_
  refine lv_bipush (v := 13) hM.1 hM.2.1 dX12_count_169 (by decide) ?_
  refine lv_iload_n hM.1 hM.2.1 dX12_count_171 rfl (lv_at hl 3 rfl) ?_
  refine lv_iadd hM.1 hM.2.1 dX12_count_172 ?_
  refine x_iald hM hw (okX12.now ho) hf dX12_count_173 (fun hf => ?_)
  refine lv_iload_n hM.1 hM.2.1 dX12_count_174 rfl (lv_at hl 1 rfl) ?_
  refine lv_bipush (v := 7) hM.1 hM.2.1 dX12_count_175 (by decide) ?_
  refine lv_isub hM.1 hM.2.1 dX12_count_177 ?_
  refine x_ic_ne (tgt := 187) hM hf dX12_count_178 (by decide) (fun hf => ?_) (fun hf => ?_)
  · refine x_iinc (k := 3) (d := 1) hM hf dX12_count_187 hl rfl (by decide) (by decide) (fun v3 => [(3, .int v3), (0, .ref (ad 0)), (1, .int z1), (2, .int x2)]) (fun _ => rfl) (fun v3 ls hf hl => ?_)
    refine lv_goto (tgt := 152) hM.1 hM.2.1 dX12_count_190 (by decide) ?_
    exact hrec _ _ _ _ _ hf hw (lv_sub hl [1, 2, 3, 0] rfl)
  refine lv_iload_n hM.1 hM.2.1 dX12_count_181 rfl (lv_at hl 2 rfl) ?_
  refine lv_iconst (v := 1) hM.1 hM.2.1 dX12_count_182 ic_1 ?_
  refine lv_iload_n hM.1 hM.2.1 dX12_count_183 rfl (lv_at hl 3 rfl) ?_
  refine lv_ishl hM.1 hM.2.1 dX12_count_184 ?_
  refine lv_ior hM.1 hM.2.1 dX12_count_185 ?_
  refine x_istore_n hM hf dX12_count_186 rfl hl (by decide) (fun v4 => [(2, .int v4), (0, .ref (ad 0)), (1, .int z1), (3, .int x3)]) (fun _ => rfl) (fun v4 ls hf hl => ?_)
  refine x_iinc (k := 3) (d := 1) hM hf dX12_count_187 hl rfl (by decide) (by decide) (fun v5 => [(3, .int v5), (2, .int v4), (0, .ref (ad 0)), (1, .int z1)]) (fun _ => rfl) (fun v5 ls hf hl => ?_)
  refine lv_goto (tgt := 152) hM.1 hM.2.1 dX12_count_190 (by decide) ?_
  exact hrec _ _ _ _ _ hf hw (lv_sub hl [2, 3, 1, 0] rfl)
set_option maxHeartbeats 4000000 in
set_option maxRecDepth 100000 in
theorem w_X12_count_L152 {p0 : Program} {l : Launch} {e : Env} {s : State} {m : MethodId} {args : Array Value} {below : List Frame} {meth : Method} {c : Code} {Q : State → Prop} {D : va_G} {G : GG} {A : Nat → Prop} {H0 : Heap} {ad : Nat → Nat} {lay : List KK} {X : va_W} {ρ : Type} {r0 : ρ} {z1 : Int32} {h : PH} {K1 : Int32 → Option ρ} (hM : CallFix p0 m c cX12_count 4 s args lw_g RX12) (ho : okX12 lay) (hk1 : ∀ (x2 : Int32), ∀ (H : Heap) (locs : List Loc) (ls : Array Slot), K1 x2 = some r0 → Wd D G A H0 ad lay X h s H locs → lv_has ls 4 [(2, .int x2)] → W p0 l e (rmN 0 0) s m args below meth c H locs 0 0 Q (F0 m 193 ls [])) (n : Nat) (x2 : Int32) (x3 : Int32) (hf : lq2 (c_X12_count_L152b z1 h K1) n x2 x3 = some r0) : ∀ (H : Heap) (locs : List Loc) (ls : Array Slot), Wd D G A H0 ad lay X h s H locs → lv_has ls 4 [(0, .ref (ad 0)), (1, .int z1), (2, .int x2), (3, .int x3)] → W p0 l e (rmN 0 0) s m args below meth c H locs 0 0 Q (F0 m 152 ls []) := by
  exact lq2_i (fun (x2 : Int32) (x3 : Int32) => ∀ (H : Heap) (locs : List Loc) (ls : Array Slot), Wd D G A H0 ad lay X h s H locs → lv_has ls 4 [(0, .ref (ad 0)), (1, .int z1), (2, .int x2), (3, .int x3)] → W p0 l e (rmN 0 0) s m args below meth c H locs 0 0 Q (F0 m 152 ls [])) (fun REC x2 x3 ih hf H locs ls hw hl => w_X12_count_L152b hM ho hk1 (fun x2 x3 H locs ls hf hw hl => ih x2 x3 hf H locs ls hw hl) hw hl hf) n x2 x3 hf
def c_X12_count_j148  (x1 : Int32) (h : PH) : Option (Int32) :=
  nm (0 : Int32) fun v1 =>
  nm (0 : Int32) fun v2 =>
  lq2 (c_X12_count_L152b x1 h
    (fun w6 =>
      some w6)) fu v1 v2
set_option maxHeartbeats 4000000 in
set_option maxRecDepth 100000 in
theorem w_X12_count_j148 {p0 : Program} {l : Launch} {e : Env} {s : State} {m : MethodId} {args : Array Value} {below : List Frame} {meth : Method} {c : Code} {Q : State → Prop} {D : va_G} {G : GG} {A : Nat → Prop} {H0 : Heap} {ad : Nat → Nat} {lay : List KK} {X : va_W} {r0 : Int32} {x1 : Int32} {h : PH} {H : Heap} {locs : List Loc} {ls : Array Slot} (hM : CallFix p0 m c cX12_count 4 s args lw_g RX12) (ho : okX12 lay) (hR : RtI p0 l e (rmN 0 0) s m args below meth c cX12_count D G A H0 ad lay X (some .int) (r0, h) Q 0 0) (hw : Wd D G A H0 ad lay X h s H locs) (hl : lv_has ls 4 [(0, .ref (ad 0)), (1, .int x1)]) (hf : c_X12_count_j148 x1 h = some r0) : W p0 l e (rmN 0 0) s m args below meth c H locs 0 0 Q (F0 m 148 ls []) := by
  unfold c_X12_count_j148 at hf
  refine lv_iconst (v := 0) hM.1 hM.2.1 dX12_count_148 ic_0 ?_
  refine x_istore_n hM hf dX12_count_149 rfl hl (by decide) (fun v1 => [(2, .int v1), (0, .ref (ad 0)), (1, .int x1)]) (fun _ => rfl) (fun v1 ls hf hl => ?_)
  refine lv_iconst (v := 0) hM.1 hM.2.1 dX12_count_150 ic_0 ?_
  refine x_istore_n hM hf dX12_count_151 rfl hl (by decide) (fun v2 => [(3, .int v2), (2, .int v1), (0, .ref (ad 0)), (1, .int x1)]) (fun _ => rfl) (fun v2 ls hf hl => ?_)
  refine w_X12_count_L152 hM ho (fun w6 H locs ls hf hw hl => ?_) fu _ _ hf _ _ _ hw (lv_sub hl [2, 3, 1, 0] rfl)
  refine lv_iload_n hM.1 hM.2.1 dX12_count_193 rfl (lv_at hl 0 rfl) ?_
  exact hR _ _ _ _ _ _ _ (congrArg (fun z => (z, _)) (Option.some.inj hf)) rfl rfl hw dX12_count_194
def c_X12_count_j229  (y0 : Int32) (h : PH) : Option (Int32) :=
  if (h.1 54 1) = 0 then
    if (h.1 54 2) = 0 then
      some ((y0 + 0) + 0)
    else
      some ((y0 + 0) + 1)
  else
    if (h.1 54 2) = 0 then
      some ((y0 + 1) + 0)
    else
      some ((y0 + 1) + 1)
set_option maxHeartbeats 4000000 in
set_option maxRecDepth 100000 in
theorem w_X12_count_j229 {p0 : Program} {l : Launch} {e : Env} {s : State} {m : MethodId} {args : Array Value} {below : List Frame} {meth : Method} {c : Code} {Q : State → Prop} {D : va_G} {G : GG} {A : Nat → Prop} {H0 : Heap} {ad : Nat → Nat} {lay : List KK} {X : va_W} {r0 : Int32} {y0 : Int32} {h : PH} {H : Heap} {locs : List Loc} {ls : Array Slot} (hM : CallFix p0 m c cX12_count 4 s args lw_g RX12) (ho : okX12 lay) (hR : RtI p0 l e (rmN 0 0) s m args below meth c cX12_count D G A H0 ad lay X (some .int) (r0, h) Q 0 0) (hw : Wd D G A H0 ad lay X h s H locs) (hl : lv_has ls 4 [(0, .ref (ad 0))]) (hf : c_X12_count_j229 y0 h = some r0) : W p0 l e (rmN 0 0) s m args below meth c H locs 0 0 Q (F0 m 229 ls [.int y0]) := by
  unfold c_X12_count_j229 at hf
  refine lv_aload_n hM.1 hM.2.1 dX12_count_229 rfl (lv_at hl 0 rfl) ?_
  refine gf_X12_isHeld hM hw (okX12.o ho) fl_X12_179 dX12_count_230 ?_
  refine lv_iconst (v := 1) hM.1 hM.2.1 dX12_count_233 ic_1 ?_
  refine x_zaldK hM hw (okX12.isHeld ho) 1 (by decide) (by decide) dX12_count_234 ?_
  refine x_if_eq (tgt := 242) hM hf dX12_count_235 (by decide) (fun hf => ?_) (fun hf => ?_)
  · refine lv_iconst (v := 0) hM.1 hM.2.1 dX12_count_242 ic_0 ?_
    refine lv_iadd hM.1 hM.2.1 dX12_count_243 ?_
    refine lv_aload_n hM.1 hM.2.1 dX12_count_244 rfl (lv_at hl 0 rfl) ?_
    refine gf_X12_isHeld hM hw (okX12.o ho) fl_X12_179 dX12_count_245 ?_
    refine lv_iconst (v := 2) hM.1 hM.2.1 dX12_count_248 ic_2 ?_
    refine x_zaldK hM hw (okX12.isHeld ho) 2 (by decide) (by decide) dX12_count_249 ?_
    refine x_if_eq (tgt := 257) hM hf dX12_count_250 (by decide) (fun hf => ?_) (fun hf => ?_)
    · refine lv_iconst (v := 0) hM.1 hM.2.1 dX12_count_257 ic_0 ?_
      refine lv_iadd hM.1 hM.2.1 dX12_count_258 ?_
      exact hR _ _ _ _ _ _ _ (congrArg (fun z => (z, _)) (Option.some.inj hf)) rfl rfl hw dX12_count_259
    refine lv_iconst (v := 1) hM.1 hM.2.1 dX12_count_253 ic_1 ?_
    refine lv_goto (tgt := 258) hM.1 hM.2.1 dX12_count_254 (by decide) ?_
    refine lv_iadd hM.1 hM.2.1 dX12_count_258 ?_
    exact hR _ _ _ _ _ _ _ (congrArg (fun z => (z, _)) (Option.some.inj hf)) rfl rfl hw dX12_count_259
  refine lv_iconst (v := 1) hM.1 hM.2.1 dX12_count_238 ic_1 ?_
  refine lv_goto (tgt := 243) hM.1 hM.2.1 dX12_count_239 (by decide) ?_
  refine lv_iadd hM.1 hM.2.1 dX12_count_243 ?_
  refine lv_aload_n hM.1 hM.2.1 dX12_count_244 rfl (lv_at hl 0 rfl) ?_
  refine gf_X12_isHeld hM hw (okX12.o ho) fl_X12_179 dX12_count_245 ?_
  refine lv_iconst (v := 2) hM.1 hM.2.1 dX12_count_248 ic_2 ?_
  refine x_zaldK hM hw (okX12.isHeld ho) 2 (by decide) (by decide) dX12_count_249 ?_
  refine x_if_eq (tgt := 257) hM hf dX12_count_250 (by decide) (fun hf => ?_) (fun hf => ?_)
  · refine lv_iconst (v := 0) hM.1 hM.2.1 dX12_count_257 ic_0 ?_
    refine lv_iadd hM.1 hM.2.1 dX12_count_258 ?_
    exact hR _ _ _ _ _ _ _ (congrArg (fun z => (z, _)) (Option.some.inj hf)) rfl rfl hw dX12_count_259
  refine lv_iconst (v := 1) hM.1 hM.2.1 dX12_count_253 ic_1 ?_
  refine lv_goto (tgt := 258) hM.1 hM.2.1 dX12_count_254 (by decide) ?_
  refine lv_iadd hM.1 hM.2.1 dX12_count_258 ?_
  exact hR _ _ _ _ _ _ _ (congrArg (fun z => (z, _)) (Option.some.inj hf)) rfl rfl hw dX12_count_259
def c_X12_count (a1 : Int32) (h : PH) : Option (Int32) :=
  if a1 = 0 then
    gd (ixOK (h.1 0 18) 2) <|
    some (h.1 11 (h.1 0 18).toNatClampNeg)
  else
  if a1 = 1 then
    gd (ixOK (h.1 0 18) 2) <|
    some (h.1 15 (h.1 0 18).toNatClampNeg)
  else
  if a1 = 2 then
    gd (ixOK (h.1 0 18) 2) <|
    some (h.1 21 (h.1 0 18).toNatClampNeg)
  else
  if a1 = 3 then
    gd (ixOK (h.1 0 18) 2) <|
    some (h.1 26 (h.1 0 18).toNatClampNeg)
  else
  if a1 = 4 then
    some (h.1 43 0)
  else
  if a1 = 5 then
    some (h.1 43 1)
  else
  if a1 = 6 then
    some (h.1 43 2)
  else
  if a1 = 7 then
    some (h.1 43 3)
  else
  if a1 = 8 then
    c_X12_count_j148 a1 h
  else
  if a1 = 9 then
    c_X12_count_j148 a1 h
  else
  if a1 = 10 then
    c_X12_count_j148 a1 h
  else
  if a1 = 11 then
    some (h.1 0 2)
  else
  if a1 = 12 then
    some (h.1 0 63)
  else
  if a1 = 13 then
    some (h.1 0 67)
  else
  if a1 = 14 then
    some (h.1 0 72)
  else
  if a1 = 15 then
    if (h.1 54 0) = 0 then
      c_X12_count_j229 0 h
    else
      c_X12_count_j229 1 h
  else
    some (-1)
set_option maxHeartbeats 4000000 in
set_option maxRecDepth 100000 in
theorem ct_X12_count (l : Launch) {lay : List KK} (ho : okX12 lay) (a1 : Int32) : CtI l yX12_count cX12_count 4 (some .int) 0 0 lay (rd (fun h => c_X12_count a1 h)) (fun ad => [.ref (ad 0), .int a1]) := by
  refine CtI.mk' RX12 (by decide) rfl (fun _ => Nat.le_of_ble_eq_true rfl) ?_
  intro p0 e s m args below meth c D G A H0 ad X h r0 H ls Q hM hw hl hf hR
  have hl : lv_has ls 4 [(0, .ref (ad 0)), (1, .int a1)] := hl
  obtain ⟨v0, hv0, hr0⟩ : ∃ v0, c_X12_count a1 h = some v0 ∧ r0 = (v0, h) := rd_some hf
  subst hr0
  have hf := hv0
  unfold c_X12_count at hf
  refine lv_iload_n hM.1 hM.2.1 dX12_count_0 rfl (lv_at hl 1 rfl) ?_
  refine x_sw hf (fun hx hf => ?_) (fun n0 hf => ?_)
  · refine x_tabIn (tgt := 80) hM hx dX12_count_1 (by decide) (by decide) rfl (by decide) ?_
    refine lv_aload_n hM.1 hM.2.1 dX12_count_80 rfl (lv_at hl 0 rfl) ?_
    refine gf_X12_men hM hw (okX12.o ho) fl_X12_49 dX12_count_81 ?_
    refine lv_aload_n hM.1 hM.2.1 dX12_count_84 rfl (lv_at hl 0 rfl) ?_
    refine gf_X12_live hM hw (okX12.o ho) fl_X12_266 dX12_count_85 ?_
    refine x_iald hM hw (okX12.men ho) hf dX12_count_88 (fun hf => ?_)
    exact hR _ _ _ _ _ _ _ (congrArg (fun z => (z, _)) (Option.some.inj hf)) rfl rfl hw dX12_count_89
  refine x_sw hf (fun hx hf => ?_) (fun n1 hf => ?_)
  · refine x_tabIn (tgt := 90) hM hx dX12_count_1 (by decide) (by decide) rfl (by decide) ?_
    refine lv_aload_n hM.1 hM.2.1 dX12_count_90 rfl (lv_at hl 0 rfl) ?_
    refine gf_X12_excuses hM hw (okX12.o ho) fl_X12_61 dX12_count_91 ?_
    refine lv_aload_n hM.1 hM.2.1 dX12_count_94 rfl (lv_at hl 0 rfl) ?_
    refine gf_X12_live hM hw (okX12.o ho) fl_X12_266 dX12_count_95 ?_
    refine x_iald hM hw (okX12.excuses ho) hf dX12_count_98 (fun hf => ?_)
    exact hR _ _ _ _ _ _ _ (congrArg (fun z => (z, _)) (Option.some.inj hf)) rfl rfl hw dX12_count_99
  refine x_sw hf (fun hx hf => ?_) (fun n2 hf => ?_)
  · refine x_tabIn (tgt := 100) hM hx dX12_count_1 (by decide) (by decide) rfl (by decide) ?_
    refine lv_aload_n hM.1 hM.2.1 dX12_count_100 rfl (lv_at hl 0 rfl) ?_
    refine gf_X12_duties hM hw (okX12.o ho) fl_X12_80 dX12_count_101 ?_
    refine lv_aload_n hM.1 hM.2.1 dX12_count_104 rfl (lv_at hl 0 rfl) ?_
    refine gf_X12_live hM hw (okX12.o ho) fl_X12_266 dX12_count_105 ?_
    refine x_iald hM hw (okX12.duties ho) hf dX12_count_108 (fun hf => ?_)
    exact hR _ _ _ _ _ _ _ (congrArg (fun z => (z, _)) (Option.some.inj hf)) rfl rfl hw dX12_count_109
  refine x_sw hf (fun hx hf => ?_) (fun n3 hf => ?_)
  · refine x_tabIn (tgt := 110) hM hx dX12_count_1 (by decide) (by decide) rfl (by decide) ?_
    refine lv_aload_n hM.1 hM.2.1 dX12_count_110 rfl (lv_at hl 0 rfl) ?_
    refine gf_X12_tests hM hw (okX12.o ho) fl_X12_95 dX12_count_111 ?_
    refine lv_aload_n hM.1 hM.2.1 dX12_count_114 rfl (lv_at hl 0 rfl) ?_
    refine gf_X12_live hM hw (okX12.o ho) fl_X12_266 dX12_count_115 ?_
    refine x_iald hM hw (okX12.tests ho) hf dX12_count_118 (fun hf => ?_)
    exact hR _ _ _ _ _ _ _ (congrArg (fun z => (z, _)) (Option.some.inj hf)) rfl rfl hw dX12_count_119
  refine x_sw hf (fun hx hf => ?_) (fun n4 hf => ?_)
  · refine x_tabIn (tgt := 120) hM hx dX12_count_1 (by decide) (by decide) rfl (by decide) ?_
    refine lv_aload_n hM.1 hM.2.1 dX12_count_120 rfl (lv_at hl 0 rfl) ?_
    refine gf_X12_now hM hw (okX12.o ho) fl_X12_146 dX12_count_121 ?_
    refine lv_iconst (v := 0) hM.1 hM.2.1 dX12_count_124 ic_0 ?_
    refine x_ialdK hM hw (okX12.now ho) 0 (by decide) (by decide) dX12_count_125 ?_
    exact hR _ _ _ _ _ _ _ (congrArg (fun z => (z, _)) (Option.some.inj hf)) rfl rfl hw dX12_count_126
  refine x_sw hf (fun hx hf => ?_) (fun n5 hf => ?_)
  · refine x_tabIn (tgt := 127) hM hx dX12_count_1 (by decide) (by decide) rfl (by decide) ?_
    refine lv_aload_n hM.1 hM.2.1 dX12_count_127 rfl (lv_at hl 0 rfl) ?_
    refine gf_X12_now hM hw (okX12.o ho) fl_X12_146 dX12_count_128 ?_
    refine lv_iconst (v := 1) hM.1 hM.2.1 dX12_count_131 ic_1 ?_
    refine x_ialdK hM hw (okX12.now ho) 1 (by decide) (by decide) dX12_count_132 ?_
    exact hR _ _ _ _ _ _ _ (congrArg (fun z => (z, _)) (Option.some.inj hf)) rfl rfl hw dX12_count_133
  refine x_sw hf (fun hx hf => ?_) (fun n6 hf => ?_)
  · refine x_tabIn (tgt := 134) hM hx dX12_count_1 (by decide) (by decide) rfl (by decide) ?_
    refine lv_aload_n hM.1 hM.2.1 dX12_count_134 rfl (lv_at hl 0 rfl) ?_
    refine gf_X12_now hM hw (okX12.o ho) fl_X12_146 dX12_count_135 ?_
    refine lv_iconst (v := 2) hM.1 hM.2.1 dX12_count_138 ic_2 ?_
    refine x_ialdK hM hw (okX12.now ho) 2 (by decide) (by decide) dX12_count_139 ?_
    exact hR _ _ _ _ _ _ _ (congrArg (fun z => (z, _)) (Option.some.inj hf)) rfl rfl hw dX12_count_140
  refine x_sw hf (fun hx hf => ?_) (fun n7 hf => ?_)
  · refine x_tabIn (tgt := 141) hM hx dX12_count_1 (by decide) (by decide) rfl (by decide) ?_
    refine lv_aload_n hM.1 hM.2.1 dX12_count_141 rfl (lv_at hl 0 rfl) ?_
    refine gf_X12_now hM hw (okX12.o ho) fl_X12_146 dX12_count_142 ?_
    refine lv_iconst (v := 3) hM.1 hM.2.1 dX12_count_145 ic_3 ?_
    refine x_ialdK hM hw (okX12.now ho) 3 (by decide) (by decide) dX12_count_146 ?_
    exact hR _ _ _ _ _ _ _ (congrArg (fun z => (z, _)) (Option.some.inj hf)) rfl rfl hw dX12_count_147
  refine x_sw hf (fun hx hf => ?_) (fun n8 hf => ?_)
  · refine x_tabIn (tgt := 148) hM hx dX12_count_1 (by decide) (by decide) rfl (by decide) ?_
    exact w_X12_count_j148 hM ho hR hw hl hf
  refine x_sw hf (fun hx hf => ?_) (fun n9 hf => ?_)
  · refine x_tabIn (tgt := 148) hM hx dX12_count_1 (by decide) (by decide) rfl (by decide) ?_
    exact w_X12_count_j148 hM ho hR hw hl hf
  refine x_sw hf (fun hx hf => ?_) (fun n10 hf => ?_)
  · refine x_tabIn (tgt := 148) hM hx dX12_count_1 (by decide) (by decide) rfl (by decide) ?_
    exact w_X12_count_j148 hM ho hR hw hl hf
  refine x_sw hf (fun hx hf => ?_) (fun n11 hf => ?_)
  · refine x_tabIn (tgt := 195) hM hx dX12_count_1 (by decide) (by decide) rfl (by decide) ?_
    refine lv_aload_n hM.1 hM.2.1 dX12_count_195 rfl (lv_at hl 0 rfl) ?_
    refine gf_X12_taped hM hw (okX12.o ho) fl_X12_199 dX12_count_196 ?_
    exact hR _ _ _ _ _ _ _ (congrArg (fun z => (z, _)) (Option.some.inj hf)) rfl rfl hw dX12_count_199
  refine x_sw hf (fun hx hf => ?_) (fun n12 hf => ?_)
  · refine x_tabIn (tgt := 200) hM hx dX12_count_1 (by decide) (by decide) rfl (by decide) ?_
    refine lv_aload_n hM.1 hM.2.1 dX12_count_200 rfl (lv_at hl 0 rfl) ?_
    refine gf_X12_undos hM hw (okX12.o ho) fl_X12_284 dX12_count_201 ?_
    exact hR _ _ _ _ _ _ _ (congrArg (fun z => (z, _)) (Option.some.inj hf)) rfl rfl hw dX12_count_204
  refine x_sw hf (fun hx hf => ?_) (fun n13 hf => ?_)
  · refine x_tabIn (tgt := 205) hM hx dX12_count_1 (by decide) (by decide) rfl (by decide) ?_
    refine lv_aload_n hM.1 hM.2.1 dX12_count_205 rfl (lv_at hl 0 rfl) ?_
    refine gf_X12_saids hM hw (okX12.o ho) fl_X12_287 dX12_count_206 ?_
    exact hR _ _ _ _ _ _ _ (congrArg (fun z => (z, _)) (Option.some.inj hf)) rfl rfl hw dX12_count_209
  refine x_sw hf (fun hx hf => ?_) (fun n14 hf => ?_)
  · refine x_tabIn (tgt := 210) hM hx dX12_count_1 (by decide) (by decide) rfl (by decide) ?_
    refine lv_aload_n hM.1 hM.2.1 dX12_count_210 rfl (lv_at hl 0 rfl) ?_
    refine gf_X12_knowns hM hw (okX12.o ho) fl_X12_290 dX12_count_211 ?_
    exact hR _ _ _ _ _ _ _ (congrArg (fun z => (z, _)) (Option.some.inj hf)) rfl rfl hw dX12_count_214
  refine x_sw hf (fun hx hf => ?_) (fun n15 hf => ?_)
  · refine x_tabIn (tgt := 215) hM hx dX12_count_1 (by decide) (by decide) rfl (by decide) ?_
    refine lv_aload_n hM.1 hM.2.1 dX12_count_215 rfl (lv_at hl 0 rfl) ?_
    refine gf_X12_isHeld hM hw (okX12.o ho) fl_X12_179 dX12_count_216 ?_
    refine lv_iconst (v := 0) hM.1 hM.2.1 dX12_count_219 ic_0 ?_
    refine x_zaldK hM hw (okX12.isHeld ho) 0 (by decide) (by decide) dX12_count_220 ?_
    refine x_if_eq (tgt := 228) hM hf dX12_count_221 (by decide) (fun hf => ?_) (fun hf => ?_)
    · refine lv_iconst (v := 0) hM.1 hM.2.1 dX12_count_228 ic_0 ?_
      exact w_X12_count_j229 hM ho hR hw (lv_sub hl [0] rfl) hf
    refine lv_iconst (v := 1) hM.1 hM.2.1 dX12_count_224 ic_1 ?_
    refine lv_goto (tgt := 229) hM.1 hM.2.1 dX12_count_225 (by decide) ?_
    exact w_X12_count_j229 hM ho hR hw (lv_sub hl [0] rfl) hf
  refine lv_tableOut (tgt := 260) hM.1 hM.2.1 dX12_count_1 (by have := sw_ne n0 (k := 0) (by decide); have := sw_ne n1 (k := 1) (by decide); have := sw_ne n2 (k := 2) (by decide); have := sw_ne n3 (k := 3) (by decide); have := sw_ne n4 (k := 4) (by decide); have := sw_ne n5 (k := 5) (by decide); have := sw_ne n6 (k := 6) (by decide); have := sw_ne n7 (k := 7) (by decide); have := sw_ne n8 (k := 8) (by decide); have := sw_ne n9 (k := 9) (by decide); have := sw_ne n10 (k := 10) (by decide); have := sw_ne n11 (k := 11) (by decide); have := sw_ne n12 (k := 12) (by decide); have := sw_ne n13 (k := 13) (by decide); have := sw_ne n14 (k := 14) (by decide); have := sw_ne n15 (k := 15) (by decide); omega) (by decide) ?_
  refine lv_iconst (v := (-1)) hM.1 hM.2.1 dX12_count_260 ic_m1 ?_
  exact hR _ _ _ _ _ _ _ (congrArg (fun z => (z, _)) (Option.some.inj hf)) rfl rfl hw dX12_count_261
theorem hd_X12_count : yX12_count.cls = RX12 ∧ yX12_count.cls ≠ "java/lang/invoke/MethodHandle" ∧ yX12_count.cls ≠ "java/lang/invoke/VarHandle" ∧ (parseMethodDescriptor yX12_count.desc).map (fun d => d.parameters.length) = some 1 := ⟨rfl, by decide, by decide, by decide +kernel⟩

