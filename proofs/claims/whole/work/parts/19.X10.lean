theorem dX10_behindBlanks_0 : decode cX10_behindBlanks 0 = .ok (.iload_n 2, 1) := by decide +kernel
theorem dX10_behindBlanks_1 : decode cX10_behindBlanks 1 = .ok (.istore_n 3, 1) := by decide +kernel
theorem dX10_behindBlanks_2 : decode cX10_behindBlanks 2 = .ok (.iload_n 3, 1) := by decide +kernel
theorem dX10_behindBlanks_3 : decode cX10_behindBlanks 3 = .ok (.iload_n 1, 1) := by decide +kernel
theorem dX10_behindBlanks_4 : decode cX10_behindBlanks 4 = .ok (.if_icmp .ge 41, 3) := by decide +kernel
theorem dX10_behindBlanks_7 : decode cX10_behindBlanks 7 = .ok (.aload_n 0, 1) := by decide +kernel
theorem dX10_behindBlanks_8 : decode cX10_behindBlanks 8 = .ok (.iload_n 3, 1) := by decide +kernel
theorem dX10_behindBlanks_9 : decode cX10_behindBlanks 9 = .ok (.baload, 1) := by decide +kernel
theorem dX10_behindBlanks_10 : decode cX10_behindBlanks 10 = .ok (.bipush 32, 2) := by decide +kernel
theorem dX10_behindBlanks_12 : decode cX10_behindBlanks 12 = .ok (.if_icmp .eq 27, 3) := by decide +kernel
theorem dX10_behindBlanks_15 : decode cX10_behindBlanks 15 = .ok (.aload_n 0, 1) := by decide +kernel
theorem dX10_behindBlanks_16 : decode cX10_behindBlanks 16 = .ok (.iload_n 3, 1) := by decide +kernel
theorem dX10_behindBlanks_17 : decode cX10_behindBlanks 17 = .ok (.baload, 1) := by decide +kernel
theorem dX10_behindBlanks_18 : decode cX10_behindBlanks 18 = .ok (.bipush 9, 2) := by decide +kernel
theorem dX10_behindBlanks_20 : decode cX10_behindBlanks 20 = .ok (.if_icmp .eq 19, 3) := by decide +kernel
theorem dX10_behindBlanks_23 : decode cX10_behindBlanks 23 = .ok (.aload_n 0, 1) := by decide +kernel
theorem dX10_behindBlanks_24 : decode cX10_behindBlanks 24 = .ok (.iload_n 3, 1) := by decide +kernel
theorem dX10_behindBlanks_25 : decode cX10_behindBlanks 25 = .ok (.baload, 1) := by decide +kernel
theorem dX10_behindBlanks_26 : decode cX10_behindBlanks 26 = .ok (.bipush 10, 2) := by decide +kernel
theorem dX10_behindBlanks_28 : decode cX10_behindBlanks 28 = .ok (.if_icmp .eq 11, 3) := by decide +kernel
theorem dX10_behindBlanks_31 : decode cX10_behindBlanks 31 = .ok (.aload_n 0, 1) := by decide +kernel
theorem dX10_behindBlanks_32 : decode cX10_behindBlanks 32 = .ok (.iload_n 3, 1) := by decide +kernel
theorem dX10_behindBlanks_33 : decode cX10_behindBlanks 33 = .ok (.baload, 1) := by decide +kernel
theorem dX10_behindBlanks_34 : decode cX10_behindBlanks 34 = .ok (.bipush 13, 2) := by decide +kernel
theorem dX10_behindBlanks_36 : decode cX10_behindBlanks 36 = .ok (.if_icmp .ne 9, 3) := by decide +kernel
theorem dX10_behindBlanks_39 : decode cX10_behindBlanks 39 = .ok (.iinc 3 1, 3) := by decide +kernel
theorem dX10_behindBlanks_42 : decode cX10_behindBlanks 42 = .ok (.goto (-40), 3) := by decide +kernel
theorem dX10_behindBlanks_45 : decode cX10_behindBlanks 45 = .ok (.iload_n 3, 1) := by decide +kernel
theorem dX10_behindBlanks_46 : decode cX10_behindBlanks 46 = .ok (.ireturn, 1) := by decide +kernel
def c_X10_behindBlanks_L2b {ρ : Type}  (q0 : Nat) (z1 : Int32) (h : PH) (K1 : Int32 → Option ρ) (REC : Int32 → Option ρ) (x3 : Int32) : Option ρ :=
  if z1 ≤ x3 then
    K1 x3
  else
    gd (ixOK x3 2000) <|
    if (h.1 q0 x3.toNatClampNeg) = 32 then
      nm (x3 + 1) fun v2 =>
      REC v2
    else
      gd (ixOK x3 2000) <|
      if (h.1 q0 x3.toNatClampNeg) = 9 then
        nm (x3 + 1) fun v3 =>
        REC v3
      else
        gd (ixOK x3 2000) <|
        if (h.1 q0 x3.toNatClampNeg) = 10 then
          nm (x3 + 1) fun v4 =>
          REC v4
        else
          gd (ixOK x3 2000) <|
          if (h.1 q0 x3.toNatClampNeg) = 13 then
            nm (x3 + 1) fun v5 =>
            REC v5
          else
            K1 x3
set_option maxHeartbeats 4000000 in
set_option maxRecDepth 100000 in
theorem w_X10_behindBlanks_L2b {p0 : Program} {l : Launch} {e : Env} {s : State} {m : MethodId} {args : Array Value} {below : List Frame} {meth : Method} {c : Code} {Q : State → Prop} {D : va_G} {G : GG} {A : Nat → Prop} {H0 : Heap} {ad : Nat → Nat} {lay : List KK} {X : va_W} {ρ : Type} {q0 : Nat} {r0 : ρ} {z1 : Int32} {x3 : Int32} {h : PH} {H : Heap} {locs : List Loc} {ls : Array Slot} {K1 : Int32 → Option ρ} {REC : Int32 → Option ρ} (hM : CallFix p0 m c cX10_behindBlanks 4 s args lw_g RX10) (ho0 : lay[q0]? = some (kB 2000)) (hk1 : ∀ (x3 : Int32), ∀ (H : Heap) (locs : List Loc) (ls : Array Slot), K1 x3 = some r0 → Wd D G A H0 ad lay X h s H locs → lv_has ls 4 [(3, .int x3)] → W p0 l e (rmN 0 0) s m args below meth c H locs 0 0 Q (F0 m 45 ls [])) (hrec : ∀ (x3 : Int32), ∀ (H : Heap) (locs : List Loc) (ls : Array Slot), REC x3 = some r0 → Wd D G A H0 ad lay X h s H locs → lv_has ls 4 [(0, .ref (ad q0)), (1, .int z1), (3, .int x3)] → W p0 l e (rmN 0 0) s m args below meth c H locs 0 0 Q (F0 m 2 ls [])) (hw : Wd D G A H0 ad lay X h s H locs) (hl : lv_has ls 4 [(0, .ref (ad q0)), (1, .int z1), (3, .int x3)]) (hf : c_X10_behindBlanks_L2b q0 z1 h K1 REC x3 = some r0) : W p0 l e (rmN 0 0) s m args below meth c H locs 0 0 Q (F0 m 2 ls []) := by
  unfold c_X10_behindBlanks_L2b at hf
  refine lv_iload_n hM.1 hM.2.1 dX10_behindBlanks_2 rfl (lv_at hl 2 rfl) ?_
  refine lv_iload_n hM.1 hM.2.1 dX10_behindBlanks_3 rfl (lv_at hl 1 rfl) ?_
  refine x_ic_ge (tgt := 45) hM hf dX10_behindBlanks_4 (by decide) (fun hf => ?_) (fun hf => ?_)
  · exact hk1 _ _ _ _ hf hw (lv_sub hl [2] rfl)
  refine lv_aload_n hM.1 hM.2.1 dX10_behindBlanks_7 rfl (lv_at hl 0 rfl) ?_
  refine lv_iload_n hM.1 hM.2.1 dX10_behindBlanks_8 rfl (lv_at hl 2 rfl) ?_
  refine x_bald hM hw ho0 hf dX10_behindBlanks_9 (fun hf => ?_)
  refine lv_bipush (v := 32) hM.1 hM.2.1 dX10_behindBlanks_10 (by decide) ?_
  refine x_ic_eq (tgt := 39) hM hf dX10_behindBlanks_12 (by decide) (fun hf => ?_) (fun hf => ?_)
  · refine x_iinc (k := 2) (d := 1) hM hf dX10_behindBlanks_39 hl rfl (by decide) (by decide) (fun v2 => [(3, .int v2), (0, .ref (ad q0)), (1, .int z1)]) (fun _ => rfl) (fun v2 ls hf hl => ?_)
    refine lv_goto (tgt := 2) hM.1 hM.2.1 dX10_behindBlanks_42 (by decide) ?_
    exact hrec _ _ _ _ hf hw (lv_sub hl [1, 2, 0] rfl)
  refine lv_aload_n hM.1 hM.2.1 dX10_behindBlanks_15 rfl (lv_at hl 0 rfl) ?_
  refine lv_iload_n hM.1 hM.2.1 dX10_behindBlanks_16 rfl (lv_at hl 2 rfl) ?_
  refine x_bald hM hw ho0 hf dX10_behindBlanks_17 (fun hf => ?_)
  refine lv_bipush (v := 9) hM.1 hM.2.1 dX10_behindBlanks_18 (by decide) ?_
  refine x_ic_eq (tgt := 39) hM hf dX10_behindBlanks_20 (by decide) (fun hf => ?_) (fun hf => ?_)
  · refine x_iinc (k := 2) (d := 1) hM hf dX10_behindBlanks_39 hl rfl (by decide) (by decide) (fun v3 => [(3, .int v3), (0, .ref (ad q0)), (1, .int z1)]) (fun _ => rfl) (fun v3 ls hf hl => ?_)
    refine lv_goto (tgt := 2) hM.1 hM.2.1 dX10_behindBlanks_42 (by decide) ?_
    exact hrec _ _ _ _ hf hw (lv_sub hl [1, 2, 0] rfl)
  refine lv_aload_n hM.1 hM.2.1 dX10_behindBlanks_23 rfl (lv_at hl 0 rfl) ?_
  refine lv_iload_n hM.1 hM.2.1 dX10_behindBlanks_24 rfl (lv_at hl 2 rfl) ?_
  refine x_bald hM hw ho0 hf dX10_behindBlanks_25 (fun hf => ?_)
  refine lv_bipush (v := 10) hM.1 hM.2.1 dX10_behindBlanks_26 (by decide) ?_
  refine x_ic_eq (tgt := 39) hM hf dX10_behindBlanks_28 (by decide) (fun hf => ?_) (fun hf => ?_)
  · refine x_iinc (k := 2) (d := 1) hM hf dX10_behindBlanks_39 hl rfl (by decide) (by decide) (fun v4 => [(3, .int v4), (0, .ref (ad q0)), (1, .int z1)]) (fun _ => rfl) (fun v4 ls hf hl => ?_)
    refine lv_goto (tgt := 2) hM.1 hM.2.1 dX10_behindBlanks_42 (by decide) ?_
    exact hrec _ _ _ _ hf hw (lv_sub hl [1, 2, 0] rfl)
  refine lv_aload_n hM.1 hM.2.1 dX10_behindBlanks_31 rfl (lv_at hl 0 rfl) ?_
  refine lv_iload_n hM.1 hM.2.1 dX10_behindBlanks_32 rfl (lv_at hl 2 rfl) ?_
  refine x_bald hM hw ho0 hf dX10_behindBlanks_33 (fun hf => ?_)
  refine lv_bipush (v := 13) hM.1 hM.2.1 dX10_behindBlanks_34 (by decide) ?_
  refine x_ic_ne (tgt := 45) hM hf dX10_behindBlanks_36 (by decide) (fun hf => ?_) (fun hf => ?_)
  · exact hk1 _ _ _ _ hf hw (lv_sub hl [2] rfl)
  refine x_iinc (k := 2) (d := 1) hM hf dX10_behindBlanks_39 hl rfl (by decide) (by decide) (fun v5 => [(3, .int v5), (0, .ref (ad q0)), (1, .int z1)]) (fun _ => rfl) (fun v5 ls hf hl => ?_)
  refine lv_goto (tgt := 2) hM.1 hM.2.1 dX10_behindBlanks_42 (by decide) ?_
  exact hrec _ _ _ _ hf hw (lv_sub hl [1, 2, 0] rfl)
set_option maxHeartbeats 4000000 in
set_option maxRecDepth 100000 in
theorem w_X10_behindBlanks_L2 {p0 : Program} {l : Launch} {e : Env} {s : State} {m : MethodId} {args : Array Value} {below : List Frame} {meth : Method} {c : Code} {Q : State → Prop} {D : va_G} {G : GG} {A : Nat → Prop} {H0 : Heap} {ad : Nat → Nat} {lay : List KK} {X : va_W} {ρ : Type} {q0 : Nat} {r0 : ρ} {z1 : Int32} {h : PH} {K1 : Int32 → Option ρ} (hM : CallFix p0 m c cX10_behindBlanks 4 s args lw_g RX10) (ho0 : lay[q0]? = some (kB 2000)) (hk1 : ∀ (x3 : Int32), ∀ (H : Heap) (locs : List Loc) (ls : Array Slot), K1 x3 = some r0 → Wd D G A H0 ad lay X h s H locs → lv_has ls 4 [(3, .int x3)] → W p0 l e (rmN 0 0) s m args below meth c H locs 0 0 Q (F0 m 45 ls [])) (n : Nat) (x3 : Int32) (hf : lq1 (c_X10_behindBlanks_L2b q0 z1 h K1) n x3 = some r0) : ∀ (H : Heap) (locs : List Loc) (ls : Array Slot), Wd D G A H0 ad lay X h s H locs → lv_has ls 4 [(0, .ref (ad q0)), (1, .int z1), (3, .int x3)] → W p0 l e (rmN 0 0) s m args below meth c H locs 0 0 Q (F0 m 2 ls []) := by
  exact lq1_i (fun (x3 : Int32) => ∀ (H : Heap) (locs : List Loc) (ls : Array Slot), Wd D G A H0 ad lay X h s H locs → lv_has ls 4 [(0, .ref (ad q0)), (1, .int z1), (3, .int x3)] → W p0 l e (rmN 0 0) s m args below meth c H locs 0 0 Q (F0 m 2 ls [])) (fun REC x3 ih hf H locs ls hw hl => w_X10_behindBlanks_L2b hM ho0 hk1 (fun x3 H locs ls hf hw hl => ih x3 hf H locs ls hw hl) hw hl hf) n x3 hf
def c_X10_behindBlanks (q0 : Nat) (a1 : Int32) (a2 : Int32) (h : PH) : Option (Int32) :=
  nm a2 fun v1 =>
  lq1 (c_X10_behindBlanks_L2b q0 a1 h
    (fun w6 =>
      some w6)) fu v1
set_option maxHeartbeats 4000000 in
set_option maxRecDepth 100000 in
theorem ct_X10_behindBlanks (l : Launch) {lay : List KK} {q0 : Nat} (ho0 : lay[q0]? = some (kB 2000)) (a1 : Int32) (a2 : Int32) : CtI l yX10_behindBlanks cX10_behindBlanks 4 (some .int) 0 0 lay (rd (fun h => c_X10_behindBlanks q0 a1 a2 h)) (fun ad => [.ref (ad q0), .int a1, .int a2]) := by
  refine CtI.mk' RX10 (by decide) rfl (fun _ => Nat.le_of_ble_eq_true rfl) ?_
  intro p0 e s m args below meth c D G A H0 ad X h r0 H ls Q hM hw hl hf hR
  have hl : lv_has ls 4 [(0, .ref (ad q0)), (1, .int a1), (2, .int a2)] := hl
  obtain ⟨v0, hv0, hr0⟩ : ∃ v0, c_X10_behindBlanks q0 a1 a2 h = some v0 ∧ r0 = (v0, h) := rd_some hf
  subst hr0
  have hf := hv0
  unfold c_X10_behindBlanks at hf
  refine lv_iload_n hM.1 hM.2.1 dX10_behindBlanks_0 rfl (lv_at hl 2 rfl) ?_
  refine x_istore_n hM hf dX10_behindBlanks_1 rfl hl (by decide) (fun v1 => [(3, .int v1), (0, .ref (ad q0)), (1, .int a1), (2, .int a2)]) (fun _ => rfl) (fun v1 ls hf hl => ?_)
  refine w_X10_behindBlanks_L2 hM ho0 (fun w6 H locs ls hf hw hl => ?_) fu _ hf _ _ _ hw (lv_sub hl [1, 2, 0] rfl)
  refine lv_iload_n hM.1 hM.2.1 dX10_behindBlanks_45 rfl (lv_at hl 0 rfl) ?_
  exact hR _ _ _ _ _ _ _ (congrArg (fun z => (z, _)) (Option.some.inj hf)) rfl rfl hw dX10_behindBlanks_46
theorem hd_X10_behindBlanks : yX10_behindBlanks.cls ≠ "java/lang/invoke/MethodHandle" ∧ yX10_behindBlanks.cls ≠ "java/lang/invoke/VarHandle" ∧ (parseMethodDescriptor yX10_behindBlanks.desc).map (fun d => d.parameters.length) = some 3 := ⟨by decide, by decide, by decide +kernel⟩
theorem dX10_isLetter_0 : decode cX10_isLetter 0 = .ok (.iload_n 0, 1) := by decide +kernel
theorem dX10_isLetter_1 : decode cX10_isLetter 1 = .ok (.bipush 97, 2) := by decide +kernel
theorem dX10_isLetter_3 : decode cX10_isLetter 3 = .ok (.if_icmp .lt 13, 3) := by decide +kernel
theorem dX10_isLetter_6 : decode cX10_isLetter 6 = .ok (.iload_n 0, 1) := by decide +kernel
theorem dX10_isLetter_7 : decode cX10_isLetter 7 = .ok (.bipush 122, 2) := by decide +kernel
theorem dX10_isLetter_9 : decode cX10_isLetter 9 = .ok (.if_icmp .gt 7, 3) := by decide +kernel
theorem dX10_isLetter_12 : decode cX10_isLetter 12 = .ok (.iconst 1, 1) := by decide +kernel
theorem dX10_isLetter_13 : decode cX10_isLetter 13 = .ok (.goto 4, 3) := by decide +kernel
theorem dX10_isLetter_16 : decode cX10_isLetter 16 = .ok (.iconst 0, 1) := by decide +kernel
theorem dX10_isLetter_17 : decode cX10_isLetter 17 = .ok (.ireturn, 1) := by decide +kernel
def c_X10_isLetter (a0 : Int32) : Option (Int32) :=
  if a0 < 97 then
    some 0
  else
    if 122 < a0 then
      some 0
    else
      some 1
set_option maxHeartbeats 4000000 in
set_option maxRecDepth 100000 in
theorem ct_X10_isLetter (l : Launch) {lay : List KK} (a0 : Int32) : CtI l yX10_isLetter cX10_isLetter 1 (some .boolean) 0 0 lay (rd (fun _ => c_X10_isLetter a0)) (fun _ => [.int a0]) := by
  refine CtI.mk' RX10 (by decide) rfl (fun _ => Nat.le_of_ble_eq_true rfl) ?_
  intro p0 e s m args below meth c D G A H0 ad X h r0 H ls Q hM hw hl hf hR
  have hl : lv_has ls 1 [(0, .int a0)] := hl
  obtain ⟨v0, hv0, hr0⟩ : ∃ v0, c_X10_isLetter a0 = some v0 ∧ r0 = (v0, h) := rd_some hf
  subst hr0
  have hf := hv0
  unfold c_X10_isLetter at hf
  refine lv_iload_n hM.1 hM.2.1 dX10_isLetter_0 rfl (lv_at hl 0 rfl) ?_
  refine lv_bipush (v := 97) hM.1 hM.2.1 dX10_isLetter_1 (by decide) ?_
  refine x_ic_lt (tgt := 16) hM hf dX10_isLetter_3 (by decide) (fun hf => ?_) (fun hf => ?_)
  · refine lv_iconst (v := 0) hM.1 hM.2.1 dX10_isLetter_16 ic_0 ?_
    exact hR _ _ _ _ _ _ _ (congrArg (fun z => (z, _)) (Option.some.inj hf)) rfl (nar_z (by decide)) hw dX10_isLetter_17
  refine lv_iload_n hM.1 hM.2.1 dX10_isLetter_6 rfl (lv_at hl 0 rfl) ?_
  refine lv_bipush (v := 122) hM.1 hM.2.1 dX10_isLetter_7 (by decide) ?_
  refine x_ic_gt (tgt := 16) hM hf dX10_isLetter_9 (by decide) (fun hf => ?_) (fun hf => ?_)
  · refine lv_iconst (v := 0) hM.1 hM.2.1 dX10_isLetter_16 ic_0 ?_
    exact hR _ _ _ _ _ _ _ (congrArg (fun z => (z, _)) (Option.some.inj hf)) rfl (nar_z (by decide)) hw dX10_isLetter_17
  refine lv_iconst (v := 1) hM.1 hM.2.1 dX10_isLetter_12 ic_1 ?_
  refine lv_goto (tgt := 17) hM.1 hM.2.1 dX10_isLetter_13 (by decide) ?_
  exact hR _ _ _ _ _ _ _ (congrArg (fun z => (z, _)) (Option.some.inj hf)) rfl (nar_z (by decide)) hw dX10_isLetter_17
theorem hd_X10_isLetter : yX10_isLetter.cls ≠ "java/lang/invoke/MethodHandle" ∧ yX10_isLetter.cls ≠ "java/lang/invoke/VarHandle" ∧ (parseMethodDescriptor yX10_isLetter.desc).map (fun d => d.parameters.length) = some 1 := ⟨by decide, by decide, by decide +kernel⟩
theorem dX10_isDigit_0 : decode cX10_isDigit 0 = .ok (.iload_n 0, 1) := by decide +kernel
theorem dX10_isDigit_1 : decode cX10_isDigit 1 = .ok (.bipush 48, 2) := by decide +kernel
theorem dX10_isDigit_3 : decode cX10_isDigit 3 = .ok (.if_icmp .lt 13, 3) := by decide +kernel
theorem dX10_isDigit_6 : decode cX10_isDigit 6 = .ok (.iload_n 0, 1) := by decide +kernel
theorem dX10_isDigit_7 : decode cX10_isDigit 7 = .ok (.bipush 57, 2) := by decide +kernel
theorem dX10_isDigit_9 : decode cX10_isDigit 9 = .ok (.if_icmp .gt 7, 3) := by decide +kernel
theorem dX10_isDigit_12 : decode cX10_isDigit 12 = .ok (.iconst 1, 1) := by decide +kernel
theorem dX10_isDigit_13 : decode cX10_isDigit 13 = .ok (.goto 4, 3) := by decide +kernel
theorem dX10_isDigit_16 : decode cX10_isDigit 16 = .ok (.iconst 0, 1) := by decide +kernel
theorem dX10_isDigit_17 : decode cX10_isDigit 17 = .ok (.ireturn, 1) := by decide +kernel
def c_X10_isDigit (a0 : Int32) : Option (Int32) :=
  if a0 < 48 then
    some 0
  else
    if 57 < a0 then
      some 0
    else
      some 1
set_option maxHeartbeats 4000000 in
set_option maxRecDepth 100000 in
theorem ct_X10_isDigit (l : Launch) {lay : List KK} (a0 : Int32) : CtI l yX10_isDigit cX10_isDigit 1 (some .boolean) 0 0 lay (rd (fun _ => c_X10_isDigit a0)) (fun _ => [.int a0]) := by
  refine CtI.mk' RX10 (by decide) rfl (fun _ => Nat.le_of_ble_eq_true rfl) ?_
  intro p0 e s m args below meth c D G A H0 ad X h r0 H ls Q hM hw hl hf hR
  have hl : lv_has ls 1 [(0, .int a0)] := hl
  obtain ⟨v0, hv0, hr0⟩ : ∃ v0, c_X10_isDigit a0 = some v0 ∧ r0 = (v0, h) := rd_some hf
  subst hr0
  have hf := hv0
  unfold c_X10_isDigit at hf
  refine lv_iload_n hM.1 hM.2.1 dX10_isDigit_0 rfl (lv_at hl 0 rfl) ?_
  refine lv_bipush (v := 48) hM.1 hM.2.1 dX10_isDigit_1 (by decide) ?_
  refine x_ic_lt (tgt := 16) hM hf dX10_isDigit_3 (by decide) (fun hf => ?_) (fun hf => ?_)
  · refine lv_iconst (v := 0) hM.1 hM.2.1 dX10_isDigit_16 ic_0 ?_
    exact hR _ _ _ _ _ _ _ (congrArg (fun z => (z, _)) (Option.some.inj hf)) rfl (nar_z (by decide)) hw dX10_isDigit_17
  refine lv_iload_n hM.1 hM.2.1 dX10_isDigit_6 rfl (lv_at hl 0 rfl) ?_
  refine lv_bipush (v := 57) hM.1 hM.2.1 dX10_isDigit_7 (by decide) ?_
  refine x_ic_gt (tgt := 16) hM hf dX10_isDigit_9 (by decide) (fun hf => ?_) (fun hf => ?_)
  · refine lv_iconst (v := 0) hM.1 hM.2.1 dX10_isDigit_16 ic_0 ?_
    exact hR _ _ _ _ _ _ _ (congrArg (fun z => (z, _)) (Option.some.inj hf)) rfl (nar_z (by decide)) hw dX10_isDigit_17
  refine lv_iconst (v := 1) hM.1 hM.2.1 dX10_isDigit_12 ic_1 ?_
  refine lv_goto (tgt := 17) hM.1 hM.2.1 dX10_isDigit_13 (by decide) ?_
  exact hR _ _ _ _ _ _ _ (congrArg (fun z => (z, _)) (Option.some.inj hf)) rfl (nar_z (by decide)) hw dX10_isDigit_17
theorem hd_X10_isDigit : yX10_isDigit.cls ≠ "java/lang/invoke/MethodHandle" ∧ yX10_isDigit.cls ≠ "java/lang/invoke/VarHandle" ∧ (parseMethodDescriptor yX10_isDigit.desc).map (fun d => d.parameters.length) = some 1 := ⟨by decide, by decide, by decide +kernel⟩
theorem dX10_endOfRun_0 : decode cX10_endOfRun 0 = .ok (.iload_n 2, 1) := by decide +kernel
theorem dX10_endOfRun_1 : decode cX10_endOfRun 1 = .ok (.istore_n 3, 1) := by decide +kernel
theorem dX10_endOfRun_2 : decode cX10_endOfRun 2 = .ok (.iload_n 3, 1) := by decide +kernel
theorem dX10_endOfRun_3 : decode cX10_endOfRun 3 = .ok (.iload_n 1, 1) := by decide +kernel
theorem dX10_endOfRun_4 : decode cX10_endOfRun 4 = .ok (.if_icmp .ge 32, 3) := by decide +kernel
theorem dX10_endOfRun_7 : decode cX10_endOfRun 7 = .ok (.aload_n 0, 1) := by decide +kernel
theorem dX10_endOfRun_8 : decode cX10_endOfRun 8 = .ok (.iload_n 3, 1) := by decide +kernel
theorem dX10_endOfRun_9 : decode cX10_endOfRun 9 = .ok (.baload, 1) := by decide +kernel
theorem dX10_endOfRun_10 : decode cX10_endOfRun 10 = .ok (.invokestatic 50, 3) := by decide +kernel
theorem dX10_endOfRun_13 : decode cX10_endOfRun 13 = .ok (.ifCond .eq 23, 3) := by decide +kernel
theorem dX10_endOfRun_16 : decode cX10_endOfRun 16 = .ok (.iload_n 3, 1) := by decide +kernel
theorem dX10_endOfRun_17 : decode cX10_endOfRun 17 = .ok (.iload_n 1, 1) := by decide +kernel
theorem dX10_endOfRun_18 : decode cX10_endOfRun 18 = .ok (.if_icmp .ge 60, 3) := by decide +kernel
theorem dX10_endOfRun_21 : decode cX10_endOfRun 21 = .ok (.aload_n 0, 1) := by decide +kernel
theorem dX10_endOfRun_22 : decode cX10_endOfRun 22 = .ok (.iload_n 3, 1) := by decide +kernel
theorem dX10_endOfRun_23 : decode cX10_endOfRun 23 = .ok (.baload, 1) := by decide +kernel
theorem dX10_endOfRun_24 : decode cX10_endOfRun 24 = .ok (.invokestatic 50, 3) := by decide +kernel
theorem dX10_endOfRun_27 : decode cX10_endOfRun 27 = .ok (.ifCond .eq 51, 3) := by decide +kernel
theorem dX10_endOfRun_30 : decode cX10_endOfRun 30 = .ok (.iinc 3 1, 3) := by decide +kernel
theorem dX10_endOfRun_33 : decode cX10_endOfRun 33 = .ok (.goto (-17), 3) := by decide +kernel
theorem dX10_endOfRun_36 : decode cX10_endOfRun 36 = .ok (.iload_n 3, 1) := by decide +kernel
theorem dX10_endOfRun_37 : decode cX10_endOfRun 37 = .ok (.iload_n 1, 1) := by decide +kernel
theorem dX10_endOfRun_38 : decode cX10_endOfRun 38 = .ok (.if_icmp .ge 32, 3) := by decide +kernel
theorem dX10_endOfRun_41 : decode cX10_endOfRun 41 = .ok (.aload_n 0, 1) := by decide +kernel
theorem dX10_endOfRun_42 : decode cX10_endOfRun 42 = .ok (.iload_n 3, 1) := by decide +kernel
theorem dX10_endOfRun_43 : decode cX10_endOfRun 43 = .ok (.baload, 1) := by decide +kernel
theorem dX10_endOfRun_44 : decode cX10_endOfRun 44 = .ok (.invokestatic 54, 3) := by decide +kernel
theorem dX10_endOfRun_47 : decode cX10_endOfRun 47 = .ok (.ifCond .eq 23, 3) := by decide +kernel
theorem dX10_endOfRun_50 : decode cX10_endOfRun 50 = .ok (.iload_n 3, 1) := by decide +kernel
theorem dX10_endOfRun_51 : decode cX10_endOfRun 51 = .ok (.iload_n 1, 1) := by decide +kernel
theorem dX10_endOfRun_52 : decode cX10_endOfRun 52 = .ok (.if_icmp .ge 26, 3) := by decide +kernel
theorem dX10_endOfRun_55 : decode cX10_endOfRun 55 = .ok (.aload_n 0, 1) := by decide +kernel
theorem dX10_endOfRun_56 : decode cX10_endOfRun 56 = .ok (.iload_n 3, 1) := by decide +kernel
theorem dX10_endOfRun_57 : decode cX10_endOfRun 57 = .ok (.baload, 1) := by decide +kernel
theorem dX10_endOfRun_58 : decode cX10_endOfRun 58 = .ok (.invokestatic 54, 3) := by decide +kernel
theorem dX10_endOfRun_61 : decode cX10_endOfRun 61 = .ok (.ifCond .eq 17, 3) := by decide +kernel
theorem dX10_endOfRun_64 : decode cX10_endOfRun 64 = .ok (.iinc 3 1, 3) := by decide +kernel
theorem dX10_endOfRun_67 : decode cX10_endOfRun 67 = .ok (.goto (-17), 3) := by decide +kernel
theorem dX10_endOfRun_70 : decode cX10_endOfRun 70 = .ok (.iload_n 3, 1) := by decide +kernel
theorem dX10_endOfRun_71 : decode cX10_endOfRun 71 = .ok (.iload_n 1, 1) := by decide +kernel
theorem dX10_endOfRun_72 : decode cX10_endOfRun 72 = .ok (.if_icmp .ge 6, 3) := by decide +kernel
theorem dX10_endOfRun_75 : decode cX10_endOfRun 75 = .ok (.iinc 3 1, 3) := by decide +kernel
theorem dX10_endOfRun_78 : decode cX10_endOfRun 78 = .ok (.iload_n 3, 1) := by decide +kernel
theorem dX10_endOfRun_79 : decode cX10_endOfRun 79 = .ok (.ireturn, 1) := by decide +kernel
def c_X10_endOfRun_L50b {ρ : Type}  (q0 : Nat) (z1 : Int32) (h : PH) (K1 : Int32 → Option ρ) (REC : Int32 → Option ρ) (x3 : Int32) : Option ρ :=
  if z1 ≤ x3 then
    K1 x3
  else
    gd (ixOK x3 2000) <|
    (c_X10_isDigit (h.1 q0 x3.toNatClampNeg)).bind fun r5 =>
    if r5 = 0 then
      K1 x3
    else
      nm (x3 + 1) fun v6 =>
      REC v6
set_option maxHeartbeats 4000000 in
set_option maxRecDepth 100000 in
theorem w_X10_endOfRun_L50b {p0 : Program} {l : Launch} {e : Env} {s : State} {m : MethodId} {args : Array Value} {below : List Frame} {meth : Method} {c : Code} {Q : State → Prop} {D : va_G} {G : GG} {A : Nat → Prop} {H0 : Heap} {ad : Nat → Nat} {lay : List KK} {X : va_W} {ρ : Type} {q0 : Nat} {r0 : ρ} {z1 : Int32} {x3 : Int32} {h : PH} {H : Heap} {locs : List Loc} {ls : Array Slot} {K1 : Int32 → Option ρ} {REC : Int32 → Option ρ} (hM : CallFix p0 m c cX10_endOfRun 4 s args lw_g RX10) (ho0 : lay[q0]? = some (kB 2000)) (hk1 : ∀ (x3 : Int32), ∀ (H : Heap) (locs : List Loc) (ls : Array Slot), K1 x3 = some r0 → Wd D G A H0 ad lay X h s H locs → lv_has ls 4 [(3, .int x3)] → W p0 l e (rmN 1 20) s m args below meth c H locs 0 0 Q (F0 m 78 ls [])) (hrec : ∀ (x3 : Int32), ∀ (H : Heap) (locs : List Loc) (ls : Array Slot), REC x3 = some r0 → Wd D G A H0 ad lay X h s H locs → lv_has ls 4 [(0, .ref (ad q0)), (1, .int z1), (3, .int x3)] → W p0 l e (rmN 1 20) s m args below meth c H locs 0 0 Q (F0 m 50 ls [])) (hw : Wd D G A H0 ad lay X h s H locs) (hl : lv_has ls 4 [(0, .ref (ad q0)), (1, .int z1), (3, .int x3)]) (hf : c_X10_endOfRun_L50b q0 z1 h K1 REC x3 = some r0) : W p0 l e (rmN 1 20) s m args below meth c H locs 0 0 Q (F0 m 50 ls []) := by
  unfold c_X10_endOfRun_L50b at hf
  refine lv_iload_n hM.1 hM.2.1 dX10_endOfRun_50 rfl (lv_at hl 2 rfl) ?_
  refine lv_iload_n hM.1 hM.2.1 dX10_endOfRun_51 rfl (lv_at hl 1 rfl) ?_
  refine x_ic_ge (tgt := 78) hM hf dX10_endOfRun_52 (by decide) (fun hf => ?_) (fun hf => ?_)
  · exact hk1 _ _ _ _ hf hw (lv_sub hl [2] rfl)
  refine lv_aload_n hM.1 hM.2.1 dX10_endOfRun_55 rfl (lv_at hl 0 rfl) ?_
  refine lv_iload_n hM.1 hM.2.1 dX10_endOfRun_56 rfl (lv_at hl 2 rfl) ?_
  refine x_bald hM hw ho0 hf dX10_endOfRun_57 (fun hf => ?_)
  refine x_callSIr (rest := []) hM hw (ct_X10_isDigit l (h.1 q0 x3.toNatClampNeg)) [.int (h.1 q0 x3.toNatClampNeg)] rfl (gi_S ml_X10_54 sm_X10_isDigit in_X10 kc_X10_isDigit) hd_X10_isDigit rfl ⟨Nat.le_of_ble_eq_true rfl, Nat.le_of_ble_eq_true rfl⟩ rfl (Nat.le_of_ble_eq_true rfl) hl.1 hcs0 hf dX10_endOfRun_58 (fun r5 H locs hf hw => ?_)
  refine x_if_eq (tgt := 78) hM hf dX10_endOfRun_61 (by decide) (fun hf => ?_) (fun hf => ?_)
  · exact hk1 _ _ _ _ hf hw (lv_sub hl [2] rfl)
  refine x_iinc (k := 2) (d := 1) hM hf dX10_endOfRun_64 hl rfl (by decide) (by decide) (fun v6 => [(3, .int v6), (0, .ref (ad q0)), (1, .int z1)]) (fun _ => rfl) (fun v6 ls hf hl => ?_)
  refine lv_goto (tgt := 50) hM.1 hM.2.1 dX10_endOfRun_67 (by decide) ?_
  exact hrec _ _ _ _ hf hw (lv_sub hl [1, 2, 0] rfl)
set_option maxHeartbeats 4000000 in
set_option maxRecDepth 100000 in
theorem w_X10_endOfRun_L50 {p0 : Program} {l : Launch} {e : Env} {s : State} {m : MethodId} {args : Array Value} {below : List Frame} {meth : Method} {c : Code} {Q : State → Prop} {D : va_G} {G : GG} {A : Nat → Prop} {H0 : Heap} {ad : Nat → Nat} {lay : List KK} {X : va_W} {ρ : Type} {q0 : Nat} {r0 : ρ} {z1 : Int32} {h : PH} {K1 : Int32 → Option ρ} (hM : CallFix p0 m c cX10_endOfRun 4 s args lw_g RX10) (ho0 : lay[q0]? = some (kB 2000)) (hk1 : ∀ (x3 : Int32), ∀ (H : Heap) (locs : List Loc) (ls : Array Slot), K1 x3 = some r0 → Wd D G A H0 ad lay X h s H locs → lv_has ls 4 [(3, .int x3)] → W p0 l e (rmN 1 20) s m args below meth c H locs 0 0 Q (F0 m 78 ls [])) (n : Nat) (x3 : Int32) (hf : lq1 (c_X10_endOfRun_L50b q0 z1 h K1) n x3 = some r0) : ∀ (H : Heap) (locs : List Loc) (ls : Array Slot), Wd D G A H0 ad lay X h s H locs → lv_has ls 4 [(0, .ref (ad q0)), (1, .int z1), (3, .int x3)] → W p0 l e (rmN 1 20) s m args below meth c H locs 0 0 Q (F0 m 50 ls []) := by
  exact lq1_i (fun (x3 : Int32) => ∀ (H : Heap) (locs : List Loc) (ls : Array Slot), Wd D G A H0 ad lay X h s H locs → lv_has ls 4 [(0, .ref (ad q0)), (1, .int z1), (3, .int x3)] → W p0 l e (rmN 1 20) s m args below meth c H locs 0 0 Q (F0 m 50 ls [])) (fun REC x3 ih hf H locs ls hw hl => w_X10_endOfRun_L50b hM ho0 hk1 (fun x3 H locs ls hf hw hl => ih x3 hf H locs ls hw hl) hw hl hf) n x3 hf
def c_X10_endOfRun_j36  (q0 : Nat) (x1 : Int32) (x3 : Int32) (h : PH) : Option (Int32) :=
  if x1 ≤ x3 then
    if x1 ≤ x3 then
      some x3
    else
      nm (x3 + 1) fun v2 =>
      some v2
  else
    gd (ixOK x3 2000) <|
    (c_X10_isDigit (h.1 q0 x3.toNatClampNeg)).bind fun r3 =>
    if r3 = 0 then
      if x1 ≤ x3 then
        some x3
      else
        nm (x3 + 1) fun v4 =>
        some v4
    else
      lq1 (c_X10_endOfRun_L50b q0 x1 h
        (fun w7 =>
          some w7)) fu x3
set_option maxHeartbeats 4000000 in
set_option maxRecDepth 100000 in
theorem w_X10_endOfRun_j36 {p0 : Program} {l : Launch} {e : Env} {s : State} {m : MethodId} {args : Array Value} {below : List Frame} {meth : Method} {c : Code} {Q : State → Prop} {D : va_G} {G : GG} {A : Nat → Prop} {H0 : Heap} {ad : Nat → Nat} {lay : List KK} {X : va_W} {q0 : Nat} {r0 : Int32} {x1 : Int32} {x3 : Int32} {h : PH} {H : Heap} {locs : List Loc} {ls : Array Slot} (hM : CallFix p0 m c cX10_endOfRun 4 s args lw_g RX10) (ho0 : lay[q0]? = some (kB 2000)) (hR : RtI p0 l e (rmN 1 20) s m args below meth c cX10_endOfRun D G A H0 ad lay X (some .int) (r0, h) Q 0 0) (hw : Wd D G A H0 ad lay X h s H locs) (hl : lv_has ls 4 [(0, .ref (ad q0)), (1, .int x1), (3, .int x3)]) (hf : c_X10_endOfRun_j36 q0 x1 x3 h = some r0) : W p0 l e (rmN 1 20) s m args below meth c H locs 0 0 Q (F0 m 36 ls []) := by
  unfold c_X10_endOfRun_j36 at hf
  refine lv_iload_n hM.1 hM.2.1 dX10_endOfRun_36 rfl (lv_at hl 2 rfl) ?_
  refine lv_iload_n hM.1 hM.2.1 dX10_endOfRun_37 rfl (lv_at hl 1 rfl) ?_
  refine x_ic_ge (tgt := 70) hM hf dX10_endOfRun_38 (by decide) (fun hf => ?_) (fun hf => ?_)
  · refine lv_iload_n hM.1 hM.2.1 dX10_endOfRun_70 rfl (lv_at hl 2 rfl) ?_
    refine lv_iload_n hM.1 hM.2.1 dX10_endOfRun_71 rfl (lv_at hl 1 rfl) ?_
    refine x_ic_ge (tgt := 78) hM hf dX10_endOfRun_72 (by decide) (fun hf => ?_) (fun hf => ?_)
    · refine lv_iload_n hM.1 hM.2.1 dX10_endOfRun_78 rfl (lv_at hl 2 rfl) ?_
      exact hR _ _ _ _ _ _ _ (congrArg (fun z => (z, _)) (Option.some.inj hf)) rfl rfl hw dX10_endOfRun_79
    refine x_iinc (k := 2) (d := 1) hM hf dX10_endOfRun_75 hl rfl (by decide) (by decide) (fun v2 => [(3, .int v2), (0, .ref (ad q0)), (1, .int x1)]) (fun _ => rfl) (fun v2 ls hf hl => ?_)
    refine lv_iload_n hM.1 hM.2.1 dX10_endOfRun_78 rfl (lv_at hl 0 rfl) ?_
    exact hR _ _ _ _ _ _ _ (congrArg (fun z => (z, _)) (Option.some.inj hf)) rfl rfl hw dX10_endOfRun_79
  refine lv_aload_n hM.1 hM.2.1 dX10_endOfRun_41 rfl (lv_at hl 0 rfl) ?_
  refine lv_iload_n hM.1 hM.2.1 dX10_endOfRun_42 rfl (lv_at hl 2 rfl) ?_
  refine x_bald hM hw ho0 hf dX10_endOfRun_43 (fun hf => ?_)
  refine x_callSIr (rest := []) hM hw (ct_X10_isDigit l (h.1 q0 x3.toNatClampNeg)) [.int (h.1 q0 x3.toNatClampNeg)] rfl (gi_S ml_X10_54 sm_X10_isDigit in_X10 kc_X10_isDigit) hd_X10_isDigit rfl ⟨Nat.le_of_ble_eq_true rfl, Nat.le_of_ble_eq_true rfl⟩ rfl (Nat.le_of_ble_eq_true rfl) hl.1 hcs0 hf dX10_endOfRun_44 (fun r3 H locs hf hw => ?_)
  refine x_if_eq (tgt := 70) hM hf dX10_endOfRun_47 (by decide) (fun hf => ?_) (fun hf => ?_)
  · refine lv_iload_n hM.1 hM.2.1 dX10_endOfRun_70 rfl (lv_at hl 2 rfl) ?_
    refine lv_iload_n hM.1 hM.2.1 dX10_endOfRun_71 rfl (lv_at hl 1 rfl) ?_
    refine x_ic_ge (tgt := 78) hM hf dX10_endOfRun_72 (by decide) (fun hf => ?_) (fun hf => ?_)
    · refine lv_iload_n hM.1 hM.2.1 dX10_endOfRun_78 rfl (lv_at hl 2 rfl) ?_
      exact hR _ _ _ _ _ _ _ (congrArg (fun z => (z, _)) (Option.some.inj hf)) rfl rfl hw dX10_endOfRun_79
    refine x_iinc (k := 2) (d := 1) hM hf dX10_endOfRun_75 hl rfl (by decide) (by decide) (fun v4 => [(3, .int v4), (0, .ref (ad q0)), (1, .int x1)]) (fun _ => rfl) (fun v4 ls hf hl => ?_)
    refine lv_iload_n hM.1 hM.2.1 dX10_endOfRun_78 rfl (lv_at hl 0 rfl) ?_
    exact hR _ _ _ _ _ _ _ (congrArg (fun z => (z, _)) (Option.some.inj hf)) rfl rfl hw dX10_endOfRun_79
  refine w_X10_endOfRun_L50 hM ho0 (fun w7 H locs ls hf hw hl => ?_) fu _ hf _ _ _ hw hl
  refine lv_iload_n hM.1 hM.2.1 dX10_endOfRun_78 rfl (lv_at hl 0 rfl) ?_
  exact hR _ _ _ _ _ _ _ (congrArg (fun z => (z, _)) (Option.some.inj hf)) rfl rfl hw dX10_endOfRun_79
def c_X10_endOfRun_L16b {ρ : Type}  (q0 : Nat) (z1 : Int32) (h : PH) (K1 : Int32 → Option ρ) (REC : Int32 → Option ρ) (x3 : Int32) : Option ρ :=
  if z1 ≤ x3 then
    K1 x3
  else
    gd (ixOK x3 2000) <|
    (c_X10_isLetter (h.1 q0 x3.toNatClampNeg)).bind fun r9 =>
    if r9 = 0 then
      K1 x3
    else
      nm (x3 + 1) fun v10 =>
      REC v10
set_option maxHeartbeats 4000000 in
set_option maxRecDepth 100000 in
theorem w_X10_endOfRun_L16b {p0 : Program} {l : Launch} {e : Env} {s : State} {m : MethodId} {args : Array Value} {below : List Frame} {meth : Method} {c : Code} {Q : State → Prop} {D : va_G} {G : GG} {A : Nat → Prop} {H0 : Heap} {ad : Nat → Nat} {lay : List KK} {X : va_W} {ρ : Type} {q0 : Nat} {r0 : ρ} {z1 : Int32} {x3 : Int32} {h : PH} {H : Heap} {locs : List Loc} {ls : Array Slot} {K1 : Int32 → Option ρ} {REC : Int32 → Option ρ} (hM : CallFix p0 m c cX10_endOfRun 4 s args lw_g RX10) (ho0 : lay[q0]? = some (kB 2000)) (hk1 : ∀ (x3 : Int32), ∀ (H : Heap) (locs : List Loc) (ls : Array Slot), K1 x3 = some r0 → Wd D G A H0 ad lay X h s H locs → lv_has ls 4 [(3, .int x3)] → W p0 l e (rmN 1 20) s m args below meth c H locs 0 0 Q (F0 m 78 ls [])) (hrec : ∀ (x3 : Int32), ∀ (H : Heap) (locs : List Loc) (ls : Array Slot), REC x3 = some r0 → Wd D G A H0 ad lay X h s H locs → lv_has ls 4 [(0, .ref (ad q0)), (1, .int z1), (3, .int x3)] → W p0 l e (rmN 1 20) s m args below meth c H locs 0 0 Q (F0 m 16 ls [])) (hw : Wd D G A H0 ad lay X h s H locs) (hl : lv_has ls 4 [(0, .ref (ad q0)), (1, .int z1), (3, .int x3)]) (hf : c_X10_endOfRun_L16b q0 z1 h K1 REC x3 = some r0) : W p0 l e (rmN 1 20) s m args below meth c H locs 0 0 Q (F0 m 16 ls []) := by
  unfold c_X10_endOfRun_L16b at hf
  refine lv_iload_n hM.1 hM.2.1 dX10_endOfRun_16 rfl (lv_at hl 2 rfl) ?_
  refine lv_iload_n hM.1 hM.2.1 dX10_endOfRun_17 rfl (lv_at hl 1 rfl) ?_
  refine x_ic_ge (tgt := 78) hM hf dX10_endOfRun_18 (by decide) (fun hf => ?_) (fun hf => ?_)
  · exact hk1 _ _ _ _ hf hw (lv_sub hl [2] rfl)
  refine lv_aload_n hM.1 hM.2.1 dX10_endOfRun_21 rfl (lv_at hl 0 rfl) ?_
  refine lv_iload_n hM.1 hM.2.1 dX10_endOfRun_22 rfl (lv_at hl 2 rfl) ?_
  refine x_bald hM hw ho0 hf dX10_endOfRun_23 (fun hf => ?_)
  refine x_callSIr (rest := []) hM hw (ct_X10_isLetter l (h.1 q0 x3.toNatClampNeg)) [.int (h.1 q0 x3.toNatClampNeg)] rfl (gi_S ml_X10_50 sm_X10_isLetter in_X10 kc_X10_isLetter) hd_X10_isLetter rfl ⟨Nat.le_of_ble_eq_true rfl, Nat.le_of_ble_eq_true rfl⟩ rfl (Nat.le_of_ble_eq_true rfl) hl.1 hcs0 hf dX10_endOfRun_24 (fun r9 H locs hf hw => ?_)
  refine x_if_eq (tgt := 78) hM hf dX10_endOfRun_27 (by decide) (fun hf => ?_) (fun hf => ?_)
  · exact hk1 _ _ _ _ hf hw (lv_sub hl [2] rfl)
  refine x_iinc (k := 2) (d := 1) hM hf dX10_endOfRun_30 hl rfl (by decide) (by decide) (fun v10 => [(3, .int v10), (0, .ref (ad q0)), (1, .int z1)]) (fun _ => rfl) (fun v10 ls hf hl => ?_)
  refine lv_goto (tgt := 16) hM.1 hM.2.1 dX10_endOfRun_33 (by decide) ?_
  exact hrec _ _ _ _ hf hw (lv_sub hl [1, 2, 0] rfl)
set_option maxHeartbeats 4000000 in
set_option maxRecDepth 100000 in
theorem w_X10_endOfRun_L16 {p0 : Program} {l : Launch} {e : Env} {s : State} {m : MethodId} {args : Array Value} {below : List Frame} {meth : Method} {c : Code} {Q : State → Prop} {D : va_G} {G : GG} {A : Nat → Prop} {H0 : Heap} {ad : Nat → Nat} {lay : List KK} {X : va_W} {ρ : Type} {q0 : Nat} {r0 : ρ} {z1 : Int32} {h : PH} {K1 : Int32 → Option ρ} (hM : CallFix p0 m c cX10_endOfRun 4 s args lw_g RX10) (ho0 : lay[q0]? = some (kB 2000)) (hk1 : ∀ (x3 : Int32), ∀ (H : Heap) (locs : List Loc) (ls : Array Slot), K1 x3 = some r0 → Wd D G A H0 ad lay X h s H locs → lv_has ls 4 [(3, .int x3)] → W p0 l e (rmN 1 20) s m args below meth c H locs 0 0 Q (F0 m 78 ls [])) (n : Nat) (x3 : Int32) (hf : lq1 (c_X10_endOfRun_L16b q0 z1 h K1) n x3 = some r0) : ∀ (H : Heap) (locs : List Loc) (ls : Array Slot), Wd D G A H0 ad lay X h s H locs → lv_has ls 4 [(0, .ref (ad q0)), (1, .int z1), (3, .int x3)] → W p0 l e (rmN 1 20) s m args below meth c H locs 0 0 Q (F0 m 16 ls []) := by
  exact lq1_i (fun (x3 : Int32) => ∀ (H : Heap) (locs : List Loc) (ls : Array Slot), Wd D G A H0 ad lay X h s H locs → lv_has ls 4 [(0, .ref (ad q0)), (1, .int z1), (3, .int x3)] → W p0 l e (rmN 1 20) s m args below meth c H locs 0 0 Q (F0 m 16 ls [])) (fun REC x3 ih hf H locs ls hw hl => w_X10_endOfRun_L16b hM ho0 hk1 (fun x3 H locs ls hf hw hl => ih x3 hf H locs ls hw hl) hw hl hf) n x3 hf
def c_X10_endOfRun (q0 : Nat) (a1 : Int32) (a2 : Int32) (h : PH) : Option (Int32) :=
  nm a2 fun v1 =>
  if a1 ≤ v1 then
    c_X10_endOfRun_j36 q0 a1 v1 h
  else
    gd (ixOK v1 2000) <|
    (c_X10_isLetter (h.1 q0 v1.toNatClampNeg)).bind fun r8 =>
    if r8 = 0 then
      c_X10_endOfRun_j36 q0 a1 v1 h
    else
      lq1 (c_X10_endOfRun_L16b q0 a1 h
        (fun w11 =>
          some w11)) fu v1
set_option maxHeartbeats 4000000 in
set_option maxRecDepth 100000 in
theorem ct_X10_endOfRun (l : Launch) {lay : List KK} {q0 : Nat} (ho0 : lay[q0]? = some (kB 2000)) (a1 : Int32) (a2 : Int32) : CtI l yX10_endOfRun cX10_endOfRun 4 (some .int) 1 20 lay (rd (fun h => c_X10_endOfRun q0 a1 a2 h)) (fun ad => [.ref (ad q0), .int a1, .int a2]) := by
  refine CtI.mk' RX10 (by decide) rfl (fun _ => Nat.le_of_ble_eq_true rfl) ?_
  intro p0 e s m args below meth c D G A H0 ad X h r0 H ls Q hM hw hl hf hR
  have hl : lv_has ls 4 [(0, .ref (ad q0)), (1, .int a1), (2, .int a2)] := hl
  obtain ⟨v0, hv0, hr0⟩ : ∃ v0, c_X10_endOfRun q0 a1 a2 h = some v0 ∧ r0 = (v0, h) := rd_some hf
  subst hr0
  have hf := hv0
  unfold c_X10_endOfRun at hf
  refine lv_iload_n hM.1 hM.2.1 dX10_endOfRun_0 rfl (lv_at hl 2 rfl) ?_
  refine x_istore_n hM hf dX10_endOfRun_1 rfl hl (by decide) (fun v1 => [(3, .int v1), (0, .ref (ad q0)), (1, .int a1), (2, .int a2)]) (fun _ => rfl) (fun v1 ls hf hl => ?_)
  refine lv_iload_n hM.1 hM.2.1 dX10_endOfRun_2 rfl (lv_at hl 0 rfl) ?_
  refine lv_iload_n hM.1 hM.2.1 dX10_endOfRun_3 rfl (lv_at hl 2 rfl) ?_
  refine x_ic_ge (tgt := 36) hM hf dX10_endOfRun_4 (by decide) (fun hf => ?_) (fun hf => ?_)
  · exact w_X10_endOfRun_j36 hM ho0 hR hw (lv_sub hl [1, 2, 0] rfl) hf
  refine lv_aload_n hM.1 hM.2.1 dX10_endOfRun_7 rfl (lv_at hl 1 rfl) ?_
  refine lv_iload_n hM.1 hM.2.1 dX10_endOfRun_8 rfl (lv_at hl 0 rfl) ?_
  refine x_bald hM hw ho0 hf dX10_endOfRun_9 (fun hf => ?_)
  refine x_callSIr (rest := []) hM hw (ct_X10_isLetter l (h.1 q0 v1.toNatClampNeg)) [.int (h.1 q0 v1.toNatClampNeg)] rfl (gi_S ml_X10_50 sm_X10_isLetter in_X10 kc_X10_isLetter) hd_X10_isLetter rfl ⟨Nat.le_of_ble_eq_true rfl, Nat.le_of_ble_eq_true rfl⟩ rfl (Nat.le_of_ble_eq_true rfl) hl.1 hcs0 hf dX10_endOfRun_10 (fun r8 H locs hf hw => ?_)
  refine x_if_eq (tgt := 36) hM hf dX10_endOfRun_13 (by decide) (fun hf => ?_) (fun hf => ?_)
  · exact w_X10_endOfRun_j36 hM ho0 hR hw (lv_sub hl [1, 2, 0] rfl) hf
  refine w_X10_endOfRun_L16 hM ho0 (fun w11 H locs ls hf hw hl => ?_) fu _ hf _ _ _ hw (lv_sub hl [1, 2, 0] rfl)
  refine lv_iload_n hM.1 hM.2.1 dX10_endOfRun_78 rfl (lv_at hl 0 rfl) ?_
  exact hR _ _ _ _ _ _ _ (congrArg (fun z => (z, _)) (Option.some.inj hf)) rfl rfl hw dX10_endOfRun_79
theorem hd_X10_endOfRun : yX10_endOfRun.cls ≠ "java/lang/invoke/MethodHandle" ∧ yX10_endOfRun.cls ≠ "java/lang/invoke/VarHandle" ∧ (parseMethodDescriptor yX10_endOfRun.desc).map (fun d => d.parameters.length) = some 3 := ⟨by decide, by decide, by decide +kernel⟩
theorem dX10_joined_0 : decode cX10_joined 0 = .ok (.lconst 0, 1) := by decide +kernel
theorem dX10_joined_1 : decode cX10_joined 1 = .ok (.lstore 5, 2) := by decide +kernel
theorem dX10_joined_3 : decode cX10_joined 3 = .ok (.iload_n 1, 1) := by decide +kernel
theorem dX10_joined_4 : decode cX10_joined 4 = .ok (.istore 7, 2) := by decide +kernel
theorem dX10_joined_6 : decode cX10_joined 6 = .ok (.iload 7, 2) := by decide +kernel
theorem dX10_joined_8 : decode cX10_joined 8 = .ok (.iload_n 2, 1) := by decide +kernel
theorem dX10_joined_9 : decode cX10_joined 9 = .ok (.if_icmp .ge 25, 3) := by decide +kernel
theorem dX10_joined_12 : decode cX10_joined 12 = .ok (.lload 5, 2) := by decide +kernel
theorem dX10_joined_14 : decode cX10_joined 14 = .ok (.iload_n 3, 1) := by decide +kernel
theorem dX10_joined_15 : decode cX10_joined 15 = .ok (.i2l, 1) := by decide +kernel
theorem dX10_joined_16 : decode cX10_joined 16 = .ok (.lmul, 1) := by decide +kernel
theorem dX10_joined_17 : decode cX10_joined 17 = .ok (.aload_n 0, 1) := by decide +kernel
theorem dX10_joined_18 : decode cX10_joined 18 = .ok (.iload 7, 2) := by decide +kernel
theorem dX10_joined_20 : decode cX10_joined 20 = .ok (.baload, 1) := by decide +kernel
theorem dX10_joined_21 : decode cX10_joined 21 = .ok (.iload 4, 2) := by decide +kernel
theorem dX10_joined_23 : decode cX10_joined 23 = .ok (.isub, 1) := by decide +kernel
theorem dX10_joined_24 : decode cX10_joined 24 = .ok (.i2l, 1) := by decide +kernel
theorem dX10_joined_25 : decode cX10_joined 25 = .ok (.ladd, 1) := by decide +kernel
theorem dX10_joined_26 : decode cX10_joined 26 = .ok (.lstore 5, 2) := by decide +kernel
theorem dX10_joined_28 : decode cX10_joined 28 = .ok (.iinc 7 1, 3) := by decide +kernel
theorem dX10_joined_31 : decode cX10_joined 31 = .ok (.goto (-25), 3) := by decide +kernel
theorem dX10_joined_34 : decode cX10_joined 34 = .ok (.lload 5, 2) := by decide +kernel
theorem dX10_joined_36 : decode cX10_joined 36 = .ok (.lreturn, 1) := by decide +kernel
def c_X10_joined_L6b {ρ : Type}  (q0 : Nat) (z2 : Int32) (z3 : Int32) (z4 : Int32) (h : PH) (K1 : Int64 → Option ρ) (REC : Int64 → Int32 → Option ρ) (x5 : Int64) (x7 : Int32) : Option ρ :=
  if z2 ≤ x7 then
    K1 x5
  else
    gd (ixOK x7 2000) <|
    nm ((x5 * z3.toInt64) + (((h.1 q0 x7.toNatClampNeg) - z4).toInt64)) fun v3 =>
    nm (x7 + 1) fun v4 =>
    REC v3 v4
set_option maxHeartbeats 4000000 in
set_option maxRecDepth 100000 in
theorem w_X10_joined_L6b {p0 : Program} {l : Launch} {e : Env} {s : State} {m : MethodId} {args : Array Value} {below : List Frame} {meth : Method} {c : Code} {Q : State → Prop} {D : va_G} {G : GG} {A : Nat → Prop} {H0 : Heap} {ad : Nat → Nat} {lay : List KK} {X : va_W} {ρ : Type} {q0 : Nat} {r0 : ρ} {z2 : Int32} {z3 : Int32} {z4 : Int32} {x5 : Int64} {x7 : Int32} {h : PH} {H : Heap} {locs : List Loc} {ls : Array Slot} {K1 : Int64 → Option ρ} {REC : Int64 → Int32 → Option ρ} (hM : CallFix p0 m c cX10_joined 8 s args lw_g RX10) (ho0 : lay[q0]? = some (kB 2000)) (hk1 : ∀ (x5 : Int64), ∀ (H : Heap) (locs : List Loc) (ls : Array Slot), K1 x5 = some r0 → Wd D G A H0 ad lay X h s H locs → lv_has ls 8 [(5, .long x5)] → W p0 l e (rmN 0 0) s m args below meth c H locs 0 0 Q (F0 m 34 ls [])) (hrec : ∀ (x5 : Int64) (x7 : Int32), ∀ (H : Heap) (locs : List Loc) (ls : Array Slot), REC x5 x7 = some r0 → Wd D G A H0 ad lay X h s H locs → lv_has ls 8 [(0, .ref (ad q0)), (2, .int z2), (3, .int z3), (4, .int z4), (5, .long x5), (7, .int x7)] → W p0 l e (rmN 0 0) s m args below meth c H locs 0 0 Q (F0 m 6 ls [])) (hw : Wd D G A H0 ad lay X h s H locs) (hl : lv_has ls 8 [(0, .ref (ad q0)), (2, .int z2), (3, .int z3), (4, .int z4), (5, .long x5), (7, .int x7)]) (hf : c_X10_joined_L6b q0 z2 z3 z4 h K1 REC x5 x7 = some r0) : W p0 l e (rmN 0 0) s m args below meth c H locs 0 0 Q (F0 m 6 ls []) := by
  unfold c_X10_joined_L6b at hf
  refine lv_iload hM.1 hM.2.1 dX10_joined_6 (lv_at hl 5 rfl) ?_
  refine lv_iload_n hM.1 hM.2.1 dX10_joined_8 rfl (lv_at hl 1 rfl) ?_
  refine x_ic_ge (tgt := 34) hM hf dX10_joined_9 (by decide) (fun hf => ?_) (fun hf => ?_)
  · exact hk1 _ _ _ _ hf hw (lv_sub hl [4] rfl)
  refine lv_lload hM.1 hM.2.1 dX10_joined_12 (lv_at hl 4 rfl) ?_
  refine lv_iload_n hM.1 hM.2.1 dX10_joined_14 rfl (lv_at hl 2 rfl) ?_
  refine lv_i2l hM.1 hM.2.1 dX10_joined_15 rfl ?_
  refine lv_lmul hM.1 hM.2.1 dX10_joined_16 ?_
  refine lv_aload_n hM.1 hM.2.1 dX10_joined_17 rfl (lv_at hl 0 rfl) ?_
  refine lv_iload hM.1 hM.2.1 dX10_joined_18 (lv_at hl 5 rfl) ?_
  refine x_bald hM hw ho0 hf dX10_joined_20 (fun hf => ?_)
  refine lv_iload hM.1 hM.2.1 dX10_joined_21 (lv_at hl 3 rfl) ?_
  refine lv_isub hM.1 hM.2.1 dX10_joined_23 ?_
  refine lv_i2l hM.1 hM.2.1 dX10_joined_24 rfl ?_
  refine lv_ladd hM.1 hM.2.1 dX10_joined_25 ?_
  refine x_lstore hM hf dX10_joined_26 hl (by decide) (fun v3 => [(5, .long v3), (0, .ref (ad q0)), (2, .int z2), (3, .int z3), (4, .int z4), (7, .int x7)]) (fun _ => rfl) (fun v3 ls hf hl => ?_)
  refine x_iinc (k := 5) (d := 1) hM hf dX10_joined_28 hl rfl (by decide) (by decide) (fun v4 => [(7, .int v4), (5, .long v3), (0, .ref (ad q0)), (2, .int z2), (3, .int z3), (4, .int z4)]) (fun _ => rfl) (fun v4 ls hf hl => ?_)
  refine lv_goto (tgt := 6) hM.1 hM.2.1 dX10_joined_31 (by decide) ?_
  exact hrec _ _ _ _ _ hf hw (lv_sub hl [2, 3, 4, 5, 1, 0] rfl)
set_option maxHeartbeats 4000000 in
set_option maxRecDepth 100000 in
theorem w_X10_joined_L6 {p0 : Program} {l : Launch} {e : Env} {s : State} {m : MethodId} {args : Array Value} {below : List Frame} {meth : Method} {c : Code} {Q : State → Prop} {D : va_G} {G : GG} {A : Nat → Prop} {H0 : Heap} {ad : Nat → Nat} {lay : List KK} {X : va_W} {ρ : Type} {q0 : Nat} {r0 : ρ} {z2 : Int32} {z3 : Int32} {z4 : Int32} {h : PH} {K1 : Int64 → Option ρ} (hM : CallFix p0 m c cX10_joined 8 s args lw_g RX10) (ho0 : lay[q0]? = some (kB 2000)) (hk1 : ∀ (x5 : Int64), ∀ (H : Heap) (locs : List Loc) (ls : Array Slot), K1 x5 = some r0 → Wd D G A H0 ad lay X h s H locs → lv_has ls 8 [(5, .long x5)] → W p0 l e (rmN 0 0) s m args below meth c H locs 0 0 Q (F0 m 34 ls [])) (n : Nat) (x5 : Int64) (x7 : Int32) (hf : lq2 (c_X10_joined_L6b q0 z2 z3 z4 h K1) n x5 x7 = some r0) : ∀ (H : Heap) (locs : List Loc) (ls : Array Slot), Wd D G A H0 ad lay X h s H locs → lv_has ls 8 [(0, .ref (ad q0)), (2, .int z2), (3, .int z3), (4, .int z4), (5, .long x5), (7, .int x7)] → W p0 l e (rmN 0 0) s m args below meth c H locs 0 0 Q (F0 m 6 ls []) := by
  exact lq2_i (fun (x5 : Int64) (x7 : Int32) => ∀ (H : Heap) (locs : List Loc) (ls : Array Slot), Wd D G A H0 ad lay X h s H locs → lv_has ls 8 [(0, .ref (ad q0)), (2, .int z2), (3, .int z3), (4, .int z4), (5, .long x5), (7, .int x7)] → W p0 l e (rmN 0 0) s m args below meth c H locs 0 0 Q (F0 m 6 ls [])) (fun REC x5 x7 ih hf H locs ls hw hl => w_X10_joined_L6b hM ho0 hk1 (fun x5 x7 H locs ls hf hw hl => ih x5 x7 hf H locs ls hw hl) hw hl hf) n x5 x7 hf
def c_X10_joined (q0 : Nat) (a1 : Int32) (a2 : Int32) (a3 : Int32) (a4 : Int32) (h : PH) : Option (Int64) :=
  nm (0 : Int64) fun v1 =>
  nm a1 fun v2 =>
  lq2 (c_X10_joined_L6b q0 a2 a3 a4 h
    (fun w5 =>
      some w5)) fu v1 v2
set_option maxHeartbeats 4000000 in
set_option maxRecDepth 100000 in
theorem ct_X10_joined (l : Launch) {lay : List KK} {q0 : Nat} (ho0 : lay[q0]? = some (kB 2000)) (a1 : Int32) (a2 : Int32) (a3 : Int32) (a4 : Int32) : CtL l yX10_joined cX10_joined 8 (some .long) 0 0 lay (rd (fun h => c_X10_joined q0 a1 a2 a3 a4 h)) (fun ad => [.ref (ad q0), .int a1, .int a2, .int a3, .int a4]) := by
  refine CtL.mk' RX10 (by decide) rfl rfl (fun _ => Nat.le_of_ble_eq_true rfl) ?_
  intro p0 e s m args below meth c D G A H0 ad X h r0 H ls Q hM hw hl hf hR
  have hl : lv_has ls 8 [(0, .ref (ad q0)), (1, .int a1), (2, .int a2), (3, .int a3), (4, .int a4)] := hl
  obtain ⟨v0, hv0, hr0⟩ : ∃ v0, c_X10_joined q0 a1 a2 a3 a4 h = some v0 ∧ r0 = (v0, h) := rd_some hf
  subst hr0
  have hf := hv0
  unfold c_X10_joined at hf
  refine lv_lconst (v := 0) hM.1 hM.2.1 dX10_joined_0 (by decide) ?_
  refine x_lstore hM hf dX10_joined_1 hl (by decide) (fun v1 => [(5, .long v1), (0, .ref (ad q0)), (1, .int a1), (2, .int a2), (3, .int a3), (4, .int a4)]) (fun _ => rfl) (fun v1 ls hf hl => ?_)
  refine lv_iload_n hM.1 hM.2.1 dX10_joined_3 rfl (lv_at hl 2 rfl) ?_
  refine x_istore hM hf dX10_joined_4 hl (by decide) (fun v2 => [(7, .int v2), (5, .long v1), (0, .ref (ad q0)), (1, .int a1), (2, .int a2), (3, .int a3), (4, .int a4)]) (fun _ => rfl) (fun v2 ls hf hl => ?_)
  refine w_X10_joined_L6 hM ho0 (fun w5 H locs ls hf hw hl => ?_) fu _ _ hf _ _ _ hw (lv_sub hl [2, 4, 5, 6, 1, 0] rfl)
  refine lv_lload hM.1 hM.2.1 dX10_joined_34 (lv_at hl 0 rfl) ?_
  exact hR _ _ _ _ _ _ _ (congrArg (fun z => (z, _)) (Option.some.inj hf)) rfl rfl hw dX10_joined_36
theorem hd_X10_joined : yX10_joined.cls ≠ "java/lang/invoke/MethodHandle" ∧ yX10_joined.cls ≠ "java/lang/invoke/VarHandle" ∧ (parseMethodDescriptor yX10_joined.desc).map (fun d => d.parameters.length) = some 5 := ⟨by decide, by decide, by decide +kernel⟩
theorem dX10_kindOf_0 : decode cX10_kindOf 0 = .ok (.iconst 0, 1) := by decide +kernel
theorem dX10_kindOf_1 : decode cX10_kindOf 1 = .ok (.istore_n 3, 1) := by decide +kernel
theorem dX10_kindOf_2 : decode cX10_kindOf 2 = .ok (.iload_n 3, 1) := by decide +kernel
theorem dX10_kindOf_3 : decode cX10_kindOf 3 = .ok (.bipush 23, 2) := by decide +kernel
theorem dX10_kindOf_5 : decode cX10_kindOf 5 = .ok (.if_icmp .ge 25, 3) := by decide +kernel
theorem dX10_kindOf_8 : decode cX10_kindOf 8 = .ok (.aload_n 0, 1) := by decide +kernel
theorem dX10_kindOf_9 : decode cX10_kindOf 9 = .ok (.getfield 22, 3) := by decide +kernel
theorem dX10_kindOf_12 : decode cX10_kindOf 12 = .ok (.iload_n 3, 1) := by decide +kernel
theorem dX10_kindOf_13 : decode cX10_kindOf 13 = .ok (.laload, 1) := by decide +kernel
theorem dX10_kindOf_14 : decode cX10_kindOf 14 = .ok (.lload_n 1, 1) := by decide +kernel
theorem dX10_kindOf_15 : decode cX10_kindOf 15 = .ok (.lcmp, 1) := by decide +kernel
theorem dX10_kindOf_16 : decode cX10_kindOf 16 = .ok (.ifCond .ne 8, 3) := by decide +kernel
theorem dX10_kindOf_19 : decode cX10_kindOf 19 = .ok (.bipush 64, 2) := by decide +kernel
theorem dX10_kindOf_21 : decode cX10_kindOf 21 = .ok (.iload_n 3, 1) := by decide +kernel
theorem dX10_kindOf_22 : decode cX10_kindOf 22 = .ok (.iadd, 1) := by decide +kernel
theorem dX10_kindOf_23 : decode cX10_kindOf 23 = .ok (.ireturn, 1) := by decide +kernel
theorem dX10_kindOf_24 : decode cX10_kindOf 24 = .ok (.iinc 3 1, 3) := by decide +kernel
theorem dX10_kindOf_27 : decode cX10_kindOf 27 = .ok (.goto (-25), 3) := by decide +kernel
theorem dX10_kindOf_30 : decode cX10_kindOf 30 = .ok (.iconst 2, 1) := by decide +kernel
theorem dX10_kindOf_31 : decode cX10_kindOf 31 = .ok (.ireturn, 1) := by decide +kernel
def c_X10_kindOf_L2b {ρ : Type}  (p : Nat) (z1 : Int64) (h : PH) (K1 : Int32 → Option ρ) (K2 : Option ρ) (REC : Int32 → Option ρ) (x3 : Int32) : Option ρ :=
  if 23 ≤ x3 then
    K2
  else
    gd (ixOK x3 23) <|
    if (lg_cmp (h.2.1 (p + 4) x3.toNatClampNeg) z1) = 0 then
      K1 x3
    else
      nm (x3 + 1) fun v2 =>
      REC v2
set_option maxHeartbeats 4000000 in
set_option maxRecDepth 100000 in
theorem w_X10_kindOf_L2b {p0 : Program} {l : Launch} {e : Env} {s : State} {m : MethodId} {args : Array Value} {below : List Frame} {meth : Method} {c : Code} {Q : State → Prop} {D : va_G} {G : GG} {A : Nat → Prop} {H0 : Heap} {ad : Nat → Nat} {lay : List KK} {X : va_W} {ρ : Type} {p : Nat} {r0 : ρ} {z1 : Int64} {x3 : Int32} {h : PH} {H : Heap} {locs : List Loc} {ls : Array Slot} {K1 : Int32 → Option ρ} {K2 : Option ρ} {REC : Int32 → Option ρ} (hM : CallFix p0 m c cX10_kindOf 4 s args lw_g RX10) (ho : okX10 lay p) (hk1 : ∀ (x3 : Int32), ∀ (H : Heap) (locs : List Loc) (ls : Array Slot), K1 x3 = some r0 → Wd D G A H0 ad lay X h s H locs → lv_has ls 4 [(3, .int x3)] → W p0 l e (rmN 0 0) s m args below meth c H locs 0 0 Q (F0 m 19 ls [])) (hk2 : ∀ (H : Heap) (locs : List Loc) (ls : Array Slot), K2 = some r0 → Wd D G A H0 ad lay X h s H locs → lv_has ls 4 [] → W p0 l e (rmN 0 0) s m args below meth c H locs 0 0 Q (F0 m 30 ls [])) (hrec : ∀ (x3 : Int32), ∀ (H : Heap) (locs : List Loc) (ls : Array Slot), REC x3 = some r0 → Wd D G A H0 ad lay X h s H locs → lv_has ls 4 [(0, .ref (ad p)), (1, .long z1), (3, .int x3)] → W p0 l e (rmN 0 0) s m args below meth c H locs 0 0 Q (F0 m 2 ls [])) (hw : Wd D G A H0 ad lay X h s H locs) (hl : lv_has ls 4 [(0, .ref (ad p)), (1, .long z1), (3, .int x3)]) (hf : c_X10_kindOf_L2b p z1 h K1 K2 REC x3 = some r0) : W p0 l e (rmN 0 0) s m args below meth c H locs 0 0 Q (F0 m 2 ls []) := by
  unfold c_X10_kindOf_L2b at hf
  refine lv_iload_n hM.1 hM.2.1 dX10_kindOf_2 rfl (lv_at hl 2 rfl) ?_
  refine lv_bipush (v := 23) hM.1 hM.2.1 dX10_kindOf_3 (by decide) ?_
  refine x_ic_ge (tgt := 30) hM hf dX10_kindOf_5 (by decide) (fun hf => ?_) (fun hf => ?_)
  · exact hk2 _ _ _ hf hw (lv_sub hl [] rfl)
  refine lv_aload_n hM.1 hM.2.1 dX10_kindOf_8 rfl (lv_at hl 0 rfl) ?_
  refine gf_X10_words hM hw (okX10.o ho) fl_X10_22 dX10_kindOf_9 ?_
  refine lv_iload_n hM.1 hM.2.1 dX10_kindOf_12 rfl (lv_at hl 2 rfl) ?_
  refine x_lald hM hw (okX10.words ho) hf dX10_kindOf_13 (fun hf => ?_)
  refine lv_lload_n hM.1 hM.2.1 dX10_kindOf_14 rfl (lv_at hl 1 rfl) ?_
  refine W.lcmp hM.1 hM.2.1 dX10_kindOf_15 ?_
  refine x_if_ne (tgt := 24) hM hf dX10_kindOf_16 (by decide) (fun hf => ?_) (fun hf => ?_)
  · refine x_iinc (k := 2) (d := 1) hM hf dX10_kindOf_24 hl rfl (by decide) (by decide) (fun v2 => [(3, .int v2), (0, .ref (ad p)), (1, .long z1)]) (fun _ => rfl) (fun v2 ls hf hl => ?_)
    refine lv_goto (tgt := 2) hM.1 hM.2.1 dX10_kindOf_27 (by decide) ?_
    exact hrec _ _ _ _ hf hw (lv_sub hl [1, 2, 0] rfl)
  exact hk1 _ _ _ _ hf hw (lv_sub hl [2] rfl)
set_option maxHeartbeats 4000000 in
set_option maxRecDepth 100000 in
theorem w_X10_kindOf_L2 {p0 : Program} {l : Launch} {e : Env} {s : State} {m : MethodId} {args : Array Value} {below : List Frame} {meth : Method} {c : Code} {Q : State → Prop} {D : va_G} {G : GG} {A : Nat → Prop} {H0 : Heap} {ad : Nat → Nat} {lay : List KK} {X : va_W} {ρ : Type} {p : Nat} {r0 : ρ} {z1 : Int64} {h : PH} {K1 : Int32 → Option ρ} {K2 : Option ρ} (hM : CallFix p0 m c cX10_kindOf 4 s args lw_g RX10) (ho : okX10 lay p) (hk1 : ∀ (x3 : Int32), ∀ (H : Heap) (locs : List Loc) (ls : Array Slot), K1 x3 = some r0 → Wd D G A H0 ad lay X h s H locs → lv_has ls 4 [(3, .int x3)] → W p0 l e (rmN 0 0) s m args below meth c H locs 0 0 Q (F0 m 19 ls [])) (hk2 : ∀ (H : Heap) (locs : List Loc) (ls : Array Slot), K2 = some r0 → Wd D G A H0 ad lay X h s H locs → lv_has ls 4 [] → W p0 l e (rmN 0 0) s m args below meth c H locs 0 0 Q (F0 m 30 ls [])) (n : Nat) (x3 : Int32) (hf : lq1 (c_X10_kindOf_L2b p z1 h K1 K2) n x3 = some r0) : ∀ (H : Heap) (locs : List Loc) (ls : Array Slot), Wd D G A H0 ad lay X h s H locs → lv_has ls 4 [(0, .ref (ad p)), (1, .long z1), (3, .int x3)] → W p0 l e (rmN 0 0) s m args below meth c H locs 0 0 Q (F0 m 2 ls []) := by
  exact lq1_i (fun (x3 : Int32) => ∀ (H : Heap) (locs : List Loc) (ls : Array Slot), Wd D G A H0 ad lay X h s H locs → lv_has ls 4 [(0, .ref (ad p)), (1, .long z1), (3, .int x3)] → W p0 l e (rmN 0 0) s m args below meth c H locs 0 0 Q (F0 m 2 ls [])) (fun REC x3 ih hf H locs ls hw hl => w_X10_kindOf_L2b hM ho hk1 hk2 (fun x3 H locs ls hf hw hl => ih x3 hf H locs ls hw hl) hw hl hf) n x3 hf
def c_X10_kindOf (p : Nat) (a1 : Int64) (h : PH) : Option (Int32) :=
  nm (0 : Int32) fun v1 =>
  lq1 (c_X10_kindOf_L2b p a1 h
    (fun w3 =>
      some (64 + w3))
    (some 2)) fu v1
set_option maxHeartbeats 4000000 in
set_option maxRecDepth 100000 in
theorem ct_X10_kindOf (l : Launch) {lay : List KK} {p : Nat} (ho : okX10 lay p) (a1 : Int64) : CtI l yX10_kindOf cX10_kindOf 4 (some .int) 0 0 lay (rd (fun h => c_X10_kindOf p a1 h)) (fun ad => [.ref (ad p), .long a1]) := by
  refine CtI.mk' RX10 (by decide) rfl (fun _ => Nat.le_of_ble_eq_true rfl) ?_
  intro p0 e s m args below meth c D G A H0 ad X h r0 H ls Q hM hw hl hf hR
  have hl : lv_has ls 4 [(0, .ref (ad p)), (1, .long a1)] := hl
  obtain ⟨v0, hv0, hr0⟩ : ∃ v0, c_X10_kindOf p a1 h = some v0 ∧ r0 = (v0, h) := rd_some hf
  subst hr0
  have hf := hv0
  unfold c_X10_kindOf at hf
  refine lv_iconst (v := 0) hM.1 hM.2.1 dX10_kindOf_0 ic_0 ?_
  refine x_istore_n hM hf dX10_kindOf_1 rfl hl (by decide) (fun v1 => [(3, .int v1), (0, .ref (ad p)), (1, .long a1)]) (fun _ => rfl) (fun v1 ls hf hl => ?_)
  refine w_X10_kindOf_L2 hM ho (fun w3 H locs ls hf hw hl => ?_) (fun H locs ls hf hw hl => ?_) fu _ hf _ _ _ hw (lv_sub hl [1, 2, 0] rfl)
  · refine lv_bipush (v := 64) hM.1 hM.2.1 dX10_kindOf_19 (by decide) ?_
    refine lv_iload_n hM.1 hM.2.1 dX10_kindOf_21 rfl (lv_at hl 0 rfl) ?_
    refine lv_iadd hM.1 hM.2.1 dX10_kindOf_22 ?_
    exact hR _ _ _ _ _ _ _ (congrArg (fun z => (z, _)) (Option.some.inj hf)) rfl rfl hw dX10_kindOf_23
  · refine lv_iconst (v := 2) hM.1 hM.2.1 dX10_kindOf_30 ic_2 ?_
    exact hR _ _ _ _ _ _ _ (congrArg (fun z => (z, _)) (Option.some.inj hf)) rfl rfl hw dX10_kindOf_31
theorem hd_X10_kindOf : yX10_kindOf.cls = RX10 ∧ yX10_kindOf.cls ≠ "java/lang/invoke/MethodHandle" ∧ yX10_kindOf.cls ≠ "java/lang/invoke/VarHandle" ∧ (parseMethodDescriptor yX10_kindOf.desc).map (fun d => d.parameters.length) = some 1 := ⟨rfl, by decide, by decide, by decide +kernel⟩
theorem dX10_isSign_0 : decode cX10_isSign 0 = .ok (.iload_n 0, 1) := by decide +kernel
theorem dX10_isSign_1 : decode cX10_isSign 1 = .ok (.tableswitch 105 40 61 #[103, 103, 103, 103, 105, 103, 105, 103, 105, 105, 105, 105, 105, 105, 105, 105, 105, 105, 105, 103, 103, 103], 103) := by decide +kernel
theorem dX10_isSign_104 : decode cX10_isSign 104 = .ok (.iconst 1, 1) := by decide +kernel
theorem dX10_isSign_105 : decode cX10_isSign 105 = .ok (.ireturn, 1) := by decide +kernel
theorem dX10_isSign_106 : decode cX10_isSign 106 = .ok (.iconst 0, 1) := by decide +kernel
theorem dX10_isSign_107 : decode cX10_isSign 107 = .ok (.ireturn, 1) := by decide +kernel
def c_X10_isSign_j104  : Option (Int32) :=
  some 1
set_option maxHeartbeats 4000000 in
set_option maxRecDepth 100000 in
theorem w_X10_isSign_j104 {p0 : Program} {l : Launch} {e : Env} {s : State} {m : MethodId} {args : Array Value} {below : List Frame} {meth : Method} {c : Code} {Q : State → Prop} {D : va_G} {G : GG} {A : Nat → Prop} {H0 : Heap} {ad : Nat → Nat} {lay : List KK} {X : va_W} {r0 : Int32} {h : PH} {H : Heap} {locs : List Loc} {ls : Array Slot} (hM : CallFix p0 m c cX10_isSign 1 s args lw_g RX10) (hR : RtI p0 l e (rmN 0 0) s m args below meth c cX10_isSign D G A H0 ad lay X (some .boolean) (r0, h) Q 0 0) (hw : Wd D G A H0 ad lay X h s H locs) (hl : lv_has ls 1 []) (hf : c_X10_isSign_j104 = some r0) : W p0 l e (rmN 0 0) s m args below meth c H locs 0 0 Q (F0 m 104 ls []) := by
  unfold c_X10_isSign_j104 at hf
  refine lv_iconst (v := 1) hM.1 hM.2.1 dX10_isSign_104 ic_1 ?_
  exact hR _ _ _ _ _ _ _ (congrArg (fun z => (z, _)) (Option.some.inj hf)) rfl (nar_z (by decide)) hw dX10_isSign_105
def c_X10_isSign_j106  : Option (Int32) :=
  some 0
set_option maxHeartbeats 4000000 in
set_option maxRecDepth 100000 in
theorem w_X10_isSign_j106 {p0 : Program} {l : Launch} {e : Env} {s : State} {m : MethodId} {args : Array Value} {below : List Frame} {meth : Method} {c : Code} {Q : State → Prop} {D : va_G} {G : GG} {A : Nat → Prop} {H0 : Heap} {ad : Nat → Nat} {lay : List KK} {X : va_W} {r0 : Int32} {h : PH} {H : Heap} {locs : List Loc} {ls : Array Slot} (hM : CallFix p0 m c cX10_isSign 1 s args lw_g RX10) (hR : RtI p0 l e (rmN 0 0) s m args below meth c cX10_isSign D G A H0 ad lay X (some .boolean) (r0, h) Q 0 0) (hw : Wd D G A H0 ad lay X h s H locs) (hl : lv_has ls 1 []) (hf : c_X10_isSign_j106 = some r0) : W p0 l e (rmN 0 0) s m args below meth c H locs 0 0 Q (F0 m 106 ls []) := by
  unfold c_X10_isSign_j106 at hf
  refine lv_iconst (v := 0) hM.1 hM.2.1 dX10_isSign_106 ic_0 ?_
  exact hR _ _ _ _ _ _ _ (congrArg (fun z => (z, _)) (Option.some.inj hf)) rfl (nar_z (by decide)) hw dX10_isSign_107
def c_X10_isSign (a0 : Int32) : Option (Int32) :=
  if a0 = 40 then
    c_X10_isSign_j104
  else
  if a0 = 41 then
    c_X10_isSign_j104
  else
  if a0 = 42 then
    c_X10_isSign_j104
  else
  if a0 = 43 then
    c_X10_isSign_j104
  else
  if a0 = 44 then
    c_X10_isSign_j106
  else
  if a0 = 45 then
    c_X10_isSign_j104
  else
  if a0 = 46 then
    c_X10_isSign_j106
  else
  if a0 = 47 then
    c_X10_isSign_j104
  else
  if a0 = 48 then
    c_X10_isSign_j106
  else
  if a0 = 49 then
    c_X10_isSign_j106
  else
  if a0 = 50 then
    c_X10_isSign_j106
  else
  if a0 = 51 then
    c_X10_isSign_j106
  else
  if a0 = 52 then
    c_X10_isSign_j106
  else
  if a0 = 53 then
    c_X10_isSign_j106
  else
  if a0 = 54 then
    c_X10_isSign_j106
  else
  if a0 = 55 then
    c_X10_isSign_j106
  else
  if a0 = 56 then
    c_X10_isSign_j106
  else
  if a0 = 57 then
    c_X10_isSign_j106
  else
  if a0 = 58 then
    c_X10_isSign_j106
  else
  if a0 = 59 then
    c_X10_isSign_j104
  else
  if a0 = 60 then
    c_X10_isSign_j104
  else
  if a0 = 61 then
    c_X10_isSign_j104
  else
    c_X10_isSign_j106
set_option maxHeartbeats 4000000 in
set_option maxRecDepth 100000 in
theorem ct_X10_isSign (l : Launch) {lay : List KK} (a0 : Int32) : CtI l yX10_isSign cX10_isSign 1 (some .boolean) 0 0 lay (rd (fun _ => c_X10_isSign a0)) (fun _ => [.int a0]) := by
  refine CtI.mk' RX10 (by decide) rfl (fun _ => Nat.le_of_ble_eq_true rfl) ?_
  intro p0 e s m args below meth c D G A H0 ad X h r0 H ls Q hM hw hl hf hR
  have hl : lv_has ls 1 [(0, .int a0)] := hl
  obtain ⟨v0, hv0, hr0⟩ : ∃ v0, c_X10_isSign a0 = some v0 ∧ r0 = (v0, h) := rd_some hf
  subst hr0
  have hf := hv0
  unfold c_X10_isSign at hf
  refine lv_iload_n hM.1 hM.2.1 dX10_isSign_0 rfl (lv_at hl 0 rfl) ?_
  refine x_sw hf (fun hx hf => ?_) (fun n40 hf => ?_)
  · refine x_tabIn (tgt := 104) hM hx dX10_isSign_1 (by decide) (by decide) rfl (by decide) ?_
    exact w_X10_isSign_j104 hM hR hw (lv_sub hl [] rfl) hf
  refine x_sw hf (fun hx hf => ?_) (fun n41 hf => ?_)
  · refine x_tabIn (tgt := 104) hM hx dX10_isSign_1 (by decide) (by decide) rfl (by decide) ?_
    exact w_X10_isSign_j104 hM hR hw (lv_sub hl [] rfl) hf
  refine x_sw hf (fun hx hf => ?_) (fun n42 hf => ?_)
  · refine x_tabIn (tgt := 104) hM hx dX10_isSign_1 (by decide) (by decide) rfl (by decide) ?_
    exact w_X10_isSign_j104 hM hR hw (lv_sub hl [] rfl) hf
  refine x_sw hf (fun hx hf => ?_) (fun n43 hf => ?_)
  · refine x_tabIn (tgt := 104) hM hx dX10_isSign_1 (by decide) (by decide) rfl (by decide) ?_
    exact w_X10_isSign_j104 hM hR hw (lv_sub hl [] rfl) hf
  refine x_sw hf (fun hx hf => ?_) (fun n44 hf => ?_)
  · refine x_tabIn (tgt := 106) hM hx dX10_isSign_1 (by decide) (by decide) rfl (by decide) ?_
    exact w_X10_isSign_j106 hM hR hw (lv_sub hl [] rfl) hf
  refine x_sw hf (fun hx hf => ?_) (fun n45 hf => ?_)
  · refine x_tabIn (tgt := 104) hM hx dX10_isSign_1 (by decide) (by decide) rfl (by decide) ?_
    exact w_X10_isSign_j104 hM hR hw (lv_sub hl [] rfl) hf
  refine x_sw hf (fun hx hf => ?_) (fun n46 hf => ?_)
  · refine x_tabIn (tgt := 106) hM hx dX10_isSign_1 (by decide) (by decide) rfl (by decide) ?_
    exact w_X10_isSign_j106 hM hR hw (lv_sub hl [] rfl) hf
  refine x_sw hf (fun hx hf => ?_) (fun n47 hf => ?_)
  · refine x_tabIn (tgt := 104) hM hx dX10_isSign_1 (by decide) (by decide) rfl (by decide) ?_
    exact w_X10_isSign_j104 hM hR hw (lv_sub hl [] rfl) hf
  refine x_sw hf (fun hx hf => ?_) (fun n48 hf => ?_)
  · refine x_tabIn (tgt := 106) hM hx dX10_isSign_1 (by decide) (by decide) rfl (by decide) ?_
    exact w_X10_isSign_j106 hM hR hw (lv_sub hl [] rfl) hf
  refine x_sw hf (fun hx hf => ?_) (fun n49 hf => ?_)
  · refine x_tabIn (tgt := 106) hM hx dX10_isSign_1 (by decide) (by decide) rfl (by decide) ?_
    exact w_X10_isSign_j106 hM hR hw (lv_sub hl [] rfl) hf
  refine x_sw hf (fun hx hf => ?_) (fun n50 hf => ?_)
  · refine x_tabIn (tgt := 106) hM hx dX10_isSign_1 (by decide) (by decide) rfl (by decide) ?_
    exact w_X10_isSign_j106 hM hR hw (lv_sub hl [] rfl) hf
  refine x_sw hf (fun hx hf => ?_) (fun n51 hf => ?_)
  · refine x_tabIn (tgt := 106) hM hx dX10_isSign_1 (by decide) (by decide) rfl (by decide) ?_
    exact w_X10_isSign_j106 hM hR hw (lv_sub hl [] rfl) hf
  refine x_sw hf (fun hx hf => ?_) (fun n52 hf => ?_)
  · refine x_tabIn (tgt := 106) hM hx dX10_isSign_1 (by decide) (by decide) rfl (by decide) ?_
    exact w_X10_isSign_j106 hM hR hw (lv_sub hl [] rfl) hf
  refine x_sw hf (fun hx hf => ?_) (fun n53 hf => ?_)
  · refine x_tabIn (tgt := 106) hM hx dX10_isSign_1 (by decide) (by decide) rfl (by decide) ?_
    exact w_X10_isSign_j106 hM hR hw (lv_sub hl [] rfl) hf
  refine x_sw hf (fun hx hf => ?_) (fun n54 hf => ?_)
  · refine x_tabIn (tgt := 106) hM hx dX10_isSign_1 (by decide) (by decide) rfl (by decide) ?_
    exact w_X10_isSign_j106 hM hR hw (lv_sub hl [] rfl) hf
  refine x_sw hf (fun hx hf => ?_) (fun n55 hf => ?_)
  · refine x_tabIn (tgt := 106) hM hx dX10_isSign_1 (by decide) (by decide) rfl (by decide) ?_
    exact w_X10_isSign_j106 hM hR hw (lv_sub hl [] rfl) hf
  refine x_sw hf (fun hx hf => ?_) (fun n56 hf => ?_)
  · refine x_tabIn (tgt := 106) hM hx dX10_isSign_1 (by decide) (by decide) rfl (by decide) ?_
    exact w_X10_isSign_j106 hM hR hw (lv_sub hl [] rfl) hf
  refine x_sw hf (fun hx hf => ?_) (fun n57 hf => ?_)
  · refine x_tabIn (tgt := 106) hM hx dX10_isSign_1 (by decide) (by decide) rfl (by decide) ?_
    exact w_X10_isSign_j106 hM hR hw (lv_sub hl [] rfl) hf
  refine x_sw hf (fun hx hf => ?_) (fun n58 hf => ?_)
  · refine x_tabIn (tgt := 106) hM hx dX10_isSign_1 (by decide) (by decide) rfl (by decide) ?_
    exact w_X10_isSign_j106 hM hR hw (lv_sub hl [] rfl) hf
  refine x_sw hf (fun hx hf => ?_) (fun n59 hf => ?_)
  · refine x_tabIn (tgt := 104) hM hx dX10_isSign_1 (by decide) (by decide) rfl (by decide) ?_
    exact w_X10_isSign_j104 hM hR hw (lv_sub hl [] rfl) hf
  refine x_sw hf (fun hx hf => ?_) (fun n60 hf => ?_)
  · refine x_tabIn (tgt := 104) hM hx dX10_isSign_1 (by decide) (by decide) rfl (by decide) ?_
    exact w_X10_isSign_j104 hM hR hw (lv_sub hl [] rfl) hf
  refine x_sw hf (fun hx hf => ?_) (fun n61 hf => ?_)
  · refine x_tabIn (tgt := 104) hM hx dX10_isSign_1 (by decide) (by decide) rfl (by decide) ?_
    exact w_X10_isSign_j104 hM hR hw (lv_sub hl [] rfl) hf
  refine lv_tableOut (tgt := 106) hM.1 hM.2.1 dX10_isSign_1 (by have := sw_ne n40 (k := 40) (by decide); have := sw_ne n41 (k := 41) (by decide); have := sw_ne n42 (k := 42) (by decide); have := sw_ne n43 (k := 43) (by decide); have := sw_ne n44 (k := 44) (by decide); have := sw_ne n45 (k := 45) (by decide); have := sw_ne n46 (k := 46) (by decide); have := sw_ne n47 (k := 47) (by decide); have := sw_ne n48 (k := 48) (by decide); have := sw_ne n49 (k := 49) (by decide); have := sw_ne n50 (k := 50) (by decide); have := sw_ne n51 (k := 51) (by decide); have := sw_ne n52 (k := 52) (by decide); have := sw_ne n53 (k := 53) (by decide); have := sw_ne n54 (k := 54) (by decide); have := sw_ne n55 (k := 55) (by decide); have := sw_ne n56 (k := 56) (by decide); have := sw_ne n57 (k := 57) (by decide); have := sw_ne n58 (k := 58) (by decide); have := sw_ne n59 (k := 59) (by decide); have := sw_ne n60 (k := 60) (by decide); have := sw_ne n61 (k := 61) (by decide); omega) (by decide) ?_
  exact w_X10_isSign_j106 hM hR hw (lv_sub hl [] rfl) hf
theorem hd_X10_isSign : yX10_isSign.cls ≠ "java/lang/invoke/MethodHandle" ∧ yX10_isSign.cls ≠ "java/lang/invoke/VarHandle" ∧ (parseMethodDescriptor yX10_isSign.desc).map (fun d => d.parameters.length) = some 1 := ⟨by decide, by decide, by decide +kernel⟩
theorem dX10_put_0 : decode cX10_put 0 = .ok (.aload_n 0, 1) := by decide +kernel
theorem dX10_put_1 : decode cX10_put 1 = .ok (.getfield 15, 3) := by decide +kernel
theorem dX10_put_4 : decode cX10_put 4 = .ok (.iload_n 1, 1) := by decide +kernel
theorem dX10_put_5 : decode cX10_put 5 = .ok (.iload_n 3, 1) := by decide +kernel
theorem dX10_put_6 : decode cX10_put 6 = .ok (.iastore, 1) := by decide +kernel
theorem dX10_put_7 : decode cX10_put 7 = .ok (.aload_n 0, 1) := by decide +kernel
theorem dX10_put_8 : decode cX10_put 8 = .ok (.getfield 18, 3) := by decide +kernel
theorem dX10_put_11 : decode cX10_put 11 = .ok (.iload_n 1, 1) := by decide +kernel
theorem dX10_put_12 : decode cX10_put 12 = .ok (.lconst 0, 1) := by decide +kernel
theorem dX10_put_13 : decode cX10_put 13 = .ok (.lastore, 1) := by decide +kernel
theorem dX10_put_14 : decode cX10_put 14 = .ok (.aload_n 0, 1) := by decide +kernel
theorem dX10_put_15 : decode cX10_put 15 = .ok (.getfield 9, 3) := by decide +kernel
theorem dX10_put_18 : decode cX10_put 18 = .ok (.iload_n 1, 1) := by decide +kernel
theorem dX10_put_19 : decode cX10_put 19 = .ok (.iconst 0, 1) := by decide +kernel
theorem dX10_put_20 : decode cX10_put 20 = .ok (.iastore, 1) := by decide +kernel
theorem dX10_put_21 : decode cX10_put 21 = .ok (.iload_n 3, 1) := by decide +kernel
theorem dX10_put_22 : decode cX10_put 22 = .ok (.iload 4, 2) := by decide +kernel
theorem dX10_put_24 : decode cX10_put 24 = .ok (.if_icmp .lt 4, 3) := by decide +kernel
theorem dX10_put_27 : decode cX10_put 27 = .ok (.return_, 1) := by decide +kernel
theorem dX10_put_28 : decode cX10_put 28 = .ok (.aload_n 2, 1) := by decide +kernel
theorem dX10_put_29 : decode cX10_put 29 = .ok (.iload_n 3, 1) := by decide +kernel
theorem dX10_put_30 : decode cX10_put 30 = .ok (.baload, 1) := by decide +kernel
theorem dX10_put_31 : decode cX10_put 31 = .ok (.istore 5, 2) := by decide +kernel
theorem dX10_put_33 : decode cX10_put 33 = .ok (.iload 5, 2) := by decide +kernel
theorem dX10_put_35 : decode cX10_put 35 = .ok (.invokestatic 50, 3) := by decide +kernel
theorem dX10_put_38 : decode cX10_put 38 = .ok (.ifCond .eq 55, 3) := by decide +kernel
theorem dX10_put_41 : decode cX10_put 41 = .ok (.aload_n 0, 1) := by decide +kernel
theorem dX10_put_42 : decode cX10_put 42 = .ok (.getfield 9, 3) := by decide +kernel
theorem dX10_put_45 : decode cX10_put 45 = .ok (.iload_n 1, 1) := by decide +kernel
theorem dX10_put_46 : decode cX10_put 46 = .ok (.iconst 1, 1) := by decide +kernel
theorem dX10_put_47 : decode cX10_put 47 = .ok (.iastore, 1) := by decide +kernel
theorem dX10_put_48 : decode cX10_put 48 = .ok (.iload 4, 2) := by decide +kernel
theorem dX10_put_50 : decode cX10_put 50 = .ok (.iload_n 3, 1) := by decide +kernel
theorem dX10_put_51 : decode cX10_put 51 = .ok (.isub, 1) := by decide +kernel
theorem dX10_put_52 : decode cX10_put 52 = .ok (.bipush 8, 2) := by decide +kernel
theorem dX10_put_54 : decode cX10_put 54 = .ok (.if_icmp .gt 109, 3) := by decide +kernel
theorem dX10_put_57 : decode cX10_put 57 = .ok (.aload_n 0, 1) := by decide +kernel
theorem dX10_put_58 : decode cX10_put 58 = .ok (.getfield 18, 3) := by decide +kernel
theorem dX10_put_61 : decode cX10_put 61 = .ok (.iload_n 1, 1) := by decide +kernel
theorem dX10_put_62 : decode cX10_put 62 = .ok (.aload_n 2, 1) := by decide +kernel
theorem dX10_put_63 : decode cX10_put 63 = .ok (.iload_n 3, 1) := by decide +kernel
theorem dX10_put_64 : decode cX10_put 64 = .ok (.iload 4, 2) := by decide +kernel
theorem dX10_put_66 : decode cX10_put 66 = .ok (.bipush 32, 2) := by decide +kernel
theorem dX10_put_68 : decode cX10_put 68 = .ok (.bipush 96, 2) := by decide +kernel
theorem dX10_put_70 : decode cX10_put 70 = .ok (.invokestatic 57, 3) := by decide +kernel
theorem dX10_put_73 : decode cX10_put 73 = .ok (.lastore, 1) := by decide +kernel
theorem dX10_put_74 : decode cX10_put 74 = .ok (.aload_n 0, 1) := by decide +kernel
theorem dX10_put_75 : decode cX10_put 75 = .ok (.getfield 9, 3) := by decide +kernel
theorem dX10_put_78 : decode cX10_put 78 = .ok (.iload_n 1, 1) := by decide +kernel
theorem dX10_put_79 : decode cX10_put 79 = .ok (.aload_n 0, 1) := by decide +kernel
theorem dX10_put_80 : decode cX10_put 80 = .ok (.aload_n 0, 1) := by decide +kernel
theorem dX10_put_81 : decode cX10_put 81 = .ok (.getfield 18, 3) := by decide +kernel
theorem dX10_put_84 : decode cX10_put 84 = .ok (.iload_n 1, 1) := by decide +kernel
theorem dX10_put_85 : decode cX10_put 85 = .ok (.laload, 1) := by decide +kernel
theorem dX10_put_86 : decode cX10_put 86 = .ok (.invokevirtual 61, 3) := by decide +kernel
theorem dX10_put_89 : decode cX10_put 89 = .ok (.iastore, 1) := by decide +kernel
theorem dX10_put_90 : decode cX10_put 90 = .ok (.goto 73, 3) := by decide +kernel
theorem dX10_put_93 : decode cX10_put 93 = .ok (.iload 5, 2) := by decide +kernel
theorem dX10_put_95 : decode cX10_put 95 = .ok (.invokestatic 54, 3) := by decide +kernel
theorem dX10_put_98 : decode cX10_put 98 = .ok (.ifCond .eq 45, 3) := by decide +kernel
theorem dX10_put_101 : decode cX10_put 101 = .ok (.aload_n 0, 1) := by decide +kernel
theorem dX10_put_102 : decode cX10_put 102 = .ok (.getfield 9, 3) := by decide +kernel
theorem dX10_put_105 : decode cX10_put 105 = .ok (.iload_n 1, 1) := by decide +kernel
theorem dX10_put_106 : decode cX10_put 106 = .ok (.iconst 1, 1) := by decide +kernel
theorem dX10_put_107 : decode cX10_put 107 = .ok (.iastore, 1) := by decide +kernel
theorem dX10_put_108 : decode cX10_put 108 = .ok (.iload 4, 2) := by decide +kernel
theorem dX10_put_110 : decode cX10_put 110 = .ok (.iload_n 3, 1) := by decide +kernel
theorem dX10_put_111 : decode cX10_put 111 = .ok (.isub, 1) := by decide +kernel
theorem dX10_put_112 : decode cX10_put 112 = .ok (.iconst 4, 1) := by decide +kernel
theorem dX10_put_113 : decode cX10_put 113 = .ok (.if_icmp .gt 50, 3) := by decide +kernel
theorem dX10_put_116 : decode cX10_put 116 = .ok (.aload_n 0, 1) := by decide +kernel
theorem dX10_put_117 : decode cX10_put 117 = .ok (.getfield 18, 3) := by decide +kernel
theorem dX10_put_120 : decode cX10_put 120 = .ok (.iload_n 1, 1) := by decide +kernel
theorem dX10_put_121 : decode cX10_put 121 = .ok (.aload_n 2, 1) := by decide +kernel
theorem dX10_put_122 : decode cX10_put 122 = .ok (.iload_n 3, 1) := by decide +kernel
theorem dX10_put_123 : decode cX10_put 123 = .ok (.iload 4, 2) := by decide +kernel
theorem dX10_put_125 : decode cX10_put 125 = .ok (.bipush 10, 2) := by decide +kernel
theorem dX10_put_127 : decode cX10_put 127 = .ok (.bipush 48, 2) := by decide +kernel
theorem dX10_put_129 : decode cX10_put 129 = .ok (.invokestatic 57, 3) := by decide +kernel
theorem dX10_put_132 : decode cX10_put 132 = .ok (.lastore, 1) := by decide +kernel
theorem dX10_put_133 : decode cX10_put 133 = .ok (.aload_n 0, 1) := by decide +kernel
theorem dX10_put_134 : decode cX10_put 134 = .ok (.getfield 9, 3) := by decide +kernel
theorem dX10_put_137 : decode cX10_put 137 = .ok (.iload_n 1, 1) := by decide +kernel
theorem dX10_put_138 : decode cX10_put 138 = .ok (.iconst 3, 1) := by decide +kernel
theorem dX10_put_139 : decode cX10_put 139 = .ok (.iastore, 1) := by decide +kernel
theorem dX10_put_140 : decode cX10_put 140 = .ok (.goto 23, 3) := by decide +kernel
theorem dX10_put_143 : decode cX10_put 143 = .ok (.aload_n 0, 1) := by decide +kernel
theorem dX10_put_144 : decode cX10_put 144 = .ok (.getfield 9, 3) := by decide +kernel
theorem dX10_put_147 : decode cX10_put 147 = .ok (.iload_n 1, 1) := by decide +kernel
theorem dX10_put_148 : decode cX10_put 148 = .ok (.iload 5, 2) := by decide +kernel
theorem dX10_put_150 : decode cX10_put 150 = .ok (.invokestatic 65, 3) := by decide +kernel
theorem dX10_put_153 : decode cX10_put 153 = .ok (.ifCond .eq 8, 3) := by decide +kernel
theorem dX10_put_156 : decode cX10_put 156 = .ok (.iload 5, 2) := by decide +kernel
theorem dX10_put_158 : decode cX10_put 158 = .ok (.goto 4, 3) := by decide +kernel
theorem dX10_put_161 : decode cX10_put 161 = .ok (.iconst 1, 1) := by decide +kernel
theorem dX10_put_162 : decode cX10_put 162 = .ok (.iastore, 1) := by decide +kernel
theorem dX10_put_163 : decode cX10_put 163 = .ok (.return_, 1) := by decide +kernel
def c_X10_put (p : Nat) (q2 : Nat) (a1 : Int32) (a3 : Int32) (a4 : Int32) (h : PH) : Option (PH) :=
  gd (ixOK a1 401) <| nm (setI h (p + 2) a1.toNatClampNeg a3) fun h1 =>
  gd (ixOK a1 401) <| nm (setJ h1 (p + 3) a1.toNatClampNeg (0 : Int64)) fun h2 =>
  gd (ixOK a1 401) <| nm (setI h2 (p + 1) a1.toNatClampNeg 0) fun h3 =>
  if a3 < a4 then
    gd (ixOK a3 2000) <|
    nm (h3.1 q2 a3.toNatClampNeg) fun v4 =>
    (c_X10_isLetter v4).bind fun r5 =>
    if r5 = 0 then
      (c_X10_isDigit v4).bind fun r6 =>
      if r6 = 0 then
        (c_X10_isSign v4).bind fun r7 =>
        if r7 = 0 then
          gd (ixOK a1 401) <| nm (setI h3 (p + 1) a1.toNatClampNeg 1) fun h8 =>
          some h8
        else
          gd (ixOK a1 401) <| nm (setI h3 (p + 1) a1.toNatClampNeg v4) fun h9 =>
          some h9
      else
        gd (ixOK a1 401) <| nm (setI h3 (p + 1) a1.toNatClampNeg 1) fun h10 =>
        if 4 < (a4 - a3) then
          some h10
        else
          (c_X10_joined q2 a3 a4 10 48 h10).bind fun r11 =>
          gd (ixOK a1 401) <| nm (setJ h10 (p + 3) a1.toNatClampNeg r11) fun h12 =>
          gd (ixOK a1 401) <| nm (setI h12 (p + 1) a1.toNatClampNeg 3) fun h13 =>
          some h13
    else
      gd (ixOK a1 401) <| nm (setI h3 (p + 1) a1.toNatClampNeg 1) fun h14 =>
      if 8 < (a4 - a3) then
        some h14
      else
        (c_X10_joined q2 a3 a4 32 96 h14).bind fun r15 =>
        gd (ixOK a1 401) <| nm (setJ h14 (p + 3) a1.toNatClampNeg r15) fun h16 =>
        gd (ixOK a1 401) <|
        (c_X10_kindOf p (h16.2.1 (p + 3) a1.toNatClampNeg) h16).bind fun r17 =>
        gd (ixOK a1 401) <| nm (setI h16 (p + 1) a1.toNatClampNeg r17) fun h18 =>
        some h18
  else
    some h3
set_option maxHeartbeats 4000000 in
set_option maxRecDepth 100000 in
theorem ct_X10_put (l : Launch) {lay : List KK} {p : Nat} {q2 : Nat} (ho : okX10 lay p) (ho2 : lay[q2]? = some (kB 2000)) (a1 : Int32) (a3 : Int32) (a4 : Int32) : CtV l yX10_put cX10_put 6 (none) 1 27 lay (fun h => c_X10_put p q2 a1 a3 a4 h) (fun ad => [.ref (ad p), .int a1, .ref (ad q2), .int a3, .int a4]) := by
  refine CtV.mk' RX10 (by decide) rfl (fun _ => Nat.le_of_ble_eq_true rfl) ?_
  intro p0 e s m args below meth c D G A H0 ad X h r0 H ls Q hM hw hl hf hR
  have hl : lv_has ls 6 [(0, .ref (ad p)), (1, .int a1), (2, .ref (ad q2)), (3, .int a3), (4, .int a4)] := hl
  unfold c_X10_put at hf
  refine lv_aload_n hM.1 hM.2.1 dX10_put_0 rfl (lv_at hl 0 rfl) ?_
  refine gf_X10_starts hM hw (okX10.o ho) fl_X10_15 dX10_put_1 ?_
  refine lv_iload_n hM.1 hM.2.1 dX10_put_4 rfl (lv_at hl 1 rfl) ?_
  refine lv_iload_n hM.1 hM.2.1 dX10_put_5 rfl (lv_at hl 3 rfl) ?_
  refine x_iast hM hw (okX10.starts ho) hf dX10_put_6 (fun h1 H locs hf hw => ?_)
  refine lv_aload_n hM.1 hM.2.1 dX10_put_7 rfl (lv_at hl 0 rfl) ?_
  refine gf_X10_values hM hw (okX10.o ho) fl_X10_18 dX10_put_8 ?_
  refine lv_iload_n hM.1 hM.2.1 dX10_put_11 rfl (lv_at hl 1 rfl) ?_
  refine lv_lconst (v := 0) hM.1 hM.2.1 dX10_put_12 (by decide) ?_
  refine x_last hM hw (okX10.values ho) hf dX10_put_13 (fun h2 H locs hf hw => ?_)
  refine lv_aload_n hM.1 hM.2.1 dX10_put_14 rfl (lv_at hl 0 rfl) ?_
  refine gf_X10_kinds hM hw (okX10.o ho) fl_X10_9 dX10_put_15 ?_
  refine lv_iload_n hM.1 hM.2.1 dX10_put_18 rfl (lv_at hl 1 rfl) ?_
  refine lv_iconst (v := 0) hM.1 hM.2.1 dX10_put_19 ic_0 ?_
  refine x_iast hM hw (okX10.kinds ho) hf dX10_put_20 (fun h3 H locs hf hw => ?_)
  refine lv_iload_n hM.1 hM.2.1 dX10_put_21 rfl (lv_at hl 3 rfl) ?_
  refine lv_iload hM.1 hM.2.1 dX10_put_22 (lv_at hl 4 rfl) ?_
  refine x_ic_lt (tgt := 28) hM hf dX10_put_24 (by decide) (fun hf => ?_) (fun hf => ?_)
  · refine lv_aload_n hM.1 hM.2.1 dX10_put_28 rfl (lv_at hl 2 rfl) ?_
    refine lv_iload_n hM.1 hM.2.1 dX10_put_29 rfl (lv_at hl 3 rfl) ?_
    refine x_bald hM hw ho2 hf dX10_put_30 (fun hf => ?_)
    refine x_istore hM hf dX10_put_31 hl (by decide) (fun v4 => [(5, .int v4), (0, .ref (ad p)), (1, .int a1), (2, .ref (ad q2)), (3, .int a3), (4, .int a4)]) (fun _ => rfl) (fun v4 ls hf hl => ?_)
    refine lv_iload hM.1 hM.2.1 dX10_put_33 (lv_at hl 0 rfl) ?_
    refine x_callSIr (rest := []) hM hw (ct_X10_isLetter l v4) [.int v4] rfl (gi_S ml_X10_50 sm_X10_isLetter in_X10 kc_X10_isLetter) hd_X10_isLetter rfl ⟨Nat.le_of_ble_eq_true rfl, Nat.le_of_ble_eq_true rfl⟩ rfl (Nat.le_of_ble_eq_true rfl) hl.1 hcs0 hf dX10_put_35 (fun r5 H locs hf hw => ?_)
    refine x_if_eq (tgt := 93) hM hf dX10_put_38 (by decide) (fun hf => ?_) (fun hf => ?_)
    · refine lv_iload hM.1 hM.2.1 dX10_put_93 (lv_at hl 0 rfl) ?_
      refine x_callSIr (rest := []) hM hw (ct_X10_isDigit l v4) [.int v4] rfl (gi_S ml_X10_54 sm_X10_isDigit in_X10 kc_X10_isDigit) hd_X10_isDigit rfl ⟨Nat.le_of_ble_eq_true rfl, Nat.le_of_ble_eq_true rfl⟩ rfl (Nat.le_of_ble_eq_true rfl) hl.1 hcs0 hf dX10_put_95 (fun r6 H locs hf hw => ?_)
      refine x_if_eq (tgt := 143) hM hf dX10_put_98 (by decide) (fun hf => ?_) (fun hf => ?_)
      · refine lv_aload_n hM.1 hM.2.1 dX10_put_143 rfl (lv_at hl 1 rfl) ?_
        refine gf_X10_kinds hM hw (okX10.o ho) fl_X10_9 dX10_put_144 ?_
        refine lv_iload_n hM.1 hM.2.1 dX10_put_147 rfl (lv_at hl 2 rfl) ?_
        refine lv_iload hM.1 hM.2.1 dX10_put_148 (lv_at hl 0 rfl) ?_
        refine x_callSIr (rest := [.int a1, .ref (ad (p + 1))]) hM hw (ct_X10_isSign l v4) [.int v4] rfl (gi_S ml_X10_65 sm_X10_isSign in_X10 kc_X10_isSign) hd_X10_isSign rfl ⟨Nat.le_of_ble_eq_true rfl, Nat.le_of_ble_eq_true rfl⟩ rfl (Nat.le_of_ble_eq_true rfl) hl.1 hcs0 hf dX10_put_150 (fun r7 H locs hf hw => ?_)
        refine x_if_eq (tgt := 161) hM hf dX10_put_153 (by decide) (fun hf => ?_) (fun hf => ?_)
        · refine lv_iconst (v := 1) hM.1 hM.2.1 dX10_put_161 ic_1 ?_
          refine x_iast hM hw (okX10.kinds ho) hf dX10_put_162 (fun h8 H locs hf hw => ?_)
          exact hR _ _ _ _ _ (Option.some.inj hf) rfl hw dX10_put_163
        refine lv_iload hM.1 hM.2.1 dX10_put_156 (lv_at hl 0 rfl) ?_
        refine lv_goto (tgt := 162) hM.1 hM.2.1 dX10_put_158 (by decide) ?_
        refine x_iast hM hw (okX10.kinds ho) hf dX10_put_162 (fun h9 H locs hf hw => ?_)
        exact hR _ _ _ _ _ (Option.some.inj hf) rfl hw dX10_put_163
      refine lv_aload_n hM.1 hM.2.1 dX10_put_101 rfl (lv_at hl 1 rfl) ?_
      refine gf_X10_kinds hM hw (okX10.o ho) fl_X10_9 dX10_put_102 ?_
      refine lv_iload_n hM.1 hM.2.1 dX10_put_105 rfl (lv_at hl 2 rfl) ?_
      refine lv_iconst (v := 1) hM.1 hM.2.1 dX10_put_106 ic_1 ?_
      refine x_iast hM hw (okX10.kinds ho) hf dX10_put_107 (fun h10 H locs hf hw => ?_)
      refine lv_iload hM.1 hM.2.1 dX10_put_108 (lv_at hl 5 rfl) ?_
      refine lv_iload_n hM.1 hM.2.1 dX10_put_110 rfl (lv_at hl 4 rfl) ?_
      refine lv_isub hM.1 hM.2.1 dX10_put_111 ?_
      refine lv_iconst (v := 4) hM.1 hM.2.1 dX10_put_112 ic_4 ?_
      refine x_ic_gt (tgt := 163) hM hf dX10_put_113 (by decide) (fun hf => ?_) (fun hf => ?_)
      · exact hR _ _ _ _ _ (Option.some.inj hf) rfl hw dX10_put_163
      refine lv_aload_n hM.1 hM.2.1 dX10_put_116 rfl (lv_at hl 1 rfl) ?_
      refine gf_X10_values hM hw (okX10.o ho) fl_X10_18 dX10_put_117 ?_
      refine lv_iload_n hM.1 hM.2.1 dX10_put_120 rfl (lv_at hl 2 rfl) ?_
      refine lv_aload_n hM.1 hM.2.1 dX10_put_121 rfl (lv_at hl 3 rfl) ?_
      refine lv_iload_n hM.1 hM.2.1 dX10_put_122 rfl (lv_at hl 4 rfl) ?_
      refine lv_iload hM.1 hM.2.1 dX10_put_123 (lv_at hl 5 rfl) ?_
      refine lv_bipush (v := 10) hM.1 hM.2.1 dX10_put_125 (by decide) ?_
      refine lv_bipush (v := 48) hM.1 hM.2.1 dX10_put_127 (by decide) ?_
      refine x_callSLr (rest := [.int a1, .ref (ad (p + 3))]) hM hw (ct_X10_joined l ho2 a3 a4 10 48) [.ref (ad q2), .int a3, .int a4, .int 10, .int 48] rfl (gi_S ml_X10_57 sm_X10_joined in_X10 kc_X10_joined) hd_X10_joined rfl ⟨Nat.le_of_ble_eq_true rfl, Nat.le_of_ble_eq_true rfl⟩ rfl (Nat.le_of_ble_eq_true rfl) hl.1 hcs0 hf dX10_put_129 (fun r11 H locs hf hw => ?_)
      refine x_last hM hw (okX10.values ho) hf dX10_put_132 (fun h12 H locs hf hw => ?_)
      refine lv_aload_n hM.1 hM.2.1 dX10_put_133 rfl (lv_at hl 1 rfl) ?_
      refine gf_X10_kinds hM hw (okX10.o ho) fl_X10_9 dX10_put_134 ?_
      refine lv_iload_n hM.1 hM.2.1 dX10_put_137 rfl (lv_at hl 2 rfl) ?_
      refine lv_iconst (v := 3) hM.1 hM.2.1 dX10_put_138 ic_3 ?_
      refine x_iast hM hw (okX10.kinds ho) hf dX10_put_139 (fun h13 H locs hf hw => ?_)
      refine lv_goto (tgt := 163) hM.1 hM.2.1 dX10_put_140 (by decide) ?_
      exact hR _ _ _ _ _ (Option.some.inj hf) rfl hw dX10_put_163
    refine lv_aload_n hM.1 hM.2.1 dX10_put_41 rfl (lv_at hl 1 rfl) ?_
    refine gf_X10_kinds hM hw (okX10.o ho) fl_X10_9 dX10_put_42 ?_
    refine lv_iload_n hM.1 hM.2.1 dX10_put_45 rfl (lv_at hl 2 rfl) ?_
    refine lv_iconst (v := 1) hM.1 hM.2.1 dX10_put_46 ic_1 ?_
    refine x_iast hM hw (okX10.kinds ho) hf dX10_put_47 (fun h14 H locs hf hw => ?_)
    refine lv_iload hM.1 hM.2.1 dX10_put_48 (lv_at hl 5 rfl) ?_
    refine lv_iload_n hM.1 hM.2.1 dX10_put_50 rfl (lv_at hl 4 rfl) ?_
    refine lv_isub hM.1 hM.2.1 dX10_put_51 ?_
    refine lv_bipush (v := 8) hM.1 hM.2.1 dX10_put_52 (by decide) ?_
    refine x_ic_gt (tgt := 163) hM hf dX10_put_54 (by decide) (fun hf => ?_) (fun hf => ?_)
    · exact hR _ _ _ _ _ (Option.some.inj hf) rfl hw dX10_put_163
    refine lv_aload_n hM.1 hM.2.1 dX10_put_57 rfl (lv_at hl 1 rfl) ?_
    refine gf_X10_values hM hw (okX10.o ho) fl_X10_18 dX10_put_58 ?_
    refine lv_iload_n hM.1 hM.2.1 dX10_put_61 rfl (lv_at hl 2 rfl) ?_
    refine lv_aload_n hM.1 hM.2.1 dX10_put_62 rfl (lv_at hl 3 rfl) ?_
    refine lv_iload_n hM.1 hM.2.1 dX10_put_63 rfl (lv_at hl 4 rfl) ?_
    refine lv_iload hM.1 hM.2.1 dX10_put_64 (lv_at hl 5 rfl) ?_
    refine lv_bipush (v := 32) hM.1 hM.2.1 dX10_put_66 (by decide) ?_
    refine lv_bipush (v := 96) hM.1 hM.2.1 dX10_put_68 (by decide) ?_
    refine x_callSLr (rest := [.int a1, .ref (ad (p + 3))]) hM hw (ct_X10_joined l ho2 a3 a4 32 96) [.ref (ad q2), .int a3, .int a4, .int 32, .int 96] rfl (gi_S ml_X10_57 sm_X10_joined in_X10 kc_X10_joined) hd_X10_joined rfl ⟨Nat.le_of_ble_eq_true rfl, Nat.le_of_ble_eq_true rfl⟩ rfl (Nat.le_of_ble_eq_true rfl) hl.1 hcs0 hf dX10_put_70 (fun r15 H locs hf hw => ?_)
    refine x_last hM hw (okX10.values ho) hf dX10_put_73 (fun h16 H locs hf hw => ?_)
    refine lv_aload_n hM.1 hM.2.1 dX10_put_74 rfl (lv_at hl 1 rfl) ?_
    refine gf_X10_kinds hM hw (okX10.o ho) fl_X10_9 dX10_put_75 ?_
    refine lv_iload_n hM.1 hM.2.1 dX10_put_78 rfl (lv_at hl 2 rfl) ?_
    refine lv_aload_n hM.1 hM.2.1 dX10_put_79 rfl (lv_at hl 1 rfl) ?_
    refine lv_aload_n hM.1 hM.2.1 dX10_put_80 rfl (lv_at hl 1 rfl) ?_
    refine gf_X10_values hM hw (okX10.o ho) fl_X10_18 dX10_put_81 ?_
    refine lv_iload_n hM.1 hM.2.1 dX10_put_84 rfl (lv_at hl 2 rfl) ?_
    refine x_lald hM hw (okX10.values ho) hf dX10_put_85 (fun hf => ?_)
    refine x_callVIr (rest := [.int a1, .ref (ad (p + 1))]) hM hw (ct_X10_kindOf l ho (h16.2.1 (p + 3) a1.toNatClampNeg)) [.long (h16.2.1 (p + 3) a1.toNatClampNeg)] (okX10.o ho) rfl rfl rfl (gi_V ml_X10_61 im_X10_kindOf sl_X10_kindOf in_X10 kc_X10_kindOf) hd_X10_kindOf rfl ⟨Nat.le_of_ble_eq_true rfl, Nat.le_of_ble_eq_true rfl⟩ rfl (Nat.le_of_ble_eq_true rfl) hl.1 hcs0 hf dX10_put_86 (fun r17 H locs hf hw => ?_)
    refine x_iast hM hw (okX10.kinds ho) hf dX10_put_89 (fun h18 H locs hf hw => ?_)
    refine lv_goto (tgt := 163) hM.1 hM.2.1 dX10_put_90 (by decide) ?_
    exact hR _ _ _ _ _ (Option.some.inj hf) rfl hw dX10_put_163
  exact hR _ _ _ _ _ (Option.some.inj hf) rfl hw dX10_put_27
theorem hd_X10_put : yX10_put.cls = RX10 ∧ yX10_put.cls ≠ "java/lang/invoke/MethodHandle" ∧ yX10_put.cls ≠ "java/lang/invoke/VarHandle" ∧ (parseMethodDescriptor yX10_put.desc).map (fun d => d.parameters.length) = some 4 := ⟨rfl, by decide, by decide, by decide +kernel⟩
theorem dX10_cut_0 : decode cX10_cut 0 = .ok (.iconst 0, 1) := by decide +kernel
theorem dX10_cut_1 : decode cX10_cut 1 = .ok (.istore_n 3, 1) := by decide +kernel
theorem dX10_cut_2 : decode cX10_cut 2 = .ok (.iconst 1, 1) := by decide +kernel
theorem dX10_cut_3 : decode cX10_cut 3 = .ok (.istore 4, 2) := by decide +kernel
theorem dX10_cut_5 : decode cX10_cut 5 = .ok (.iconst 0, 1) := by decide +kernel
theorem dX10_cut_6 : decode cX10_cut 6 = .ok (.istore 5, 2) := by decide +kernel
theorem dX10_cut_8 : decode cX10_cut 8 = .ok (.iload 5, 2) := by decide +kernel
theorem dX10_cut_10 : decode cX10_cut 10 = .ok (.sipush 400, 3) := by decide +kernel
theorem dX10_cut_13 : decode cX10_cut 13 = .ok (.if_icmp .gt 70, 3) := by decide +kernel
theorem dX10_cut_16 : decode cX10_cut 16 = .ok (.iload 4, 2) := by decide +kernel
theorem dX10_cut_18 : decode cX10_cut 18 = .ok (.ifCond .eq 65, 3) := by decide +kernel
theorem dX10_cut_21 : decode cX10_cut 21 = .ok (.aload_n 1, 1) := by decide +kernel
theorem dX10_cut_22 : decode cX10_cut 22 = .ok (.iload_n 2, 1) := by decide +kernel
theorem dX10_cut_23 : decode cX10_cut 23 = .ok (.iload_n 3, 1) := by decide +kernel
theorem dX10_cut_24 : decode cX10_cut 24 = .ok (.invokestatic 39, 3) := by decide +kernel
theorem dX10_cut_27 : decode cX10_cut 27 = .ok (.istore_n 3, 1) := by decide +kernel
theorem dX10_cut_28 : decode cX10_cut 28 = .ok (.aload_n 1, 1) := by decide +kernel
theorem dX10_cut_29 : decode cX10_cut 29 = .ok (.iload_n 2, 1) := by decide +kernel
theorem dX10_cut_30 : decode cX10_cut 30 = .ok (.iload_n 3, 1) := by decide +kernel
theorem dX10_cut_31 : decode cX10_cut 31 = .ok (.invokestatic 43, 3) := by decide +kernel
theorem dX10_cut_34 : decode cX10_cut 34 = .ok (.istore 6, 2) := by decide +kernel
theorem dX10_cut_36 : decode cX10_cut 36 = .ok (.aload_n 0, 1) := by decide +kernel
theorem dX10_cut_37 : decode cX10_cut 37 = .ok (.iload 5, 2) := by decide +kernel
theorem dX10_cut_39 : decode cX10_cut 39 = .ok (.aload_n 1, 1) := by decide +kernel
theorem dX10_cut_40 : decode cX10_cut 40 = .ok (.iload_n 3, 1) := by decide +kernel
theorem dX10_cut_41 : decode cX10_cut 41 = .ok (.iload 6, 2) := by decide +kernel
theorem dX10_cut_43 : decode cX10_cut 43 = .ok (.invokevirtual 46, 3) := by decide +kernel
theorem dX10_cut_46 : decode cX10_cut 46 = .ok (.aload_n 0, 1) := by decide +kernel
theorem dX10_cut_47 : decode cX10_cut 47 = .ok (.getfield 9, 3) := by decide +kernel
theorem dX10_cut_50 : decode cX10_cut 50 = .ok (.iload 5, 2) := by decide +kernel
theorem dX10_cut_52 : decode cX10_cut 52 = .ok (.iaload, 1) := by decide +kernel
theorem dX10_cut_53 : decode cX10_cut 53 = .ok (.ifCond .eq 18, 3) := by decide +kernel
theorem dX10_cut_56 : decode cX10_cut 56 = .ok (.aload_n 0, 1) := by decide +kernel
theorem dX10_cut_57 : decode cX10_cut 57 = .ok (.getfield 9, 3) := by decide +kernel
theorem dX10_cut_60 : decode cX10_cut 60 = .ok (.iload 5, 2) := by decide +kernel
theorem dX10_cut_62 : decode cX10_cut 62 = .ok (.iaload, 1) := by decide +kernel
theorem dX10_cut_63 : decode cX10_cut 63 = .ok (.iconst 1, 1) := by decide +kernel
theorem dX10_cut_64 : decode cX10_cut 64 = .ok (.if_icmp .eq 7, 3) := by decide +kernel
theorem dX10_cut_67 : decode cX10_cut 67 = .ok (.iconst 1, 1) := by decide +kernel
theorem dX10_cut_68 : decode cX10_cut 68 = .ok (.goto 4, 3) := by decide +kernel
theorem dX10_cut_71 : decode cX10_cut 71 = .ok (.iconst 0, 1) := by decide +kernel
theorem dX10_cut_72 : decode cX10_cut 72 = .ok (.istore 4, 2) := by decide +kernel
theorem dX10_cut_74 : decode cX10_cut 74 = .ok (.iload 6, 2) := by decide +kernel
theorem dX10_cut_76 : decode cX10_cut 76 = .ok (.istore_n 3, 1) := by decide +kernel
theorem dX10_cut_77 : decode cX10_cut 77 = .ok (.iinc 5 1, 3) := by decide +kernel
theorem dX10_cut_80 : decode cX10_cut 80 = .ok (.goto (-72), 3) := by decide +kernel
theorem dX10_cut_83 : decode cX10_cut 83 = .ok (.return_, 1) := by decide +kernel
def c_X10_cut_L8b {ρ : Type}  (p : Nat) (q1 : Nat) (z2 : Int32) (K1 : PH → Option ρ) (REC : Int32 → Int32 → Int32 → PH → Option ρ) (x3 : Int32) (x4 : Int32) (x5 : Int32) (h : PH) : Option ρ :=
  if 400 < x5 then
    K1 h
  else
    if x4 = 0 then
      K1 h
    else
      (c_X10_behindBlanks q1 z2 x3 h).bind fun r4 =>
      nm r4 fun v5 =>
      (c_X10_endOfRun q1 z2 v5 h).bind fun r6 =>
      nm r6 fun v7 =>
      (c_X10_put p q1 x5 v5 v7 h).bind fun h8 =>
      gd (ixOK x5 401) <|
      if (h8.1 (p + 1) x5.toNatClampNeg) = 0 then
        nm (0 : Int32) fun v9 =>
        nm v7 fun v10 =>
        nm (x5 + 1) fun v11 =>
        REC v10 v9 v11 h8
      else
        gd (ixOK x5 401) <|
        if (h8.1 (p + 1) x5.toNatClampNeg) = 1 then
          nm (0 : Int32) fun v12 =>
          nm v7 fun v13 =>
          nm (x5 + 1) fun v14 =>
          REC v13 v12 v14 h8
        else
          nm (1 : Int32) fun v15 =>
          nm v7 fun v16 =>
          nm (x5 + 1) fun v17 =>
          REC v16 v15 v17 h8
set_option maxHeartbeats 4000000 in
set_option maxRecDepth 100000 in
theorem w_X10_cut_L8b {p0 : Program} {l : Launch} {e : Env} {s : State} {m : MethodId} {args : Array Value} {below : List Frame} {meth : Method} {c : Code} {Q : State → Prop} {D : va_G} {G : GG} {A : Nat → Prop} {H0 : Heap} {ad : Nat → Nat} {lay : List KK} {X : va_W} {ρ : Type} {p : Nat} {q1 : Nat} {r0 : ρ} {z2 : Int32} {x3 : Int32} {x4 : Int32} {x5 : Int32} {h : PH} {H : Heap} {locs : List Loc} {ls : Array Slot} {K1 : PH → Option ρ} {REC : Int32 → Int32 → Int32 → PH → Option ρ} (hM : CallFix p0 m c cX10_cut 7 s args lw_g RX10) (ho : okX10 lay p) (ho1 : lay[q1]? = some (kB 2000)) (hk1 : ∀ (h : PH), ∀ (H : Heap) (locs : List Loc) (ls : Array Slot), K1 h = some r0 → Wd D G A H0 ad lay X h s H locs → lv_has ls 7 [] → W p0 l e (rmN 2 52) s m args below meth c H locs 0 0 Q (F0 m 83 ls [])) (hrec : ∀ (x3 : Int32) (x4 : Int32) (x5 : Int32) (h : PH), ∀ (H : Heap) (locs : List Loc) (ls : Array Slot), REC x3 x4 x5 h = some r0 → Wd D G A H0 ad lay X h s H locs → lv_has ls 7 [(0, .ref (ad p)), (1, .ref (ad q1)), (2, .int z2), (3, .int x3), (4, .int x4), (5, .int x5)] → W p0 l e (rmN 2 52) s m args below meth c H locs 0 0 Q (F0 m 8 ls [])) (hw : Wd D G A H0 ad lay X h s H locs) (hl : lv_has ls 7 [(0, .ref (ad p)), (1, .ref (ad q1)), (2, .int z2), (3, .int x3), (4, .int x4), (5, .int x5)]) (hf : c_X10_cut_L8b p q1 z2 K1 REC x3 x4 x5 h = some r0) : W p0 l e (rmN 2 52) s m args below meth c H locs 0 0 Q (F0 m 8 ls []) := by
  unfold c_X10_cut_L8b at hf
  refine lv_iload hM.1 hM.2.1 dX10_cut_8 (lv_at hl 5 rfl) ?_
  refine lv_sipush (v := 400) hM.1 hM.2.1 dX10_cut_10 (by decide) ?_
  refine x_ic_gt (tgt := 83) hM hf dX10_cut_13 (by decide) (fun hf => ?_) (fun hf => ?_)
  · exact hk1 _ _ _ _ hf hw (lv_sub hl [] rfl)
  refine lv_iload hM.1 hM.2.1 dX10_cut_16 (lv_at hl 4 rfl) ?_
  refine x_if_eq (tgt := 83) hM hf dX10_cut_18 (by decide) (fun hf => ?_) (fun hf => ?_)
  · exact hk1 _ _ _ _ hf hw (lv_sub hl [] rfl)
  refine lv_aload_n hM.1 hM.2.1 dX10_cut_21 rfl (lv_at hl 1 rfl) ?_
  refine lv_iload_n hM.1 hM.2.1 dX10_cut_22 rfl (lv_at hl 2 rfl) ?_
  refine lv_iload_n hM.1 hM.2.1 dX10_cut_23 rfl (lv_at hl 3 rfl) ?_
  refine x_callSIr (rest := []) hM hw (ct_X10_behindBlanks l ho1 z2 x3) [.ref (ad q1), .int z2, .int x3] rfl (gi_S ml_X10_39 sm_X10_behindBlanks in_X10 kc_X10_behindBlanks) hd_X10_behindBlanks rfl ⟨Nat.le_of_ble_eq_true rfl, Nat.le_of_ble_eq_true rfl⟩ rfl (Nat.le_of_ble_eq_true rfl) hl.1 hcs0 hf dX10_cut_24 (fun r4 H locs hf hw => ?_)
  refine x_istore_n hM hf dX10_cut_27 rfl hl (by decide) (fun v5 => [(3, .int v5), (0, .ref (ad p)), (1, .ref (ad q1)), (2, .int z2), (4, .int x4), (5, .int x5)]) (fun _ => rfl) (fun v5 ls hf hl => ?_)
  refine lv_aload_n hM.1 hM.2.1 dX10_cut_28 rfl (lv_at hl 2 rfl) ?_
  refine lv_iload_n hM.1 hM.2.1 dX10_cut_29 rfl (lv_at hl 3 rfl) ?_
  refine lv_iload_n hM.1 hM.2.1 dX10_cut_30 rfl (lv_at hl 0 rfl) ?_
  refine x_callSIr (rest := []) hM hw (ct_X10_endOfRun l ho1 z2 v5) [.ref (ad q1), .int z2, .int v5] rfl (gi_S ml_X10_43 sm_X10_endOfRun in_X10 kc_X10_endOfRun) hd_X10_endOfRun rfl ⟨Nat.le_of_ble_eq_true rfl, Nat.le_of_ble_eq_true rfl⟩ rfl (Nat.le_of_ble_eq_true rfl) hl.1 hcs0 hf dX10_cut_31 (fun r6 H locs hf hw => ?_)
  refine x_istore hM hf dX10_cut_34 hl (by decide) (fun v7 => [(6, .int v7), (3, .int v5), (0, .ref (ad p)), (1, .ref (ad q1)), (2, .int z2), (4, .int x4), (5, .int x5)]) (fun _ => rfl) (fun v7 ls hf hl => ?_)
  refine lv_aload_n hM.1 hM.2.1 dX10_cut_36 rfl (lv_at hl 2 rfl) ?_
  refine lv_iload hM.1 hM.2.1 dX10_cut_37 (lv_at hl 6 rfl) ?_
  refine lv_aload_n hM.1 hM.2.1 dX10_cut_39 rfl (lv_at hl 3 rfl) ?_
  refine lv_iload_n hM.1 hM.2.1 dX10_cut_40 rfl (lv_at hl 1 rfl) ?_
  refine lv_iload hM.1 hM.2.1 dX10_cut_41 (lv_at hl 0 rfl) ?_
  refine x_callVV (rest := []) hM hw (ct_X10_put l ho ho1 x5 v5 v7) [.int x5, .ref (ad q1), .int v5, .int v7] (okX10.o ho) rfl rfl rfl (gi_V ml_X10_46 im_X10_put sl_X10_put in_X10 kc_X10_put) hd_X10_put rfl ⟨Nat.le_of_ble_eq_true rfl, Nat.le_of_ble_eq_true rfl⟩ rfl (Nat.le_of_ble_eq_true rfl) hl.1 hcs0 hf dX10_cut_43 (fun h8 H locs hf hw => ?_)
  refine lv_aload_n hM.1 hM.2.1 dX10_cut_46 rfl (lv_at hl 2 rfl) ?_
  refine gf_X10_kinds hM hw (okX10.o ho) fl_X10_9 dX10_cut_47 ?_
  refine lv_iload hM.1 hM.2.1 dX10_cut_50 (lv_at hl 6 rfl) ?_
  refine x_iald hM hw (okX10.kinds ho) hf dX10_cut_52 (fun hf => ?_)
  refine x_if_eq (tgt := 71) hM hf dX10_cut_53 (by decide) (fun hf => ?_) (fun hf => ?_)
  · refine lv_iconst (v := 0) hM.1 hM.2.1 dX10_cut_71 ic_0 ?_
    refine x_istore hM hf dX10_cut_72 hl (by decide) (fun v9 => [(4, .int v9), (6, .int v7), (3, .int v5), (0, .ref (ad p)), (1, .ref (ad q1)), (2, .int z2), (5, .int x5)]) (fun _ => rfl) (fun v9 ls hf hl => ?_)
    refine lv_iload hM.1 hM.2.1 dX10_cut_74 (lv_at hl 1 rfl) ?_
    refine x_istore_n hM hf dX10_cut_76 rfl hl (by decide) (fun v10 => [(3, .int v10), (4, .int v9), (6, .int v7), (0, .ref (ad p)), (1, .ref (ad q1)), (2, .int z2), (5, .int x5)]) (fun _ => rfl) (fun v10 ls hf hl => ?_)
    refine x_iinc (k := 6) (d := 1) hM hf dX10_cut_77 hl rfl (by decide) (by decide) (fun v11 => [(5, .int v11), (3, .int v10), (4, .int v9), (6, .int v7), (0, .ref (ad p)), (1, .ref (ad q1)), (2, .int z2)]) (fun _ => rfl) (fun v11 ls hf hl => ?_)
    refine lv_goto (tgt := 8) hM.1 hM.2.1 dX10_cut_80 (by decide) ?_
    exact hrec _ _ _ _ _ _ _ hf hw (lv_sub hl [4, 5, 6, 1, 2, 0] rfl)
  refine lv_aload_n hM.1 hM.2.1 dX10_cut_56 rfl (lv_at hl 2 rfl) ?_
  refine gf_X10_kinds hM hw (okX10.o ho) fl_X10_9 dX10_cut_57 ?_
  refine lv_iload hM.1 hM.2.1 dX10_cut_60 (lv_at hl 6 rfl) ?_
  refine x_iald hM hw (okX10.kinds ho) hf dX10_cut_62 (fun hf => ?_)
  refine lv_iconst (v := 1) hM.1 hM.2.1 dX10_cut_63 ic_1 ?_
  refine x_ic_eq (tgt := 71) hM hf dX10_cut_64 (by decide) (fun hf => ?_) (fun hf => ?_)
  · refine lv_iconst (v := 0) hM.1 hM.2.1 dX10_cut_71 ic_0 ?_
    refine x_istore hM hf dX10_cut_72 hl (by decide) (fun v12 => [(4, .int v12), (6, .int v7), (3, .int v5), (0, .ref (ad p)), (1, .ref (ad q1)), (2, .int z2), (5, .int x5)]) (fun _ => rfl) (fun v12 ls hf hl => ?_)
    refine lv_iload hM.1 hM.2.1 dX10_cut_74 (lv_at hl 1 rfl) ?_
    refine x_istore_n hM hf dX10_cut_76 rfl hl (by decide) (fun v13 => [(3, .int v13), (4, .int v12), (6, .int v7), (0, .ref (ad p)), (1, .ref (ad q1)), (2, .int z2), (5, .int x5)]) (fun _ => rfl) (fun v13 ls hf hl => ?_)
    refine x_iinc (k := 6) (d := 1) hM hf dX10_cut_77 hl rfl (by decide) (by decide) (fun v14 => [(5, .int v14), (3, .int v13), (4, .int v12), (6, .int v7), (0, .ref (ad p)), (1, .ref (ad q1)), (2, .int z2)]) (fun _ => rfl) (fun v14 ls hf hl => ?_)
    refine lv_goto (tgt := 8) hM.1 hM.2.1 dX10_cut_80 (by decide) ?_
    exact hrec _ _ _ _ _ _ _ hf hw (lv_sub hl [4, 5, 6, 1, 2, 0] rfl)
  refine lv_iconst (v := 1) hM.1 hM.2.1 dX10_cut_67 ic_1 ?_
  refine lv_goto (tgt := 72) hM.1 hM.2.1 dX10_cut_68 (by decide) ?_
  refine x_istore hM hf dX10_cut_72 hl (by decide) (fun v15 => [(4, .int v15), (6, .int v7), (3, .int v5), (0, .ref (ad p)), (1, .ref (ad q1)), (2, .int z2), (5, .int x5)]) (fun _ => rfl) (fun v15 ls hf hl => ?_)
  refine lv_iload hM.1 hM.2.1 dX10_cut_74 (lv_at hl 1 rfl) ?_
  refine x_istore_n hM hf dX10_cut_76 rfl hl (by decide) (fun v16 => [(3, .int v16), (4, .int v15), (6, .int v7), (0, .ref (ad p)), (1, .ref (ad q1)), (2, .int z2), (5, .int x5)]) (fun _ => rfl) (fun v16 ls hf hl => ?_)
  refine x_iinc (k := 6) (d := 1) hM hf dX10_cut_77 hl rfl (by decide) (by decide) (fun v17 => [(5, .int v17), (3, .int v16), (4, .int v15), (6, .int v7), (0, .ref (ad p)), (1, .ref (ad q1)), (2, .int z2)]) (fun _ => rfl) (fun v17 ls hf hl => ?_)
  refine lv_goto (tgt := 8) hM.1 hM.2.1 dX10_cut_80 (by decide) ?_
  exact hrec _ _ _ _ _ _ _ hf hw (lv_sub hl [4, 5, 6, 1, 2, 0] rfl)
set_option maxHeartbeats 4000000 in
set_option maxRecDepth 100000 in
theorem w_X10_cut_L8 {p0 : Program} {l : Launch} {e : Env} {s : State} {m : MethodId} {args : Array Value} {below : List Frame} {meth : Method} {c : Code} {Q : State → Prop} {D : va_G} {G : GG} {A : Nat → Prop} {H0 : Heap} {ad : Nat → Nat} {lay : List KK} {X : va_W} {ρ : Type} {p : Nat} {q1 : Nat} {r0 : ρ} {z2 : Int32} {K1 : PH → Option ρ} (hM : CallFix p0 m c cX10_cut 7 s args lw_g RX10) (ho : okX10 lay p) (ho1 : lay[q1]? = some (kB 2000)) (hk1 : ∀ (h : PH), ∀ (H : Heap) (locs : List Loc) (ls : Array Slot), K1 h = some r0 → Wd D G A H0 ad lay X h s H locs → lv_has ls 7 [] → W p0 l e (rmN 2 52) s m args below meth c H locs 0 0 Q (F0 m 83 ls [])) (n : Nat) (x3 : Int32) (x4 : Int32) (x5 : Int32) (h : PH) (hf : lq4 (c_X10_cut_L8b p q1 z2 K1) n x3 x4 x5 h = some r0) : ∀ (H : Heap) (locs : List Loc) (ls : Array Slot), Wd D G A H0 ad lay X h s H locs → lv_has ls 7 [(0, .ref (ad p)), (1, .ref (ad q1)), (2, .int z2), (3, .int x3), (4, .int x4), (5, .int x5)] → W p0 l e (rmN 2 52) s m args below meth c H locs 0 0 Q (F0 m 8 ls []) := by
  exact lq4_i (fun (x3 : Int32) (x4 : Int32) (x5 : Int32) (h : PH) => ∀ (H : Heap) (locs : List Loc) (ls : Array Slot), Wd D G A H0 ad lay X h s H locs → lv_has ls 7 [(0, .ref (ad p)), (1, .ref (ad q1)), (2, .int z2), (3, .int x3), (4, .int x4), (5, .int x5)] → W p0 l e (rmN 2 52) s m args below meth c H locs 0 0 Q (F0 m 8 ls [])) (fun REC x3 x4 x5 h ih hf H locs ls hw hl => w_X10_cut_L8b hM ho ho1 hk1 (fun x3 x4 x5 h H locs ls hf hw hl => ih x3 x4 x5 h hf H locs ls hw hl) hw hl hf) n x3 x4 x5 h hf
def c_X10_cut (p : Nat) (q1 : Nat) (a2 : Int32) (h : PH) : Option (PH) :=
  nm (0 : Int32) fun v1 =>
  nm (1 : Int32) fun v2 =>
  nm (0 : Int32) fun v3 =>
  lq4 (c_X10_cut_L8b p q1 a2
    (fun h18 =>
      some h18)) fu v1 v2 v3 h
set_option maxHeartbeats 4000000 in
set_option maxRecDepth 100000 in
theorem ct_X10_cut (l : Launch) {lay : List KK} {p : Nat} {q1 : Nat} (ho : okX10 lay p) (ho1 : lay[q1]? = some (kB 2000)) (a2 : Int32) : CtV l yX10_cut cX10_cut 7 (none) 2 52 lay (fun h => c_X10_cut p q1 a2 h) (fun ad => [.ref (ad p), .ref (ad q1), .int a2]) := by
  refine CtV.mk' RX10 (by decide) rfl (fun _ => Nat.le_of_ble_eq_true rfl) ?_
  intro p0 e s m args below meth c D G A H0 ad X h r0 H ls Q hM hw hl hf hR
  have hl : lv_has ls 7 [(0, .ref (ad p)), (1, .ref (ad q1)), (2, .int a2)] := hl
  unfold c_X10_cut at hf
  refine lv_iconst (v := 0) hM.1 hM.2.1 dX10_cut_0 ic_0 ?_
  refine x_istore_n hM hf dX10_cut_1 rfl hl (by decide) (fun v1 => [(3, .int v1), (0, .ref (ad p)), (1, .ref (ad q1)), (2, .int a2)]) (fun _ => rfl) (fun v1 ls hf hl => ?_)
  refine lv_iconst (v := 1) hM.1 hM.2.1 dX10_cut_2 ic_1 ?_
  refine x_istore hM hf dX10_cut_3 hl (by decide) (fun v2 => [(4, .int v2), (3, .int v1), (0, .ref (ad p)), (1, .ref (ad q1)), (2, .int a2)]) (fun _ => rfl) (fun v2 ls hf hl => ?_)
  refine lv_iconst (v := 0) hM.1 hM.2.1 dX10_cut_5 ic_0 ?_
  refine x_istore hM hf dX10_cut_6 hl (by decide) (fun v3 => [(5, .int v3), (4, .int v2), (3, .int v1), (0, .ref (ad p)), (1, .ref (ad q1)), (2, .int a2)]) (fun _ => rfl) (fun v3 ls hf hl => ?_)
  refine w_X10_cut_L8 hM ho ho1 (fun h18 H locs ls hf hw hl => ?_) fu _ _ _ _ hf _ _ _ hw (lv_sub hl [3, 4, 5, 2, 1, 0] rfl)
  exact hR _ _ _ _ _ (Option.some.inj hf) rfl hw dX10_cut_83
theorem hd_X10_cut : yX10_cut.cls = RX10 ∧ yX10_cut.cls ≠ "java/lang/invoke/MethodHandle" ∧ yX10_cut.cls ≠ "java/lang/invoke/VarHandle" ∧ (parseMethodDescriptor yX10_cut.desc).map (fun d => d.parameters.length) = some 2 := ⟨rfl, by decide, by decide, by decide +kernel⟩
