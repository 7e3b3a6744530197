theorem dX12_term_0 : decode cX12_term 0 = .ok (.aload_n 0, 1) := by decide +kernel
theorem dX12_term_1 : decode cX12_term 1 = .ok (.getfield 125, 3) := by decide +kernel
theorem dX12_term_4 : decode cX12_term 4 = .ok (.aload_n 0, 1) := by decide +kernel
theorem dX12_term_5 : decode cX12_term 5 = .ok (.getfield 275, 3) := by decide +kernel
theorem dX12_term_8 : decode cX12_term 8 = .ok (.aload_n 0, 1) := by decide +kernel
theorem dX12_term_9 : decode cX12_term 9 = .ok (.getfield 278, 3) := by decide +kernel
theorem dX12_term_12 : decode cX12_term 12 = .ok (.iastore, 1) := by decide +kernel
theorem dX12_term_13 : decode cX12_term 13 = .ok (.aload_n 0, 1) := by decide +kernel
theorem dX12_term_14 : decode cX12_term 14 = .ok (.getfield 236, 3) := by decide +kernel
theorem dX12_term_17 : decode cX12_term 17 = .ok (.ifCond .ne 7, 3) := by decide +kernel
theorem dX12_term_20 : decode cX12_term 20 = .ok (.aload_n 0, 1) := by decide +kernel
theorem dX12_term_21 : decode cX12_term 21 = .ok (.invokevirtual 336, 3) := by decide +kernel
theorem dX12_term_24 : decode cX12_term 24 = .ok (.aload_n 0, 1) := by decide +kernel
theorem dX12_term_25 : decode cX12_term 25 = .ok (.getfield 128, 3) := by decide +kernel
theorem dX12_term_28 : decode cX12_term 28 = .ok (.aload_n 0, 1) := by decide +kernel
theorem dX12_term_29 : decode cX12_term 29 = .ok (.getfield 275, 3) := by decide +kernel
theorem dX12_term_32 : decode cX12_term 32 = .ok (.aload_n 0, 1) := by decide +kernel
theorem dX12_term_33 : decode cX12_term 33 = .ok (.getfield 278, 3) := by decide +kernel
theorem dX12_term_36 : decode cX12_term 36 = .ok (.iastore, 1) := by decide +kernel
theorem dX12_term_37 : decode cX12_term 37 = .ok (.aload_n 0, 1) := by decide +kernel
theorem dX12_term_38 : decode cX12_term 38 = .ok (.dup, 1) := by decide +kernel
theorem dX12_term_39 : decode cX12_term 39 = .ok (.getfield 275, 3) := by decide +kernel
theorem dX12_term_42 : decode cX12_term 42 = .ok (.iconst 1, 1) := by decide +kernel
theorem dX12_term_43 : decode cX12_term 43 = .ok (.iadd, 1) := by decide +kernel
theorem dX12_term_44 : decode cX12_term 44 = .ok (.putfield 275, 3) := by decide +kernel
theorem dX12_term_47 : decode cX12_term 47 = .ok (.return_, 1) := by decide +kernel
def c_X12_term (h : PH) : Option (PH) :=
  gd (ixOK (h.1 0 46) 260) <| nm (setI h 36 (h.1 0 46).toNatClampNeg (h.1 0 52)) fun h1 =>
  if (h1.1 0 13) = 0 then
    (c_X12_expression h1).bind fun h4 =>
    gd (ixOK (h4.1 0 46) 260) <| nm (setI h4 37 (h4.1 0 46).toNatClampNeg (h4.1 0 52)) fun h5 =>
    nm (setI h5 0 46 ((h5.1 0 46) + 1)) fun h6 =>
    some h6
  else
    gd (ixOK (h1.1 0 46) 260) <| nm (setI h1 37 (h1.1 0 46).toNatClampNeg (h1.1 0 52)) fun h2 =>
    nm (setI h2 0 46 ((h2.1 0 46) + 1)) fun h3 =>
    some h3
set_option maxHeartbeats 4000000 in
set_option maxRecDepth 100000 in
theorem ct_X12_term (l : Launch) {lay : List KK} (ho : okX12 lay) : CtV l yX12_term cX12_term 1 (none) 4 83 lay (fun h => c_X12_term h) (fun ad => [.ref (ad 0)]) := by
  refine CtV.mk' RX12 (by decide) rfl (fun _ => Nat.le_of_ble_eq_true rfl) ?_
  intro p0 e s m args below meth c D G A H0 ad X h r0 H ls Q hM hw hl hf hR
  have hl : lv_has ls 1 [(0, .ref (ad 0))] := hl
  unfold c_X12_term at hf
  refine lv_aload_n hM.1 hM.2.1 dX12_term_0 rfl (lv_at hl 0 rfl) ?_
  refine gf_X12_testTo hM hw (okX12.o ho) fl_X12_125 dX12_term_1 ?_
  refine lv_aload_n hM.1 hM.2.1 dX12_term_4 rfl (lv_at hl 0 rfl) ?_
  refine gf_X12_branches hM hw (okX12.o ho) fl_X12_275 dX12_term_5 ?_
  refine lv_aload_n hM.1 hM.2.1 dX12_term_8 rfl (lv_at hl 0 rfl) ?_
  refine gf_X12_codes hM hw (okX12.o ho) fl_X12_278 dX12_term_9 ?_
  refine x_iast hM hw (okX12.testTo ho) hf dX12_term_12 (fun h1 H locs hf hw => ?_)
  refine lv_aload_n hM.1 hM.2.1 dX12_term_13 rfl (lv_at hl 0 rfl) ?_
  refine gf_X12_fault hM hw (okX12.o ho) fl_X12_236 dX12_term_14 ?_
  refine x_if_ne (tgt := 24) hM hf dX12_term_17 (by decide) (fun hf => ?_) (fun hf => ?_)
  · refine lv_aload_n hM.1 hM.2.1 dX12_term_24 rfl (lv_at hl 0 rfl) ?_
    refine gf_X12_termTo hM hw (okX12.o ho) fl_X12_128 dX12_term_25 ?_
    refine lv_aload_n hM.1 hM.2.1 dX12_term_28 rfl (lv_at hl 0 rfl) ?_
    refine gf_X12_branches hM hw (okX12.o ho) fl_X12_275 dX12_term_29 ?_
    refine lv_aload_n hM.1 hM.2.1 dX12_term_32 rfl (lv_at hl 0 rfl) ?_
    refine gf_X12_codes hM hw (okX12.o ho) fl_X12_278 dX12_term_33 ?_
    refine x_iast hM hw (okX12.termTo ho) hf dX12_term_36 (fun h2 H locs hf hw => ?_)
    refine lv_aload_n hM.1 hM.2.1 dX12_term_37 rfl (lv_at hl 0 rfl) ?_
    refine lv_dup hM.1 hM.2.1 dX12_term_38 rfl ?_
    refine gf_X12_branches hM hw (okX12.o ho) fl_X12_275 dX12_term_39 ?_
    refine lv_iconst (v := 1) hM.1 hM.2.1 dX12_term_42 ic_1 ?_
    refine lv_iadd hM.1 hM.2.1 dX12_term_43 ?_
    refine pf_X12_branches hM hw (okX12.o ho) fl_X12_275 hf dX12_term_44 (fun h3 H locs hf hw => ?_)
    exact hR _ _ _ _ _ (Option.some.inj hf) rfl hw dX12_term_47
  refine lv_aload_n hM.1 hM.2.1 dX12_term_20 rfl (lv_at hl 0 rfl) ?_
  refine x_callVV (rest := []) hM hw (ct_X12_expression l ho) [] (okX12.o ho) rfl rfl rfl (gi_V ml_X12_336 im_X12_expression sl_X12_expression in_X12 kc_X12_expression) hd_X12_expression rfl ⟨Nat.le_of_ble_eq_true rfl, Nat.le_of_ble_eq_true rfl⟩ rfl (Nat.le_of_ble_eq_true rfl) hl.1 hcs0 hf dX12_term_21 (fun h4 H locs hf hw => ?_)
  refine lv_aload_n hM.1 hM.2.1 dX12_term_24 rfl (lv_at hl 0 rfl) ?_
  refine gf_X12_termTo hM hw (okX12.o ho) fl_X12_128 dX12_term_25 ?_
  refine lv_aload_n hM.1 hM.2.1 dX12_term_28 rfl (lv_at hl 0 rfl) ?_
  refine gf_X12_branches hM hw (okX12.o ho) fl_X12_275 dX12_term_29 ?_
  refine lv_aload_n hM.1 hM.2.1 dX12_term_32 rfl (lv_at hl 0 rfl) ?_
  refine gf_X12_codes hM hw (okX12.o ho) fl_X12_278 dX12_term_33 ?_
  refine x_iast hM hw (okX12.termTo ho) hf dX12_term_36 (fun h5 H locs hf hw => ?_)
  refine lv_aload_n hM.1 hM.2.1 dX12_term_37 rfl (lv_at hl 0 rfl) ?_
  refine lv_dup hM.1 hM.2.1 dX12_term_38 rfl ?_
  refine gf_X12_branches hM hw (okX12.o ho) fl_X12_275 dX12_term_39 ?_
  refine lv_iconst (v := 1) hM.1 hM.2.1 dX12_term_42 ic_1 ?_
  refine lv_iadd hM.1 hM.2.1 dX12_term_43 ?_
  refine pf_X12_branches hM hw (okX12.o ho) fl_X12_275 hf dX12_term_44 (fun h6 H locs hf hw => ?_)
  exact hR _ _ _ _ _ (Option.some.inj hf) rfl hw dX12_term_47
theorem hd_X12_term : yX12_term.cls = RX12 ∧ yX12_term.cls ≠ "java/lang/invoke/MethodHandle" ∧ yX12_term.cls ≠ "java/lang/invoke/VarHandle" ∧ (parseMethodDescriptor yX12_term.desc).map (fun d => d.parameters.length) = some 0 := ⟨rfl, by decide, by decide, by decide +kernel⟩
theorem dX12_tellLaw_0 : decode cX12_tellLaw 0 = .ok (.aload_n 0, 1) := by decide +kernel
theorem dX12_tellLaw_1 : decode cX12_tellLaw 1 = .ok (.iconst 5, 1) := by decide +kernel
theorem dX12_tellLaw_2 : decode cX12_tellLaw 2 = .ok (.invokevirtual 316, 3) := by decide +kernel
theorem dX12_tellLaw_5 : decode cX12_tellLaw 5 = .ok (.aload_n 0, 1) := by decide +kernel
theorem dX12_tellLaw_6 : decode cX12_tellLaw 6 = .ok (.getfield 275, 3) := by decide +kernel
theorem dX12_tellLaw_9 : decode cX12_tellLaw 9 = .ok (.istore_n 2, 1) := by decide +kernel
theorem dX12_tellLaw_10 : decode cX12_tellLaw 10 = .ok (.iconst 0, 1) := by decide +kernel
theorem dX12_tellLaw_11 : decode cX12_tellLaw 11 = .ok (.istore_n 3, 1) := by decide +kernel
theorem dX12_tellLaw_12 : decode cX12_tellLaw 12 = .ok (.aload_n 0, 1) := by decide +kernel
theorem dX12_tellLaw_13 : decode cX12_tellLaw 13 = .ok (.getfield 236, 3) := by decide +kernel
theorem dX12_tellLaw_16 : decode cX12_tellLaw 16 = .ok (.ifCond .ne 113, 3) := by decide +kernel
theorem dX12_tellLaw_19 : decode cX12_tellLaw 19 = .ok (.aload_n 0, 1) := by decide +kernel
theorem dX12_tellLaw_20 : decode cX12_tellLaw 20 = .ok (.bipush 31, 2) := by decide +kernel
theorem dX12_tellLaw_22 : decode cX12_tellLaw 22 = .ok (.invokevirtual 254, 3) := by decide +kernel
theorem dX12_tellLaw_25 : decode cX12_tellLaw 25 = .ok (.ifCond .eq 104, 3) := by decide +kernel
theorem dX12_tellLaw_28 : decode cX12_tellLaw 28 = .ok (.iload_n 3, 1) := by decide +kernel
theorem dX12_tellLaw_29 : decode cX12_tellLaw 29 = .ok (.iconst 4, 1) := by decide +kernel
theorem dX12_tellLaw_30 : decode cX12_tellLaw 30 = .ok (.if_icmp .ne 8, 3) := by decide +kernel
theorem dX12_tellLaw_33 : decode cX12_tellLaw 33 = .ok (.aload_n 0, 1) := by decide +kernel
theorem dX12_tellLaw_34 : decode cX12_tellLaw 34 = .ok (.iconst 2, 1) := by decide +kernel
theorem dX12_tellLaw_35 : decode cX12_tellLaw 35 = .ok (.invokevirtual 251, 3) := by decide +kernel
theorem dX12_tellLaw_38 : decode cX12_tellLaw 38 = .ok (.aload_n 0, 1) := by decide +kernel
theorem dX12_tellLaw_39 : decode cX12_tellLaw 39 = .ok (.getfield 236, 3) := by decide +kernel
theorem dX12_tellLaw_42 : decode cX12_tellLaw 42 = .ok (.ifCond .le 4, 3) := by decide +kernel
theorem dX12_tellLaw_45 : decode cX12_tellLaw 45 = .ok (.return_, 1) := by decide +kernel
theorem dX12_tellLaw_46 : decode cX12_tellLaw 46 = .ok (.iinc 3 1, 3) := by decide +kernel
theorem dX12_tellLaw_49 : decode cX12_tellLaw 49 = .ok (.aload_n 0, 1) := by decide +kernel
theorem dX12_tellLaw_50 : decode cX12_tellLaw 50 = .ok (.invokevirtual 257, 3) := by decide +kernel
theorem dX12_tellLaw_53 : decode cX12_tellLaw 53 = .ok (.aload_n 0, 1) := by decide +kernel
theorem dX12_tellLaw_54 : decode cX12_tellLaw 54 = .ok (.getfield 116, 3) := by decide +kernel
theorem dX12_tellLaw_57 : decode cX12_tellLaw 57 = .ok (.aload_n 0, 1) := by decide +kernel
theorem dX12_tellLaw_58 : decode cX12_tellLaw 58 = .ok (.getfield 275, 3) := by decide +kernel
theorem dX12_tellLaw_61 : decode cX12_tellLaw 61 = .ok (.iconst 1, 1) := by decide +kernel
theorem dX12_tellLaw_62 : decode cX12_tellLaw 62 = .ok (.bastore, 1) := by decide +kernel
theorem dX12_tellLaw_63 : decode cX12_tellLaw 63 = .ok (.aload_n 0, 1) := by decide +kernel
theorem dX12_tellLaw_64 : decode cX12_tellLaw 64 = .ok (.getfield 119, 3) := by decide +kernel
theorem dX12_tellLaw_67 : decode cX12_tellLaw 67 = .ok (.aload_n 0, 1) := by decide +kernel
theorem dX12_tellLaw_68 : decode cX12_tellLaw 68 = .ok (.getfield 275, 3) := by decide +kernel
theorem dX12_tellLaw_71 : decode cX12_tellLaw 71 = .ok (.aload_n 0, 1) := by decide +kernel
theorem dX12_tellLaw_72 : decode cX12_tellLaw 72 = .ok (.getfield 278, 3) := by decide +kernel
theorem dX12_tellLaw_75 : decode cX12_tellLaw 75 = .ok (.iastore, 1) := by decide +kernel
theorem dX12_tellLaw_76 : decode cX12_tellLaw 76 = .ok (.aload_n 0, 1) := by decide +kernel
theorem dX12_tellLaw_77 : decode cX12_tellLaw 77 = .ok (.invokevirtual 336, 3) := by decide +kernel
theorem dX12_tellLaw_80 : decode cX12_tellLaw 80 = .ok (.aload_n 0, 1) := by decide +kernel
theorem dX12_tellLaw_81 : decode cX12_tellLaw 81 = .ok (.bipush 13, 2) := by decide +kernel
theorem dX12_tellLaw_83 : decode cX12_tellLaw 83 = .ok (.invokevirtual 316, 3) := by decide +kernel
theorem dX12_tellLaw_86 : decode cX12_tellLaw 86 = .ok (.aload_n 0, 1) := by decide +kernel
theorem dX12_tellLaw_87 : decode cX12_tellLaw 87 = .ok (.getfield 122, 3) := by decide +kernel
theorem dX12_tellLaw_90 : decode cX12_tellLaw 90 = .ok (.aload_n 0, 1) := by decide +kernel
theorem dX12_tellLaw_91 : decode cX12_tellLaw 91 = .ok (.getfield 275, 3) := by decide +kernel
theorem dX12_tellLaw_94 : decode cX12_tellLaw 94 = .ok (.aload_n 0, 1) := by decide +kernel
theorem dX12_tellLaw_95 : decode cX12_tellLaw 95 = .ok (.getfield 278, 3) := by decide +kernel
theorem dX12_tellLaw_98 : decode cX12_tellLaw 98 = .ok (.iastore, 1) := by decide +kernel
theorem dX12_tellLaw_99 : decode cX12_tellLaw 99 = .ok (.aload_n 0, 1) := by decide +kernel
theorem dX12_tellLaw_100 : decode cX12_tellLaw 100 = .ok (.getfield 236, 3) := by decide +kernel
theorem dX12_tellLaw_103 : decode cX12_tellLaw 103 = .ok (.ifCond .ne 7, 3) := by decide +kernel
theorem dX12_tellLaw_106 : decode cX12_tellLaw 106 = .ok (.aload_n 0, 1) := by decide +kernel
theorem dX12_tellLaw_107 : decode cX12_tellLaw 107 = .ok (.invokevirtual 336, 3) := by decide +kernel
theorem dX12_tellLaw_110 : decode cX12_tellLaw 110 = .ok (.aload_n 0, 1) := by decide +kernel
theorem dX12_tellLaw_111 : decode cX12_tellLaw 111 = .ok (.bipush 32, 2) := by decide +kernel
theorem dX12_tellLaw_113 : decode cX12_tellLaw 113 = .ok (.invokevirtual 316, 3) := by decide +kernel
theorem dX12_tellLaw_116 : decode cX12_tellLaw 116 = .ok (.aload_n 0, 1) := by decide +kernel
theorem dX12_tellLaw_117 : decode cX12_tellLaw 117 = .ok (.invokevirtual 339, 3) := by decide +kernel
theorem dX12_tellLaw_120 : decode cX12_tellLaw 120 = .ok (.aload_n 0, 1) := by decide +kernel
theorem dX12_tellLaw_121 : decode cX12_tellLaw 121 = .ok (.bipush 33, 2) := by decide +kernel
theorem dX12_tellLaw_123 : decode cX12_tellLaw 123 = .ok (.invokevirtual 316, 3) := by decide +kernel
theorem dX12_tellLaw_126 : decode cX12_tellLaw 126 = .ok (.goto (-114), 3) := by decide +kernel
theorem dX12_tellLaw_129 : decode cX12_tellLaw 129 = .ok (.aload_n 0, 1) := by decide +kernel
theorem dX12_tellLaw_130 : decode cX12_tellLaw 130 = .ok (.getfield 116, 3) := by decide +kernel
theorem dX12_tellLaw_133 : decode cX12_tellLaw 133 = .ok (.aload_n 0, 1) := by decide +kernel
theorem dX12_tellLaw_134 : decode cX12_tellLaw 134 = .ok (.getfield 275, 3) := by decide +kernel
theorem dX12_tellLaw_137 : decode cX12_tellLaw 137 = .ok (.iconst 0, 1) := by decide +kernel
theorem dX12_tellLaw_138 : decode cX12_tellLaw 138 = .ok (.bastore, 1) := by decide +kernel
theorem dX12_tellLaw_139 : decode cX12_tellLaw 139 = .ok (.aload_n 0, 1) := by decide +kernel
theorem dX12_tellLaw_140 : decode cX12_tellLaw 140 = .ok (.invokevirtual 339, 3) := by decide +kernel
theorem dX12_tellLaw_143 : decode cX12_tellLaw 143 = .ok (.aload_n 0, 1) := by decide +kernel
theorem dX12_tellLaw_144 : decode cX12_tellLaw 144 = .ok (.iconst 4, 1) := by decide +kernel
theorem dX12_tellLaw_145 : decode cX12_tellLaw 145 = .ok (.invokevirtual 316, 3) := by decide +kernel
theorem dX12_tellLaw_148 : decode cX12_tellLaw 148 = .ok (.aload_n 0, 1) := by decide +kernel
theorem dX12_tellLaw_149 : decode cX12_tellLaw 149 = .ok (.getfield 236, 3) := by decide +kernel
theorem dX12_tellLaw_152 : decode cX12_tellLaw 152 = .ok (.ifCond .le 4, 3) := by decide +kernel
theorem dX12_tellLaw_155 : decode cX12_tellLaw 155 = .ok (.return_, 1) := by decide +kernel
theorem dX12_tellLaw_156 : decode cX12_tellLaw 156 = .ok (.aload_n 0, 1) := by decide +kernel
theorem dX12_tellLaw_157 : decode cX12_tellLaw 157 = .ok (.getfield 110, 3) := by decide +kernel
theorem dX12_tellLaw_160 : decode cX12_tellLaw 160 = .ok (.iconst 2, 1) := by decide +kernel
theorem dX12_tellLaw_161 : decode cX12_tellLaw 161 = .ok (.aload_n 0, 1) := by decide +kernel
theorem dX12_tellLaw_162 : decode cX12_tellLaw 162 = .ok (.getfield 269, 3) := by decide +kernel
theorem dX12_tellLaw_165 : decode cX12_tellLaw 165 = .ok (.imul, 1) := by decide +kernel
theorem dX12_tellLaw_166 : decode cX12_tellLaw 166 = .ok (.iload_n 1, 1) := by decide +kernel
theorem dX12_tellLaw_167 : decode cX12_tellLaw 167 = .ok (.iadd, 1) := by decide +kernel
theorem dX12_tellLaw_168 : decode cX12_tellLaw 168 = .ok (.iload_n 2, 1) := by decide +kernel
theorem dX12_tellLaw_169 : decode cX12_tellLaw 169 = .ok (.iastore, 1) := by decide +kernel
theorem dX12_tellLaw_170 : decode cX12_tellLaw 170 = .ok (.aload_n 0, 1) := by decide +kernel
theorem dX12_tellLaw_171 : decode cX12_tellLaw 171 = .ok (.getfield 113, 3) := by decide +kernel
theorem dX12_tellLaw_174 : decode cX12_tellLaw 174 = .ok (.iconst 2, 1) := by decide +kernel
theorem dX12_tellLaw_175 : decode cX12_tellLaw 175 = .ok (.aload_n 0, 1) := by decide +kernel
theorem dX12_tellLaw_176 : decode cX12_tellLaw 176 = .ok (.getfield 269, 3) := by decide +kernel
theorem dX12_tellLaw_179 : decode cX12_tellLaw 179 = .ok (.imul, 1) := by decide +kernel
theorem dX12_tellLaw_180 : decode cX12_tellLaw 180 = .ok (.iload_n 1, 1) := by decide +kernel
theorem dX12_tellLaw_181 : decode cX12_tellLaw 181 = .ok (.iadd, 1) := by decide +kernel
theorem dX12_tellLaw_182 : decode cX12_tellLaw 182 = .ok (.aload_n 0, 1) := by decide +kernel
theorem dX12_tellLaw_183 : decode cX12_tellLaw 183 = .ok (.getfield 275, 3) := by decide +kernel
theorem dX12_tellLaw_186 : decode cX12_tellLaw 186 = .ok (.iastore, 1) := by decide +kernel
theorem dX12_tellLaw_187 : decode cX12_tellLaw 187 = .ok (.return_, 1) := by decide +kernel
def c_X12_tellLaw_j38 {ρ : Type}  (z1 : Int32) (z2 : Int32) (K1 : PH → Option ρ) (K2 : PH → Option ρ) (REC : Int32 → PH → Option ρ) (x3 : Int32) (h : PH) : Option (ρ) :=
  if (h.1 0 13) ≤ 0 then
    nm (x3 + 1) fun v5 =>
    (c_X12_goesOn h).bind fun h6 =>
    gd (ixOK (h6.1 0 46) 260) <| nm (setI h6 33 (h6.1 0 46).toNatClampNeg (vp_nar .boolean 1)) fun h7 =>
    gd (ixOK (h7.1 0 46) 260) <| nm (setI h7 34 (h7.1 0 46).toNatClampNeg (h7.1 0 52)) fun h8 =>
    (c_X12_expression h8).bind fun h9 =>
    (c_X12_must 13 h9).bind fun h10 =>
    gd (ixOK (h10.1 0 46) 260) <| nm (setI h10 35 (h10.1 0 46).toNatClampNeg (h10.1 0 52)) fun h11 =>
    if (h11.1 0 13) = 0 then
      (c_X12_expression h11).bind fun h15 =>
      (c_X12_must 32 h15).bind fun h16 =>
      (c_X12_term h16).bind fun h17 =>
      (c_X12_must 33 h17).bind fun h18 =>
      REC v5 h18
    else
      (c_X12_must 32 h11).bind fun h12 =>
      (c_X12_term h12).bind fun h13 =>
      (c_X12_must 33 h13).bind fun h14 =>
      REC v5 h14
  else
    K1 h
set_option maxHeartbeats 4000000 in
set_option maxRecDepth 100000 in
theorem w_X12_tellLaw_j38 {p0 : Program} {l : Launch} {e : Env} {s : State} {m : MethodId} {args : Array Value} {below : List Frame} {meth : Method} {c : Code} {Q : State → Prop} {D : va_G} {G : GG} {A : Nat → Prop} {H0 : Heap} {ad : Nat → Nat} {lay : List KK} {X : va_W} {ρ : Type} {r0 : ρ} {x3 : Int32} {z1 : Int32} {z2 : Int32} {h : PH} {H : Heap} {locs : List Loc} {ls : Array Slot} {K1 : PH → Option ρ} {K2 : PH → Option ρ} {REC : Int32 → PH → Option ρ} (hM : CallFix p0 m c cX12_tellLaw 4 s args lw_g RX12) (ho : okX12 lay) (hk1 : ∀ (h : PH), ∀ (H : Heap) (locs : List Loc) (ls : Array Slot), K1 h = some r0 → Wd D G A H0 ad lay X h s H locs → lv_has ls 4 [] → W p0 l e (rmN 5 103) s m args below meth c H locs 0 0 Q (F0 m 45 ls [])) (hk2 : ∀ (h : PH), ∀ (H : Heap) (locs : List Loc) (ls : Array Slot), K2 h = some r0 → Wd D G A H0 ad lay X h s H locs → lv_has ls 4 [(0, .ref (ad 0)), (1, .int z1), (2, .int z2)] → W p0 l e (rmN 5 103) s m args below meth c H locs 0 0 Q (F0 m 129 ls [])) (hrec : ∀ (x3 : Int32) (h : PH), ∀ (H : Heap) (locs : List Loc) (ls : Array Slot), REC x3 h = some r0 → Wd D G A H0 ad lay X h s H locs → lv_has ls 4 [(0, .ref (ad 0)), (1, .int z1), (2, .int z2), (3, .int x3)] → W p0 l e (rmN 5 103) s m args below meth c H locs 0 0 Q (F0 m 12 ls [])) (hw : Wd D G A H0 ad lay X h s H locs) (hl : lv_has ls 4 [(0, .ref (ad 0)), (1, .int z1), (2, .int z2), (3, .int x3)]) (hf : c_X12_tellLaw_j38 z1 z2 K1 K2 REC x3 h = some r0) : W p0 l e (rmN 5 103) s m args below meth c H locs 0 0 Q (F0 m 38 ls []) := by
  unfold c_X12_tellLaw_j38 at hf
  refine lv_aload_n hM.1 hM.2.1 dX12_tellLaw_38 rfl (lv_at hl 0 rfl) ?_
  refine gf_X12_fault hM hw (okX12.o ho) fl_X12_236 dX12_tellLaw_39 ?_
  refine x_if_le (tgt := 46) hM hf dX12_tellLaw_42 (by decide) (fun hf => ?_) (fun hf => ?_)
  · refine x_iinc (k := 3) (d := 1) hM hf dX12_tellLaw_46 hl rfl (by decide) (by decide) (fun v5 => [(3, .int v5), (0, .ref (ad 0)), (1, .int z1), (2, .int z2)]) (fun _ => rfl) (fun v5 ls hf hl => ?_)
    refine lv_aload_n hM.1 hM.2.1 dX12_tellLaw_49 rfl (lv_at hl 1 rfl) ?_
    refine x_callVV (rest := []) hM hw (ct_X12_goesOn l ho) [] (okX12.o ho) rfl rfl rfl (gi_V ml_X12_257 im_X12_goesOn sl_X12_goesOn in_X12 kc_X12_goesOn) hd_X12_goesOn rfl ⟨Nat.le_of_ble_eq_true rfl, Nat.le_of_ble_eq_true rfl⟩ rfl (Nat.le_of_ble_eq_true rfl) hl.1 hcs0 hf dX12_tellLaw_50 (fun h6 H locs hf hw => ?_)
    refine lv_aload_n hM.1 hM.2.1 dX12_tellLaw_53 rfl (lv_at hl 1 rfl) ?_
    refine gf_X12_hasTest hM hw (okX12.o ho) fl_X12_116 dX12_tellLaw_54 ?_
    refine lv_aload_n hM.1 hM.2.1 dX12_tellLaw_57 rfl (lv_at hl 1 rfl) ?_
    refine gf_X12_branches hM hw (okX12.o ho) fl_X12_275 dX12_tellLaw_58 ?_
    refine lv_iconst (v := 1) hM.1 hM.2.1 dX12_tellLaw_61 ic_1 ?_
    refine x_zast hM hw (okX12.hasTest ho) hf dX12_tellLaw_62 (fun h7 H locs hf hw => ?_)
    refine lv_aload_n hM.1 hM.2.1 dX12_tellLaw_63 rfl (lv_at hl 1 rfl) ?_
    refine gf_X12_testFrom hM hw (okX12.o ho) fl_X12_119 dX12_tellLaw_64 ?_
    refine lv_aload_n hM.1 hM.2.1 dX12_tellLaw_67 rfl (lv_at hl 1 rfl) ?_
    refine gf_X12_branches hM hw (okX12.o ho) fl_X12_275 dX12_tellLaw_68 ?_
    refine lv_aload_n hM.1 hM.2.1 dX12_tellLaw_71 rfl (lv_at hl 1 rfl) ?_
    refine gf_X12_codes hM hw (okX12.o ho) fl_X12_278 dX12_tellLaw_72 ?_
    refine x_iast hM hw (okX12.testFrom ho) hf dX12_tellLaw_75 (fun h8 H locs hf hw => ?_)
    refine lv_aload_n hM.1 hM.2.1 dX12_tellLaw_76 rfl (lv_at hl 1 rfl) ?_
    refine x_callVV (rest := []) hM hw (ct_X12_expression l ho) [] (okX12.o ho) rfl rfl rfl (gi_V ml_X12_336 im_X12_expression sl_X12_expression in_X12 kc_X12_expression) hd_X12_expression rfl ⟨Nat.le_of_ble_eq_true rfl, Nat.le_of_ble_eq_true rfl⟩ rfl (Nat.le_of_ble_eq_true rfl) hl.1 hcs0 hf dX12_tellLaw_77 (fun h9 H locs hf hw => ?_)
    refine lv_aload_n hM.1 hM.2.1 dX12_tellLaw_80 rfl (lv_at hl 1 rfl) ?_
    refine lv_bipush (v := 13) hM.1 hM.2.1 dX12_tellLaw_81 (by decide) ?_
    refine x_callVV (rest := []) hM hw (ct_X12_must l ho 13) [.int 13] (okX12.o ho) rfl rfl rfl (gi_V ml_X12_316 im_X12_must sl_X12_must in_X12 kc_X12_must) hd_X12_must rfl ⟨Nat.le_of_ble_eq_true rfl, Nat.le_of_ble_eq_true rfl⟩ rfl (Nat.le_of_ble_eq_true rfl) hl.1 hcs0 hf dX12_tellLaw_83 (fun h10 H locs hf hw => ?_)
    refine lv_aload_n hM.1 hM.2.1 dX12_tellLaw_86 rfl (lv_at hl 1 rfl) ?_
    refine gf_X12_testMid hM hw (okX12.o ho) fl_X12_122 dX12_tellLaw_87 ?_
    refine lv_aload_n hM.1 hM.2.1 dX12_tellLaw_90 rfl (lv_at hl 1 rfl) ?_
    refine gf_X12_branches hM hw (okX12.o ho) fl_X12_275 dX12_tellLaw_91 ?_
    refine lv_aload_n hM.1 hM.2.1 dX12_tellLaw_94 rfl (lv_at hl 1 rfl) ?_
    refine gf_X12_codes hM hw (okX12.o ho) fl_X12_278 dX12_tellLaw_95 ?_
    refine x_iast hM hw (okX12.testMid ho) hf dX12_tellLaw_98 (fun h11 H locs hf hw => ?_)
    refine lv_aload_n hM.1 hM.2.1 dX12_tellLaw_99 rfl (lv_at hl 1 rfl) ?_
    refine gf_X12_fault hM hw (okX12.o ho) fl_X12_236 dX12_tellLaw_100 ?_
    refine x_if_ne (tgt := 110) hM hf dX12_tellLaw_103 (by decide) (fun hf => ?_) (fun hf => ?_)
    · refine lv_aload_n hM.1 hM.2.1 dX12_tellLaw_110 rfl (lv_at hl 1 rfl) ?_
      refine lv_bipush (v := 32) hM.1 hM.2.1 dX12_tellLaw_111 (by decide) ?_
      refine x_callVV (rest := []) hM hw (ct_X12_must l ho 32) [.int 32] (okX12.o ho) rfl rfl rfl (gi_V ml_X12_316 im_X12_must sl_X12_must in_X12 kc_X12_must) hd_X12_must rfl ⟨Nat.le_of_ble_eq_true rfl, Nat.le_of_ble_eq_true rfl⟩ rfl (Nat.le_of_ble_eq_true rfl) hl.1 hcs0 hf dX12_tellLaw_113 (fun h12 H locs hf hw => ?_)
      refine lv_aload_n hM.1 hM.2.1 dX12_tellLaw_116 rfl (lv_at hl 1 rfl) ?_
      refine x_callVV (rest := []) hM hw (ct_X12_term l ho) [] (okX12.o ho) rfl rfl rfl (gi_V ml_X12_339 im_X12_term sl_X12_term in_X12 kc_X12_term) hd_X12_term rfl ⟨Nat.le_of_ble_eq_true rfl, Nat.le_of_ble_eq_true rfl⟩ rfl (Nat.le_of_ble_eq_true rfl) hl.1 hcs0 hf dX12_tellLaw_117 (fun h13 H locs hf hw => ?_)
      refine lv_aload_n hM.1 hM.2.1 dX12_tellLaw_120 rfl (lv_at hl 1 rfl) ?_
      refine lv_bipush (v := 33) hM.1 hM.2.1 dX12_tellLaw_121 (by decide) ?_
      refine x_callVV (rest := []) hM hw (ct_X12_must l ho 33) [.int 33] (okX12.o ho) rfl rfl rfl (gi_V ml_X12_316 im_X12_must sl_X12_must in_X12 kc_X12_must) hd_X12_must rfl ⟨Nat.le_of_ble_eq_true rfl, Nat.le_of_ble_eq_true rfl⟩ rfl (Nat.le_of_ble_eq_true rfl) hl.1 hcs0 hf dX12_tellLaw_123 (fun h14 H locs hf hw => ?_)
      refine lv_goto (tgt := 12) hM.1 hM.2.1 dX12_tellLaw_126 (by decide) ?_
      exact hrec _ _ _ _ _ hf hw (lv_sub hl [1, 2, 3, 0] rfl)
    refine lv_aload_n hM.1 hM.2.1 dX12_tellLaw_106 rfl (lv_at hl 1 rfl) ?_
    refine x_callVV (rest := []) hM hw (ct_X12_expression l ho) [] (okX12.o ho) rfl rfl rfl (gi_V ml_X12_336 im_X12_expression sl_X12_expression in_X12 kc_X12_expression) hd_X12_expression rfl ⟨Nat.le_of_ble_eq_true rfl, Nat.le_of_ble_eq_true rfl⟩ rfl (Nat.le_of_ble_eq_true rfl) hl.1 hcs0 hf dX12_tellLaw_107 (fun h15 H locs hf hw => ?_)
    refine lv_aload_n hM.1 hM.2.1 dX12_tellLaw_110 rfl (lv_at hl 1 rfl) ?_
    refine lv_bipush (v := 32) hM.1 hM.2.1 dX12_tellLaw_111 (by decide) ?_
    refine x_callVV (rest := []) hM hw (ct_X12_must l ho 32) [.int 32] (okX12.o ho) rfl rfl rfl (gi_V ml_X12_316 im_X12_must sl_X12_must in_X12 kc_X12_must) hd_X12_must rfl ⟨Nat.le_of_ble_eq_true rfl, Nat.le_of_ble_eq_true rfl⟩ rfl (Nat.le_of_ble_eq_true rfl) hl.1 hcs0 hf dX12_tellLaw_113 (fun h16 H locs hf hw => ?_)
    refine lv_aload_n hM.1 hM.2.1 dX12_tellLaw_116 rfl (lv_at hl 1 rfl) ?_
    refine x_callVV (rest := []) hM hw (ct_X12_term l ho) [] (okX12.o ho) rfl rfl rfl (gi_V ml_X12_339 im_X12_term sl_X12_term in_X12 kc_X12_term) hd_X12_term rfl ⟨Nat.le_of_ble_eq_true rfl, Nat.le_of_ble_eq_true rfl⟩ rfl (Nat.le_of_ble_eq_true rfl) hl.1 hcs0 hf dX12_tellLaw_117 (fun h17 H locs hf hw => ?_)
    refine lv_aload_n hM.1 hM.2.1 dX12_tellLaw_120 rfl (lv_at hl 1 rfl) ?_
    refine lv_bipush (v := 33) hM.1 hM.2.1 dX12_tellLaw_121 (by decide) ?_
    refine x_callVV (rest := []) hM hw (ct_X12_must l ho 33) [.int 33] (okX12.o ho) rfl rfl rfl (gi_V ml_X12_316 im_X12_must sl_X12_must in_X12 kc_X12_must) hd_X12_must rfl ⟨Nat.le_of_ble_eq_true rfl, Nat.le_of_ble_eq_true rfl⟩ rfl (Nat.le_of_ble_eq_true rfl) hl.1 hcs0 hf dX12_tellLaw_123 (fun h18 H locs hf hw => ?_)
    refine lv_goto (tgt := 12) hM.1 hM.2.1 dX12_tellLaw_126 (by decide) ?_
    exact hrec _ _ _ _ _ hf hw (lv_sub hl [1, 2, 3, 0] rfl)
  exact hk1 _ _ _ _ hf hw (lv_sub hl [] rfl)
def c_X12_tellLaw_L12b {ρ : Type}  (z1 : Int32) (z2 : Int32) (K1 : PH → Option ρ) (K2 : PH → Option ρ) (REC : Int32 → PH → Option ρ) (x3 : Int32) (h : PH) : Option ρ :=
  if (h.1 0 13) = 0 then
    (c_X12_is 31 h).bind fun r4 =>
    if r4 = 0 then
      K2 h
    else
      if x3 = 4 then
        (c_X12_fail 2 h).bind fun h19 =>
        c_X12_tellLaw_j38 z1 z2 K1 K2 REC x3 h19
      else
        c_X12_tellLaw_j38 z1 z2 K1 K2 REC x3 h
  else
    K2 h
set_option maxHeartbeats 4000000 in
set_option maxRecDepth 100000 in
theorem w_X12_tellLaw_L12b {p0 : Program} {l : Launch} {e : Env} {s : State} {m : MethodId} {args : Array Value} {below : List Frame} {meth : Method} {c : Code} {Q : State → Prop} {D : va_G} {G : GG} {A : Nat → Prop} {H0 : Heap} {ad : Nat → Nat} {lay : List KK} {X : va_W} {ρ : Type} {r0 : ρ} {z1 : Int32} {z2 : Int32} {x3 : Int32} {h : PH} {H : Heap} {locs : List Loc} {ls : Array Slot} {K1 : PH → Option ρ} {K2 : PH → Option ρ} {REC : Int32 → PH → Option ρ} (hM : CallFix p0 m c cX12_tellLaw 4 s args lw_g RX12) (ho : okX12 lay) (hk1 : ∀ (h : PH), ∀ (H : Heap) (locs : List Loc) (ls : Array Slot), K1 h = some r0 → Wd D G A H0 ad lay X h s H locs → lv_has ls 4 [] → W p0 l e (rmN 5 103) s m args below meth c H locs 0 0 Q (F0 m 45 ls [])) (hk2 : ∀ (h : PH), ∀ (H : Heap) (locs : List Loc) (ls : Array Slot), K2 h = some r0 → Wd D G A H0 ad lay X h s H locs → lv_has ls 4 [(0, .ref (ad 0)), (1, .int z1), (2, .int z2)] → W p0 l e (rmN 5 103) s m args below meth c H locs 0 0 Q (F0 m 129 ls [])) (hrec : ∀ (x3 : Int32) (h : PH), ∀ (H : Heap) (locs : List Loc) (ls : Array Slot), REC x3 h = some r0 → Wd D G A H0 ad lay X h s H locs → lv_has ls 4 [(0, .ref (ad 0)), (1, .int z1), (2, .int z2), (3, .int x3)] → W p0 l e (rmN 5 103) s m args below meth c H locs 0 0 Q (F0 m 12 ls [])) (hw : Wd D G A H0 ad lay X h s H locs) (hl : lv_has ls 4 [(0, .ref (ad 0)), (1, .int z1), (2, .int z2), (3, .int x3)]) (hf : c_X12_tellLaw_L12b z1 z2 K1 K2 REC x3 h = some r0) : W p0 l e (rmN 5 103) s m args below meth c H locs 0 0 Q (F0 m 12 ls []) := by
  unfold c_X12_tellLaw_L12b at hf
  refine lv_aload_n hM.1 hM.2.1 dX12_tellLaw_12 rfl (lv_at hl 0 rfl) ?_
  refine gf_X12_fault hM hw (okX12.o ho) fl_X12_236 dX12_tellLaw_13 ?_
  refine x_if_ne (tgt := 129) hM hf dX12_tellLaw_16 (by decide) (fun hf => ?_) (fun hf => ?_)
  · exact hk2 _ _ _ _ hf hw (lv_sub hl [0, 1, 2] rfl)
  refine lv_aload_n hM.1 hM.2.1 dX12_tellLaw_19 rfl (lv_at hl 0 rfl) ?_
  refine lv_bipush (v := 31) hM.1 hM.2.1 dX12_tellLaw_20 (by decide) ?_
  refine x_callVIr (rest := []) hM hw (ct_X12_is l ho 31) [.int 31] (okX12.o ho) rfl rfl rfl (gi_V ml_X12_254 im_X12_is sl_X12_is in_X12 kc_X12_is) hd_X12_is rfl ⟨Nat.le_of_ble_eq_true rfl, Nat.le_of_ble_eq_true rfl⟩ rfl (Nat.le_of_ble_eq_true rfl) hl.1 hcs0 hf dX12_tellLaw_22 (fun r4 H locs hf hw => ?_)
  refine x_if_eq (tgt := 129) hM hf dX12_tellLaw_25 (by decide) (fun hf => ?_) (fun hf => ?_)
  · exact hk2 _ _ _ _ hf hw (lv_sub hl [0, 1, 2] rfl)
  refine lv_iload_n hM.1 hM.2.1 dX12_tellLaw_28 rfl (lv_at hl 3 rfl) ?_
  refine lv_iconst (v := 4) hM.1 hM.2.1 dX12_tellLaw_29 ic_4 ?_
  refine x_ic_ne (tgt := 38) hM hf dX12_tellLaw_30 (by decide) (fun hf => ?_) (fun hf => ?_)
  · exact w_X12_tellLaw_j38 hM ho hk1 hk2 hrec hw hl hf
  refine lv_aload_n hM.1 hM.2.1 dX12_tellLaw_33 rfl (lv_at hl 0 rfl) ?_
  refine lv_iconst (v := 2) hM.1 hM.2.1 dX12_tellLaw_34 ic_2 ?_
  refine x_callVV (rest := []) hM hw (ct_X12_fail l ho 2) [.int 2] (okX12.o ho) rfl rfl rfl (gi_V ml_X12_251 im_X12_fail sl_X12_fail in_X12 kc_X12_fail) hd_X12_fail rfl ⟨Nat.le_of_ble_eq_true rfl, Nat.le_of_ble_eq_true rfl⟩ rfl (Nat.le_of_ble_eq_true rfl) hl.1 hcs0 hf dX12_tellLaw_35 (fun h19 H locs hf hw => ?_)
  exact w_X12_tellLaw_j38 hM ho hk1 hk2 hrec hw hl hf
set_option maxHeartbeats 4000000 in
set_option maxRecDepth 100000 in
theorem w_X12_tellLaw_L12 {p0 : Program} {l : Launch} {e : Env} {s : State} {m : MethodId} {args : Array Value} {below : List Frame} {meth : Method} {c : Code} {Q : State → Prop} {D : va_G} {G : GG} {A : Nat → Prop} {H0 : Heap} {ad : Nat → Nat} {lay : List KK} {X : va_W} {ρ : Type} {r0 : ρ} {z1 : Int32} {z2 : Int32} {K1 : PH → Option ρ} {K2 : PH → Option ρ} (hM : CallFix p0 m c cX12_tellLaw 4 s args lw_g RX12) (ho : okX12 lay) (hk1 : ∀ (h : PH), ∀ (H : Heap) (locs : List Loc) (ls : Array Slot), K1 h = some r0 → Wd D G A H0 ad lay X h s H locs → lv_has ls 4 [] → W p0 l e (rmN 5 103) s m args below meth c H locs 0 0 Q (F0 m 45 ls [])) (hk2 : ∀ (h : PH), ∀ (H : Heap) (locs : List Loc) (ls : Array Slot), K2 h = some r0 → Wd D G A H0 ad lay X h s H locs → lv_has ls 4 [(0, .ref (ad 0)), (1, .int z1), (2, .int z2)] → W p0 l e (rmN 5 103) s m args below meth c H locs 0 0 Q (F0 m 129 ls [])) (n : Nat) (x3 : Int32) (h : PH) (hf : lq2 (c_X12_tellLaw_L12b z1 z2 K1 K2) n x3 h = some r0) : ∀ (H : Heap) (locs : List Loc) (ls : Array Slot), Wd D G A H0 ad lay X h s H locs → lv_has ls 4 [(0, .ref (ad 0)), (1, .int z1), (2, .int z2), (3, .int x3)] → W p0 l e (rmN 5 103) s m args below meth c H locs 0 0 Q (F0 m 12 ls []) := by
  exact lq2_i (fun (x3 : Int32) (h : PH) => ∀ (H : Heap) (locs : List Loc) (ls : Array Slot), Wd D G A H0 ad lay X h s H locs → lv_has ls 4 [(0, .ref (ad 0)), (1, .int z1), (2, .int z2), (3, .int x3)] → W p0 l e (rmN 5 103) s m args below meth c H locs 0 0 Q (F0 m 12 ls [])) (fun REC x3 h ih hf H locs ls hw hl => w_X12_tellLaw_L12b hM ho hk1 hk2 (fun x3 h H locs ls hf hw hl => ih x3 h hf H locs ls hw hl) hw hl hf) n x3 h hf
def c_X12_tellLaw_j129  (x1 : Int32) (x2 : Int32) (h : PH) : Option (PH) :=
  gd (ixOK (h.1 0 46) 260) <| nm (setI h 33 (h.1 0 46).toNatClampNeg (vp_nar .boolean 0)) fun h22 =>
  (c_X12_term h22).bind fun h23 =>
  (c_X12_must 4 h23).bind fun h24 =>
  if (h24.1 0 13) ≤ 0 then
    gd (ixOK ((2 * (h24.1 0 19)) + x1) 4) <| nm (setI h24 31 ((2 * (h24.1 0 19)) + x1).toNatClampNeg x2) fun h25 =>
    gd (ixOK ((2 * (h25.1 0 19)) + x1) 4) <| nm (setI h25 32 ((2 * (h25.1 0 19)) + x1).toNatClampNeg (h25.1 0 46)) fun h26 =>
    some h26
  else
    some h24
set_option maxHeartbeats 4000000 in
set_option maxRecDepth 100000 in
theorem w_X12_tellLaw_j129 {p0 : Program} {l : Launch} {e : Env} {s : State} {m : MethodId} {args : Array Value} {below : List Frame} {meth : Method} {c : Code} {Q : State → Prop} {D : va_G} {G : GG} {A : Nat → Prop} {H0 : Heap} {ad : Nat → Nat} {lay : List KK} {X : va_W} {r0 : PH} {x1 : Int32} {x2 : Int32} {h : PH} {H : Heap} {locs : List Loc} {ls : Array Slot} (hM : CallFix p0 m c cX12_tellLaw 4 s args lw_g RX12) (ho : okX12 lay) (hR : RtV p0 l e (rmN 5 103) s m args below meth c cX12_tellLaw D G A H0 ad lay X (none) r0 Q 0 0) (hw : Wd D G A H0 ad lay X h s H locs) (hl : lv_has ls 4 [(0, .ref (ad 0)), (1, .int x1), (2, .int x2)]) (hf : c_X12_tellLaw_j129 x1 x2 h = some r0) : W p0 l e (rmN 5 103) s m args below meth c H locs 0 0 Q (F0 m 129 ls []) := by
  unfold c_X12_tellLaw_j129 at hf
  refine lv_aload_n hM.1 hM.2.1 dX12_tellLaw_129 rfl (lv_at hl 0 rfl) ?_
  refine gf_X12_hasTest hM hw (okX12.o ho) fl_X12_116 dX12_tellLaw_130 ?_
  refine lv_aload_n hM.1 hM.2.1 dX12_tellLaw_133 rfl (lv_at hl 0 rfl) ?_
  refine gf_X12_branches hM hw (okX12.o ho) fl_X12_275 dX12_tellLaw_134 ?_
  refine lv_iconst (v := 0) hM.1 hM.2.1 dX12_tellLaw_137 ic_0 ?_
  refine x_zast hM hw (okX12.hasTest ho) hf dX12_tellLaw_138 (fun h22 H locs hf hw => ?_)
  refine lv_aload_n hM.1 hM.2.1 dX12_tellLaw_139 rfl (lv_at hl 0 rfl) ?_
  refine x_callVV (rest := []) hM hw (ct_X12_term l ho) [] (okX12.o ho) rfl rfl rfl (gi_V ml_X12_339 im_X12_term sl_X12_term in_X12 kc_X12_term) hd_X12_term rfl ⟨Nat.le_of_ble_eq_true rfl, Nat.le_of_ble_eq_true rfl⟩ rfl (Nat.le_of_ble_eq_true rfl) hl.1 hcs0 hf dX12_tellLaw_140 (fun h23 H locs hf hw => ?_)
  refine lv_aload_n hM.1 hM.2.1 dX12_tellLaw_143 rfl (lv_at hl 0 rfl) ?_
  refine lv_iconst (v := 4) hM.1 hM.2.1 dX12_tellLaw_144 ic_4 ?_
  refine x_callVV (rest := []) hM hw (ct_X12_must l ho 4) [.int 4] (okX12.o ho) rfl rfl rfl (gi_V ml_X12_316 im_X12_must sl_X12_must in_X12 kc_X12_must) hd_X12_must rfl ⟨Nat.le_of_ble_eq_true rfl, Nat.le_of_ble_eq_true rfl⟩ rfl (Nat.le_of_ble_eq_true rfl) hl.1 hcs0 hf dX12_tellLaw_145 (fun h24 H locs hf hw => ?_)
  refine lv_aload_n hM.1 hM.2.1 dX12_tellLaw_148 rfl (lv_at hl 0 rfl) ?_
  refine gf_X12_fault hM hw (okX12.o ho) fl_X12_236 dX12_tellLaw_149 ?_
  refine x_if_le (tgt := 156) hM hf dX12_tellLaw_152 (by decide) (fun hf => ?_) (fun hf => ?_)
  · refine lv_aload_n hM.1 hM.2.1 dX12_tellLaw_156 rfl (lv_at hl 0 rfl) ?_
    refine gf_X12_lawFirst hM hw (okX12.o ho) fl_X12_110 dX12_tellLaw_157 ?_
    refine lv_iconst (v := 2) hM.1 hM.2.1 dX12_tellLaw_160 ic_2 ?_
    refine lv_aload_n hM.1 hM.2.1 dX12_tellLaw_161 rfl (lv_at hl 0 rfl) ?_
    refine gf_X12_side hM hw (okX12.o ho) fl_X12_269 dX12_tellLaw_162 ?_
    refine lv_imul hM.1 hM.2.1 dX12_tellLaw_165 ?_
    refine lv_iload_n hM.1 hM.2.1 dX12_tellLaw_166 rfl (lv_at hl 1 rfl) ?_
    refine lv_iadd hM.1 hM.2.1 dX12_tellLaw_167 ?_
    refine lv_iload_n hM.1 hM.2.1 dX12_tellLaw_168 rfl (lv_at hl 2 rfl) ?_
    refine x_iast hM hw (okX12.lawFirst ho) hf dX12_tellLaw_169 (fun h25 H locs hf hw => ?_)
    refine lv_aload_n hM.1 hM.2.1 dX12_tellLaw_170 rfl (lv_at hl 0 rfl) ?_
    refine gf_X12_lawLast hM hw (okX12.o ho) fl_X12_113 dX12_tellLaw_171 ?_
    refine lv_iconst (v := 2) hM.1 hM.2.1 dX12_tellLaw_174 ic_2 ?_
    refine lv_aload_n hM.1 hM.2.1 dX12_tellLaw_175 rfl (lv_at hl 0 rfl) ?_
    refine gf_X12_side hM hw (okX12.o ho) fl_X12_269 dX12_tellLaw_176 ?_
    refine lv_imul hM.1 hM.2.1 dX12_tellLaw_179 ?_
    refine lv_iload_n hM.1 hM.2.1 dX12_tellLaw_180 rfl (lv_at hl 1 rfl) ?_
    refine lv_iadd hM.1 hM.2.1 dX12_tellLaw_181 ?_
    refine lv_aload_n hM.1 hM.2.1 dX12_tellLaw_182 rfl (lv_at hl 0 rfl) ?_
    refine gf_X12_branches hM hw (okX12.o ho) fl_X12_275 dX12_tellLaw_183 ?_
    refine x_iast hM hw (okX12.lawLast ho) hf dX12_tellLaw_186 (fun h26 H locs hf hw => ?_)
    exact hR _ _ _ _ _ (Option.some.inj hf) rfl hw dX12_tellLaw_187
  exact hR _ _ _ _ _ (Option.some.inj hf) rfl hw dX12_tellLaw_155
def c_X12_tellLaw (a1 : Int32) (h : PH) : Option (PH) :=
  (c_X12_must 5 h).bind fun h1 =>
  nm (h1.1 0 46) fun v2 =>
  nm (0 : Int32) fun v3 =>
  lq2 (c_X12_tellLaw_L12b a1 v2
    (fun h20 =>
      some h20)
    (fun h21 =>
      c_X12_tellLaw_j129 a1 v2 h21)) fu v3 h1
set_option maxHeartbeats 4000000 in
set_option maxRecDepth 100000 in
theorem ct_X12_tellLaw (l : Launch) {lay : List KK} (ho : okX12 lay) (a1 : Int32) : CtV l yX12_tellLaw cX12_tellLaw 4 (none) 5 103 lay (fun h => c_X12_tellLaw a1 h) (fun ad => [.ref (ad 0), .int a1]) := by
  refine CtV.mk' RX12 (by decide) rfl (fun _ => Nat.le_of_ble_eq_true rfl) ?_
  intro p0 e s m args below meth c D G A H0 ad X h r0 H ls Q hM hw hl hf hR
  have hl : lv_has ls 4 [(0, .ref (ad 0)), (1, .int a1)] := hl
  unfold c_X12_tellLaw at hf
  refine lv_aload_n hM.1 hM.2.1 dX12_tellLaw_0 rfl (lv_at hl 0 rfl) ?_
  refine lv_iconst (v := 5) hM.1 hM.2.1 dX12_tellLaw_1 ic_5 ?_
  refine x_callVV (rest := []) hM hw (ct_X12_must l ho 5) [.int 5] (okX12.o ho) rfl rfl rfl (gi_V ml_X12_316 im_X12_must sl_X12_must in_X12 kc_X12_must) hd_X12_must rfl ⟨Nat.le_of_ble_eq_true rfl, Nat.le_of_ble_eq_true rfl⟩ rfl (Nat.le_of_ble_eq_true rfl) hl.1 hcs0 hf dX12_tellLaw_2 (fun h1 H locs hf hw => ?_)
  refine lv_aload_n hM.1 hM.2.1 dX12_tellLaw_5 rfl (lv_at hl 0 rfl) ?_
  refine gf_X12_branches hM hw (okX12.o ho) fl_X12_275 dX12_tellLaw_6 ?_
  refine x_istore_n hM hf dX12_tellLaw_9 rfl hl (by decide) (fun v2 => [(2, .int v2), (0, .ref (ad 0)), (1, .int a1)]) (fun _ => rfl) (fun v2 ls hf hl => ?_)
  refine lv_iconst (v := 0) hM.1 hM.2.1 dX12_tellLaw_10 ic_0 ?_
  refine x_istore_n hM hf dX12_tellLaw_11 rfl hl (by decide) (fun v3 => [(3, .int v3), (2, .int v2), (0, .ref (ad 0)), (1, .int a1)]) (fun _ => rfl) (fun v3 ls hf hl => ?_)
  refine w_X12_tellLaw_L12 hM ho (fun h20 H locs ls hf hw hl => ?_) (fun h21 H locs ls hf hw hl => ?_) fu _ _ hf _ _ _ hw (lv_sub hl [2, 3, 1, 0] rfl)
  · exact hR _ _ _ _ _ (Option.some.inj hf) rfl hw dX12_tellLaw_45
  · exact w_X12_tellLaw_j129 hM ho hR hw hl hf
theorem hd_X12_tellLaw : yX12_tellLaw.cls = RX12 ∧ yX12_tellLaw.cls ≠ "java/lang/invoke/MethodHandle" ∧ yX12_tellLaw.cls ≠ "java/lang/invoke/VarHandle" ∧ (parseMethodDescriptor yX12_tellLaw.desc).map (fun d => d.parameters.length) = some 1 := ⟨rfl, by decide, by decide, by decide +kernel⟩
theorem dX12_tellOne_0 : decode cX12_tellOne 0 = .ok (.aload_n 0, 1) := by decide +kernel
theorem dX12_tellOne_1 : decode cX12_tellOne 1 = .ok (.getfield 20, 3) := by decide +kernel
theorem dX12_tellOne_4 : decode cX12_tellOne 4 = .ok (.aload_n 0, 1) := by decide +kernel
theorem dX12_tellOne_5 : decode cX12_tellOne 5 = .ok (.getfield 239, 3) := by decide +kernel
theorem dX12_tellOne_8 : decode cX12_tellOne 8 = .ok (.iaload, 1) := by decide +kernel
theorem dX12_tellOne_9 : decode cX12_tellOne 9 = .ok (.tableswitch 285 20 29 #[55, 83, 112, 141, 170, 285, 285, 199, 227, 256], 55) := by decide +kernel
theorem dX12_tellOne_64 : decode cX12_tellOne 64 = .ok (.aload_n 0, 1) := by decide +kernel
theorem dX12_tellOne_65 : decode cX12_tellOne 65 = .ok (.aload_n 0, 1) := by decide +kernel
theorem dX12_tellOne_66 : decode cX12_tellOne 66 = .ok (.getfield 49, 3) := by decide +kernel
theorem dX12_tellOne_69 : decode cX12_tellOne 69 = .ok (.aload_n 0, 1) := by decide +kernel
theorem dX12_tellOne_70 : decode cX12_tellOne 70 = .ok (.getfield 269, 3) := by decide +kernel
theorem dX12_tellOne_73 : decode cX12_tellOne 73 = .ok (.iaload, 1) := by decide +kernel
theorem dX12_tellOne_74 : decode cX12_tellOne 74 = .ok (.iconst 5, 1) := by decide +kernel
theorem dX12_tellOne_75 : decode cX12_tellOne 75 = .ok (.invokevirtual 293, 3) := by decide +kernel
theorem dX12_tellOne_78 : decode cX12_tellOne 78 = .ok (.aload_n 0, 1) := by decide +kernel
theorem dX12_tellOne_79 : decode cX12_tellOne 79 = .ok (.getfield 236, 3) := by decide +kernel
theorem dX12_tellOne_82 : decode cX12_tellOne 82 = .ok (.ifCond .ne 265, 3) := by decide +kernel
theorem dX12_tellOne_85 : decode cX12_tellOne 85 = .ok (.aload_n 0, 1) := by decide +kernel
theorem dX12_tellOne_86 : decode cX12_tellOne 86 = .ok (.invokevirtual 297, 3) := by decide +kernel
theorem dX12_tellOne_89 : decode cX12_tellOne 89 = .ok (.goto 258, 3) := by decide +kernel
theorem dX12_tellOne_92 : decode cX12_tellOne 92 = .ok (.aload_n 0, 1) := by decide +kernel
theorem dX12_tellOne_93 : decode cX12_tellOne 93 = .ok (.aload_n 0, 1) := by decide +kernel
theorem dX12_tellOne_94 : decode cX12_tellOne 94 = .ok (.getfield 61, 3) := by decide +kernel
theorem dX12_tellOne_97 : decode cX12_tellOne 97 = .ok (.aload_n 0, 1) := by decide +kernel
theorem dX12_tellOne_98 : decode cX12_tellOne 98 = .ok (.getfield 269, 3) := by decide +kernel
theorem dX12_tellOne_101 : decode cX12_tellOne 101 = .ok (.iaload, 1) := by decide +kernel
theorem dX12_tellOne_102 : decode cX12_tellOne 102 = .ok (.bipush 7, 2) := by decide +kernel
theorem dX12_tellOne_104 : decode cX12_tellOne 104 = .ok (.invokevirtual 293, 3) := by decide +kernel
theorem dX12_tellOne_107 : decode cX12_tellOne 107 = .ok (.aload_n 0, 1) := by decide +kernel
theorem dX12_tellOne_108 : decode cX12_tellOne 108 = .ok (.getfield 236, 3) := by decide +kernel
theorem dX12_tellOne_111 : decode cX12_tellOne 111 = .ok (.ifCond .ne 236, 3) := by decide +kernel
theorem dX12_tellOne_114 : decode cX12_tellOne 114 = .ok (.aload_n 0, 1) := by decide +kernel
theorem dX12_tellOne_115 : decode cX12_tellOne 115 = .ok (.invokevirtual 300, 3) := by decide +kernel
theorem dX12_tellOne_118 : decode cX12_tellOne 118 = .ok (.goto 229, 3) := by decide +kernel
theorem dX12_tellOne_121 : decode cX12_tellOne 121 = .ok (.aload_n 0, 1) := by decide +kernel
theorem dX12_tellOne_122 : decode cX12_tellOne 122 = .ok (.aload_n 0, 1) := by decide +kernel
theorem dX12_tellOne_123 : decode cX12_tellOne 123 = .ok (.getfield 80, 3) := by decide +kernel
theorem dX12_tellOne_126 : decode cX12_tellOne 126 = .ok (.aload_n 0, 1) := by decide +kernel
theorem dX12_tellOne_127 : decode cX12_tellOne 127 = .ok (.getfield 269, 3) := by decide +kernel
theorem dX12_tellOne_130 : decode cX12_tellOne 130 = .ok (.iaload, 1) := by decide +kernel
theorem dX12_tellOne_131 : decode cX12_tellOne 131 = .ok (.bipush 9, 2) := by decide +kernel
theorem dX12_tellOne_133 : decode cX12_tellOne 133 = .ok (.invokevirtual 293, 3) := by decide +kernel
theorem dX12_tellOne_136 : decode cX12_tellOne 136 = .ok (.aload_n 0, 1) := by decide +kernel
theorem dX12_tellOne_137 : decode cX12_tellOne 137 = .ok (.getfield 236, 3) := by decide +kernel
theorem dX12_tellOne_140 : decode cX12_tellOne 140 = .ok (.ifCond .ne 207, 3) := by decide +kernel
theorem dX12_tellOne_143 : decode cX12_tellOne 143 = .ok (.aload_n 0, 1) := by decide +kernel
theorem dX12_tellOne_144 : decode cX12_tellOne 144 = .ok (.invokevirtual 303, 3) := by decide +kernel
theorem dX12_tellOne_147 : decode cX12_tellOne 147 = .ok (.goto 200, 3) := by decide +kernel
theorem dX12_tellOne_150 : decode cX12_tellOne 150 = .ok (.aload_n 0, 1) := by decide +kernel
theorem dX12_tellOne_151 : decode cX12_tellOne 151 = .ok (.aload_n 0, 1) := by decide +kernel
theorem dX12_tellOne_152 : decode cX12_tellOne 152 = .ok (.getfield 92, 3) := by decide +kernel
theorem dX12_tellOne_155 : decode cX12_tellOne 155 = .ok (.aload_n 0, 1) := by decide +kernel
theorem dX12_tellOne_156 : decode cX12_tellOne 156 = .ok (.getfield 269, 3) := by decide +kernel
theorem dX12_tellOne_159 : decode cX12_tellOne 159 = .ok (.iaload, 1) := by decide +kernel
theorem dX12_tellOne_160 : decode cX12_tellOne 160 = .ok (.bipush 8, 2) := by decide +kernel
theorem dX12_tellOne_162 : decode cX12_tellOne 162 = .ok (.invokevirtual 293, 3) := by decide +kernel
theorem dX12_tellOne_165 : decode cX12_tellOne 165 = .ok (.aload_n 0, 1) := by decide +kernel
theorem dX12_tellOne_166 : decode cX12_tellOne 166 = .ok (.getfield 236, 3) := by decide +kernel
theorem dX12_tellOne_169 : decode cX12_tellOne 169 = .ok (.ifCond .ne 178, 3) := by decide +kernel
theorem dX12_tellOne_172 : decode cX12_tellOne 172 = .ok (.aload_n 0, 1) := by decide +kernel
theorem dX12_tellOne_173 : decode cX12_tellOne 173 = .ok (.invokevirtual 306, 3) := by decide +kernel
theorem dX12_tellOne_176 : decode cX12_tellOne 176 = .ok (.goto 171, 3) := by decide +kernel
theorem dX12_tellOne_179 : decode cX12_tellOne 179 = .ok (.aload_n 0, 1) := by decide +kernel
theorem dX12_tellOne_180 : decode cX12_tellOne 180 = .ok (.aload_n 0, 1) := by decide +kernel
theorem dX12_tellOne_181 : decode cX12_tellOne 181 = .ok (.getfield 95, 3) := by decide +kernel
theorem dX12_tellOne_184 : decode cX12_tellOne 184 = .ok (.aload_n 0, 1) := by decide +kernel
theorem dX12_tellOne_185 : decode cX12_tellOne 185 = .ok (.getfield 269, 3) := by decide +kernel
theorem dX12_tellOne_188 : decode cX12_tellOne 188 = .ok (.iaload, 1) := by decide +kernel
theorem dX12_tellOne_189 : decode cX12_tellOne 189 = .ok (.bipush 6, 2) := by decide +kernel
theorem dX12_tellOne_191 : decode cX12_tellOne 191 = .ok (.invokevirtual 293, 3) := by decide +kernel
theorem dX12_tellOne_194 : decode cX12_tellOne 194 = .ok (.aload_n 0, 1) := by decide +kernel
theorem dX12_tellOne_195 : decode cX12_tellOne 195 = .ok (.getfield 236, 3) := by decide +kernel
theorem dX12_tellOne_198 : decode cX12_tellOne 198 = .ok (.ifCond .ne 149, 3) := by decide +kernel
theorem dX12_tellOne_201 : decode cX12_tellOne 201 = .ok (.aload_n 0, 1) := by decide +kernel
theorem dX12_tellOne_202 : decode cX12_tellOne 202 = .ok (.invokevirtual 309, 3) := by decide +kernel
theorem dX12_tellOne_205 : decode cX12_tellOne 205 = .ok (.goto 142, 3) := by decide +kernel
theorem dX12_tellOne_208 : decode cX12_tellOne 208 = .ok (.aload_n 0, 1) := by decide +kernel
theorem dX12_tellOne_209 : decode cX12_tellOne 209 = .ok (.invokevirtual 257, 3) := by decide +kernel
theorem dX12_tellOne_212 : decode cX12_tellOne 212 = .ok (.aload_n 0, 1) := by decide +kernel
theorem dX12_tellOne_213 : decode cX12_tellOne 213 = .ok (.getfield 101, 3) := by decide +kernel
theorem dX12_tellOne_216 : decode cX12_tellOne 216 = .ok (.aload_n 0, 1) := by decide +kernel
theorem dX12_tellOne_217 : decode cX12_tellOne 217 = .ok (.getfield 269, 3) := by decide +kernel
theorem dX12_tellOne_220 : decode cX12_tellOne 220 = .ok (.aload_n 0, 1) := by decide +kernel
theorem dX12_tellOne_221 : decode cX12_tellOne 221 = .ok (.iconst 0, 1) := by decide +kernel
theorem dX12_tellOne_222 : decode cX12_tellOne 222 = .ok (.bipush 100, 2) := by decide +kernel
theorem dX12_tellOne_224 : decode cX12_tellOne 224 = .ok (.invokevirtual 312, 3) := by decide +kernel
theorem dX12_tellOne_227 : decode cX12_tellOne 227 = .ok (.iastore, 1) := by decide +kernel
theorem dX12_tellOne_228 : decode cX12_tellOne 228 = .ok (.aload_n 0, 1) := by decide +kernel
theorem dX12_tellOne_229 : decode cX12_tellOne 229 = .ok (.iconst 4, 1) := by decide +kernel
theorem dX12_tellOne_230 : decode cX12_tellOne 230 = .ok (.invokevirtual 316, 3) := by decide +kernel
theorem dX12_tellOne_233 : decode cX12_tellOne 233 = .ok (.goto 114, 3) := by decide +kernel
theorem dX12_tellOne_236 : decode cX12_tellOne 236 = .ok (.aload_n 0, 1) := by decide +kernel
theorem dX12_tellOne_237 : decode cX12_tellOne 237 = .ok (.invokevirtual 257, 3) := by decide +kernel
theorem dX12_tellOne_240 : decode cX12_tellOne 240 = .ok (.aload_n 0, 1) := by decide +kernel
theorem dX12_tellOne_241 : decode cX12_tellOne 241 = .ok (.getfield 104, 3) := by decide +kernel
theorem dX12_tellOne_244 : decode cX12_tellOne 244 = .ok (.aload_n 0, 1) := by decide +kernel
theorem dX12_tellOne_245 : decode cX12_tellOne 245 = .ok (.getfield 269, 3) := by decide +kernel
theorem dX12_tellOne_248 : decode cX12_tellOne 248 = .ok (.aload_n 0, 1) := by decide +kernel
theorem dX12_tellOne_249 : decode cX12_tellOne 249 = .ok (.iconst 0, 1) := by decide +kernel
theorem dX12_tellOne_250 : decode cX12_tellOne 250 = .ok (.sipush 999, 3) := by decide +kernel
theorem dX12_tellOne_253 : decode cX12_tellOne 253 = .ok (.invokevirtual 312, 3) := by decide +kernel
theorem dX12_tellOne_256 : decode cX12_tellOne 256 = .ok (.iastore, 1) := by decide +kernel
theorem dX12_tellOne_257 : decode cX12_tellOne 257 = .ok (.aload_n 0, 1) := by decide +kernel
theorem dX12_tellOne_258 : decode cX12_tellOne 258 = .ok (.iconst 4, 1) := by decide +kernel
theorem dX12_tellOne_259 : decode cX12_tellOne 259 = .ok (.invokevirtual 316, 3) := by decide +kernel
theorem dX12_tellOne_262 : decode cX12_tellOne 262 = .ok (.goto 85, 3) := by decide +kernel
theorem dX12_tellOne_265 : decode cX12_tellOne 265 = .ok (.aload_n 0, 1) := by decide +kernel
theorem dX12_tellOne_266 : decode cX12_tellOne 266 = .ok (.invokevirtual 257, 3) := by decide +kernel
theorem dX12_tellOne_269 : decode cX12_tellOne 269 = .ok (.aload_n 0, 1) := by decide +kernel
theorem dX12_tellOne_270 : decode cX12_tellOne 270 = .ok (.getfield 107, 3) := by decide +kernel
theorem dX12_tellOne_273 : decode cX12_tellOne 273 = .ok (.aload_n 0, 1) := by decide +kernel
theorem dX12_tellOne_274 : decode cX12_tellOne 274 = .ok (.getfield 269, 3) := by decide +kernel
theorem dX12_tellOne_277 : decode cX12_tellOne 277 = .ok (.aload_n 0, 1) := by decide +kernel
theorem dX12_tellOne_278 : decode cX12_tellOne 278 = .ok (.iconst 0, 1) := by decide +kernel
theorem dX12_tellOne_279 : decode cX12_tellOne 279 = .ok (.sipush 9999, 3) := by decide +kernel
theorem dX12_tellOne_282 : decode cX12_tellOne 282 = .ok (.invokevirtual 312, 3) := by decide +kernel
theorem dX12_tellOne_285 : decode cX12_tellOne 285 = .ok (.iastore, 1) := by decide +kernel
theorem dX12_tellOne_286 : decode cX12_tellOne 286 = .ok (.aload_n 0, 1) := by decide +kernel
theorem dX12_tellOne_287 : decode cX12_tellOne 287 = .ok (.iconst 4, 1) := by decide +kernel
theorem dX12_tellOne_288 : decode cX12_tellOne 288 = .ok (.invokevirtual 316, 3) := by decide +kernel
theorem dX12_tellOne_291 : decode cX12_tellOne 291 = .ok (.goto 56, 3) := by decide +kernel
theorem dX12_tellOne_294 : decode cX12_tellOne 294 = .ok (.aload_n 0, 1) := by decide +kernel
theorem dX12_tellOne_295 : decode cX12_tellOne 295 = .ok (.getfield 20, 3) := by decide +kernel
theorem dX12_tellOne_298 : decode cX12_tellOne 298 = .ok (.aload_n 0, 1) := by decide +kernel
theorem dX12_tellOne_299 : decode cX12_tellOne 299 = .ok (.getfield 239, 3) := by decide +kernel
theorem dX12_tellOne_302 : decode cX12_tellOne 302 = .ok (.iaload, 1) := by decide +kernel
theorem dX12_tellOne_303 : decode cX12_tellOne 303 = .ok (.bipush 25, 2) := by decide +kernel
theorem dX12_tellOne_305 : decode cX12_tellOne 305 = .ok (.isub, 1) := by decide +kernel
theorem dX12_tellOne_306 : decode cX12_tellOne 306 = .ok (.istore_n 1, 1) := by decide +kernel
theorem dX12_tellOne_307 : decode cX12_tellOne 307 = .ok (.iload_n 1, 1) := by decide +kernel
theorem dX12_tellOne_308 : decode cX12_tellOne 308 = .ok (.ifCond .lt 17, 3) := by decide +kernel
theorem dX12_tellOne_311 : decode cX12_tellOne 311 = .ok (.aload_n 0, 1) := by decide +kernel
theorem dX12_tellOne_312 : decode cX12_tellOne 312 = .ok (.getfield 20, 3) := by decide +kernel
theorem dX12_tellOne_315 : decode cX12_tellOne 315 = .ok (.aload_n 0, 1) := by decide +kernel
theorem dX12_tellOne_316 : decode cX12_tellOne 316 = .ok (.getfield 239, 3) := by decide +kernel
theorem dX12_tellOne_319 : decode cX12_tellOne 319 = .ok (.iaload, 1) := by decide +kernel
theorem dX12_tellOne_320 : decode cX12_tellOne 320 = .ok (.bipush 26, 2) := by decide +kernel
theorem dX12_tellOne_322 : decode cX12_tellOne 322 = .ok (.if_icmp .le 8, 3) := by decide +kernel
theorem dX12_tellOne_325 : decode cX12_tellOne 325 = .ok (.aload_n 0, 1) := by decide +kernel
theorem dX12_tellOne_326 : decode cX12_tellOne 326 = .ok (.iconst 1, 1) := by decide +kernel
theorem dX12_tellOne_327 : decode cX12_tellOne 327 = .ok (.invokevirtual 251, 3) := by decide +kernel
theorem dX12_tellOne_330 : decode cX12_tellOne 330 = .ok (.aload_n 0, 1) := by decide +kernel
theorem dX12_tellOne_331 : decode cX12_tellOne 331 = .ok (.getfield 236, 3) := by decide +kernel
theorem dX12_tellOne_334 : decode cX12_tellOne 334 = .ok (.ifCond .le 4, 3) := by decide +kernel
theorem dX12_tellOne_337 : decode cX12_tellOne 337 = .ok (.return_, 1) := by decide +kernel
theorem dX12_tellOne_338 : decode cX12_tellOne 338 = .ok (.aload_n 0, 1) := by decide +kernel
theorem dX12_tellOne_339 : decode cX12_tellOne 339 = .ok (.invokevirtual 257, 3) := by decide +kernel
theorem dX12_tellOne_342 : decode cX12_tellOne 342 = .ok (.aload_n 0, 1) := by decide +kernel
theorem dX12_tellOne_343 : decode cX12_tellOne 343 = .ok (.iload_n 1, 1) := by decide +kernel
theorem dX12_tellOne_344 : decode cX12_tellOne 344 = .ok (.invokevirtual 319, 3) := by decide +kernel
theorem dX12_tellOne_347 : decode cX12_tellOne 347 = .ok (.return_, 1) := by decide +kernel
def c_X12_tellOne_j294  (h : PH) : Option (PH) :=
  gd (ixOK (h.1 0 11) 403) <|
  nm ((h.1 3 (h.1 0 11).toNatClampNeg) - 25) fun v11 =>
  if v11 < 0 then
    (c_X12_fail 1 h).bind fun h12 =>
    if (h12.1 0 13) ≤ 0 then
      (c_X12_goesOn h12).bind fun h13 =>
      (c_X12_tellLaw v11 h13).bind fun h14 =>
      some h14
    else
      some h12
  else
    gd (ixOK (h.1 0 11) 403) <|
    if (h.1 3 (h.1 0 11).toNatClampNeg) ≤ 26 then
      if (h.1 0 13) ≤ 0 then
        (c_X12_goesOn h).bind fun h15 =>
        (c_X12_tellLaw v11 h15).bind fun h16 =>
        some h16
      else
        some h
    else
      (c_X12_fail 1 h).bind fun h17 =>
      if (h17.1 0 13) ≤ 0 then
        (c_X12_goesOn h17).bind fun h18 =>
        (c_X12_tellLaw v11 h18).bind fun h19 =>
        some h19
      else
        some h17
set_option maxHeartbeats 4000000 in
set_option maxRecDepth 100000 in
theorem w_X12_tellOne_j294 {p0 : Program} {l : Launch} {e : Env} {s : State} {m : MethodId} {args : Array Value} {below : List Frame} {meth : Method} {c : Code} {Q : State → Prop} {D : va_G} {G : GG} {A : Nat → Prop} {H0 : Heap} {ad : Nat → Nat} {lay : List KK} {X : va_W} {r0 : PH} {h : PH} {H : Heap} {locs : List Loc} {ls : Array Slot} (hM : CallFix p0 m c cX12_tellOne 2 s args lw_g RX12) (ho : okX12 lay) (hR : RtV p0 l e (rmN 6 126) s m args below meth c cX12_tellOne D G A H0 ad lay X (none) r0 Q 0 0) (hw : Wd D G A H0 ad lay X h s H locs) (hl : lv_has ls 2 [(0, .ref (ad 0))]) (hf : c_X12_tellOne_j294 h = some r0) : W p0 l e (rmN 6 126) s m args below meth c H locs 0 0 Q (F0 m 294 ls []) := by
  unfold c_X12_tellOne_j294 at hf
  refine lv_aload_n hM.1 hM.2.1 dX12_tellOne_294 rfl (lv_at hl 0 rfl) ?_
  refine gf_X12_tKind hM hw (okX12.o ho) fl_X12_20 dX12_tellOne_295 ?_
  refine lv_aload_n hM.1 hM.2.1 dX12_tellOne_298 rfl (lv_at hl 0 rfl) ?_
  refine gf_X12_t hM hw (okX12.o ho) fl_X12_239 dX12_tellOne_299 ?_
  refine x_iald hM hw (okX12.tKind ho) hf dX12_tellOne_302 (fun hf => ?_)
  refine lv_bipush (v := 25) hM.1 hM.2.1 dX12_tellOne_303 (by decide) ?_
  refine lv_isub hM.1 hM.2.1 dX12_tellOne_305 ?_
  refine x_istore_n hM hf dX12_tellOne_306 rfl hl (by decide) (fun v11 => [(1, .int v11), (0, .ref (ad 0))]) (fun _ => rfl) (fun v11 ls hf hl => ?_)
  refine lv_iload_n hM.1 hM.2.1 dX12_tellOne_307 rfl (lv_at hl 0 rfl) ?_
  refine x_if_lt (tgt := 325) hM hf dX12_tellOne_308 (by decide) (fun hf => ?_) (fun hf => ?_)
  · refine lv_aload_n hM.1 hM.2.1 dX12_tellOne_325 rfl (lv_at hl 1 rfl) ?_
    refine lv_iconst (v := 1) hM.1 hM.2.1 dX12_tellOne_326 ic_1 ?_
    refine x_callVV (rest := []) hM hw (ct_X12_fail l ho 1) [.int 1] (okX12.o ho) rfl rfl rfl (gi_V ml_X12_251 im_X12_fail sl_X12_fail in_X12 kc_X12_fail) hd_X12_fail rfl ⟨Nat.le_of_ble_eq_true rfl, Nat.le_of_ble_eq_true rfl⟩ rfl (Nat.le_of_ble_eq_true rfl) hl.1 hcs0 hf dX12_tellOne_327 (fun h12 H locs hf hw => ?_)
    refine lv_aload_n hM.1 hM.2.1 dX12_tellOne_330 rfl (lv_at hl 1 rfl) ?_
    refine gf_X12_fault hM hw (okX12.o ho) fl_X12_236 dX12_tellOne_331 ?_
    refine x_if_le (tgt := 338) hM hf dX12_tellOne_334 (by decide) (fun hf => ?_) (fun hf => ?_)
    · refine lv_aload_n hM.1 hM.2.1 dX12_tellOne_338 rfl (lv_at hl 1 rfl) ?_
      refine x_callVV (rest := []) hM hw (ct_X12_goesOn l ho) [] (okX12.o ho) rfl rfl rfl (gi_V ml_X12_257 im_X12_goesOn sl_X12_goesOn in_X12 kc_X12_goesOn) hd_X12_goesOn rfl ⟨Nat.le_of_ble_eq_true rfl, Nat.le_of_ble_eq_true rfl⟩ rfl (Nat.le_of_ble_eq_true rfl) hl.1 hcs0 hf dX12_tellOne_339 (fun h13 H locs hf hw => ?_)
      refine lv_aload_n hM.1 hM.2.1 dX12_tellOne_342 rfl (lv_at hl 1 rfl) ?_
      refine lv_iload_n hM.1 hM.2.1 dX12_tellOne_343 rfl (lv_at hl 0 rfl) ?_
      refine x_callVV (rest := []) hM hw (ct_X12_tellLaw l ho v11) [.int v11] (okX12.o ho) rfl rfl rfl (gi_V ml_X12_319 im_X12_tellLaw sl_X12_tellLaw in_X12 kc_X12_tellLaw) hd_X12_tellLaw rfl ⟨Nat.le_of_ble_eq_true rfl, Nat.le_of_ble_eq_true rfl⟩ rfl (Nat.le_of_ble_eq_true rfl) hl.1 hcs0 hf dX12_tellOne_344 (fun h14 H locs hf hw => ?_)
      exact hR _ _ _ _ _ (Option.some.inj hf) rfl hw dX12_tellOne_347
    exact hR _ _ _ _ _ (Option.some.inj hf) rfl hw dX12_tellOne_337
  refine lv_aload_n hM.1 hM.2.1 dX12_tellOne_311 rfl (lv_at hl 1 rfl) ?_
  refine gf_X12_tKind hM hw (okX12.o ho) fl_X12_20 dX12_tellOne_312 ?_
  refine lv_aload_n hM.1 hM.2.1 dX12_tellOne_315 rfl (lv_at hl 1 rfl) ?_
  refine gf_X12_t hM hw (okX12.o ho) fl_X12_239 dX12_tellOne_316 ?_
  refine x_iald hM hw (okX12.tKind ho) hf dX12_tellOne_319 (fun hf => ?_)
  refine lv_bipush (v := 26) hM.1 hM.2.1 dX12_tellOne_320 (by decide) ?_
  refine x_ic_le (tgt := 330) hM hf dX12_tellOne_322 (by decide) (fun hf => ?_) (fun hf => ?_)
  · refine lv_aload_n hM.1 hM.2.1 dX12_tellOne_330 rfl (lv_at hl 1 rfl) ?_
    refine gf_X12_fault hM hw (okX12.o ho) fl_X12_236 dX12_tellOne_331 ?_
    refine x_if_le (tgt := 338) hM hf dX12_tellOne_334 (by decide) (fun hf => ?_) (fun hf => ?_)
    · refine lv_aload_n hM.1 hM.2.1 dX12_tellOne_338 rfl (lv_at hl 1 rfl) ?_
      refine x_callVV (rest := []) hM hw (ct_X12_goesOn l ho) [] (okX12.o ho) rfl rfl rfl (gi_V ml_X12_257 im_X12_goesOn sl_X12_goesOn in_X12 kc_X12_goesOn) hd_X12_goesOn rfl ⟨Nat.le_of_ble_eq_true rfl, Nat.le_of_ble_eq_true rfl⟩ rfl (Nat.le_of_ble_eq_true rfl) hl.1 hcs0 hf dX12_tellOne_339 (fun h15 H locs hf hw => ?_)
      refine lv_aload_n hM.1 hM.2.1 dX12_tellOne_342 rfl (lv_at hl 1 rfl) ?_
      refine lv_iload_n hM.1 hM.2.1 dX12_tellOne_343 rfl (lv_at hl 0 rfl) ?_
      refine x_callVV (rest := []) hM hw (ct_X12_tellLaw l ho v11) [.int v11] (okX12.o ho) rfl rfl rfl (gi_V ml_X12_319 im_X12_tellLaw sl_X12_tellLaw in_X12 kc_X12_tellLaw) hd_X12_tellLaw rfl ⟨Nat.le_of_ble_eq_true rfl, Nat.le_of_ble_eq_true rfl⟩ rfl (Nat.le_of_ble_eq_true rfl) hl.1 hcs0 hf dX12_tellOne_344 (fun h16 H locs hf hw => ?_)
      exact hR _ _ _ _ _ (Option.some.inj hf) rfl hw dX12_tellOne_347
    exact hR _ _ _ _ _ (Option.some.inj hf) rfl hw dX12_tellOne_337
  refine lv_aload_n hM.1 hM.2.1 dX12_tellOne_325 rfl (lv_at hl 1 rfl) ?_
  refine lv_iconst (v := 1) hM.1 hM.2.1 dX12_tellOne_326 ic_1 ?_
  refine x_callVV (rest := []) hM hw (ct_X12_fail l ho 1) [.int 1] (okX12.o ho) rfl rfl rfl (gi_V ml_X12_251 im_X12_fail sl_X12_fail in_X12 kc_X12_fail) hd_X12_fail rfl ⟨Nat.le_of_ble_eq_true rfl, Nat.le_of_ble_eq_true rfl⟩ rfl (Nat.le_of_ble_eq_true rfl) hl.1 hcs0 hf dX12_tellOne_327 (fun h17 H locs hf hw => ?_)
  refine lv_aload_n hM.1 hM.2.1 dX12_tellOne_330 rfl (lv_at hl 1 rfl) ?_
  refine gf_X12_fault hM hw (okX12.o ho) fl_X12_236 dX12_tellOne_331 ?_
  refine x_if_le (tgt := 338) hM hf dX12_tellOne_334 (by decide) (fun hf => ?_) (fun hf => ?_)
  · refine lv_aload_n hM.1 hM.2.1 dX12_tellOne_338 rfl (lv_at hl 1 rfl) ?_
    refine x_callVV (rest := []) hM hw (ct_X12_goesOn l ho) [] (okX12.o ho) rfl rfl rfl (gi_V ml_X12_257 im_X12_goesOn sl_X12_goesOn in_X12 kc_X12_goesOn) hd_X12_goesOn rfl ⟨Nat.le_of_ble_eq_true rfl, Nat.le_of_ble_eq_true rfl⟩ rfl (Nat.le_of_ble_eq_true rfl) hl.1 hcs0 hf dX12_tellOne_339 (fun h18 H locs hf hw => ?_)
    refine lv_aload_n hM.1 hM.2.1 dX12_tellOne_342 rfl (lv_at hl 1 rfl) ?_
    refine lv_iload_n hM.1 hM.2.1 dX12_tellOne_343 rfl (lv_at hl 0 rfl) ?_
    refine x_callVV (rest := []) hM hw (ct_X12_tellLaw l ho v11) [.int v11] (okX12.o ho) rfl rfl rfl (gi_V ml_X12_319 im_X12_tellLaw sl_X12_tellLaw in_X12 kc_X12_tellLaw) hd_X12_tellLaw rfl ⟨Nat.le_of_ble_eq_true rfl, Nat.le_of_ble_eq_true rfl⟩ rfl (Nat.le_of_ble_eq_true rfl) hl.1 hcs0 hf dX12_tellOne_344 (fun h19 H locs hf hw => ?_)
    exact hR _ _ _ _ _ (Option.some.inj hf) rfl hw dX12_tellOne_347
  exact hR _ _ _ _ _ (Option.some.inj hf) rfl hw dX12_tellOne_337
def c_X12_tellOne (h : PH) : Option (PH) :=
  gd (ixOK (h.1 0 11) 403) <|
  if (h.1 3 (h.1 0 11).toNatClampNeg) = 20 then
    gd (ixOK (h.1 0 19) 2) <|
    (c_X12_roomFor (h.1 11 (h.1 0 19).toNatClampNeg) 5 h).bind fun h1 =>
    if (h1.1 0 13) = 0 then
      (c_X12_tellMan h1).bind fun h2 =>
      some h2
    else
      some h1
  else
  if (h.1 3 (h.1 0 11).toNatClampNeg) = 21 then
    gd (ixOK (h.1 0 19) 2) <|
    (c_X12_roomFor (h.1 15 (h.1 0 19).toNatClampNeg) 7 h).bind fun h3 =>
    if (h3.1 0 13) = 0 then
      (c_X12_tellExcuse h3).bind fun h4 =>
      some h4
    else
      some h3
  else
  if (h.1 3 (h.1 0 11).toNatClampNeg) = 22 then
    gd (ixOK (h.1 0 19) 2) <|
    (c_X12_roomFor (h.1 21 (h.1 0 19).toNatClampNeg) 9 h).bind fun h5 =>
    if (h5.1 0 13) = 0 then
      (c_X12_tellDuty h5).bind fun h6 =>
      some h6
    else
      some h5
  else
  if (h.1 3 (h.1 0 11).toNatClampNeg) = 23 then
    gd (ixOK (h.1 0 19) 2) <|
    (c_X12_roomFor (h.1 25 (h.1 0 19).toNatClampNeg) 8 h).bind fun h7 =>
    if (h7.1 0 13) = 0 then
      (c_X12_tellKnows h7).bind fun h8 =>
      some h8
    else
      some h7
  else
  if (h.1 3 (h.1 0 11).toNatClampNeg) = 24 then
    gd (ixOK (h.1 0 19) 2) <|
    (c_X12_roomFor (h.1 26 (h.1 0 19).toNatClampNeg) 6 h).bind fun h9 =>
    if (h9.1 0 13) = 0 then
      (c_X12_tellTest h9).bind fun h10 =>
      some h10
    else
      some h9
  else
  if (h.1 3 (h.1 0 11).toNatClampNeg) = 25 then
    c_X12_tellOne_j294 h
  else
  if (h.1 3 (h.1 0 11).toNatClampNeg) = 26 then
    c_X12_tellOne_j294 h
  else
  if (h.1 3 (h.1 0 11).toNatClampNeg) = 27 then
    (c_X12_goesOn h).bind fun h20 =>
    bind2 (c_X12_bounded 0 100 h20) fun r21 h22 =>
    gd (ixOK (h20.1 0 19) 2) <| nm (setI h22 28 (h20.1 0 19).toNatClampNeg r21) fun h23 =>
    (c_X12_must 4 h23).bind fun h24 =>
    some h24
  else
  if (h.1 3 (h.1 0 11).toNatClampNeg) = 28 then
    (c_X12_goesOn h).bind fun h25 =>
    bind2 (c_X12_bounded 0 999 h25) fun r26 h27 =>
    gd (ixOK (h25.1 0 19) 2) <| nm (setI h27 29 (h25.1 0 19).toNatClampNeg r26) fun h28 =>
    (c_X12_must 4 h28).bind fun h29 =>
    some h29
  else
  if (h.1 3 (h.1 0 11).toNatClampNeg) = 29 then
    (c_X12_goesOn h).bind fun h30 =>
    bind2 (c_X12_bounded 0 9999 h30) fun r31 h32 =>
    gd (ixOK (h30.1 0 19) 2) <| nm (setI h32 30 (h30.1 0 19).toNatClampNeg r31) fun h33 =>
    (c_X12_must 4 h33).bind fun h34 =>
    some h34
  else
    c_X12_tellOne_j294 h
set_option maxHeartbeats 4000000 in
set_option maxRecDepth 100000 in
theorem ct_X12_tellOne (l : Launch) {lay : List KK} (ho : okX12 lay) : CtV l yX12_tellOne cX12_tellOne 2 (none) 6 126 lay (fun h => c_X12_tellOne h) (fun ad => [.ref (ad 0)]) := by
  refine CtV.mk' RX12 (by decide) rfl (fun _ => Nat.le_of_ble_eq_true rfl) ?_
  intro p0 e s m args below meth c D G A H0 ad X h r0 H ls Q hM hw hl hf hR
  have hl : lv_has ls 2 [(0, .ref (ad 0))] := hl
  unfold c_X12_tellOne at hf
  refine lv_aload_n hM.1 hM.2.1 dX12_tellOne_0 rfl (lv_at hl 0 rfl) ?_
  refine gf_X12_tKind hM hw (okX12.o ho) fl_X12_20 dX12_tellOne_1 ?_
  refine lv_aload_n hM.1 hM.2.1 dX12_tellOne_4 rfl (lv_at hl 0 rfl) ?_
  refine gf_X12_t hM hw (okX12.o ho) fl_X12_239 dX12_tellOne_5 ?_
  refine x_iald hM hw (okX12.tKind ho) hf dX12_tellOne_8 (fun hf => ?_)
  refine x_sw hf (fun hx hf => ?_) (fun n20 hf => ?_)
  · refine x_tabIn (tgt := 64) hM hx dX12_tellOne_9 (by decide) (by decide) rfl (by decide) ?_
    refine lv_aload_n hM.1 hM.2.1 dX12_tellOne_64 rfl (lv_at hl 0 rfl) ?_
    refine lv_aload_n hM.1 hM.2.1 dX12_tellOne_65 rfl (lv_at hl 0 rfl) ?_
    refine gf_X12_men hM hw (okX12.o ho) fl_X12_49 dX12_tellOne_66 ?_
    refine lv_aload_n hM.1 hM.2.1 dX12_tellOne_69 rfl (lv_at hl 0 rfl) ?_
    refine gf_X12_side hM hw (okX12.o ho) fl_X12_269 dX12_tellOne_70 ?_
    refine x_iald hM hw (okX12.men ho) hf dX12_tellOne_73 (fun hf => ?_)
    refine lv_iconst (v := 5) hM.1 hM.2.1 dX12_tellOne_74 ic_5 ?_
    refine x_callVV (rest := []) hM hw (ct_X12_roomFor l ho (h.1 11 (h.1 0 19).toNatClampNeg) 5) [.int (h.1 11 (h.1 0 19).toNatClampNeg), .int 5] (okX12.o ho) rfl rfl rfl (gi_V ml_X12_293 im_X12_roomFor sl_X12_roomFor in_X12 kc_X12_roomFor) hd_X12_roomFor rfl ⟨Nat.le_of_ble_eq_true rfl, Nat.le_of_ble_eq_true rfl⟩ rfl (Nat.le_of_ble_eq_true rfl) hl.1 hcs0 hf dX12_tellOne_75 (fun h1 H locs hf hw => ?_)
    refine lv_aload_n hM.1 hM.2.1 dX12_tellOne_78 rfl (lv_at hl 0 rfl) ?_
    refine gf_X12_fault hM hw (okX12.o ho) fl_X12_236 dX12_tellOne_79 ?_
    refine x_if_ne (tgt := 347) hM hf dX12_tellOne_82 (by decide) (fun hf => ?_) (fun hf => ?_)
    · exact hR _ _ _ _ _ (Option.some.inj hf) rfl hw dX12_tellOne_347
    refine lv_aload_n hM.1 hM.2.1 dX12_tellOne_85 rfl (lv_at hl 0 rfl) ?_
    refine x_callVV (rest := []) hM hw (ct_X12_tellMan l ho) [] (okX12.o ho) rfl rfl rfl (gi_V ml_X12_297 im_X12_tellMan sl_X12_tellMan in_X12 kc_X12_tellMan) hd_X12_tellMan rfl ⟨Nat.le_of_ble_eq_true rfl, Nat.le_of_ble_eq_true rfl⟩ rfl (Nat.le_of_ble_eq_true rfl) hl.1 hcs0 hf dX12_tellOne_86 (fun h2 H locs hf hw => ?_)
    refine lv_goto (tgt := 347) hM.1 hM.2.1 dX12_tellOne_89 (by decide) ?_
    exact hR _ _ _ _ _ (Option.some.inj hf) rfl hw dX12_tellOne_347
  refine x_sw hf (fun hx hf => ?_) (fun n21 hf => ?_)
  · refine x_tabIn (tgt := 92) hM hx dX12_tellOne_9 (by decide) (by decide) rfl (by decide) ?_
    refine lv_aload_n hM.1 hM.2.1 dX12_tellOne_92 rfl (lv_at hl 0 rfl) ?_
    refine lv_aload_n hM.1 hM.2.1 dX12_tellOne_93 rfl (lv_at hl 0 rfl) ?_
    refine gf_X12_excuses hM hw (okX12.o ho) fl_X12_61 dX12_tellOne_94 ?_
    refine lv_aload_n hM.1 hM.2.1 dX12_tellOne_97 rfl (lv_at hl 0 rfl) ?_
    refine gf_X12_side hM hw (okX12.o ho) fl_X12_269 dX12_tellOne_98 ?_
    refine x_iald hM hw (okX12.excuses ho) hf dX12_tellOne_101 (fun hf => ?_)
    refine lv_bipush (v := 7) hM.1 hM.2.1 dX12_tellOne_102 (by decide) ?_
    refine x_callVV (rest := []) hM hw (ct_X12_roomFor l ho (h.1 15 (h.1 0 19).toNatClampNeg) 7) [.int (h.1 15 (h.1 0 19).toNatClampNeg), .int 7] (okX12.o ho) rfl rfl rfl (gi_V ml_X12_293 im_X12_roomFor sl_X12_roomFor in_X12 kc_X12_roomFor) hd_X12_roomFor rfl ⟨Nat.le_of_ble_eq_true rfl, Nat.le_of_ble_eq_true rfl⟩ rfl (Nat.le_of_ble_eq_true rfl) hl.1 hcs0 hf dX12_tellOne_104 (fun h3 H locs hf hw => ?_)
    refine lv_aload_n hM.1 hM.2.1 dX12_tellOne_107 rfl (lv_at hl 0 rfl) ?_
    refine gf_X12_fault hM hw (okX12.o ho) fl_X12_236 dX12_tellOne_108 ?_
    refine x_if_ne (tgt := 347) hM hf dX12_tellOne_111 (by decide) (fun hf => ?_) (fun hf => ?_)
    · exact hR _ _ _ _ _ (Option.some.inj hf) rfl hw dX12_tellOne_347
    refine lv_aload_n hM.1 hM.2.1 dX12_tellOne_114 rfl (lv_at hl 0 rfl) ?_
    refine x_callVV (rest := []) hM hw (ct_X12_tellExcuse l ho) [] (okX12.o ho) rfl rfl rfl (gi_V ml_X12_300 im_X12_tellExcuse sl_X12_tellExcuse in_X12 kc_X12_tellExcuse) hd_X12_tellExcuse rfl ⟨Nat.le_of_ble_eq_true rfl, Nat.le_of_ble_eq_true rfl⟩ rfl (Nat.le_of_ble_eq_true rfl) hl.1 hcs0 hf dX12_tellOne_115 (fun h4 H locs hf hw => ?_)
    refine lv_goto (tgt := 347) hM.1 hM.2.1 dX12_tellOne_118 (by decide) ?_
    exact hR _ _ _ _ _ (Option.some.inj hf) rfl hw dX12_tellOne_347
  refine x_sw hf (fun hx hf => ?_) (fun n22 hf => ?_)
  · refine x_tabIn (tgt := 121) hM hx dX12_tellOne_9 (by decide) (by decide) rfl (by decide) ?_
    refine lv_aload_n hM.1 hM.2.1 dX12_tellOne_121 rfl (lv_at hl 0 rfl) ?_
    refine lv_aload_n hM.1 hM.2.1 dX12_tellOne_122 rfl (lv_at hl 0 rfl) ?_
    refine gf_X12_duties hM hw (okX12.o ho) fl_X12_80 dX12_tellOne_123 ?_
    refine lv_aload_n hM.1 hM.2.1 dX12_tellOne_126 rfl (lv_at hl 0 rfl) ?_
    refine gf_X12_side hM hw (okX12.o ho) fl_X12_269 dX12_tellOne_127 ?_
    refine x_iald hM hw (okX12.duties ho) hf dX12_tellOne_130 (fun hf => ?_)
    refine lv_bipush (v := 9) hM.1 hM.2.1 dX12_tellOne_131 (by decide) ?_
    refine x_callVV (rest := []) hM hw (ct_X12_roomFor l ho (h.1 21 (h.1 0 19).toNatClampNeg) 9) [.int (h.1 21 (h.1 0 19).toNatClampNeg), .int 9] (okX12.o ho) rfl rfl rfl (gi_V ml_X12_293 im_X12_roomFor sl_X12_roomFor in_X12 kc_X12_roomFor) hd_X12_roomFor rfl ⟨Nat.le_of_ble_eq_true rfl, Nat.le_of_ble_eq_true rfl⟩ rfl (Nat.le_of_ble_eq_true rfl) hl.1 hcs0 hf dX12_tellOne_133 (fun h5 H locs hf hw => ?_)
    refine lv_aload_n hM.1 hM.2.1 dX12_tellOne_136 rfl (lv_at hl 0 rfl) ?_
    refine gf_X12_fault hM hw (okX12.o ho) fl_X12_236 dX12_tellOne_137 ?_
    refine x_if_ne (tgt := 347) hM hf dX12_tellOne_140 (by decide) (fun hf => ?_) (fun hf => ?_)
    · exact hR _ _ _ _ _ (Option.some.inj hf) rfl hw dX12_tellOne_347
    refine lv_aload_n hM.1 hM.2.1 dX12_tellOne_143 rfl (lv_at hl 0 rfl) ?_
    refine x_callVV (rest := []) hM hw (ct_X12_tellDuty l ho) [] (okX12.o ho) rfl rfl rfl (gi_V ml_X12_303 im_X12_tellDuty sl_X12_tellDuty in_X12 kc_X12_tellDuty) hd_X12_tellDuty rfl ⟨Nat.le_of_ble_eq_true rfl, Nat.le_of_ble_eq_true rfl⟩ rfl (Nat.le_of_ble_eq_true rfl) hl.1 hcs0 hf dX12_tellOne_144 (fun h6 H locs hf hw => ?_)
    refine lv_goto (tgt := 347) hM.1 hM.2.1 dX12_tellOne_147 (by decide) ?_
    exact hR _ _ _ _ _ (Option.some.inj hf) rfl hw dX12_tellOne_347
  refine x_sw hf (fun hx hf => ?_) (fun n23 hf => ?_)
  · refine x_tabIn (tgt := 150) hM hx dX12_tellOne_9 (by decide) (by decide) rfl (by decide) ?_
    refine lv_aload_n hM.1 hM.2.1 dX12_tellOne_150 rfl (lv_at hl 0 rfl) ?_
    refine lv_aload_n hM.1 hM.2.1 dX12_tellOne_151 rfl (lv_at hl 0 rfl) ?_
    refine gf_X12_pairs hM hw (okX12.o ho) fl_X12_92 dX12_tellOne_152 ?_
    refine lv_aload_n hM.1 hM.2.1 dX12_tellOne_155 rfl (lv_at hl 0 rfl) ?_
    refine gf_X12_side hM hw (okX12.o ho) fl_X12_269 dX12_tellOne_156 ?_
    refine x_iald hM hw (okX12.pairs ho) hf dX12_tellOne_159 (fun hf => ?_)
    refine lv_bipush (v := 8) hM.1 hM.2.1 dX12_tellOne_160 (by decide) ?_
    refine x_callVV (rest := []) hM hw (ct_X12_roomFor l ho (h.1 25 (h.1 0 19).toNatClampNeg) 8) [.int (h.1 25 (h.1 0 19).toNatClampNeg), .int 8] (okX12.o ho) rfl rfl rfl (gi_V ml_X12_293 im_X12_roomFor sl_X12_roomFor in_X12 kc_X12_roomFor) hd_X12_roomFor rfl ⟨Nat.le_of_ble_eq_true rfl, Nat.le_of_ble_eq_true rfl⟩ rfl (Nat.le_of_ble_eq_true rfl) hl.1 hcs0 hf dX12_tellOne_162 (fun h7 H locs hf hw => ?_)
    refine lv_aload_n hM.1 hM.2.1 dX12_tellOne_165 rfl (lv_at hl 0 rfl) ?_
    refine gf_X12_fault hM hw (okX12.o ho) fl_X12_236 dX12_tellOne_166 ?_
    refine x_if_ne (tgt := 347) hM hf dX12_tellOne_169 (by decide) (fun hf => ?_) (fun hf => ?_)
    · exact hR _ _ _ _ _ (Option.some.inj hf) rfl hw dX12_tellOne_347
    refine lv_aload_n hM.1 hM.2.1 dX12_tellOne_172 rfl (lv_at hl 0 rfl) ?_
    refine x_callVV (rest := []) hM hw (ct_X12_tellKnows l ho) [] (okX12.o ho) rfl rfl rfl (gi_V ml_X12_306 im_X12_tellKnows sl_X12_tellKnows in_X12 kc_X12_tellKnows) hd_X12_tellKnows rfl ⟨Nat.le_of_ble_eq_true rfl, Nat.le_of_ble_eq_true rfl⟩ rfl (Nat.le_of_ble_eq_true rfl) hl.1 hcs0 hf dX12_tellOne_173 (fun h8 H locs hf hw => ?_)
    refine lv_goto (tgt := 347) hM.1 hM.2.1 dX12_tellOne_176 (by decide) ?_
    exact hR _ _ _ _ _ (Option.some.inj hf) rfl hw dX12_tellOne_347
  refine x_sw hf (fun hx hf => ?_) (fun n24 hf => ?_)
  · refine x_tabIn (tgt := 179) hM hx dX12_tellOne_9 (by decide) (by decide) rfl (by decide) ?_
    refine lv_aload_n hM.1 hM.2.1 dX12_tellOne_179 rfl (lv_at hl 0 rfl) ?_
    refine lv_aload_n hM.1 hM.2.1 dX12_tellOne_180 rfl (lv_at hl 0 rfl) ?_
    refine gf_X12_tests hM hw (okX12.o ho) fl_X12_95 dX12_tellOne_181 ?_
    refine lv_aload_n hM.1 hM.2.1 dX12_tellOne_184 rfl (lv_at hl 0 rfl) ?_
    refine gf_X12_side hM hw (okX12.o ho) fl_X12_269 dX12_tellOne_185 ?_
    refine x_iald hM hw (okX12.tests ho) hf dX12_tellOne_188 (fun hf => ?_)
    refine lv_bipush (v := 6) hM.1 hM.2.1 dX12_tellOne_189 (by decide) ?_
    refine x_callVV (rest := []) hM hw (ct_X12_roomFor l ho (h.1 26 (h.1 0 19).toNatClampNeg) 6) [.int (h.1 26 (h.1 0 19).toNatClampNeg), .int 6] (okX12.o ho) rfl rfl rfl (gi_V ml_X12_293 im_X12_roomFor sl_X12_roomFor in_X12 kc_X12_roomFor) hd_X12_roomFor rfl ⟨Nat.le_of_ble_eq_true rfl, Nat.le_of_ble_eq_true rfl⟩ rfl (Nat.le_of_ble_eq_true rfl) hl.1 hcs0 hf dX12_tellOne_191 (fun h9 H locs hf hw => ?_)
    refine lv_aload_n hM.1 hM.2.1 dX12_tellOne_194 rfl (lv_at hl 0 rfl) ?_
    refine gf_X12_fault hM hw (okX12.o ho) fl_X12_236 dX12_tellOne_195 ?_
    refine x_if_ne (tgt := 347) hM hf dX12_tellOne_198 (by decide) (fun hf => ?_) (fun hf => ?_)
    · exact hR _ _ _ _ _ (Option.some.inj hf) rfl hw dX12_tellOne_347
    refine lv_aload_n hM.1 hM.2.1 dX12_tellOne_201 rfl (lv_at hl 0 rfl) ?_
    refine x_callVV (rest := []) hM hw (ct_X12_tellTest l ho) [] (okX12.o ho) rfl rfl rfl (gi_V ml_X12_309 im_X12_tellTest sl_X12_tellTest in_X12 kc_X12_tellTest) hd_X12_tellTest rfl ⟨Nat.le_of_ble_eq_true rfl, Nat.le_of_ble_eq_true rfl⟩ rfl (Nat.le_of_ble_eq_true rfl) hl.1 hcs0 hf dX12_tellOne_202 (fun h10 H locs hf hw => ?_)
    refine lv_goto (tgt := 347) hM.1 hM.2.1 dX12_tellOne_205 (by decide) ?_
    exact hR _ _ _ _ _ (Option.some.inj hf) rfl hw dX12_tellOne_347
  refine x_sw hf (fun hx hf => ?_) (fun n25 hf => ?_)
  · refine x_tabIn (tgt := 294) hM hx dX12_tellOne_9 (by decide) (by decide) rfl (by decide) ?_
    exact w_X12_tellOne_j294 hM ho hR hw hl hf
  refine x_sw hf (fun hx hf => ?_) (fun n26 hf => ?_)
  · refine x_tabIn (tgt := 294) hM hx dX12_tellOne_9 (by decide) (by decide) rfl (by decide) ?_
    exact w_X12_tellOne_j294 hM ho hR hw hl hf
  refine x_sw hf (fun hx hf => ?_) (fun n27 hf => ?_)
  · refine x_tabIn (tgt := 208) hM hx dX12_tellOne_9 (by decide) (by decide) rfl (by decide) ?_
    refine lv_aload_n hM.1 hM.2.1 dX12_tellOne_208 rfl (lv_at hl 0 rfl) ?_
    refine x_callVV (rest := []) hM hw (ct_X12_goesOn l ho) [] (okX12.o ho) rfl rfl rfl (gi_V ml_X12_257 im_X12_goesOn sl_X12_goesOn in_X12 kc_X12_goesOn) hd_X12_goesOn rfl ⟨Nat.le_of_ble_eq_true rfl, Nat.le_of_ble_eq_true rfl⟩ rfl (Nat.le_of_ble_eq_true rfl) hl.1 hcs0 hf dX12_tellOne_209 (fun h20 H locs hf hw => ?_)
    refine lv_aload_n hM.1 hM.2.1 dX12_tellOne_212 rfl (lv_at hl 0 rfl) ?_
    refine gf_X12_rain hM hw (okX12.o ho) fl_X12_101 dX12_tellOne_213 ?_
    refine lv_aload_n hM.1 hM.2.1 dX12_tellOne_216 rfl (lv_at hl 0 rfl) ?_
    refine gf_X12_side hM hw (okX12.o ho) fl_X12_269 dX12_tellOne_217 ?_
    refine lv_aload_n hM.1 hM.2.1 dX12_tellOne_220 rfl (lv_at hl 0 rfl) ?_
    refine lv_iconst (v := 0) hM.1 hM.2.1 dX12_tellOne_221 ic_0 ?_
    refine lv_bipush (v := 100) hM.1 hM.2.1 dX12_tellOne_222 (by decide) ?_
    refine x_callVI (rest := [.int (h20.1 0 19), .ref (ad 28)]) hM hw (ct_X12_bounded l ho 0 100) [.int 0, .int 100] (okX12.o ho) rfl rfl rfl (gi_V ml_X12_312 im_X12_bounded sl_X12_bounded in_X12 kc_X12_bounded) hd_X12_bounded rfl ⟨Nat.le_of_ble_eq_true rfl, Nat.le_of_ble_eq_true rfl⟩ rfl (Nat.le_of_ble_eq_true rfl) hl.1 hcs0 hf dX12_tellOne_224 (fun r21 h22 H locs hf hw => ?_)
    refine x_iast hM hw (okX12.rain ho) hf dX12_tellOne_227 (fun h23 H locs hf hw => ?_)
    refine lv_aload_n hM.1 hM.2.1 dX12_tellOne_228 rfl (lv_at hl 0 rfl) ?_
    refine lv_iconst (v := 4) hM.1 hM.2.1 dX12_tellOne_229 ic_4 ?_
    refine x_callVV (rest := []) hM hw (ct_X12_must l ho 4) [.int 4] (okX12.o ho) rfl rfl rfl (gi_V ml_X12_316 im_X12_must sl_X12_must in_X12 kc_X12_must) hd_X12_must rfl ⟨Nat.le_of_ble_eq_true rfl, Nat.le_of_ble_eq_true rfl⟩ rfl (Nat.le_of_ble_eq_true rfl) hl.1 hcs0 hf dX12_tellOne_230 (fun h24 H locs hf hw => ?_)
    refine lv_goto (tgt := 347) hM.1 hM.2.1 dX12_tellOne_233 (by decide) ?_
    exact hR _ _ _ _ _ (Option.some.inj hf) rfl hw dX12_tellOne_347
  refine x_sw hf (fun hx hf => ?_) (fun n28 hf => ?_)
  · refine x_tabIn (tgt := 236) hM hx dX12_tellOne_9 (by decide) (by decide) rfl (by decide) ?_
    refine lv_aload_n hM.1 hM.2.1 dX12_tellOne_236 rfl (lv_at hl 0 rfl) ?_
    refine x_callVV (rest := []) hM hw (ct_X12_goesOn l ho) [] (okX12.o ho) rfl rfl rfl (gi_V ml_X12_257 im_X12_goesOn sl_X12_goesOn in_X12 kc_X12_goesOn) hd_X12_goesOn rfl ⟨Nat.le_of_ble_eq_true rfl, Nat.le_of_ble_eq_true rfl⟩ rfl (Nat.le_of_ble_eq_true rfl) hl.1 hcs0 hf dX12_tellOne_237 (fun h25 H locs hf hw => ?_)
    refine lv_aload_n hM.1 hM.2.1 dX12_tellOne_240 rfl (lv_at hl 0 rfl) ?_
    refine gf_X12_coinsTold hM hw (okX12.o ho) fl_X12_104 dX12_tellOne_241 ?_
    refine lv_aload_n hM.1 hM.2.1 dX12_tellOne_244 rfl (lv_at hl 0 rfl) ?_
    refine gf_X12_side hM hw (okX12.o ho) fl_X12_269 dX12_tellOne_245 ?_
    refine lv_aload_n hM.1 hM.2.1 dX12_tellOne_248 rfl (lv_at hl 0 rfl) ?_
    refine lv_iconst (v := 0) hM.1 hM.2.1 dX12_tellOne_249 ic_0 ?_
    refine lv_sipush (v := 999) hM.1 hM.2.1 dX12_tellOne_250 (by decide) ?_
    refine x_callVI (rest := [.int (h25.1 0 19), .ref (ad 29)]) hM hw (ct_X12_bounded l ho 0 999) [.int 0, .int 999] (okX12.o ho) rfl rfl rfl (gi_V ml_X12_312 im_X12_bounded sl_X12_bounded in_X12 kc_X12_bounded) hd_X12_bounded rfl ⟨Nat.le_of_ble_eq_true rfl, Nat.le_of_ble_eq_true rfl⟩ rfl (Nat.le_of_ble_eq_true rfl) hl.1 hcs0 hf dX12_tellOne_253 (fun r26 h27 H locs hf hw => ?_)
    refine x_iast hM hw (okX12.coinsTold ho) hf dX12_tellOne_256 (fun h28 H locs hf hw => ?_)
    refine lv_aload_n hM.1 hM.2.1 dX12_tellOne_257 rfl (lv_at hl 0 rfl) ?_
    refine lv_iconst (v := 4) hM.1 hM.2.1 dX12_tellOne_258 ic_4 ?_
    refine x_callVV (rest := []) hM hw (ct_X12_must l ho 4) [.int 4] (okX12.o ho) rfl rfl rfl (gi_V ml_X12_316 im_X12_must sl_X12_must in_X12 kc_X12_must) hd_X12_must rfl ⟨Nat.le_of_ble_eq_true rfl, Nat.le_of_ble_eq_true rfl⟩ rfl (Nat.le_of_ble_eq_true rfl) hl.1 hcs0 hf dX12_tellOne_259 (fun h29 H locs hf hw => ?_)
    refine lv_goto (tgt := 347) hM.1 hM.2.1 dX12_tellOne_262 (by decide) ?_
    exact hR _ _ _ _ _ (Option.some.inj hf) rfl hw dX12_tellOne_347
  refine x_sw hf (fun hx hf => ?_) (fun n29 hf => ?_)
  · refine x_tabIn (tgt := 265) hM hx dX12_tellOne_9 (by decide) (by decide) rfl (by decide) ?_
    refine lv_aload_n hM.1 hM.2.1 dX12_tellOne_265 rfl (lv_at hl 0 rfl) ?_
    refine x_callVV (rest := []) hM hw (ct_X12_goesOn l ho) [] (okX12.o ho) rfl rfl rfl (gi_V ml_X12_257 im_X12_goesOn sl_X12_goesOn in_X12 kc_X12_goesOn) hd_X12_goesOn rfl ⟨Nat.le_of_ble_eq_true rfl, Nat.le_of_ble_eq_true rfl⟩ rfl (Nat.le_of_ble_eq_true rfl) hl.1 hcs0 hf dX12_tellOne_266 (fun h30 H locs hf hw => ?_)
    refine lv_aload_n hM.1 hM.2.1 dX12_tellOne_269 rfl (lv_at hl 0 rfl) ?_
    refine gf_X12_seed hM hw (okX12.o ho) fl_X12_107 dX12_tellOne_270 ?_
    refine lv_aload_n hM.1 hM.2.1 dX12_tellOne_273 rfl (lv_at hl 0 rfl) ?_
    refine gf_X12_side hM hw (okX12.o ho) fl_X12_269 dX12_tellOne_274 ?_
    refine lv_aload_n hM.1 hM.2.1 dX12_tellOne_277 rfl (lv_at hl 0 rfl) ?_
    refine lv_iconst (v := 0) hM.1 hM.2.1 dX12_tellOne_278 ic_0 ?_
    refine lv_sipush (v := 9999) hM.1 hM.2.1 dX12_tellOne_279 (by decide) ?_
    refine x_callVI (rest := [.int (h30.1 0 19), .ref (ad 30)]) hM hw (ct_X12_bounded l ho 0 9999) [.int 0, .int 9999] (okX12.o ho) rfl rfl rfl (gi_V ml_X12_312 im_X12_bounded sl_X12_bounded in_X12 kc_X12_bounded) hd_X12_bounded rfl ⟨Nat.le_of_ble_eq_true rfl, Nat.le_of_ble_eq_true rfl⟩ rfl (Nat.le_of_ble_eq_true rfl) hl.1 hcs0 hf dX12_tellOne_282 (fun r31 h32 H locs hf hw => ?_)
    refine x_iast hM hw (okX12.seed ho) hf dX12_tellOne_285 (fun h33 H locs hf hw => ?_)
    refine lv_aload_n hM.1 hM.2.1 dX12_tellOne_286 rfl (lv_at hl 0 rfl) ?_
    refine lv_iconst (v := 4) hM.1 hM.2.1 dX12_tellOne_287 ic_4 ?_
    refine x_callVV (rest := []) hM hw (ct_X12_must l ho 4) [.int 4] (okX12.o ho) rfl rfl rfl (gi_V ml_X12_316 im_X12_must sl_X12_must in_X12 kc_X12_must) hd_X12_must rfl ⟨Nat.le_of_ble_eq_true rfl, Nat.le_of_ble_eq_true rfl⟩ rfl (Nat.le_of_ble_eq_true rfl) hl.1 hcs0 hf dX12_tellOne_288 (fun h34 H locs hf hw => ?_)
    refine lv_goto (tgt := 347) hM.1 hM.2.1 dX12_tellOne_291 (by decide) ?_
    exact hR _ _ _ _ _ (Option.some.inj hf) rfl hw dX12_tellOne_347
  refine lv_tableOut (tgt := 294) hM.1 hM.2.1 dX12_tellOne_9 (by have := sw_ne n20 (k := 20) (by decide); have := sw_ne n21 (k := 21) (by decide); have := sw_ne n22 (k := 22) (by decide); have := sw_ne n23 (k := 23) (by decide); have := sw_ne n24 (k := 24) (by decide); have := sw_ne n25 (k := 25) (by decide); have := sw_ne n26 (k := 26) (by decide); have := sw_ne n27 (k := 27) (by decide); have := sw_ne n28 (k := 28) (by decide); have := sw_ne n29 (k := 29) (by decide); omega) (by decide) ?_
  exact w_X12_tellOne_j294 hM ho hR hw hl hf
theorem hd_X12_tellOne : yX12_tellOne.cls = RX12 ∧ yX12_tellOne.cls ≠ "java/lang/invoke/MethodHandle" ∧ yX12_tellOne.cls ≠ "java/lang/invoke/VarHandle" ∧ (parseMethodDescriptor yX12_tellOne.desc).map (fun d => d.parameters.length) = some 0 := ⟨rfl, by decide, by decide, by decide +kernel⟩
theorem dX12_begins_0 : decode cX12_begins 0 = .ok (.iconst 0, 1) := by decide +kernel
theorem dX12_begins_1 : decode cX12_begins 1 = .ok (.istore_n 1, 1) := by decide +kernel
theorem dX12_begins_2 : decode cX12_begins 2 = .ok (.iload_n 1, 1) := by decide +kernel
theorem dX12_begins_3 : decode cX12_begins 3 = .ok (.bipush 40, 2) := by decide +kernel
theorem dX12_begins_5 : decode cX12_begins 5 = .ok (.if_icmp .ge 16, 3) := by decide +kernel
theorem dX12_begins_8 : decode cX12_begins 8 = .ok (.aload_n 0, 1) := by decide +kernel
theorem dX12_begins_9 : decode cX12_begins 9 = .ok (.getfield 149, 3) := by decide +kernel
theorem dX12_begins_12 : decode cX12_begins 12 = .ok (.iload_n 1, 1) := by decide +kernel
theorem dX12_begins_13 : decode cX12_begins 13 = .ok (.iconst 0, 1) := by decide +kernel
theorem dX12_begins_14 : decode cX12_begins 14 = .ok (.iastore, 1) := by decide +kernel
theorem dX12_begins_15 : decode cX12_begins 15 = .ok (.iinc 1 1, 3) := by decide +kernel
theorem dX12_begins_18 : decode cX12_begins 18 = .ok (.goto (-16), 3) := by decide +kernel
theorem dX12_begins_21 : decode cX12_begins 21 = .ok (.aload_n 0, 1) := by decide +kernel
theorem dX12_begins_22 : decode cX12_begins 22 = .ok (.getfield 149, 3) := by decide +kernel
theorem dX12_begins_25 : decode cX12_begins 25 = .ok (.iconst 1, 1) := by decide +kernel
theorem dX12_begins_26 : decode cX12_begins 26 = .ok (.aload_n 0, 1) := by decide +kernel
theorem dX12_begins_27 : decode cX12_begins 27 = .ok (.getfield 104, 3) := by decide +kernel
theorem dX12_begins_30 : decode cX12_begins 30 = .ok (.aload_n 0, 1) := by decide +kernel
theorem dX12_begins_31 : decode cX12_begins 31 = .ok (.getfield 266, 3) := by decide +kernel
theorem dX12_begins_34 : decode cX12_begins 34 = .ok (.iaload, 1) := by decide +kernel
theorem dX12_begins_35 : decode cX12_begins 35 = .ok (.iastore, 1) := by decide +kernel
theorem dX12_begins_36 : decode cX12_begins 36 = .ok (.iconst 0, 1) := by decide +kernel
theorem dX12_begins_37 : decode cX12_begins 37 = .ok (.istore_n 1, 1) := by decide +kernel
theorem dX12_begins_38 : decode cX12_begins 38 = .ok (.iload_n 1, 1) := by decide +kernel
theorem dX12_begins_39 : decode cX12_begins 39 = .ok (.bipush 9, 2) := by decide +kernel
theorem dX12_begins_41 : decode cX12_begins 41 = .ok (.if_icmp .ge 30, 3) := by decide +kernel
theorem dX12_begins_44 : decode cX12_begins 44 = .ok (.aload_n 0, 1) := by decide +kernel
theorem dX12_begins_45 : decode cX12_begins 45 = .ok (.getfield 149, 3) := by decide +kernel
theorem dX12_begins_48 : decode cX12_begins 48 = .ok (.iconst 4, 1) := by decide +kernel
theorem dX12_begins_49 : decode cX12_begins 49 = .ok (.iload_n 1, 1) := by decide +kernel
theorem dX12_begins_50 : decode cX12_begins 50 = .ok (.iadd, 1) := by decide +kernel
theorem dX12_begins_51 : decode cX12_begins 51 = .ok (.bipush (-2), 2) := by decide +kernel
theorem dX12_begins_53 : decode cX12_begins 53 = .ok (.iastore, 1) := by decide +kernel
theorem dX12_begins_54 : decode cX12_begins 54 = .ok (.aload_n 0, 1) := by decide +kernel
theorem dX12_begins_55 : decode cX12_begins 55 = .ok (.getfield 149, 3) := by decide +kernel
theorem dX12_begins_58 : decode cX12_begins 58 = .ok (.bipush 22, 2) := by decide +kernel
theorem dX12_begins_60 : decode cX12_begins 60 = .ok (.iload_n 1, 1) := by decide +kernel
theorem dX12_begins_61 : decode cX12_begins 61 = .ok (.iadd, 1) := by decide +kernel
theorem dX12_begins_62 : decode cX12_begins 62 = .ok (.bipush (-2), 2) := by decide +kernel
theorem dX12_begins_64 : decode cX12_begins 64 = .ok (.iastore, 1) := by decide +kernel
theorem dX12_begins_65 : decode cX12_begins 65 = .ok (.iinc 1 1, 3) := by decide +kernel
theorem dX12_begins_68 : decode cX12_begins 68 = .ok (.goto (-30), 3) := by decide +kernel
theorem dX12_begins_71 : decode cX12_begins 71 = .ok (.iconst 0, 1) := by decide +kernel
theorem dX12_begins_72 : decode cX12_begins 72 = .ok (.istore_n 1, 1) := by decide +kernel
theorem dX12_begins_73 : decode cX12_begins 73 = .ok (.iload_n 1, 1) := by decide +kernel
theorem dX12_begins_74 : decode cX12_begins 74 = .ok (.aload_n 0, 1) := by decide +kernel
theorem dX12_begins_75 : decode cX12_begins 75 = .ok (.getfield 49, 3) := by decide +kernel
theorem dX12_begins_78 : decode cX12_begins 78 = .ok (.aload_n 0, 1) := by decide +kernel
theorem dX12_begins_79 : decode cX12_begins 79 = .ok (.getfield 266, 3) := by decide +kernel
theorem dX12_begins_82 : decode cX12_begins 82 = .ok (.iaload, 1) := by decide +kernel
theorem dX12_begins_83 : decode cX12_begins 83 = .ok (.if_icmp .ge 31, 3) := by decide +kernel
theorem dX12_begins_86 : decode cX12_begins 86 = .ok (.aload_n 0, 1) := by decide +kernel
theorem dX12_begins_87 : decode cX12_begins 87 = .ok (.getfield 149, 3) := by decide +kernel
theorem dX12_begins_90 : decode cX12_begins 90 = .ok (.bipush 31, 2) := by decide +kernel
theorem dX12_begins_92 : decode cX12_begins 92 = .ok (.iload_n 1, 1) := by decide +kernel
theorem dX12_begins_93 : decode cX12_begins 93 = .ok (.iadd, 1) := by decide +kernel
theorem dX12_begins_94 : decode cX12_begins 94 = .ok (.aload_n 0, 1) := by decide +kernel
theorem dX12_begins_95 : decode cX12_begins 95 = .ok (.getfield 52, 3) := by decide +kernel
theorem dX12_begins_98 : decode cX12_begins 98 = .ok (.iconst 5, 1) := by decide +kernel
theorem dX12_begins_99 : decode cX12_begins 99 = .ok (.aload_n 0, 1) := by decide +kernel
theorem dX12_begins_100 : decode cX12_begins 100 = .ok (.getfield 266, 3) := by decide +kernel
theorem dX12_begins_103 : decode cX12_begins 103 = .ok (.imul, 1) := by decide +kernel
theorem dX12_begins_104 : decode cX12_begins 104 = .ok (.iload_n 1, 1) := by decide +kernel
theorem dX12_begins_105 : decode cX12_begins 105 = .ok (.iadd, 1) := by decide +kernel
theorem dX12_begins_106 : decode cX12_begins 106 = .ok (.iaload, 1) := by decide +kernel
theorem dX12_begins_107 : decode cX12_begins 107 = .ok (.iastore, 1) := by decide +kernel
theorem dX12_begins_108 : decode cX12_begins 108 = .ok (.iinc 1 1, 3) := by decide +kernel
theorem dX12_begins_111 : decode cX12_begins 111 = .ok (.goto (-38), 3) := by decide +kernel
theorem dX12_begins_114 : decode cX12_begins 114 = .ok (.aload_n 0, 1) := by decide +kernel
theorem dX12_begins_115 : decode cX12_begins 115 = .ok (.aload_n 0, 1) := by decide +kernel
theorem dX12_begins_116 : decode cX12_begins 116 = .ok (.getfield 107, 3) := by decide +kernel
theorem dX12_begins_119 : decode cX12_begins 119 = .ok (.aload_n 0, 1) := by decide +kernel
theorem dX12_begins_120 : decode cX12_begins 120 = .ok (.getfield 266, 3) := by decide +kernel
theorem dX12_begins_123 : decode cX12_begins 123 = .ok (.iaload, 1) := by decide +kernel
theorem dX12_begins_124 : decode cX12_begins 124 = .ok (.putfield 363, 3) := by decide +kernel
theorem dX12_begins_127 : decode cX12_begins 127 = .ok (.return_, 1) := by decide +kernel
def c_X12_begins_L2b {ρ : Type}  (K1 : PH → Option ρ) (REC : Int32 → PH → Option ρ) (x1 : Int32) (h : PH) : Option ρ :=
  if 40 ≤ x1 then
    K1 h
  else
    gd (ixOK x1 40) <| nm (setI h 44 x1.toNatClampNeg 0) fun h2 =>
    nm (x1 + 1) fun v3 =>
    REC v3 h2
set_option maxHeartbeats 4000000 in
set_option maxRecDepth 100000 in
theorem w_X12_begins_L2b {p0 : Program} {l : Launch} {e : Env} {s : State} {m : MethodId} {args : Array Value} {below : List Frame} {meth : Method} {c : Code} {Q : State → Prop} {D : va_G} {G : GG} {A : Nat → Prop} {H0 : Heap} {ad : Nat → Nat} {lay : List KK} {X : va_W} {ρ : Type} {r0 : ρ} {x1 : Int32} {h : PH} {H : Heap} {locs : List Loc} {ls : Array Slot} {K1 : PH → Option ρ} {REC : Int32 → PH → Option ρ} (hM : CallFix p0 m c cX12_begins 2 s args lw_g RX12) (ho : okX12 lay) (hk1 : ∀ (h : PH), ∀ (H : Heap) (locs : List Loc) (ls : Array Slot), K1 h = some r0 → Wd D G A H0 ad lay X h s H locs → lv_has ls 2 [(0, .ref (ad 0))] → W p0 l e (rmN 0 0) s m args below meth c H locs 0 0 Q (F0 m 21 ls [])) (hrec : ∀ (x1 : Int32) (h : PH), ∀ (H : Heap) (locs : List Loc) (ls : Array Slot), REC x1 h = some r0 → Wd D G A H0 ad lay X h s H locs → lv_has ls 2 [(0, .ref (ad 0)), (1, .int x1)] → W p0 l e (rmN 0 0) s m args below meth c H locs 0 0 Q (F0 m 2 ls [])) (hw : Wd D G A H0 ad lay X h s H locs) (hl : lv_has ls 2 [(0, .ref (ad 0)), (1, .int x1)]) (hf : c_X12_begins_L2b K1 REC x1 h = some r0) : W p0 l e (rmN 0 0) s m args below meth c H locs 0 0 Q (F0 m 2 ls []) := by
  unfold c_X12_begins_L2b at hf
  refine lv_iload_n hM.1 hM.2.1 dX12_begins_2 rfl (lv_at hl 1 rfl) ?_
  refine lv_bipush (v := 40) hM.1 hM.2.1 dX12_begins_3 (by decide) ?_
  refine x_ic_ge (tgt := 21) hM hf dX12_begins_5 (by decide) (fun hf => ?_) (fun hf => ?_)
  · exact hk1 _ _ _ _ hf hw (lv_sub hl [0] rfl)
  refine lv_aload_n hM.1 hM.2.1 dX12_begins_8 rfl (lv_at hl 0 rfl) ?_
  refine gf_X12_row hM hw (okX12.o ho) fl_X12_149 dX12_begins_9 ?_
  refine lv_iload_n hM.1 hM.2.1 dX12_begins_12 rfl (lv_at hl 1 rfl) ?_
  refine lv_iconst (v := 0) hM.1 hM.2.1 dX12_begins_13 ic_0 ?_
  refine x_iast hM hw (okX12.row ho) hf dX12_begins_14 (fun h2 H locs hf hw => ?_)
  refine x_iinc (k := 1) (d := 1) hM hf dX12_begins_15 hl rfl (by decide) (by decide) (fun v3 => [(1, .int v3), (0, .ref (ad 0))]) (fun _ => rfl) (fun v3 ls hf hl => ?_)
  refine lv_goto (tgt := 2) hM.1 hM.2.1 dX12_begins_18 (by decide) ?_
  exact hrec _ _ _ _ _ hf hw (lv_sub hl [1, 0] rfl)
set_option maxHeartbeats 4000000 in
set_option maxRecDepth 100000 in
theorem w_X12_begins_L2 {p0 : Program} {l : Launch} {e : Env} {s : State} {m : MethodId} {args : Array Value} {below : List Frame} {meth : Method} {c : Code} {Q : State → Prop} {D : va_G} {G : GG} {A : Nat → Prop} {H0 : Heap} {ad : Nat → Nat} {lay : List KK} {X : va_W} {ρ : Type} {r0 : ρ} {K1 : PH → Option ρ} (hM : CallFix p0 m c cX12_begins 2 s args lw_g RX12) (ho : okX12 lay) (hk1 : ∀ (h : PH), ∀ (H : Heap) (locs : List Loc) (ls : Array Slot), K1 h = some r0 → Wd D G A H0 ad lay X h s H locs → lv_has ls 2 [(0, .ref (ad 0))] → W p0 l e (rmN 0 0) s m args below meth c H locs 0 0 Q (F0 m 21 ls [])) (n : Nat) (x1 : Int32) (h : PH) (hf : lq2 (c_X12_begins_L2b K1) n x1 h = some r0) : ∀ (H : Heap) (locs : List Loc) (ls : Array Slot), Wd D G A H0 ad lay X h s H locs → lv_has ls 2 [(0, .ref (ad 0)), (1, .int x1)] → W p0 l e (rmN 0 0) s m args below meth c H locs 0 0 Q (F0 m 2 ls []) := by
  exact lq2_i (fun (x1 : Int32) (h : PH) => ∀ (H : Heap) (locs : List Loc) (ls : Array Slot), Wd D G A H0 ad lay X h s H locs → lv_has ls 2 [(0, .ref (ad 0)), (1, .int x1)] → W p0 l e (rmN 0 0) s m args below meth c H locs 0 0 Q (F0 m 2 ls [])) (fun REC x1 h ih hf H locs ls hw hl => w_X12_begins_L2b hM ho hk1 (fun x1 h H locs ls hf hw hl => ih x1 h hf H locs ls hw hl) hw hl hf) n x1 h hf
def c_X12_begins_L38b {ρ : Type}  (K1 : PH → Option ρ) (REC : Int32 → PH → Option ρ) (x1 : Int32) (h : PH) : Option ρ :=
  if 9 ≤ x1 then
    K1 h
  else
    gd (ixOK (4 + x1) 40) <| nm (setI h 44 (4 + x1).toNatClampNeg (-2)) fun h7 =>
    gd (ixOK (22 + x1) 40) <| nm (setI h7 44 (22 + x1).toNatClampNeg (-2)) fun h8 =>
    nm (x1 + 1) fun v9 =>
    REC v9 h8
set_option maxHeartbeats 4000000 in
set_option maxRecDepth 100000 in
theorem w_X12_begins_L38b {p0 : Program} {l : Launch} {e : Env} {s : State} {m : MethodId} {args : Array Value} {below : List Frame} {meth : Method} {c : Code} {Q : State → Prop} {D : va_G} {G : GG} {A : Nat → Prop} {H0 : Heap} {ad : Nat → Nat} {lay : List KK} {X : va_W} {ρ : Type} {r0 : ρ} {x1 : Int32} {h : PH} {H : Heap} {locs : List Loc} {ls : Array Slot} {K1 : PH → Option ρ} {REC : Int32 → PH → Option ρ} (hM : CallFix p0 m c cX12_begins 2 s args lw_g RX12) (ho : okX12 lay) (hk1 : ∀ (h : PH), ∀ (H : Heap) (locs : List Loc) (ls : Array Slot), K1 h = some r0 → Wd D G A H0 ad lay X h s H locs → lv_has ls 2 [(0, .ref (ad 0))] → W p0 l e (rmN 0 0) s m args below meth c H locs 0 0 Q (F0 m 71 ls [])) (hrec : ∀ (x1 : Int32) (h : PH), ∀ (H : Heap) (locs : List Loc) (ls : Array Slot), REC x1 h = some r0 → Wd D G A H0 ad lay X h s H locs → lv_has ls 2 [(0, .ref (ad 0)), (1, .int x1)] → W p0 l e (rmN 0 0) s m args below meth c H locs 0 0 Q (F0 m 38 ls [])) (hw : Wd D G A H0 ad lay X h s H locs) (hl : lv_has ls 2 [(0, .ref (ad 0)), (1, .int x1)]) (hf : c_X12_begins_L38b K1 REC x1 h = some r0) : W p0 l e (rmN 0 0) s m args below meth c H locs 0 0 Q (F0 m 38 ls []) := by
  unfold c_X12_begins_L38b at hf
  refine lv_iload_n hM.1 hM.2.1 dX12_begins_38 rfl (lv_at hl 1 rfl) ?_
  refine lv_bipush (v := 9) hM.1 hM.2.1 dX12_begins_39 (by decide) ?_
  refine x_ic_ge (tgt := 71) hM hf dX12_begins_41 (by decide) (fun hf => ?_) (fun hf => ?_)
  · exact hk1 _ _ _ _ hf hw (lv_sub hl [0] rfl)
  refine lv_aload_n hM.1 hM.2.1 dX12_begins_44 rfl (lv_at hl 0 rfl) ?_
  refine gf_X12_row hM hw (okX12.o ho) fl_X12_149 dX12_begins_45 ?_
  refine lv_iconst (v := 4) hM.1 hM.2.1 dX12_begins_48 ic_4 ?_
  refine lv_iload_n hM.1 hM.2.1 dX12_begins_49 rfl (lv_at hl 1 rfl) ?_
  refine lv_iadd hM.1 hM.2.1 dX12_begins_50 ?_
  refine lv_bipush (v := (-2)) hM.1 hM.2.1 dX12_begins_51 (by decide) ?_
  refine x_iast hM hw (okX12.row ho) hf dX12_begins_53 (fun h7 H locs hf hw => ?_)
  refine lv_aload_n hM.1 hM.2.1 dX12_begins_54 rfl (lv_at hl 0 rfl) ?_
  refine gf_X12_row hM hw (okX12.o ho) fl_X12_149 dX12_begins_55 ?_
  refine lv_bipush (v := 22) hM.1 hM.2.1 dX12_begins_58 (by decide) ?_
  refine lv_iload_n hM.1 hM.2.1 dX12_begins_60 rfl (lv_at hl 1 rfl) ?_
  refine lv_iadd hM.1 hM.2.1 dX12_begins_61 ?_
  refine lv_bipush (v := (-2)) hM.1 hM.2.1 dX12_begins_62 (by decide) ?_
  refine x_iast hM hw (okX12.row ho) hf dX12_begins_64 (fun h8 H locs hf hw => ?_)
  refine x_iinc (k := 1) (d := 1) hM hf dX12_begins_65 hl rfl (by decide) (by decide) (fun v9 => [(1, .int v9), (0, .ref (ad 0))]) (fun _ => rfl) (fun v9 ls hf hl => ?_)
  refine lv_goto (tgt := 38) hM.1 hM.2.1 dX12_begins_68 (by decide) ?_
  exact hrec _ _ _ _ _ hf hw (lv_sub hl [1, 0] rfl)
set_option maxHeartbeats 4000000 in
set_option maxRecDepth 100000 in
theorem w_X12_begins_L38 {p0 : Program} {l : Launch} {e : Env} {s : State} {m : MethodId} {args : Array Value} {below : List Frame} {meth : Method} {c : Code} {Q : State → Prop} {D : va_G} {G : GG} {A : Nat → Prop} {H0 : Heap} {ad : Nat → Nat} {lay : List KK} {X : va_W} {ρ : Type} {r0 : ρ} {K1 : PH → Option ρ} (hM : CallFix p0 m c cX12_begins 2 s args lw_g RX12) (ho : okX12 lay) (hk1 : ∀ (h : PH), ∀ (H : Heap) (locs : List Loc) (ls : Array Slot), K1 h = some r0 → Wd D G A H0 ad lay X h s H locs → lv_has ls 2 [(0, .ref (ad 0))] → W p0 l e (rmN 0 0) s m args below meth c H locs 0 0 Q (F0 m 71 ls [])) (n : Nat) (x1 : Int32) (h : PH) (hf : lq2 (c_X12_begins_L38b K1) n x1 h = some r0) : ∀ (H : Heap) (locs : List Loc) (ls : Array Slot), Wd D G A H0 ad lay X h s H locs → lv_has ls 2 [(0, .ref (ad 0)), (1, .int x1)] → W p0 l e (rmN 0 0) s m args below meth c H locs 0 0 Q (F0 m 38 ls []) := by
  exact lq2_i (fun (x1 : Int32) (h : PH) => ∀ (H : Heap) (locs : List Loc) (ls : Array Slot), Wd D G A H0 ad lay X h s H locs → lv_has ls 2 [(0, .ref (ad 0)), (1, .int x1)] → W p0 l e (rmN 0 0) s m args below meth c H locs 0 0 Q (F0 m 38 ls [])) (fun REC x1 h ih hf H locs ls hw hl => w_X12_begins_L38b hM ho hk1 (fun x1 h H locs ls hf hw hl => ih x1 h hf H locs ls hw hl) hw hl hf) n x1 h hf
def c_X12_begins_L73b {ρ : Type}  (K1 : PH → Option ρ) (REC : Int32 → PH → Option ρ) (x1 : Int32) (h : PH) : Option ρ :=
  gd (ixOK (h.1 0 18) 2) <|
  if (h.1 11 (h.1 0 18).toNatClampNeg) ≤ x1 then
    K1 h
  else
    gd (ixOK ((5 * (h.1 0 18)) + x1) 10) <|
    gd (ixOK (31 + x1) 40) <| nm (setI h 44 (31 + x1).toNatClampNeg (h.1 12 ((5 * (h.1 0 18)) + x1).toNatClampNeg)) fun h12 =>
    nm (x1 + 1) fun v13 =>
    REC v13 h12
set_option maxHeartbeats 4000000 in
set_option maxRecDepth 100000 in
theorem w_X12_begins_L73b {p0 : Program} {l : Launch} {e : Env} {s : State} {m : MethodId} {args : Array Value} {below : List Frame} {meth : Method} {c : Code} {Q : State → Prop} {D : va_G} {G : GG} {A : Nat → Prop} {H0 : Heap} {ad : Nat → Nat} {lay : List KK} {X : va_W} {ρ : Type} {r0 : ρ} {x1 : Int32} {h : PH} {H : Heap} {locs : List Loc} {ls : Array Slot} {K1 : PH → Option ρ} {REC : Int32 → PH → Option ρ} (hM : CallFix p0 m c cX12_begins 2 s args lw_g RX12) (ho : okX12 lay) (hk1 : ∀ (h : PH), ∀ (H : Heap) (locs : List Loc) (ls : Array Slot), K1 h = some r0 → Wd D G A H0 ad lay X h s H locs → lv_has ls 2 [(0, .ref (ad 0))] → W p0 l e (rmN 0 0) s m args below meth c H locs 0 0 Q (F0 m 114 ls [])) (hrec : ∀ (x1 : Int32) (h : PH), ∀ (H : Heap) (locs : List Loc) (ls : Array Slot), REC x1 h = some r0 → Wd D G A H0 ad lay X h s H locs → lv_has ls 2 [(0, .ref (ad 0)), (1, .int x1)] → W p0 l e (rmN 0 0) s m args below meth c H locs 0 0 Q (F0 m 73 ls [])) (hw : Wd D G A H0 ad lay X h s H locs) (hl : lv_has ls 2 [(0, .ref (ad 0)), (1, .int x1)]) (hf : c_X12_begins_L73b K1 REC x1 h = some r0) : W p0 l e (rmN 0 0) s m args below meth c H locs 0 0 Q (F0 m 73 ls []) := by
  unfold c_X12_begins_L73b at hf
  refine lv_iload_n hM.1 hM.2.1 dX12_begins_73 rfl (lv_at hl 1 rfl) ?_
  refine lv_aload_n hM.1 hM.2.1 dX12_begins_74 rfl (lv_at hl 0 rfl) ?_
  refine gf_X12_men hM hw (okX12.o ho) fl_X12_49 dX12_begins_75 ?_
  refine lv_aload_n hM.1 hM.2.1 dX12_begins_78 rfl (lv_at hl 0 rfl) ?_
  refine gf_X12_live hM hw (okX12.o ho) fl_X12_266 dX12_begins_79 ?_
  refine x_iald hM hw (okX12.men ho) hf dX12_begins_82 (fun hf => ?_)
  refine x_ic_ge (tgt := 114) hM hf dX12_begins_83 (by decide) (fun hf => ?_) (fun hf => ?_)
  · exact hk1 _ _ _ _ hf hw (lv_sub hl [0] rfl)
  refine lv_aload_n hM.1 hM.2.1 dX12_begins_86 rfl (lv_at hl 0 rfl) ?_
  refine gf_X12_row hM hw (okX12.o ho) fl_X12_149 dX12_begins_87 ?_
  refine lv_bipush (v := 31) hM.1 hM.2.1 dX12_begins_90 (by decide) ?_
  refine lv_iload_n hM.1 hM.2.1 dX12_begins_92 rfl (lv_at hl 1 rfl) ?_
  refine lv_iadd hM.1 hM.2.1 dX12_begins_93 ?_
  refine lv_aload_n hM.1 hM.2.1 dX12_begins_94 rfl (lv_at hl 0 rfl) ?_
  refine gf_X12_trustTold hM hw (okX12.o ho) fl_X12_52 dX12_begins_95 ?_
  refine lv_iconst (v := 5) hM.1 hM.2.1 dX12_begins_98 ic_5 ?_
  refine lv_aload_n hM.1 hM.2.1 dX12_begins_99 rfl (lv_at hl 0 rfl) ?_
  refine gf_X12_live hM hw (okX12.o ho) fl_X12_266 dX12_begins_100 ?_
  refine lv_imul hM.1 hM.2.1 dX12_begins_103 ?_
  refine lv_iload_n hM.1 hM.2.1 dX12_begins_104 rfl (lv_at hl 1 rfl) ?_
  refine lv_iadd hM.1 hM.2.1 dX12_begins_105 ?_
  refine x_iald hM hw (okX12.trustTold ho) hf dX12_begins_106 (fun hf => ?_)
  refine x_iast hM hw (okX12.row ho) hf dX12_begins_107 (fun h12 H locs hf hw => ?_)
  refine x_iinc (k := 1) (d := 1) hM hf dX12_begins_108 hl rfl (by decide) (by decide) (fun v13 => [(1, .int v13), (0, .ref (ad 0))]) (fun _ => rfl) (fun v13 ls hf hl => ?_)
  refine lv_goto (tgt := 73) hM.1 hM.2.1 dX12_begins_111 (by decide) ?_
  exact hrec _ _ _ _ _ hf hw (lv_sub hl [1, 0] rfl)
set_option maxHeartbeats 4000000 in
set_option maxRecDepth 100000 in
theorem w_X12_begins_L73 {p0 : Program} {l : Launch} {e : Env} {s : State} {m : MethodId} {args : Array Value} {below : List Frame} {meth : Method} {c : Code} {Q : State → Prop} {D : va_G} {G : GG} {A : Nat → Prop} {H0 : Heap} {ad : Nat → Nat} {lay : List KK} {X : va_W} {ρ : Type} {r0 : ρ} {K1 : PH → Option ρ} (hM : CallFix p0 m c cX12_begins 2 s args lw_g RX12) (ho : okX12 lay) (hk1 : ∀ (h : PH), ∀ (H : Heap) (locs : List Loc) (ls : Array Slot), K1 h = some r0 → Wd D G A H0 ad lay X h s H locs → lv_has ls 2 [(0, .ref (ad 0))] → W p0 l e (rmN 0 0) s m args below meth c H locs 0 0 Q (F0 m 114 ls [])) (n : Nat) (x1 : Int32) (h : PH) (hf : lq2 (c_X12_begins_L73b K1) n x1 h = some r0) : ∀ (H : Heap) (locs : List Loc) (ls : Array Slot), Wd D G A H0 ad lay X h s H locs → lv_has ls 2 [(0, .ref (ad 0)), (1, .int x1)] → W p0 l e (rmN 0 0) s m args below meth c H locs 0 0 Q (F0 m 73 ls []) := by
  exact lq2_i (fun (x1 : Int32) (h : PH) => ∀ (H : Heap) (locs : List Loc) (ls : Array Slot), Wd D G A H0 ad lay X h s H locs → lv_has ls 2 [(0, .ref (ad 0)), (1, .int x1)] → W p0 l e (rmN 0 0) s m args below meth c H locs 0 0 Q (F0 m 73 ls [])) (fun REC x1 h ih hf H locs ls hw hl => w_X12_begins_L73b hM ho hk1 (fun x1 h H locs ls hf hw hl => ih x1 h hf H locs ls hw hl) hw hl hf) n x1 h hf
def c_X12_begins (h : PH) : Option (PH) :=
  nm (0 : Int32) fun v1 =>
  lq2 (c_X12_begins_L2b
    (fun h4 =>
      gd (ixOK (h4.1 0 18) 2) <|
      nm (setI h4 44 1 (h4.1 29 (h4.1 0 18).toNatClampNeg)) fun h5 =>
      nm (0 : Int32) fun v6 =>
      lq2 (c_X12_begins_L38b
        (fun h10 =>
          nm (0 : Int32) fun v11 =>
          lq2 (c_X12_begins_L73b
            (fun h14 =>
              gd (ixOK (h14.1 0 18) 2) <|
              nm (setI h14 0 62 (h14.1 30 (h14.1 0 18).toNatClampNeg)) fun h15 =>
              some h15)) fu v11 h10)) fu v6 h5)) fu v1 h
set_option maxHeartbeats 4000000 in
set_option maxRecDepth 100000 in
theorem ct_X12_begins (l : Launch) {lay : List KK} (ho : okX12 lay) : CtV l yX12_begins cX12_begins 2 (none) 0 0 lay (fun h => c_X12_begins h) (fun ad => [.ref (ad 0)]) := by
  refine CtV.mk' RX12 (by decide) rfl (fun _ => Nat.le_of_ble_eq_true rfl) ?_
  intro p0 e s m args below meth c D G A H0 ad X h r0 H ls Q hM hw hl hf hR
  have hl : lv_has ls 2 [(0, .ref (ad 0))] := hl
  unfold c_X12_begins at hf
  refine lv_iconst (v := 0) hM.1 hM.2.1 dX12_begins_0 ic_0 ?_
  refine x_istore_n hM hf dX12_begins_1 rfl hl (by decide) (fun v1 => [(1, .int v1), (0, .ref (ad 0))]) (fun _ => rfl) (fun v1 ls hf hl => ?_)
  refine w_X12_begins_L2 hM ho (fun h4 H locs ls hf hw hl => ?_) fu _ _ hf _ _ _ hw (lv_sub hl [1, 0] rfl)
  refine lv_aload_n hM.1 hM.2.1 dX12_begins_21 rfl (lv_at hl 0 rfl) ?_
  refine gf_X12_row hM hw (okX12.o ho) fl_X12_149 dX12_begins_22 ?_
  refine lv_iconst (v := 1) hM.1 hM.2.1 dX12_begins_25 ic_1 ?_
  refine lv_aload_n hM.1 hM.2.1 dX12_begins_26 rfl (lv_at hl 0 rfl) ?_
  refine gf_X12_coinsTold hM hw (okX12.o ho) fl_X12_104 dX12_begins_27 ?_
  refine lv_aload_n hM.1 hM.2.1 dX12_begins_30 rfl (lv_at hl 0 rfl) ?_
  refine gf_X12_live hM hw (okX12.o ho) fl_X12_266 dX12_begins_31 ?_
  refine x_iald hM hw (okX12.coinsTold ho) hf dX12_begins_34 (fun hf => ?_)
  refine x_iastK hM hw (okX12.row ho) 1 (by decide) (by decide) hf dX12_begins_35 (fun h5 H locs hf hw => ?_)
  refine lv_iconst (v := 0) hM.1 hM.2.1 dX12_begins_36 ic_0 ?_
  refine x_istore_n hM hf dX12_begins_37 rfl hl (by decide) (fun v6 => [(1, .int v6), (0, .ref (ad 0))]) (fun _ => rfl) (fun v6 ls hf hl => ?_)
  refine w_X12_begins_L38 hM ho (fun h10 H locs ls hf hw hl => ?_) fu _ _ hf _ _ _ hw (lv_sub hl [1, 0] rfl)
  refine lv_iconst (v := 0) hM.1 hM.2.1 dX12_begins_71 ic_0 ?_
  refine x_istore_n hM hf dX12_begins_72 rfl hl (by decide) (fun v11 => [(1, .int v11), (0, .ref (ad 0))]) (fun _ => rfl) (fun v11 ls hf hl => ?_)
  refine w_X12_begins_L73 hM ho (fun h14 H locs ls hf hw hl => ?_) fu _ _ hf _ _ _ hw (lv_sub hl [1, 0] rfl)
  refine lv_aload_n hM.1 hM.2.1 dX12_begins_114 rfl (lv_at hl 0 rfl) ?_
  refine lv_aload_n hM.1 hM.2.1 dX12_begins_115 rfl (lv_at hl 0 rfl) ?_
  refine gf_X12_seed hM hw (okX12.o ho) fl_X12_107 dX12_begins_116 ?_
  refine lv_aload_n hM.1 hM.2.1 dX12_begins_119 rfl (lv_at hl 0 rfl) ?_
  refine gf_X12_live hM hw (okX12.o ho) fl_X12_266 dX12_begins_120 ?_
  refine x_iald hM hw (okX12.seed ho) hf dX12_begins_123 (fun hf => ?_)
  refine pf_X12_lots hM hw (okX12.o ho) fl_X12_363 hf dX12_begins_124 (fun h15 H locs hf hw => ?_)
  exact hR _ _ _ _ _ (Option.some.inj hf) rfl hw dX12_begins_127
theorem hd_X12_begins : yX12_begins.cls = RX12 ∧ yX12_begins.cls ≠ "java/lang/invoke/MethodHandle" ∧ yX12_begins.cls ≠ "java/lang/invoke/VarHandle" ∧ (parseMethodDescriptor yX12_begins.desc).map (fun d => d.parameters.length) = some 0 := ⟨rfl, by decide, by decide, by decide +kernel⟩
theorem dX12_keepsRow_0 : decode cX12_keepsRow 0 = .ok (.iconst 0, 1) := by decide +kernel
theorem dX12_keepsRow_1 : decode cX12_keepsRow 1 = .ok (.istore_n 1, 1) := by decide +kernel
theorem dX12_keepsRow_2 : decode cX12_keepsRow 2 = .ok (.iload_n 1, 1) := by decide +kernel
theorem dX12_keepsRow_3 : decode cX12_keepsRow 3 = .ok (.bipush 40, 2) := by decide +kernel
theorem dX12_keepsRow_5 : decode cX12_keepsRow 5 = .ok (.if_icmp .ge 21, 3) := by decide +kernel
theorem dX12_keepsRow_8 : decode cX12_keepsRow 8 = .ok (.aload_n 0, 1) := by decide +kernel
theorem dX12_keepsRow_9 : decode cX12_keepsRow 9 = .ok (.getfield 146, 3) := by decide +kernel
theorem dX12_keepsRow_12 : decode cX12_keepsRow 12 = .ok (.iload_n 1, 1) := by decide +kernel
theorem dX12_keepsRow_13 : decode cX12_keepsRow 13 = .ok (.aload_n 0, 1) := by decide +kernel
theorem dX12_keepsRow_14 : decode cX12_keepsRow 14 = .ok (.getfield 149, 3) := by decide +kernel
theorem dX12_keepsRow_17 : decode cX12_keepsRow 17 = .ok (.iload_n 1, 1) := by decide +kernel
theorem dX12_keepsRow_18 : decode cX12_keepsRow 18 = .ok (.iaload, 1) := by decide +kernel
theorem dX12_keepsRow_19 : decode cX12_keepsRow 19 = .ok (.iastore, 1) := by decide +kernel
theorem dX12_keepsRow_20 : decode cX12_keepsRow 20 = .ok (.iinc 1 1, 3) := by decide +kernel
theorem dX12_keepsRow_23 : decode cX12_keepsRow 23 = .ok (.goto (-21), 3) := by decide +kernel
theorem dX12_keepsRow_26 : decode cX12_keepsRow 26 = .ok (.return_, 1) := by decide +kernel
def c_X12_keepsRow_L2b {ρ : Type}  (K1 : PH → Option ρ) (REC : Int32 → PH → Option ρ) (x1 : Int32) (h : PH) : Option ρ :=
  if 40 ≤ x1 then
    K1 h
  else
    gd (ixOK x1 40) <|
    gd (ixOK x1 40) <| nm (setI h 43 x1.toNatClampNeg (h.1 44 x1.toNatClampNeg)) fun h2 =>
    nm (x1 + 1) fun v3 =>
    REC v3 h2
set_option maxHeartbeats 4000000 in
set_option maxRecDepth 100000 in
theorem w_X12_keepsRow_L2b {p0 : Program} {l : Launch} {e : Env} {s : State} {m : MethodId} {args : Array Value} {below : List Frame} {meth : Method} {c : Code} {Q : State → Prop} {D : va_G} {G : GG} {A : Nat → Prop} {H0 : Heap} {ad : Nat → Nat} {lay : List KK} {X : va_W} {ρ : Type} {r0 : ρ} {x1 : Int32} {h : PH} {H : Heap} {locs : List Loc} {ls : Array Slot} {K1 : PH → Option ρ} {REC : Int32 → PH → Option ρ} (hM : CallFix p0 m c cX12_keepsRow 2 s args lw_g RX12) (ho : okX12 lay) (hk1 : ∀ (h : PH), ∀ (H : Heap) (locs : List Loc) (ls : Array Slot), K1 h = some r0 → Wd D G A H0 ad lay X h s H locs → lv_has ls 2 [] → W p0 l e (rmN 0 0) s m args below meth c H locs 0 0 Q (F0 m 26 ls [])) (hrec : ∀ (x1 : Int32) (h : PH), ∀ (H : Heap) (locs : List Loc) (ls : Array Slot), REC x1 h = some r0 → Wd D G A H0 ad lay X h s H locs → lv_has ls 2 [(0, .ref (ad 0)), (1, .int x1)] → W p0 l e (rmN 0 0) s m args below meth c H locs 0 0 Q (F0 m 2 ls [])) (hw : Wd D G A H0 ad lay X h s H locs) (hl : lv_has ls 2 [(0, .ref (ad 0)), (1, .int x1)]) (hf : c_X12_keepsRow_L2b K1 REC x1 h = some r0) : W p0 l e (rmN 0 0) s m args below meth c H locs 0 0 Q (F0 m 2 ls []) := by
  unfold c_X12_keepsRow_L2b at hf
  refine lv_iload_n hM.1 hM.2.1 dX12_keepsRow_2 rfl (lv_at hl 1 rfl) ?_
  refine lv_bipush (v := 40) hM.1 hM.2.1 dX12_keepsRow_3 (by decide) ?_
  refine x_ic_ge (tgt := 26) hM hf dX12_keepsRow_5 (by decide) (fun hf => ?_) (fun hf => ?_)
  · exact hk1 _ _ _ _ hf hw (lv_sub hl [] rfl)
  refine lv_aload_n hM.1 hM.2.1 dX12_keepsRow_8 rfl (lv_at hl 0 rfl) ?_
  refine gf_X12_now hM hw (okX12.o ho) fl_X12_146 dX12_keepsRow_9 ?_
  refine lv_iload_n hM.1 hM.2.1 dX12_keepsRow_12 rfl (lv_at hl 1 rfl) ?_
  refine lv_aload_n hM.1 hM.2.1 dX12_keepsRow_13 rfl (lv_at hl 0 rfl) ?_
  refine gf_X12_row hM hw (okX12.o ho) fl_X12_149 dX12_keepsRow_14 ?_
  refine lv_iload_n hM.1 hM.2.1 dX12_keepsRow_17 rfl (lv_at hl 1 rfl) ?_
  refine x_iald hM hw (okX12.row ho) hf dX12_keepsRow_18 (fun hf => ?_)
  refine x_iast hM hw (okX12.now ho) hf dX12_keepsRow_19 (fun h2 H locs hf hw => ?_)
  refine x_iinc (k := 1) (d := 1) hM hf dX12_keepsRow_20 hl rfl (by decide) (by decide) (fun v3 => [(1, .int v3), (0, .ref (ad 0))]) (fun _ => rfl) (fun v3 ls hf hl => ?_)
  refine lv_goto (tgt := 2) hM.1 hM.2.1 dX12_keepsRow_23 (by decide) ?_
  exact hrec _ _ _ _ _ hf hw (lv_sub hl [1, 0] rfl)
set_option maxHeartbeats 4000000 in
set_option maxRecDepth 100000 in
theorem w_X12_keepsRow_L2 {p0 : Program} {l : Launch} {e : Env} {s : State} {m : MethodId} {args : Array Value} {below : List Frame} {meth : Method} {c : Code} {Q : State → Prop} {D : va_G} {G : GG} {A : Nat → Prop} {H0 : Heap} {ad : Nat → Nat} {lay : List KK} {X : va_W} {ρ : Type} {r0 : ρ} {K1 : PH → Option ρ} (hM : CallFix p0 m c cX12_keepsRow 2 s args lw_g RX12) (ho : okX12 lay) (hk1 : ∀ (h : PH), ∀ (H : Heap) (locs : List Loc) (ls : Array Slot), K1 h = some r0 → Wd D G A H0 ad lay X h s H locs → lv_has ls 2 [] → W p0 l e (rmN 0 0) s m args below meth c H locs 0 0 Q (F0 m 26 ls [])) (n : Nat) (x1 : Int32) (h : PH) (hf : lq2 (c_X12_keepsRow_L2b K1) n x1 h = some r0) : ∀ (H : Heap) (locs : List Loc) (ls : Array Slot), Wd D G A H0 ad lay X h s H locs → lv_has ls 2 [(0, .ref (ad 0)), (1, .int x1)] → W p0 l e (rmN 0 0) s m args below meth c H locs 0 0 Q (F0 m 2 ls []) := by
  exact lq2_i (fun (x1 : Int32) (h : PH) => ∀ (H : Heap) (locs : List Loc) (ls : Array Slot), Wd D G A H0 ad lay X h s H locs → lv_has ls 2 [(0, .ref (ad 0)), (1, .int x1)] → W p0 l e (rmN 0 0) s m args below meth c H locs 0 0 Q (F0 m 2 ls [])) (fun REC x1 h ih hf H locs ls hw hl => w_X12_keepsRow_L2b hM ho hk1 (fun x1 h H locs ls hf hw hl => ih x1 h hf H locs ls hw hl) hw hl hf) n x1 h hf
def c_X12_keepsRow (h : PH) : Option (PH) :=
  nm (0 : Int32) fun v1 =>
  lq2 (c_X12_keepsRow_L2b
    (fun h4 =>
      some h4)) fu v1 h
set_option maxHeartbeats 4000000 in
set_option maxRecDepth 100000 in
theorem ct_X12_keepsRow (l : Launch) {lay : List KK} (ho : okX12 lay) : CtV l yX12_keepsRow cX12_keepsRow 2 (none) 0 0 lay (fun h => c_X12_keepsRow h) (fun ad => [.ref (ad 0)]) := by
  refine CtV.mk' RX12 (by decide) rfl (fun _ => Nat.le_of_ble_eq_true rfl) ?_
  intro p0 e s m args below meth c D G A H0 ad X h r0 H ls Q hM hw hl hf hR
  have hl : lv_has ls 2 [(0, .ref (ad 0))] := hl
  unfold c_X12_keepsRow at hf
  refine lv_iconst (v := 0) hM.1 hM.2.1 dX12_keepsRow_0 ic_0 ?_
  refine x_istore_n hM hf dX12_keepsRow_1 rfl hl (by decide) (fun v1 => [(1, .int v1), (0, .ref (ad 0))]) (fun _ => rfl) (fun v1 ls hf hl => ?_)
  refine w_X12_keepsRow_L2 hM ho (fun h4 H locs ls hf hw hl => ?_) fu _ _ hf _ _ _ hw (lv_sub hl [1, 0] rfl)
  exact hR _ _ _ _ _ (Option.some.inj hf) rfl hw dX12_keepsRow_26
theorem hd_X12_keepsRow : yX12_keepsRow.cls = RX12 ∧ yX12_keepsRow.cls ≠ "java/lang/invoke/MethodHandle" ∧ yX12_keepsRow.cls ≠ "java/lang/invoke/VarHandle" ∧ (parseMethodDescriptor yX12_keepsRow.desc).map (fun d => d.parameters.length) = some 0 := ⟨rfl, by decide, by decide, by decide +kernel⟩
theorem dX12_read_0 : decode cX12_read 0 = .ok (.aload_n 0, 1) := by decide +kernel
theorem dX12_read_1 : decode cX12_read 1 = .ok (.aload_n 0, 1) := by decide +kernel
theorem dX12_read_2 : decode cX12_read 2 = .ok (.getfield 199, 3) := by decide +kernel
theorem dX12_read_5 : decode cX12_read 5 = .ok (.putfield 205, 3) := by decide +kernel
theorem dX12_read_8 : decode cX12_read 8 = .ok (.iconst 0, 1) := by decide +kernel
theorem dX12_read_9 : decode cX12_read 9 = .ok (.istore_n 1, 1) := by decide +kernel
theorem dX12_read_10 : decode cX12_read 10 = .ok (.iload_n 1, 1) := by decide +kernel
theorem dX12_read_11 : decode cX12_read 11 = .ok (.aload_n 0, 1) := by decide +kernel
theorem dX12_read_12 : decode cX12_read 12 = .ok (.getfield 205, 3) := by decide +kernel
theorem dX12_read_15 : decode cX12_read 15 = .ok (.if_icmp .ge 21, 3) := by decide +kernel
theorem dX12_read_18 : decode cX12_read 18 = .ok (.aload_n 0, 1) := by decide +kernel
theorem dX12_read_19 : decode cX12_read 19 = .ok (.getfield 17, 3) := by decide +kernel
theorem dX12_read_22 : decode cX12_read 22 = .ok (.iload_n 1, 1) := by decide +kernel
theorem dX12_read_23 : decode cX12_read 23 = .ok (.aload_n 0, 1) := by decide +kernel
theorem dX12_read_24 : decode cX12_read 24 = .ok (.getfield 13, 3) := by decide +kernel
theorem dX12_read_27 : decode cX12_read 27 = .ok (.iload_n 1, 1) := by decide +kernel
theorem dX12_read_28 : decode cX12_read 28 = .ok (.baload, 1) := by decide +kernel
theorem dX12_read_29 : decode cX12_read 29 = .ok (.bastore, 1) := by decide +kernel
theorem dX12_read_30 : decode cX12_read 30 = .ok (.iinc 1 1, 3) := by decide +kernel
theorem dX12_read_33 : decode cX12_read 33 = .ok (.goto (-23), 3) := by decide +kernel
theorem dX12_read_36 : decode cX12_read 36 = .ok (.aload_n 0, 1) := by decide +kernel
theorem dX12_read_37 : decode cX12_read 37 = .ok (.iconst 0, 1) := by decide +kernel
theorem dX12_read_38 : decode cX12_read 38 = .ok (.putfield 199, 3) := by decide +kernel
theorem dX12_read_41 : decode cX12_read 41 = .ok (.aload_n 0, 1) := by decide +kernel
theorem dX12_read_42 : decode cX12_read 42 = .ok (.invokevirtual 260, 3) := by decide +kernel
theorem dX12_read_45 : decode cX12_read 45 = .ok (.aload_n 0, 1) := by decide +kernel
theorem dX12_read_46 : decode cX12_read 46 = .ok (.iconst 0, 1) := by decide +kernel
theorem dX12_read_47 : decode cX12_read 47 = .ok (.putfield 239, 3) := by decide +kernel
theorem dX12_read_50 : decode cX12_read 50 = .ok (.aload_n 0, 1) := by decide +kernel
theorem dX12_read_51 : decode cX12_read 51 = .ok (.iconst 0, 1) := by decide +kernel
theorem dX12_read_52 : decode cX12_read 52 = .ok (.putfield 263, 3) := by decide +kernel
theorem dX12_read_55 : decode cX12_read 55 = .ok (.aload_n 0, 1) := by decide +kernel
theorem dX12_read_56 : decode cX12_read 56 = .ok (.iconst 0, 1) := by decide +kernel
theorem dX12_read_57 : decode cX12_read 57 = .ok (.putfield 236, 3) := by decide +kernel
theorem dX12_read_60 : decode cX12_read 60 = .ok (.aload_n 0, 1) := by decide +kernel
theorem dX12_read_61 : decode cX12_read 61 = .ok (.iconst 0, 1) := by decide +kernel
theorem dX12_read_62 : decode cX12_read 62 = .ok (.putfield 245, 3) := by decide +kernel
theorem dX12_read_65 : decode cX12_read 65 = .ok (.aload_n 0, 1) := by decide +kernel
theorem dX12_read_66 : decode cX12_read 66 = .ok (.iconst 1, 1) := by decide +kernel
theorem dX12_read_67 : decode cX12_read 67 = .ok (.aload_n 0, 1) := by decide +kernel
theorem dX12_read_68 : decode cX12_read 68 = .ok (.getfield 266, 3) := by decide +kernel
theorem dX12_read_71 : decode cX12_read 71 = .ok (.isub, 1) := by decide +kernel
theorem dX12_read_72 : decode cX12_read 72 = .ok (.putfield 269, 3) := by decide +kernel
theorem dX12_read_75 : decode cX12_read 75 = .ok (.aload_n 0, 1) := by decide +kernel
theorem dX12_read_76 : decode cX12_read 76 = .ok (.iconst 0, 1) := by decide +kernel
theorem dX12_read_77 : decode cX12_read 77 = .ok (.putfield 272, 3) := by decide +kernel
theorem dX12_read_80 : decode cX12_read 80 = .ok (.aload_n 0, 1) := by decide +kernel
theorem dX12_read_81 : decode cX12_read 81 = .ok (.aload_n 0, 1) := by decide +kernel
theorem dX12_read_82 : decode cX12_read 82 = .ok (.getfield 269, 3) := by decide +kernel
theorem dX12_read_85 : decode cX12_read 85 = .ok (.invokevirtual 185, 3) := by decide +kernel
theorem dX12_read_88 : decode cX12_read 88 = .ok (.aload_n 0, 1) := by decide +kernel
theorem dX12_read_89 : decode cX12_read 89 = .ok (.sipush 130, 3) := by decide +kernel
theorem dX12_read_92 : decode cX12_read 92 = .ok (.aload_n 0, 1) := by decide +kernel
theorem dX12_read_93 : decode cX12_read 93 = .ok (.getfield 269, 3) := by decide +kernel
theorem dX12_read_96 : decode cX12_read 96 = .ok (.imul, 1) := by decide +kernel
theorem dX12_read_97 : decode cX12_read 97 = .ok (.putfield 275, 3) := by decide +kernel
theorem dX12_read_100 : decode cX12_read 100 = .ok (.aload_n 0, 1) := by decide +kernel
theorem dX12_read_101 : decode cX12_read 101 = .ok (.sipush 420, 3) := by decide +kernel
theorem dX12_read_104 : decode cX12_read 104 = .ok (.aload_n 0, 1) := by decide +kernel
theorem dX12_read_105 : decode cX12_read 105 = .ok (.getfield 269, 3) := by decide +kernel
theorem dX12_read_108 : decode cX12_read 108 = .ok (.imul, 1) := by decide +kernel
theorem dX12_read_109 : decode cX12_read 109 = .ok (.putfield 278, 3) := by decide +kernel
theorem dX12_read_112 : decode cX12_read 112 = .ok (.aload_n 0, 1) := by decide +kernel
theorem dX12_read_113 : decode cX12_read 113 = .ok (.getfield 236, 3) := by decide +kernel
theorem dX12_read_116 : decode cX12_read 116 = .ok (.ifCond .ne 18, 3) := by decide +kernel
theorem dX12_read_119 : decode cX12_read 119 = .ok (.aload_n 0, 1) := by decide +kernel
theorem dX12_read_120 : decode cX12_read 120 = .ok (.iconst 0, 1) := by decide +kernel
theorem dX12_read_121 : decode cX12_read 121 = .ok (.invokevirtual 254, 3) := by decide +kernel
theorem dX12_read_124 : decode cX12_read 124 = .ok (.ifCond .ne 10, 3) := by decide +kernel
theorem dX12_read_127 : decode cX12_read 127 = .ok (.aload_n 0, 1) := by decide +kernel
theorem dX12_read_128 : decode cX12_read 128 = .ok (.invokevirtual 281, 3) := by decide +kernel
theorem dX12_read_131 : decode cX12_read 131 = .ok (.goto (-19), 3) := by decide +kernel
theorem dX12_read_134 : decode cX12_read 134 = .ok (.aload_n 0, 1) := by decide +kernel
theorem dX12_read_135 : decode cX12_read 135 = .ok (.aload_n 0, 1) := by decide +kernel
theorem dX12_read_136 : decode cX12_read 136 = .ok (.getfield 236, 3) := by decide +kernel
theorem dX12_read_139 : decode cX12_read 139 = .ok (.ifCond .le 10, 3) := by decide +kernel
theorem dX12_read_142 : decode cX12_read 142 = .ok (.aload_n 0, 1) := by decide +kernel
theorem dX12_read_143 : decode cX12_read 143 = .ok (.getfield 242, 3) := by decide +kernel
theorem dX12_read_146 : decode cX12_read 146 = .ok (.goto 18, 3) := by decide +kernel
theorem dX12_read_149 : decode cX12_read 149 = .ok (.aload_n 0, 1) := by decide +kernel
theorem dX12_read_150 : decode cX12_read 150 = .ok (.getfield 245, 3) := by decide +kernel
theorem dX12_read_153 : decode cX12_read 153 = .ok (.ifCond .le 10, 3) := by decide +kernel
theorem dX12_read_156 : decode cX12_read 156 = .ok (.aload_n 0, 1) := by decide +kernel
theorem dX12_read_157 : decode cX12_read 157 = .ok (.getfield 248, 3) := by decide +kernel
theorem dX12_read_160 : decode cX12_read 160 = .ok (.goto 4, 3) := by decide +kernel
theorem dX12_read_163 : decode cX12_read 163 = .ok (.iconst (-1), 1) := by decide +kernel
theorem dX12_read_164 : decode cX12_read 164 = .ok (.putfield 37, 3) := by decide +kernel
theorem dX12_read_167 : decode cX12_read 167 = .ok (.aload_n 0, 1) := by decide +kernel
theorem dX12_read_168 : decode cX12_read 168 = .ok (.getfield 236, 3) := by decide +kernel
theorem dX12_read_171 : decode cX12_read 171 = .ok (.ifCond .le 8, 3) := by decide +kernel
theorem dX12_read_174 : decode cX12_read 174 = .ok (.aload_n 0, 1) := by decide +kernel
theorem dX12_read_175 : decode cX12_read 175 = .ok (.getfield 236, 3) := by decide +kernel
theorem dX12_read_178 : decode cX12_read 178 = .ok (.ireturn, 1) := by decide +kernel
theorem dX12_read_179 : decode cX12_read 179 = .ok (.aload_n 0, 1) := by decide +kernel
theorem dX12_read_180 : decode cX12_read 180 = .ok (.getfield 245, 3) := by decide +kernel
theorem dX12_read_183 : decode cX12_read 183 = .ok (.ifCond .le 8, 3) := by decide +kernel
theorem dX12_read_186 : decode cX12_read 186 = .ok (.aload_n 0, 1) := by decide +kernel
theorem dX12_read_187 : decode cX12_read 187 = .ok (.getfield 245, 3) := by decide +kernel
theorem dX12_read_190 : decode cX12_read 190 = .ok (.ireturn, 1) := by decide +kernel
theorem dX12_read_191 : decode cX12_read 191 = .ok (.aload_n 0, 1) := by decide +kernel
theorem dX12_read_192 : decode cX12_read 192 = .ok (.aload_n 0, 1) := by decide +kernel
theorem dX12_read_193 : decode cX12_read 193 = .ok (.getfield 269, 3) := by decide +kernel
theorem dX12_read_196 : decode cX12_read 196 = .ok (.putfield 266, 3) := by decide +kernel
theorem dX12_read_199 : decode cX12_read 199 = .ok (.aload_n 0, 1) := by decide +kernel
theorem dX12_read_200 : decode cX12_read 200 = .ok (.invokevirtual 193, 3) := by decide +kernel
theorem dX12_read_203 : decode cX12_read 203 = .ok (.aload_n 0, 1) := by decide +kernel
theorem dX12_read_204 : decode cX12_read 204 = .ok (.invokevirtual 196, 3) := by decide +kernel
theorem dX12_read_207 : decode cX12_read 207 = .ok (.aload_n 0, 1) := by decide +kernel
theorem dX12_read_208 : decode cX12_read 208 = .ok (.iconst 0, 1) := by decide +kernel
theorem dX12_read_209 : decode cX12_read 209 = .ok (.putfield 284, 3) := by decide +kernel
theorem dX12_read_212 : decode cX12_read 212 = .ok (.aload_n 0, 1) := by decide +kernel
theorem dX12_read_213 : decode cX12_read 213 = .ok (.iconst 0, 1) := by decide +kernel
theorem dX12_read_214 : decode cX12_read 214 = .ok (.putfield 287, 3) := by decide +kernel
theorem dX12_read_217 : decode cX12_read 217 = .ok (.aload_n 0, 1) := by decide +kernel
theorem dX12_read_218 : decode cX12_read 218 = .ok (.iconst 0, 1) := by decide +kernel
theorem dX12_read_219 : decode cX12_read 219 = .ok (.putfield 290, 3) := by decide +kernel
theorem dX12_read_222 : decode cX12_read 222 = .ok (.iconst 0, 1) := by decide +kernel
theorem dX12_read_223 : decode cX12_read 223 = .ok (.istore_n 1, 1) := by decide +kernel
theorem dX12_read_224 : decode cX12_read 224 = .ok (.iload_n 1, 1) := by decide +kernel
theorem dX12_read_225 : decode cX12_read 225 = .ok (.iconst 3, 1) := by decide +kernel
theorem dX12_read_226 : decode cX12_read 226 = .ok (.if_icmp .ge 16, 3) := by decide +kernel
theorem dX12_read_229 : decode cX12_read 229 = .ok (.aload_n 0, 1) := by decide +kernel
theorem dX12_read_230 : decode cX12_read 230 = .ok (.getfield 179, 3) := by decide +kernel
theorem dX12_read_233 : decode cX12_read 233 = .ok (.iload_n 1, 1) := by decide +kernel
theorem dX12_read_234 : decode cX12_read 234 = .ok (.iconst 0, 1) := by decide +kernel
theorem dX12_read_235 : decode cX12_read 235 = .ok (.bastore, 1) := by decide +kernel
theorem dX12_read_236 : decode cX12_read 236 = .ok (.iinc 1 1, 3) := by decide +kernel
theorem dX12_read_239 : decode cX12_read 239 = .ok (.goto (-15), 3) := by decide +kernel
theorem dX12_read_242 : decode cX12_read 242 = .ok (.iconst 0, 1) := by decide +kernel
theorem dX12_read_243 : decode cX12_read 243 = .ok (.ireturn, 1) := by decide +kernel
def c_X12_read_L10b {ρ : Type}  (K1 : PH → Option ρ) (REC : Int32 → PH → Option ρ) (x1 : Int32) (h : PH) : Option ρ :=
  if (h.1 0 4) ≤ x1 then
    K1 h
  else
    gd (ixOK x1 2000) <|
    gd (ixOK x1 2000) <| nm (setI h 2 x1.toNatClampNeg (vp_nar .byte (h.1 1 x1.toNatClampNeg))) fun h3 =>
    nm (x1 + 1) fun v4 =>
    REC v4 h3
set_option maxHeartbeats 4000000 in
set_option maxRecDepth 100000 in
theorem w_X12_read_L10b {p0 : Program} {l : Launch} {e : Env} {s : State} {m : MethodId} {args : Array Value} {below : List Frame} {meth : Method} {c : Code} {Q : State → Prop} {D : va_G} {G : GG} {A : Nat → Prop} {H0 : Heap} {ad : Nat → Nat} {lay : List KK} {X : va_W} {ρ : Type} {r0 : ρ} {x1 : Int32} {h : PH} {H : Heap} {locs : List Loc} {ls : Array Slot} {K1 : PH → Option ρ} {REC : Int32 → PH → Option ρ} (hM : CallFix p0 m c cX12_read 2 s args lw_g RX12) (ho : okX12 lay) (hk1 : ∀ (h : PH), ∀ (H : Heap) (locs : List Loc) (ls : Array Slot), K1 h = some r0 → Wd D G A H0 ad lay X h s H locs → lv_has ls 2 [(0, .ref (ad 0))] → W p0 l e (rmN 7 147) s m args below meth c H locs 0 0 Q (F0 m 36 ls [])) (hrec : ∀ (x1 : Int32) (h : PH), ∀ (H : Heap) (locs : List Loc) (ls : Array Slot), REC x1 h = some r0 → Wd D G A H0 ad lay X h s H locs → lv_has ls 2 [(0, .ref (ad 0)), (1, .int x1)] → W p0 l e (rmN 7 147) s m args below meth c H locs 0 0 Q (F0 m 10 ls [])) (hw : Wd D G A H0 ad lay X h s H locs) (hl : lv_has ls 2 [(0, .ref (ad 0)), (1, .int x1)]) (hf : c_X12_read_L10b K1 REC x1 h = some r0) : W p0 l e (rmN 7 147) s m args below meth c H locs 0 0 Q (F0 m 10 ls []) := by
  unfold c_X12_read_L10b at hf
  refine lv_iload_n hM.1 hM.2.1 dX12_read_10 rfl (lv_at hl 1 rfl) ?_
  refine lv_aload_n hM.1 hM.2.1 dX12_read_11 rfl (lv_at hl 0 rfl) ?_
  refine gf_X12_size hM hw (okX12.o ho) fl_X12_205 dX12_read_12 ?_
  refine x_ic_ge (tgt := 36) hM hf dX12_read_15 (by decide) (fun hf => ?_) (fun hf => ?_)
  · exact hk1 _ _ _ _ hf hw (lv_sub hl [0] rfl)
  refine lv_aload_n hM.1 hM.2.1 dX12_read_18 rfl (lv_at hl 0 rfl) ?_
  refine gf_X12_text hM hw (okX12.o ho) fl_X12_17 dX12_read_19 ?_
  refine lv_iload_n hM.1 hM.2.1 dX12_read_22 rfl (lv_at hl 1 rfl) ?_
  refine lv_aload_n hM.1 hM.2.1 dX12_read_23 rfl (lv_at hl 0 rfl) ?_
  refine gf_X12_tape hM hw (okX12.o ho) fl_X12_13 dX12_read_24 ?_
  refine lv_iload_n hM.1 hM.2.1 dX12_read_27 rfl (lv_at hl 1 rfl) ?_
  refine x_bald hM hw (okX12.tape ho) hf dX12_read_28 (fun hf => ?_)
  refine x_bast hM hw (okX12.text ho) hf dX12_read_29 (fun h3 H locs hf hw => ?_)
  refine x_iinc (k := 1) (d := 1) hM hf dX12_read_30 hl rfl (by decide) (by decide) (fun v4 => [(1, .int v4), (0, .ref (ad 0))]) (fun _ => rfl) (fun v4 ls hf hl => ?_)
  refine lv_goto (tgt := 10) hM.1 hM.2.1 dX12_read_33 (by decide) ?_
  exact hrec _ _ _ _ _ hf hw (lv_sub hl [1, 0] rfl)
set_option maxHeartbeats 4000000 in
set_option maxRecDepth 100000 in
theorem w_X12_read_L10 {p0 : Program} {l : Launch} {e : Env} {s : State} {m : MethodId} {args : Array Value} {below : List Frame} {meth : Method} {c : Code} {Q : State → Prop} {D : va_G} {G : GG} {A : Nat → Prop} {H0 : Heap} {ad : Nat → Nat} {lay : List KK} {X : va_W} {ρ : Type} {r0 : ρ} {K1 : PH → Option ρ} (hM : CallFix p0 m c cX12_read 2 s args lw_g RX12) (ho : okX12 lay) (hk1 : ∀ (h : PH), ∀ (H : Heap) (locs : List Loc) (ls : Array Slot), K1 h = some r0 → Wd D G A H0 ad lay X h s H locs → lv_has ls 2 [(0, .ref (ad 0))] → W p0 l e (rmN 7 147) s m args below meth c H locs 0 0 Q (F0 m 36 ls [])) (n : Nat) (x1 : Int32) (h : PH) (hf : lq2 (c_X12_read_L10b K1) n x1 h = some r0) : ∀ (H : Heap) (locs : List Loc) (ls : Array Slot), Wd D G A H0 ad lay X h s H locs → lv_has ls 2 [(0, .ref (ad 0)), (1, .int x1)] → W p0 l e (rmN 7 147) s m args below meth c H locs 0 0 Q (F0 m 10 ls []) := by
  exact lq2_i (fun (x1 : Int32) (h : PH) => ∀ (H : Heap) (locs : List Loc) (ls : Array Slot), Wd D G A H0 ad lay X h s H locs → lv_has ls 2 [(0, .ref (ad 0)), (1, .int x1)] → W p0 l e (rmN 7 147) s m args below meth c H locs 0 0 Q (F0 m 10 ls [])) (fun REC x1 h ih hf H locs ls hw hl => w_X12_read_L10b hM ho hk1 (fun x1 h H locs ls hf hw hl => ih x1 h hf H locs ls hw hl) hw hl hf) n x1 h hf
def c_X12_read_L112b {ρ : Type}  (K1 : PH → Option ρ) (REC : PH → Option ρ) (h : PH) : Option ρ :=
  if (h.1 0 13) = 0 then
    (c_X12_is 0 h).bind fun r17 =>
    if r17 = 0 then
      (c_X12_tellOne h).bind fun h18 =>
      REC h18
    else
      K1 h
  else
    K1 h
set_option maxHeartbeats 4000000 in
set_option maxRecDepth 100000 in
theorem w_X12_read_L112b {p0 : Program} {l : Launch} {e : Env} {s : State} {m : MethodId} {args : Array Value} {below : List Frame} {meth : Method} {c : Code} {Q : State → Prop} {D : va_G} {G : GG} {A : Nat → Prop} {H0 : Heap} {ad : Nat → Nat} {lay : List KK} {X : va_W} {ρ : Type} {r0 : ρ} {h : PH} {H : Heap} {locs : List Loc} {ls : Array Slot} {K1 : PH → Option ρ} {REC : PH → Option ρ} (hM : CallFix p0 m c cX12_read 2 s args lw_g RX12) (ho : okX12 lay) (hk1 : ∀ (h : PH), ∀ (H : Heap) (locs : List Loc) (ls : Array Slot), K1 h = some r0 → Wd D G A H0 ad lay X h s H locs → lv_has ls 2 [(0, .ref (ad 0))] → W p0 l e (rmN 7 147) s m args below meth c H locs 0 0 Q (F0 m 134 ls [])) (hrec : ∀ (h : PH), ∀ (H : Heap) (locs : List Loc) (ls : Array Slot), REC h = some r0 → Wd D G A H0 ad lay X h s H locs → lv_has ls 2 [(0, .ref (ad 0))] → W p0 l e (rmN 7 147) s m args below meth c H locs 0 0 Q (F0 m 112 ls [])) (hw : Wd D G A H0 ad lay X h s H locs) (hl : lv_has ls 2 [(0, .ref (ad 0))]) (hf : c_X12_read_L112b K1 REC h = some r0) : W p0 l e (rmN 7 147) s m args below meth c H locs 0 0 Q (F0 m 112 ls []) := by
  unfold c_X12_read_L112b at hf
  refine lv_aload_n hM.1 hM.2.1 dX12_read_112 rfl (lv_at hl 0 rfl) ?_
  refine gf_X12_fault hM hw (okX12.o ho) fl_X12_236 dX12_read_113 ?_
  refine x_if_ne (tgt := 134) hM hf dX12_read_116 (by decide) (fun hf => ?_) (fun hf => ?_)
  · exact hk1 _ _ _ _ hf hw hl
  refine lv_aload_n hM.1 hM.2.1 dX12_read_119 rfl (lv_at hl 0 rfl) ?_
  refine lv_iconst (v := 0) hM.1 hM.2.1 dX12_read_120 ic_0 ?_
  refine x_callVIr (rest := []) hM hw (ct_X12_is l ho 0) [.int 0] (okX12.o ho) rfl rfl rfl (gi_V ml_X12_254 im_X12_is sl_X12_is in_X12 kc_X12_is) hd_X12_is rfl ⟨Nat.le_of_ble_eq_true rfl, Nat.le_of_ble_eq_true rfl⟩ rfl (Nat.le_of_ble_eq_true rfl) hl.1 hcs0 hf dX12_read_121 (fun r17 H locs hf hw => ?_)
  refine x_if_ne (tgt := 134) hM hf dX12_read_124 (by decide) (fun hf => ?_) (fun hf => ?_)
  · exact hk1 _ _ _ _ hf hw hl
  refine lv_aload_n hM.1 hM.2.1 dX12_read_127 rfl (lv_at hl 0 rfl) ?_
  refine x_callVV (rest := []) hM hw (ct_X12_tellOne l ho) [] (okX12.o ho) rfl rfl rfl (gi_V ml_X12_281 im_X12_tellOne sl_X12_tellOne in_X12 kc_X12_tellOne) hd_X12_tellOne rfl ⟨Nat.le_of_ble_eq_true rfl, Nat.le_of_ble_eq_true rfl⟩ rfl (Nat.le_of_ble_eq_true rfl) hl.1 hcs0 hf dX12_read_128 (fun h18 H locs hf hw => ?_)
  refine lv_goto (tgt := 112) hM.1 hM.2.1 dX12_read_131 (by decide) ?_
  exact hrec _ _ _ _ hf hw hl
set_option maxHeartbeats 4000000 in
set_option maxRecDepth 100000 in
theorem w_X12_read_L112 {p0 : Program} {l : Launch} {e : Env} {s : State} {m : MethodId} {args : Array Value} {below : List Frame} {meth : Method} {c : Code} {Q : State → Prop} {D : va_G} {G : GG} {A : Nat → Prop} {H0 : Heap} {ad : Nat → Nat} {lay : List KK} {X : va_W} {ρ : Type} {r0 : ρ} {K1 : PH → Option ρ} (hM : CallFix p0 m c cX12_read 2 s args lw_g RX12) (ho : okX12 lay) (hk1 : ∀ (h : PH), ∀ (H : Heap) (locs : List Loc) (ls : Array Slot), K1 h = some r0 → Wd D G A H0 ad lay X h s H locs → lv_has ls 2 [(0, .ref (ad 0))] → W p0 l e (rmN 7 147) s m args below meth c H locs 0 0 Q (F0 m 134 ls [])) (n : Nat) (h : PH) (hf : lq1 (c_X12_read_L112b K1) n h = some r0) : ∀ (H : Heap) (locs : List Loc) (ls : Array Slot), Wd D G A H0 ad lay X h s H locs → lv_has ls 2 [(0, .ref (ad 0))] → W p0 l e (rmN 7 147) s m args below meth c H locs 0 0 Q (F0 m 112 ls []) := by
  exact lq1_i (fun (h : PH) => ∀ (H : Heap) (locs : List Loc) (ls : Array Slot), Wd D G A H0 ad lay X h s H locs → lv_has ls 2 [(0, .ref (ad 0))] → W p0 l e (rmN 7 147) s m args below meth c H locs 0 0 Q (F0 m 112 ls [])) (fun REC h ih hf H locs ls hw hl => w_X12_read_L112b hM ho hk1 (fun h H locs ls hf hw hl => ih h hf H locs ls hw hl) hw hl hf) n h hf
def c_X12_read_L224b {ρ : Type}  (K1 : PH → Option ρ) (REC : Int32 → PH → Option ρ) (x1 : Int32) (h : PH) : Option ρ :=
  if 3 ≤ x1 then
    K1 h
  else
    gd (ixOK x1 3) <| nm (setI h 54 x1.toNatClampNeg (vp_nar .boolean 0)) fun h28 =>
    nm (x1 + 1) fun v29 =>
    REC v29 h28
set_option maxHeartbeats 4000000 in
set_option maxRecDepth 100000 in
theorem w_X12_read_L224b {p0 : Program} {l : Launch} {e : Env} {s : State} {m : MethodId} {args : Array Value} {below : List Frame} {meth : Method} {c : Code} {Q : State → Prop} {D : va_G} {G : GG} {A : Nat → Prop} {H0 : Heap} {ad : Nat → Nat} {lay : List KK} {X : va_W} {ρ : Type} {r0 : ρ} {x1 : Int32} {h : PH} {H : Heap} {locs : List Loc} {ls : Array Slot} {K1 : PH → Option ρ} {REC : Int32 → PH → Option ρ} (hM : CallFix p0 m c cX12_read 2 s args lw_g RX12) (ho : okX12 lay) (hk1 : ∀ (h : PH), ∀ (H : Heap) (locs : List Loc) (ls : Array Slot), K1 h = some r0 → Wd D G A H0 ad lay X h s H locs → lv_has ls 2 [] → W p0 l e (rmN 7 147) s m args below meth c H locs 0 0 Q (F0 m 242 ls [])) (hrec : ∀ (x1 : Int32) (h : PH), ∀ (H : Heap) (locs : List Loc) (ls : Array Slot), REC x1 h = some r0 → Wd D G A H0 ad lay X h s H locs → lv_has ls 2 [(0, .ref (ad 0)), (1, .int x1)] → W p0 l e (rmN 7 147) s m args below meth c H locs 0 0 Q (F0 m 224 ls [])) (hw : Wd D G A H0 ad lay X h s H locs) (hl : lv_has ls 2 [(0, .ref (ad 0)), (1, .int x1)]) (hf : c_X12_read_L224b K1 REC x1 h = some r0) : W p0 l e (rmN 7 147) s m args below meth c H locs 0 0 Q (F0 m 224 ls []) := by
  unfold c_X12_read_L224b at hf
  refine lv_iload_n hM.1 hM.2.1 dX12_read_224 rfl (lv_at hl 1 rfl) ?_
  refine lv_iconst (v := 3) hM.1 hM.2.1 dX12_read_225 ic_3 ?_
  refine x_ic_ge (tgt := 242) hM hf dX12_read_226 (by decide) (fun hf => ?_) (fun hf => ?_)
  · exact hk1 _ _ _ _ hf hw (lv_sub hl [] rfl)
  refine lv_aload_n hM.1 hM.2.1 dX12_read_229 rfl (lv_at hl 0 rfl) ?_
  refine gf_X12_isHeld hM hw (okX12.o ho) fl_X12_179 dX12_read_230 ?_
  refine lv_iload_n hM.1 hM.2.1 dX12_read_233 rfl (lv_at hl 1 rfl) ?_
  refine lv_iconst (v := 0) hM.1 hM.2.1 dX12_read_234 ic_0 ?_
  refine x_zast hM hw (okX12.isHeld ho) hf dX12_read_235 (fun h28 H locs hf hw => ?_)
  refine x_iinc (k := 1) (d := 1) hM hf dX12_read_236 hl rfl (by decide) (by decide) (fun v29 => [(1, .int v29), (0, .ref (ad 0))]) (fun _ => rfl) (fun v29 ls hf hl => ?_)
  refine lv_goto (tgt := 224) hM.1 hM.2.1 dX12_read_239 (by decide) ?_
  exact hrec _ _ _ _ _ hf hw (lv_sub hl [1, 0] rfl)
set_option maxHeartbeats 4000000 in
set_option maxRecDepth 100000 in
theorem w_X12_read_L224 {p0 : Program} {l : Launch} {e : Env} {s : State} {m : MethodId} {args : Array Value} {below : List Frame} {meth : Method} {c : Code} {Q : State → Prop} {D : va_G} {G : GG} {A : Nat → Prop} {H0 : Heap} {ad : Nat → Nat} {lay : List KK} {X : va_W} {ρ : Type} {r0 : ρ} {K1 : PH → Option ρ} (hM : CallFix p0 m c cX12_read 2 s args lw_g RX12) (ho : okX12 lay) (hk1 : ∀ (h : PH), ∀ (H : Heap) (locs : List Loc) (ls : Array Slot), K1 h = some r0 → Wd D G A H0 ad lay X h s H locs → lv_has ls 2 [] → W p0 l e (rmN 7 147) s m args below meth c H locs 0 0 Q (F0 m 242 ls [])) (n : Nat) (x1 : Int32) (h : PH) (hf : lq2 (c_X12_read_L224b K1) n x1 h = some r0) : ∀ (H : Heap) (locs : List Loc) (ls : Array Slot), Wd D G A H0 ad lay X h s H locs → lv_has ls 2 [(0, .ref (ad 0)), (1, .int x1)] → W p0 l e (rmN 7 147) s m args below meth c H locs 0 0 Q (F0 m 224 ls []) := by
  exact lq2_i (fun (x1 : Int32) (h : PH) => ∀ (H : Heap) (locs : List Loc) (ls : Array Slot), Wd D G A H0 ad lay X h s H locs → lv_has ls 2 [(0, .ref (ad 0)), (1, .int x1)] → W p0 l e (rmN 7 147) s m args below meth c H locs 0 0 Q (F0 m 224 ls [])) (fun REC x1 h ih hf H locs ls hw hl => w_X12_read_L224b hM ho hk1 (fun x1 h H locs ls hf hw hl => ih x1 h hf H locs ls hw hl) hw hl hf) n x1 h hf
def c_X12_read_j164  (y0 : Int32) (h : PH) : Option (Int32 × PH) :=
  nm (setI h 0 17 y0) fun h20 =>
  if (h20.1 0 13) ≤ 0 then
    if (h20.1 0 15) ≤ 0 then
      nm (setI h20 0 18 (h20.1 0 19)) fun h21 =>
      (c_X12_begins h21).bind fun h22 =>
      (c_X12_keepsRow h22).bind fun h23 =>
      nm (setI h23 0 63 0) fun h24 =>
      nm (setI h24 0 67 0) fun h25 =>
      nm (setI h25 0 72 0) fun h26 =>
      nm (0 : Int32) fun v27 =>
      lq2 (c_X12_read_L224b
        (fun h30 =>
          some (0, h30))) fu v27 h26
    else
      some ((h20.1 0 15), h20)
  else
    some ((h20.1 0 13), h20)
set_option maxHeartbeats 4000000 in
set_option maxRecDepth 100000 in
theorem w_X12_read_j164 {p0 : Program} {l : Launch} {e : Env} {s : State} {m : MethodId} {args : Array Value} {below : List Frame} {meth : Method} {c : Code} {Q : State → Prop} {D : va_G} {G : GG} {A : Nat → Prop} {H0 : Heap} {ad : Nat → Nat} {lay : List KK} {X : va_W} {r0 : Int32 × PH} {y0 : Int32} {h : PH} {H : Heap} {locs : List Loc} {ls : Array Slot} (hM : CallFix p0 m c cX12_read 2 s args lw_g RX12) (ho : okX12 lay) (hR : RtI p0 l e (rmN 7 147) s m args below meth c cX12_read D G A H0 ad lay X (some .int) r0 Q 0 0) (hw : Wd D G A H0 ad lay X h s H locs) (hl : lv_has ls 2 [(0, .ref (ad 0))]) (hf : c_X12_read_j164 y0 h = some r0) : W p0 l e (rmN 7 147) s m args below meth c H locs 0 0 Q (F0 m 164 ls [.int y0, .ref (ad 0)]) := by
  unfold c_X12_read_j164 at hf
  refine pf_X12_place hM hw (okX12.o ho) fl_X12_37 hf dX12_read_164 (fun h20 H locs hf hw => ?_)
  refine lv_aload_n hM.1 hM.2.1 dX12_read_167 rfl (lv_at hl 0 rfl) ?_
  refine gf_X12_fault hM hw (okX12.o ho) fl_X12_236 dX12_read_168 ?_
  refine x_if_le (tgt := 179) hM hf dX12_read_171 (by decide) (fun hf => ?_) (fun hf => ?_)
  · refine lv_aload_n hM.1 hM.2.1 dX12_read_179 rfl (lv_at hl 0 rfl) ?_
    refine gf_X12_worst hM hw (okX12.o ho) fl_X12_245 dX12_read_180 ?_
    refine x_if_le (tgt := 191) hM hf dX12_read_183 (by decide) (fun hf => ?_) (fun hf => ?_)
    · refine lv_aload_n hM.1 hM.2.1 dX12_read_191 rfl (lv_at hl 0 rfl) ?_
      refine lv_aload_n hM.1 hM.2.1 dX12_read_192 rfl (lv_at hl 0 rfl) ?_
      refine gf_X12_side hM hw (okX12.o ho) fl_X12_269 dX12_read_193 ?_
      refine pf_X12_live hM hw (okX12.o ho) fl_X12_266 hf dX12_read_196 (fun h21 H locs hf hw => ?_)
      refine lv_aload_n hM.1 hM.2.1 dX12_read_199 rfl (lv_at hl 0 rfl) ?_
      refine x_callVV (rest := []) hM hw (ct_X12_begins l ho) [] (okX12.o ho) rfl rfl rfl (gi_V ml_X12_193 im_X12_begins sl_X12_begins in_X12 kc_X12_begins) hd_X12_begins rfl ⟨Nat.le_of_ble_eq_true rfl, Nat.le_of_ble_eq_true rfl⟩ rfl (Nat.le_of_ble_eq_true rfl) hl.1 hcs0 hf dX12_read_200 (fun h22 H locs hf hw => ?_)
      refine lv_aload_n hM.1 hM.2.1 dX12_read_203 rfl (lv_at hl 0 rfl) ?_
      refine x_callVV (rest := []) hM hw (ct_X12_keepsRow l ho) [] (okX12.o ho) rfl rfl rfl (gi_V ml_X12_196 im_X12_keepsRow sl_X12_keepsRow in_X12 kc_X12_keepsRow) hd_X12_keepsRow rfl ⟨Nat.le_of_ble_eq_true rfl, Nat.le_of_ble_eq_true rfl⟩ rfl (Nat.le_of_ble_eq_true rfl) hl.1 hcs0 hf dX12_read_204 (fun h23 H locs hf hw => ?_)
      refine lv_aload_n hM.1 hM.2.1 dX12_read_207 rfl (lv_at hl 0 rfl) ?_
      refine lv_iconst (v := 0) hM.1 hM.2.1 dX12_read_208 ic_0 ?_
      refine pf_X12_undos hM hw (okX12.o ho) fl_X12_284 hf dX12_read_209 (fun h24 H locs hf hw => ?_)
      refine lv_aload_n hM.1 hM.2.1 dX12_read_212 rfl (lv_at hl 0 rfl) ?_
      refine lv_iconst (v := 0) hM.1 hM.2.1 dX12_read_213 ic_0 ?_
      refine pf_X12_saids hM hw (okX12.o ho) fl_X12_287 hf dX12_read_214 (fun h25 H locs hf hw => ?_)
      refine lv_aload_n hM.1 hM.2.1 dX12_read_217 rfl (lv_at hl 0 rfl) ?_
      refine lv_iconst (v := 0) hM.1 hM.2.1 dX12_read_218 ic_0 ?_
      refine pf_X12_knowns hM hw (okX12.o ho) fl_X12_290 hf dX12_read_219 (fun h26 H locs hf hw => ?_)
      refine lv_iconst (v := 0) hM.1 hM.2.1 dX12_read_222 ic_0 ?_
      refine x_istore_n hM hf dX12_read_223 rfl hl (by decide) (fun v27 => [(1, .int v27), (0, .ref (ad 0))]) (fun _ => rfl) (fun v27 ls hf hl => ?_)
      refine w_X12_read_L224 hM ho (fun h30 H locs ls hf hw hl => ?_) fu _ _ hf _ _ _ hw (lv_sub hl [1, 0] rfl)
      refine lv_iconst (v := 0) hM.1 hM.2.1 dX12_read_242 ic_0 ?_
      exact hR _ _ _ _ _ _ _ (Option.some.inj hf) rfl rfl hw dX12_read_243
    refine lv_aload_n hM.1 hM.2.1 dX12_read_186 rfl (lv_at hl 0 rfl) ?_
    refine gf_X12_worst hM hw (okX12.o ho) fl_X12_245 dX12_read_187 ?_
    exact hR _ _ _ _ _ _ _ (Option.some.inj hf) rfl rfl hw dX12_read_190
  refine lv_aload_n hM.1 hM.2.1 dX12_read_174 rfl (lv_at hl 0 rfl) ?_
  refine gf_X12_fault hM hw (okX12.o ho) fl_X12_236 dX12_read_175 ?_
  exact hR _ _ _ _ _ _ _ (Option.some.inj hf) rfl rfl hw dX12_read_178
def c_X12_read_j134  (h : PH) : Option (Int32 × PH) :=
  if (h.1 0 13) ≤ 0 then
    if (h.1 0 15) ≤ 0 then
      c_X12_read_j164 (-1) h
    else
      c_X12_read_j164 (h.1 0 16) h
  else
    c_X12_read_j164 (h.1 0 14) h
set_option maxHeartbeats 4000000 in
set_option maxRecDepth 100000 in
theorem w_X12_read_j134 {p0 : Program} {l : Launch} {e : Env} {s : State} {m : MethodId} {args : Array Value} {below : List Frame} {meth : Method} {c : Code} {Q : State → Prop} {D : va_G} {G : GG} {A : Nat → Prop} {H0 : Heap} {ad : Nat → Nat} {lay : List KK} {X : va_W} {r0 : Int32 × PH} {h : PH} {H : Heap} {locs : List Loc} {ls : Array Slot} (hM : CallFix p0 m c cX12_read 2 s args lw_g RX12) (ho : okX12 lay) (hR : RtI p0 l e (rmN 7 147) s m args below meth c cX12_read D G A H0 ad lay X (some .int) r0 Q 0 0) (hw : Wd D G A H0 ad lay X h s H locs) (hl : lv_has ls 2 [(0, .ref (ad 0))]) (hf : c_X12_read_j134 h = some r0) : W p0 l e (rmN 7 147) s m args below meth c H locs 0 0 Q (F0 m 134 ls []) := by
  unfold c_X12_read_j134 at hf
  refine lv_aload_n hM.1 hM.2.1 dX12_read_134 rfl (lv_at hl 0 rfl) ?_
  refine lv_aload_n hM.1 hM.2.1 dX12_read_135 rfl (lv_at hl 0 rfl) ?_
  refine gf_X12_fault hM hw (okX12.o ho) fl_X12_236 dX12_read_136 ?_
  refine x_if_le (tgt := 149) hM hf dX12_read_139 (by decide) (fun hf => ?_) (fun hf => ?_)
  · refine lv_aload_n hM.1 hM.2.1 dX12_read_149 rfl (lv_at hl 0 rfl) ?_
    refine gf_X12_worst hM hw (okX12.o ho) fl_X12_245 dX12_read_150 ?_
    refine x_if_le (tgt := 163) hM hf dX12_read_153 (by decide) (fun hf => ?_) (fun hf => ?_)
    · refine lv_iconst (v := (-1)) hM.1 hM.2.1 dX12_read_163 ic_m1 ?_
      exact w_X12_read_j164 hM ho hR hw hl hf
    refine lv_aload_n hM.1 hM.2.1 dX12_read_156 rfl (lv_at hl 0 rfl) ?_
    refine gf_X12_worstPlace hM hw (okX12.o ho) fl_X12_248 dX12_read_157 ?_
    refine lv_goto (tgt := 164) hM.1 hM.2.1 dX12_read_160 (by decide) ?_
    exact w_X12_read_j164 hM ho hR hw hl hf
  refine lv_aload_n hM.1 hM.2.1 dX12_read_142 rfl (lv_at hl 0 rfl) ?_
  refine gf_X12_faultPlace hM hw (okX12.o ho) fl_X12_242 dX12_read_143 ?_
  refine lv_goto (tgt := 164) hM.1 hM.2.1 dX12_read_146 (by decide) ?_
  exact w_X12_read_j164 hM ho hR hw hl hf
def c_X12_read (h : PH) : Option (Int32 × PH) :=
  nm (setI h 0 4 (h.1 0 2)) fun h1 =>
  nm (0 : Int32) fun v2 =>
  lq2 (c_X12_read_L10b
    (fun h5 =>
      nm (setI h5 0 2 0) fun h6 =>
      (c_X12_cut h6).bind fun h7 =>
      nm (setI h7 0 11 0) fun h8 =>
      nm (setI h8 0 12 0) fun h9 =>
      nm (setI h9 0 13 0) fun h10 =>
      nm (setI h10 0 15 0) fun h11 =>
      nm (setI h11 0 19 (1 - (h11.1 0 18))) fun h12 =>
      nm (setI h12 0 20 0) fun h13 =>
      (c_X12_plain (h13.1 0 19) h13).bind fun h14 =>
      nm (setI h14 0 46 (130 * (h14.1 0 19))) fun h15 =>
      nm (setI h15 0 52 (420 * (h15.1 0 19))) fun h16 =>
      lq1 (c_X12_read_L112b
        (fun h19 =>
          c_X12_read_j134 h19)) fu h16)) fu v2 h1
set_option maxHeartbeats 4000000 in
set_option maxRecDepth 100000 in
theorem ct_X12_read (l : Launch) {lay : List KK} (ho : okX12 lay) : CtI l yX12_read cX12_read 2 (some .int) 7 147 lay (fun h => c_X12_read h) (fun ad => [.ref (ad 0)]) := by
  refine CtI.mk' RX12 (by decide) rfl (fun _ => Nat.le_of_ble_eq_true rfl) ?_
  intro p0 e s m args below meth c D G A H0 ad X h r0 H ls Q hM hw hl hf hR
  have hl : lv_has ls 2 [(0, .ref (ad 0))] := hl
  unfold c_X12_read at hf
  refine lv_aload_n hM.1 hM.2.1 dX12_read_0 rfl (lv_at hl 0 rfl) ?_
  refine lv_aload_n hM.1 hM.2.1 dX12_read_1 rfl (lv_at hl 0 rfl) ?_
  refine gf_X12_taped hM hw (okX12.o ho) fl_X12_199 dX12_read_2 ?_
  refine pf_X12_size hM hw (okX12.o ho) fl_X12_205 hf dX12_read_5 (fun h1 H locs hf hw => ?_)
  refine lv_iconst (v := 0) hM.1 hM.2.1 dX12_read_8 ic_0 ?_
  refine x_istore_n hM hf dX12_read_9 rfl hl (by decide) (fun v2 => [(1, .int v2), (0, .ref (ad 0))]) (fun _ => rfl) (fun v2 ls hf hl => ?_)
  refine w_X12_read_L10 hM ho (fun h5 H locs ls hf hw hl => ?_) fu _ _ hf _ _ _ hw (lv_sub hl [1, 0] rfl)
  refine lv_aload_n hM.1 hM.2.1 dX12_read_36 rfl (lv_at hl 0 rfl) ?_
  refine lv_iconst (v := 0) hM.1 hM.2.1 dX12_read_37 ic_0 ?_
  refine pf_X12_taped hM hw (okX12.o ho) fl_X12_199 hf dX12_read_38 (fun h6 H locs hf hw => ?_)
  refine lv_aload_n hM.1 hM.2.1 dX12_read_41 rfl (lv_at hl 0 rfl) ?_
  refine x_callVV (rest := []) hM hw (ct_X12_cut l ho) [] (okX12.o ho) rfl rfl rfl (gi_V ml_X12_260 im_X12_cut sl_X12_cut in_X12 kc_X12_cut) hd_X12_cut rfl ⟨Nat.le_of_ble_eq_true rfl, Nat.le_of_ble_eq_true rfl⟩ rfl (Nat.le_of_ble_eq_true rfl) hl.1 hcs0 hf dX12_read_42 (fun h7 H locs hf hw => ?_)
  refine lv_aload_n hM.1 hM.2.1 dX12_read_45 rfl (lv_at hl 0 rfl) ?_
  refine lv_iconst (v := 0) hM.1 hM.2.1 dX12_read_46 ic_0 ?_
  refine pf_X12_t hM hw (okX12.o ho) fl_X12_239 hf dX12_read_47 (fun h8 H locs hf hw => ?_)
  refine lv_aload_n hM.1 hM.2.1 dX12_read_50 rfl (lv_at hl 0 rfl) ?_
  refine lv_iconst (v := 0) hM.1 hM.2.1 dX12_read_51 ic_0 ?_
  refine pf_X12_open hM hw (okX12.o ho) fl_X12_263 hf dX12_read_52 (fun h9 H locs hf hw => ?_)
  refine lv_aload_n hM.1 hM.2.1 dX12_read_55 rfl (lv_at hl 0 rfl) ?_
  refine lv_iconst (v := 0) hM.1 hM.2.1 dX12_read_56 ic_0 ?_
  refine pf_X12_fault hM hw (okX12.o ho) fl_X12_236 hf dX12_read_57 (fun h10 H locs hf hw => ?_)
  refine lv_aload_n hM.1 hM.2.1 dX12_read_60 rfl (lv_at hl 0 rfl) ?_
  refine lv_iconst (v := 0) hM.1 hM.2.1 dX12_read_61 ic_0 ?_
  refine pf_X12_worst hM hw (okX12.o ho) fl_X12_245 hf dX12_read_62 (fun h11 H locs hf hw => ?_)
  refine lv_aload_n hM.1 hM.2.1 dX12_read_65 rfl (lv_at hl 0 rfl) ?_
  refine lv_iconst (v := 1) hM.1 hM.2.1 dX12_read_66 ic_1 ?_
  refine lv_aload_n hM.1 hM.2.1 dX12_read_67 rfl (lv_at hl 0 rfl) ?_
  refine gf_X12_live hM hw (okX12.o ho) fl_X12_266 dX12_read_68 ?_
  refine lv_isub hM.1 hM.2.1 dX12_read_71 ?_
  refine pf_X12_side hM hw (okX12.o ho) fl_X12_269 hf dX12_read_72 (fun h12 H locs hf hw => ?_)
  refine lv_aload_n hM.1 hM.2.1 dX12_read_75 rfl (lv_at hl 0 rfl) ?_
  refine lv_iconst (v := 0) hM.1 hM.2.1 dX12_read_76 ic_0 ?_
  refine pf_X12_names hM hw (okX12.o ho) fl_X12_272 hf dX12_read_77 (fun h13 H locs hf hw => ?_)
  refine lv_aload_n hM.1 hM.2.1 dX12_read_80 rfl (lv_at hl 0 rfl) ?_
  refine lv_aload_n hM.1 hM.2.1 dX12_read_81 rfl (lv_at hl 0 rfl) ?_
  refine gf_X12_side hM hw (okX12.o ho) fl_X12_269 dX12_read_82 ?_
  refine x_callVV (rest := []) hM hw (ct_X12_plain l ho (h13.1 0 19)) [.int (h13.1 0 19)] (okX12.o ho) rfl rfl rfl (gi_V ml_X12_185 im_X12_plain sl_X12_plain in_X12 kc_X12_plain) hd_X12_plain rfl ⟨Nat.le_of_ble_eq_true rfl, Nat.le_of_ble_eq_true rfl⟩ rfl (Nat.le_of_ble_eq_true rfl) hl.1 hcs0 hf dX12_read_85 (fun h14 H locs hf hw => ?_)
  refine lv_aload_n hM.1 hM.2.1 dX12_read_88 rfl (lv_at hl 0 rfl) ?_
  refine lv_sipush (v := 130) hM.1 hM.2.1 dX12_read_89 (by decide) ?_
  refine lv_aload_n hM.1 hM.2.1 dX12_read_92 rfl (lv_at hl 0 rfl) ?_
  refine gf_X12_side hM hw (okX12.o ho) fl_X12_269 dX12_read_93 ?_
  refine lv_imul hM.1 hM.2.1 dX12_read_96 ?_
  refine pf_X12_branches hM hw (okX12.o ho) fl_X12_275 hf dX12_read_97 (fun h15 H locs hf hw => ?_)
  refine lv_aload_n hM.1 hM.2.1 dX12_read_100 rfl (lv_at hl 0 rfl) ?_
  refine lv_sipush (v := 420) hM.1 hM.2.1 dX12_read_101 (by decide) ?_
  refine lv_aload_n hM.1 hM.2.1 dX12_read_104 rfl (lv_at hl 0 rfl) ?_
  refine gf_X12_side hM hw (okX12.o ho) fl_X12_269 dX12_read_105 ?_
  refine lv_imul hM.1 hM.2.1 dX12_read_108 ?_
  refine pf_X12_codes hM hw (okX12.o ho) fl_X12_278 hf dX12_read_109 (fun h16 H locs hf hw => ?_)
  refine w_X12_read_L112 hM ho (fun h19 H locs ls hf hw hl => ?_) fu _ hf _ _ _ hw hl
  exact w_X12_read_j134 hM ho hR hw hl hf
theorem hd_X12_read : yX12_read.cls = RX12 ∧ yX12_read.cls ≠ "java/lang/invoke/MethodHandle" ∧ yX12_read.cls ≠ "java/lang/invoke/VarHandle" ∧ (parseMethodDescriptor yX12_read.desc).map (fun d => d.parameters.length) = some 0 := ⟨rfl, by decide, by decide, by decide +kernel⟩
theorem dX12_place_0 : decode cX12_place 0 = .ok (.aload_n 0, 1) := by decide +kernel
theorem dX12_place_1 : decode cX12_place 1 = .ok (.getfield 37, 3) := by decide +kernel
theorem dX12_place_4 : decode cX12_place 4 = .ok (.ireturn, 1) := by decide +kernel
def c_X12_place (h : PH) : Option (Int32) :=
  some (h.1 0 17)
set_option maxHeartbeats 4000000 in
set_option maxRecDepth 100000 in
theorem ct_X12_place (l : Launch) {lay : List KK} (ho : okX12 lay) : CtI l yX12_place cX12_place 1 (some .int) 0 0 lay (rd (fun h => c_X12_place h)) (fun ad => [.ref (ad 0)]) := by
  refine CtI.mk' RX12 (by decide) rfl (fun _ => Nat.le_of_ble_eq_true rfl) ?_
  intro p0 e s m args below meth c D G A H0 ad X h r0 H ls Q hM hw hl hf hR
  have hl : lv_has ls 1 [(0, .ref (ad 0))] := hl
  obtain ⟨v0, hv0, hr0⟩ : ∃ v0, c_X12_place h = some v0 ∧ r0 = (v0, h) := rd_some hf
  subst hr0
  have hf := hv0
  unfold c_X12_place at hf
  refine lv_aload_n hM.1 hM.2.1 dX12_place_0 rfl (lv_at hl 0 rfl) ?_
  refine gf_X12_place hM hw (okX12.o ho) fl_X12_37 dX12_place_1 ?_
  exact hR _ _ _ _ _ _ _ (congrArg (fun z => (z, _)) (Option.some.inj hf)) rfl rfl hw dX12_place_4
theorem hd_X12_place : yX12_place.cls = RX12 ∧ yX12_place.cls ≠ "java/lang/invoke/MethodHandle" ∧ yX12_place.cls ≠ "java/lang/invoke/VarHandle" ∧ (parseMethodDescriptor yX12_place.desc).map (fun d => d.parameters.length) = some 0 := ⟨rfl, by decide, by decide, by decide +kernel⟩
theorem dX12_termOf_0 : decode cX12_termOf 0 = .ok (.iconst 0, 1) := by decide +kernel
theorem dX12_termOf_1 : decode cX12_termOf 1 = .ok (.istore_n 3, 1) := by decide +kernel
theorem dX12_termOf_2 : decode cX12_termOf 2 = .ok (.iload_n 1, 1) := by decide +kernel
theorem dX12_termOf_3 : decode cX12_termOf 3 = .ok (.istore 4, 2) := by decide +kernel
theorem dX12_termOf_5 : decode cX12_termOf 5 = .ok (.iload 4, 2) := by decide +kernel
theorem dX12_termOf_7 : decode cX12_termOf 7 = .ok (.iload_n 2, 1) := by decide +kernel
theorem dX12_termOf_8 : decode cX12_termOf 8 = .ok (.if_icmp .ge 157, 3) := by decide +kernel
theorem dX12_termOf_11 : decode cX12_termOf 11 = .ok (.aload_n 0, 1) := by decide +kernel
theorem dX12_termOf_12 : decode cX12_termOf 12 = .ok (.getfield 131, 3) := by decide +kernel
theorem dX12_termOf_15 : decode cX12_termOf 15 = .ok (.iload 4, 2) := by decide +kernel
theorem dX12_termOf_17 : decode cX12_termOf 17 = .ok (.iaload, 1) := by decide +kernel
theorem dX12_termOf_18 : decode cX12_termOf 18 = .ok (.istore 5, 2) := by decide +kernel
theorem dX12_termOf_20 : decode cX12_termOf 20 = .ok (.iload 5, 2) := by decide +kernel
theorem dX12_termOf_22 : decode cX12_termOf 22 = .ok (.iconst 2, 1) := by decide +kernel
theorem dX12_termOf_23 : decode cX12_termOf 23 = .ok (.if_icmp .ge 42, 3) := by decide +kernel
theorem dX12_termOf_26 : decode cX12_termOf 26 = .ok (.aload_n 0, 1) := by decide +kernel
theorem dX12_termOf_27 : decode cX12_termOf 27 = .ok (.getfield 143, 3) := by decide +kernel
theorem dX12_termOf_30 : decode cX12_termOf 30 = .ok (.iload_n 3, 1) := by decide +kernel
theorem dX12_termOf_31 : decode cX12_termOf 31 = .ok (.iload 5, 2) := by decide +kernel
theorem dX12_termOf_33 : decode cX12_termOf 33 = .ok (.ifCond .ne 13, 3) := by decide +kernel
theorem dX12_termOf_36 : decode cX12_termOf 36 = .ok (.aload_n 0, 1) := by decide +kernel
theorem dX12_termOf_37 : decode cX12_termOf 37 = .ok (.getfield 134, 3) := by decide +kernel
theorem dX12_termOf_40 : decode cX12_termOf 40 = .ok (.iload 4, 2) := by decide +kernel
theorem dX12_termOf_42 : decode cX12_termOf 42 = .ok (.iaload, 1) := by decide +kernel
theorem dX12_termOf_43 : decode cX12_termOf 43 = .ok (.goto 15, 3) := by decide +kernel
theorem dX12_termOf_46 : decode cX12_termOf 46 = .ok (.aload_n 0, 1) := by decide +kernel
theorem dX12_termOf_47 : decode cX12_termOf 47 = .ok (.getfield 140, 3) := by decide +kernel
theorem dX12_termOf_50 : decode cX12_termOf 50 = .ok (.aload_n 0, 1) := by decide +kernel
theorem dX12_termOf_51 : decode cX12_termOf 51 = .ok (.getfield 134, 3) := by decide +kernel
theorem dX12_termOf_54 : decode cX12_termOf 54 = .ok (.iload 4, 2) := by decide +kernel
theorem dX12_termOf_56 : decode cX12_termOf 56 = .ok (.iaload, 1) := by decide +kernel
theorem dX12_termOf_57 : decode cX12_termOf 57 = .ok (.iaload, 1) := by decide +kernel
theorem dX12_termOf_58 : decode cX12_termOf 58 = .ok (.iastore, 1) := by decide +kernel
theorem dX12_termOf_59 : decode cX12_termOf 59 = .ok (.iinc 3 1, 3) := by decide +kernel
theorem dX12_termOf_62 : decode cX12_termOf 62 = .ok (.goto 97, 3) := by decide +kernel
theorem dX12_termOf_65 : decode cX12_termOf 65 = .ok (.iinc 3 (-1), 3) := by decide +kernel
theorem dX12_termOf_68 : decode cX12_termOf 68 = .ok (.aload_n 0, 1) := by decide +kernel
theorem dX12_termOf_69 : decode cX12_termOf 69 = .ok (.getfield 143, 3) := by decide +kernel
theorem dX12_termOf_72 : decode cX12_termOf 72 = .ok (.iload_n 3, 1) := by decide +kernel
theorem dX12_termOf_73 : decode cX12_termOf 73 = .ok (.iconst 1, 1) := by decide +kernel
theorem dX12_termOf_74 : decode cX12_termOf 74 = .ok (.isub, 1) := by decide +kernel
theorem dX12_termOf_75 : decode cX12_termOf 75 = .ok (.iaload, 1) := by decide +kernel
theorem dX12_termOf_76 : decode cX12_termOf 76 = .ok (.istore 6, 2) := by decide +kernel
theorem dX12_termOf_78 : decode cX12_termOf 78 = .ok (.aload_n 0, 1) := by decide +kernel
theorem dX12_termOf_79 : decode cX12_termOf 79 = .ok (.getfield 143, 3) := by decide +kernel
theorem dX12_termOf_82 : decode cX12_termOf 82 = .ok (.iload_n 3, 1) := by decide +kernel
theorem dX12_termOf_83 : decode cX12_termOf 83 = .ok (.iaload, 1) := by decide +kernel
theorem dX12_termOf_84 : decode cX12_termOf 84 = .ok (.istore 7, 2) := by decide +kernel
theorem dX12_termOf_86 : decode cX12_termOf 86 = .ok (.iload 5, 2) := by decide +kernel
theorem dX12_termOf_88 : decode cX12_termOf 88 = .ok (.iconst 5, 1) := by decide +kernel
theorem dX12_termOf_89 : decode cX12_termOf 89 = .ok (.if_icmp .ne 15, 3) := by decide +kernel
theorem dX12_termOf_92 : decode cX12_termOf 92 = .ok (.iload 7, 2) := by decide +kernel
theorem dX12_termOf_94 : decode cX12_termOf 94 = .ok (.ifCond .ne 10, 3) := by decide +kernel
theorem dX12_termOf_97 : decode cX12_termOf 97 = .ok (.aload_n 0, 1) := by decide +kernel
theorem dX12_termOf_98 : decode cX12_termOf 98 = .ok (.iconst 1, 1) := by decide +kernel
theorem dX12_termOf_99 : decode cX12_termOf 99 = .ok (.putfield 355, 3) := by decide +kernel
theorem dX12_termOf_102 : decode cX12_termOf 102 = .ok (.iconst 0, 1) := by decide +kernel
theorem dX12_termOf_103 : decode cX12_termOf 103 = .ok (.ireturn, 1) := by decide +kernel
theorem dX12_termOf_104 : decode cX12_termOf 104 = .ok (.aload_n 0, 1) := by decide +kernel
theorem dX12_termOf_105 : decode cX12_termOf 105 = .ok (.getfield 143, 3) := by decide +kernel
theorem dX12_termOf_108 : decode cX12_termOf 108 = .ok (.iload_n 3, 1) := by decide +kernel
theorem dX12_termOf_109 : decode cX12_termOf 109 = .ok (.iconst 1, 1) := by decide +kernel
theorem dX12_termOf_110 : decode cX12_termOf 110 = .ok (.isub, 1) := by decide +kernel
theorem dX12_termOf_111 : decode cX12_termOf 111 = .ok (.iload 5, 2) := by decide +kernel
theorem dX12_termOf_113 : decode cX12_termOf 113 = .ok (.iconst 2, 1) := by decide +kernel
theorem dX12_termOf_114 : decode cX12_termOf 114 = .ok (.if_icmp .ne 11, 3) := by decide +kernel
theorem dX12_termOf_117 : decode cX12_termOf 117 = .ok (.iload 6, 2) := by decide +kernel
theorem dX12_termOf_119 : decode cX12_termOf 119 = .ok (.iload 7, 2) := by decide +kernel
theorem dX12_termOf_121 : decode cX12_termOf 121 = .ok (.iadd, 1) := by decide +kernel
theorem dX12_termOf_122 : decode cX12_termOf 122 = .ok (.goto 36, 3) := by decide +kernel
theorem dX12_termOf_125 : decode cX12_termOf 125 = .ok (.iload 5, 2) := by decide +kernel
theorem dX12_termOf_127 : decode cX12_termOf 127 = .ok (.iconst 3, 1) := by decide +kernel
theorem dX12_termOf_128 : decode cX12_termOf 128 = .ok (.if_icmp .ne 11, 3) := by decide +kernel
theorem dX12_termOf_131 : decode cX12_termOf 131 = .ok (.iload 6, 2) := by decide +kernel
theorem dX12_termOf_133 : decode cX12_termOf 133 = .ok (.iload 7, 2) := by decide +kernel
theorem dX12_termOf_135 : decode cX12_termOf 135 = .ok (.isub, 1) := by decide +kernel
theorem dX12_termOf_136 : decode cX12_termOf 136 = .ok (.goto 22, 3) := by decide +kernel
theorem dX12_termOf_139 : decode cX12_termOf 139 = .ok (.iload 5, 2) := by decide +kernel
theorem dX12_termOf_141 : decode cX12_termOf 141 = .ok (.iconst 4, 1) := by decide +kernel
theorem dX12_termOf_142 : decode cX12_termOf 142 = .ok (.if_icmp .ne 11, 3) := by decide +kernel
theorem dX12_termOf_145 : decode cX12_termOf 145 = .ok (.iload 6, 2) := by decide +kernel
theorem dX12_termOf_147 : decode cX12_termOf 147 = .ok (.iload 7, 2) := by decide +kernel
theorem dX12_termOf_149 : decode cX12_termOf 149 = .ok (.imul, 1) := by decide +kernel
theorem dX12_termOf_150 : decode cX12_termOf 150 = .ok (.goto 8, 3) := by decide +kernel
theorem dX12_termOf_153 : decode cX12_termOf 153 = .ok (.iload 6, 2) := by decide +kernel
theorem dX12_termOf_155 : decode cX12_termOf 155 = .ok (.iload 7, 2) := by decide +kernel
theorem dX12_termOf_157 : decode cX12_termOf 157 = .ok (.idiv, 1) := by decide +kernel
theorem dX12_termOf_158 : decode cX12_termOf 158 = .ok (.iastore, 1) := by decide +kernel
theorem dX12_termOf_159 : decode cX12_termOf 159 = .ok (.iinc 4 1, 3) := by decide +kernel
theorem dX12_termOf_162 : decode cX12_termOf 162 = .ok (.goto (-157), 3) := by decide +kernel
theorem dX12_termOf_165 : decode cX12_termOf 165 = .ok (.aload_n 0, 1) := by decide +kernel
theorem dX12_termOf_166 : decode cX12_termOf 166 = .ok (.getfield 143, 3) := by decide +kernel
theorem dX12_termOf_169 : decode cX12_termOf 169 = .ok (.iconst 0, 1) := by decide +kernel
theorem dX12_termOf_170 : decode cX12_termOf 170 = .ok (.iaload, 1) := by decide +kernel
theorem dX12_termOf_171 : decode cX12_termOf 171 = .ok (.ireturn, 1) := by decide +kernel
def c_X12_termOf_j104 {ρ : Type}  (z2 : Int32) (K1 : PH → Option ρ) (K2 : PH → Option ρ) (REC : Int32 → Int32 → PH → Option ρ) (x3 : Int32) (x4 : Int32) (x5 : Int32) (x6 : Int32) (x7 : Int32) (h : PH) : Option (ρ) :=
  if x5 = 2 then
    gd (ixOK (x3 - 1) 400) <| nm (setI h 42 (x3 - 1).toNatClampNeg (x6 + x7)) fun h13 =>
    nm (x4 + 1) fun v14 =>
    REC x3 v14 h13
  else
    if x5 = 3 then
      gd (ixOK (x3 - 1) 400) <| nm (setI h 42 (x3 - 1).toNatClampNeg (x6 - x7)) fun h11 =>
      nm (x4 + 1) fun v12 =>
      REC x3 v12 h11
    else
      if x5 = 4 then
        gd (ixOK (x3 - 1) 400) <| nm (setI h 42 (x3 - 1).toNatClampNeg (x6 * x7)) fun h9 =>
        nm (x4 + 1) fun v10 =>
        REC x3 v10 h9
      else
        if x7 = 0 then none else
        gd (ixOK (x3 - 1) 400) <| nm (setI h 42 (x3 - 1).toNatClampNeg (x6 / x7)) fun h7 =>
        nm (x4 + 1) fun v8 =>
        REC x3 v8 h7
set_option maxHeartbeats 4000000 in
set_option maxRecDepth 100000 in
theorem w_X12_termOf_j104 {p0 : Program} {l : Launch} {e : Env} {s : State} {m : MethodId} {args : Array Value} {below : List Frame} {meth : Method} {c : Code} {Q : State → Prop} {D : va_G} {G : GG} {A : Nat → Prop} {H0 : Heap} {ad : Nat → Nat} {lay : List KK} {X : va_W} {ρ : Type} {r0 : ρ} {x3 : Int32} {x4 : Int32} {x5 : Int32} {x6 : Int32} {x7 : Int32} {z2 : Int32} {h : PH} {H : Heap} {locs : List Loc} {ls : Array Slot} {K1 : PH → Option ρ} {K2 : PH → Option ρ} {REC : Int32 → Int32 → PH → Option ρ} (hM : CallFix p0 m c cX12_termOf 8 s args lw_g RX12) (ho : okX12 lay) (hk1 : ∀ (h : PH), ∀ (H : Heap) (locs : List Loc) (ls : Array Slot), K1 h = some r0 → Wd D G A H0 ad lay X h s H locs → lv_has ls 8 [(0, .ref (ad 0))] → W p0 l e (rmN 0 0) s m args below meth c H locs 0 0 Q (F0 m 97 ls [])) (hk2 : ∀ (h : PH), ∀ (H : Heap) (locs : List Loc) (ls : Array Slot), K2 h = some r0 → Wd D G A H0 ad lay X h s H locs → lv_has ls 8 [(0, .ref (ad 0))] → W p0 l e (rmN 0 0) s m args below meth c H locs 0 0 Q (F0 m 165 ls [])) (hrec : ∀ (x3 : Int32) (x4 : Int32) (h : PH), ∀ (H : Heap) (locs : List Loc) (ls : Array Slot), REC x3 x4 h = some r0 → Wd D G A H0 ad lay X h s H locs → lv_has ls 8 [(0, .ref (ad 0)), (2, .int z2), (3, .int x3), (4, .int x4)] → W p0 l e (rmN 0 0) s m args below meth c H locs 0 0 Q (F0 m 5 ls [])) (hw : Wd D G A H0 ad lay X h s H locs) (hl : lv_has ls 8 [(0, .ref (ad 0)), (2, .int z2), (3, .int x3), (4, .int x4), (5, .int x5), (6, .int x6), (7, .int x7)]) (hf : c_X12_termOf_j104 z2 K1 K2 REC x3 x4 x5 x6 x7 h = some r0) : W p0 l e (rmN 0 0) s m args below meth c H locs 0 0 Q (F0 m 104 ls []) := by
  unfold c_X12_termOf_j104 at hf
  refine lv_aload_n hM.1 hM.2.1 dX12_termOf_104 rfl (lv_at hl 0 rfl) ?_
  refine gf_X12_pile hM hw (okX12.o ho) fl_X12_143 dX12_termOf_105 ?_
  refine lv_iload_n hM.1 hM.2.1 dX12_termOf_108 rfl (lv_at hl 2 rfl) ?_
  refine lv_iconst (v := 1) hM.1 hM.2.1 dX12_termOf_109 ic_1 ?_
  refine lv_isub hM.1 hM.2.1 dX12_termOf_110 ?_
  refine lv_iload hM.1 hM.2.1 dX12_termOf_111 (lv_at hl 4 rfl) ?_
  refine lv_iconst (v := 2) hM.1 hM.2.1 dX12_termOf_113 ic_2 ?_
  refine x_ic_ne (tgt := 125) hM hf dX12_termOf_114 (by decide) (fun hf => ?_) (fun hf => ?_)
  · refine lv_iload hM.1 hM.2.1 dX12_termOf_125 (lv_at hl 4 rfl) ?_
    refine lv_iconst (v := 3) hM.1 hM.2.1 dX12_termOf_127 ic_3 ?_
    refine x_ic_ne (tgt := 139) hM hf dX12_termOf_128 (by decide) (fun hf => ?_) (fun hf => ?_)
    · refine lv_iload hM.1 hM.2.1 dX12_termOf_139 (lv_at hl 4 rfl) ?_
      refine lv_iconst (v := 4) hM.1 hM.2.1 dX12_termOf_141 ic_4 ?_
      refine x_ic_ne (tgt := 153) hM hf dX12_termOf_142 (by decide) (fun hf => ?_) (fun hf => ?_)
      · refine lv_iload hM.1 hM.2.1 dX12_termOf_153 (lv_at hl 5 rfl) ?_
        refine lv_iload hM.1 hM.2.1 dX12_termOf_155 (lv_at hl 6 rfl) ?_
        refine x_idiv hM hf dX12_termOf_157 (fun hf => ?_)
        refine x_iast hM hw (okX12.pile ho) hf dX12_termOf_158 (fun h7 H locs hf hw => ?_)
        refine x_iinc (k := 3) (d := 1) hM hf dX12_termOf_159 hl rfl (by decide) (by decide) (fun v8 => [(4, .int v8), (0, .ref (ad 0)), (2, .int z2), (3, .int x3), (5, .int x5), (6, .int x6), (7, .int x7)]) (fun _ => rfl) (fun v8 ls hf hl => ?_)
        refine lv_goto (tgt := 5) hM.1 hM.2.1 dX12_termOf_162 (by decide) ?_
        exact hrec _ _ _ _ _ _ hf hw (lv_sub hl [1, 2, 3, 0] rfl)
      refine lv_iload hM.1 hM.2.1 dX12_termOf_145 (lv_at hl 5 rfl) ?_
      refine lv_iload hM.1 hM.2.1 dX12_termOf_147 (lv_at hl 6 rfl) ?_
      refine lv_imul hM.1 hM.2.1 dX12_termOf_149 ?_
      refine lv_goto (tgt := 158) hM.1 hM.2.1 dX12_termOf_150 (by decide) ?_
      refine x_iast hM hw (okX12.pile ho) hf dX12_termOf_158 (fun h9 H locs hf hw => ?_)
      refine x_iinc (k := 3) (d := 1) hM hf dX12_termOf_159 hl rfl (by decide) (by decide) (fun v10 => [(4, .int v10), (0, .ref (ad 0)), (2, .int z2), (3, .int x3), (5, .int x5), (6, .int x6), (7, .int x7)]) (fun _ => rfl) (fun v10 ls hf hl => ?_)
      refine lv_goto (tgt := 5) hM.1 hM.2.1 dX12_termOf_162 (by decide) ?_
      exact hrec _ _ _ _ _ _ hf hw (lv_sub hl [1, 2, 3, 0] rfl)
    refine lv_iload hM.1 hM.2.1 dX12_termOf_131 (lv_at hl 5 rfl) ?_
    refine lv_iload hM.1 hM.2.1 dX12_termOf_133 (lv_at hl 6 rfl) ?_
    refine lv_isub hM.1 hM.2.1 dX12_termOf_135 ?_
    refine lv_goto (tgt := 158) hM.1 hM.2.1 dX12_termOf_136 (by decide) ?_
    refine x_iast hM hw (okX12.pile ho) hf dX12_termOf_158 (fun h11 H locs hf hw => ?_)
    refine x_iinc (k := 3) (d := 1) hM hf dX12_termOf_159 hl rfl (by decide) (by decide) (fun v12 => [(4, .int v12), (0, .ref (ad 0)), (2, .int z2), (3, .int x3), (5, .int x5), (6, .int x6), (7, .int x7)]) (fun _ => rfl) (fun v12 ls hf hl => ?_)
    refine lv_goto (tgt := 5) hM.1 hM.2.1 dX12_termOf_162 (by decide) ?_
    exact hrec _ _ _ _ _ _ hf hw (lv_sub hl [1, 2, 3, 0] rfl)
  refine lv_iload hM.1 hM.2.1 dX12_termOf_117 (lv_at hl 5 rfl) ?_
  refine lv_iload hM.1 hM.2.1 dX12_termOf_119 (lv_at hl 6 rfl) ?_
  refine lv_iadd hM.1 hM.2.1 dX12_termOf_121 ?_
  refine lv_goto (tgt := 158) hM.1 hM.2.1 dX12_termOf_122 (by decide) ?_
  refine x_iast hM hw (okX12.pile ho) hf dX12_termOf_158 (fun h13 H locs hf hw => ?_)
  refine x_iinc (k := 3) (d := 1) hM hf dX12_termOf_159 hl rfl (by decide) (by decide) (fun v14 => [(4, .int v14), (0, .ref (ad 0)), (2, .int z2), (3, .int x3), (5, .int x5), (6, .int x6), (7, .int x7)]) (fun _ => rfl) (fun v14 ls hf hl => ?_)
  refine lv_goto (tgt := 5) hM.1 hM.2.1 dX12_termOf_162 (by decide) ?_
  exact hrec _ _ _ _ _ _ hf hw (lv_sub hl [1, 2, 3, 0] rfl)
def c_X12_termOf_L5b {ρ : Type}  (z2 : Int32) (K1 : PH → Option ρ) (K2 : PH → Option ρ) (REC : Int32 → Int32 → PH → Option ρ) (x3 : Int32) (x4 : Int32) (h : PH) : Option ρ :=
  if z2 ≤ x4 then
    K2 h
  else
    gd (ixOK x4 840) <|
    nm (h.1 38 x4.toNatClampNeg) fun v3 =>
    if 2 ≤ v3 then
      nm (x3 + (-1)) fun v4 =>
      gd (ixOK (v4 - 1) 400) <|
      nm (h.1 42 (v4 - 1).toNatClampNeg) fun v5 =>
      gd (ixOK v4 400) <|
      nm (h.1 42 v4.toNatClampNeg) fun v6 =>
      if v3 = 5 then
        if v6 = 0 then
          K1 h
        else
          c_X12_termOf_j104 z2 K1 K2 REC v4 x4 v3 v5 v6 h
      else
        c_X12_termOf_j104 z2 K1 K2 REC v4 x4 v3 v5 v6 h
    else
      if v3 = 0 then
        gd (ixOK x4 840) <|
        gd (ixOK x3 400) <| nm (setI h 42 x3.toNatClampNeg (h.1 39 x4.toNatClampNeg)) fun h18 =>
        nm (x3 + 1) fun v19 =>
        nm (x4 + 1) fun v20 =>
        REC v19 v20 h18
      else
        gd (ixOK x4 840) <|
        gd (ixOK (h.1 39 x4.toNatClampNeg) 9) <|
        gd (ixOK x3 400) <| nm (setI h 42 x3.toNatClampNeg (h.1 41 (h.1 39 x4.toNatClampNeg).toNatClampNeg)) fun h15 =>
        nm (x3 + 1) fun v16 =>
        nm (x4 + 1) fun v17 =>
        REC v16 v17 h15
set_option maxHeartbeats 4000000 in
set_option maxRecDepth 100000 in
theorem w_X12_termOf_L5b {p0 : Program} {l : Launch} {e : Env} {s : State} {m : MethodId} {args : Array Value} {below : List Frame} {meth : Method} {c : Code} {Q : State → Prop} {D : va_G} {G : GG} {A : Nat → Prop} {H0 : Heap} {ad : Nat → Nat} {lay : List KK} {X : va_W} {ρ : Type} {r0 : ρ} {z2 : Int32} {x3 : Int32} {x4 : Int32} {h : PH} {H : Heap} {locs : List Loc} {ls : Array Slot} {K1 : PH → Option ρ} {K2 : PH → Option ρ} {REC : Int32 → Int32 → PH → Option ρ} (hM : CallFix p0 m c cX12_termOf 8 s args lw_g RX12) (ho : okX12 lay) (hk1 : ∀ (h : PH), ∀ (H : Heap) (locs : List Loc) (ls : Array Slot), K1 h = some r0 → Wd D G A H0 ad lay X h s H locs → lv_has ls 8 [(0, .ref (ad 0))] → W p0 l e (rmN 0 0) s m args below meth c H locs 0 0 Q (F0 m 97 ls [])) (hk2 : ∀ (h : PH), ∀ (H : Heap) (locs : List Loc) (ls : Array Slot), K2 h = some r0 → Wd D G A H0 ad lay X h s H locs → lv_has ls 8 [(0, .ref (ad 0))] → W p0 l e (rmN 0 0) s m args below meth c H locs 0 0 Q (F0 m 165 ls [])) (hrec : ∀ (x3 : Int32) (x4 : Int32) (h : PH), ∀ (H : Heap) (locs : List Loc) (ls : Array Slot), REC x3 x4 h = some r0 → Wd D G A H0 ad lay X h s H locs → lv_has ls 8 [(0, .ref (ad 0)), (2, .int z2), (3, .int x3), (4, .int x4)] → W p0 l e (rmN 0 0) s m args below meth c H locs 0 0 Q (F0 m 5 ls [])) (hw : Wd D G A H0 ad lay X h s H locs) (hl : lv_has ls 8 [(0, .ref (ad 0)), (2, .int z2), (3, .int x3), (4, .int x4)]) (hf : c_X12_termOf_L5b z2 K1 K2 REC x3 x4 h = some r0) : W p0 l e (rmN 0 0) s m args below meth c H locs 0 0 Q (F0 m 5 ls []) := by
  unfold c_X12_termOf_L5b at hf
  refine lv_iload hM.1 hM.2.1 dX12_termOf_5 (lv_at hl 3 rfl) ?_
  refine lv_iload_n hM.1 hM.2.1 dX12_termOf_7 rfl (lv_at hl 1 rfl) ?_
  refine x_ic_ge (tgt := 165) hM hf dX12_termOf_8 (by decide) (fun hf => ?_) (fun hf => ?_)
  · exact hk2 _ _ _ _ hf hw (lv_sub hl [0] rfl)
  refine lv_aload_n hM.1 hM.2.1 dX12_termOf_11 rfl (lv_at hl 0 rfl) ?_
  refine gf_X12_code hM hw (okX12.o ho) fl_X12_131 dX12_termOf_12 ?_
  refine lv_iload hM.1 hM.2.1 dX12_termOf_15 (lv_at hl 3 rfl) ?_
  refine x_iald hM hw (okX12.code ho) hf dX12_termOf_17 (fun hf => ?_)
  refine x_istore hM hf dX12_termOf_18 hl (by decide) (fun v3 => [(5, .int v3), (0, .ref (ad 0)), (2, .int z2), (3, .int x3), (4, .int x4)]) (fun _ => rfl) (fun v3 ls hf hl => ?_)
  refine lv_iload hM.1 hM.2.1 dX12_termOf_20 (lv_at hl 0 rfl) ?_
  refine lv_iconst (v := 2) hM.1 hM.2.1 dX12_termOf_22 ic_2 ?_
  refine x_ic_ge (tgt := 65) hM hf dX12_termOf_23 (by decide) (fun hf => ?_) (fun hf => ?_)
  · refine x_iinc (k := 3) (d := (-1)) hM hf dX12_termOf_65 hl rfl (by decide) (by decide) (fun v4 => [(3, .int v4), (5, .int v3), (0, .ref (ad 0)), (2, .int z2), (4, .int x4)]) (fun _ => rfl) (fun v4 ls hf hl => ?_)
    refine lv_aload_n hM.1 hM.2.1 dX12_termOf_68 rfl (lv_at hl 2 rfl) ?_
    refine gf_X12_pile hM hw (okX12.o ho) fl_X12_143 dX12_termOf_69 ?_
    refine lv_iload_n hM.1 hM.2.1 dX12_termOf_72 rfl (lv_at hl 0 rfl) ?_
    refine lv_iconst (v := 1) hM.1 hM.2.1 dX12_termOf_73 ic_1 ?_
    refine lv_isub hM.1 hM.2.1 dX12_termOf_74 ?_
    refine x_iald hM hw (okX12.pile ho) hf dX12_termOf_75 (fun hf => ?_)
    refine x_istore hM hf dX12_termOf_76 hl (by decide) (fun v5 => [(6, .int v5), (3, .int v4), (5, .int v3), (0, .ref (ad 0)), (2, .int z2), (4, .int x4)]) (fun _ => rfl) (fun v5 ls hf hl => ?_)
    refine lv_aload_n hM.1 hM.2.1 dX12_termOf_78 rfl (lv_at hl 3 rfl) ?_
    refine gf_X12_pile hM hw (okX12.o ho) fl_X12_143 dX12_termOf_79 ?_
    refine lv_iload_n hM.1 hM.2.1 dX12_termOf_82 rfl (lv_at hl 1 rfl) ?_
    refine x_iald hM hw (okX12.pile ho) hf dX12_termOf_83 (fun hf => ?_)
    refine x_istore hM hf dX12_termOf_84 hl (by decide) (fun v6 => [(7, .int v6), (6, .int v5), (3, .int v4), (5, .int v3), (0, .ref (ad 0)), (2, .int z2), (4, .int x4)]) (fun _ => rfl) (fun v6 ls hf hl => ?_)
    refine lv_iload hM.1 hM.2.1 dX12_termOf_86 (lv_at hl 3 rfl) ?_
    refine lv_iconst (v := 5) hM.1 hM.2.1 dX12_termOf_88 ic_5 ?_
    refine x_ic_ne (tgt := 104) hM hf dX12_termOf_89 (by decide) (fun hf => ?_) (fun hf => ?_)
    · exact w_X12_termOf_j104 hM ho hk1 hk2 hrec hw (lv_sub hl [4, 5, 2, 6, 3, 1, 0] rfl) hf
    refine lv_iload hM.1 hM.2.1 dX12_termOf_92 (lv_at hl 0 rfl) ?_
    refine x_if_ne (tgt := 104) hM hf dX12_termOf_94 (by decide) (fun hf => ?_) (fun hf => ?_)
    · exact w_X12_termOf_j104 hM ho hk1 hk2 hrec hw (lv_sub hl [4, 5, 2, 6, 3, 1, 0] rfl) hf
    exact hk1 _ _ _ _ hf hw (lv_sub hl [4] rfl)
  refine lv_aload_n hM.1 hM.2.1 dX12_termOf_26 rfl (lv_at hl 1 rfl) ?_
  refine gf_X12_pile hM hw (okX12.o ho) fl_X12_143 dX12_termOf_27 ?_
  refine lv_iload_n hM.1 hM.2.1 dX12_termOf_30 rfl (lv_at hl 3 rfl) ?_
  refine lv_iload hM.1 hM.2.1 dX12_termOf_31 (lv_at hl 0 rfl) ?_
  refine x_if_ne (tgt := 46) hM hf dX12_termOf_33 (by decide) (fun hf => ?_) (fun hf => ?_)
  · refine lv_aload_n hM.1 hM.2.1 dX12_termOf_46 rfl (lv_at hl 1 rfl) ?_
    refine gf_X12_variables hM hw (okX12.o ho) fl_X12_140 dX12_termOf_47 ?_
    refine lv_aload_n hM.1 hM.2.1 dX12_termOf_50 rfl (lv_at hl 1 rfl) ?_
    refine gf_X12_codeInt hM hw (okX12.o ho) fl_X12_134 dX12_termOf_51 ?_
    refine lv_iload hM.1 hM.2.1 dX12_termOf_54 (lv_at hl 4 rfl) ?_
    refine x_iald hM hw (okX12.codeInt ho) hf dX12_termOf_56 (fun hf => ?_)
    refine x_iald hM hw (okX12.variables ho) hf dX12_termOf_57 (fun hf => ?_)
    refine x_iast hM hw (okX12.pile ho) hf dX12_termOf_58 (fun h15 H locs hf hw => ?_)
    refine x_iinc (k := 3) (d := 1) hM hf dX12_termOf_59 hl rfl (by decide) (by decide) (fun v16 => [(3, .int v16), (5, .int v3), (0, .ref (ad 0)), (2, .int z2), (4, .int x4)]) (fun _ => rfl) (fun v16 ls hf hl => ?_)
    refine lv_goto (tgt := 159) hM.1 hM.2.1 dX12_termOf_62 (by decide) ?_
    refine x_iinc (k := 4) (d := 1) hM hf dX12_termOf_159 hl rfl (by decide) (by decide) (fun v17 => [(4, .int v17), (3, .int v16), (5, .int v3), (0, .ref (ad 0)), (2, .int z2)]) (fun _ => rfl) (fun v17 ls hf hl => ?_)
    refine lv_goto (tgt := 5) hM.1 hM.2.1 dX12_termOf_162 (by decide) ?_
    exact hrec _ _ _ _ _ _ hf hw (lv_sub hl [3, 4, 1, 0] rfl)
  refine lv_aload_n hM.1 hM.2.1 dX12_termOf_36 rfl (lv_at hl 1 rfl) ?_
  refine gf_X12_codeInt hM hw (okX12.o ho) fl_X12_134 dX12_termOf_37 ?_
  refine lv_iload hM.1 hM.2.1 dX12_termOf_40 (lv_at hl 4 rfl) ?_
  refine x_iald hM hw (okX12.codeInt ho) hf dX12_termOf_42 (fun hf => ?_)
  refine lv_goto (tgt := 58) hM.1 hM.2.1 dX12_termOf_43 (by decide) ?_
  refine x_iast hM hw (okX12.pile ho) hf dX12_termOf_58 (fun h18 H locs hf hw => ?_)
  refine x_iinc (k := 3) (d := 1) hM hf dX12_termOf_59 hl rfl (by decide) (by decide) (fun v19 => [(3, .int v19), (5, .int v3), (0, .ref (ad 0)), (2, .int z2), (4, .int x4)]) (fun _ => rfl) (fun v19 ls hf hl => ?_)
  refine lv_goto (tgt := 159) hM.1 hM.2.1 dX12_termOf_62 (by decide) ?_
  refine x_iinc (k := 4) (d := 1) hM hf dX12_termOf_159 hl rfl (by decide) (by decide) (fun v20 => [(4, .int v20), (3, .int v19), (5, .int v3), (0, .ref (ad 0)), (2, .int z2)]) (fun _ => rfl) (fun v20 ls hf hl => ?_)
  refine lv_goto (tgt := 5) hM.1 hM.2.1 dX12_termOf_162 (by decide) ?_
  exact hrec _ _ _ _ _ _ hf hw (lv_sub hl [3, 4, 1, 0] rfl)
set_option maxHeartbeats 4000000 in
set_option maxRecDepth 100000 in
theorem w_X12_termOf_L5 {p0 : Program} {l : Launch} {e : Env} {s : State} {m : MethodId} {args : Array Value} {below : List Frame} {meth : Method} {c : Code} {Q : State → Prop} {D : va_G} {G : GG} {A : Nat → Prop} {H0 : Heap} {ad : Nat → Nat} {lay : List KK} {X : va_W} {ρ : Type} {r0 : ρ} {z2 : Int32} {K1 : PH → Option ρ} {K2 : PH → Option ρ} (hM : CallFix p0 m c cX12_termOf 8 s args lw_g RX12) (ho : okX12 lay) (hk1 : ∀ (h : PH), ∀ (H : Heap) (locs : List Loc) (ls : Array Slot), K1 h = some r0 → Wd D G A H0 ad lay X h s H locs → lv_has ls 8 [(0, .ref (ad 0))] → W p0 l e (rmN 0 0) s m args below meth c H locs 0 0 Q (F0 m 97 ls [])) (hk2 : ∀ (h : PH), ∀ (H : Heap) (locs : List Loc) (ls : Array Slot), K2 h = some r0 → Wd D G A H0 ad lay X h s H locs → lv_has ls 8 [(0, .ref (ad 0))] → W p0 l e (rmN 0 0) s m args below meth c H locs 0 0 Q (F0 m 165 ls [])) (n : Nat) (x3 : Int32) (x4 : Int32) (h : PH) (hf : lq3 (c_X12_termOf_L5b z2 K1 K2) n x3 x4 h = some r0) : ∀ (H : Heap) (locs : List Loc) (ls : Array Slot), Wd D G A H0 ad lay X h s H locs → lv_has ls 8 [(0, .ref (ad 0)), (2, .int z2), (3, .int x3), (4, .int x4)] → W p0 l e (rmN 0 0) s m args below meth c H locs 0 0 Q (F0 m 5 ls []) := by
  exact lq3_i (fun (x3 : Int32) (x4 : Int32) (h : PH) => ∀ (H : Heap) (locs : List Loc) (ls : Array Slot), Wd D G A H0 ad lay X h s H locs → lv_has ls 8 [(0, .ref (ad 0)), (2, .int z2), (3, .int x3), (4, .int x4)] → W p0 l e (rmN 0 0) s m args below meth c H locs 0 0 Q (F0 m 5 ls [])) (fun REC x3 x4 h ih hf H locs ls hw hl => w_X12_termOf_L5b hM ho hk1 hk2 (fun x3 x4 h H locs ls hf hw hl => ih x3 x4 h hf H locs ls hw hl) hw hl hf) n x3 x4 h hf
def c_X12_termOf (a1 : Int32) (a2 : Int32) (h : PH) : Option (Int32 × PH) :=
  nm (0 : Int32) fun v1 =>
  nm a1 fun v2 =>
  lq3 (c_X12_termOf_L5b a2
    (fun h21 =>
      nm (setI h21 0 59 1) fun h22 =>
      some (0, h22))
    (fun h23 =>
      some ((h23.1 42 0), h23))) fu v1 v2 h
set_option maxHeartbeats 4000000 in
set_option maxRecDepth 100000 in
theorem ct_X12_termOf (l : Launch) {lay : List KK} (ho : okX12 lay) (a1 : Int32) (a2 : Int32) : CtI l yX12_termOf cX12_termOf 8 (some .int) 0 0 lay (fun h => c_X12_termOf a1 a2 h) (fun ad => [.ref (ad 0), .int a1, .int a2]) := by
  refine CtI.mk' RX12 (by decide) rfl (fun _ => Nat.le_of_ble_eq_true rfl) ?_
  intro p0 e s m args below meth c D G A H0 ad X h r0 H ls Q hM hw hl hf hR
  have hl : lv_has ls 8 [(0, .ref (ad 0)), (1, .int a1), (2, .int a2)] := hl
  unfold c_X12_termOf at hf
  refine lv_iconst (v := 0) hM.1 hM.2.1 dX12_termOf_0 ic_0 ?_
  refine x_istore_n hM hf dX12_termOf_1 rfl hl (by decide) (fun v1 => [(3, .int v1), (0, .ref (ad 0)), (1, .int a1), (2, .int a2)]) (fun _ => rfl) (fun v1 ls hf hl => ?_)
  refine lv_iload_n hM.1 hM.2.1 dX12_termOf_2 rfl (lv_at hl 2 rfl) ?_
  refine x_istore hM hf dX12_termOf_3 hl (by decide) (fun v2 => [(4, .int v2), (3, .int v1), (0, .ref (ad 0)), (1, .int a1), (2, .int a2)]) (fun _ => rfl) (fun v2 ls hf hl => ?_)
  refine w_X12_termOf_L5 hM ho (fun h21 H locs ls hf hw hl => ?_) (fun h23 H locs ls hf hw hl => ?_) fu _ _ _ hf _ _ _ hw (lv_sub hl [2, 4, 1, 0] rfl)
  · refine lv_aload_n hM.1 hM.2.1 dX12_termOf_97 rfl (lv_at hl 0 rfl) ?_
    refine lv_iconst (v := 1) hM.1 hM.2.1 dX12_termOf_98 ic_1 ?_
    refine pf_X12_isBroken hM hw (okX12.o ho) fl_X12_355 (by decide) hf dX12_termOf_99 (fun h22 H locs hf hw => ?_)
    refine lv_iconst (v := 0) hM.1 hM.2.1 dX12_termOf_102 ic_0 ?_
    exact hR _ _ _ _ _ _ _ (Option.some.inj hf) rfl rfl hw dX12_termOf_103
  · refine lv_aload_n hM.1 hM.2.1 dX12_termOf_165 rfl (lv_at hl 0 rfl) ?_
    refine gf_X12_pile hM hw (okX12.o ho) fl_X12_143 dX12_termOf_166 ?_
    refine lv_iconst (v := 0) hM.1 hM.2.1 dX12_termOf_169 ic_0 ?_
    refine x_ialdK hM hw (okX12.pile ho) 0 (by decide) (by decide) dX12_termOf_170 ?_
    exact hR _ _ _ _ _ _ _ (Option.some.inj hf) rfl rfl hw dX12_termOf_171
theorem hd_X12_termOf : yX12_termOf.cls = RX12 ∧ yX12_termOf.cls ≠ "java/lang/invoke/MethodHandle" ∧ yX12_termOf.cls ≠ "java/lang/invoke/VarHandle" ∧ (parseMethodDescriptor yX12_termOf.desc).map (fun d => d.parameters.length) = some 2 := ⟨rfl, by decide, by decide, by decide +kernel⟩
theorem dX12_in_0 : decode cX12_in 0 = .ok (.iload_n 0, 1) := by decide +kernel
theorem dX12_in_1 : decode cX12_in 1 = .ok (.iload_n 1, 1) := by decide +kernel
theorem dX12_in_2 : decode cX12_in 2 = .ok (.if_icmp .lt 12, 3) := by decide +kernel
theorem dX12_in_5 : decode cX12_in 5 = .ok (.iload_n 0, 1) := by decide +kernel
theorem dX12_in_6 : decode cX12_in 6 = .ok (.iload_n 2, 1) := by decide +kernel
theorem dX12_in_7 : decode cX12_in 7 = .ok (.if_icmp .gt 7, 3) := by decide +kernel
theorem dX12_in_10 : decode cX12_in 10 = .ok (.iconst 1, 1) := by decide +kernel
theorem dX12_in_11 : decode cX12_in 11 = .ok (.goto 4, 3) := by decide +kernel
theorem dX12_in_14 : decode cX12_in 14 = .ok (.iconst 0, 1) := by decide +kernel
theorem dX12_in_15 : decode cX12_in 15 = .ok (.ireturn, 1) := by decide +kernel
def c_X12_in (a0 : Int32) (a1 : Int32) (a2 : Int32) : Option (Int32) :=
  if a0 < a1 then
    some 0
  else
    if a2 < a0 then
      some 0
    else
      some 1
set_option maxHeartbeats 4000000 in
set_option maxRecDepth 100000 in
theorem ct_X12_in (l : Launch) {lay : List KK} (a0 : Int32) (a1 : Int32) (a2 : Int32) : CtI l yX12_in cX12_in 3 (some .boolean) 0 0 lay (rd (fun _ => c_X12_in a0 a1 a2)) (fun _ => [.int a0, .int a1, .int a2]) := by
  refine CtI.mk' RX12 (by decide) rfl (fun _ => Nat.le_of_ble_eq_true rfl) ?_
  intro p0 e s m args below meth c D G A H0 ad X h r0 H ls Q hM hw hl hf hR
  have hl : lv_has ls 3 [(0, .int a0), (1, .int a1), (2, .int a2)] := hl
  obtain ⟨v0, hv0, hr0⟩ : ∃ v0, c_X12_in a0 a1 a2 = some v0 ∧ r0 = (v0, h) := rd_some hf
  subst hr0
  have hf := hv0
  unfold c_X12_in at hf
  refine lv_iload_n hM.1 hM.2.1 dX12_in_0 rfl (lv_at hl 0 rfl) ?_
  refine lv_iload_n hM.1 hM.2.1 dX12_in_1 rfl (lv_at hl 1 rfl) ?_
  refine x_ic_lt (tgt := 14) hM hf dX12_in_2 (by decide) (fun hf => ?_) (fun hf => ?_)
  · refine lv_iconst (v := 0) hM.1 hM.2.1 dX12_in_14 ic_0 ?_
    exact hR _ _ _ _ _ _ _ (congrArg (fun z => (z, _)) (Option.some.inj hf)) rfl (nar_z (by decide)) hw dX12_in_15
  refine lv_iload_n hM.1 hM.2.1 dX12_in_5 rfl (lv_at hl 0 rfl) ?_
  refine lv_iload_n hM.1 hM.2.1 dX12_in_6 rfl (lv_at hl 2 rfl) ?_
  refine x_ic_gt (tgt := 14) hM hf dX12_in_7 (by decide) (fun hf => ?_) (fun hf => ?_)
  · refine lv_iconst (v := 0) hM.1 hM.2.1 dX12_in_14 ic_0 ?_
    exact hR _ _ _ _ _ _ _ (congrArg (fun z => (z, _)) (Option.some.inj hf)) rfl (nar_z (by decide)) hw dX12_in_15
  refine lv_iconst (v := 1) hM.1 hM.2.1 dX12_in_10 ic_1 ?_
  refine lv_goto (tgt := 15) hM.1 hM.2.1 dX12_in_11 (by decide) ?_
  exact hR _ _ _ _ _ _ _ (congrArg (fun z => (z, _)) (Option.some.inj hf)) rfl (nar_z (by decide)) hw dX12_in_15
theorem hd_X12_in : yX12_in.cls ≠ "java/lang/invoke/MethodHandle" ∧ yX12_in.cls ≠ "java/lang/invoke/VarHandle" ∧ (parseMethodDescriptor yX12_in.desc).map (fun d => d.parameters.length) = some 3 := ⟨by decide, by decide, by decide +kernel⟩
theorem dX12_bits_0 : decode cX12_bits 0 = .ok (.iconst 0, 1) := by decide +kernel
theorem dX12_bits_1 : decode cX12_bits 1 = .ok (.istore_n 1, 1) := by decide +kernel
theorem dX12_bits_2 : decode cX12_bits 2 = .ok (.iconst 0, 1) := by decide +kernel
theorem dX12_bits_3 : decode cX12_bits 3 = .ok (.istore_n 2, 1) := by decide +kernel
theorem dX12_bits_4 : decode cX12_bits 4 = .ok (.iload_n 2, 1) := by decide +kernel
theorem dX12_bits_5 : decode cX12_bits 5 = .ok (.bipush 9, 2) := by decide +kernel
theorem dX12_bits_7 : decode cX12_bits 7 = .ok (.if_icmp .ge 17, 3) := by decide +kernel
theorem dX12_bits_10 : decode cX12_bits 10 = .ok (.iload_n 1, 1) := by decide +kernel
theorem dX12_bits_11 : decode cX12_bits 11 = .ok (.iload_n 0, 1) := by decide +kernel
theorem dX12_bits_12 : decode cX12_bits 12 = .ok (.iload_n 2, 1) := by decide +kernel
theorem dX12_bits_13 : decode cX12_bits 13 = .ok (.ishr, 1) := by decide +kernel
theorem dX12_bits_14 : decode cX12_bits 14 = .ok (.iconst 1, 1) := by decide +kernel
theorem dX12_bits_15 : decode cX12_bits 15 = .ok (.iand, 1) := by decide +kernel
theorem dX12_bits_16 : decode cX12_bits 16 = .ok (.iadd, 1) := by decide +kernel
theorem dX12_bits_17 : decode cX12_bits 17 = .ok (.istore_n 1, 1) := by decide +kernel
theorem dX12_bits_18 : decode cX12_bits 18 = .ok (.iinc 2 1, 3) := by decide +kernel
theorem dX12_bits_21 : decode cX12_bits 21 = .ok (.goto (-17), 3) := by decide +kernel
theorem dX12_bits_24 : decode cX12_bits 24 = .ok (.iload_n 1, 1) := by decide +kernel
theorem dX12_bits_25 : decode cX12_bits 25 = .ok (.ireturn, 1) := by decide +kernel
def c_X12_bits_L4b {ρ : Type}  (z0 : Int32) (K1 : Int32 → Option ρ) (REC : Int32 → Int32 → Option ρ) (x1 : Int32) (x2 : Int32) : Option ρ :=
  if 9 ≤ x2 then
    K1 x1
  else
    nm (x1 + ((z0 >>> (x2 &&& 31)) &&& 1)) fun v3 =>
    nm (x2 + 1) fun v4 =>
    REC v3 v4
set_option maxHeartbeats 4000000 in
set_option maxRecDepth 100000 in
theorem w_X12_bits_L4b {p0 : Program} {l : Launch} {e : Env} {s : State} {m : MethodId} {args : Array Value} {below : List Frame} {meth : Method} {c : Code} {Q : State → Prop} {D : va_G} {G : GG} {A : Nat → Prop} {H0 : Heap} {ad : Nat → Nat} {lay : List KK} {X : va_W} {ρ : Type} {r0 : ρ} {z0 : Int32} {x1 : Int32} {x2 : Int32} {h : PH} {H : Heap} {locs : List Loc} {ls : Array Slot} {K1 : Int32 → Option ρ} {REC : Int32 → Int32 → Option ρ} (hM : CallFix p0 m c cX12_bits 3 s args lw_g RX12) (hk1 : ∀ (x1 : Int32), ∀ (H : Heap) (locs : List Loc) (ls : Array Slot), K1 x1 = some r0 → Wd D G A H0 ad lay X h s H locs → lv_has ls 3 [(1, .int x1)] → W p0 l e (rmN 0 0) s m args below meth c H locs 0 0 Q (F0 m 24 ls [])) (hrec : ∀ (x1 : Int32) (x2 : Int32), ∀ (H : Heap) (locs : List Loc) (ls : Array Slot), REC x1 x2 = some r0 → Wd D G A H0 ad lay X h s H locs → lv_has ls 3 [(0, .int z0), (1, .int x1), (2, .int x2)] → W p0 l e (rmN 0 0) s m args below meth c H locs 0 0 Q (F0 m 4 ls [])) (hw : Wd D G A H0 ad lay X h s H locs) (hl : lv_has ls 3 [(0, .int z0), (1, .int x1), (2, .int x2)]) (hf : c_X12_bits_L4b z0 K1 REC x1 x2 = some r0) : W p0 l e (rmN 0 0) s m args below meth c H locs 0 0 Q (F0 m 4 ls []) := by
  unfold c_X12_bits_L4b at hf
  refine lv_iload_n hM.1 hM.2.1 dX12_bits_4 rfl (lv_at hl 2 rfl) ?_
  refine lv_bipush (v := 9) hM.1 hM.2.1 dX12_bits_5 (by decide) ?_
  refine x_ic_ge (tgt := 24) hM hf dX12_bits_7 (by decide) (fun hf => ?_) (fun hf => ?_)
  · exact hk1 _ _ _ _ hf hw (lv_sub hl [1] rfl)
  refine lv_iload_n hM.1 hM.2.1 dX12_bits_10 rfl (lv_at hl 1 rfl) ?_
  refine lv_iload_n hM.1 hM.2.1 dX12_bits_11 rfl (lv_at hl 0 rfl) ?_
  refine lv_iload_n hM.1 hM.2.1 dX12_bits_12 rfl (lv_at hl 2 rfl) ?_
  refine lv_ishr hM.1 hM.2.1 dX12_bits_13 ?_
  refine lv_iconst (v := 1) hM.1 hM.2.1 dX12_bits_14 ic_1 ?_
  refine lv_iand hM.1 hM.2.1 dX12_bits_15 ?_
  refine lv_iadd hM.1 hM.2.1 dX12_bits_16 ?_
  refine x_istore_n hM hf dX12_bits_17 rfl hl (by decide) (fun v3 => [(1, .int v3), (0, .int z0), (2, .int x2)]) (fun _ => rfl) (fun v3 ls hf hl => ?_)
  refine x_iinc (k := 2) (d := 1) hM hf dX12_bits_18 hl rfl (by decide) (by decide) (fun v4 => [(2, .int v4), (1, .int v3), (0, .int z0)]) (fun _ => rfl) (fun v4 ls hf hl => ?_)
  refine lv_goto (tgt := 4) hM.1 hM.2.1 dX12_bits_21 (by decide) ?_
  exact hrec _ _ _ _ _ hf hw (lv_sub hl [2, 1, 0] rfl)
set_option maxHeartbeats 4000000 in
set_option maxRecDepth 100000 in
theorem w_X12_bits_L4 {p0 : Program} {l : Launch} {e : Env} {s : State} {m : MethodId} {args : Array Value} {below : List Frame} {meth : Method} {c : Code} {Q : State → Prop} {D : va_G} {G : GG} {A : Nat → Prop} {H0 : Heap} {ad : Nat → Nat} {lay : List KK} {X : va_W} {ρ : Type} {r0 : ρ} {z0 : Int32} {h : PH} {K1 : Int32 → Option ρ} (hM : CallFix p0 m c cX12_bits 3 s args lw_g RX12) (hk1 : ∀ (x1 : Int32), ∀ (H : Heap) (locs : List Loc) (ls : Array Slot), K1 x1 = some r0 → Wd D G A H0 ad lay X h s H locs → lv_has ls 3 [(1, .int x1)] → W p0 l e (rmN 0 0) s m args below meth c H locs 0 0 Q (F0 m 24 ls [])) (n : Nat) (x1 : Int32) (x2 : Int32) (hf : lq2 (c_X12_bits_L4b z0 K1) n x1 x2 = some r0) : ∀ (H : Heap) (locs : List Loc) (ls : Array Slot), Wd D G A H0 ad lay X h s H locs → lv_has ls 3 [(0, .int z0), (1, .int x1), (2, .int x2)] → W p0 l e (rmN 0 0) s m args below meth c H locs 0 0 Q (F0 m 4 ls []) := by
  exact lq2_i (fun (x1 : Int32) (x2 : Int32) => ∀ (H : Heap) (locs : List Loc) (ls : Array Slot), Wd D G A H0 ad lay X h s H locs → lv_has ls 3 [(0, .int z0), (1, .int x1), (2, .int x2)] → W p0 l e (rmN 0 0) s m args below meth c H locs 0 0 Q (F0 m 4 ls [])) (fun REC x1 x2 ih hf H locs ls hw hl => w_X12_bits_L4b hM hk1 (fun x1 x2 H locs ls hf hw hl => ih x1 x2 hf H locs ls hw hl) hw hl hf) n x1 x2 hf
def c_X12_bits (a0 : Int32) : Option (Int32) :=
  nm (0 : Int32) fun v1 =>
  nm (0 : Int32) fun v2 =>
  lq2 (c_X12_bits_L4b a0
    (fun w5 =>
      some w5)) fu v1 v2
set_option maxHeartbeats 4000000 in
set_option maxRecDepth 100000 in
theorem ct_X12_bits (l : Launch) {lay : List KK} (a0 : Int32) : CtI l yX12_bits cX12_bits 3 (some .int) 0 0 lay (rd (fun _ => c_X12_bits a0)) (fun _ => [.int a0]) := by
  refine CtI.mk' RX12 (by decide) rfl (fun _ => Nat.le_of_ble_eq_true rfl) ?_
  intro p0 e s m args below meth c D G A H0 ad X h r0 H ls Q hM hw hl hf hR
  have hl : lv_has ls 3 [(0, .int a0)] := hl
  obtain ⟨v0, hv0, hr0⟩ : ∃ v0, c_X12_bits a0 = some v0 ∧ r0 = (v0, h) := rd_some hf
  subst hr0
  have hf := hv0
  unfold c_X12_bits at hf
  refine lv_iconst (v := 0) hM.1 hM.2.1 dX12_bits_0 ic_0 ?_
  refine x_istore_n hM hf dX12_bits_1 rfl hl (by decide) (fun v1 => [(1, .int v1), (0, .int a0)]) (fun _ => rfl) (fun v1 ls hf hl => ?_)
  refine lv_iconst (v := 0) hM.1 hM.2.1 dX12_bits_2 ic_0 ?_
  refine x_istore_n hM hf dX12_bits_3 rfl hl (by decide) (fun v2 => [(2, .int v2), (1, .int v1), (0, .int a0)]) (fun _ => rfl) (fun v2 ls hf hl => ?_)
  refine w_X12_bits_L4 hM (fun w5 H locs ls hf hw hl => ?_) fu _ _ hf _ _ _ hw (lv_sub hl [2, 1, 0] rfl)
  refine lv_iload_n hM.1 hM.2.1 dX12_bits_24 rfl (lv_at hl 0 rfl) ?_
  exact hR _ _ _ _ _ _ _ (congrArg (fun z => (z, _)) (Option.some.inj hf)) rfl rfl hw dX12_bits_25
theorem hd_X12_bits : yX12_bits.cls ≠ "java/lang/invoke/MethodHandle" ∧ yX12_bits.cls ≠ "java/lang/invoke/VarHandle" ∧ (parseMethodDescriptor yX12_bits.desc).map (fun d => d.parameters.length) = some 1 := ⟨by decide, by decide, by decide +kernel⟩
theorem dX12_isMan_0 : decode cX12_isMan 0 = .ok (.iload_n 1, 1) := by decide +kernel
theorem dX12_isMan_1 : decode cX12_isMan 1 = .ok (.iconst 0, 1) := by decide +kernel
theorem dX12_isMan_2 : decode cX12_isMan 2 = .ok (.aload_n 0, 1) := by decide +kernel
theorem dX12_isMan_3 : decode cX12_isMan 3 = .ok (.getfield 49, 3) := by decide +kernel
theorem dX12_isMan_6 : decode cX12_isMan 6 = .ok (.aload_n 0, 1) := by decide +kernel
theorem dX12_isMan_7 : decode cX12_isMan 7 = .ok (.getfield 266, 3) := by decide +kernel
theorem dX12_isMan_10 : decode cX12_isMan 10 = .ok (.iaload, 1) := by decide +kernel
theorem dX12_isMan_11 : decode cX12_isMan 11 = .ok (.iconst 1, 1) := by decide +kernel
theorem dX12_isMan_12 : decode cX12_isMan 12 = .ok (.isub, 1) := by decide +kernel
theorem dX12_isMan_13 : decode cX12_isMan 13 = .ok (.invokestatic 359, 3) := by decide +kernel
theorem dX12_isMan_16 : decode cX12_isMan 16 = .ok (.ireturn, 1) := by decide +kernel
def c_X12_isMan (a1 : Int32) (h : PH) : Option (Int32) :=
  gd (ixOK (h.1 0 18) 2) <|
  (c_X12_in a1 0 ((h.1 11 (h.1 0 18).toNatClampNeg) - 1)).bind fun r1 =>
  gd (zOK r1) <| some r1
set_option maxHeartbeats 4000000 in
set_option maxRecDepth 100000 in
theorem ct_X12_isMan (l : Launch) {lay : List KK} (ho : okX12 lay) (a1 : Int32) : CtI l yX12_isMan cX12_isMan 2 (some .boolean) 1 22 lay (rd (fun h => c_X12_isMan a1 h)) (fun ad => [.ref (ad 0), .int a1]) := by
  refine CtI.mk' RX12 (by decide) rfl (fun _ => Nat.le_of_ble_eq_true rfl) ?_
  intro p0 e s m args below meth c D G A H0 ad X h r0 H ls Q hM hw hl hf hR
  have hl : lv_has ls 2 [(0, .ref (ad 0)), (1, .int a1)] := hl
  obtain ⟨v0, hv0, hr0⟩ : ∃ v0, c_X12_isMan a1 h = some v0 ∧ r0 = (v0, h) := rd_some hf
  subst hr0
  have hf := hv0
  unfold c_X12_isMan at hf
  refine lv_iload_n hM.1 hM.2.1 dX12_isMan_0 rfl (lv_at hl 1 rfl) ?_
  refine lv_iconst (v := 0) hM.1 hM.2.1 dX12_isMan_1 ic_0 ?_
  refine lv_aload_n hM.1 hM.2.1 dX12_isMan_2 rfl (lv_at hl 0 rfl) ?_
  refine gf_X12_men hM hw (okX12.o ho) fl_X12_49 dX12_isMan_3 ?_
  refine lv_aload_n hM.1 hM.2.1 dX12_isMan_6 rfl (lv_at hl 0 rfl) ?_
  refine gf_X12_live hM hw (okX12.o ho) fl_X12_266 dX12_isMan_7 ?_
  refine x_iald hM hw (okX12.men ho) hf dX12_isMan_10 (fun hf => ?_)
  refine lv_iconst (v := 1) hM.1 hM.2.1 dX12_isMan_11 ic_1 ?_
  refine lv_isub hM.1 hM.2.1 dX12_isMan_12 ?_
  refine x_callSIr (rest := []) hM hw (ct_X12_in l a1 0 ((h.1 11 (h.1 0 18).toNatClampNeg) - 1)) [.int a1, .int 0, .int ((h.1 11 (h.1 0 18).toNatClampNeg) - 1)] rfl (gi_S ml_X12_359 sm_X12_in in_X12 kc_X12_in) hd_X12_in rfl ⟨Nat.le_of_ble_eq_true rfl, Nat.le_of_ble_eq_true rfl⟩ rfl (Nat.le_of_ble_eq_true rfl) hl.1 hcs0 hf dX12_isMan_13 (fun r1 H locs hf hw => ?_)
  obtain ⟨hz, hf⟩ := x_cond hf
  exact hR _ _ _ _ _ _ _ (congrArg (fun z => (z, _)) (Option.some.inj hf)) rfl (nar_z hz) hw dX12_isMan_16
theorem hd_X12_isMan : yX12_isMan.cls = RX12 ∧ yX12_isMan.cls ≠ "java/lang/invoke/MethodHandle" ∧ yX12_isMan.cls ≠ "java/lang/invoke/VarHandle" ∧ (parseMethodDescriptor yX12_isMan.desc).map (fun d => d.parameters.length) = some 1 := ⟨rfl, by decide, by decide, by decide +kernel⟩
theorem dX12_isExcuse_0 : decode cX12_isExcuse 0 = .ok (.iload_n 1, 1) := by decide +kernel
theorem dX12_isExcuse_1 : decode cX12_isExcuse 1 = .ok (.iconst 0, 1) := by decide +kernel
theorem dX12_isExcuse_2 : decode cX12_isExcuse 2 = .ok (.aload_n 0, 1) := by decide +kernel
theorem dX12_isExcuse_3 : decode cX12_isExcuse 3 = .ok (.getfield 61, 3) := by decide +kernel
theorem dX12_isExcuse_6 : decode cX12_isExcuse 6 = .ok (.aload_n 0, 1) := by decide +kernel
theorem dX12_isExcuse_7 : decode cX12_isExcuse 7 = .ok (.getfield 266, 3) := by decide +kernel
theorem dX12_isExcuse_10 : decode cX12_isExcuse 10 = .ok (.iaload, 1) := by decide +kernel
theorem dX12_isExcuse_11 : decode cX12_isExcuse 11 = .ok (.iconst 1, 1) := by decide +kernel
theorem dX12_isExcuse_12 : decode cX12_isExcuse 12 = .ok (.isub, 1) := by decide +kernel
theorem dX12_isExcuse_13 : decode cX12_isExcuse 13 = .ok (.invokestatic 359, 3) := by decide +kernel
theorem dX12_isExcuse_16 : decode cX12_isExcuse 16 = .ok (.ireturn, 1) := by decide +kernel
def c_X12_isExcuse (a1 : Int32) (h : PH) : Option (Int32) :=
  gd (ixOK (h.1 0 18) 2) <|
  (c_X12_in a1 0 ((h.1 15 (h.1 0 18).toNatClampNeg) - 1)).bind fun r1 =>
  gd (zOK r1) <| some r1
set_option maxHeartbeats 4000000 in
set_option maxRecDepth 100000 in
theorem ct_X12_isExcuse (l : Launch) {lay : List KK} (ho : okX12 lay) (a1 : Int32) : CtI l yX12_isExcuse cX12_isExcuse 2 (some .boolean) 1 22 lay (rd (fun h => c_X12_isExcuse a1 h)) (fun ad => [.ref (ad 0), .int a1]) := by
  refine CtI.mk' RX12 (by decide) rfl (fun _ => Nat.le_of_ble_eq_true rfl) ?_
  intro p0 e s m args below meth c D G A H0 ad X h r0 H ls Q hM hw hl hf hR
  have hl : lv_has ls 2 [(0, .ref (ad 0)), (1, .int a1)] := hl
  obtain ⟨v0, hv0, hr0⟩ : ∃ v0, c_X12_isExcuse a1 h = some v0 ∧ r0 = (v0, h) := rd_some hf
  subst hr0
  have hf := hv0
  unfold c_X12_isExcuse at hf
  refine lv_iload_n hM.1 hM.2.1 dX12_isExcuse_0 rfl (lv_at hl 1 rfl) ?_
  refine lv_iconst (v := 0) hM.1 hM.2.1 dX12_isExcuse_1 ic_0 ?_
  refine lv_aload_n hM.1 hM.2.1 dX12_isExcuse_2 rfl (lv_at hl 0 rfl) ?_
  refine gf_X12_excuses hM hw (okX12.o ho) fl_X12_61 dX12_isExcuse_3 ?_
  refine lv_aload_n hM.1 hM.2.1 dX12_isExcuse_6 rfl (lv_at hl 0 rfl) ?_
  refine gf_X12_live hM hw (okX12.o ho) fl_X12_266 dX12_isExcuse_7 ?_
  refine x_iald hM hw (okX12.excuses ho) hf dX12_isExcuse_10 (fun hf => ?_)
  refine lv_iconst (v := 1) hM.1 hM.2.1 dX12_isExcuse_11 ic_1 ?_
  refine lv_isub hM.1 hM.2.1 dX12_isExcuse_12 ?_
  refine x_callSIr (rest := []) hM hw (ct_X12_in l a1 0 ((h.1 15 (h.1 0 18).toNatClampNeg) - 1)) [.int a1, .int 0, .int ((h.1 15 (h.1 0 18).toNatClampNeg) - 1)] rfl (gi_S ml_X12_359 sm_X12_in in_X12 kc_X12_in) hd_X12_in rfl ⟨Nat.le_of_ble_eq_true rfl, Nat.le_of_ble_eq_true rfl⟩ rfl (Nat.le_of_ble_eq_true rfl) hl.1 hcs0 hf dX12_isExcuse_13 (fun r1 H locs hf hw => ?_)
  obtain ⟨hz, hf⟩ := x_cond hf
  exact hR _ _ _ _ _ _ _ (congrArg (fun z => (z, _)) (Option.some.inj hf)) rfl (nar_z hz) hw dX12_isExcuse_16
theorem hd_X12_isExcuse : yX12_isExcuse.cls = RX12 ∧ yX12_isExcuse.cls ≠ "java/lang/invoke/MethodHandle" ∧ yX12_isExcuse.cls ≠ "java/lang/invoke/VarHandle" ∧ (parseMethodDescriptor yX12_isExcuse.desc).map (fun d => d.parameters.length) = some 1 := ⟨rfl, by decide, by decide, by decide +kernel⟩
theorem dX12_isDuty_0 : decode cX12_isDuty 0 = .ok (.iload_n 1, 1) := by decide +kernel
theorem dX12_isDuty_1 : decode cX12_isDuty 1 = .ok (.iconst 0, 1) := by decide +kernel
theorem dX12_isDuty_2 : decode cX12_isDuty 2 = .ok (.aload_n 0, 1) := by decide +kernel
theorem dX12_isDuty_3 : decode cX12_isDuty 3 = .ok (.getfield 80, 3) := by decide +kernel
theorem dX12_isDuty_6 : decode cX12_isDuty 6 = .ok (.aload_n 0, 1) := by decide +kernel
theorem dX12_isDuty_7 : decode cX12_isDuty 7 = .ok (.getfield 266, 3) := by decide +kernel
theorem dX12_isDuty_10 : decode cX12_isDuty 10 = .ok (.iaload, 1) := by decide +kernel
theorem dX12_isDuty_11 : decode cX12_isDuty 11 = .ok (.iconst 1, 1) := by decide +kernel
theorem dX12_isDuty_12 : decode cX12_isDuty 12 = .ok (.isub, 1) := by decide +kernel
theorem dX12_isDuty_13 : decode cX12_isDuty 13 = .ok (.invokestatic 359, 3) := by decide +kernel
theorem dX12_isDuty_16 : decode cX12_isDuty 16 = .ok (.ireturn, 1) := by decide +kernel
def c_X12_isDuty (a1 : Int32) (h : PH) : Option (Int32) :=
  gd (ixOK (h.1 0 18) 2) <|
  (c_X12_in a1 0 ((h.1 21 (h.1 0 18).toNatClampNeg) - 1)).bind fun r1 =>
  gd (zOK r1) <| some r1
set_option maxHeartbeats 4000000 in
set_option maxRecDepth 100000 in
theorem ct_X12_isDuty (l : Launch) {lay : List KK} (ho : okX12 lay) (a1 : Int32) : CtI l yX12_isDuty cX12_isDuty 2 (some .boolean) 1 22 lay (rd (fun h => c_X12_isDuty a1 h)) (fun ad => [.ref (ad 0), .int a1]) := by
  refine CtI.mk' RX12 (by decide) rfl (fun _ => Nat.le_of_ble_eq_true rfl) ?_
  intro p0 e s m args below meth c D G A H0 ad X h r0 H ls Q hM hw hl hf hR
  have hl : lv_has ls 2 [(0, .ref (ad 0)), (1, .int a1)] := hl
  obtain ⟨v0, hv0, hr0⟩ : ∃ v0, c_X12_isDuty a1 h = some v0 ∧ r0 = (v0, h) := rd_some hf
  subst hr0
  have hf := hv0
  unfold c_X12_isDuty at hf
  refine lv_iload_n hM.1 hM.2.1 dX12_isDuty_0 rfl (lv_at hl 1 rfl) ?_
  refine lv_iconst (v := 0) hM.1 hM.2.1 dX12_isDuty_1 ic_0 ?_
  refine lv_aload_n hM.1 hM.2.1 dX12_isDuty_2 rfl (lv_at hl 0 rfl) ?_
  refine gf_X12_duties hM hw (okX12.o ho) fl_X12_80 dX12_isDuty_3 ?_
  refine lv_aload_n hM.1 hM.2.1 dX12_isDuty_6 rfl (lv_at hl 0 rfl) ?_
  refine gf_X12_live hM hw (okX12.o ho) fl_X12_266 dX12_isDuty_7 ?_
  refine x_iald hM hw (okX12.duties ho) hf dX12_isDuty_10 (fun hf => ?_)
  refine lv_iconst (v := 1) hM.1 hM.2.1 dX12_isDuty_11 ic_1 ?_
  refine lv_isub hM.1 hM.2.1 dX12_isDuty_12 ?_
  refine x_callSIr (rest := []) hM hw (ct_X12_in l a1 0 ((h.1 21 (h.1 0 18).toNatClampNeg) - 1)) [.int a1, .int 0, .int ((h.1 21 (h.1 0 18).toNatClampNeg) - 1)] rfl (gi_S ml_X12_359 sm_X12_in in_X12 kc_X12_in) hd_X12_in rfl ⟨Nat.le_of_ble_eq_true rfl, Nat.le_of_ble_eq_true rfl⟩ rfl (Nat.le_of_ble_eq_true rfl) hl.1 hcs0 hf dX12_isDuty_13 (fun r1 H locs hf hw => ?_)
  obtain ⟨hz, hf⟩ := x_cond hf
  exact hR _ _ _ _ _ _ _ (congrArg (fun z => (z, _)) (Option.some.inj hf)) rfl (nar_z hz) hw dX12_isDuty_16
theorem hd_X12_isDuty : yX12_isDuty.cls = RX12 ∧ yX12_isDuty.cls ≠ "java/lang/invoke/MethodHandle" ∧ yX12_isDuty.cls ≠ "java/lang/invoke/VarHandle" ∧ (parseMethodDescriptor yX12_isDuty.desc).map (fun d => d.parameters.length) = some 1 := ⟨rfl, by decide, by decide, by decide +kernel⟩
theorem dX12_manOf_0 : decode cX12_manOf 0 = .ok (.aload_n 0, 1) := by decide +kernel
theorem dX12_manOf_1 : decode cX12_manOf 1 = .ok (.getfield 83, 3) := by decide +kernel
theorem dX12_manOf_4 : decode cX12_manOf 4 = .ok (.bipush 9, 2) := by decide +kernel
theorem dX12_manOf_6 : decode cX12_manOf 6 = .ok (.aload_n 0, 1) := by decide +kernel
theorem dX12_manOf_7 : decode cX12_manOf 7 = .ok (.getfield 266, 3) := by decide +kernel
theorem dX12_manOf_10 : decode cX12_manOf 10 = .ok (.imul, 1) := by decide +kernel
theorem dX12_manOf_11 : decode cX12_manOf 11 = .ok (.iload_n 1, 1) := by decide +kernel
theorem dX12_manOf_12 : decode cX12_manOf 12 = .ok (.iadd, 1) := by decide +kernel
theorem dX12_manOf_13 : decode cX12_manOf 13 = .ok (.iaload, 1) := by decide +kernel
theorem dX12_manOf_14 : decode cX12_manOf 14 = .ok (.ireturn, 1) := by decide +kernel
def c_X12_manOf (a1 : Int32) (h : PH) : Option (Int32) :=
  gd (ixOK ((9 * (h.1 0 18)) + a1) 18) <|
  some (h.1 22 ((9 * (h.1 0 18)) + a1).toNatClampNeg)
set_option maxHeartbeats 4000000 in
set_option maxRecDepth 100000 in
theorem ct_X12_manOf (l : Launch) {lay : List KK} (ho : okX12 lay) (a1 : Int32) : CtI l yX12_manOf cX12_manOf 2 (some .int) 0 0 lay (rd (fun h => c_X12_manOf a1 h)) (fun ad => [.ref (ad 0), .int a1]) := by
  refine CtI.mk' RX12 (by decide) rfl (fun _ => Nat.le_of_ble_eq_true rfl) ?_
  intro p0 e s m args below meth c D G A H0 ad X h r0 H ls Q hM hw hl hf hR
  have hl : lv_has ls 2 [(0, .ref (ad 0)), (1, .int a1)] := hl
  obtain ⟨v0, hv0, hr0⟩ : ∃ v0, c_X12_manOf a1 h = some v0 ∧ r0 = (v0, h) := rd_some hf
  subst hr0
  have hf := hv0
  unfold c_X12_manOf at hf
  refine lv_aload_n hM.1 hM.2.1 dX12_manOf_0 rfl (lv_at hl 0 rfl) ?_
  refine gf_X12_dutyMan hM hw (okX12.o ho) fl_X12_83 dX12_manOf_1 ?_
  refine lv_bipush (v := 9) hM.1 hM.2.1 dX12_manOf_4 (by decide) ?_
  refine lv_aload_n hM.1 hM.2.1 dX12_manOf_6 rfl (lv_at hl 0 rfl) ?_
  refine gf_X12_live hM hw (okX12.o ho) fl_X12_266 dX12_manOf_7 ?_
  refine lv_imul hM.1 hM.2.1 dX12_manOf_10 ?_
  refine lv_iload_n hM.1 hM.2.1 dX12_manOf_11 rfl (lv_at hl 1 rfl) ?_
  refine lv_iadd hM.1 hM.2.1 dX12_manOf_12 ?_
  refine x_iald hM hw (okX12.dutyMan ho) hf dX12_manOf_13 (fun hf => ?_)
  exact hR _ _ _ _ _ _ _ (congrArg (fun z => (z, _)) (Option.some.inj hf)) rfl rfl hw dX12_manOf_14
theorem hd_X12_manOf : yX12_manOf.cls = RX12 ∧ yX12_manOf.cls ≠ "java/lang/invoke/MethodHandle" ∧ yX12_manOf.cls ≠ "java/lang/invoke/VarHandle" ∧ (parseMethodDescriptor yX12_manOf.desc).map (fun d => d.parameters.length) = some 1 := ⟨rfl, by decide, by decide, by decide +kernel⟩
theorem dX12_dayOf_0 : decode cX12_dayOf 0 = .ok (.aload_n 0, 1) := by decide +kernel
theorem dX12_dayOf_1 : decode cX12_dayOf 1 = .ok (.getfield 86, 3) := by decide +kernel
theorem dX12_dayOf_4 : decode cX12_dayOf 4 = .ok (.bipush 9, 2) := by decide +kernel
theorem dX12_dayOf_6 : decode cX12_dayOf 6 = .ok (.aload_n 0, 1) := by decide +kernel
theorem dX12_dayOf_7 : decode cX12_dayOf 7 = .ok (.getfield 266, 3) := by decide +kernel
theorem dX12_dayOf_10 : decode cX12_dayOf 10 = .ok (.imul, 1) := by decide +kernel
theorem dX12_dayOf_11 : decode cX12_dayOf 11 = .ok (.iload_n 1, 1) := by decide +kernel
theorem dX12_dayOf_12 : decode cX12_dayOf 12 = .ok (.iadd, 1) := by decide +kernel
theorem dX12_dayOf_13 : decode cX12_dayOf 13 = .ok (.iaload, 1) := by decide +kernel
theorem dX12_dayOf_14 : decode cX12_dayOf 14 = .ok (.ireturn, 1) := by decide +kernel
def c_X12_dayOf (a1 : Int32) (h : PH) : Option (Int32) :=
  gd (ixOK ((9 * (h.1 0 18)) + a1) 18) <|
  some (h.1 23 ((9 * (h.1 0 18)) + a1).toNatClampNeg)
set_option maxHeartbeats 4000000 in
set_option maxRecDepth 100000 in
theorem ct_X12_dayOf (l : Launch) {lay : List KK} (ho : okX12 lay) (a1 : Int32) : CtI l yX12_dayOf cX12_dayOf 2 (some .int) 0 0 lay (rd (fun h => c_X12_dayOf a1 h)) (fun ad => [.ref (ad 0), .int a1]) := by
  refine CtI.mk' RX12 (by decide) rfl (fun _ => Nat.le_of_ble_eq_true rfl) ?_
  intro p0 e s m args below meth c D G A H0 ad X h r0 H ls Q hM hw hl hf hR
  have hl : lv_has ls 2 [(0, .ref (ad 0)), (1, .int a1)] := hl
  obtain ⟨v0, hv0, hr0⟩ : ∃ v0, c_X12_dayOf a1 h = some v0 ∧ r0 = (v0, h) := rd_some hf
  subst hr0
  have hf := hv0
  unfold c_X12_dayOf at hf
  refine lv_aload_n hM.1 hM.2.1 dX12_dayOf_0 rfl (lv_at hl 0 rfl) ?_
  refine gf_X12_dutyDay hM hw (okX12.o ho) fl_X12_86 dX12_dayOf_1 ?_
  refine lv_bipush (v := 9) hM.1 hM.2.1 dX12_dayOf_4 (by decide) ?_
  refine lv_aload_n hM.1 hM.2.1 dX12_dayOf_6 rfl (lv_at hl 0 rfl) ?_
  refine gf_X12_live hM hw (okX12.o ho) fl_X12_266 dX12_dayOf_7 ?_
  refine lv_imul hM.1 hM.2.1 dX12_dayOf_10 ?_
  refine lv_iload_n hM.1 hM.2.1 dX12_dayOf_11 rfl (lv_at hl 1 rfl) ?_
  refine lv_iadd hM.1 hM.2.1 dX12_dayOf_12 ?_
  refine x_iald hM hw (okX12.dutyDay ho) hf dX12_dayOf_13 (fun hf => ?_)
  exact hR _ _ _ _ _ _ _ (congrArg (fun z => (z, _)) (Option.some.inj hf)) rfl rfl hw dX12_dayOf_14
theorem hd_X12_dayOf : yX12_dayOf.cls = RX12 ∧ yX12_dayOf.cls ≠ "java/lang/invoke/MethodHandle" ∧ yX12_dayOf.cls ≠ "java/lang/invoke/VarHandle" ∧ (parseMethodDescriptor yX12_dayOf.desc).map (fun d => d.parameters.length) = some 1 := ⟨rfl, by decide, by decide, by decide +kernel⟩
theorem dX12_copies_0 : decode cX12_copies 0 = .ok (.iconst 0, 1) := by decide +kernel
theorem dX12_copies_1 : decode cX12_copies 1 = .ok (.istore_n 1, 1) := by decide +kernel
theorem dX12_copies_2 : decode cX12_copies 2 = .ok (.iload_n 1, 1) := by decide +kernel
theorem dX12_copies_3 : decode cX12_copies 3 = .ok (.bipush 40, 2) := by decide +kernel
theorem dX12_copies_5 : decode cX12_copies 5 = .ok (.if_icmp .ge 21, 3) := by decide +kernel
theorem dX12_copies_8 : decode cX12_copies 8 = .ok (.aload_n 0, 1) := by decide +kernel
theorem dX12_copies_9 : decode cX12_copies 9 = .ok (.getfield 149, 3) := by decide +kernel
theorem dX12_copies_12 : decode cX12_copies 12 = .ok (.iload_n 1, 1) := by decide +kernel
theorem dX12_copies_13 : decode cX12_copies 13 = .ok (.aload_n 0, 1) := by decide +kernel
theorem dX12_copies_14 : decode cX12_copies 14 = .ok (.getfield 146, 3) := by decide +kernel
theorem dX12_copies_17 : decode cX12_copies 17 = .ok (.iload_n 1, 1) := by decide +kernel
theorem dX12_copies_18 : decode cX12_copies 18 = .ok (.iaload, 1) := by decide +kernel
theorem dX12_copies_19 : decode cX12_copies 19 = .ok (.iastore, 1) := by decide +kernel
theorem dX12_copies_20 : decode cX12_copies 20 = .ok (.iinc 1 1, 3) := by decide +kernel
theorem dX12_copies_23 : decode cX12_copies 23 = .ok (.goto (-21), 3) := by decide +kernel
theorem dX12_copies_26 : decode cX12_copies 26 = .ok (.aload_n 0, 1) := by decide +kernel
theorem dX12_copies_27 : decode cX12_copies 27 = .ok (.aload_n 0, 1) := by decide +kernel
theorem dX12_copies_28 : decode cX12_copies 28 = .ok (.getfield 107, 3) := by decide +kernel
theorem dX12_copies_31 : decode cX12_copies 31 = .ok (.aload_n 0, 1) := by decide +kernel
theorem dX12_copies_32 : decode cX12_copies 32 = .ok (.getfield 266, 3) := by decide +kernel
theorem dX12_copies_35 : decode cX12_copies 35 = .ok (.iaload, 1) := by decide +kernel
theorem dX12_copies_36 : decode cX12_copies 36 = .ok (.putfield 363, 3) := by decide +kernel
theorem dX12_copies_39 : decode cX12_copies 39 = .ok (.return_, 1) := by decide +kernel
def c_X12_copies_L2b {ρ : Type}  (K1 : PH → Option ρ) (REC : Int32 → PH → Option ρ) (x1 : Int32) (h : PH) : Option ρ :=
  if 40 ≤ x1 then
    K1 h
  else
    gd (ixOK x1 40) <|
    gd (ixOK x1 40) <| nm (setI h 44 x1.toNatClampNeg (h.1 43 x1.toNatClampNeg)) fun h2 =>
    nm (x1 + 1) fun v3 =>
    REC v3 h2
set_option maxHeartbeats 4000000 in
set_option maxRecDepth 100000 in
theorem w_X12_copies_L2b {p0 : Program} {l : Launch} {e : Env} {s : State} {m : MethodId} {args : Array Value} {below : List Frame} {meth : Method} {c : Code} {Q : State → Prop} {D : va_G} {G : GG} {A : Nat → Prop} {H0 : Heap} {ad : Nat → Nat} {lay : List KK} {X : va_W} {ρ : Type} {r0 : ρ} {x1 : Int32} {h : PH} {H : Heap} {locs : List Loc} {ls : Array Slot} {K1 : PH → Option ρ} {REC : Int32 → PH → Option ρ} (hM : CallFix p0 m c cX12_copies 2 s args lw_g RX12) (ho : okX12 lay) (hk1 : ∀ (h : PH), ∀ (H : Heap) (locs : List Loc) (ls : Array Slot), K1 h = some r0 → Wd D G A H0 ad lay X h s H locs → lv_has ls 2 [(0, .ref (ad 0))] → W p0 l e (rmN 0 0) s m args below meth c H locs 0 0 Q (F0 m 26 ls [])) (hrec : ∀ (x1 : Int32) (h : PH), ∀ (H : Heap) (locs : List Loc) (ls : Array Slot), REC x1 h = some r0 → Wd D G A H0 ad lay X h s H locs → lv_has ls 2 [(0, .ref (ad 0)), (1, .int x1)] → W p0 l e (rmN 0 0) s m args below meth c H locs 0 0 Q (F0 m 2 ls [])) (hw : Wd D G A H0 ad lay X h s H locs) (hl : lv_has ls 2 [(0, .ref (ad 0)), (1, .int x1)]) (hf : c_X12_copies_L2b K1 REC x1 h = some r0) : W p0 l e (rmN 0 0) s m args below meth c H locs 0 0 Q (F0 m 2 ls []) := by
  unfold c_X12_copies_L2b at hf
  refine lv_iload_n hM.1 hM.2.1 dX12_copies_2 rfl (lv_at hl 1 rfl) ?_
  refine lv_bipush (v := 40) hM.1 hM.2.1 dX12_copies_3 (by decide) ?_
  refine x_ic_ge (tgt := 26) hM hf dX12_copies_5 (by decide) (fun hf => ?_) (fun hf => ?_)
  · exact hk1 _ _ _ _ hf hw (lv_sub hl [0] rfl)
  refine lv_aload_n hM.1 hM.2.1 dX12_copies_8 rfl (lv_at hl 0 rfl) ?_
  refine gf_X12_row hM hw (okX12.o ho) fl_X12_149 dX12_copies_9 ?_
  refine lv_iload_n hM.1 hM.2.1 dX12_copies_12 rfl (lv_at hl 1 rfl) ?_
  refine lv_aload_n hM.1 hM.2.1 dX12_copies_13 rfl (lv_at hl 0 rfl) ?_
  refine gf_X12_now hM hw (okX12.o ho) fl_X12_146 dX12_copies_14 ?_
  refine lv_iload_n hM.1 hM.2.1 dX12_copies_17 rfl (lv_at hl 1 rfl) ?_
  refine x_iald hM hw (okX12.now ho) hf dX12_copies_18 (fun hf => ?_)
  refine x_iast hM hw (okX12.row ho) hf dX12_copies_19 (fun h2 H locs hf hw => ?_)
  refine x_iinc (k := 1) (d := 1) hM hf dX12_copies_20 hl rfl (by decide) (by decide) (fun v3 => [(1, .int v3), (0, .ref (ad 0))]) (fun _ => rfl) (fun v3 ls hf hl => ?_)
  refine lv_goto (tgt := 2) hM.1 hM.2.1 dX12_copies_23 (by decide) ?_
  exact hrec _ _ _ _ _ hf hw (lv_sub hl [1, 0] rfl)
set_option maxHeartbeats 4000000 in
set_option maxRecDepth 100000 in
theorem w_X12_copies_L2 {p0 : Program} {l : Launch} {e : Env} {s : State} {m : MethodId} {args : Array Value} {below : List Frame} {meth : Method} {c : Code} {Q : State → Prop} {D : va_G} {G : GG} {A : Nat → Prop} {H0 : Heap} {ad : Nat → Nat} {lay : List KK} {X : va_W} {ρ : Type} {r0 : ρ} {K1 : PH → Option ρ} (hM : CallFix p0 m c cX12_copies 2 s args lw_g RX12) (ho : okX12 lay) (hk1 : ∀ (h : PH), ∀ (H : Heap) (locs : List Loc) (ls : Array Slot), K1 h = some r0 → Wd D G A H0 ad lay X h s H locs → lv_has ls 2 [(0, .ref (ad 0))] → W p0 l e (rmN 0 0) s m args below meth c H locs 0 0 Q (F0 m 26 ls [])) (n : Nat) (x1 : Int32) (h : PH) (hf : lq2 (c_X12_copies_L2b K1) n x1 h = some r0) : ∀ (H : Heap) (locs : List Loc) (ls : Array Slot), Wd D G A H0 ad lay X h s H locs → lv_has ls 2 [(0, .ref (ad 0)), (1, .int x1)] → W p0 l e (rmN 0 0) s m args below meth c H locs 0 0 Q (F0 m 2 ls []) := by
  exact lq2_i (fun (x1 : Int32) (h : PH) => ∀ (H : Heap) (locs : List Loc) (ls : Array Slot), Wd D G A H0 ad lay X h s H locs → lv_has ls 2 [(0, .ref (ad 0)), (1, .int x1)] → W p0 l e (rmN 0 0) s m args below meth c H locs 0 0 Q (F0 m 2 ls [])) (fun REC x1 h ih hf H locs ls hw hl => w_X12_copies_L2b hM ho hk1 (fun x1 h H locs ls hf hw hl => ih x1 h hf H locs ls hw hl) hw hl hf) n x1 h hf
def c_X12_copies (h : PH) : Option (PH) :=
  nm (0 : Int32) fun v1 =>
  lq2 (c_X12_copies_L2b
    (fun h4 =>
      gd (ixOK (h4.1 0 18) 2) <|
      nm (setI h4 0 62 (h4.1 30 (h4.1 0 18).toNatClampNeg)) fun h5 =>
      some h5)) fu v1 h
set_option maxHeartbeats 4000000 in
set_option maxRecDepth 100000 in
theorem ct_X12_copies (l : Launch) {lay : List KK} (ho : okX12 lay) : CtV l yX12_copies cX12_copies 2 (none) 0 0 lay (fun h => c_X12_copies h) (fun ad => [.ref (ad 0)]) := by
  refine CtV.mk' RX12 (by decide) rfl (fun _ => Nat.le_of_ble_eq_true rfl) ?_
  intro p0 e s m args below meth c D G A H0 ad X h r0 H ls Q hM hw hl hf hR
  have hl : lv_has ls 2 [(0, .ref (ad 0))] := hl
  unfold c_X12_copies at hf
  refine lv_iconst (v := 0) hM.1 hM.2.1 dX12_copies_0 ic_0 ?_
  refine x_istore_n hM hf dX12_copies_1 rfl hl (by decide) (fun v1 => [(1, .int v1), (0, .ref (ad 0))]) (fun _ => rfl) (fun v1 ls hf hl => ?_)
  refine w_X12_copies_L2 hM ho (fun h4 H locs ls hf hw hl => ?_) fu _ _ hf _ _ _ hw (lv_sub hl [1, 0] rfl)
  refine lv_aload_n hM.1 hM.2.1 dX12_copies_26 rfl (lv_at hl 0 rfl) ?_
  refine lv_aload_n hM.1 hM.2.1 dX12_copies_27 rfl (lv_at hl 0 rfl) ?_
  refine gf_X12_seed hM hw (okX12.o ho) fl_X12_107 dX12_copies_28 ?_
  refine lv_aload_n hM.1 hM.2.1 dX12_copies_31 rfl (lv_at hl 0 rfl) ?_
  refine gf_X12_live hM hw (okX12.o ho) fl_X12_266 dX12_copies_32 ?_
  refine x_iald hM hw (okX12.seed ho) hf dX12_copies_35 (fun hf => ?_)
  refine pf_X12_lots hM hw (okX12.o ho) fl_X12_363 hf dX12_copies_36 (fun h5 H locs hf hw => ?_)
  exact hR _ _ _ _ _ (Option.some.inj hf) rfl hw dX12_copies_39
theorem hd_X12_copies : yX12_copies.cls = RX12 ∧ yX12_copies.cls ≠ "java/lang/invoke/MethodHandle" ∧ yX12_copies.cls ≠ "java/lang/invoke/VarHandle" ∧ (parseMethodDescriptor yX12_copies.desc).map (fun d => d.parameters.length) = some 0 := ⟨rfl, by decide, by decide, by decide +kernel⟩
theorem dX12_mixed_0 : decode cX12_mixed 0 = .ok (.iload_n 0, 1) := by decide +kernel
theorem dX12_mixed_1 : decode cX12_mixed 1 = .ok (.iload_n 1, 1) := by decide +kernel
theorem dX12_mixed_2 : decode cX12_mixed 2 = .ok (.ixor, 1) := by decide +kernel
theorem dX12_mixed_3 : decode cX12_mixed 3 = .ok (.ldc_w 366, 3) := by decide +kernel
theorem dX12_mixed_6 : decode cX12_mixed 6 = .ok (.imul, 1) := by decide +kernel
theorem dX12_mixed_7 : decode cX12_mixed 7 = .ok (.sipush 12345, 3) := by decide +kernel
theorem dX12_mixed_10 : decode cX12_mixed 10 = .ok (.iadd, 1) := by decide +kernel
theorem dX12_mixed_11 : decode cX12_mixed 11 = .ok (.istore_n 2, 1) := by decide +kernel
theorem dX12_mixed_12 : decode cX12_mixed 12 = .ok (.iload_n 2, 1) := by decide +kernel
theorem dX12_mixed_13 : decode cX12_mixed 13 = .ok (.iload_n 2, 1) := by decide +kernel
theorem dX12_mixed_14 : decode cX12_mixed 14 = .ok (.bipush 15, 2) := by decide +kernel
theorem dX12_mixed_16 : decode cX12_mixed 16 = .ok (.iushr, 1) := by decide +kernel
theorem dX12_mixed_17 : decode cX12_mixed 17 = .ok (.ixor, 1) := by decide +kernel
theorem dX12_mixed_18 : decode cX12_mixed 18 = .ok (.ireturn, 1) := by decide +kernel
def c_X12_mixed (a0 : Int32) (a1 : Int32) : Option (Int32) :=
  nm (((a0 ^^^ a1) * 1103515245) + 12345) fun v1 =>
  some (v1 ^^^ (jushr v1 15))
set_option maxHeartbeats 4000000 in
set_option maxRecDepth 100000 in
theorem ct_X12_mixed (l : Launch) {lay : List KK} (a0 : Int32) (a1 : Int32) : CtI l yX12_mixed cX12_mixed 3 (some .int) 0 0 lay (rd (fun _ => c_X12_mixed a0 a1)) (fun _ => [.int a0, .int a1]) := by
  refine CtI.mk' RX12 (by decide) rfl (fun _ => Nat.le_of_ble_eq_true rfl) ?_
  intro p0 e s m args below meth c D G A H0 ad X h r0 H ls Q hM hw hl hf hR
  have hl : lv_has ls 3 [(0, .int a0), (1, .int a1)] := hl
  obtain ⟨v0, hv0, hr0⟩ : ∃ v0, c_X12_mixed a0 a1 = some v0 ∧ r0 = (v0, h) := rd_some hf
  subst hr0
  have hf := hv0
  unfold c_X12_mixed at hf
  refine lv_iload_n hM.1 hM.2.1 dX12_mixed_0 rfl (lv_at hl 0 rfl) ?_
  refine lv_iload_n hM.1 hM.2.1 dX12_mixed_1 rfl (lv_at hl 1 rfl) ?_
  refine lv_ixor hM.1 hM.2.1 dX12_mixed_2 ?_
  refine lv_ldcw (v := 1103515245) hM.1 hM.2.1 hM.2.2.2.1 (hM.2.2.2.2 _ kn_X12_366) dX12_mixed_3 ?_
  refine lv_imul hM.1 hM.2.1 dX12_mixed_6 ?_
  refine lv_sipush (v := 12345) hM.1 hM.2.1 dX12_mixed_7 (by decide) ?_
  refine lv_iadd hM.1 hM.2.1 dX12_mixed_10 ?_
  refine x_istore_n hM hf dX12_mixed_11 rfl hl (by decide) (fun v1 => [(2, .int v1), (0, .int a0), (1, .int a1)]) (fun _ => rfl) (fun v1 ls hf hl => ?_)
  refine lv_iload_n hM.1 hM.2.1 dX12_mixed_12 rfl (lv_at hl 0 rfl) ?_
  refine lv_iload_n hM.1 hM.2.1 dX12_mixed_13 rfl (lv_at hl 0 rfl) ?_
  refine lv_bipush (v := 15) hM.1 hM.2.1 dX12_mixed_14 (by decide) ?_
  refine x_iushr hM dX12_mixed_16 ?_
  refine lv_ixor hM.1 hM.2.1 dX12_mixed_17 ?_
  exact hR _ _ _ _ _ _ _ (congrArg (fun z => (z, _)) (Option.some.inj hf)) rfl rfl hw dX12_mixed_18
theorem hd_X12_mixed : yX12_mixed.cls ≠ "java/lang/invoke/MethodHandle" ∧ yX12_mixed.cls ≠ "java/lang/invoke/VarHandle" ∧ (parseMethodDescriptor yX12_mixed.desc).map (fun d => d.parameters.length) = some 2 := ⟨by decide, by decide, by decide +kernel⟩
theorem dX12_lotOf_0 : decode cX12_lotOf 0 = .ok (.aload_n 0, 1) := by decide +kernel
theorem dX12_lotOf_1 : decode cX12_lotOf 1 = .ok (.getfield 363, 3) := by decide +kernel
theorem dX12_lotOf_4 : decode cX12_lotOf 4 = .ok (.bipush 61, 2) := by decide +kernel
theorem dX12_lotOf_6 : decode cX12_lotOf 6 = .ok (.invokestatic 367, 3) := by decide +kernel
theorem dX12_lotOf_9 : decode cX12_lotOf 9 = .ok (.bipush 16, 2) := by decide +kernel
theorem dX12_lotOf_11 : decode cX12_lotOf 11 = .ok (.iload_n 1, 1) := by decide +kernel
theorem dX12_lotOf_12 : decode cX12_lotOf 12 = .ok (.imul, 1) := by decide +kernel
theorem dX12_lotOf_13 : decode cX12_lotOf 13 = .ok (.iload_n 2, 1) := by decide +kernel
theorem dX12_lotOf_14 : decode cX12_lotOf 14 = .ok (.iadd, 1) := by decide +kernel
theorem dX12_lotOf_15 : decode cX12_lotOf 15 = .ok (.invokestatic 367, 3) := by decide +kernel
theorem dX12_lotOf_18 : decode cX12_lotOf 18 = .ok (.iconst 1, 1) := by decide +kernel
theorem dX12_lotOf_19 : decode cX12_lotOf 19 = .ok (.iushr, 1) := by decide +kernel
theorem dX12_lotOf_20 : decode cX12_lotOf 20 = .ok (.bipush 100, 2) := by decide +kernel
theorem dX12_lotOf_22 : decode cX12_lotOf 22 = .ok (.irem, 1) := by decide +kernel
theorem dX12_lotOf_23 : decode cX12_lotOf 23 = .ok (.ireturn, 1) := by decide +kernel
def c_X12_lotOf (a1 : Int32) (a2 : Int32) (h : PH) : Option (Int32) :=
  (c_X12_mixed (h.1 0 62) 61).bind fun r1 =>
  (c_X12_mixed r1 ((16 * a1) + a2)).bind fun r2 =>
  some (jrem (jushr r2 1) 100)
set_option maxHeartbeats 4000000 in
set_option maxRecDepth 100000 in
theorem ct_X12_lotOf (l : Launch) {lay : List KK} (ho : okX12 lay) (a1 : Int32) (a2 : Int32) : CtI l yX12_lotOf cX12_lotOf 3 (some .int) 1 22 lay (rd (fun h => c_X12_lotOf a1 a2 h)) (fun ad => [.ref (ad 0), .int a1, .int a2]) := by
  refine CtI.mk' RX12 (by decide) rfl (fun _ => Nat.le_of_ble_eq_true rfl) ?_
  intro p0 e s m args below meth c D G A H0 ad X h r0 H ls Q hM hw hl hf hR
  have hl : lv_has ls 3 [(0, .ref (ad 0)), (1, .int a1), (2, .int a2)] := hl
  obtain ⟨v0, hv0, hr0⟩ : ∃ v0, c_X12_lotOf a1 a2 h = some v0 ∧ r0 = (v0, h) := rd_some hf
  subst hr0
  have hf := hv0
  unfold c_X12_lotOf at hf
  refine lv_aload_n hM.1 hM.2.1 dX12_lotOf_0 rfl (lv_at hl 0 rfl) ?_
  refine gf_X12_lots hM hw (okX12.o ho) fl_X12_363 dX12_lotOf_1 ?_
  refine lv_bipush (v := 61) hM.1 hM.2.1 dX12_lotOf_4 (by decide) ?_
  refine x_callSIr (rest := []) hM hw (ct_X12_mixed l (h.1 0 62) 61) [.int (h.1 0 62), .int 61] rfl (gi_S ml_X12_367 sm_X12_mixed in_X12 kc_X12_mixed) hd_X12_mixed rfl ⟨Nat.le_of_ble_eq_true rfl, Nat.le_of_ble_eq_true rfl⟩ rfl (Nat.le_of_ble_eq_true rfl) hl.1 hcs0 hf dX12_lotOf_6 (fun r1 H locs hf hw => ?_)
  refine lv_bipush (v := 16) hM.1 hM.2.1 dX12_lotOf_9 (by decide) ?_
  refine lv_iload_n hM.1 hM.2.1 dX12_lotOf_11 rfl (lv_at hl 1 rfl) ?_
  refine lv_imul hM.1 hM.2.1 dX12_lotOf_12 ?_
  refine lv_iload_n hM.1 hM.2.1 dX12_lotOf_13 rfl (lv_at hl 2 rfl) ?_
  refine lv_iadd hM.1 hM.2.1 dX12_lotOf_14 ?_
  refine x_callSIr (rest := []) hM hw (ct_X12_mixed l r1 ((16 * a1) + a2)) [.int r1, .int ((16 * a1) + a2)] rfl (gi_S ml_X12_367 sm_X12_mixed in_X12 kc_X12_mixed) hd_X12_mixed rfl ⟨Nat.le_of_ble_eq_true rfl, Nat.le_of_ble_eq_true rfl⟩ rfl (Nat.le_of_ble_eq_true rfl) hl.1 hcs0 hf dX12_lotOf_15 (fun r2 H locs hf hw => ?_)
  refine lv_iconst (v := 1) hM.1 hM.2.1 dX12_lotOf_18 ic_1 ?_
  refine x_iushr hM dX12_lotOf_19 ?_
  refine lv_bipush (v := 100) hM.1 hM.2.1 dX12_lotOf_20 (by decide) ?_
  refine x_iremK hM (by decide) dX12_lotOf_22 ?_
  exact hR _ _ _ _ _ _ _ (congrArg (fun z => (z, _)) (Option.some.inj hf)) rfl rfl hw dX12_lotOf_23
theorem hd_X12_lotOf : yX12_lotOf.cls = RX12 ∧ yX12_lotOf.cls ≠ "java/lang/invoke/MethodHandle" ∧ yX12_lotOf.cls ≠ "java/lang/invoke/VarHandle" ∧ (parseMethodDescriptor yX12_lotOf.desc).map (fun d => d.parameters.length) = some 2 := ⟨rfl, by decide, by decide, by decide +kernel⟩
theorem dX12_isWet_0 : decode cX12_isWet 0 = .ok (.aload_n 0, 1) := by decide +kernel
theorem dX12_isWet_1 : decode cX12_isWet 1 = .ok (.iload_n 1, 1) := by decide +kernel
theorem dX12_isWet_2 : decode cX12_isWet 2 = .ok (.iconst 0, 1) := by decide +kernel
theorem dX12_isWet_3 : decode cX12_isWet 3 = .ok (.invokevirtual 370, 3) := by decide +kernel
theorem dX12_isWet_6 : decode cX12_isWet 6 = .ok (.aload_n 0, 1) := by decide +kernel
theorem dX12_isWet_7 : decode cX12_isWet 7 = .ok (.getfield 101, 3) := by decide +kernel
theorem dX12_isWet_10 : decode cX12_isWet 10 = .ok (.aload_n 0, 1) := by decide +kernel
theorem dX12_isWet_11 : decode cX12_isWet 11 = .ok (.getfield 266, 3) := by decide +kernel
theorem dX12_isWet_14 : decode cX12_isWet 14 = .ok (.iaload, 1) := by decide +kernel
theorem dX12_isWet_15 : decode cX12_isWet 15 = .ok (.if_icmp .ge 7, 3) := by decide +kernel
theorem dX12_isWet_18 : decode cX12_isWet 18 = .ok (.iconst 1, 1) := by decide +kernel
theorem dX12_isWet_19 : decode cX12_isWet 19 = .ok (.goto 4, 3) := by decide +kernel
theorem dX12_isWet_22 : decode cX12_isWet 22 = .ok (.iconst 0, 1) := by decide +kernel
theorem dX12_isWet_23 : decode cX12_isWet 23 = .ok (.ireturn, 1) := by decide +kernel
def c_X12_isWet (a1 : Int32) (h : PH) : Option (Int32) :=
  (c_X12_lotOf a1 0 h).bind fun r1 =>
  gd (ixOK (h.1 0 18) 2) <|
  if (h.1 28 (h.1 0 18).toNatClampNeg) ≤ r1 then
    some 0
  else
    some 1
set_option maxHeartbeats 4000000 in
set_option maxRecDepth 100000 in
theorem ct_X12_isWet (l : Launch) {lay : List KK} (ho : okX12 lay) (a1 : Int32) : CtI l yX12_isWet cX12_isWet 2 (some .boolean) 2 44 lay (rd (fun h => c_X12_isWet a1 h)) (fun ad => [.ref (ad 0), .int a1]) := by
  refine CtI.mk' RX12 (by decide) rfl (fun _ => Nat.le_of_ble_eq_true rfl) ?_
  intro p0 e s m args below meth c D G A H0 ad X h r0 H ls Q hM hw hl hf hR
  have hl : lv_has ls 2 [(0, .ref (ad 0)), (1, .int a1)] := hl
  obtain ⟨v0, hv0, hr0⟩ : ∃ v0, c_X12_isWet a1 h = some v0 ∧ r0 = (v0, h) := rd_some hf
  subst hr0
  have hf := hv0
  unfold c_X12_isWet at hf
  refine lv_aload_n hM.1 hM.2.1 dX12_isWet_0 rfl (lv_at hl 0 rfl) ?_
  refine lv_iload_n hM.1 hM.2.1 dX12_isWet_1 rfl (lv_at hl 1 rfl) ?_
  refine lv_iconst (v := 0) hM.1 hM.2.1 dX12_isWet_2 ic_0 ?_
  refine x_callVIr (rest := []) hM hw (ct_X12_lotOf l ho a1 0) [.int a1, .int 0] (okX12.o ho) rfl rfl rfl (gi_V ml_X12_370 im_X12_lotOf sl_X12_lotOf in_X12 kc_X12_lotOf) hd_X12_lotOf rfl ⟨Nat.le_of_ble_eq_true rfl, Nat.le_of_ble_eq_true rfl⟩ rfl (Nat.le_of_ble_eq_true rfl) hl.1 hcs0 hf dX12_isWet_3 (fun r1 H locs hf hw => ?_)
  refine lv_aload_n hM.1 hM.2.1 dX12_isWet_6 rfl (lv_at hl 0 rfl) ?_
  refine gf_X12_rain hM hw (okX12.o ho) fl_X12_101 dX12_isWet_7 ?_
  refine lv_aload_n hM.1 hM.2.1 dX12_isWet_10 rfl (lv_at hl 0 rfl) ?_
  refine gf_X12_live hM hw (okX12.o ho) fl_X12_266 dX12_isWet_11 ?_
  refine x_iald hM hw (okX12.rain ho) hf dX12_isWet_14 (fun hf => ?_)
  refine x_ic_ge (tgt := 22) hM hf dX12_isWet_15 (by decide) (fun hf => ?_) (fun hf => ?_)
  · refine lv_iconst (v := 0) hM.1 hM.2.1 dX12_isWet_22 ic_0 ?_
    exact hR _ _ _ _ _ _ _ (congrArg (fun z => (z, _)) (Option.some.inj hf)) rfl (nar_z (by decide)) hw dX12_isWet_23
  refine lv_iconst (v := 1) hM.1 hM.2.1 dX12_isWet_18 ic_1 ?_
  refine lv_goto (tgt := 23) hM.1 hM.2.1 dX12_isWet_19 (by decide) ?_
  exact hR _ _ _ _ _ _ _ (congrArg (fun z => (z, _)) (Option.some.inj hf)) rfl (nar_z (by decide)) hw dX12_isWet_23
theorem hd_X12_isWet : yX12_isWet.cls = RX12 ∧ yX12_isWet.cls ≠ "java/lang/invoke/MethodHandle" ∧ yX12_isWet.cls ≠ "java/lang/invoke/VarHandle" ∧ (parseMethodDescriptor yX12_isWet.desc).map (fun d => d.parameters.length) = some 1 := ⟨rfl, by decide, by decide, by decide +kernel⟩
theorem dX12_toldTimes_0 : decode cX12_toldTimes 0 = .ok (.iconst 0, 1) := by decide +kernel
theorem dX12_toldTimes_1 : decode cX12_toldTimes 1 = .ok (.istore_n 3, 1) := by decide +kernel
theorem dX12_toldTimes_2 : decode cX12_toldTimes 2 = .ok (.iconst 0, 1) := by decide +kernel
theorem dX12_toldTimes_3 : decode cX12_toldTimes 3 = .ok (.istore 4, 2) := by decide +kernel
theorem dX12_toldTimes_5 : decode cX12_toldTimes 5 = .ok (.iload 4, 2) := by decide +kernel
theorem dX12_toldTimes_7 : decode cX12_toldTimes 7 = .ok (.aload_n 0, 1) := by decide +kernel
theorem dX12_toldTimes_8 : decode cX12_toldTimes 8 = .ok (.getfield 80, 3) := by decide +kernel
theorem dX12_toldTimes_11 : decode cX12_toldTimes 11 = .ok (.aload_n 0, 1) := by decide +kernel
theorem dX12_toldTimes_12 : decode cX12_toldTimes 12 = .ok (.getfield 266, 3) := by decide +kernel
theorem dX12_toldTimes_15 : decode cX12_toldTimes 15 = .ok (.iaload, 1) := by decide +kernel
theorem dX12_toldTimes_16 : decode cX12_toldTimes 16 = .ok (.if_icmp .ge 36, 3) := by decide +kernel
theorem dX12_toldTimes_19 : decode cX12_toldTimes 19 = .ok (.aload_n 0, 1) := by decide +kernel
theorem dX12_toldTimes_20 : decode cX12_toldTimes 20 = .ok (.getfield 149, 3) := by decide +kernel
theorem dX12_toldTimes_23 : decode cX12_toldTimes 23 = .ok (.bipush 22, 2) := by decide +kernel
theorem dX12_toldTimes_25 : decode cX12_toldTimes 25 = .ok (.iload 4, 2) := by decide +kernel
theorem dX12_toldTimes_27 : decode cX12_toldTimes 27 = .ok (.iadd, 1) := by decide +kernel
theorem dX12_toldTimes_28 : decode cX12_toldTimes 28 = .ok (.iaload, 1) := by decide +kernel
theorem dX12_toldTimes_29 : decode cX12_toldTimes 29 = .ok (.iload_n 1, 1) := by decide +kernel
theorem dX12_toldTimes_30 : decode cX12_toldTimes 30 = .ok (.if_icmp .ne 16, 3) := by decide +kernel
theorem dX12_toldTimes_33 : decode cX12_toldTimes 33 = .ok (.aload_n 0, 1) := by decide +kernel
theorem dX12_toldTimes_34 : decode cX12_toldTimes 34 = .ok (.iload 4, 2) := by decide +kernel
theorem dX12_toldTimes_36 : decode cX12_toldTimes 36 = .ok (.invokevirtual 373, 3) := by decide +kernel
theorem dX12_toldTimes_39 : decode cX12_toldTimes 39 = .ok (.iload_n 2, 1) := by decide +kernel
theorem dX12_toldTimes_40 : decode cX12_toldTimes 40 = .ok (.if_icmp .ne 6, 3) := by decide +kernel
theorem dX12_toldTimes_43 : decode cX12_toldTimes 43 = .ok (.iinc 3 1, 3) := by decide +kernel
theorem dX12_toldTimes_46 : decode cX12_toldTimes 46 = .ok (.iinc 4 1, 3) := by decide +kernel
theorem dX12_toldTimes_49 : decode cX12_toldTimes 49 = .ok (.goto (-44), 3) := by decide +kernel
theorem dX12_toldTimes_52 : decode cX12_toldTimes 52 = .ok (.iload_n 3, 1) := by decide +kernel
theorem dX12_toldTimes_53 : decode cX12_toldTimes 53 = .ok (.ireturn, 1) := by decide +kernel
def c_X12_toldTimes_L5b {ρ : Type}  (z1 : Int32) (z2 : Int32) (h : PH) (K1 : Int32 → Option ρ) (REC : Int32 → Int32 → Option ρ) (x3 : Int32) (x4 : Int32) : Option ρ :=
  gd (ixOK (h.1 0 18) 2) <|
  if (h.1 21 (h.1 0 18).toNatClampNeg) ≤ x4 then
    K1 x3
  else
    gd (ixOK (22 + x4) 40) <|
    if (h.1 44 (22 + x4).toNatClampNeg) = z1 then
      (c_X12_manOf x4 h).bind fun r4 =>
      if r4 = z2 then
        nm (x3 + 1) fun v6 =>
        nm (x4 + 1) fun v7 =>
        REC v6 v7
      else
        nm (x4 + 1) fun v5 =>
        REC x3 v5
    else
      nm (x4 + 1) fun v3 =>
      REC x3 v3
set_option maxHeartbeats 4000000 in
set_option maxRecDepth 100000 in
theorem w_X12_toldTimes_L5b {p0 : Program} {l : Launch} {e : Env} {s : State} {m : MethodId} {args : Array Value} {below : List Frame} {meth : Method} {c : Code} {Q : State → Prop} {D : va_G} {G : GG} {A : Nat → Prop} {H0 : Heap} {ad : Nat → Nat} {lay : List KK} {X : va_W} {ρ : Type} {r0 : ρ} {z1 : Int32} {z2 : Int32} {x3 : Int32} {x4 : Int32} {h : PH} {H : Heap} {locs : List Loc} {ls : Array Slot} {K1 : Int32 → Option ρ} {REC : Int32 → Int32 → Option ρ} (hM : CallFix p0 m c cX12_toldTimes 5 s args lw_g RX12) (ho : okX12 lay) (hk1 : ∀ (x3 : Int32), ∀ (H : Heap) (locs : List Loc) (ls : Array Slot), K1 x3 = some r0 → Wd D G A H0 ad lay X h s H locs → lv_has ls 5 [(3, .int x3)] → W p0 l e (rmN 1 21) s m args below meth c H locs 0 0 Q (F0 m 52 ls [])) (hrec : ∀ (x3 : Int32) (x4 : Int32), ∀ (H : Heap) (locs : List Loc) (ls : Array Slot), REC x3 x4 = some r0 → Wd D G A H0 ad lay X h s H locs → lv_has ls 5 [(0, .ref (ad 0)), (1, .int z1), (2, .int z2), (3, .int x3), (4, .int x4)] → W p0 l e (rmN 1 21) s m args below meth c H locs 0 0 Q (F0 m 5 ls [])) (hw : Wd D G A H0 ad lay X h s H locs) (hl : lv_has ls 5 [(0, .ref (ad 0)), (1, .int z1), (2, .int z2), (3, .int x3), (4, .int x4)]) (hf : c_X12_toldTimes_L5b z1 z2 h K1 REC x3 x4 = some r0) : W p0 l e (rmN 1 21) s m args below meth c H locs 0 0 Q (F0 m 5 ls []) := by
  unfold c_X12_toldTimes_L5b at hf
  refine lv_iload hM.1 hM.2.1 dX12_toldTimes_5 (lv_at hl 4 rfl) ?_
  refine lv_aload_n hM.1 hM.2.1 dX12_toldTimes_7 rfl (lv_at hl 0 rfl) ?_
  refine gf_X12_duties hM hw (okX12.o ho) fl_X12_80 dX12_toldTimes_8 ?_
  refine lv_aload_n hM.1 hM.2.1 dX12_toldTimes_11 rfl (lv_at hl 0 rfl) ?_
  refine gf_X12_live hM hw (okX12.o ho) fl_X12_266 dX12_toldTimes_12 ?_
  refine x_iald hM hw (okX12.duties ho) hf dX12_toldTimes_15 (fun hf => ?_)
  refine x_ic_ge (tgt := 52) hM hf dX12_toldTimes_16 (by decide) (fun hf => ?_) (fun hf => ?_)
  · exact hk1 _ _ _ _ hf hw (lv_sub hl [3] rfl)
  refine lv_aload_n hM.1 hM.2.1 dX12_toldTimes_19 rfl (lv_at hl 0 rfl) ?_
  refine gf_X12_row hM hw (okX12.o ho) fl_X12_149 dX12_toldTimes_20 ?_
  refine lv_bipush (v := 22) hM.1 hM.2.1 dX12_toldTimes_23 (by decide) ?_
  refine lv_iload hM.1 hM.2.1 dX12_toldTimes_25 (lv_at hl 4 rfl) ?_
  refine lv_iadd hM.1 hM.2.1 dX12_toldTimes_27 ?_
  refine x_iald hM hw (okX12.row ho) hf dX12_toldTimes_28 (fun hf => ?_)
  refine lv_iload_n hM.1 hM.2.1 dX12_toldTimes_29 rfl (lv_at hl 1 rfl) ?_
  refine x_ic_ne (tgt := 46) hM hf dX12_toldTimes_30 (by decide) (fun hf => ?_) (fun hf => ?_)
  · refine x_iinc (k := 4) (d := 1) hM hf dX12_toldTimes_46 hl rfl (by decide) (by decide) (fun v3 => [(4, .int v3), (0, .ref (ad 0)), (1, .int z1), (2, .int z2), (3, .int x3)]) (fun _ => rfl) (fun v3 ls hf hl => ?_)
    refine lv_goto (tgt := 5) hM.1 hM.2.1 dX12_toldTimes_49 (by decide) ?_
    exact hrec _ _ _ _ _ hf hw (lv_sub hl [1, 2, 3, 4, 0] rfl)
  refine lv_aload_n hM.1 hM.2.1 dX12_toldTimes_33 rfl (lv_at hl 0 rfl) ?_
  refine lv_iload hM.1 hM.2.1 dX12_toldTimes_34 (lv_at hl 4 rfl) ?_
  refine x_callVIr (rest := []) hM hw (ct_X12_manOf l ho x4) [.int x4] (okX12.o ho) rfl rfl rfl (gi_V ml_X12_373 im_X12_manOf sl_X12_manOf in_X12 kc_X12_manOf) hd_X12_manOf rfl ⟨Nat.le_of_ble_eq_true rfl, Nat.le_of_ble_eq_true rfl⟩ rfl (Nat.le_of_ble_eq_true rfl) hl.1 hcs0 hf dX12_toldTimes_36 (fun r4 H locs hf hw => ?_)
  refine lv_iload_n hM.1 hM.2.1 dX12_toldTimes_39 rfl (lv_at hl 2 rfl) ?_
  refine x_ic_ne (tgt := 46) hM hf dX12_toldTimes_40 (by decide) (fun hf => ?_) (fun hf => ?_)
  · refine x_iinc (k := 4) (d := 1) hM hf dX12_toldTimes_46 hl rfl (by decide) (by decide) (fun v5 => [(4, .int v5), (0, .ref (ad 0)), (1, .int z1), (2, .int z2), (3, .int x3)]) (fun _ => rfl) (fun v5 ls hf hl => ?_)
    refine lv_goto (tgt := 5) hM.1 hM.2.1 dX12_toldTimes_49 (by decide) ?_
    exact hrec _ _ _ _ _ hf hw (lv_sub hl [1, 2, 3, 4, 0] rfl)
  refine x_iinc (k := 3) (d := 1) hM hf dX12_toldTimes_43 hl rfl (by decide) (by decide) (fun v6 => [(3, .int v6), (0, .ref (ad 0)), (1, .int z1), (2, .int z2), (4, .int x4)]) (fun _ => rfl) (fun v6 ls hf hl => ?_)
  refine x_iinc (k := 4) (d := 1) hM hf dX12_toldTimes_46 hl rfl (by decide) (by decide) (fun v7 => [(4, .int v7), (3, .int v6), (0, .ref (ad 0)), (1, .int z1), (2, .int z2)]) (fun _ => rfl) (fun v7 ls hf hl => ?_)
  refine lv_goto (tgt := 5) hM.1 hM.2.1 dX12_toldTimes_49 (by decide) ?_
  exact hrec _ _ _ _ _ hf hw (lv_sub hl [2, 3, 4, 1, 0] rfl)
set_option maxHeartbeats 4000000 in
set_option maxRecDepth 100000 in
theorem w_X12_toldTimes_L5 {p0 : Program} {l : Launch} {e : Env} {s : State} {m : MethodId} {args : Array Value} {below : List Frame} {meth : Method} {c : Code} {Q : State → Prop} {D : va_G} {G : GG} {A : Nat → Prop} {H0 : Heap} {ad : Nat → Nat} {lay : List KK} {X : va_W} {ρ : Type} {r0 : ρ} {z1 : Int32} {z2 : Int32} {h : PH} {K1 : Int32 → Option ρ} (hM : CallFix p0 m c cX12_toldTimes 5 s args lw_g RX12) (ho : okX12 lay) (hk1 : ∀ (x3 : Int32), ∀ (H : Heap) (locs : List Loc) (ls : Array Slot), K1 x3 = some r0 → Wd D G A H0 ad lay X h s H locs → lv_has ls 5 [(3, .int x3)] → W p0 l e (rmN 1 21) s m args below meth c H locs 0 0 Q (F0 m 52 ls [])) (n : Nat) (x3 : Int32) (x4 : Int32) (hf : lq2 (c_X12_toldTimes_L5b z1 z2 h K1) n x3 x4 = some r0) : ∀ (H : Heap) (locs : List Loc) (ls : Array Slot), Wd D G A H0 ad lay X h s H locs → lv_has ls 5 [(0, .ref (ad 0)), (1, .int z1), (2, .int z2), (3, .int x3), (4, .int x4)] → W p0 l e (rmN 1 21) s m args below meth c H locs 0 0 Q (F0 m 5 ls []) := by
  exact lq2_i (fun (x3 : Int32) (x4 : Int32) => ∀ (H : Heap) (locs : List Loc) (ls : Array Slot), Wd D G A H0 ad lay X h s H locs → lv_has ls 5 [(0, .ref (ad 0)), (1, .int z1), (2, .int z2), (3, .int x3), (4, .int x4)] → W p0 l e (rmN 1 21) s m args below meth c H locs 0 0 Q (F0 m 5 ls [])) (fun REC x3 x4 ih hf H locs ls hw hl => w_X12_toldTimes_L5b hM ho hk1 (fun x3 x4 H locs ls hf hw hl => ih x3 x4 hf H locs ls hw hl) hw hl hf) n x3 x4 hf
def c_X12_toldTimes (a1 : Int32) (a2 : Int32) (h : PH) : Option (Int32) :=
  nm (0 : Int32) fun v1 =>
  nm (0 : Int32) fun v2 =>
  lq2 (c_X12_toldTimes_L5b a1 a2 h
    (fun w8 =>
      some w8)) fu v1 v2
set_option maxHeartbeats 4000000 in
set_option maxRecDepth 100000 in
theorem ct_X12_toldTimes (l : Launch) {lay : List KK} (ho : okX12 lay) (a1 : Int32) (a2 : Int32) : CtI l yX12_toldTimes cX12_toldTimes 5 (some .int) 1 21 lay (rd (fun h => c_X12_toldTimes a1 a2 h)) (fun ad => [.ref (ad 0), .int a1, .int a2]) := by
  refine CtI.mk' RX12 (by decide) rfl (fun _ => Nat.le_of_ble_eq_true rfl) ?_
  intro p0 e s m args below meth c D G A H0 ad X h r0 H ls Q hM hw hl hf hR
  have hl : lv_has ls 5 [(0, .ref (ad 0)), (1, .int a1), (2, .int a2)] := hl
  obtain ⟨v0, hv0, hr0⟩ : ∃ v0, c_X12_toldTimes a1 a2 h = some v0 ∧ r0 = (v0, h) := rd_some hf
  subst hr0
  have hf := hv0
  unfold c_X12_toldTimes at hf
  refine lv_iconst (v := 0) hM.1 hM.2.1 dX12_toldTimes_0 ic_0 ?_
  refine x_istore_n hM hf dX12_toldTimes_1 rfl hl (by decide) (fun v1 => [(3, .int v1), (0, .ref (ad 0)), (1, .int a1), (2, .int a2)]) (fun _ => rfl) (fun v1 ls hf hl => ?_)
  refine lv_iconst (v := 0) hM.1 hM.2.1 dX12_toldTimes_2 ic_0 ?_
  refine x_istore hM hf dX12_toldTimes_3 hl (by decide) (fun v2 => [(4, .int v2), (3, .int v1), (0, .ref (ad 0)), (1, .int a1), (2, .int a2)]) (fun _ => rfl) (fun v2 ls hf hl => ?_)
  refine w_X12_toldTimes_L5 hM ho (fun w8 H locs ls hf hw hl => ?_) fu _ _ hf _ _ _ hw (lv_sub hl [2, 3, 4, 1, 0] rfl)
  refine lv_iload_n hM.1 hM.2.1 dX12_toldTimes_52 rfl (lv_at hl 0 rfl) ?_
  exact hR _ _ _ _ _ _ _ (congrArg (fun z => (z, _)) (Option.some.inj hf)) rfl rfl hw dX12_toldTimes_53
theorem hd_X12_toldTimes : yX12_toldTimes.cls = RX12 ∧ yX12_toldTimes.cls ≠ "java/lang/invoke/MethodHandle" ∧ yX12_toldTimes.cls ≠ "java/lang/invoke/VarHandle" ∧ (parseMethodDescriptor yX12_toldTimes.desc).map (fun d => d.parameters.length) = some 2 := ⟨rfl, by decide, by decide, by decide +kernel⟩
theorem dX12_toldLast_0 : decode cX12_toldLast 0 = .ok (.bipush (-2), 2) := by decide +kernel
theorem dX12_toldLast_2 : decode cX12_toldLast 2 = .ok (.istore_n 3, 1) := by decide +kernel
theorem dX12_toldLast_3 : decode cX12_toldLast 3 = .ok (.iconst 0, 1) := by decide +kernel
theorem dX12_toldLast_4 : decode cX12_toldLast 4 = .ok (.istore 4, 2) := by decide +kernel
theorem dX12_toldLast_6 : decode cX12_toldLast 6 = .ok (.iload 4, 2) := by decide +kernel
theorem dX12_toldLast_8 : decode cX12_toldLast 8 = .ok (.aload_n 0, 1) := by decide +kernel
theorem dX12_toldLast_9 : decode cX12_toldLast 9 = .ok (.getfield 80, 3) := by decide +kernel
theorem dX12_toldLast_12 : decode cX12_toldLast 12 = .ok (.aload_n 0, 1) := by decide +kernel
theorem dX12_toldLast_13 : decode cX12_toldLast 13 = .ok (.getfield 266, 3) := by decide +kernel
theorem dX12_toldLast_16 : decode cX12_toldLast 16 = .ok (.iaload, 1) := by decide +kernel
theorem dX12_toldLast_17 : decode cX12_toldLast 17 = .ok (.if_icmp .ge 50, 3) := by decide +kernel
theorem dX12_toldLast_20 : decode cX12_toldLast 20 = .ok (.aload_n 0, 1) := by decide +kernel
theorem dX12_toldLast_21 : decode cX12_toldLast 21 = .ok (.getfield 149, 3) := by decide +kernel
theorem dX12_toldLast_24 : decode cX12_toldLast 24 = .ok (.bipush 22, 2) := by decide +kernel
theorem dX12_toldLast_26 : decode cX12_toldLast 26 = .ok (.iload 4, 2) := by decide +kernel
theorem dX12_toldLast_28 : decode cX12_toldLast 28 = .ok (.iadd, 1) := by decide +kernel
theorem dX12_toldLast_29 : decode cX12_toldLast 29 = .ok (.iaload, 1) := by decide +kernel
theorem dX12_toldLast_30 : decode cX12_toldLast 30 = .ok (.iload_n 1, 1) := by decide +kernel
theorem dX12_toldLast_31 : decode cX12_toldLast 31 = .ok (.if_icmp .ne 30, 3) := by decide +kernel
theorem dX12_toldLast_34 : decode cX12_toldLast 34 = .ok (.aload_n 0, 1) := by decide +kernel
theorem dX12_toldLast_35 : decode cX12_toldLast 35 = .ok (.iload 4, 2) := by decide +kernel
theorem dX12_toldLast_37 : decode cX12_toldLast 37 = .ok (.invokevirtual 373, 3) := by decide +kernel
theorem dX12_toldLast_40 : decode cX12_toldLast 40 = .ok (.iload_n 2, 1) := by decide +kernel
theorem dX12_toldLast_41 : decode cX12_toldLast 41 = .ok (.if_icmp .ne 20, 3) := by decide +kernel
theorem dX12_toldLast_44 : decode cX12_toldLast 44 = .ok (.aload_n 0, 1) := by decide +kernel
theorem dX12_toldLast_45 : decode cX12_toldLast 45 = .ok (.iload 4, 2) := by decide +kernel
theorem dX12_toldLast_47 : decode cX12_toldLast 47 = .ok (.invokevirtual 376, 3) := by decide +kernel
theorem dX12_toldLast_50 : decode cX12_toldLast 50 = .ok (.iload_n 3, 1) := by decide +kernel
theorem dX12_toldLast_51 : decode cX12_toldLast 51 = .ok (.if_icmp .le 10, 3) := by decide +kernel
theorem dX12_toldLast_54 : decode cX12_toldLast 54 = .ok (.aload_n 0, 1) := by decide +kernel
theorem dX12_toldLast_55 : decode cX12_toldLast 55 = .ok (.iload 4, 2) := by decide +kernel
theorem dX12_toldLast_57 : decode cX12_toldLast 57 = .ok (.invokevirtual 376, 3) := by decide +kernel
theorem dX12_toldLast_60 : decode cX12_toldLast 60 = .ok (.istore_n 3, 1) := by decide +kernel
theorem dX12_toldLast_61 : decode cX12_toldLast 61 = .ok (.iinc 4 1, 3) := by decide +kernel
theorem dX12_toldLast_64 : decode cX12_toldLast 64 = .ok (.goto (-58), 3) := by decide +kernel
theorem dX12_toldLast_67 : decode cX12_toldLast 67 = .ok (.iload_n 3, 1) := by decide +kernel
theorem dX12_toldLast_68 : decode cX12_toldLast 68 = .ok (.ireturn, 1) := by decide +kernel
def c_X12_toldLast_L6b {ρ : Type}  (z1 : Int32) (z2 : Int32) (h : PH) (K1 : Int32 → Option ρ) (REC : Int32 → Int32 → Option ρ) (x3 : Int32) (x4 : Int32) : Option ρ :=
  gd (ixOK (h.1 0 18) 2) <|
  if (h.1 21 (h.1 0 18).toNatClampNeg) ≤ x4 then
    K1 x3
  else
    gd (ixOK (22 + x4) 40) <|
    if (h.1 44 (22 + x4).toNatClampNeg) = z1 then
      (c_X12_manOf x4 h).bind fun r4 =>
      if r4 = z2 then
        (c_X12_dayOf x4 h).bind fun r6 =>
        if r6 ≤ x3 then
          nm (x4 + 1) fun v7 =>
          REC x3 v7
        else
          (c_X12_dayOf x4 h).bind fun r8 =>
          nm r8 fun v9 =>
          nm (x4 + 1) fun v10 =>
          REC v9 v10
      else
        nm (x4 + 1) fun v5 =>
        REC x3 v5
    else
      nm (x4 + 1) fun v3 =>
      REC x3 v3
set_option maxHeartbeats 4000000 in
set_option maxRecDepth 100000 in
theorem w_X12_toldLast_L6b {p0 : Program} {l : Launch} {e : Env} {s : State} {m : MethodId} {args : Array Value} {below : List Frame} {meth : Method} {c : Code} {Q : State → Prop} {D : va_G} {G : GG} {A : Nat → Prop} {H0 : Heap} {ad : Nat → Nat} {lay : List KK} {X : va_W} {ρ : Type} {r0 : ρ} {z1 : Int32} {z2 : Int32} {x3 : Int32} {x4 : Int32} {h : PH} {H : Heap} {locs : List Loc} {ls : Array Slot} {K1 : Int32 → Option ρ} {REC : Int32 → Int32 → Option ρ} (hM : CallFix p0 m c cX12_toldLast 5 s args lw_g RX12) (ho : okX12 lay) (hk1 : ∀ (x3 : Int32), ∀ (H : Heap) (locs : List Loc) (ls : Array Slot), K1 x3 = some r0 → Wd D G A H0 ad lay X h s H locs → lv_has ls 5 [(3, .int x3)] → W p0 l e (rmN 1 21) s m args below meth c H locs 0 0 Q (F0 m 67 ls [])) (hrec : ∀ (x3 : Int32) (x4 : Int32), ∀ (H : Heap) (locs : List Loc) (ls : Array Slot), REC x3 x4 = some r0 → Wd D G A H0 ad lay X h s H locs → lv_has ls 5 [(0, .ref (ad 0)), (1, .int z1), (2, .int z2), (3, .int x3), (4, .int x4)] → W p0 l e (rmN 1 21) s m args below meth c H locs 0 0 Q (F0 m 6 ls [])) (hw : Wd D G A H0 ad lay X h s H locs) (hl : lv_has ls 5 [(0, .ref (ad 0)), (1, .int z1), (2, .int z2), (3, .int x3), (4, .int x4)]) (hf : c_X12_toldLast_L6b z1 z2 h K1 REC x3 x4 = some r0) : W p0 l e (rmN 1 21) s m args below meth c H locs 0 0 Q (F0 m 6 ls []) := by
  unfold c_X12_toldLast_L6b at hf
  refine lv_iload hM.1 hM.2.1 dX12_toldLast_6 (lv_at hl 4 rfl) ?_
  refine lv_aload_n hM.1 hM.2.1 dX12_toldLast_8 rfl (lv_at hl 0 rfl) ?_
  refine gf_X12_duties hM hw (okX12.o ho) fl_X12_80 dX12_toldLast_9 ?_
  refine lv_aload_n hM.1 hM.2.1 dX12_toldLast_12 rfl (lv_at hl 0 rfl) ?_
  refine gf_X12_live hM hw (okX12.o ho) fl_X12_266 dX12_toldLast_13 ?_
  refine x_iald hM hw (okX12.duties ho) hf dX12_toldLast_16 (fun hf => ?_)
  refine x_ic_ge (tgt := 67) hM hf dX12_toldLast_17 (by decide) (fun hf => ?_) (fun hf => ?_)
  · exact hk1 _ _ _ _ hf hw (lv_sub hl [3] rfl)
  refine lv_aload_n hM.1 hM.2.1 dX12_toldLast_20 rfl (lv_at hl 0 rfl) ?_
  refine gf_X12_row hM hw (okX12.o ho) fl_X12_149 dX12_toldLast_21 ?_
  refine lv_bipush (v := 22) hM.1 hM.2.1 dX12_toldLast_24 (by decide) ?_
  refine lv_iload hM.1 hM.2.1 dX12_toldLast_26 (lv_at hl 4 rfl) ?_
  refine lv_iadd hM.1 hM.2.1 dX12_toldLast_28 ?_
  refine x_iald hM hw (okX12.row ho) hf dX12_toldLast_29 (fun hf => ?_)
  refine lv_iload_n hM.1 hM.2.1 dX12_toldLast_30 rfl (lv_at hl 1 rfl) ?_
  refine x_ic_ne (tgt := 61) hM hf dX12_toldLast_31 (by decide) (fun hf => ?_) (fun hf => ?_)
  · refine x_iinc (k := 4) (d := 1) hM hf dX12_toldLast_61 hl rfl (by decide) (by decide) (fun v3 => [(4, .int v3), (0, .ref (ad 0)), (1, .int z1), (2, .int z2), (3, .int x3)]) (fun _ => rfl) (fun v3 ls hf hl => ?_)
    refine lv_goto (tgt := 6) hM.1 hM.2.1 dX12_toldLast_64 (by decide) ?_
    exact hrec _ _ _ _ _ hf hw (lv_sub hl [1, 2, 3, 4, 0] rfl)
  refine lv_aload_n hM.1 hM.2.1 dX12_toldLast_34 rfl (lv_at hl 0 rfl) ?_
  refine lv_iload hM.1 hM.2.1 dX12_toldLast_35 (lv_at hl 4 rfl) ?_
  refine x_callVIr (rest := []) hM hw (ct_X12_manOf l ho x4) [.int x4] (okX12.o ho) rfl rfl rfl (gi_V ml_X12_373 im_X12_manOf sl_X12_manOf in_X12 kc_X12_manOf) hd_X12_manOf rfl ⟨Nat.le_of_ble_eq_true rfl, Nat.le_of_ble_eq_true rfl⟩ rfl (Nat.le_of_ble_eq_true rfl) hl.1 hcs0 hf dX12_toldLast_37 (fun r4 H locs hf hw => ?_)
  refine lv_iload_n hM.1 hM.2.1 dX12_toldLast_40 rfl (lv_at hl 2 rfl) ?_
  refine x_ic_ne (tgt := 61) hM hf dX12_toldLast_41 (by decide) (fun hf => ?_) (fun hf => ?_)
  · refine x_iinc (k := 4) (d := 1) hM hf dX12_toldLast_61 hl rfl (by decide) (by decide) (fun v5 => [(4, .int v5), (0, .ref (ad 0)), (1, .int z1), (2, .int z2), (3, .int x3)]) (fun _ => rfl) (fun v5 ls hf hl => ?_)
    refine lv_goto (tgt := 6) hM.1 hM.2.1 dX12_toldLast_64 (by decide) ?_
    exact hrec _ _ _ _ _ hf hw (lv_sub hl [1, 2, 3, 4, 0] rfl)
  refine lv_aload_n hM.1 hM.2.1 dX12_toldLast_44 rfl (lv_at hl 0 rfl) ?_
  refine lv_iload hM.1 hM.2.1 dX12_toldLast_45 (lv_at hl 4 rfl) ?_
  refine x_callVIr (rest := []) hM hw (ct_X12_dayOf l ho x4) [.int x4] (okX12.o ho) rfl rfl rfl (gi_V ml_X12_376 im_X12_dayOf sl_X12_dayOf in_X12 kc_X12_dayOf) hd_X12_dayOf rfl ⟨Nat.le_of_ble_eq_true rfl, Nat.le_of_ble_eq_true rfl⟩ rfl (Nat.le_of_ble_eq_true rfl) hl.1 hcs0 hf dX12_toldLast_47 (fun r6 H locs hf hw => ?_)
  refine lv_iload_n hM.1 hM.2.1 dX12_toldLast_50 rfl (lv_at hl 3 rfl) ?_
  refine x_ic_le (tgt := 61) hM hf dX12_toldLast_51 (by decide) (fun hf => ?_) (fun hf => ?_)
  · refine x_iinc (k := 4) (d := 1) hM hf dX12_toldLast_61 hl rfl (by decide) (by decide) (fun v7 => [(4, .int v7), (0, .ref (ad 0)), (1, .int z1), (2, .int z2), (3, .int x3)]) (fun _ => rfl) (fun v7 ls hf hl => ?_)
    refine lv_goto (tgt := 6) hM.1 hM.2.1 dX12_toldLast_64 (by decide) ?_
    exact hrec _ _ _ _ _ hf hw (lv_sub hl [1, 2, 3, 4, 0] rfl)
  refine lv_aload_n hM.1 hM.2.1 dX12_toldLast_54 rfl (lv_at hl 0 rfl) ?_
  refine lv_iload hM.1 hM.2.1 dX12_toldLast_55 (lv_at hl 4 rfl) ?_
  refine x_callVIr (rest := []) hM hw (ct_X12_dayOf l ho x4) [.int x4] (okX12.o ho) rfl rfl rfl (gi_V ml_X12_376 im_X12_dayOf sl_X12_dayOf in_X12 kc_X12_dayOf) hd_X12_dayOf rfl ⟨Nat.le_of_ble_eq_true rfl, Nat.le_of_ble_eq_true rfl⟩ rfl (Nat.le_of_ble_eq_true rfl) hl.1 hcs0 hf dX12_toldLast_57 (fun r8 H locs hf hw => ?_)
  refine x_istore_n hM hf dX12_toldLast_60 rfl hl (by decide) (fun v9 => [(3, .int v9), (0, .ref (ad 0)), (1, .int z1), (2, .int z2), (4, .int x4)]) (fun _ => rfl) (fun v9 ls hf hl => ?_)
  refine x_iinc (k := 4) (d := 1) hM hf dX12_toldLast_61 hl rfl (by decide) (by decide) (fun v10 => [(4, .int v10), (3, .int v9), (0, .ref (ad 0)), (1, .int z1), (2, .int z2)]) (fun _ => rfl) (fun v10 ls hf hl => ?_)
  refine lv_goto (tgt := 6) hM.1 hM.2.1 dX12_toldLast_64 (by decide) ?_
  exact hrec _ _ _ _ _ hf hw (lv_sub hl [2, 3, 4, 1, 0] rfl)
set_option maxHeartbeats 4000000 in
set_option maxRecDepth 100000 in
theorem w_X12_toldLast_L6 {p0 : Program} {l : Launch} {e : Env} {s : State} {m : MethodId} {args : Array Value} {below : List Frame} {meth : Method} {c : Code} {Q : State → Prop} {D : va_G} {G : GG} {A : Nat → Prop} {H0 : Heap} {ad : Nat → Nat} {lay : List KK} {X : va_W} {ρ : Type} {r0 : ρ} {z1 : Int32} {z2 : Int32} {h : PH} {K1 : Int32 → Option ρ} (hM : CallFix p0 m c cX12_toldLast 5 s args lw_g RX12) (ho : okX12 lay) (hk1 : ∀ (x3 : Int32), ∀ (H : Heap) (locs : List Loc) (ls : Array Slot), K1 x3 = some r0 → Wd D G A H0 ad lay X h s H locs → lv_has ls 5 [(3, .int x3)] → W p0 l e (rmN 1 21) s m args below meth c H locs 0 0 Q (F0 m 67 ls [])) (n : Nat) (x3 : Int32) (x4 : Int32) (hf : lq2 (c_X12_toldLast_L6b z1 z2 h K1) n x3 x4 = some r0) : ∀ (H : Heap) (locs : List Loc) (ls : Array Slot), Wd D G A H0 ad lay X h s H locs → lv_has ls 5 [(0, .ref (ad 0)), (1, .int z1), (2, .int z2), (3, .int x3), (4, .int x4)] → W p0 l e (rmN 1 21) s m args below meth c H locs 0 0 Q (F0 m 6 ls []) := by
  exact lq2_i (fun (x3 : Int32) (x4 : Int32) => ∀ (H : Heap) (locs : List Loc) (ls : Array Slot), Wd D G A H0 ad lay X h s H locs → lv_has ls 5 [(0, .ref (ad 0)), (1, .int z1), (2, .int z2), (3, .int x3), (4, .int x4)] → W p0 l e (rmN 1 21) s m args below meth c H locs 0 0 Q (F0 m 6 ls [])) (fun REC x3 x4 ih hf H locs ls hw hl => w_X12_toldLast_L6b hM ho hk1 (fun x3 x4 H locs ls hf hw hl => ih x3 x4 hf H locs ls hw hl) hw hl hf) n x3 x4 hf
def c_X12_toldLast (a1 : Int32) (a2 : Int32) (h : PH) : Option (Int32) :=
  nm ((-2) : Int32) fun v1 =>
  nm (0 : Int32) fun v2 =>
  lq2 (c_X12_toldLast_L6b a1 a2 h
    (fun w11 =>
      some w11)) fu v1 v2
set_option maxHeartbeats 4000000 in
set_option maxRecDepth 100000 in
theorem ct_X12_toldLast (l : Launch) {lay : List KK} (ho : okX12 lay) (a1 : Int32) (a2 : Int32) : CtI l yX12_toldLast cX12_toldLast 5 (some .int) 1 21 lay (rd (fun h => c_X12_toldLast a1 a2 h)) (fun ad => [.ref (ad 0), .int a1, .int a2]) := by
  refine CtI.mk' RX12 (by decide) rfl (fun _ => Nat.le_of_ble_eq_true rfl) ?_
  intro p0 e s m args below meth c D G A H0 ad X h r0 H ls Q hM hw hl hf hR
  have hl : lv_has ls 5 [(0, .ref (ad 0)), (1, .int a1), (2, .int a2)] := hl
  obtain ⟨v0, hv0, hr0⟩ : ∃ v0, c_X12_toldLast a1 a2 h = some v0 ∧ r0 = (v0, h) := rd_some hf
  subst hr0
  have hf := hv0
  unfold c_X12_toldLast at hf
  refine lv_bipush (v := (-2)) hM.1 hM.2.1 dX12_toldLast_0 (by decide) ?_
  refine x_istore_n hM hf dX12_toldLast_2 rfl hl (by decide) (fun v1 => [(3, .int v1), (0, .ref (ad 0)), (1, .int a1), (2, .int a2)]) (fun _ => rfl) (fun v1 ls hf hl => ?_)
  refine lv_iconst (v := 0) hM.1 hM.2.1 dX12_toldLast_3 ic_0 ?_
  refine x_istore hM hf dX12_toldLast_4 hl (by decide) (fun v2 => [(4, .int v2), (3, .int v1), (0, .ref (ad 0)), (1, .int a1), (2, .int a2)]) (fun _ => rfl) (fun v2 ls hf hl => ?_)
  refine w_X12_toldLast_L6 hM ho (fun w11 H locs ls hf hw hl => ?_) fu _ _ hf _ _ _ hw (lv_sub hl [2, 3, 4, 1, 0] rfl)
  refine lv_iload_n hM.1 hM.2.1 dX12_toldLast_67 rfl (lv_at hl 0 rfl) ?_
  exact hR _ _ _ _ _ _ _ (congrArg (fun z => (z, _)) (Option.some.inj hf)) rfl rfl hw dX12_toldLast_68
theorem hd_X12_toldLast : yX12_toldLast.cls = RX12 ∧ yX12_toldLast.cls ≠ "java/lang/invoke/MethodHandle" ∧ yX12_toldLast.cls ≠ "java/lang/invoke/VarHandle" ∧ (parseMethodDescriptor yX12_toldLast.desc).map (fun d => d.parameters.length) = some 2 := ⟨rfl, by decide, by decide, by decide +kernel⟩
theorem dX12_isToldElse_0 : decode cX12_isToldElse 0 = .ok (.iconst 0, 1) := by decide +kernel
theorem dX12_isToldElse_1 : decode cX12_isToldElse 1 = .ok (.istore 4, 2) := by decide +kernel
theorem dX12_isToldElse_3 : decode cX12_isToldElse 3 = .ok (.iload 4, 2) := by decide +kernel
theorem dX12_isToldElse_5 : decode cX12_isToldElse 5 = .ok (.aload_n 0, 1) := by decide +kernel
theorem dX12_isToldElse_6 : decode cX12_isToldElse 6 = .ok (.getfield 80, 3) := by decide +kernel
theorem dX12_isToldElse_9 : decode cX12_isToldElse 9 = .ok (.aload_n 0, 1) := by decide +kernel
theorem dX12_isToldElse_10 : decode cX12_isToldElse 10 = .ok (.getfield 266, 3) := by decide +kernel
theorem dX12_isToldElse_13 : decode cX12_isToldElse 13 = .ok (.iaload, 1) := by decide +kernel
theorem dX12_isToldElse_14 : decode cX12_isToldElse 14 = .ok (.if_icmp .ge 71, 3) := by decide +kernel
theorem dX12_isToldElse_17 : decode cX12_isToldElse 17 = .ok (.aload_n 0, 1) := by decide +kernel
theorem dX12_isToldElse_18 : decode cX12_isToldElse 18 = .ok (.getfield 149, 3) := by decide +kernel
theorem dX12_isToldElse_21 : decode cX12_isToldElse 21 = .ok (.bipush 22, 2) := by decide +kernel
theorem dX12_isToldElse_23 : decode cX12_isToldElse 23 = .ok (.iload 4, 2) := by decide +kernel
theorem dX12_isToldElse_25 : decode cX12_isToldElse 25 = .ok (.iadd, 1) := by decide +kernel
theorem dX12_isToldElse_26 : decode cX12_isToldElse 26 = .ok (.iaload, 1) := by decide +kernel
theorem dX12_isToldElse_27 : decode cX12_isToldElse 27 = .ok (.ifCond .lt 52, 3) := by decide +kernel
theorem dX12_isToldElse_30 : decode cX12_isToldElse 30 = .ok (.aload_n 0, 1) := by decide +kernel
theorem dX12_isToldElse_31 : decode cX12_isToldElse 31 = .ok (.iload 4, 2) := by decide +kernel
theorem dX12_isToldElse_33 : decode cX12_isToldElse 33 = .ok (.invokevirtual 373, 3) := by decide +kernel
theorem dX12_isToldElse_36 : decode cX12_isToldElse 36 = .ok (.iload_n 1, 1) := by decide +kernel
theorem dX12_isToldElse_37 : decode cX12_isToldElse 37 = .ok (.if_icmp .ne 42, 3) := by decide +kernel
theorem dX12_isToldElse_40 : decode cX12_isToldElse 40 = .ok (.aload_n 0, 1) := by decide +kernel
theorem dX12_isToldElse_41 : decode cX12_isToldElse 41 = .ok (.iload 4, 2) := by decide +kernel
theorem dX12_isToldElse_43 : decode cX12_isToldElse 43 = .ok (.invokevirtual 376, 3) := by decide +kernel
theorem dX12_isToldElse_46 : decode cX12_isToldElse 46 = .ok (.iload_n 3, 1) := by decide +kernel
theorem dX12_isToldElse_47 : decode cX12_isToldElse 47 = .ok (.if_icmp .ne 32, 3) := by decide +kernel
theorem dX12_isToldElse_50 : decode cX12_isToldElse 50 = .ok (.aload_n 0, 1) := by decide +kernel
theorem dX12_isToldElse_51 : decode cX12_isToldElse 51 = .ok (.getfield 70, 3) := by decide +kernel
theorem dX12_isToldElse_54 : decode cX12_isToldElse 54 = .ok (.bipush 7, 2) := by decide +kernel
theorem dX12_isToldElse_56 : decode cX12_isToldElse 56 = .ok (.aload_n 0, 1) := by decide +kernel
theorem dX12_isToldElse_57 : decode cX12_isToldElse 57 = .ok (.getfield 266, 3) := by decide +kernel
theorem dX12_isToldElse_60 : decode cX12_isToldElse 60 = .ok (.imul, 1) := by decide +kernel
theorem dX12_isToldElse_61 : decode cX12_isToldElse 61 = .ok (.aload_n 0, 1) := by decide +kernel
theorem dX12_isToldElse_62 : decode cX12_isToldElse 62 = .ok (.getfield 149, 3) := by decide +kernel
theorem dX12_isToldElse_65 : decode cX12_isToldElse 65 = .ok (.bipush 22, 2) := by decide +kernel
theorem dX12_isToldElse_67 : decode cX12_isToldElse 67 = .ok (.iload 4, 2) := by decide +kernel
theorem dX12_isToldElse_69 : decode cX12_isToldElse 69 = .ok (.iadd, 1) := by decide +kernel
theorem dX12_isToldElse_70 : decode cX12_isToldElse 70 = .ok (.iaload, 1) := by decide +kernel
theorem dX12_isToldElse_71 : decode cX12_isToldElse 71 = .ok (.iadd, 1) := by decide +kernel
theorem dX12_isToldElse_72 : decode cX12_isToldElse 72 = .ok (.iaload, 1) := by decide +kernel
theorem dX12_isToldElse_73 : decode cX12_isToldElse 73 = .ok (.iload_n 2, 1) := by decide +kernel
theorem dX12_isToldElse_74 : decode cX12_isToldElse 74 = .ok (.if_icmp .eq 5, 3) := by decide +kernel
theorem dX12_isToldElse_77 : decode cX12_isToldElse 77 = .ok (.iconst 1, 1) := by decide +kernel
theorem dX12_isToldElse_78 : decode cX12_isToldElse 78 = .ok (.ireturn, 1) := by decide +kernel
theorem dX12_isToldElse_79 : decode cX12_isToldElse 79 = .ok (.iinc 4 1, 3) := by decide +kernel
theorem dX12_isToldElse_82 : decode cX12_isToldElse 82 = .ok (.goto (-79), 3) := by decide +kernel
theorem dX12_isToldElse_85 : decode cX12_isToldElse 85 = .ok (.iconst 0, 1) := by decide +kernel
theorem dX12_isToldElse_86 : decode cX12_isToldElse 86 = .ok (.ireturn, 1) := by decide +kernel
def c_X12_isToldElse_L3b {ρ : Type}  (z1 : Int32) (z2 : Int32) (z3 : Int32) (h : PH) (K1 : Option ρ) (K2 : Option ρ) (REC : Int32 → Option ρ) (x4 : Int32) : Option ρ :=
  gd (ixOK (h.1 0 18) 2) <|
  if (h.1 21 (h.1 0 18).toNatClampNeg) ≤ x4 then
    K2
  else
    gd (ixOK (22 + x4) 40) <|
    if (h.1 44 (22 + x4).toNatClampNeg) < 0 then
      nm (x4 + 1) fun v2 =>
      REC v2
    else
      (c_X12_manOf x4 h).bind fun r3 =>
      if r3 = z1 then
        (c_X12_dayOf x4 h).bind fun r5 =>
        if r5 = z3 then
          gd (ixOK (22 + x4) 40) <|
          gd (ixOK ((7 * (h.1 0 18)) + (h.1 44 (22 + x4).toNatClampNeg)) 14) <|
          if (h.1 18 ((7 * (h.1 0 18)) + (h.1 44 (22 + x4).toNatClampNeg)).toNatClampNeg) = z2 then
            nm (x4 + 1) fun v7 =>
            REC v7
          else
            K1
        else
          nm (x4 + 1) fun v6 =>
          REC v6
      else
        nm (x4 + 1) fun v4 =>
        REC v4
set_option maxHeartbeats 4000000 in
set_option maxRecDepth 100000 in
theorem w_X12_isToldElse_L3b {p0 : Program} {l : Launch} {e : Env} {s : State} {m : MethodId} {args : Array Value} {below : List Frame} {meth : Method} {c : Code} {Q : State → Prop} {D : va_G} {G : GG} {A : Nat → Prop} {H0 : Heap} {ad : Nat → Nat} {lay : List KK} {X : va_W} {ρ : Type} {r0 : ρ} {z1 : Int32} {z2 : Int32} {z3 : Int32} {x4 : Int32} {h : PH} {H : Heap} {locs : List Loc} {ls : Array Slot} {K1 : Option ρ} {K2 : Option ρ} {REC : Int32 → Option ρ} (hM : CallFix p0 m c cX12_isToldElse 5 s args lw_g RX12) (ho : okX12 lay) (hk1 : ∀ (H : Heap) (locs : List Loc) (ls : Array Slot), K1 = some r0 → Wd D G A H0 ad lay X h s H locs → lv_has ls 5 [] → W p0 l e (rmN 1 21) s m args below meth c H locs 0 0 Q (F0 m 77 ls [])) (hk2 : ∀ (H : Heap) (locs : List Loc) (ls : Array Slot), K2 = some r0 → Wd D G A H0 ad lay X h s H locs → lv_has ls 5 [] → W p0 l e (rmN 1 21) s m args below meth c H locs 0 0 Q (F0 m 85 ls [])) (hrec : ∀ (x4 : Int32), ∀ (H : Heap) (locs : List Loc) (ls : Array Slot), REC x4 = some r0 → Wd D G A H0 ad lay X h s H locs → lv_has ls 5 [(0, .ref (ad 0)), (1, .int z1), (2, .int z2), (3, .int z3), (4, .int x4)] → W p0 l e (rmN 1 21) s m args below meth c H locs 0 0 Q (F0 m 3 ls [])) (hw : Wd D G A H0 ad lay X h s H locs) (hl : lv_has ls 5 [(0, .ref (ad 0)), (1, .int z1), (2, .int z2), (3, .int z3), (4, .int x4)]) (hf : c_X12_isToldElse_L3b z1 z2 z3 h K1 K2 REC x4 = some r0) : W p0 l e (rmN 1 21) s m args below meth c H locs 0 0 Q (F0 m 3 ls []) := by
  unfold c_X12_isToldElse_L3b at hf
  refine lv_iload hM.1 hM.2.1 dX12_isToldElse_3 (lv_at hl 4 rfl) ?_
  refine lv_aload_n hM.1 hM.2.1 dX12_isToldElse_5 rfl (lv_at hl 0 rfl) ?_
  refine gf_X12_duties hM hw (okX12.o ho) fl_X12_80 dX12_isToldElse_6 ?_
  refine lv_aload_n hM.1 hM.2.1 dX12_isToldElse_9 rfl (lv_at hl 0 rfl) ?_
  refine gf_X12_live hM hw (okX12.o ho) fl_X12_266 dX12_isToldElse_10 ?_
  refine x_iald hM hw (okX12.duties ho) hf dX12_isToldElse_13 (fun hf => ?_)
  refine x_ic_ge (tgt := 85) hM hf dX12_isToldElse_14 (by decide) (fun hf => ?_) (fun hf => ?_)
  · exact hk2 _ _ _ hf hw (lv_sub hl [] rfl)
  refine lv_aload_n hM.1 hM.2.1 dX12_isToldElse_17 rfl (lv_at hl 0 rfl) ?_
  refine gf_X12_row hM hw (okX12.o ho) fl_X12_149 dX12_isToldElse_18 ?_
  refine lv_bipush (v := 22) hM.1 hM.2.1 dX12_isToldElse_21 (by decide) ?_
  refine lv_iload hM.1 hM.2.1 dX12_isToldElse_23 (lv_at hl 4 rfl) ?_
  refine lv_iadd hM.1 hM.2.1 dX12_isToldElse_25 ?_
  refine x_iald hM hw (okX12.row ho) hf dX12_isToldElse_26 (fun hf => ?_)
  refine x_if_lt (tgt := 79) hM hf dX12_isToldElse_27 (by decide) (fun hf => ?_) (fun hf => ?_)
  · refine x_iinc (k := 4) (d := 1) hM hf dX12_isToldElse_79 hl rfl (by decide) (by decide) (fun v2 => [(4, .int v2), (0, .ref (ad 0)), (1, .int z1), (2, .int z2), (3, .int z3)]) (fun _ => rfl) (fun v2 ls hf hl => ?_)
    refine lv_goto (tgt := 3) hM.1 hM.2.1 dX12_isToldElse_82 (by decide) ?_
    exact hrec _ _ _ _ hf hw (lv_sub hl [1, 2, 3, 4, 0] rfl)
  refine lv_aload_n hM.1 hM.2.1 dX12_isToldElse_30 rfl (lv_at hl 0 rfl) ?_
  refine lv_iload hM.1 hM.2.1 dX12_isToldElse_31 (lv_at hl 4 rfl) ?_
  refine x_callVIr (rest := []) hM hw (ct_X12_manOf l ho x4) [.int x4] (okX12.o ho) rfl rfl rfl (gi_V ml_X12_373 im_X12_manOf sl_X12_manOf in_X12 kc_X12_manOf) hd_X12_manOf rfl ⟨Nat.le_of_ble_eq_true rfl, Nat.le_of_ble_eq_true rfl⟩ rfl (Nat.le_of_ble_eq_true rfl) hl.1 hcs0 hf dX12_isToldElse_33 (fun r3 H locs hf hw => ?_)
  refine lv_iload_n hM.1 hM.2.1 dX12_isToldElse_36 rfl (lv_at hl 1 rfl) ?_
  refine x_ic_ne (tgt := 79) hM hf dX12_isToldElse_37 (by decide) (fun hf => ?_) (fun hf => ?_)
  · refine x_iinc (k := 4) (d := 1) hM hf dX12_isToldElse_79 hl rfl (by decide) (by decide) (fun v4 => [(4, .int v4), (0, .ref (ad 0)), (1, .int z1), (2, .int z2), (3, .int z3)]) (fun _ => rfl) (fun v4 ls hf hl => ?_)
    refine lv_goto (tgt := 3) hM.1 hM.2.1 dX12_isToldElse_82 (by decide) ?_
    exact hrec _ _ _ _ hf hw (lv_sub hl [1, 2, 3, 4, 0] rfl)
  refine lv_aload_n hM.1 hM.2.1 dX12_isToldElse_40 rfl (lv_at hl 0 rfl) ?_
  refine lv_iload hM.1 hM.2.1 dX12_isToldElse_41 (lv_at hl 4 rfl) ?_
  refine x_callVIr (rest := []) hM hw (ct_X12_dayOf l ho x4) [.int x4] (okX12.o ho) rfl rfl rfl (gi_V ml_X12_376 im_X12_dayOf sl_X12_dayOf in_X12 kc_X12_dayOf) hd_X12_dayOf rfl ⟨Nat.le_of_ble_eq_true rfl, Nat.le_of_ble_eq_true rfl⟩ rfl (Nat.le_of_ble_eq_true rfl) hl.1 hcs0 hf dX12_isToldElse_43 (fun r5 H locs hf hw => ?_)
  refine lv_iload_n hM.1 hM.2.1 dX12_isToldElse_46 rfl (lv_at hl 3 rfl) ?_
  refine x_ic_ne (tgt := 79) hM hf dX12_isToldElse_47 (by decide) (fun hf => ?_) (fun hf => ?_)
  · refine x_iinc (k := 4) (d := 1) hM hf dX12_isToldElse_79 hl rfl (by decide) (by decide) (fun v6 => [(4, .int v6), (0, .ref (ad 0)), (1, .int z1), (2, .int z2), (3, .int z3)]) (fun _ => rfl) (fun v6 ls hf hl => ?_)
    refine lv_goto (tgt := 3) hM.1 hM.2.1 dX12_isToldElse_82 (by decide) ?_
    exact hrec _ _ _ _ hf hw (lv_sub hl [1, 2, 3, 4, 0] rfl)
  refine lv_aload_n hM.1 hM.2.1 dX12_isToldElse_50 rfl (lv_at hl 0 rfl) ?_
  refine gf_X12_kindOf hM hw (okX12.o ho) fl_X12_70 dX12_isToldElse_51 ?_
  refine lv_bipush (v := 7) hM.1 hM.2.1 dX12_isToldElse_54 (by decide) ?_
  refine lv_aload_n hM.1 hM.2.1 dX12_isToldElse_56 rfl (lv_at hl 0 rfl) ?_
  refine gf_X12_live hM hw (okX12.o ho) fl_X12_266 dX12_isToldElse_57 ?_
  refine lv_imul hM.1 hM.2.1 dX12_isToldElse_60 ?_
  refine lv_aload_n hM.1 hM.2.1 dX12_isToldElse_61 rfl (lv_at hl 0 rfl) ?_
  refine gf_X12_row hM hw (okX12.o ho) fl_X12_149 dX12_isToldElse_62 ?_
  refine lv_bipush (v := 22) hM.1 hM.2.1 dX12_isToldElse_65 (by decide) ?_
  refine lv_iload hM.1 hM.2.1 dX12_isToldElse_67 (lv_at hl 4 rfl) ?_
  refine lv_iadd hM.1 hM.2.1 dX12_isToldElse_69 ?_
  refine x_iald hM hw (okX12.row ho) hf dX12_isToldElse_70 (fun hf => ?_)
  refine lv_iadd hM.1 hM.2.1 dX12_isToldElse_71 ?_
  refine x_iald hM hw (okX12.kindOf ho) hf dX12_isToldElse_72 (fun hf => ?_)
  refine lv_iload_n hM.1 hM.2.1 dX12_isToldElse_73 rfl (lv_at hl 2 rfl) ?_
  refine x_ic_eq (tgt := 79) hM hf dX12_isToldElse_74 (by decide) (fun hf => ?_) (fun hf => ?_)
  · refine x_iinc (k := 4) (d := 1) hM hf dX12_isToldElse_79 hl rfl (by decide) (by decide) (fun v7 => [(4, .int v7), (0, .ref (ad 0)), (1, .int z1), (2, .int z2), (3, .int z3)]) (fun _ => rfl) (fun v7 ls hf hl => ?_)
    refine lv_goto (tgt := 3) hM.1 hM.2.1 dX12_isToldElse_82 (by decide) ?_
    exact hrec _ _ _ _ hf hw (lv_sub hl [1, 2, 3, 4, 0] rfl)
  exact hk1 _ _ _ hf hw (lv_sub hl [] rfl)
set_option maxHeartbeats 4000000 in
set_option maxRecDepth 100000 in
theorem w_X12_isToldElse_L3 {p0 : Program} {l : Launch} {e : Env} {s : State} {m : MethodId} {args : Array Value} {below : List Frame} {meth : Method} {c : Code} {Q : State → Prop} {D : va_G} {G : GG} {A : Nat → Prop} {H0 : Heap} {ad : Nat → Nat} {lay : List KK} {X : va_W} {ρ : Type} {r0 : ρ} {z1 : Int32} {z2 : Int32} {z3 : Int32} {h : PH} {K1 : Option ρ} {K2 : Option ρ} (hM : CallFix p0 m c cX12_isToldElse 5 s args lw_g RX12) (ho : okX12 lay) (hk1 : ∀ (H : Heap) (locs : List Loc) (ls : Array Slot), K1 = some r0 → Wd D G A H0 ad lay X h s H locs → lv_has ls 5 [] → W p0 l e (rmN 1 21) s m args below meth c H locs 0 0 Q (F0 m 77 ls [])) (hk2 : ∀ (H : Heap) (locs : List Loc) (ls : Array Slot), K2 = some r0 → Wd D G A H0 ad lay X h s H locs → lv_has ls 5 [] → W p0 l e (rmN 1 21) s m args below meth c H locs 0 0 Q (F0 m 85 ls [])) (n : Nat) (x4 : Int32) (hf : lq1 (c_X12_isToldElse_L3b z1 z2 z3 h K1 K2) n x4 = some r0) : ∀ (H : Heap) (locs : List Loc) (ls : Array Slot), Wd D G A H0 ad lay X h s H locs → lv_has ls 5 [(0, .ref (ad 0)), (1, .int z1), (2, .int z2), (3, .int z3), (4, .int x4)] → W p0 l e (rmN 1 21) s m args below meth c H locs 0 0 Q (F0 m 3 ls []) := by
  exact lq1_i (fun (x4 : Int32) => ∀ (H : Heap) (locs : List Loc) (ls : Array Slot), Wd D G A H0 ad lay X h s H locs → lv_has ls 5 [(0, .ref (ad 0)), (1, .int z1), (2, .int z2), (3, .int z3), (4, .int x4)] → W p0 l e (rmN 1 21) s m args below meth c H locs 0 0 Q (F0 m 3 ls [])) (fun REC x4 ih hf H locs ls hw hl => w_X12_isToldElse_L3b hM ho hk1 hk2 (fun x4 H locs ls hf hw hl => ih x4 hf H locs ls hw hl) hw hl hf) n x4 hf
def c_X12_isToldElse (a1 : Int32) (a2 : Int32) (a3 : Int32) (h : PH) : Option (Int32) :=
  nm (0 : Int32) fun v1 =>
  lq1 (c_X12_isToldElse_L3b a1 a2 a3 h
    (some 1)
    (some 0)) fu v1
set_option maxHeartbeats 4000000 in
set_option maxRecDepth 100000 in
theorem ct_X12_isToldElse (l : Launch) {lay : List KK} (ho : okX12 lay) (a1 : Int32) (a2 : Int32) (a3 : Int32) : CtI l yX12_isToldElse cX12_isToldElse 5 (some .boolean) 1 21 lay (rd (fun h => c_X12_isToldElse a1 a2 a3 h)) (fun ad => [.ref (ad 0), .int a1, .int a2, .int a3]) := by
  refine CtI.mk' RX12 (by decide) rfl (fun _ => Nat.le_of_ble_eq_true rfl) ?_
  intro p0 e s m args below meth c D G A H0 ad X h r0 H ls Q hM hw hl hf hR
  have hl : lv_has ls 5 [(0, .ref (ad 0)), (1, .int a1), (2, .int a2), (3, .int a3)] := hl
  obtain ⟨v0, hv0, hr0⟩ : ∃ v0, c_X12_isToldElse a1 a2 a3 h = some v0 ∧ r0 = (v0, h) := rd_some hf
  subst hr0
  have hf := hv0
  unfold c_X12_isToldElse at hf
  refine lv_iconst (v := 0) hM.1 hM.2.1 dX12_isToldElse_0 ic_0 ?_
  refine x_istore hM hf dX12_isToldElse_1 hl (by decide) (fun v1 => [(4, .int v1), (0, .ref (ad 0)), (1, .int a1), (2, .int a2), (3, .int a3)]) (fun _ => rfl) (fun v1 ls hf hl => ?_)
  refine w_X12_isToldElse_L3 hM ho (fun H locs ls hf hw hl => ?_) (fun H locs ls hf hw hl => ?_) fu _ hf _ _ _ hw (lv_sub hl [1, 2, 3, 4, 0] rfl)
  · refine lv_iconst (v := 1) hM.1 hM.2.1 dX12_isToldElse_77 ic_1 ?_
    exact hR _ _ _ _ _ _ _ (congrArg (fun z => (z, _)) (Option.some.inj hf)) rfl (nar_z (by decide)) hw dX12_isToldElse_78
  · refine lv_iconst (v := 0) hM.1 hM.2.1 dX12_isToldElse_85 ic_0 ?_
    exact hR _ _ _ _ _ _ _ (congrArg (fun z => (z, _)) (Option.some.inj hf)) rfl (nar_z (by decide)) hw dX12_isToldElse_86
theorem hd_X12_isToldElse : yX12_isToldElse.cls = RX12 ∧ yX12_isToldElse.cls ≠ "java/lang/invoke/MethodHandle" ∧ yX12_isToldElse.cls ≠ "java/lang/invoke/VarHandle" ∧ (parseMethodDescriptor yX12_isToldElse.desc).map (fun d => d.parameters.length) = some 3 := ⟨rfl, by decide, by decide, by decide +kernel⟩
theorem dX12_heardBy_0 : decode cX12_heardBy 0 = .ok (.iconst 0, 1) := by decide +kernel
theorem dX12_heardBy_1 : decode cX12_heardBy 1 = .ok (.istore 4, 2) := by decide +kernel
theorem dX12_heardBy_3 : decode cX12_heardBy 3 = .ok (.iconst 0, 1) := by decide +kernel
theorem dX12_heardBy_4 : decode cX12_heardBy 4 = .ok (.istore 5, 2) := by decide +kernel
theorem dX12_heardBy_6 : decode cX12_heardBy 6 = .ok (.iload 5, 2) := by decide +kernel
theorem dX12_heardBy_8 : decode cX12_heardBy 8 = .ok (.aload_n 0, 1) := by decide +kernel
theorem dX12_heardBy_9 : decode cX12_heardBy 9 = .ok (.getfield 49, 3) := by decide +kernel
theorem dX12_heardBy_12 : decode cX12_heardBy 12 = .ok (.aload_n 0, 1) := by decide +kernel
theorem dX12_heardBy_13 : decode cX12_heardBy 13 = .ok (.getfield 266, 3) := by decide +kernel
theorem dX12_heardBy_16 : decode cX12_heardBy 16 = .ok (.iaload, 1) := by decide +kernel
theorem dX12_heardBy_17 : decode cX12_heardBy 17 = .ok (.if_icmp .ge 45, 3) := by decide +kernel
theorem dX12_heardBy_20 : decode cX12_heardBy 20 = .ok (.aload_n 0, 1) := by decide +kernel
theorem dX12_heardBy_21 : decode cX12_heardBy 21 = .ok (.getfield 58, 3) := by decide +kernel
theorem dX12_heardBy_24 : decode cX12_heardBy 24 = .ok (.iconst 5, 1) := by decide +kernel
theorem dX12_heardBy_25 : decode cX12_heardBy 25 = .ok (.aload_n 0, 1) := by decide +kernel
theorem dX12_heardBy_26 : decode cX12_heardBy 26 = .ok (.getfield 266, 3) := by decide +kernel
theorem dX12_heardBy_29 : decode cX12_heardBy 29 = .ok (.imul, 1) := by decide +kernel
theorem dX12_heardBy_30 : decode cX12_heardBy 30 = .ok (.iload_n 1, 1) := by decide +kernel
theorem dX12_heardBy_31 : decode cX12_heardBy 31 = .ok (.iadd, 1) := by decide +kernel
theorem dX12_heardBy_32 : decode cX12_heardBy 32 = .ok (.iaload, 1) := by decide +kernel
theorem dX12_heardBy_33 : decode cX12_heardBy 33 = .ok (.iload 5, 2) := by decide +kernel
theorem dX12_heardBy_35 : decode cX12_heardBy 35 = .ok (.ishr, 1) := by decide +kernel
theorem dX12_heardBy_36 : decode cX12_heardBy 36 = .ok (.iconst 1, 1) := by decide +kernel
theorem dX12_heardBy_37 : decode cX12_heardBy 37 = .ok (.iand, 1) := by decide +kernel
theorem dX12_heardBy_38 : decode cX12_heardBy 38 = .ok (.iconst 1, 1) := by decide +kernel
theorem dX12_heardBy_39 : decode cX12_heardBy 39 = .ok (.if_icmp .ne 17, 3) := by decide +kernel
theorem dX12_heardBy_42 : decode cX12_heardBy 42 = .ok (.aload_n 0, 1) := by decide +kernel
theorem dX12_heardBy_43 : decode cX12_heardBy 43 = .ok (.iload 5, 2) := by decide +kernel
theorem dX12_heardBy_45 : decode cX12_heardBy 45 = .ok (.iload_n 2, 1) := by decide +kernel
theorem dX12_heardBy_46 : decode cX12_heardBy 46 = .ok (.iload_n 3, 1) := by decide +kernel
theorem dX12_heardBy_47 : decode cX12_heardBy 47 = .ok (.invokevirtual 379, 3) := by decide +kernel
theorem dX12_heardBy_50 : decode cX12_heardBy 50 = .ok (.ifCond .eq 6, 3) := by decide +kernel
theorem dX12_heardBy_53 : decode cX12_heardBy 53 = .ok (.iinc 4 1, 3) := by decide +kernel
theorem dX12_heardBy_56 : decode cX12_heardBy 56 = .ok (.iinc 5 1, 3) := by decide +kernel
theorem dX12_heardBy_59 : decode cX12_heardBy 59 = .ok (.goto (-53), 3) := by decide +kernel
theorem dX12_heardBy_62 : decode cX12_heardBy 62 = .ok (.iload 4, 2) := by decide +kernel
theorem dX12_heardBy_64 : decode cX12_heardBy 64 = .ok (.ireturn, 1) := by decide +kernel
def c_X12_heardBy_L6b {ρ : Type}  (z1 : Int32) (z2 : Int32) (z3 : Int32) (h : PH) (K1 : Int32 → Option ρ) (REC : Int32 → Int32 → Option ρ) (x4 : Int32) (x5 : Int32) : Option ρ :=
  gd (ixOK (h.1 0 18) 2) <|
  if (h.1 11 (h.1 0 18).toNatClampNeg) ≤ x5 then
    K1 x4
  else
    gd (ixOK ((5 * (h.1 0 18)) + z1) 10) <|
    if (((h.1 14 ((5 * (h.1 0 18)) + z1).toNatClampNeg) >>> (x5 &&& 31)) &&& 1) = 1 then
      (c_X12_isToldElse x5 z2 z3 h).bind fun r4 =>
      if r4 = 0 then
        nm (x5 + 1) fun v5 =>
        REC x4 v5
      else
        nm (x4 + 1) fun v6 =>
        nm (x5 + 1) fun v7 =>
        REC v6 v7
    else
      nm (x5 + 1) fun v3 =>
      REC x4 v3
set_option maxHeartbeats 4000000 in
set_option maxRecDepth 100000 in
theorem w_X12_heardBy_L6b {p0 : Program} {l : Launch} {e : Env} {s : State} {m : MethodId} {args : Array Value} {below : List Frame} {meth : Method} {c : Code} {Q : State → Prop} {D : va_G} {G : GG} {A : Nat → Prop} {H0 : Heap} {ad : Nat → Nat} {lay : List KK} {X : va_W} {ρ : Type} {r0 : ρ} {z1 : Int32} {z2 : Int32} {z3 : Int32} {x4 : Int32} {x5 : Int32} {h : PH} {H : Heap} {locs : List Loc} {ls : Array Slot} {K1 : Int32 → Option ρ} {REC : Int32 → Int32 → Option ρ} (hM : CallFix p0 m c cX12_heardBy 6 s args lw_g RX12) (ho : okX12 lay) (hk1 : ∀ (x4 : Int32), ∀ (H : Heap) (locs : List Loc) (ls : Array Slot), K1 x4 = some r0 → Wd D G A H0 ad lay X h s H locs → lv_has ls 6 [(4, .int x4)] → W p0 l e (rmN 2 45) s m args below meth c H locs 0 0 Q (F0 m 62 ls [])) (hrec : ∀ (x4 : Int32) (x5 : Int32), ∀ (H : Heap) (locs : List Loc) (ls : Array Slot), REC x4 x5 = some r0 → Wd D G A H0 ad lay X h s H locs → lv_has ls 6 [(0, .ref (ad 0)), (1, .int z1), (2, .int z2), (3, .int z3), (4, .int x4), (5, .int x5)] → W p0 l e (rmN 2 45) s m args below meth c H locs 0 0 Q (F0 m 6 ls [])) (hw : Wd D G A H0 ad lay X h s H locs) (hl : lv_has ls 6 [(0, .ref (ad 0)), (1, .int z1), (2, .int z2), (3, .int z3), (4, .int x4), (5, .int x5)]) (hf : c_X12_heardBy_L6b z1 z2 z3 h K1 REC x4 x5 = some r0) : W p0 l e (rmN 2 45) s m args below meth c H locs 0 0 Q (F0 m 6 ls []) := by
  unfold c_X12_heardBy_L6b at hf
  refine lv_iload hM.1 hM.2.1 dX12_heardBy_6 (lv_at hl 5 rfl) ?_
  refine lv_aload_n hM.1 hM.2.1 dX12_heardBy_8 rfl (lv_at hl 0 rfl) ?_
  refine gf_X12_men hM hw (okX12.o ho) fl_X12_49 dX12_heardBy_9 ?_
  refine lv_aload_n hM.1 hM.2.1 dX12_heardBy_12 rfl (lv_at hl 0 rfl) ?_
  refine gf_X12_live hM hw (okX12.o ho) fl_X12_266 dX12_heardBy_13 ?_
  refine x_iald hM hw (okX12.men ho) hf dX12_heardBy_16 (fun hf => ?_)
  refine x_ic_ge (tgt := 62) hM hf dX12_heardBy_17 (by decide) (fun hf => ?_) (fun hf => ?_)
  · exact hk1 _ _ _ _ hf hw (lv_sub hl [4] rfl)
  refine lv_aload_n hM.1 hM.2.1 dX12_heardBy_20 rfl (lv_at hl 0 rfl) ?_
  refine gf_X12_knowing hM hw (okX12.o ho) fl_X12_58 dX12_heardBy_21 ?_
  refine lv_iconst (v := 5) hM.1 hM.2.1 dX12_heardBy_24 ic_5 ?_
  refine lv_aload_n hM.1 hM.2.1 dX12_heardBy_25 rfl (lv_at hl 0 rfl) ?_
  refine gf_X12_live hM hw (okX12.o ho) fl_X12_266 dX12_heardBy_26 ?_
  refine lv_imul hM.1 hM.2.1 dX12_heardBy_29 ?_
  refine lv_iload_n hM.1 hM.2.1 dX12_heardBy_30 rfl (lv_at hl 1 rfl) ?_
  refine lv_iadd hM.1 hM.2.1 dX12_heardBy_31 ?_
  refine x_iald hM hw (okX12.knowing ho) hf dX12_heardBy_32 (fun hf => ?_)
  refine lv_iload hM.1 hM.2.1 dX12_heardBy_33 (lv_at hl 5 rfl) ?_
  refine lv_ishr hM.1 hM.2.1 dX12_heardBy_35 ?_
  refine lv_iconst (v := 1) hM.1 hM.2.1 dX12_heardBy_36 ic_1 ?_
  refine lv_iand hM.1 hM.2.1 dX12_heardBy_37 ?_
  refine lv_iconst (v := 1) hM.1 hM.2.1 dX12_heardBy_38 ic_1 ?_
  refine x_ic_ne (tgt := 56) hM hf dX12_heardBy_39 (by decide) (fun hf => ?_) (fun hf => ?_)
  · refine x_iinc (k := 5) (d := 1) hM hf dX12_heardBy_56 hl rfl (by decide) (by decide) (fun v3 => [(5, .int v3), (0, .ref (ad 0)), (1, .int z1), (2, .int z2), (3, .int z3), (4, .int x4)]) (fun _ => rfl) (fun v3 ls hf hl => ?_)
    refine lv_goto (tgt := 6) hM.1 hM.2.1 dX12_heardBy_59 (by decide) ?_
    exact hrec _ _ _ _ _ hf hw (lv_sub hl [1, 2, 3, 4, 5, 0] rfl)
  refine lv_aload_n hM.1 hM.2.1 dX12_heardBy_42 rfl (lv_at hl 0 rfl) ?_
  refine lv_iload hM.1 hM.2.1 dX12_heardBy_43 (lv_at hl 5 rfl) ?_
  refine lv_iload_n hM.1 hM.2.1 dX12_heardBy_45 rfl (lv_at hl 2 rfl) ?_
  refine lv_iload_n hM.1 hM.2.1 dX12_heardBy_46 rfl (lv_at hl 3 rfl) ?_
  refine x_callVIr (rest := []) hM hw (ct_X12_isToldElse l ho x5 z2 z3) [.int x5, .int z2, .int z3] (okX12.o ho) rfl rfl rfl (gi_V ml_X12_379 im_X12_isToldElse sl_X12_isToldElse in_X12 kc_X12_isToldElse) hd_X12_isToldElse rfl ⟨Nat.le_of_ble_eq_true rfl, Nat.le_of_ble_eq_true rfl⟩ rfl (Nat.le_of_ble_eq_true rfl) hl.1 hcs0 hf dX12_heardBy_47 (fun r4 H locs hf hw => ?_)
  refine x_if_eq (tgt := 56) hM hf dX12_heardBy_50 (by decide) (fun hf => ?_) (fun hf => ?_)
  · refine x_iinc (k := 5) (d := 1) hM hf dX12_heardBy_56 hl rfl (by decide) (by decide) (fun v5 => [(5, .int v5), (0, .ref (ad 0)), (1, .int z1), (2, .int z2), (3, .int z3), (4, .int x4)]) (fun _ => rfl) (fun v5 ls hf hl => ?_)
    refine lv_goto (tgt := 6) hM.1 hM.2.1 dX12_heardBy_59 (by decide) ?_
    exact hrec _ _ _ _ _ hf hw (lv_sub hl [1, 2, 3, 4, 5, 0] rfl)
  refine x_iinc (k := 4) (d := 1) hM hf dX12_heardBy_53 hl rfl (by decide) (by decide) (fun v6 => [(4, .int v6), (0, .ref (ad 0)), (1, .int z1), (2, .int z2), (3, .int z3), (5, .int x5)]) (fun _ => rfl) (fun v6 ls hf hl => ?_)
  refine x_iinc (k := 5) (d := 1) hM hf dX12_heardBy_56 hl rfl (by decide) (by decide) (fun v7 => [(5, .int v7), (4, .int v6), (0, .ref (ad 0)), (1, .int z1), (2, .int z2), (3, .int z3)]) (fun _ => rfl) (fun v7 ls hf hl => ?_)
  refine lv_goto (tgt := 6) hM.1 hM.2.1 dX12_heardBy_59 (by decide) ?_
  exact hrec _ _ _ _ _ hf hw (lv_sub hl [2, 3, 4, 5, 1, 0] rfl)
set_option maxHeartbeats 4000000 in
set_option maxRecDepth 100000 in
theorem w_X12_heardBy_L6 {p0 : Program} {l : Launch} {e : Env} {s : State} {m : MethodId} {args : Array Value} {below : List Frame} {meth : Method} {c : Code} {Q : State → Prop} {D : va_G} {G : GG} {A : Nat → Prop} {H0 : Heap} {ad : Nat → Nat} {lay : List KK} {X : va_W} {ρ : Type} {r0 : ρ} {z1 : Int32} {z2 : Int32} {z3 : Int32} {h : PH} {K1 : Int32 → Option ρ} (hM : CallFix p0 m c cX12_heardBy 6 s args lw_g RX12) (ho : okX12 lay) (hk1 : ∀ (x4 : Int32), ∀ (H : Heap) (locs : List Loc) (ls : Array Slot), K1 x4 = some r0 → Wd D G A H0 ad lay X h s H locs → lv_has ls 6 [(4, .int x4)] → W p0 l e (rmN 2 45) s m args below meth c H locs 0 0 Q (F0 m 62 ls [])) (n : Nat) (x4 : Int32) (x5 : Int32) (hf : lq2 (c_X12_heardBy_L6b z1 z2 z3 h K1) n x4 x5 = some r0) : ∀ (H : Heap) (locs : List Loc) (ls : Array Slot), Wd D G A H0 ad lay X h s H locs → lv_has ls 6 [(0, .ref (ad 0)), (1, .int z1), (2, .int z2), (3, .int z3), (4, .int x4), (5, .int x5)] → W p0 l e (rmN 2 45) s m args below meth c H locs 0 0 Q (F0 m 6 ls []) := by
  exact lq2_i (fun (x4 : Int32) (x5 : Int32) => ∀ (H : Heap) (locs : List Loc) (ls : Array Slot), Wd D G A H0 ad lay X h s H locs → lv_has ls 6 [(0, .ref (ad 0)), (1, .int z1), (2, .int z2), (3, .int z3), (4, .int x4), (5, .int x5)] → W p0 l e (rmN 2 45) s m args below meth c H locs 0 0 Q (F0 m 6 ls [])) (fun REC x4 x5 ih hf H locs ls hw hl => w_X12_heardBy_L6b hM ho hk1 (fun x4 x5 H locs ls hf hw hl => ih x4 x5 hf H locs ls hw hl) hw hl hf) n x4 x5 hf
def c_X12_heardBy (a1 : Int32) (a2 : Int32) (a3 : Int32) (h : PH) : Option (Int32) :=
  nm (0 : Int32) fun v1 =>
  nm (0 : Int32) fun v2 =>
  lq2 (c_X12_heardBy_L6b a1 a2 a3 h
    (fun w8 =>
      some w8)) fu v1 v2
set_option maxHeartbeats 4000000 in
set_option maxRecDepth 100000 in
theorem ct_X12_heardBy (l : Launch) {lay : List KK} (ho : okX12 lay) (a1 : Int32) (a2 : Int32) (a3 : Int32) : CtI l yX12_heardBy cX12_heardBy 6 (some .int) 2 45 lay (rd (fun h => c_X12_heardBy a1 a2 a3 h)) (fun ad => [.ref (ad 0), .int a1, .int a2, .int a3]) := by
  refine CtI.mk' RX12 (by decide) rfl (fun _ => Nat.le_of_ble_eq_true rfl) ?_
  intro p0 e s m args below meth c D G A H0 ad X h r0 H ls Q hM hw hl hf hR
  have hl : lv_has ls 6 [(0, .ref (ad 0)), (1, .int a1), (2, .int a2), (3, .int a3)] := hl
  obtain ⟨v0, hv0, hr0⟩ : ∃ v0, c_X12_heardBy a1 a2 a3 h = some v0 ∧ r0 = (v0, h) := rd_some hf
  subst hr0
  have hf := hv0
  unfold c_X12_heardBy at hf
  refine lv_iconst (v := 0) hM.1 hM.2.1 dX12_heardBy_0 ic_0 ?_
  refine x_istore hM hf dX12_heardBy_1 hl (by decide) (fun v1 => [(4, .int v1), (0, .ref (ad 0)), (1, .int a1), (2, .int a2), (3, .int a3)]) (fun _ => rfl) (fun v1 ls hf hl => ?_)
  refine lv_iconst (v := 0) hM.1 hM.2.1 dX12_heardBy_3 ic_0 ?_
  refine x_istore hM hf dX12_heardBy_4 hl (by decide) (fun v2 => [(5, .int v2), (4, .int v1), (0, .ref (ad 0)), (1, .int a1), (2, .int a2), (3, .int a3)]) (fun _ => rfl) (fun v2 ls hf hl => ?_)
  refine w_X12_heardBy_L6 hM ho (fun w8 H locs ls hf hw hl => ?_) fu _ _ hf _ _ _ hw (lv_sub hl [2, 3, 4, 5, 1, 0] rfl)
  refine lv_iload hM.1 hM.2.1 dX12_heardBy_62 (lv_at hl 0 rfl) ?_
  exact hR _ _ _ _ _ _ _ (congrArg (fun z => (z, _)) (Option.some.inj hf)) rfl rfl hw dX12_heardBy_64
theorem hd_X12_heardBy : yX12_heardBy.cls = RX12 ∧ yX12_heardBy.cls ≠ "java/lang/invoke/MethodHandle" ∧ yX12_heardBy.cls ≠ "java/lang/invoke/VarHandle" ∧ (parseMethodDescriptor yX12_heardBy.desc).map (fun d => d.parameters.length) = some 3 := ⟨rfl, by decide, by decide, by decide +kernel⟩
theorem dX12_looks_0 : decode cX12_looks 0 = .ok (.aload_n 0, 1) := by decide +kernel
theorem dX12_looks_1 : decode cX12_looks 1 = .ok (.iload_n 1, 1) := by decide +kernel
theorem dX12_looks_2 : decode cX12_looks 2 = .ok (.iload_n 2, 1) := by decide +kernel
theorem dX12_looks_3 : decode cX12_looks 3 = .ok (.invokevirtual 382, 3) := by decide +kernel
theorem dX12_looks_6 : decode cX12_looks 6 = .ok (.istore 5, 2) := by decide +kernel
theorem dX12_looks_8 : decode cX12_looks 8 = .ok (.aload_n 0, 1) := by decide +kernel
theorem dX12_looks_9 : decode cX12_looks 9 = .ok (.getfield 140, 3) := by decide +kernel
theorem dX12_looks_12 : decode cX12_looks 12 = .ok (.iconst 0, 1) := by decide +kernel
theorem dX12_looks_13 : decode cX12_looks 13 = .ok (.aload_n 0, 1) := by decide +kernel
theorem dX12_looks_14 : decode cX12_looks 14 = .ok (.getfield 149, 3) := by decide +kernel
theorem dX12_looks_17 : decode cX12_looks 17 = .ok (.iconst 0, 1) := by decide +kernel
theorem dX12_looks_18 : decode cX12_looks 18 = .ok (.iaload, 1) := by decide +kernel
theorem dX12_looks_19 : decode cX12_looks 19 = .ok (.iastore, 1) := by decide +kernel
theorem dX12_looks_20 : decode cX12_looks 20 = .ok (.aload_n 0, 1) := by decide +kernel
theorem dX12_looks_21 : decode cX12_looks 21 = .ok (.getfield 140, 3) := by decide +kernel
theorem dX12_looks_24 : decode cX12_looks 24 = .ok (.iconst 1, 1) := by decide +kernel
theorem dX12_looks_25 : decode cX12_looks 25 = .ok (.aload_n 0, 1) := by decide +kernel
theorem dX12_looks_26 : decode cX12_looks 26 = .ok (.getfield 73, 3) := by decide +kernel
theorem dX12_looks_29 : decode cX12_looks 29 = .ok (.bipush 7, 2) := by decide +kernel
theorem dX12_looks_31 : decode cX12_looks 31 = .ok (.aload_n 0, 1) := by decide +kernel
theorem dX12_looks_32 : decode cX12_looks 32 = .ok (.getfield 266, 3) := by decide +kernel
theorem dX12_looks_35 : decode cX12_looks 35 = .ok (.imul, 1) := by decide +kernel
theorem dX12_looks_36 : decode cX12_looks 36 = .ok (.iload_n 1, 1) := by decide +kernel
theorem dX12_looks_37 : decode cX12_looks 37 = .ok (.iadd, 1) := by decide +kernel
theorem dX12_looks_38 : decode cX12_looks 38 = .ok (.iaload, 1) := by decide +kernel
theorem dX12_looks_39 : decode cX12_looks 39 = .ok (.iastore, 1) := by decide +kernel
theorem dX12_looks_40 : decode cX12_looks 40 = .ok (.aload_n 0, 1) := by decide +kernel
theorem dX12_looks_41 : decode cX12_looks 41 = .ok (.getfield 140, 3) := by decide +kernel
theorem dX12_looks_44 : decode cX12_looks 44 = .ok (.iconst 2, 1) := by decide +kernel
theorem dX12_looks_45 : decode cX12_looks 45 = .ok (.aload_n 0, 1) := by decide +kernel
theorem dX12_looks_46 : decode cX12_looks 46 = .ok (.iload_n 1, 1) := by decide +kernel
theorem dX12_looks_47 : decode cX12_looks 47 = .ok (.iload_n 2, 1) := by decide +kernel
theorem dX12_looks_48 : decode cX12_looks 48 = .ok (.invokevirtual 385, 3) := by decide +kernel
theorem dX12_looks_51 : decode cX12_looks 51 = .ok (.iastore, 1) := by decide +kernel
theorem dX12_looks_52 : decode cX12_looks 52 = .ok (.aload_n 0, 1) := by decide +kernel
theorem dX12_looks_53 : decode cX12_looks 53 = .ok (.getfield 140, 3) := by decide +kernel
theorem dX12_looks_56 : decode cX12_looks 56 = .ok (.iconst 3, 1) := by decide +kernel
theorem dX12_looks_57 : decode cX12_looks 57 = .ok (.aload_n 0, 1) := by decide +kernel
theorem dX12_looks_58 : decode cX12_looks 58 = .ok (.getfield 149, 3) := by decide +kernel
theorem dX12_looks_61 : decode cX12_looks 61 = .ok (.bipush 31, 2) := by decide +kernel
theorem dX12_looks_63 : decode cX12_looks 63 = .ok (.iload_n 2, 1) := by decide +kernel
theorem dX12_looks_64 : decode cX12_looks 64 = .ok (.iadd, 1) := by decide +kernel
theorem dX12_looks_65 : decode cX12_looks 65 = .ok (.iaload, 1) := by decide +kernel
theorem dX12_looks_66 : decode cX12_looks 66 = .ok (.iastore, 1) := by decide +kernel
theorem dX12_looks_67 : decode cX12_looks 67 = .ok (.aload_n 0, 1) := by decide +kernel
theorem dX12_looks_68 : decode cX12_looks 68 = .ok (.getfield 140, 3) := by decide +kernel
theorem dX12_looks_71 : decode cX12_looks 71 = .ok (.iconst 4, 1) := by decide +kernel
theorem dX12_looks_72 : decode cX12_looks 72 = .ok (.aload_n 0, 1) := by decide +kernel
theorem dX12_looks_73 : decode cX12_looks 73 = .ok (.getfield 70, 3) := by decide +kernel
theorem dX12_looks_76 : decode cX12_looks 76 = .ok (.bipush 7, 2) := by decide +kernel
theorem dX12_looks_78 : decode cX12_looks 78 = .ok (.aload_n 0, 1) := by decide +kernel
theorem dX12_looks_79 : decode cX12_looks 79 = .ok (.getfield 266, 3) := by decide +kernel
theorem dX12_looks_82 : decode cX12_looks 82 = .ok (.imul, 1) := by decide +kernel
theorem dX12_looks_83 : decode cX12_looks 83 = .ok (.iload_n 1, 1) := by decide +kernel
theorem dX12_looks_84 : decode cX12_looks 84 = .ok (.iadd, 1) := by decide +kernel
theorem dX12_looks_85 : decode cX12_looks 85 = .ok (.iaload, 1) := by decide +kernel
theorem dX12_looks_86 : decode cX12_looks 86 = .ok (.iastore, 1) := by decide +kernel
theorem dX12_looks_87 : decode cX12_looks 87 = .ok (.aload_n 0, 1) := by decide +kernel
theorem dX12_looks_88 : decode cX12_looks 88 = .ok (.getfield 140, 3) := by decide +kernel
theorem dX12_looks_91 : decode cX12_looks 91 = .ok (.iconst 5, 1) := by decide +kernel
theorem dX12_looks_92 : decode cX12_looks 92 = .ok (.iload 5, 2) := by decide +kernel
theorem dX12_looks_94 : decode cX12_looks 94 = .ok (.ifCond .ge 8, 3) := by decide +kernel
theorem dX12_looks_97 : decode cX12_looks 97 = .ok (.bipush 99, 2) := by decide +kernel
theorem dX12_looks_99 : decode cX12_looks 99 = .ok (.goto 12, 3) := by decide +kernel
theorem dX12_looks_102 : decode cX12_looks 102 = .ok (.aload_n 0, 1) := by decide +kernel
theorem dX12_looks_103 : decode cX12_looks 103 = .ok (.getfield 149, 3) := by decide +kernel
theorem dX12_looks_106 : decode cX12_looks 106 = .ok (.iconst 0, 1) := by decide +kernel
theorem dX12_looks_107 : decode cX12_looks 107 = .ok (.iaload, 1) := by decide +kernel
theorem dX12_looks_108 : decode cX12_looks 108 = .ok (.iload 5, 2) := by decide +kernel
theorem dX12_looks_110 : decode cX12_looks 110 = .ok (.isub, 1) := by decide +kernel
theorem dX12_looks_111 : decode cX12_looks 111 = .ok (.iastore, 1) := by decide +kernel
theorem dX12_looks_112 : decode cX12_looks 112 = .ok (.aload_n 0, 1) := by decide +kernel
theorem dX12_looks_113 : decode cX12_looks 113 = .ok (.getfield 140, 3) := by decide +kernel
theorem dX12_looks_116 : decode cX12_looks 116 = .ok (.bipush 6, 2) := by decide +kernel
theorem dX12_looks_118 : decode cX12_looks 118 = .ok (.aload_n 0, 1) := by decide +kernel
theorem dX12_looks_119 : decode cX12_looks 119 = .ok (.aload_n 0, 1) := by decide +kernel
theorem dX12_looks_120 : decode cX12_looks 120 = .ok (.getfield 149, 3) := by decide +kernel
theorem dX12_looks_123 : decode cX12_looks 123 = .ok (.iconst 0, 1) := by decide +kernel
theorem dX12_looks_124 : decode cX12_looks 124 = .ok (.iaload, 1) := by decide +kernel
theorem dX12_looks_125 : decode cX12_looks 125 = .ok (.invokevirtual 388, 3) := by decide +kernel
theorem dX12_looks_128 : decode cX12_looks 128 = .ok (.ifCond .eq 7, 3) := by decide +kernel
theorem dX12_looks_131 : decode cX12_looks 131 = .ok (.iconst 1, 1) := by decide +kernel
theorem dX12_looks_132 : decode cX12_looks 132 = .ok (.goto 4, 3) := by decide +kernel
theorem dX12_looks_135 : decode cX12_looks 135 = .ok (.iconst 0, 1) := by decide +kernel
theorem dX12_looks_136 : decode cX12_looks 136 = .ok (.iastore, 1) := by decide +kernel
theorem dX12_looks_137 : decode cX12_looks 137 = .ok (.aload_n 0, 1) := by decide +kernel
theorem dX12_looks_138 : decode cX12_looks 138 = .ok (.getfield 140, 3) := by decide +kernel
theorem dX12_looks_141 : decode cX12_looks 141 = .ok (.bipush 7, 2) := by decide +kernel
theorem dX12_looks_143 : decode cX12_looks 143 = .ok (.iload_n 3, 1) := by decide +kernel
theorem dX12_looks_144 : decode cX12_looks 144 = .ok (.iastore, 1) := by decide +kernel
theorem dX12_looks_145 : decode cX12_looks 145 = .ok (.aload_n 0, 1) := by decide +kernel
theorem dX12_looks_146 : decode cX12_looks 146 = .ok (.getfield 140, 3) := by decide +kernel
theorem dX12_looks_149 : decode cX12_looks 149 = .ok (.bipush 8, 2) := by decide +kernel
theorem dX12_looks_151 : decode cX12_looks 151 = .ok (.iload 4, 2) := by decide +kernel
theorem dX12_looks_153 : decode cX12_looks 153 = .ok (.iastore, 1) := by decide +kernel
theorem dX12_looks_154 : decode cX12_looks 154 = .ok (.return_, 1) := by decide +kernel
def c_X12_looks_j111  (x3 : Int32) (x4 : Int32) (y0 : Int32) (y1 : Int32) (y2 : Nat) (h : PH) : Option (PH) :=
  gd (ixOK y1 9) <| nm (setI h y2 y1.toNatClampNeg y0) fun h9 =>
  (c_X12_isWet (h9.1 44 0) h9).bind fun r10 =>
  if r10 = 0 then
    nm (setI h9 41 6 0) fun h11 =>
    nm (setI h11 41 7 x3) fun h12 =>
    nm (setI h12 41 8 x4) fun h13 =>
    some h13
  else
    nm (setI h9 41 6 1) fun h14 =>
    nm (setI h14 41 7 x3) fun h15 =>
    nm (setI h15 41 8 x4) fun h16 =>
    some h16
set_option maxHeartbeats 4000000 in
set_option maxRecDepth 100000 in
theorem w_X12_looks_j111 {p0 : Program} {l : Launch} {e : Env} {s : State} {m : MethodId} {args : Array Value} {below : List Frame} {meth : Method} {c : Code} {Q : State → Prop} {D : va_G} {G : GG} {A : Nat → Prop} {H0 : Heap} {ad : Nat → Nat} {lay : List KK} {X : va_W} {r0 : PH} {x3 : Int32} {x4 : Int32} {y0 : Int32} {y1 : Int32} {y2 : Nat} {h : PH} {H : Heap} {locs : List Loc} {ls : Array Slot} (hM : CallFix p0 m c cX12_looks 6 s args lw_g RX12) (ho : okX12 lay) (hR : RtV p0 l e (rmN 3 65) s m args below meth c cX12_looks D G A H0 ad lay X (none) r0 Q 0 0) (oky2 : lay[y2]? = some (kI 9)) (hw : Wd D G A H0 ad lay X h s H locs) (hl : lv_has ls 6 [(0, .ref (ad 0)), (3, .int x3), (4, .int x4)]) (hf : c_X12_looks_j111 x3 x4 y0 y1 y2 h = some r0) : W p0 l e (rmN 3 65) s m args below meth c H locs 0 0 Q (F0 m 111 ls [.int y0, .int y1, .ref (ad y2)]) := by
  unfold c_X12_looks_j111 at hf
  refine x_iast hM hw oky2 hf dX12_looks_111 (fun h9 H locs hf hw => ?_)
  refine lv_aload_n hM.1 hM.2.1 dX12_looks_112 rfl (lv_at hl 0 rfl) ?_
  refine gf_X12_variables hM hw (okX12.o ho) fl_X12_140 dX12_looks_113 ?_
  refine lv_bipush (v := 6) hM.1 hM.2.1 dX12_looks_116 (by decide) ?_
  refine lv_aload_n hM.1 hM.2.1 dX12_looks_118 rfl (lv_at hl 0 rfl) ?_
  refine lv_aload_n hM.1 hM.2.1 dX12_looks_119 rfl (lv_at hl 0 rfl) ?_
  refine gf_X12_row hM hw (okX12.o ho) fl_X12_149 dX12_looks_120 ?_
  refine lv_iconst (v := 0) hM.1 hM.2.1 dX12_looks_123 ic_0 ?_
  refine x_ialdK hM hw (okX12.row ho) 0 (by decide) (by decide) dX12_looks_124 ?_
  refine x_callVIr (rest := [.int 6, .ref (ad 41)]) hM hw (ct_X12_isWet l ho (h9.1 44 0)) [.int (h9.1 44 0)] (okX12.o ho) rfl rfl rfl (gi_V ml_X12_388 im_X12_isWet sl_X12_isWet in_X12 kc_X12_isWet) hd_X12_isWet rfl ⟨Nat.le_of_ble_eq_true rfl, Nat.le_of_ble_eq_true rfl⟩ rfl (Nat.le_of_ble_eq_true rfl) hl.1 hcs0 hf dX12_looks_125 (fun r10 H locs hf hw => ?_)
  refine x_if_eq (tgt := 135) hM hf dX12_looks_128 (by decide) (fun hf => ?_) (fun hf => ?_)
  · refine lv_iconst (v := 0) hM.1 hM.2.1 dX12_looks_135 ic_0 ?_
    refine x_iastK hM hw (okX12.variables ho) 6 (by decide) (by decide) hf dX12_looks_136 (fun h11 H locs hf hw => ?_)
    refine lv_aload_n hM.1 hM.2.1 dX12_looks_137 rfl (lv_at hl 0 rfl) ?_
    refine gf_X12_variables hM hw (okX12.o ho) fl_X12_140 dX12_looks_138 ?_
    refine lv_bipush (v := 7) hM.1 hM.2.1 dX12_looks_141 (by decide) ?_
    refine lv_iload_n hM.1 hM.2.1 dX12_looks_143 rfl (lv_at hl 1 rfl) ?_
    refine x_iastK hM hw (okX12.variables ho) 7 (by decide) (by decide) hf dX12_looks_144 (fun h12 H locs hf hw => ?_)
    refine lv_aload_n hM.1 hM.2.1 dX12_looks_145 rfl (lv_at hl 0 rfl) ?_
    refine gf_X12_variables hM hw (okX12.o ho) fl_X12_140 dX12_looks_146 ?_
    refine lv_bipush (v := 8) hM.1 hM.2.1 dX12_looks_149 (by decide) ?_
    refine lv_iload hM.1 hM.2.1 dX12_looks_151 (lv_at hl 2 rfl) ?_
    refine x_iastK hM hw (okX12.variables ho) 8 (by decide) (by decide) hf dX12_looks_153 (fun h13 H locs hf hw => ?_)
    exact hR _ _ _ _ _ (Option.some.inj hf) rfl hw dX12_looks_154
  refine lv_iconst (v := 1) hM.1 hM.2.1 dX12_looks_131 ic_1 ?_
  refine lv_goto (tgt := 136) hM.1 hM.2.1 dX12_looks_132 (by decide) ?_
  refine x_iastK hM hw (okX12.variables ho) 6 (by decide) (by decide) hf dX12_looks_136 (fun h14 H locs hf hw => ?_)
  refine lv_aload_n hM.1 hM.2.1 dX12_looks_137 rfl (lv_at hl 0 rfl) ?_
  refine gf_X12_variables hM hw (okX12.o ho) fl_X12_140 dX12_looks_138 ?_
  refine lv_bipush (v := 7) hM.1 hM.2.1 dX12_looks_141 (by decide) ?_
  refine lv_iload_n hM.1 hM.2.1 dX12_looks_143 rfl (lv_at hl 1 rfl) ?_
  refine x_iastK hM hw (okX12.variables ho) 7 (by decide) (by decide) hf dX12_looks_144 (fun h15 H locs hf hw => ?_)
  refine lv_aload_n hM.1 hM.2.1 dX12_looks_145 rfl (lv_at hl 0 rfl) ?_
  refine gf_X12_variables hM hw (okX12.o ho) fl_X12_140 dX12_looks_146 ?_
  refine lv_bipush (v := 8) hM.1 hM.2.1 dX12_looks_149 (by decide) ?_
  refine lv_iload hM.1 hM.2.1 dX12_looks_151 (lv_at hl 2 rfl) ?_
  refine x_iastK hM hw (okX12.variables ho) 8 (by decide) (by decide) hf dX12_looks_153 (fun h16 H locs hf hw => ?_)
  exact hR _ _ _ _ _ (Option.some.inj hf) rfl hw dX12_looks_154
def c_X12_looks (a1 : Int32) (a2 : Int32) (a3 : Int32) (a4 : Int32) (h : PH) : Option (PH) :=
  (c_X12_toldLast a1 a2 h).bind fun r1 =>
  nm r1 fun v2 =>
  nm (setI h 41 0 (h.1 44 0)) fun h3 =>
  gd (ixOK ((7 * (h3.1 0 18)) + a1) 14) <|
  nm (setI h3 41 1 (h3.1 19 ((7 * (h3.1 0 18)) + a1).toNatClampNeg)) fun h4 =>
  (c_X12_toldTimes a1 a2 h4).bind fun r5 =>
  nm (setI h4 41 2 r5) fun h6 =>
  gd (ixOK (31 + a2) 40) <|
  nm (setI h6 41 3 (h6.1 44 (31 + a2).toNatClampNeg)) fun h7 =>
  gd (ixOK ((7 * (h7.1 0 18)) + a1) 14) <|
  nm (setI h7 41 4 (h7.1 18 ((7 * (h7.1 0 18)) + a1).toNatClampNeg)) fun h8 =>
  if 0 ≤ v2 then
    c_X12_looks_j111 a3 a4 ((h8.1 44 0) - v2) 5 41 h8
  else
    c_X12_looks_j111 a3 a4 99 5 41 h8
set_option maxHeartbeats 4000000 in
set_option maxRecDepth 100000 in
theorem ct_X12_looks (l : Launch) {lay : List KK} (ho : okX12 lay) (a1 : Int32) (a2 : Int32) (a3 : Int32) (a4 : Int32) : CtV l yX12_looks cX12_looks 6 (none) 3 65 lay (fun h => c_X12_looks a1 a2 a3 a4 h) (fun ad => [.ref (ad 0), .int a1, .int a2, .int a3, .int a4]) := by
  refine CtV.mk' RX12 (by decide) rfl (fun _ => Nat.le_of_ble_eq_true rfl) ?_
  intro p0 e s m args below meth c D G A H0 ad X h r0 H ls Q hM hw hl hf hR
  have hl : lv_has ls 6 [(0, .ref (ad 0)), (1, .int a1), (2, .int a2), (3, .int a3), (4, .int a4)] := hl
  unfold c_X12_looks at hf
  refine lv_aload_n hM.1 hM.2.1 dX12_looks_0 rfl (lv_at hl 0 rfl) ?_
  refine lv_iload_n hM.1 hM.2.1 dX12_looks_1 rfl (lv_at hl 1 rfl) ?_
  refine lv_iload_n hM.1 hM.2.1 dX12_looks_2 rfl (lv_at hl 2 rfl) ?_
  refine x_callVIr (rest := []) hM hw (ct_X12_toldLast l ho a1 a2) [.int a1, .int a2] (okX12.o ho) rfl rfl rfl (gi_V ml_X12_382 im_X12_toldLast sl_X12_toldLast in_X12 kc_X12_toldLast) hd_X12_toldLast rfl ⟨Nat.le_of_ble_eq_true rfl, Nat.le_of_ble_eq_true rfl⟩ rfl (Nat.le_of_ble_eq_true rfl) hl.1 hcs0 hf dX12_looks_3 (fun r1 H locs hf hw => ?_)
  refine x_istore hM hf dX12_looks_6 hl (by decide) (fun v2 => [(5, .int v2), (0, .ref (ad 0)), (1, .int a1), (2, .int a2), (3, .int a3), (4, .int a4)]) (fun _ => rfl) (fun v2 ls hf hl => ?_)
  refine lv_aload_n hM.1 hM.2.1 dX12_looks_8 rfl (lv_at hl 1 rfl) ?_
  refine gf_X12_variables hM hw (okX12.o ho) fl_X12_140 dX12_looks_9 ?_
  refine lv_iconst (v := 0) hM.1 hM.2.1 dX12_looks_12 ic_0 ?_
  refine lv_aload_n hM.1 hM.2.1 dX12_looks_13 rfl (lv_at hl 1 rfl) ?_
  refine gf_X12_row hM hw (okX12.o ho) fl_X12_149 dX12_looks_14 ?_
  refine lv_iconst (v := 0) hM.1 hM.2.1 dX12_looks_17 ic_0 ?_
  refine x_ialdK hM hw (okX12.row ho) 0 (by decide) (by decide) dX12_looks_18 ?_
  refine x_iastK hM hw (okX12.variables ho) 0 (by decide) (by decide) hf dX12_looks_19 (fun h3 H locs hf hw => ?_)
  refine lv_aload_n hM.1 hM.2.1 dX12_looks_20 rfl (lv_at hl 1 rfl) ?_
  refine gf_X12_variables hM hw (okX12.o ho) fl_X12_140 dX12_looks_21 ?_
  refine lv_iconst (v := 1) hM.1 hM.2.1 dX12_looks_24 ic_1 ?_
  refine lv_aload_n hM.1 hM.2.1 dX12_looks_25 rfl (lv_at hl 1 rfl) ?_
  refine gf_X12_strongOf hM hw (okX12.o ho) fl_X12_73 dX12_looks_26 ?_
  refine lv_bipush (v := 7) hM.1 hM.2.1 dX12_looks_29 (by decide) ?_
  refine lv_aload_n hM.1 hM.2.1 dX12_looks_31 rfl (lv_at hl 1 rfl) ?_
  refine gf_X12_live hM hw (okX12.o ho) fl_X12_266 dX12_looks_32 ?_
  refine lv_imul hM.1 hM.2.1 dX12_looks_35 ?_
  refine lv_iload_n hM.1 hM.2.1 dX12_looks_36 rfl (lv_at hl 2 rfl) ?_
  refine lv_iadd hM.1 hM.2.1 dX12_looks_37 ?_
  refine x_iald hM hw (okX12.strongOf ho) hf dX12_looks_38 (fun hf => ?_)
  refine x_iastK hM hw (okX12.variables ho) 1 (by decide) (by decide) hf dX12_looks_39 (fun h4 H locs hf hw => ?_)
  refine lv_aload_n hM.1 hM.2.1 dX12_looks_40 rfl (lv_at hl 1 rfl) ?_
  refine gf_X12_variables hM hw (okX12.o ho) fl_X12_140 dX12_looks_41 ?_
  refine lv_iconst (v := 2) hM.1 hM.2.1 dX12_looks_44 ic_2 ?_
  refine lv_aload_n hM.1 hM.2.1 dX12_looks_45 rfl (lv_at hl 1 rfl) ?_
  refine lv_iload_n hM.1 hM.2.1 dX12_looks_46 rfl (lv_at hl 2 rfl) ?_
  refine lv_iload_n hM.1 hM.2.1 dX12_looks_47 rfl (lv_at hl 3 rfl) ?_
  refine x_callVIr (rest := [.int 2, .ref (ad 41)]) hM hw (ct_X12_toldTimes l ho a1 a2) [.int a1, .int a2] (okX12.o ho) rfl rfl rfl (gi_V ml_X12_385 im_X12_toldTimes sl_X12_toldTimes in_X12 kc_X12_toldTimes) hd_X12_toldTimes rfl ⟨Nat.le_of_ble_eq_true rfl, Nat.le_of_ble_eq_true rfl⟩ rfl (Nat.le_of_ble_eq_true rfl) hl.1 hcs0 hf dX12_looks_48 (fun r5 H locs hf hw => ?_)
  refine x_iastK hM hw (okX12.variables ho) 2 (by decide) (by decide) hf dX12_looks_51 (fun h6 H locs hf hw => ?_)
  refine lv_aload_n hM.1 hM.2.1 dX12_looks_52 rfl (lv_at hl 1 rfl) ?_
  refine gf_X12_variables hM hw (okX12.o ho) fl_X12_140 dX12_looks_53 ?_
  refine lv_iconst (v := 3) hM.1 hM.2.1 dX12_looks_56 ic_3 ?_
  refine lv_aload_n hM.1 hM.2.1 dX12_looks_57 rfl (lv_at hl 1 rfl) ?_
  refine gf_X12_row hM hw (okX12.o ho) fl_X12_149 dX12_looks_58 ?_
  refine lv_bipush (v := 31) hM.1 hM.2.1 dX12_looks_61 (by decide) ?_
  refine lv_iload_n hM.1 hM.2.1 dX12_looks_63 rfl (lv_at hl 3 rfl) ?_
  refine lv_iadd hM.1 hM.2.1 dX12_looks_64 ?_
  refine x_iald hM hw (okX12.row ho) hf dX12_looks_65 (fun hf => ?_)
  refine x_iastK hM hw (okX12.variables ho) 3 (by decide) (by decide) hf dX12_looks_66 (fun h7 H locs hf hw => ?_)
  refine lv_aload_n hM.1 hM.2.1 dX12_looks_67 rfl (lv_at hl 1 rfl) ?_
  refine gf_X12_variables hM hw (okX12.o ho) fl_X12_140 dX12_looks_68 ?_
  refine lv_iconst (v := 4) hM.1 hM.2.1 dX12_looks_71 ic_4 ?_
  refine lv_aload_n hM.1 hM.2.1 dX12_looks_72 rfl (lv_at hl 1 rfl) ?_
  refine gf_X12_kindOf hM hw (okX12.o ho) fl_X12_70 dX12_looks_73 ?_
  refine lv_bipush (v := 7) hM.1 hM.2.1 dX12_looks_76 (by decide) ?_
  refine lv_aload_n hM.1 hM.2.1 dX12_looks_78 rfl (lv_at hl 1 rfl) ?_
  refine gf_X12_live hM hw (okX12.o ho) fl_X12_266 dX12_looks_79 ?_
  refine lv_imul hM.1 hM.2.1 dX12_looks_82 ?_
  refine lv_iload_n hM.1 hM.2.1 dX12_looks_83 rfl (lv_at hl 2 rfl) ?_
  refine lv_iadd hM.1 hM.2.1 dX12_looks_84 ?_
  refine x_iald hM hw (okX12.kindOf ho) hf dX12_looks_85 (fun hf => ?_)
  refine x_iastK hM hw (okX12.variables ho) 4 (by decide) (by decide) hf dX12_looks_86 (fun h8 H locs hf hw => ?_)
  refine lv_aload_n hM.1 hM.2.1 dX12_looks_87 rfl (lv_at hl 1 rfl) ?_
  refine gf_X12_variables hM hw (okX12.o ho) fl_X12_140 dX12_looks_88 ?_
  refine lv_iconst (v := 5) hM.1 hM.2.1 dX12_looks_91 ic_5 ?_
  refine lv_iload hM.1 hM.2.1 dX12_looks_92 (lv_at hl 0 rfl) ?_
  refine x_if_ge (tgt := 102) hM hf dX12_looks_94 (by decide) (fun hf => ?_) (fun hf => ?_)
  · refine lv_aload_n hM.1 hM.2.1 dX12_looks_102 rfl (lv_at hl 1 rfl) ?_
    refine gf_X12_row hM hw (okX12.o ho) fl_X12_149 dX12_looks_103 ?_
    refine lv_iconst (v := 0) hM.1 hM.2.1 dX12_looks_106 ic_0 ?_
    refine x_ialdK hM hw (okX12.row ho) 0 (by decide) (by decide) dX12_looks_107 ?_
    refine lv_iload hM.1 hM.2.1 dX12_looks_108 (lv_at hl 0 rfl) ?_
    refine lv_isub hM.1 hM.2.1 dX12_looks_110 ?_
    exact w_X12_looks_j111 hM ho hR (okX12.variables ho) hw (lv_sub hl [1, 4, 5] rfl) hf
  refine lv_bipush (v := 99) hM.1 hM.2.1 dX12_looks_97 (by decide) ?_
  refine lv_goto (tgt := 111) hM.1 hM.2.1 dX12_looks_99 (by decide) ?_
  exact w_X12_looks_j111 hM ho hR (okX12.variables ho) hw (lv_sub hl [1, 4, 5] rfl) hf
theorem hd_X12_looks : yX12_looks.cls = RX12 ∧ yX12_looks.cls ≠ "java/lang/invoke/MethodHandle" ∧ yX12_looks.cls ≠ "java/lang/invoke/VarHandle" ∧ (parseMethodDescriptor yX12_looks.desc).map (fun d => d.parameters.length) = some 4 := ⟨rfl, by decide, by decide, by decide +kernel⟩
theorem dX12_asks_0 : decode cX12_asks 0 = .ok (.iconst 2, 1) := by decide +kernel
theorem dX12_asks_1 : decode cX12_asks 1 = .ok (.aload_n 0, 1) := by decide +kernel
theorem dX12_asks_2 : decode cX12_asks 2 = .ok (.getfield 266, 3) := by decide +kernel
theorem dX12_asks_5 : decode cX12_asks 5 = .ok (.imul, 1) := by decide +kernel
theorem dX12_asks_6 : decode cX12_asks 6 = .ok (.iload_n 1, 1) := by decide +kernel
theorem dX12_asks_7 : decode cX12_asks 7 = .ok (.iadd, 1) := by decide +kernel
theorem dX12_asks_8 : decode cX12_asks 8 = .ok (.istore 4, 2) := by decide +kernel
theorem dX12_asks_10 : decode cX12_asks 10 = .ok (.aload_n 0, 1) := by decide +kernel
theorem dX12_asks_11 : decode cX12_asks 11 = .ok (.getfield 110, 3) := by decide +kernel
theorem dX12_asks_14 : decode cX12_asks 14 = .ok (.iload 4, 2) := by decide +kernel
theorem dX12_asks_16 : decode cX12_asks 16 = .ok (.iaload, 1) := by decide +kernel
theorem dX12_asks_17 : decode cX12_asks 17 = .ok (.aload_n 0, 1) := by decide +kernel
theorem dX12_asks_18 : decode cX12_asks 18 = .ok (.getfield 113, 3) := by decide +kernel
theorem dX12_asks_21 : decode cX12_asks 21 = .ok (.iload 4, 2) := by decide +kernel
theorem dX12_asks_23 : decode cX12_asks 23 = .ok (.iaload, 1) := by decide +kernel
theorem dX12_asks_24 : decode cX12_asks 24 = .ok (.if_icmp .ne 5, 3) := by decide +kernel
theorem dX12_asks_27 : decode cX12_asks 27 = .ok (.iload_n 2, 1) := by decide +kernel
theorem dX12_asks_28 : decode cX12_asks 28 = .ok (.ireturn, 1) := by decide +kernel
theorem dX12_asks_29 : decode cX12_asks 29 = .ok (.aload_n 0, 1) := by decide +kernel
theorem dX12_asks_30 : decode cX12_asks 30 = .ok (.iconst 0, 1) := by decide +kernel
theorem dX12_asks_31 : decode cX12_asks 31 = .ok (.putfield 355, 3) := by decide +kernel
theorem dX12_asks_34 : decode cX12_asks 34 = .ok (.aload_n 0, 1) := by decide +kernel
theorem dX12_asks_35 : decode cX12_asks 35 = .ok (.getfield 110, 3) := by decide +kernel
theorem dX12_asks_38 : decode cX12_asks 38 = .ok (.iload 4, 2) := by decide +kernel
theorem dX12_asks_40 : decode cX12_asks 40 = .ok (.iaload, 1) := by decide +kernel
theorem dX12_asks_41 : decode cX12_asks 41 = .ok (.istore 5, 2) := by decide +kernel
theorem dX12_asks_43 : decode cX12_asks 43 = .ok (.iload 5, 2) := by decide +kernel
theorem dX12_asks_45 : decode cX12_asks 45 = .ok (.aload_n 0, 1) := by decide +kernel
theorem dX12_asks_46 : decode cX12_asks 46 = .ok (.getfield 113, 3) := by decide +kernel
theorem dX12_asks_49 : decode cX12_asks 49 = .ok (.iload 4, 2) := by decide +kernel
theorem dX12_asks_51 : decode cX12_asks 51 = .ok (.iaload, 1) := by decide +kernel
theorem dX12_asks_52 : decode cX12_asks 52 = .ok (.if_icmp .ge 127, 3) := by decide +kernel
theorem dX12_asks_55 : decode cX12_asks 55 = .ok (.aload_n 0, 1) := by decide +kernel
theorem dX12_asks_56 : decode cX12_asks 56 = .ok (.getfield 116, 3) := by decide +kernel
theorem dX12_asks_59 : decode cX12_asks 59 = .ok (.iload 5, 2) := by decide +kernel
theorem dX12_asks_61 : decode cX12_asks 61 = .ok (.baload, 1) := by decide +kernel
theorem dX12_asks_62 : decode cX12_asks 62 = .ok (.ifCond .eq 62, 3) := by decide +kernel
theorem dX12_asks_65 : decode cX12_asks 65 = .ok (.aload_n 0, 1) := by decide +kernel
theorem dX12_asks_66 : decode cX12_asks 66 = .ok (.aload_n 0, 1) := by decide +kernel
theorem dX12_asks_67 : decode cX12_asks 67 = .ok (.getfield 119, 3) := by decide +kernel
theorem dX12_asks_70 : decode cX12_asks 70 = .ok (.iload 5, 2) := by decide +kernel
theorem dX12_asks_72 : decode cX12_asks 72 = .ok (.iaload, 1) := by decide +kernel
theorem dX12_asks_73 : decode cX12_asks 73 = .ok (.aload_n 0, 1) := by decide +kernel
theorem dX12_asks_74 : decode cX12_asks 74 = .ok (.getfield 122, 3) := by decide +kernel
theorem dX12_asks_77 : decode cX12_asks 77 = .ok (.iload 5, 2) := by decide +kernel
theorem dX12_asks_79 : decode cX12_asks 79 = .ok (.iaload, 1) := by decide +kernel
theorem dX12_asks_80 : decode cX12_asks 80 = .ok (.invokevirtual 391, 3) := by decide +kernel
theorem dX12_asks_83 : decode cX12_asks 83 = .ok (.istore 6, 2) := by decide +kernel
theorem dX12_asks_85 : decode cX12_asks 85 = .ok (.aload_n 0, 1) := by decide +kernel
theorem dX12_asks_86 : decode cX12_asks 86 = .ok (.aload_n 0, 1) := by decide +kernel
theorem dX12_asks_87 : decode cX12_asks 87 = .ok (.getfield 122, 3) := by decide +kernel
theorem dX12_asks_90 : decode cX12_asks 90 = .ok (.iload 5, 2) := by decide +kernel
theorem dX12_asks_92 : decode cX12_asks 92 = .ok (.iaload, 1) := by decide +kernel
theorem dX12_asks_93 : decode cX12_asks 93 = .ok (.aload_n 0, 1) := by decide +kernel
theorem dX12_asks_94 : decode cX12_asks 94 = .ok (.getfield 125, 3) := by decide +kernel
theorem dX12_asks_97 : decode cX12_asks 97 = .ok (.iload 5, 2) := by decide +kernel
theorem dX12_asks_99 : decode cX12_asks 99 = .ok (.iaload, 1) := by decide +kernel
theorem dX12_asks_100 : decode cX12_asks 100 = .ok (.invokevirtual 391, 3) := by decide +kernel
theorem dX12_asks_103 : decode cX12_asks 103 = .ok (.istore 7, 2) := by decide +kernel
theorem dX12_asks_105 : decode cX12_asks 105 = .ok (.aload_n 0, 1) := by decide +kernel
theorem dX12_asks_106 : decode cX12_asks 106 = .ok (.getfield 355, 3) := by decide +kernel
theorem dX12_asks_109 : decode cX12_asks 109 = .ok (.ifCond .eq 5, 3) := by decide +kernel
theorem dX12_asks_112 : decode cX12_asks 112 = .ok (.iconst 0, 1) := by decide +kernel
theorem dX12_asks_113 : decode cX12_asks 113 = .ok (.ireturn, 1) := by decide +kernel
theorem dX12_asks_114 : decode cX12_asks 114 = .ok (.iload 6, 2) := by decide +kernel
theorem dX12_asks_116 : decode cX12_asks 116 = .ok (.iload 7, 2) := by decide +kernel
theorem dX12_asks_118 : decode cX12_asks 118 = .ok (.if_icmp .lt 6, 3) := by decide +kernel
theorem dX12_asks_121 : decode cX12_asks 121 = .ok (.goto 52, 3) := by decide +kernel
theorem dX12_asks_124 : decode cX12_asks 124 = .ok (.aload_n 0, 1) := by decide +kernel
theorem dX12_asks_125 : decode cX12_asks 125 = .ok (.aload_n 0, 1) := by decide +kernel
theorem dX12_asks_126 : decode cX12_asks 126 = .ok (.getfield 125, 3) := by decide +kernel
theorem dX12_asks_129 : decode cX12_asks 129 = .ok (.iload 5, 2) := by decide +kernel
theorem dX12_asks_131 : decode cX12_asks 131 = .ok (.iaload, 1) := by decide +kernel
theorem dX12_asks_132 : decode cX12_asks 132 = .ok (.aload_n 0, 1) := by decide +kernel
theorem dX12_asks_133 : decode cX12_asks 133 = .ok (.getfield 128, 3) := by decide +kernel
theorem dX12_asks_136 : decode cX12_asks 136 = .ok (.iload 5, 2) := by decide +kernel
theorem dX12_asks_138 : decode cX12_asks 138 = .ok (.iaload, 1) := by decide +kernel
theorem dX12_asks_139 : decode cX12_asks 139 = .ok (.invokevirtual 391, 3) := by decide +kernel
theorem dX12_asks_142 : decode cX12_asks 142 = .ok (.istore 6, 2) := by decide +kernel
theorem dX12_asks_144 : decode cX12_asks 144 = .ok (.aload_n 0, 1) := by decide +kernel
theorem dX12_asks_145 : decode cX12_asks 145 = .ok (.getfield 355, 3) := by decide +kernel
theorem dX12_asks_148 : decode cX12_asks 148 = .ok (.ifCond .ne 8, 3) := by decide +kernel
theorem dX12_asks_151 : decode cX12_asks 151 = .ok (.iload 6, 2) := by decide +kernel
theorem dX12_asks_153 : decode cX12_asks 153 = .ok (.ifCond .ge 7, 3) := by decide +kernel
theorem dX12_asks_156 : decode cX12_asks 156 = .ok (.iconst 0, 1) := by decide +kernel
theorem dX12_asks_157 : decode cX12_asks 157 = .ok (.goto 15, 3) := by decide +kernel
theorem dX12_asks_160 : decode cX12_asks 160 = .ok (.iload 6, 2) := by decide +kernel
theorem dX12_asks_162 : decode cX12_asks 162 = .ok (.iload_n 3, 1) := by decide +kernel
theorem dX12_asks_163 : decode cX12_asks 163 = .ok (.if_icmp .le 7, 3) := by decide +kernel
theorem dX12_asks_166 : decode cX12_asks 166 = .ok (.iload_n 3, 1) := by decide +kernel
theorem dX12_asks_167 : decode cX12_asks 167 = .ok (.goto 5, 3) := by decide +kernel
theorem dX12_asks_170 : decode cX12_asks 170 = .ok (.iload 6, 2) := by decide +kernel
theorem dX12_asks_172 : decode cX12_asks 172 = .ok (.ireturn, 1) := by decide +kernel
theorem dX12_asks_173 : decode cX12_asks 173 = .ok (.iinc 5 1, 3) := by decide +kernel
theorem dX12_asks_176 : decode cX12_asks 176 = .ok (.goto (-133), 3) := by decide +kernel
theorem dX12_asks_179 : decode cX12_asks 179 = .ok (.iconst 0, 1) := by decide +kernel
theorem dX12_asks_180 : decode cX12_asks 180 = .ok (.ireturn, 1) := by decide +kernel
def c_X12_asks_L43b {ρ : Type}  (z3 : Int32) (z4 : Int32) (K1 : PH → Option ρ) (K2 : Int32 → PH → Option ρ) (K3 : PH → Option ρ) (REC : Int32 → PH → Option ρ) (x5 : Int32) (h : PH) : Option ρ :=
  gd (ixOK z4 4) <|
  if (h.1 32 z4.toNatClampNeg) ≤ x5 then
    K3 h
  else
    gd (ixOK x5 260) <|
    if (h.1 33 x5.toNatClampNeg) = 0 then
      K2 x5 h
    else
      gd (ixOK x5 260) <|
      gd (ixOK x5 260) <|
      bind2 (c_X12_termOf (h.1 34 x5.toNatClampNeg) (h.1 35 x5.toNatClampNeg) h) fun r4 h5 =>
      nm r4 fun v6 =>
      gd (ixOK x5 260) <|
      gd (ixOK x5 260) <|
      bind2 (c_X12_termOf (h5.1 35 x5.toNatClampNeg) (h5.1 36 x5.toNatClampNeg) h5) fun r7 h8 =>
      nm r7 fun v9 =>
      if (h8.1 0 59) = 0 then
        if v6 < v9 then
          K2 x5 h8
        else
          nm (x5 + 1) fun v10 =>
          REC v10 h8
      else
        K1 h8
set_option maxHeartbeats 4000000 in
set_option maxRecDepth 100000 in
theorem w_X12_asks_L43b {p0 : Program} {l : Launch} {e : Env} {s : State} {m : MethodId} {args : Array Value} {below : List Frame} {meth : Method} {c : Code} {Q : State → Prop} {D : va_G} {G : GG} {A : Nat → Prop} {H0 : Heap} {ad : Nat → Nat} {lay : List KK} {X : va_W} {ρ : Type} {r0 : ρ} {z3 : Int32} {z4 : Int32} {x5 : Int32} {h : PH} {H : Heap} {locs : List Loc} {ls : Array Slot} {K1 : PH → Option ρ} {K2 : Int32 → PH → Option ρ} {K3 : PH → Option ρ} {REC : Int32 → PH → Option ρ} (hM : CallFix p0 m c cX12_asks 8 s args lw_g RX12) (ho : okX12 lay) (hk1 : ∀ (h : PH), ∀ (H : Heap) (locs : List Loc) (ls : Array Slot), K1 h = some r0 → Wd D G A H0 ad lay X h s H locs → lv_has ls 8 [] → W p0 l e (rmN 1 27) s m args below meth c H locs 0 0 Q (F0 m 112 ls [])) (hk2 : ∀ (x5 : Int32) (h : PH), ∀ (H : Heap) (locs : List Loc) (ls : Array Slot), K2 x5 h = some r0 → Wd D G A H0 ad lay X h s H locs → lv_has ls 8 [(0, .ref (ad 0)), (3, .int z3), (5, .int x5)] → W p0 l e (rmN 1 27) s m args below meth c H locs 0 0 Q (F0 m 124 ls [])) (hk3 : ∀ (h : PH), ∀ (H : Heap) (locs : List Loc) (ls : Array Slot), K3 h = some r0 → Wd D G A H0 ad lay X h s H locs → lv_has ls 8 [] → W p0 l e (rmN 1 27) s m args below meth c H locs 0 0 Q (F0 m 179 ls [])) (hrec : ∀ (x5 : Int32) (h : PH), ∀ (H : Heap) (locs : List Loc) (ls : Array Slot), REC x5 h = some r0 → Wd D G A H0 ad lay X h s H locs → lv_has ls 8 [(0, .ref (ad 0)), (3, .int z3), (4, .int z4), (5, .int x5)] → W p0 l e (rmN 1 27) s m args below meth c H locs 0 0 Q (F0 m 43 ls [])) (hw : Wd D G A H0 ad lay X h s H locs) (hl : lv_has ls 8 [(0, .ref (ad 0)), (3, .int z3), (4, .int z4), (5, .int x5)]) (hf : c_X12_asks_L43b z3 z4 K1 K2 K3 REC x5 h = some r0) : W p0 l e (rmN 1 27) s m args below meth c H locs 0 0 Q (F0 m 43 ls []) := by
  unfold c_X12_asks_L43b at hf
  refine lv_iload hM.1 hM.2.1 dX12_asks_43 (lv_at hl 3 rfl) ?_
  refine lv_aload_n hM.1 hM.2.1 dX12_asks_45 rfl (lv_at hl 0 rfl) ?_
  refine gf_X12_lawLast hM hw (okX12.o ho) fl_X12_113 dX12_asks_46 ?_
  refine lv_iload hM.1 hM.2.1 dX12_asks_49 (lv_at hl 2 rfl) ?_
  refine x_iald hM hw (okX12.lawLast ho) hf dX12_asks_51 (fun hf => ?_)
  refine x_ic_ge (tgt := 179) hM hf dX12_asks_52 (by decide) (fun hf => ?_) (fun hf => ?_)
  · exact hk3 _ _ _ _ hf hw (lv_sub hl [] rfl)
  refine lv_aload_n hM.1 hM.2.1 dX12_asks_55 rfl (lv_at hl 0 rfl) ?_
  refine gf_X12_hasTest hM hw (okX12.o ho) fl_X12_116 dX12_asks_56 ?_
  refine lv_iload hM.1 hM.2.1 dX12_asks_59 (lv_at hl 3 rfl) ?_
  refine x_zald hM hw (okX12.hasTest ho) hf dX12_asks_61 (fun hf => ?_)
  refine x_if_eq (tgt := 124) hM hf dX12_asks_62 (by decide) (fun hf => ?_) (fun hf => ?_)
  · exact hk2 _ _ _ _ _ hf hw (lv_sub hl [0, 1, 3] rfl)
  refine lv_aload_n hM.1 hM.2.1 dX12_asks_65 rfl (lv_at hl 0 rfl) ?_
  refine lv_aload_n hM.1 hM.2.1 dX12_asks_66 rfl (lv_at hl 0 rfl) ?_
  refine gf_X12_testFrom hM hw (okX12.o ho) fl_X12_119 dX12_asks_67 ?_
  refine lv_iload hM.1 hM.2.1 dX12_asks_70 (lv_at hl 3 rfl) ?_
  refine x_iald hM hw (okX12.testFrom ho) hf dX12_asks_72 (fun hf => ?_)
  refine lv_aload_n hM.1 hM.2.1 dX12_asks_73 rfl (lv_at hl 0 rfl) ?_
  refine gf_X12_testMid hM hw (okX12.o ho) fl_X12_122 dX12_asks_74 ?_
  refine lv_iload hM.1 hM.2.1 dX12_asks_77 (lv_at hl 3 rfl) ?_
  refine x_iald hM hw (okX12.testMid ho) hf dX12_asks_79 (fun hf => ?_)
  refine x_callVI (rest := []) hM hw (ct_X12_termOf l ho (h.1 34 x5.toNatClampNeg) (h.1 35 x5.toNatClampNeg)) [.int (h.1 34 x5.toNatClampNeg), .int (h.1 35 x5.toNatClampNeg)] (okX12.o ho) rfl rfl rfl (gi_V ml_X12_391 im_X12_termOf sl_X12_termOf in_X12 kc_X12_termOf) hd_X12_termOf rfl ⟨Nat.le_of_ble_eq_true rfl, Nat.le_of_ble_eq_true rfl⟩ rfl (Nat.le_of_ble_eq_true rfl) hl.1 hcs0 hf dX12_asks_80 (fun r4 h5 H locs hf hw => ?_)
  refine x_istore hM hf dX12_asks_83 hl (by decide) (fun v6 => [(6, .int v6), (0, .ref (ad 0)), (3, .int z3), (4, .int z4), (5, .int x5)]) (fun _ => rfl) (fun v6 ls hf hl => ?_)
  refine lv_aload_n hM.1 hM.2.1 dX12_asks_85 rfl (lv_at hl 1 rfl) ?_
  refine lv_aload_n hM.1 hM.2.1 dX12_asks_86 rfl (lv_at hl 1 rfl) ?_
  refine gf_X12_testMid hM hw (okX12.o ho) fl_X12_122 dX12_asks_87 ?_
  refine lv_iload hM.1 hM.2.1 dX12_asks_90 (lv_at hl 4 rfl) ?_
  refine x_iald hM hw (okX12.testMid ho) hf dX12_asks_92 (fun hf => ?_)
  refine lv_aload_n hM.1 hM.2.1 dX12_asks_93 rfl (lv_at hl 1 rfl) ?_
  refine gf_X12_testTo hM hw (okX12.o ho) fl_X12_125 dX12_asks_94 ?_
  refine lv_iload hM.1 hM.2.1 dX12_asks_97 (lv_at hl 4 rfl) ?_
  refine x_iald hM hw (okX12.testTo ho) hf dX12_asks_99 (fun hf => ?_)
  refine x_callVI (rest := []) hM hw (ct_X12_termOf l ho (h5.1 35 x5.toNatClampNeg) (h5.1 36 x5.toNatClampNeg)) [.int (h5.1 35 x5.toNatClampNeg), .int (h5.1 36 x5.toNatClampNeg)] (okX12.o ho) rfl rfl rfl (gi_V ml_X12_391 im_X12_termOf sl_X12_termOf in_X12 kc_X12_termOf) hd_X12_termOf rfl ⟨Nat.le_of_ble_eq_true rfl, Nat.le_of_ble_eq_true rfl⟩ rfl (Nat.le_of_ble_eq_true rfl) hl.1 hcs0 hf dX12_asks_100 (fun r7 h8 H locs hf hw => ?_)
  refine x_istore hM hf dX12_asks_103 hl (by decide) (fun v9 => [(7, .int v9), (6, .int v6), (0, .ref (ad 0)), (3, .int z3), (4, .int z4), (5, .int x5)]) (fun _ => rfl) (fun v9 ls hf hl => ?_)
  refine lv_aload_n hM.1 hM.2.1 dX12_asks_105 rfl (lv_at hl 2 rfl) ?_
  refine gf_X12_isBroken hM hw (okX12.o ho) fl_X12_355 dX12_asks_106 ?_
  refine x_if_eq (tgt := 114) hM hf dX12_asks_109 (by decide) (fun hf => ?_) (fun hf => ?_)
  · refine lv_iload hM.1 hM.2.1 dX12_asks_114 (lv_at hl 1 rfl) ?_
    refine lv_iload hM.1 hM.2.1 dX12_asks_116 (lv_at hl 0 rfl) ?_
    refine x_ic_lt (tgt := 124) hM hf dX12_asks_118 (by decide) (fun hf => ?_) (fun hf => ?_)
    · exact hk2 _ _ _ _ _ hf hw (lv_sub hl [2, 3, 5] rfl)
    refine lv_goto (tgt := 173) hM.1 hM.2.1 dX12_asks_121 (by decide) ?_
    refine x_iinc (k := 5) (d := 1) hM hf dX12_asks_173 hl rfl (by decide) (by decide) (fun v10 => [(5, .int v10), (7, .int v9), (6, .int v6), (0, .ref (ad 0)), (3, .int z3), (4, .int z4)]) (fun _ => rfl) (fun v10 ls hf hl => ?_)
    refine lv_goto (tgt := 43) hM.1 hM.2.1 dX12_asks_176 (by decide) ?_
    exact hrec _ _ _ _ _ hf hw (lv_sub hl [3, 4, 5, 0] rfl)
  exact hk1 _ _ _ _ hf hw (lv_sub hl [] rfl)
set_option maxHeartbeats 4000000 in
set_option maxRecDepth 100000 in
theorem w_X12_asks_L43 {p0 : Program} {l : Launch} {e : Env} {s : State} {m : MethodId} {args : Array Value} {below : List Frame} {meth : Method} {c : Code} {Q : State → Prop} {D : va_G} {G : GG} {A : Nat → Prop} {H0 : Heap} {ad : Nat → Nat} {lay : List KK} {X : va_W} {ρ : Type} {r0 : ρ} {z3 : Int32} {z4 : Int32} {K1 : PH → Option ρ} {K2 : Int32 → PH → Option ρ} {K3 : PH → Option ρ} (hM : CallFix p0 m c cX12_asks 8 s args lw_g RX12) (ho : okX12 lay) (hk1 : ∀ (h : PH), ∀ (H : Heap) (locs : List Loc) (ls : Array Slot), K1 h = some r0 → Wd D G A H0 ad lay X h s H locs → lv_has ls 8 [] → W p0 l e (rmN 1 27) s m args below meth c H locs 0 0 Q (F0 m 112 ls [])) (hk2 : ∀ (x5 : Int32) (h : PH), ∀ (H : Heap) (locs : List Loc) (ls : Array Slot), K2 x5 h = some r0 → Wd D G A H0 ad lay X h s H locs → lv_has ls 8 [(0, .ref (ad 0)), (3, .int z3), (5, .int x5)] → W p0 l e (rmN 1 27) s m args below meth c H locs 0 0 Q (F0 m 124 ls [])) (hk3 : ∀ (h : PH), ∀ (H : Heap) (locs : List Loc) (ls : Array Slot), K3 h = some r0 → Wd D G A H0 ad lay X h s H locs → lv_has ls 8 [] → W p0 l e (rmN 1 27) s m args below meth c H locs 0 0 Q (F0 m 179 ls [])) (n : Nat) (x5 : Int32) (h : PH) (hf : lq2 (c_X12_asks_L43b z3 z4 K1 K2 K3) n x5 h = some r0) : ∀ (H : Heap) (locs : List Loc) (ls : Array Slot), Wd D G A H0 ad lay X h s H locs → lv_has ls 8 [(0, .ref (ad 0)), (3, .int z3), (4, .int z4), (5, .int x5)] → W p0 l e (rmN 1 27) s m args below meth c H locs 0 0 Q (F0 m 43 ls []) := by
  exact lq2_i (fun (x5 : Int32) (h : PH) => ∀ (H : Heap) (locs : List Loc) (ls : Array Slot), Wd D G A H0 ad lay X h s H locs → lv_has ls 8 [(0, .ref (ad 0)), (3, .int z3), (4, .int z4), (5, .int x5)] → W p0 l e (rmN 1 27) s m args below meth c H locs 0 0 Q (F0 m 43 ls [])) (fun REC x5 h ih hf H locs ls hw hl => w_X12_asks_L43b hM ho hk1 hk2 hk3 (fun x5 h H locs ls hf hw hl => ih x5 h hf H locs ls hw hl) hw hl hf) n x5 h hf
def c_X12_asks_j124  (x3 : Int32) (x5 : Int32) (h : PH) : Option (Int32 × PH) :=
  gd (ixOK x5 260) <|
  gd (ixOK x5 260) <|
  bind2 (c_X12_termOf (h.1 36 x5.toNatClampNeg) (h.1 37 x5.toNatClampNeg) h) fun r14 h15 =>
  nm r14 fun v16 =>
  if (h15.1 0 59) = 0 then
    if 0 ≤ v16 then
      if v16 ≤ x3 then
        some (v16, h15)
      else
        some (x3, h15)
    else
      some (0, h15)
  else
    some (0, h15)
set_option maxHeartbeats 4000000 in
set_option maxRecDepth 100000 in
theorem w_X12_asks_j124 {p0 : Program} {l : Launch} {e : Env} {s : State} {m : MethodId} {args : Array Value} {below : List Frame} {meth : Method} {c : Code} {Q : State → Prop} {D : va_G} {G : GG} {A : Nat → Prop} {H0 : Heap} {ad : Nat → Nat} {lay : List KK} {X : va_W} {r0 : Int32 × PH} {x3 : Int32} {x5 : Int32} {h : PH} {H : Heap} {locs : List Loc} {ls : Array Slot} (hM : CallFix p0 m c cX12_asks 8 s args lw_g RX12) (ho : okX12 lay) (hR : RtI p0 l e (rmN 1 27) s m args below meth c cX12_asks D G A H0 ad lay X (some .int) r0 Q 0 0) (hw : Wd D G A H0 ad lay X h s H locs) (hl : lv_has ls 8 [(0, .ref (ad 0)), (3, .int x3), (5, .int x5)]) (hf : c_X12_asks_j124 x3 x5 h = some r0) : W p0 l e (rmN 1 27) s m args below meth c H locs 0 0 Q (F0 m 124 ls []) := by
  unfold c_X12_asks_j124 at hf
  refine lv_aload_n hM.1 hM.2.1 dX12_asks_124 rfl (lv_at hl 0 rfl) ?_
  refine lv_aload_n hM.1 hM.2.1 dX12_asks_125 rfl (lv_at hl 0 rfl) ?_
  refine gf_X12_testTo hM hw (okX12.o ho) fl_X12_125 dX12_asks_126 ?_
  refine lv_iload hM.1 hM.2.1 dX12_asks_129 (lv_at hl 2 rfl) ?_
  refine x_iald hM hw (okX12.testTo ho) hf dX12_asks_131 (fun hf => ?_)
  refine lv_aload_n hM.1 hM.2.1 dX12_asks_132 rfl (lv_at hl 0 rfl) ?_
  refine gf_X12_termTo hM hw (okX12.o ho) fl_X12_128 dX12_asks_133 ?_
  refine lv_iload hM.1 hM.2.1 dX12_asks_136 (lv_at hl 2 rfl) ?_
  refine x_iald hM hw (okX12.termTo ho) hf dX12_asks_138 (fun hf => ?_)
  refine x_callVI (rest := []) hM hw (ct_X12_termOf l ho (h.1 36 x5.toNatClampNeg) (h.1 37 x5.toNatClampNeg)) [.int (h.1 36 x5.toNatClampNeg), .int (h.1 37 x5.toNatClampNeg)] (okX12.o ho) rfl rfl rfl (gi_V ml_X12_391 im_X12_termOf sl_X12_termOf in_X12 kc_X12_termOf) hd_X12_termOf rfl ⟨Nat.le_of_ble_eq_true rfl, Nat.le_of_ble_eq_true rfl⟩ rfl (Nat.le_of_ble_eq_true rfl) hl.1 hcs0 hf dX12_asks_139 (fun r14 h15 H locs hf hw => ?_)
  refine x_istore hM hf dX12_asks_142 hl (by decide) (fun v16 => [(6, .int v16), (0, .ref (ad 0)), (3, .int x3), (5, .int x5)]) (fun _ => rfl) (fun v16 ls hf hl => ?_)
  refine lv_aload_n hM.1 hM.2.1 dX12_asks_144 rfl (lv_at hl 1 rfl) ?_
  refine gf_X12_isBroken hM hw (okX12.o ho) fl_X12_355 dX12_asks_145 ?_
  refine x_if_ne (tgt := 156) hM hf dX12_asks_148 (by decide) (fun hf => ?_) (fun hf => ?_)
  · refine lv_iconst (v := 0) hM.1 hM.2.1 dX12_asks_156 ic_0 ?_
    refine lv_goto (tgt := 172) hM.1 hM.2.1 dX12_asks_157 (by decide) ?_
    exact hR _ _ _ _ _ _ _ (Option.some.inj hf) rfl rfl hw dX12_asks_172
  refine lv_iload hM.1 hM.2.1 dX12_asks_151 (lv_at hl 0 rfl) ?_
  refine x_if_ge (tgt := 160) hM hf dX12_asks_153 (by decide) (fun hf => ?_) (fun hf => ?_)
  · refine lv_iload hM.1 hM.2.1 dX12_asks_160 (lv_at hl 0 rfl) ?_
    refine lv_iload_n hM.1 hM.2.1 dX12_asks_162 rfl (lv_at hl 2 rfl) ?_
    refine x_ic_le (tgt := 170) hM hf dX12_asks_163 (by decide) (fun hf => ?_) (fun hf => ?_)
    · refine lv_iload hM.1 hM.2.1 dX12_asks_170 (lv_at hl 0 rfl) ?_
      exact hR _ _ _ _ _ _ _ (Option.some.inj hf) rfl rfl hw dX12_asks_172
    refine lv_iload_n hM.1 hM.2.1 dX12_asks_166 rfl (lv_at hl 2 rfl) ?_
    refine lv_goto (tgt := 172) hM.1 hM.2.1 dX12_asks_167 (by decide) ?_
    exact hR _ _ _ _ _ _ _ (Option.some.inj hf) rfl rfl hw dX12_asks_172
  refine lv_iconst (v := 0) hM.1 hM.2.1 dX12_asks_156 ic_0 ?_
  refine lv_goto (tgt := 172) hM.1 hM.2.1 dX12_asks_157 (by decide) ?_
  exact hR _ _ _ _ _ _ _ (Option.some.inj hf) rfl rfl hw dX12_asks_172
def c_X12_asks (a1 : Int32) (a2 : Int32) (a3 : Int32) (h : PH) : Option (Int32 × PH) :=
  nm ((2 * (h.1 0 18)) + a1) fun v1 =>
  gd (ixOK v1 4) <|
  gd (ixOK v1 4) <|
  if (h.1 31 v1.toNatClampNeg) = (h.1 32 v1.toNatClampNeg) then
    some (a2, h)
  else
    nm (setI h 0 59 0) fun h2 =>
    gd (ixOK v1 4) <|
    nm (h2.1 31 v1.toNatClampNeg) fun v3 =>
    lq2 (c_X12_asks_L43b a3 v1
      (fun h11 =>
        some (0, h11))
      (fun w12 h13 =>
        c_X12_asks_j124 a3 w12 h13)
      (fun h17 =>
        some (0, h17))) fu v3 h2
set_option maxHeartbeats 4000000 in
set_option maxRecDepth 100000 in
theorem ct_X12_asks (l : Launch) {lay : List KK} (ho : okX12 lay) (a1 : Int32) (a2 : Int32) (a3 : Int32) : CtI l yX12_asks cX12_asks 8 (some .int) 1 27 lay (fun h => c_X12_asks a1 a2 a3 h) (fun ad => [.ref (ad 0), .int a1, .int a2, .int a3]) := by
  refine CtI.mk' RX12 (by decide) rfl (fun _ => Nat.le_of_ble_eq_true rfl) ?_
  intro p0 e s m args below meth c D G A H0 ad X h r0 H ls Q hM hw hl hf hR
  have hl : lv_has ls 8 [(0, .ref (ad 0)), (1, .int a1), (2, .int a2), (3, .int a3)] := hl
  unfold c_X12_asks at hf
  refine lv_iconst (v := 2) hM.1 hM.2.1 dX12_asks_0 ic_2 ?_
  refine lv_aload_n hM.1 hM.2.1 dX12_asks_1 rfl (lv_at hl 0 rfl) ?_
  refine gf_X12_live hM hw (okX12.o ho) fl_X12_266 dX12_asks_2 ?_
  refine lv_imul hM.1 hM.2.1 dX12_asks_5 ?_
  refine lv_iload_n hM.1 hM.2.1 dX12_asks_6 rfl (lv_at hl 1 rfl) ?_
  refine lv_iadd hM.1 hM.2.1 dX12_asks_7 ?_
  refine x_istore hM hf dX12_asks_8 hl (by decide) (fun v1 => [(4, .int v1), (0, .ref (ad 0)), (1, .int a1), (2, .int a2), (3, .int a3)]) (fun _ => rfl) (fun v1 ls hf hl => ?_)
  refine lv_aload_n hM.1 hM.2.1 dX12_asks_10 rfl (lv_at hl 1 rfl) ?_
  refine gf_X12_lawFirst hM hw (okX12.o ho) fl_X12_110 dX12_asks_11 ?_
  refine lv_iload hM.1 hM.2.1 dX12_asks_14 (lv_at hl 0 rfl) ?_
  refine x_iald hM hw (okX12.lawFirst ho) hf dX12_asks_16 (fun hf => ?_)
  refine lv_aload_n hM.1 hM.2.1 dX12_asks_17 rfl (lv_at hl 1 rfl) ?_
  refine gf_X12_lawLast hM hw (okX12.o ho) fl_X12_113 dX12_asks_18 ?_
  refine lv_iload hM.1 hM.2.1 dX12_asks_21 (lv_at hl 0 rfl) ?_
  refine x_iald hM hw (okX12.lawLast ho) hf dX12_asks_23 (fun hf => ?_)
  refine x_ic_ne (tgt := 29) hM hf dX12_asks_24 (by decide) (fun hf => ?_) (fun hf => ?_)
  · refine lv_aload_n hM.1 hM.2.1 dX12_asks_29 rfl (lv_at hl 1 rfl) ?_
    refine lv_iconst (v := 0) hM.1 hM.2.1 dX12_asks_30 ic_0 ?_
    refine pf_X12_isBroken hM hw (okX12.o ho) fl_X12_355 (by decide) hf dX12_asks_31 (fun h2 H locs hf hw => ?_)
    refine lv_aload_n hM.1 hM.2.1 dX12_asks_34 rfl (lv_at hl 1 rfl) ?_
    refine gf_X12_lawFirst hM hw (okX12.o ho) fl_X12_110 dX12_asks_35 ?_
    refine lv_iload hM.1 hM.2.1 dX12_asks_38 (lv_at hl 0 rfl) ?_
    refine x_iald hM hw (okX12.lawFirst ho) hf dX12_asks_40 (fun hf => ?_)
    refine x_istore hM hf dX12_asks_41 hl (by decide) (fun v3 => [(5, .int v3), (4, .int v1), (0, .ref (ad 0)), (1, .int a1), (2, .int a2), (3, .int a3)]) (fun _ => rfl) (fun v3 ls hf hl => ?_)
    refine w_X12_asks_L43 hM ho (fun h11 H locs ls hf hw hl => ?_) (fun w12 h13 H locs ls hf hw hl => ?_) (fun h17 H locs ls hf hw hl => ?_) fu _ _ hf _ _ _ hw (lv_sub hl [2, 5, 1, 0] rfl)
    · refine lv_iconst (v := 0) hM.1 hM.2.1 dX12_asks_112 ic_0 ?_
      exact hR _ _ _ _ _ _ _ (Option.some.inj hf) rfl rfl hw dX12_asks_113
    · exact w_X12_asks_j124 hM ho hR hw hl hf
    · refine lv_iconst (v := 0) hM.1 hM.2.1 dX12_asks_179 ic_0 ?_
      exact hR _ _ _ _ _ _ _ (Option.some.inj hf) rfl rfl hw dX12_asks_180
  refine lv_iload_n hM.1 hM.2.1 dX12_asks_27 rfl (lv_at hl 3 rfl) ?_
  exact hR _ _ _ _ _ _ _ (Option.some.inj hf) rfl rfl hw dX12_asks_28
theorem hd_X12_asks : yX12_asks.cls = RX12 ∧ yX12_asks.cls ≠ "java/lang/invoke/MethodHandle" ∧ yX12_asks.cls ≠ "java/lang/invoke/VarHandle" ∧ (parseMethodDescriptor yX12_asks.desc).map (fun d => d.parameters.length) = some 3 := ⟨rfl, by decide, by decide, by decide +kernel⟩
theorem dX12_looksFor_0 : decode cX12_looksFor 0 = .ok (.aload_n 0, 1) := by decide +kernel
theorem dX12_looksFor_1 : decode cX12_looksFor 1 = .ok (.iload_n 2, 1) := by decide +kernel
theorem dX12_looksFor_2 : decode cX12_looksFor 2 = .ok (.invokevirtual 373, 3) := by decide +kernel
theorem dX12_looksFor_5 : decode cX12_looksFor 5 = .ok (.istore_n 3, 1) := by decide +kernel
theorem dX12_looksFor_6 : decode cX12_looksFor 6 = .ok (.aload_n 0, 1) := by decide +kernel
theorem dX12_looksFor_7 : decode cX12_looksFor 7 = .ok (.iload_n 1, 1) := by decide +kernel
theorem dX12_looksFor_8 : decode cX12_looksFor 8 = .ok (.iload_n 3, 1) := by decide +kernel
theorem dX12_looksFor_9 : decode cX12_looksFor 9 = .ok (.aload_n 0, 1) := by decide +kernel
theorem dX12_looksFor_10 : decode cX12_looksFor 10 = .ok (.getfield 89, 3) := by decide +kernel
theorem dX12_looksFor_13 : decode cX12_looksFor 13 = .ok (.bipush 9, 2) := by decide +kernel
theorem dX12_looksFor_15 : decode cX12_looksFor 15 = .ok (.aload_n 0, 1) := by decide +kernel
theorem dX12_looksFor_16 : decode cX12_looksFor 16 = .ok (.getfield 266, 3) := by decide +kernel
theorem dX12_looksFor_19 : decode cX12_looksFor 19 = .ok (.imul, 1) := by decide +kernel
theorem dX12_looksFor_20 : decode cX12_looksFor 20 = .ok (.iload_n 2, 1) := by decide +kernel
theorem dX12_looksFor_21 : decode cX12_looksFor 21 = .ok (.iadd, 1) := by decide +kernel
theorem dX12_looksFor_22 : decode cX12_looksFor 22 = .ok (.iaload, 1) := by decide +kernel
theorem dX12_looksFor_23 : decode cX12_looksFor 23 = .ok (.aload_n 0, 1) := by decide +kernel
theorem dX12_looksFor_24 : decode cX12_looksFor 24 = .ok (.iload_n 3, 1) := by decide +kernel
theorem dX12_looksFor_25 : decode cX12_looksFor 25 = .ok (.aload_n 0, 1) := by decide +kernel
theorem dX12_looksFor_26 : decode cX12_looksFor 26 = .ok (.getfield 70, 3) := by decide +kernel
theorem dX12_looksFor_29 : decode cX12_looksFor 29 = .ok (.bipush 7, 2) := by decide +kernel
theorem dX12_looksFor_31 : decode cX12_looksFor 31 = .ok (.aload_n 0, 1) := by decide +kernel
theorem dX12_looksFor_32 : decode cX12_looksFor 32 = .ok (.getfield 266, 3) := by decide +kernel
theorem dX12_looksFor_35 : decode cX12_looksFor 35 = .ok (.imul, 1) := by decide +kernel
theorem dX12_looksFor_36 : decode cX12_looksFor 36 = .ok (.iload_n 1, 1) := by decide +kernel
theorem dX12_looksFor_37 : decode cX12_looksFor 37 = .ok (.iadd, 1) := by decide +kernel
theorem dX12_looksFor_38 : decode cX12_looksFor 38 = .ok (.iaload, 1) := by decide +kernel
theorem dX12_looksFor_39 : decode cX12_looksFor 39 = .ok (.aload_n 0, 1) := by decide +kernel
theorem dX12_looksFor_40 : decode cX12_looksFor 40 = .ok (.getfield 149, 3) := by decide +kernel
theorem dX12_looksFor_43 : decode cX12_looksFor 43 = .ok (.iconst 0, 1) := by decide +kernel
theorem dX12_looksFor_44 : decode cX12_looksFor 44 = .ok (.iaload, 1) := by decide +kernel
theorem dX12_looksFor_45 : decode cX12_looksFor 45 = .ok (.invokevirtual 394, 3) := by decide +kernel
theorem dX12_looksFor_48 : decode cX12_looksFor 48 = .ok (.invokevirtual 397, 3) := by decide +kernel
theorem dX12_looksFor_51 : decode cX12_looksFor 51 = .ok (.return_, 1) := by decide +kernel
def c_X12_looksFor (a1 : Int32) (a2 : Int32) (h : PH) : Option (PH) :=
  (c_X12_manOf a2 h).bind fun r1 =>
  nm r1 fun v2 =>
  gd (ixOK ((9 * (h.1 0 18)) + a2) 18) <|
  gd (ixOK ((7 * (h.1 0 18)) + a1) 14) <|
  (c_X12_heardBy v2 (h.1 18 ((7 * (h.1 0 18)) + a1).toNatClampNeg) (h.1 44 0) h).bind fun r3 =>
  (c_X12_looks a1 v2 (h.1 24 ((9 * (h.1 0 18)) + a2).toNatClampNeg) r3 h).bind fun h4 =>
  some h4
set_option maxHeartbeats 4000000 in
set_option maxRecDepth 100000 in
theorem ct_X12_looksFor (l : Launch) {lay : List KK} (ho : okX12 lay) (a1 : Int32) (a2 : Int32) : CtV l yX12_looksFor cX12_looksFor 4 (none) 4 90 lay (fun h => c_X12_looksFor a1 a2 h) (fun ad => [.ref (ad 0), .int a1, .int a2]) := by
  refine CtV.mk' RX12 (by decide) rfl (fun _ => Nat.le_of_ble_eq_true rfl) ?_
  intro p0 e s m args below meth c D G A H0 ad X h r0 H ls Q hM hw hl hf hR
  have hl : lv_has ls 4 [(0, .ref (ad 0)), (1, .int a1), (2, .int a2)] := hl
  unfold c_X12_looksFor at hf
  refine lv_aload_n hM.1 hM.2.1 dX12_looksFor_0 rfl (lv_at hl 0 rfl) ?_
  refine lv_iload_n hM.1 hM.2.1 dX12_looksFor_1 rfl (lv_at hl 2 rfl) ?_
  refine x_callVIr (rest := []) hM hw (ct_X12_manOf l ho a2) [.int a2] (okX12.o ho) rfl rfl rfl (gi_V ml_X12_373 im_X12_manOf sl_X12_manOf in_X12 kc_X12_manOf) hd_X12_manOf rfl ⟨Nat.le_of_ble_eq_true rfl, Nat.le_of_ble_eq_true rfl⟩ rfl (Nat.le_of_ble_eq_true rfl) hl.1 hcs0 hf dX12_looksFor_2 (fun r1 H locs hf hw => ?_)
  refine x_istore_n hM hf dX12_looksFor_5 rfl hl (by decide) (fun v2 => [(3, .int v2), (0, .ref (ad 0)), (1, .int a1), (2, .int a2)]) (fun _ => rfl) (fun v2 ls hf hl => ?_)
  refine lv_aload_n hM.1 hM.2.1 dX12_looksFor_6 rfl (lv_at hl 1 rfl) ?_
  refine lv_iload_n hM.1 hM.2.1 dX12_looksFor_7 rfl (lv_at hl 2 rfl) ?_
  refine lv_iload_n hM.1 hM.2.1 dX12_looksFor_8 rfl (lv_at hl 0 rfl) ?_
  refine lv_aload_n hM.1 hM.2.1 dX12_looksFor_9 rfl (lv_at hl 1 rfl) ?_
  refine gf_X12_dutyHours hM hw (okX12.o ho) fl_X12_89 dX12_looksFor_10 ?_
  refine lv_bipush (v := 9) hM.1 hM.2.1 dX12_looksFor_13 (by decide) ?_
  refine lv_aload_n hM.1 hM.2.1 dX12_looksFor_15 rfl (lv_at hl 1 rfl) ?_
  refine gf_X12_live hM hw (okX12.o ho) fl_X12_266 dX12_looksFor_16 ?_
  refine lv_imul hM.1 hM.2.1 dX12_looksFor_19 ?_
  refine lv_iload_n hM.1 hM.2.1 dX12_looksFor_20 rfl (lv_at hl 3 rfl) ?_
  refine lv_iadd hM.1 hM.2.1 dX12_looksFor_21 ?_
  refine x_iald hM hw (okX12.dutyHours ho) hf dX12_looksFor_22 (fun hf => ?_)
  refine lv_aload_n hM.1 hM.2.1 dX12_looksFor_23 rfl (lv_at hl 1 rfl) ?_
  refine lv_iload_n hM.1 hM.2.1 dX12_looksFor_24 rfl (lv_at hl 0 rfl) ?_
  refine lv_aload_n hM.1 hM.2.1 dX12_looksFor_25 rfl (lv_at hl 1 rfl) ?_
  refine gf_X12_kindOf hM hw (okX12.o ho) fl_X12_70 dX12_looksFor_26 ?_
  refine lv_bipush (v := 7) hM.1 hM.2.1 dX12_looksFor_29 (by decide) ?_
  refine lv_aload_n hM.1 hM.2.1 dX12_looksFor_31 rfl (lv_at hl 1 rfl) ?_
  refine gf_X12_live hM hw (okX12.o ho) fl_X12_266 dX12_looksFor_32 ?_
  refine lv_imul hM.1 hM.2.1 dX12_looksFor_35 ?_
  refine lv_iload_n hM.1 hM.2.1 dX12_looksFor_36 rfl (lv_at hl 2 rfl) ?_
  refine lv_iadd hM.1 hM.2.1 dX12_looksFor_37 ?_
  refine x_iald hM hw (okX12.kindOf ho) hf dX12_looksFor_38 (fun hf => ?_)
  refine lv_aload_n hM.1 hM.2.1 dX12_looksFor_39 rfl (lv_at hl 1 rfl) ?_
  refine gf_X12_row hM hw (okX12.o ho) fl_X12_149 dX12_looksFor_40 ?_
  refine lv_iconst (v := 0) hM.1 hM.2.1 dX12_looksFor_43 ic_0 ?_
  refine x_ialdK hM hw (okX12.row ho) 0 (by decide) (by decide) dX12_looksFor_44 ?_
  refine x_callVIr (rest := [.int (h.1 24 ((9 * (h.1 0 18)) + a2).toNatClampNeg), .int v2, .int a1, .ref (ad 0)]) hM hw (ct_X12_heardBy l ho v2 (h.1 18 ((7 * (h.1 0 18)) + a1).toNatClampNeg) (h.1 44 0)) [.int v2, .int (h.1 18 ((7 * (h.1 0 18)) + a1).toNatClampNeg), .int (h.1 44 0)] (okX12.o ho) rfl rfl rfl (gi_V ml_X12_394 im_X12_heardBy sl_X12_heardBy in_X12 kc_X12_heardBy) hd_X12_heardBy rfl ⟨Nat.le_of_ble_eq_true rfl, Nat.le_of_ble_eq_true rfl⟩ rfl (Nat.le_of_ble_eq_true rfl) hl.1 hcs0 hf dX12_looksFor_45 (fun r3 H locs hf hw => ?_)
  refine x_callVV (rest := []) hM hw (ct_X12_looks l ho a1 v2 (h.1 24 ((9 * (h.1 0 18)) + a2).toNatClampNeg) r3) [.int a1, .int v2, .int (h.1 24 ((9 * (h.1 0 18)) + a2).toNatClampNeg), .int r3] (okX12.o ho) rfl rfl rfl (gi_V ml_X12_397 im_X12_looks sl_X12_looks in_X12 kc_X12_looks) hd_X12_looks rfl ⟨Nat.le_of_ble_eq_true rfl, Nat.le_of_ble_eq_true rfl⟩ rfl (Nat.le_of_ble_eq_true rfl) hl.1 hcs0 hf dX12_looksFor_48 (fun h4 H locs hf hw => ?_)
  exact hR _ _ _ _ _ (Option.some.inj hf) rfl hw dX12_looksFor_51
theorem hd_X12_looksFor : yX12_looksFor.cls = RX12 ∧ yX12_looksFor.cls ≠ "java/lang/invoke/MethodHandle" ∧ yX12_looksFor.cls ≠ "java/lang/invoke/VarHandle" ∧ (parseMethodDescriptor yX12_looksFor.desc).map (fun d => d.parameters.length) = some 2 := ⟨rfl, by decide, by decide, by decide +kernel⟩
theorem dX12_passesNow_0 : decode cX12_passesNow 0 = .ok (.aload_n 0, 1) := by decide +kernel
theorem dX12_passesNow_1 : decode cX12_passesNow 1 = .ok (.getfield 149, 3) := by decide +kernel
theorem dX12_passesNow_4 : decode cX12_passesNow 4 = .ok (.iconst 0, 1) := by decide +kernel
theorem dX12_passesNow_5 : decode cX12_passesNow 5 = .ok (.iaload, 1) := by decide +kernel
theorem dX12_passesNow_6 : decode cX12_passesNow 6 = .ok (.aload_n 0, 1) := by decide +kernel
theorem dX12_passesNow_7 : decode cX12_passesNow 7 = .ok (.getfield 67, 3) := by decide +kernel
theorem dX12_passesNow_10 : decode cX12_passesNow 10 = .ok (.bipush 7, 2) := by decide +kernel
theorem dX12_passesNow_12 : decode cX12_passesNow 12 = .ok (.aload_n 0, 1) := by decide +kernel
theorem dX12_passesNow_13 : decode cX12_passesNow 13 = .ok (.getfield 266, 3) := by decide +kernel
theorem dX12_passesNow_16 : decode cX12_passesNow 16 = .ok (.imul, 1) := by decide +kernel
theorem dX12_passesNow_17 : decode cX12_passesNow 17 = .ok (.iload_n 1, 1) := by decide +kernel
theorem dX12_passesNow_18 : decode cX12_passesNow 18 = .ok (.iadd, 1) := by decide +kernel
theorem dX12_passesNow_19 : decode cX12_passesNow 19 = .ok (.iaload, 1) := by decide +kernel
theorem dX12_passesNow_20 : decode cX12_passesNow 20 = .ok (.if_icmp .le 5, 3) := by decide +kernel
theorem dX12_passesNow_23 : decode cX12_passesNow 23 = .ok (.iconst 0, 1) := by decide +kernel
theorem dX12_passesNow_24 : decode cX12_passesNow 24 = .ok (.ireturn, 1) := by decide +kernel
theorem dX12_passesNow_25 : decode cX12_passesNow 25 = .ok (.aload_n 0, 1) := by decide +kernel
theorem dX12_passesNow_26 : decode cX12_passesNow 26 = .ok (.iload_n 1, 1) := by decide +kernel
theorem dX12_passesNow_27 : decode cX12_passesNow 27 = .ok (.iload_n 2, 1) := by decide +kernel
theorem dX12_passesNow_28 : decode cX12_passesNow 28 = .ok (.invokevirtual 401, 3) := by decide +kernel
theorem dX12_passesNow_31 : decode cX12_passesNow 31 = .ok (.aload_n 0, 1) := by decide +kernel
theorem dX12_passesNow_32 : decode cX12_passesNow 32 = .ok (.iconst 0, 1) := by decide +kernel
theorem dX12_passesNow_33 : decode cX12_passesNow 33 = .ok (.bipush 50, 2) := by decide +kernel
theorem dX12_passesNow_35 : decode cX12_passesNow 35 = .ok (.bipush 100, 2) := by decide +kernel
theorem dX12_passesNow_37 : decode cX12_passesNow 37 = .ok (.invokevirtual 404, 3) := by decide +kernel
theorem dX12_passesNow_40 : decode cX12_passesNow 40 = .ok (.ireturn, 1) := by decide +kernel
def c_X12_passesNow (a1 : Int32) (a2 : Int32) (h : PH) : Option (Int32 × PH) :=
  gd (ixOK ((7 * (h.1 0 18)) + a1) 14) <|
  if (h.1 44 0) ≤ (h.1 17 ((7 * (h.1 0 18)) + a1).toNatClampNeg) then
    (c_X12_looksFor a1 a2 h).bind fun h1 =>
    bind2 (c_X12_asks 0 50 100 h1) fun r2 h3 =>
    some (r2, h3)
  else
    some (0, h)
set_option maxHeartbeats 4000000 in
set_option maxRecDepth 100000 in
theorem ct_X12_passesNow (l : Launch) {lay : List KK} (ho : okX12 lay) (a1 : Int32) (a2 : Int32) : CtI l yX12_passesNow cX12_passesNow 3 (some .int) 5 113 lay (fun h => c_X12_passesNow a1 a2 h) (fun ad => [.ref (ad 0), .int a1, .int a2]) := by
  refine CtI.mk' RX12 (by decide) rfl (fun _ => Nat.le_of_ble_eq_true rfl) ?_
  intro p0 e s m args below meth c D G A H0 ad X h r0 H ls Q hM hw hl hf hR
  have hl : lv_has ls 3 [(0, .ref (ad 0)), (1, .int a1), (2, .int a2)] := hl
  unfold c_X12_passesNow at hf
  refine lv_aload_n hM.1 hM.2.1 dX12_passesNow_0 rfl (lv_at hl 0 rfl) ?_
  refine gf_X12_row hM hw (okX12.o ho) fl_X12_149 dX12_passesNow_1 ?_
  refine lv_iconst (v := 0) hM.1 hM.2.1 dX12_passesNow_4 ic_0 ?_
  refine x_ialdK hM hw (okX12.row ho) 0 (by decide) (by decide) dX12_passesNow_5 ?_
  refine lv_aload_n hM.1 hM.2.1 dX12_passesNow_6 rfl (lv_at hl 0 rfl) ?_
  refine gf_X12_goodOf hM hw (okX12.o ho) fl_X12_67 dX12_passesNow_7 ?_
  refine lv_bipush (v := 7) hM.1 hM.2.1 dX12_passesNow_10 (by decide) ?_
  refine lv_aload_n hM.1 hM.2.1 dX12_passesNow_12 rfl (lv_at hl 0 rfl) ?_
  refine gf_X12_live hM hw (okX12.o ho) fl_X12_266 dX12_passesNow_13 ?_
  refine lv_imul hM.1 hM.2.1 dX12_passesNow_16 ?_
  refine lv_iload_n hM.1 hM.2.1 dX12_passesNow_17 rfl (lv_at hl 1 rfl) ?_
  refine lv_iadd hM.1 hM.2.1 dX12_passesNow_18 ?_
  refine x_iald hM hw (okX12.goodOf ho) hf dX12_passesNow_19 (fun hf => ?_)
  refine x_ic_le (tgt := 25) hM hf dX12_passesNow_20 (by decide) (fun hf => ?_) (fun hf => ?_)
  · refine lv_aload_n hM.1 hM.2.1 dX12_passesNow_25 rfl (lv_at hl 0 rfl) ?_
    refine lv_iload_n hM.1 hM.2.1 dX12_passesNow_26 rfl (lv_at hl 1 rfl) ?_
    refine lv_iload_n hM.1 hM.2.1 dX12_passesNow_27 rfl (lv_at hl 2 rfl) ?_
    refine x_callVV (rest := []) hM hw (ct_X12_looksFor l ho a1 a2) [.int a1, .int a2] (okX12.o ho) rfl rfl rfl (gi_V ml_X12_401 im_X12_looksFor sl_X12_looksFor in_X12 kc_X12_looksFor) hd_X12_looksFor rfl ⟨Nat.le_of_ble_eq_true rfl, Nat.le_of_ble_eq_true rfl⟩ rfl (Nat.le_of_ble_eq_true rfl) hl.1 hcs0 hf dX12_passesNow_28 (fun h1 H locs hf hw => ?_)
    refine lv_aload_n hM.1 hM.2.1 dX12_passesNow_31 rfl (lv_at hl 0 rfl) ?_
    refine lv_iconst (v := 0) hM.1 hM.2.1 dX12_passesNow_32 ic_0 ?_
    refine lv_bipush (v := 50) hM.1 hM.2.1 dX12_passesNow_33 (by decide) ?_
    refine lv_bipush (v := 100) hM.1 hM.2.1 dX12_passesNow_35 (by decide) ?_
    refine x_callVI (rest := []) hM hw (ct_X12_asks l ho 0 50 100) [.int 0, .int 50, .int 100] (okX12.o ho) rfl rfl rfl (gi_V ml_X12_404 im_X12_asks sl_X12_asks in_X12 kc_X12_asks) hd_X12_asks rfl ⟨Nat.le_of_ble_eq_true rfl, Nat.le_of_ble_eq_true rfl⟩ rfl (Nat.le_of_ble_eq_true rfl) hl.1 hcs0 hf dX12_passesNow_37 (fun r2 h3 H locs hf hw => ?_)
    exact hR _ _ _ _ _ _ _ (Option.some.inj hf) rfl rfl hw dX12_passesNow_40
  refine lv_iconst (v := 0) hM.1 hM.2.1 dX12_passesNow_23 ic_0 ?_
  exact hR _ _ _ _ _ _ _ (Option.some.inj hf) rfl rfl hw dX12_passesNow_24
theorem hd_X12_passesNow : yX12_passesNow.cls = RX12 ∧ yX12_passesNow.cls ≠ "java/lang/invoke/MethodHandle" ∧ yX12_passesNow.cls ≠ "java/lang/invoke/VarHandle" ∧ (parseMethodDescriptor yX12_passesNow.desc).map (fun d => d.parameters.length) = some 2 := ⟨rfl, by decide, by decide, by decide +kernel⟩
theorem dX12_wearsNow_0 : decode cX12_wearsNow 0 = .ok (.aload_n 0, 1) := by decide +kernel
theorem dX12_wearsNow_1 : decode cX12_wearsNow 1 = .ok (.iload_n 1, 1) := by decide +kernel
theorem dX12_wearsNow_2 : decode cX12_wearsNow 2 = .ok (.iload_n 2, 1) := by decide +kernel
theorem dX12_wearsNow_3 : decode cX12_wearsNow 3 = .ok (.invokevirtual 401, 3) := by decide +kernel
theorem dX12_wearsNow_6 : decode cX12_wearsNow 6 = .ok (.aload_n 0, 1) := by decide +kernel
theorem dX12_wearsNow_7 : decode cX12_wearsNow 7 = .ok (.iconst 1, 1) := by decide +kernel
theorem dX12_wearsNow_8 : decode cX12_wearsNow 8 = .ok (.bipush 10, 2) := by decide +kernel
theorem dX12_wearsNow_10 : decode cX12_wearsNow 10 = .ok (.bipush 99, 2) := by decide +kernel
theorem dX12_wearsNow_12 : decode cX12_wearsNow 12 = .ok (.invokevirtual 404, 3) := by decide +kernel
theorem dX12_wearsNow_15 : decode cX12_wearsNow 15 = .ok (.ireturn, 1) := by decide +kernel
def c_X12_wearsNow (a1 : Int32) (a2 : Int32) (h : PH) : Option (Int32 × PH) :=
  (c_X12_looksFor a1 a2 h).bind fun h1 =>
  bind2 (c_X12_asks 1 10 99 h1) fun r2 h3 =>
  some (r2, h3)
set_option maxHeartbeats 4000000 in
set_option maxRecDepth 100000 in
theorem ct_X12_wearsNow (l : Launch) {lay : List KK} (ho : okX12 lay) (a1 : Int32) (a2 : Int32) : CtI l yX12_wearsNow cX12_wearsNow 3 (some .int) 5 113 lay (fun h => c_X12_wearsNow a1 a2 h) (fun ad => [.ref (ad 0), .int a1, .int a2]) := by
  refine CtI.mk' RX12 (by decide) rfl (fun _ => Nat.le_of_ble_eq_true rfl) ?_
  intro p0 e s m args below meth c D G A H0 ad X h r0 H ls Q hM hw hl hf hR
  have hl : lv_has ls 3 [(0, .ref (ad 0)), (1, .int a1), (2, .int a2)] := hl
  unfold c_X12_wearsNow at hf
  refine lv_aload_n hM.1 hM.2.1 dX12_wearsNow_0 rfl (lv_at hl 0 rfl) ?_
  refine lv_iload_n hM.1 hM.2.1 dX12_wearsNow_1 rfl (lv_at hl 1 rfl) ?_
  refine lv_iload_n hM.1 hM.2.1 dX12_wearsNow_2 rfl (lv_at hl 2 rfl) ?_
  refine x_callVV (rest := []) hM hw (ct_X12_looksFor l ho a1 a2) [.int a1, .int a2] (okX12.o ho) rfl rfl rfl (gi_V ml_X12_401 im_X12_looksFor sl_X12_looksFor in_X12 kc_X12_looksFor) hd_X12_looksFor rfl ⟨Nat.le_of_ble_eq_true rfl, Nat.le_of_ble_eq_true rfl⟩ rfl (Nat.le_of_ble_eq_true rfl) hl.1 hcs0 hf dX12_wearsNow_3 (fun h1 H locs hf hw => ?_)
  refine lv_aload_n hM.1 hM.2.1 dX12_wearsNow_6 rfl (lv_at hl 0 rfl) ?_
  refine lv_iconst (v := 1) hM.1 hM.2.1 dX12_wearsNow_7 ic_1 ?_
  refine lv_bipush (v := 10) hM.1 hM.2.1 dX12_wearsNow_8 (by decide) ?_
  refine lv_bipush (v := 99) hM.1 hM.2.1 dX12_wearsNow_10 (by decide) ?_
  refine x_callVI (rest := []) hM hw (ct_X12_asks l ho 1 10 99) [.int 1, .int 10, .int 99] (okX12.o ho) rfl rfl rfl (gi_V ml_X12_404 im_X12_asks sl_X12_asks in_X12 kc_X12_asks) hd_X12_asks rfl ⟨Nat.le_of_ble_eq_true rfl, Nat.le_of_ble_eq_true rfl⟩ rfl (Nat.le_of_ble_eq_true rfl) hl.1 hcs0 hf dX12_wearsNow_12 (fun r2 h3 H locs hf hw => ?_)
  exact hR _ _ _ _ _ _ _ (Option.some.inj hf) rfl rfl hw dX12_wearsNow_15
theorem hd_X12_wearsNow : yX12_wearsNow.cls = RX12 ∧ yX12_wearsNow.cls ≠ "java/lang/invoke/MethodHandle" ∧ yX12_wearsNow.cls ≠ "java/lang/invoke/VarHandle" ∧ (parseMethodDescriptor yX12_wearsNow.desc).map (fun d => d.parameters.length) = some 2 := ⟨rfl, by decide, by decide, by decide +kernel⟩
theorem dX12_lessTrust_0 : decode cX12_lessTrust 0 = .ok (.aload_n 0, 1) := by decide +kernel
theorem dX12_lessTrust_1 : decode cX12_lessTrust 1 = .ok (.getfield 149, 3) := by decide +kernel
theorem dX12_lessTrust_4 : decode cX12_lessTrust 4 = .ok (.bipush 31, 2) := by decide +kernel
theorem dX12_lessTrust_6 : decode cX12_lessTrust 6 = .ok (.iload_n 1, 1) := by decide +kernel
theorem dX12_lessTrust_7 : decode cX12_lessTrust 7 = .ok (.iadd, 1) := by decide +kernel
theorem dX12_lessTrust_8 : decode cX12_lessTrust 8 = .ok (.aload_n 0, 1) := by decide +kernel
theorem dX12_lessTrust_9 : decode cX12_lessTrust 9 = .ok (.getfield 149, 3) := by decide +kernel
theorem dX12_lessTrust_12 : decode cX12_lessTrust 12 = .ok (.bipush 31, 2) := by decide +kernel
theorem dX12_lessTrust_14 : decode cX12_lessTrust 14 = .ok (.iload_n 1, 1) := by decide +kernel
theorem dX12_lessTrust_15 : decode cX12_lessTrust 15 = .ok (.iadd, 1) := by decide +kernel
theorem dX12_lessTrust_16 : decode cX12_lessTrust 16 = .ok (.iaload, 1) := by decide +kernel
theorem dX12_lessTrust_17 : decode cX12_lessTrust 17 = .ok (.iload_n 2, 1) := by decide +kernel
theorem dX12_lessTrust_18 : decode cX12_lessTrust 18 = .ok (.if_icmp .le 17, 3) := by decide +kernel
theorem dX12_lessTrust_21 : decode cX12_lessTrust 21 = .ok (.aload_n 0, 1) := by decide +kernel
theorem dX12_lessTrust_22 : decode cX12_lessTrust 22 = .ok (.getfield 149, 3) := by decide +kernel
theorem dX12_lessTrust_25 : decode cX12_lessTrust 25 = .ok (.bipush 31, 2) := by decide +kernel
theorem dX12_lessTrust_27 : decode cX12_lessTrust 27 = .ok (.iload_n 1, 1) := by decide +kernel
theorem dX12_lessTrust_28 : decode cX12_lessTrust 28 = .ok (.iadd, 1) := by decide +kernel
theorem dX12_lessTrust_29 : decode cX12_lessTrust 29 = .ok (.iaload, 1) := by decide +kernel
theorem dX12_lessTrust_30 : decode cX12_lessTrust 30 = .ok (.iload_n 2, 1) := by decide +kernel
theorem dX12_lessTrust_31 : decode cX12_lessTrust 31 = .ok (.isub, 1) := by decide +kernel
theorem dX12_lessTrust_32 : decode cX12_lessTrust 32 = .ok (.goto 4, 3) := by decide +kernel
theorem dX12_lessTrust_35 : decode cX12_lessTrust 35 = .ok (.iconst 0, 1) := by decide +kernel
theorem dX12_lessTrust_36 : decode cX12_lessTrust 36 = .ok (.iastore, 1) := by decide +kernel
theorem dX12_lessTrust_37 : decode cX12_lessTrust 37 = .ok (.return_, 1) := by decide +kernel
def c_X12_lessTrust (a1 : Int32) (a2 : Int32) (h : PH) : Option (PH) :=
  gd (ixOK (31 + a1) 40) <|
  if (h.1 44 (31 + a1).toNatClampNeg) ≤ a2 then
    gd (ixOK (31 + a1) 40) <| nm (setI h 44 (31 + a1).toNatClampNeg 0) fun h1 =>
    some h1
  else
    gd (ixOK (31 + a1) 40) <|
    gd (ixOK (31 + a1) 40) <| nm (setI h 44 (31 + a1).toNatClampNeg ((h.1 44 (31 + a1).toNatClampNeg) - a2)) fun h2 =>
    some h2
set_option maxHeartbeats 4000000 in
set_option maxRecDepth 100000 in
theorem ct_X12_lessTrust (l : Launch) {lay : List KK} (ho : okX12 lay) (a1 : Int32) (a2 : Int32) : CtV l yX12_lessTrust cX12_lessTrust 3 (none) 0 0 lay (fun h => c_X12_lessTrust a1 a2 h) (fun ad => [.ref (ad 0), .int a1, .int a2]) := by
  refine CtV.mk' RX12 (by decide) rfl (fun _ => Nat.le_of_ble_eq_true rfl) ?_
  intro p0 e s m args below meth c D G A H0 ad X h r0 H ls Q hM hw hl hf hR
  have hl : lv_has ls 3 [(0, .ref (ad 0)), (1, .int a1), (2, .int a2)] := hl
  unfold c_X12_lessTrust at hf
  refine lv_aload_n hM.1 hM.2.1 dX12_lessTrust_0 rfl (lv_at hl 0 rfl) ?_
  refine gf_X12_row hM hw (okX12.o ho) fl_X12_149 dX12_lessTrust_1 ?_
  refine lv_bipush (v := 31) hM.1 hM.2.1 dX12_lessTrust_4 (by decide) ?_
  refine lv_iload_n hM.1 hM.2.1 dX12_lessTrust_6 rfl (lv_at hl 1 rfl) ?_
  refine lv_iadd hM.1 hM.2.1 dX12_lessTrust_7 ?_
  refine lv_aload_n hM.1 hM.2.1 dX12_lessTrust_8 rfl (lv_at hl 0 rfl) ?_
  refine gf_X12_row hM hw (okX12.o ho) fl_X12_149 dX12_lessTrust_9 ?_
  refine lv_bipush (v := 31) hM.1 hM.2.1 dX12_lessTrust_12 (by decide) ?_
  refine lv_iload_n hM.1 hM.2.1 dX12_lessTrust_14 rfl (lv_at hl 1 rfl) ?_
  refine lv_iadd hM.1 hM.2.1 dX12_lessTrust_15 ?_
  refine x_iald hM hw (okX12.row ho) hf dX12_lessTrust_16 (fun hf => ?_)
  refine lv_iload_n hM.1 hM.2.1 dX12_lessTrust_17 rfl (lv_at hl 2 rfl) ?_
  refine x_ic_le (tgt := 35) hM hf dX12_lessTrust_18 (by decide) (fun hf => ?_) (fun hf => ?_)
  · refine lv_iconst (v := 0) hM.1 hM.2.1 dX12_lessTrust_35 ic_0 ?_
    refine x_iast hM hw (okX12.row ho) hf dX12_lessTrust_36 (fun h1 H locs hf hw => ?_)
    exact hR _ _ _ _ _ (Option.some.inj hf) rfl hw dX12_lessTrust_37
  refine lv_aload_n hM.1 hM.2.1 dX12_lessTrust_21 rfl (lv_at hl 0 rfl) ?_
  refine gf_X12_row hM hw (okX12.o ho) fl_X12_149 dX12_lessTrust_22 ?_
  refine lv_bipush (v := 31) hM.1 hM.2.1 dX12_lessTrust_25 (by decide) ?_
  refine lv_iload_n hM.1 hM.2.1 dX12_lessTrust_27 rfl (lv_at hl 1 rfl) ?_
  refine lv_iadd hM.1 hM.2.1 dX12_lessTrust_28 ?_
  refine x_iald hM hw (okX12.row ho) hf dX12_lessTrust_29 (fun hf => ?_)
  refine lv_iload_n hM.1 hM.2.1 dX12_lessTrust_30 rfl (lv_at hl 2 rfl) ?_
  refine lv_isub hM.1 hM.2.1 dX12_lessTrust_31 ?_
  refine lv_goto (tgt := 36) hM.1 hM.2.1 dX12_lessTrust_32 (by decide) ?_
  refine x_iast hM hw (okX12.row ho) hf dX12_lessTrust_36 (fun h2 H locs hf hw => ?_)
  exact hR _ _ _ _ _ (Option.some.inj hf) rfl hw dX12_lessTrust_37
theorem hd_X12_lessTrust : yX12_lessTrust.cls = RX12 ∧ yX12_lessTrust.cls ≠ "java/lang/invoke/MethodHandle" ∧ yX12_lessTrust.cls ≠ "java/lang/invoke/VarHandle" ∧ (parseMethodDescriptor yX12_lessTrust.desc).map (fun d => d.parameters.length) = some 2 := ⟨rfl, by decide, by decide, by decide +kernel⟩
theorem dX12_mendsAll_0 : decode cX12_mendsAll 0 = .ok (.iconst 0, 1) := by decide +kernel
theorem dX12_mendsAll_1 : decode cX12_mendsAll 1 = .ok (.istore_n 1, 1) := by decide +kernel
theorem dX12_mendsAll_2 : decode cX12_mendsAll 2 = .ok (.iload_n 1, 1) := by decide +kernel
theorem dX12_mendsAll_3 : decode cX12_mendsAll 3 = .ok (.aload_n 0, 1) := by decide +kernel
theorem dX12_mendsAll_4 : decode cX12_mendsAll 4 = .ok (.getfield 49, 3) := by decide +kernel
theorem dX12_mendsAll_7 : decode cX12_mendsAll 7 = .ok (.aload_n 0, 1) := by decide +kernel
theorem dX12_mendsAll_8 : decode cX12_mendsAll 8 = .ok (.getfield 266, 3) := by decide +kernel
theorem dX12_mendsAll_11 : decode cX12_mendsAll 11 = .ok (.iaload, 1) := by decide +kernel
theorem dX12_mendsAll_12 : decode cX12_mendsAll 12 = .ok (.if_icmp .ge 54, 3) := by decide +kernel
theorem dX12_mendsAll_15 : decode cX12_mendsAll 15 = .ok (.aload_n 0, 1) := by decide +kernel
theorem dX12_mendsAll_16 : decode cX12_mendsAll 16 = .ok (.getfield 149, 3) := by decide +kernel
theorem dX12_mendsAll_19 : decode cX12_mendsAll 19 = .ok (.bipush 31, 2) := by decide +kernel
theorem dX12_mendsAll_21 : decode cX12_mendsAll 21 = .ok (.iload_n 1, 1) := by decide +kernel
theorem dX12_mendsAll_22 : decode cX12_mendsAll 22 = .ok (.iadd, 1) := by decide +kernel
theorem dX12_mendsAll_23 : decode cX12_mendsAll 23 = .ok (.iaload, 1) := by decide +kernel
theorem dX12_mendsAll_24 : decode cX12_mendsAll 24 = .ok (.aload_n 0, 1) := by decide +kernel
theorem dX12_mendsAll_25 : decode cX12_mendsAll 25 = .ok (.getfield 55, 3) := by decide +kernel
theorem dX12_mendsAll_28 : decode cX12_mendsAll 28 = .ok (.iconst 5, 1) := by decide +kernel
theorem dX12_mendsAll_29 : decode cX12_mendsAll 29 = .ok (.aload_n 0, 1) := by decide +kernel
theorem dX12_mendsAll_30 : decode cX12_mendsAll 30 = .ok (.getfield 266, 3) := by decide +kernel
theorem dX12_mendsAll_33 : decode cX12_mendsAll 33 = .ok (.imul, 1) := by decide +kernel
theorem dX12_mendsAll_34 : decode cX12_mendsAll 34 = .ok (.iload_n 1, 1) := by decide +kernel
theorem dX12_mendsAll_35 : decode cX12_mendsAll 35 = .ok (.iadd, 1) := by decide +kernel
theorem dX12_mendsAll_36 : decode cX12_mendsAll 36 = .ok (.iaload, 1) := by decide +kernel
theorem dX12_mendsAll_37 : decode cX12_mendsAll 37 = .ok (.iadd, 1) := by decide +kernel
theorem dX12_mendsAll_38 : decode cX12_mendsAll 38 = .ok (.istore_n 2, 1) := by decide +kernel
theorem dX12_mendsAll_39 : decode cX12_mendsAll 39 = .ok (.aload_n 0, 1) := by decide +kernel
theorem dX12_mendsAll_40 : decode cX12_mendsAll 40 = .ok (.getfield 149, 3) := by decide +kernel
theorem dX12_mendsAll_43 : decode cX12_mendsAll 43 = .ok (.bipush 31, 2) := by decide +kernel
theorem dX12_mendsAll_45 : decode cX12_mendsAll 45 = .ok (.iload_n 1, 1) := by decide +kernel
theorem dX12_mendsAll_46 : decode cX12_mendsAll 46 = .ok (.iadd, 1) := by decide +kernel
theorem dX12_mendsAll_47 : decode cX12_mendsAll 47 = .ok (.iload_n 2, 1) := by decide +kernel
theorem dX12_mendsAll_48 : decode cX12_mendsAll 48 = .ok (.bipush 99, 2) := by decide +kernel
theorem dX12_mendsAll_50 : decode cX12_mendsAll 50 = .ok (.if_icmp .le 8, 3) := by decide +kernel
theorem dX12_mendsAll_53 : decode cX12_mendsAll 53 = .ok (.bipush 99, 2) := by decide +kernel
theorem dX12_mendsAll_55 : decode cX12_mendsAll 55 = .ok (.goto 4, 3) := by decide +kernel
theorem dX12_mendsAll_58 : decode cX12_mendsAll 58 = .ok (.iload_n 2, 1) := by decide +kernel
theorem dX12_mendsAll_59 : decode cX12_mendsAll 59 = .ok (.iastore, 1) := by decide +kernel
theorem dX12_mendsAll_60 : decode cX12_mendsAll 60 = .ok (.iinc 1 1, 3) := by decide +kernel
theorem dX12_mendsAll_63 : decode cX12_mendsAll 63 = .ok (.goto (-61), 3) := by decide +kernel
theorem dX12_mendsAll_66 : decode cX12_mendsAll 66 = .ok (.return_, 1) := by decide +kernel
def c_X12_mendsAll_L2b {ρ : Type}  (K1 : PH → Option ρ) (REC : Int32 → PH → Option ρ) (x1 : Int32) (h : PH) : Option ρ :=
  gd (ixOK (h.1 0 18) 2) <|
  if (h.1 11 (h.1 0 18).toNatClampNeg) ≤ x1 then
    K1 h
  else
    gd (ixOK (31 + x1) 40) <|
    gd (ixOK ((5 * (h.1 0 18)) + x1) 10) <|
    nm ((h.1 44 (31 + x1).toNatClampNeg) + (h.1 13 ((5 * (h.1 0 18)) + x1).toNatClampNeg)) fun v2 =>
    if v2 ≤ 99 then
      gd (ixOK (31 + x1) 40) <| nm (setI h 44 (31 + x1).toNatClampNeg v2) fun h3 =>
      nm (x1 + 1) fun v4 =>
      REC v4 h3
    else
      gd (ixOK (31 + x1) 40) <| nm (setI h 44 (31 + x1).toNatClampNeg 99) fun h5 =>
      nm (x1 + 1) fun v6 =>
      REC v6 h5
set_option maxHeartbeats 4000000 in
set_option maxRecDepth 100000 in
theorem w_X12_mendsAll_L2b {p0 : Program} {l : Launch} {e : Env} {s : State} {m : MethodId} {args : Array Value} {below : List Frame} {meth : Method} {c : Code} {Q : State → Prop} {D : va_G} {G : GG} {A : Nat → Prop} {H0 : Heap} {ad : Nat → Nat} {lay : List KK} {X : va_W} {ρ : Type} {r0 : ρ} {x1 : Int32} {h : PH} {H : Heap} {locs : List Loc} {ls : Array Slot} {K1 : PH → Option ρ} {REC : Int32 → PH → Option ρ} (hM : CallFix p0 m c cX12_mendsAll 3 s args lw_g RX12) (ho : okX12 lay) (hk1 : ∀ (h : PH), ∀ (H : Heap) (locs : List Loc) (ls : Array Slot), K1 h = some r0 → Wd D G A H0 ad lay X h s H locs → lv_has ls 3 [] → W p0 l e (rmN 0 0) s m args below meth c H locs 0 0 Q (F0 m 66 ls [])) (hrec : ∀ (x1 : Int32) (h : PH), ∀ (H : Heap) (locs : List Loc) (ls : Array Slot), REC x1 h = some r0 → Wd D G A H0 ad lay X h s H locs → lv_has ls 3 [(0, .ref (ad 0)), (1, .int x1)] → W p0 l e (rmN 0 0) s m args below meth c H locs 0 0 Q (F0 m 2 ls [])) (hw : Wd D G A H0 ad lay X h s H locs) (hl : lv_has ls 3 [(0, .ref (ad 0)), (1, .int x1)]) (hf : c_X12_mendsAll_L2b K1 REC x1 h = some r0) : W p0 l e (rmN 0 0) s m args below meth c H locs 0 0 Q (F0 m 2 ls []) := by
  unfold c_X12_mendsAll_L2b at hf
  refine lv_iload_n hM.1 hM.2.1 dX12_mendsAll_2 rfl (lv_at hl 1 rfl) ?_
  refine lv_aload_n hM.1 hM.2.1 dX12_mendsAll_3 rfl (lv_at hl 0 rfl) ?_
  refine gf_X12_men hM hw (okX12.o ho) fl_X12_49 dX12_mendsAll_4 ?_
  refine lv_aload_n hM.1 hM.2.1 dX12_mendsAll_7 rfl (lv_at hl 0 rfl) ?_
  refine gf_X12_live hM hw (okX12.o ho) fl_X12_266 dX12_mendsAll_8 ?_
  refine x_iald hM hw (okX12.men ho) hf dX12_mendsAll_11 (fun hf => ?_)
  refine x_ic_ge (tgt := 66) hM hf dX12_mendsAll_12 (by decide) (fun hf => ?_) (fun hf => ?_)
  · exact hk1 _ _ _ _ hf hw (lv_sub hl [] rfl)
  refine lv_aload_n hM.1 hM.2.1 dX12_mendsAll_15 rfl (lv_at hl 0 rfl) ?_
  refine gf_X12_row hM hw (okX12.o ho) fl_X12_149 dX12_mendsAll_16 ?_
  refine lv_bipush (v := 31) hM.1 hM.2.1 dX12_mendsAll_19 (by decide) ?_
  refine lv_iload_n hM.1 hM.2.1 dX12_mendsAll_21 rfl (lv_at hl 1 rfl) ?_
  refine lv_iadd hM.1 hM.2.1 dX12_mendsAll_22 ?_
  refine x_iald hM hw (okX12.row ho) hf dX12_mendsAll_23 (fun hf => ?_)
  refine lv_aload_n hM.1 hM.2.1 dX12_mendsAll_24 rfl (lv_at hl 0 rfl) ?_
  refine gf_X12_mendsOf hM hw (okX12.o ho) fl_X12_55 dX12_mendsAll_25 ?_
  refine lv_iconst (v := 5) hM.1 hM.2.1 dX12_mendsAll_28 ic_5 ?_
  refine lv_aload_n hM.1 hM.2.1 dX12_mendsAll_29 rfl (lv_at hl 0 rfl) ?_
  refine gf_X12_live hM hw (okX12.o ho) fl_X12_266 dX12_mendsAll_30 ?_
  refine lv_imul hM.1 hM.2.1 dX12_mendsAll_33 ?_
  refine lv_iload_n hM.1 hM.2.1 dX12_mendsAll_34 rfl (lv_at hl 1 rfl) ?_
  refine lv_iadd hM.1 hM.2.1 dX12_mendsAll_35 ?_
  refine x_iald hM hw (okX12.mendsOf ho) hf dX12_mendsAll_36 (fun hf => ?_)
  refine lv_iadd hM.1 hM.2.1 dX12_mendsAll_37 ?_
  refine x_istore_n hM hf dX12_mendsAll_38 rfl hl (by decide) (fun v2 => [(2, .int v2), (0, .ref (ad 0)), (1, .int x1)]) (fun _ => rfl) (fun v2 ls hf hl => ?_)
  refine lv_aload_n hM.1 hM.2.1 dX12_mendsAll_39 rfl (lv_at hl 1 rfl) ?_
  refine gf_X12_row hM hw (okX12.o ho) fl_X12_149 dX12_mendsAll_40 ?_
  refine lv_bipush (v := 31) hM.1 hM.2.1 dX12_mendsAll_43 (by decide) ?_
  refine lv_iload_n hM.1 hM.2.1 dX12_mendsAll_45 rfl (lv_at hl 2 rfl) ?_
  refine lv_iadd hM.1 hM.2.1 dX12_mendsAll_46 ?_
  refine lv_iload_n hM.1 hM.2.1 dX12_mendsAll_47 rfl (lv_at hl 0 rfl) ?_
  refine lv_bipush (v := 99) hM.1 hM.2.1 dX12_mendsAll_48 (by decide) ?_
  refine x_ic_le (tgt := 58) hM hf dX12_mendsAll_50 (by decide) (fun hf => ?_) (fun hf => ?_)
  · refine lv_iload_n hM.1 hM.2.1 dX12_mendsAll_58 rfl (lv_at hl 0 rfl) ?_
    refine x_iast hM hw (okX12.row ho) hf dX12_mendsAll_59 (fun h3 H locs hf hw => ?_)
    refine x_iinc (k := 2) (d := 1) hM hf dX12_mendsAll_60 hl rfl (by decide) (by decide) (fun v4 => [(1, .int v4), (2, .int v2), (0, .ref (ad 0))]) (fun _ => rfl) (fun v4 ls hf hl => ?_)
    refine lv_goto (tgt := 2) hM.1 hM.2.1 dX12_mendsAll_63 (by decide) ?_
    exact hrec _ _ _ _ _ hf hw (lv_sub hl [2, 0] rfl)
  refine lv_bipush (v := 99) hM.1 hM.2.1 dX12_mendsAll_53 (by decide) ?_
  refine lv_goto (tgt := 59) hM.1 hM.2.1 dX12_mendsAll_55 (by decide) ?_
  refine x_iast hM hw (okX12.row ho) hf dX12_mendsAll_59 (fun h5 H locs hf hw => ?_)
  refine x_iinc (k := 2) (d := 1) hM hf dX12_mendsAll_60 hl rfl (by decide) (by decide) (fun v6 => [(1, .int v6), (2, .int v2), (0, .ref (ad 0))]) (fun _ => rfl) (fun v6 ls hf hl => ?_)
  refine lv_goto (tgt := 2) hM.1 hM.2.1 dX12_mendsAll_63 (by decide) ?_
  exact hrec _ _ _ _ _ hf hw (lv_sub hl [2, 0] rfl)
set_option maxHeartbeats 4000000 in
set_option maxRecDepth 100000 in
theorem w_X12_mendsAll_L2 {p0 : Program} {l : Launch} {e : Env} {s : State} {m : MethodId} {args : Array Value} {below : List Frame} {meth : Method} {c : Code} {Q : State → Prop} {D : va_G} {G : GG} {A : Nat → Prop} {H0 : Heap} {ad : Nat → Nat} {lay : List KK} {X : va_W} {ρ : Type} {r0 : ρ} {K1 : PH → Option ρ} (hM : CallFix p0 m c cX12_mendsAll 3 s args lw_g RX12) (ho : okX12 lay) (hk1 : ∀ (h : PH), ∀ (H : Heap) (locs : List Loc) (ls : Array Slot), K1 h = some r0 → Wd D G A H0 ad lay X h s H locs → lv_has ls 3 [] → W p0 l e (rmN 0 0) s m args below meth c H locs 0 0 Q (F0 m 66 ls [])) (n : Nat) (x1 : Int32) (h : PH) (hf : lq2 (c_X12_mendsAll_L2b K1) n x1 h = some r0) : ∀ (H : Heap) (locs : List Loc) (ls : Array Slot), Wd D G A H0 ad lay X h s H locs → lv_has ls 3 [(0, .ref (ad 0)), (1, .int x1)] → W p0 l e (rmN 0 0) s m args below meth c H locs 0 0 Q (F0 m 2 ls []) := by
  exact lq2_i (fun (x1 : Int32) (h : PH) => ∀ (H : Heap) (locs : List Loc) (ls : Array Slot), Wd D G A H0 ad lay X h s H locs → lv_has ls 3 [(0, .ref (ad 0)), (1, .int x1)] → W p0 l e (rmN 0 0) s m args below meth c H locs 0 0 Q (F0 m 2 ls [])) (fun REC x1 h ih hf H locs ls hw hl => w_X12_mendsAll_L2b hM ho hk1 (fun x1 h H locs ls hf hw hl => ih x1 h hf H locs ls hw hl) hw hl hf) n x1 h hf
def c_X12_mendsAll (h : PH) : Option (PH) :=
  nm (0 : Int32) fun v1 =>
  lq2 (c_X12_mendsAll_L2b
    (fun h7 =>
      some h7)) fu v1 h
set_option maxHeartbeats 4000000 in
set_option maxRecDepth 100000 in
theorem ct_X12_mendsAll (l : Launch) {lay : List KK} (ho : okX12 lay) : CtV l yX12_mendsAll cX12_mendsAll 3 (none) 0 0 lay (fun h => c_X12_mendsAll h) (fun ad => [.ref (ad 0)]) := by
  refine CtV.mk' RX12 (by decide) rfl (fun _ => Nat.le_of_ble_eq_true rfl) ?_
  intro p0 e s m args below meth c D G A H0 ad X h r0 H ls Q hM hw hl hf hR
  have hl : lv_has ls 3 [(0, .ref (ad 0))] := hl
  unfold c_X12_mendsAll at hf
  refine lv_iconst (v := 0) hM.1 hM.2.1 dX12_mendsAll_0 ic_0 ?_
  refine x_istore_n hM hf dX12_mendsAll_1 rfl hl (by decide) (fun v1 => [(1, .int v1), (0, .ref (ad 0))]) (fun _ => rfl) (fun v1 ls hf hl => ?_)
  refine w_X12_mendsAll_L2 hM ho (fun h7 H locs ls hf hw hl => ?_) fu _ _ hf _ _ _ hw (lv_sub hl [1, 0] rfl)
  exact hR _ _ _ _ _ (Option.some.inj hf) rfl hw dX12_mendsAll_66
theorem hd_X12_mendsAll : yX12_mendsAll.cls = RX12 ∧ yX12_mendsAll.cls ≠ "java/lang/invoke/MethodHandle" ∧ yX12_mendsAll.cls ≠ "java/lang/invoke/VarHandle" ∧ (parseMethodDescriptor yX12_mendsAll.desc).map (fun d => d.parameters.length) = some 0 := ⟨rfl, by decide, by decide, by decide +kernel⟩
theorem dX12_dutyGoes_0 : decode cX12_dutyGoes 0 = .ok (.aload_n 0, 1) := by decide +kernel
theorem dX12_dutyGoes_1 : decode cX12_dutyGoes 1 = .ok (.getfield 149, 3) := by decide +kernel
theorem dX12_dutyGoes_4 : decode cX12_dutyGoes 4 = .ok (.iconst 4, 1) := by decide +kernel
theorem dX12_dutyGoes_5 : decode cX12_dutyGoes 5 = .ok (.iload_n 1, 1) := by decide +kernel
theorem dX12_dutyGoes_6 : decode cX12_dutyGoes 6 = .ok (.iadd, 1) := by decide +kernel
theorem dX12_dutyGoes_7 : decode cX12_dutyGoes 7 = .ok (.iaload, 1) := by decide +kernel
theorem dX12_dutyGoes_8 : decode cX12_dutyGoes 8 = .ok (.istore_n 2, 1) := by decide +kernel
theorem dX12_dutyGoes_9 : decode cX12_dutyGoes 9 = .ok (.iload_n 2, 1) := by decide +kernel
theorem dX12_dutyGoes_10 : decode cX12_dutyGoes 10 = .ok (.ifCond .lt 16, 3) := by decide +kernel
theorem dX12_dutyGoes_13 : decode cX12_dutyGoes 13 = .ok (.aload_n 0, 1) := by decide +kernel
theorem dX12_dutyGoes_14 : decode cX12_dutyGoes 14 = .ok (.getfield 149, 3) := by decide +kernel
theorem dX12_dutyGoes_17 : decode cX12_dutyGoes 17 = .ok (.iconst 3, 1) := by decide +kernel
theorem dX12_dutyGoes_18 : decode cX12_dutyGoes 18 = .ok (.iaload, 1) := by decide +kernel
theorem dX12_dutyGoes_19 : decode cX12_dutyGoes 19 = .ok (.iload_n 2, 1) := by decide +kernel
theorem dX12_dutyGoes_20 : decode cX12_dutyGoes 20 = .ok (.ishr, 1) := by decide +kernel
theorem dX12_dutyGoes_21 : decode cX12_dutyGoes 21 = .ok (.iconst 1, 1) := by decide +kernel
theorem dX12_dutyGoes_22 : decode cX12_dutyGoes 22 = .ok (.iand, 1) := by decide +kernel
theorem dX12_dutyGoes_23 : decode cX12_dutyGoes 23 = .ok (.ifCond .ne 37, 3) := by decide +kernel
theorem dX12_dutyGoes_26 : decode cX12_dutyGoes 26 = .ok (.aload_n 0, 1) := by decide +kernel
theorem dX12_dutyGoes_27 : decode cX12_dutyGoes 27 = .ok (.getfield 149, 3) := by decide +kernel
theorem dX12_dutyGoes_30 : decode cX12_dutyGoes 30 = .ok (.bipush 13, 2) := by decide +kernel
theorem dX12_dutyGoes_32 : decode cX12_dutyGoes 32 = .ok (.iload_n 1, 1) := by decide +kernel
theorem dX12_dutyGoes_33 : decode cX12_dutyGoes 33 = .ok (.iadd, 1) := by decide +kernel
theorem dX12_dutyGoes_34 : decode cX12_dutyGoes 34 = .ok (.iconst 3, 1) := by decide +kernel
theorem dX12_dutyGoes_35 : decode cX12_dutyGoes 35 = .ok (.iastore, 1) := by decide +kernel
theorem dX12_dutyGoes_36 : decode cX12_dutyGoes 36 = .ok (.aload_n 0, 1) := by decide +kernel
theorem dX12_dutyGoes_37 : decode cX12_dutyGoes 37 = .ok (.getfield 149, 3) := by decide +kernel
theorem dX12_dutyGoes_40 : decode cX12_dutyGoes 40 = .ok (.iconst 2, 1) := by decide +kernel
theorem dX12_dutyGoes_41 : decode cX12_dutyGoes 41 = .ok (.dup2, 1) := by decide +kernel
theorem dX12_dutyGoes_42 : decode cX12_dutyGoes 42 = .ok (.iaload, 1) := by decide +kernel
theorem dX12_dutyGoes_43 : decode cX12_dutyGoes 43 = .ok (.aload_n 0, 1) := by decide +kernel
theorem dX12_dutyGoes_44 : decode cX12_dutyGoes 44 = .ok (.getfield 89, 3) := by decide +kernel
theorem dX12_dutyGoes_47 : decode cX12_dutyGoes 47 = .ok (.bipush 9, 2) := by decide +kernel
theorem dX12_dutyGoes_49 : decode cX12_dutyGoes 49 = .ok (.aload_n 0, 1) := by decide +kernel
theorem dX12_dutyGoes_50 : decode cX12_dutyGoes 50 = .ok (.getfield 266, 3) := by decide +kernel
theorem dX12_dutyGoes_53 : decode cX12_dutyGoes 53 = .ok (.imul, 1) := by decide +kernel
theorem dX12_dutyGoes_54 : decode cX12_dutyGoes 54 = .ok (.iload_n 1, 1) := by decide +kernel
theorem dX12_dutyGoes_55 : decode cX12_dutyGoes 55 = .ok (.iadd, 1) := by decide +kernel
theorem dX12_dutyGoes_56 : decode cX12_dutyGoes 56 = .ok (.iaload, 1) := by decide +kernel
theorem dX12_dutyGoes_57 : decode cX12_dutyGoes 57 = .ok (.iadd, 1) := by decide +kernel
theorem dX12_dutyGoes_58 : decode cX12_dutyGoes 58 = .ok (.iastore, 1) := by decide +kernel
theorem dX12_dutyGoes_59 : decode cX12_dutyGoes 59 = .ok (.return_, 1) := by decide +kernel
theorem dX12_dutyGoes_60 : decode cX12_dutyGoes 60 = .ok (.aload_n 0, 1) := by decide +kernel
theorem dX12_dutyGoes_61 : decode cX12_dutyGoes 61 = .ok (.aload_n 0, 1) := by decide +kernel
theorem dX12_dutyGoes_62 : decode cX12_dutyGoes 62 = .ok (.getfield 149, 3) := by decide +kernel
theorem dX12_dutyGoes_65 : decode cX12_dutyGoes 65 = .ok (.iconst 0, 1) := by decide +kernel
theorem dX12_dutyGoes_66 : decode cX12_dutyGoes 66 = .ok (.iaload, 1) := by decide +kernel
theorem dX12_dutyGoes_67 : decode cX12_dutyGoes 67 = .ok (.iconst 1, 1) := by decide +kernel
theorem dX12_dutyGoes_68 : decode cX12_dutyGoes 68 = .ok (.iload_n 1, 1) := by decide +kernel
theorem dX12_dutyGoes_69 : decode cX12_dutyGoes 69 = .ok (.iadd, 1) := by decide +kernel
theorem dX12_dutyGoes_70 : decode cX12_dutyGoes 70 = .ok (.invokevirtual 370, 3) := by decide +kernel
theorem dX12_dutyGoes_73 : decode cX12_dutyGoes 73 = .ok (.aload_n 0, 1) := by decide +kernel
theorem dX12_dutyGoes_74 : decode cX12_dutyGoes 74 = .ok (.iload_n 2, 1) := by decide +kernel
theorem dX12_dutyGoes_75 : decode cX12_dutyGoes 75 = .ok (.iload_n 1, 1) := by decide +kernel
theorem dX12_dutyGoes_76 : decode cX12_dutyGoes 76 = .ok (.invokevirtual 407, 3) := by decide +kernel
theorem dX12_dutyGoes_79 : decode cX12_dutyGoes 79 = .ok (.if_icmp .ge 7, 3) := by decide +kernel
theorem dX12_dutyGoes_82 : decode cX12_dutyGoes 82 = .ok (.iconst 1, 1) := by decide +kernel
theorem dX12_dutyGoes_83 : decode cX12_dutyGoes 83 = .ok (.goto 4, 3) := by decide +kernel
theorem dX12_dutyGoes_86 : decode cX12_dutyGoes 86 = .ok (.iconst 0, 1) := by decide +kernel
theorem dX12_dutyGoes_87 : decode cX12_dutyGoes 87 = .ok (.istore_n 3, 1) := by decide +kernel
theorem dX12_dutyGoes_88 : decode cX12_dutyGoes 88 = .ok (.aload_n 0, 1) := by decide +kernel
theorem dX12_dutyGoes_89 : decode cX12_dutyGoes 89 = .ok (.iload_n 2, 1) := by decide +kernel
theorem dX12_dutyGoes_90 : decode cX12_dutyGoes 90 = .ok (.iload_n 1, 1) := by decide +kernel
theorem dX12_dutyGoes_91 : decode cX12_dutyGoes 91 = .ok (.invokevirtual 410, 3) := by decide +kernel
theorem dX12_dutyGoes_94 : decode cX12_dutyGoes 94 = .ok (.istore 4, 2) := by decide +kernel
theorem dX12_dutyGoes_96 : decode cX12_dutyGoes 96 = .ok (.aload_n 0, 1) := by decide +kernel
theorem dX12_dutyGoes_97 : decode cX12_dutyGoes 97 = .ok (.getfield 149, 3) := by decide +kernel
theorem dX12_dutyGoes_100 : decode cX12_dutyGoes 100 = .ok (.bipush 22, 2) := by decide +kernel
theorem dX12_dutyGoes_102 : decode cX12_dutyGoes 102 = .ok (.iload_n 1, 1) := by decide +kernel
theorem dX12_dutyGoes_103 : decode cX12_dutyGoes 103 = .ok (.iadd, 1) := by decide +kernel
theorem dX12_dutyGoes_104 : decode cX12_dutyGoes 104 = .ok (.iload_n 2, 1) := by decide +kernel
theorem dX12_dutyGoes_105 : decode cX12_dutyGoes 105 = .ok (.iastore, 1) := by decide +kernel
theorem dX12_dutyGoes_106 : decode cX12_dutyGoes 106 = .ok (.aload_n 0, 1) := by decide +kernel
theorem dX12_dutyGoes_107 : decode cX12_dutyGoes 107 = .ok (.getfield 149, 3) := by decide +kernel
theorem dX12_dutyGoes_110 : decode cX12_dutyGoes 110 = .ok (.bipush 13, 2) := by decide +kernel
theorem dX12_dutyGoes_112 : decode cX12_dutyGoes 112 = .ok (.iload_n 1, 1) := by decide +kernel
theorem dX12_dutyGoes_113 : decode cX12_dutyGoes 113 = .ok (.iadd, 1) := by decide +kernel
theorem dX12_dutyGoes_114 : decode cX12_dutyGoes 114 = .ok (.iload_n 3, 1) := by decide +kernel
theorem dX12_dutyGoes_115 : decode cX12_dutyGoes 115 = .ok (.ifCond .eq 7, 3) := by decide +kernel
theorem dX12_dutyGoes_118 : decode cX12_dutyGoes 118 = .ok (.iconst 1, 1) := by decide +kernel
theorem dX12_dutyGoes_119 : decode cX12_dutyGoes 119 = .ok (.goto 4, 3) := by decide +kernel
theorem dX12_dutyGoes_122 : decode cX12_dutyGoes 122 = .ok (.iconst 2, 1) := by decide +kernel
theorem dX12_dutyGoes_123 : decode cX12_dutyGoes 123 = .ok (.iastore, 1) := by decide +kernel
theorem dX12_dutyGoes_124 : decode cX12_dutyGoes 124 = .ok (.aload_n 0, 1) := by decide +kernel
theorem dX12_dutyGoes_125 : decode cX12_dutyGoes 125 = .ok (.aload_n 0, 1) := by decide +kernel
theorem dX12_dutyGoes_126 : decode cX12_dutyGoes 126 = .ok (.iload_n 1, 1) := by decide +kernel
theorem dX12_dutyGoes_127 : decode cX12_dutyGoes 127 = .ok (.invokevirtual 373, 3) := by decide +kernel
theorem dX12_dutyGoes_130 : decode cX12_dutyGoes 130 = .ok (.iload_n 3, 1) := by decide +kernel
theorem dX12_dutyGoes_131 : decode cX12_dutyGoes 131 = .ok (.ifCond .eq 8, 3) := by decide +kernel
theorem dX12_dutyGoes_134 : decode cX12_dutyGoes 134 = .ok (.iload 4, 2) := by decide +kernel
theorem dX12_dutyGoes_136 : decode cX12_dutyGoes 136 = .ok (.goto 7, 3) := by decide +kernel
theorem dX12_dutyGoes_139 : decode cX12_dutyGoes 139 = .ok (.iconst 2, 1) := by decide +kernel
theorem dX12_dutyGoes_140 : decode cX12_dutyGoes 140 = .ok (.iload 4, 2) := by decide +kernel
theorem dX12_dutyGoes_142 : decode cX12_dutyGoes 142 = .ok (.imul, 1) := by decide +kernel
theorem dX12_dutyGoes_143 : decode cX12_dutyGoes 143 = .ok (.invokevirtual 413, 3) := by decide +kernel
theorem dX12_dutyGoes_146 : decode cX12_dutyGoes 146 = .ok (.iload_n 3, 1) := by decide +kernel
theorem dX12_dutyGoes_147 : decode cX12_dutyGoes 147 = .ok (.ifCond .ne 26, 3) := by decide +kernel
theorem dX12_dutyGoes_150 : decode cX12_dutyGoes 150 = .ok (.aload_n 0, 1) := by decide +kernel
theorem dX12_dutyGoes_151 : decode cX12_dutyGoes 151 = .ok (.getfield 149, 3) := by decide +kernel
theorem dX12_dutyGoes_154 : decode cX12_dutyGoes 154 = .ok (.iconst 2, 1) := by decide +kernel
theorem dX12_dutyGoes_155 : decode cX12_dutyGoes 155 = .ok (.dup2, 1) := by decide +kernel
theorem dX12_dutyGoes_156 : decode cX12_dutyGoes 156 = .ok (.iaload, 1) := by decide +kernel
theorem dX12_dutyGoes_157 : decode cX12_dutyGoes 157 = .ok (.aload_n 0, 1) := by decide +kernel
theorem dX12_dutyGoes_158 : decode cX12_dutyGoes 158 = .ok (.getfield 89, 3) := by decide +kernel
theorem dX12_dutyGoes_161 : decode cX12_dutyGoes 161 = .ok (.bipush 9, 2) := by decide +kernel
theorem dX12_dutyGoes_163 : decode cX12_dutyGoes 163 = .ok (.aload_n 0, 1) := by decide +kernel
theorem dX12_dutyGoes_164 : decode cX12_dutyGoes 164 = .ok (.getfield 266, 3) := by decide +kernel
theorem dX12_dutyGoes_167 : decode cX12_dutyGoes 167 = .ok (.imul, 1) := by decide +kernel
theorem dX12_dutyGoes_168 : decode cX12_dutyGoes 168 = .ok (.iload_n 1, 1) := by decide +kernel
theorem dX12_dutyGoes_169 : decode cX12_dutyGoes 169 = .ok (.iadd, 1) := by decide +kernel
theorem dX12_dutyGoes_170 : decode cX12_dutyGoes 170 = .ok (.iaload, 1) := by decide +kernel
theorem dX12_dutyGoes_171 : decode cX12_dutyGoes 171 = .ok (.iadd, 1) := by decide +kernel
theorem dX12_dutyGoes_172 : decode cX12_dutyGoes 172 = .ok (.iastore, 1) := by decide +kernel
theorem dX12_dutyGoes_173 : decode cX12_dutyGoes 173 = .ok (.aload_n 0, 1) := by decide +kernel
theorem dX12_dutyGoes_174 : decode cX12_dutyGoes 174 = .ok (.getfield 76, 3) := by decide +kernel
theorem dX12_dutyGoes_177 : decode cX12_dutyGoes 177 = .ok (.bipush 7, 2) := by decide +kernel
theorem dX12_dutyGoes_179 : decode cX12_dutyGoes 179 = .ok (.aload_n 0, 1) := by decide +kernel
theorem dX12_dutyGoes_180 : decode cX12_dutyGoes 180 = .ok (.getfield 266, 3) := by decide +kernel
theorem dX12_dutyGoes_183 : decode cX12_dutyGoes 183 = .ok (.imul, 1) := by decide +kernel
theorem dX12_dutyGoes_184 : decode cX12_dutyGoes 184 = .ok (.iload_n 2, 1) := by decide +kernel
theorem dX12_dutyGoes_185 : decode cX12_dutyGoes 185 = .ok (.iadd, 1) := by decide +kernel
theorem dX12_dutyGoes_186 : decode cX12_dutyGoes 186 = .ok (.baload, 1) := by decide +kernel
theorem dX12_dutyGoes_187 : decode cX12_dutyGoes 187 = .ok (.ifCond .eq 17, 3) := by decide +kernel
theorem dX12_dutyGoes_190 : decode cX12_dutyGoes 190 = .ok (.aload_n 0, 1) := by decide +kernel
theorem dX12_dutyGoes_191 : decode cX12_dutyGoes 191 = .ok (.getfield 149, 3) := by decide +kernel
theorem dX12_dutyGoes_194 : decode cX12_dutyGoes 194 = .ok (.iconst 3, 1) := by decide +kernel
theorem dX12_dutyGoes_195 : decode cX12_dutyGoes 195 = .ok (.dup2, 1) := by decide +kernel
theorem dX12_dutyGoes_196 : decode cX12_dutyGoes 196 = .ok (.iaload, 1) := by decide +kernel
theorem dX12_dutyGoes_197 : decode cX12_dutyGoes 197 = .ok (.iconst 1, 1) := by decide +kernel
theorem dX12_dutyGoes_198 : decode cX12_dutyGoes 198 = .ok (.iload_n 2, 1) := by decide +kernel
theorem dX12_dutyGoes_199 : decode cX12_dutyGoes 199 = .ok (.ishl, 1) := by decide +kernel
theorem dX12_dutyGoes_200 : decode cX12_dutyGoes 200 = .ok (.iconst (-1), 1) := by decide +kernel
theorem dX12_dutyGoes_201 : decode cX12_dutyGoes 201 = .ok (.ixor, 1) := by decide +kernel
theorem dX12_dutyGoes_202 : decode cX12_dutyGoes 202 = .ok (.iand, 1) := by decide +kernel
theorem dX12_dutyGoes_203 : decode cX12_dutyGoes 203 = .ok (.iastore, 1) := by decide +kernel
theorem dX12_dutyGoes_204 : decode cX12_dutyGoes 204 = .ok (.return_, 1) := by decide +kernel
def c_X12_dutyGoes_j26  (x1 : Int32) (h : PH) : Option (PH) :=
  gd (ixOK (13 + x1) 40) <| nm (setI h 44 (13 + x1).toNatClampNeg 3) fun h2 =>
  gd (ixOK ((9 * (h2.1 0 18)) + x1) 18) <|
  nm (setI h2 44 2 ((h2.1 44 2) + (h2.1 24 ((9 * (h2.1 0 18)) + x1).toNatClampNeg))) fun h3 =>
  some h3
set_option maxHeartbeats 4000000 in
set_option maxRecDepth 100000 in
theorem w_X12_dutyGoes_j26 {p0 : Program} {l : Launch} {e : Env} {s : State} {m : MethodId} {args : Array Value} {below : List Frame} {meth : Method} {c : Code} {Q : State → Prop} {D : va_G} {G : GG} {A : Nat → Prop} {H0 : Heap} {ad : Nat → Nat} {lay : List KK} {X : va_W} {r0 : PH} {x1 : Int32} {h : PH} {H : Heap} {locs : List Loc} {ls : Array Slot} (hM : CallFix p0 m c cX12_dutyGoes 5 s args lw_g RX12) (ho : okX12 lay) (hR : RtV p0 l e (rmN 6 135) s m args below meth c cX12_dutyGoes D G A H0 ad lay X (none) r0 Q 0 0) (hw : Wd D G A H0 ad lay X h s H locs) (hl : lv_has ls 5 [(0, .ref (ad 0)), (1, .int x1)]) (hf : c_X12_dutyGoes_j26 x1 h = some r0) : W p0 l e (rmN 6 135) s m args below meth c H locs 0 0 Q (F0 m 26 ls []) := by
  unfold c_X12_dutyGoes_j26 at hf
  refine lv_aload_n hM.1 hM.2.1 dX12_dutyGoes_26 rfl (lv_at hl 0 rfl) ?_
  refine gf_X12_row hM hw (okX12.o ho) fl_X12_149 dX12_dutyGoes_27 ?_
  refine lv_bipush (v := 13) hM.1 hM.2.1 dX12_dutyGoes_30 (by decide) ?_
  refine lv_iload_n hM.1 hM.2.1 dX12_dutyGoes_32 rfl (lv_at hl 1 rfl) ?_
  refine lv_iadd hM.1 hM.2.1 dX12_dutyGoes_33 ?_
  refine lv_iconst (v := 3) hM.1 hM.2.1 dX12_dutyGoes_34 ic_3 ?_
  refine x_iast hM hw (okX12.row ho) hf dX12_dutyGoes_35 (fun h2 H locs hf hw => ?_)
  refine lv_aload_n hM.1 hM.2.1 dX12_dutyGoes_36 rfl (lv_at hl 0 rfl) ?_
  refine gf_X12_row hM hw (okX12.o ho) fl_X12_149 dX12_dutyGoes_37 ?_
  refine lv_iconst (v := 2) hM.1 hM.2.1 dX12_dutyGoes_40 ic_2 ?_
  refine lv_dup2_11 hM.1 hM.2.1 dX12_dutyGoes_41 rfl rfl ?_
  refine x_ialdK hM hw (okX12.row ho) 2 (by decide) (by decide) dX12_dutyGoes_42 ?_
  refine lv_aload_n hM.1 hM.2.1 dX12_dutyGoes_43 rfl (lv_at hl 0 rfl) ?_
  refine gf_X12_dutyHours hM hw (okX12.o ho) fl_X12_89 dX12_dutyGoes_44 ?_
  refine lv_bipush (v := 9) hM.1 hM.2.1 dX12_dutyGoes_47 (by decide) ?_
  refine lv_aload_n hM.1 hM.2.1 dX12_dutyGoes_49 rfl (lv_at hl 0 rfl) ?_
  refine gf_X12_live hM hw (okX12.o ho) fl_X12_266 dX12_dutyGoes_50 ?_
  refine lv_imul hM.1 hM.2.1 dX12_dutyGoes_53 ?_
  refine lv_iload_n hM.1 hM.2.1 dX12_dutyGoes_54 rfl (lv_at hl 1 rfl) ?_
  refine lv_iadd hM.1 hM.2.1 dX12_dutyGoes_55 ?_
  refine x_iald hM hw (okX12.dutyHours ho) hf dX12_dutyGoes_56 (fun hf => ?_)
  refine lv_iadd hM.1 hM.2.1 dX12_dutyGoes_57 ?_
  refine x_iastK hM hw (okX12.row ho) 2 (by decide) (by decide) hf dX12_dutyGoes_58 (fun h3 H locs hf hw => ?_)
  exact hR _ _ _ _ _ (Option.some.inj hf) rfl hw dX12_dutyGoes_59
def c_X12_dutyGoes_j173  (x2 : Int32) (h : PH) : Option (PH) :=
  gd (ixOK ((7 * (h.1 0 18)) + x2) 14) <|
  if (h.1 20 ((7 * (h.1 0 18)) + x2).toNatClampNeg) = 0 then
    some h
  else
    nm (setI h 44 3 ((h.1 44 3) &&& (((1 : Int32) <<< (x2 &&& 31)) ^^^ (-1)))) fun h15 =>
    some h15
set_option maxHeartbeats 4000000 in
set_option maxRecDepth 100000 in
theorem w_X12_dutyGoes_j173 {p0 : Program} {l : Launch} {e : Env} {s : State} {m : MethodId} {args : Array Value} {below : List Frame} {meth : Method} {c : Code} {Q : State → Prop} {D : va_G} {G : GG} {A : Nat → Prop} {H0 : Heap} {ad : Nat → Nat} {lay : List KK} {X : va_W} {r0 : PH} {x2 : Int32} {h : PH} {H : Heap} {locs : List Loc} {ls : Array Slot} (hM : CallFix p0 m c cX12_dutyGoes 5 s args lw_g RX12) (ho : okX12 lay) (hR : RtV p0 l e (rmN 6 135) s m args below meth c cX12_dutyGoes D G A H0 ad lay X (none) r0 Q 0 0) (hw : Wd D G A H0 ad lay X h s H locs) (hl : lv_has ls 5 [(0, .ref (ad 0)), (2, .int x2)]) (hf : c_X12_dutyGoes_j173 x2 h = some r0) : W p0 l e (rmN 6 135) s m args below meth c H locs 0 0 Q (F0 m 173 ls []) := by
  unfold c_X12_dutyGoes_j173 at hf
  refine lv_aload_n hM.1 hM.2.1 dX12_dutyGoes_173 rfl (lv_at hl 0 rfl) ?_
  refine gf_X12_isOnce hM hw (okX12.o ho) fl_X12_76 dX12_dutyGoes_174 ?_
  refine lv_bipush (v := 7) hM.1 hM.2.1 dX12_dutyGoes_177 (by decide) ?_
  refine lv_aload_n hM.1 hM.2.1 dX12_dutyGoes_179 rfl (lv_at hl 0 rfl) ?_
  refine gf_X12_live hM hw (okX12.o ho) fl_X12_266 dX12_dutyGoes_180 ?_
  refine lv_imul hM.1 hM.2.1 dX12_dutyGoes_183 ?_
  refine lv_iload_n hM.1 hM.2.1 dX12_dutyGoes_184 rfl (lv_at hl 1 rfl) ?_
  refine lv_iadd hM.1 hM.2.1 dX12_dutyGoes_185 ?_
  refine x_zald hM hw (okX12.isOnce ho) hf dX12_dutyGoes_186 (fun hf => ?_)
  refine x_if_eq (tgt := 204) hM hf dX12_dutyGoes_187 (by decide) (fun hf => ?_) (fun hf => ?_)
  · exact hR _ _ _ _ _ (Option.some.inj hf) rfl hw dX12_dutyGoes_204
  refine lv_aload_n hM.1 hM.2.1 dX12_dutyGoes_190 rfl (lv_at hl 0 rfl) ?_
  refine gf_X12_row hM hw (okX12.o ho) fl_X12_149 dX12_dutyGoes_191 ?_
  refine lv_iconst (v := 3) hM.1 hM.2.1 dX12_dutyGoes_194 ic_3 ?_
  refine lv_dup2_11 hM.1 hM.2.1 dX12_dutyGoes_195 rfl rfl ?_
  refine x_ialdK hM hw (okX12.row ho) 3 (by decide) (by decide) dX12_dutyGoes_196 ?_
  refine lv_iconst (v := 1) hM.1 hM.2.1 dX12_dutyGoes_197 ic_1 ?_
  refine lv_iload_n hM.1 hM.2.1 dX12_dutyGoes_198 rfl (lv_at hl 1 rfl) ?_
  refine lv_ishl hM.1 hM.2.1 dX12_dutyGoes_199 ?_
  refine lv_iconst (v := (-1)) hM.1 hM.2.1 dX12_dutyGoes_200 ic_m1 ?_
  refine lv_ixor hM.1 hM.2.1 dX12_dutyGoes_201 ?_
  refine lv_iand hM.1 hM.2.1 dX12_dutyGoes_202 ?_
  refine x_iastK hM hw (okX12.row ho) 3 (by decide) (by decide) hf dX12_dutyGoes_203 (fun h15 H locs hf hw => ?_)
  exact hR _ _ _ _ _ (Option.some.inj hf) rfl hw dX12_dutyGoes_204
def c_X12_dutyGoes_j143  (x1 : Int32) (x2 : Int32) (x3 : Int32) (y0 : Int32) (y1 : Int32) (h : PH) : Option (PH) :=
  (c_X12_lessTrust y1 y0 h).bind fun h14 =>
  if x3 = 0 then
    gd (ixOK ((9 * (h14.1 0 18)) + x1) 18) <|
    nm (setI h14 44 2 ((h14.1 44 2) + (h14.1 24 ((9 * (h14.1 0 18)) + x1).toNatClampNeg))) fun h16 =>
    c_X12_dutyGoes_j173 x2 h16
  else
    c_X12_dutyGoes_j173 x2 h14
set_option maxHeartbeats 4000000 in
set_option maxRecDepth 100000 in
theorem w_X12_dutyGoes_j143 {p0 : Program} {l : Launch} {e : Env} {s : State} {m : MethodId} {args : Array Value} {below : List Frame} {meth : Method} {c : Code} {Q : State → Prop} {D : va_G} {G : GG} {A : Nat → Prop} {H0 : Heap} {ad : Nat → Nat} {lay : List KK} {X : va_W} {r0 : PH} {x1 : Int32} {x2 : Int32} {x3 : Int32} {y0 : Int32} {y1 : Int32} {h : PH} {H : Heap} {locs : List Loc} {ls : Array Slot} (hM : CallFix p0 m c cX12_dutyGoes 5 s args lw_g RX12) (ho : okX12 lay) (hR : RtV p0 l e (rmN 6 135) s m args below meth c cX12_dutyGoes D G A H0 ad lay X (none) r0 Q 0 0) (hw : Wd D G A H0 ad lay X h s H locs) (hl : lv_has ls 5 [(0, .ref (ad 0)), (1, .int x1), (2, .int x2), (3, .int x3)]) (hf : c_X12_dutyGoes_j143 x1 x2 x3 y0 y1 h = some r0) : W p0 l e (rmN 6 135) s m args below meth c H locs 0 0 Q (F0 m 143 ls [.int y0, .int y1, .ref (ad 0)]) := by
  unfold c_X12_dutyGoes_j143 at hf
  refine x_callVV (rest := []) hM hw (ct_X12_lessTrust l ho y1 y0) [.int y1, .int y0] (okX12.o ho) rfl rfl rfl (gi_V ml_X12_413 im_X12_lessTrust sl_X12_lessTrust in_X12 kc_X12_lessTrust) hd_X12_lessTrust rfl ⟨Nat.le_of_ble_eq_true rfl, Nat.le_of_ble_eq_true rfl⟩ rfl (Nat.le_of_ble_eq_true rfl) hl.1 hcs0 hf dX12_dutyGoes_143 (fun h14 H locs hf hw => ?_)
  refine lv_iload_n hM.1 hM.2.1 dX12_dutyGoes_146 rfl (lv_at hl 3 rfl) ?_
  refine x_if_ne (tgt := 173) hM hf dX12_dutyGoes_147 (by decide) (fun hf => ?_) (fun hf => ?_)
  · exact w_X12_dutyGoes_j173 hM ho hR hw (lv_sub hl [0, 2] rfl) hf
  refine lv_aload_n hM.1 hM.2.1 dX12_dutyGoes_150 rfl (lv_at hl 0 rfl) ?_
  refine gf_X12_row hM hw (okX12.o ho) fl_X12_149 dX12_dutyGoes_151 ?_
  refine lv_iconst (v := 2) hM.1 hM.2.1 dX12_dutyGoes_154 ic_2 ?_
  refine lv_dup2_11 hM.1 hM.2.1 dX12_dutyGoes_155 rfl rfl ?_
  refine x_ialdK hM hw (okX12.row ho) 2 (by decide) (by decide) dX12_dutyGoes_156 ?_
  refine lv_aload_n hM.1 hM.2.1 dX12_dutyGoes_157 rfl (lv_at hl 0 rfl) ?_
  refine gf_X12_dutyHours hM hw (okX12.o ho) fl_X12_89 dX12_dutyGoes_158 ?_
  refine lv_bipush (v := 9) hM.1 hM.2.1 dX12_dutyGoes_161 (by decide) ?_
  refine lv_aload_n hM.1 hM.2.1 dX12_dutyGoes_163 rfl (lv_at hl 0 rfl) ?_
  refine gf_X12_live hM hw (okX12.o ho) fl_X12_266 dX12_dutyGoes_164 ?_
  refine lv_imul hM.1 hM.2.1 dX12_dutyGoes_167 ?_
  refine lv_iload_n hM.1 hM.2.1 dX12_dutyGoes_168 rfl (lv_at hl 1 rfl) ?_
  refine lv_iadd hM.1 hM.2.1 dX12_dutyGoes_169 ?_
  refine x_iald hM hw (okX12.dutyHours ho) hf dX12_dutyGoes_170 (fun hf => ?_)
  refine lv_iadd hM.1 hM.2.1 dX12_dutyGoes_171 ?_
  refine x_iastK hM hw (okX12.row ho) 2 (by decide) (by decide) hf dX12_dutyGoes_172 (fun h16 H locs hf hw => ?_)
  exact w_X12_dutyGoes_j173 hM ho hR hw (lv_sub hl [0, 2] rfl) hf
def c_X12_dutyGoes_j123  (x1 : Int32) (x2 : Int32) (x3 : Int32) (x4 : Int32) (y0 : Int32) (y1 : Int32) (y2 : Nat) (h : PH) : Option (PH) :=
  gd (ixOK y1 40) <| nm (setI h y2 y1.toNatClampNeg y0) fun h12 =>
  (c_X12_manOf x1 h12).bind fun r13 =>
  if x3 = 0 then
    c_X12_dutyGoes_j143 x1 x2 x3 (2 * x4) r13 h12
  else
    c_X12_dutyGoes_j143 x1 x2 x3 x4 r13 h12
set_option maxHeartbeats 4000000 in
set_option maxRecDepth 100000 in
theorem w_X12_dutyGoes_j123 {p0 : Program} {l : Launch} {e : Env} {s : State} {m : MethodId} {args : Array Value} {below : List Frame} {meth : Method} {c : Code} {Q : State → Prop} {D : va_G} {G : GG} {A : Nat → Prop} {H0 : Heap} {ad : Nat → Nat} {lay : List KK} {X : va_W} {r0 : PH} {x1 : Int32} {x2 : Int32} {x3 : Int32} {x4 : Int32} {y0 : Int32} {y1 : Int32} {y2 : Nat} {h : PH} {H : Heap} {locs : List Loc} {ls : Array Slot} (hM : CallFix p0 m c cX12_dutyGoes 5 s args lw_g RX12) (ho : okX12 lay) (hR : RtV p0 l e (rmN 6 135) s m args below meth c cX12_dutyGoes D G A H0 ad lay X (none) r0 Q 0 0) (oky2 : lay[y2]? = some (kI 40)) (hw : Wd D G A H0 ad lay X h s H locs) (hl : lv_has ls 5 [(0, .ref (ad 0)), (1, .int x1), (2, .int x2), (3, .int x3), (4, .int x4)]) (hf : c_X12_dutyGoes_j123 x1 x2 x3 x4 y0 y1 y2 h = some r0) : W p0 l e (rmN 6 135) s m args below meth c H locs 0 0 Q (F0 m 123 ls [.int y0, .int y1, .ref (ad y2)]) := by
  unfold c_X12_dutyGoes_j123 at hf
  refine x_iast hM hw oky2 hf dX12_dutyGoes_123 (fun h12 H locs hf hw => ?_)
  refine lv_aload_n hM.1 hM.2.1 dX12_dutyGoes_124 rfl (lv_at hl 0 rfl) ?_
  refine lv_aload_n hM.1 hM.2.1 dX12_dutyGoes_125 rfl (lv_at hl 0 rfl) ?_
  refine lv_iload_n hM.1 hM.2.1 dX12_dutyGoes_126 rfl (lv_at hl 1 rfl) ?_
  refine x_callVIr (rest := [.ref (ad 0)]) hM hw (ct_X12_manOf l ho x1) [.int x1] (okX12.o ho) rfl rfl rfl (gi_V ml_X12_373 im_X12_manOf sl_X12_manOf in_X12 kc_X12_manOf) hd_X12_manOf rfl ⟨Nat.le_of_ble_eq_true rfl, Nat.le_of_ble_eq_true rfl⟩ rfl (Nat.le_of_ble_eq_true rfl) hl.1 hcs0 hf dX12_dutyGoes_127 (fun r13 H locs hf hw => ?_)
  refine lv_iload_n hM.1 hM.2.1 dX12_dutyGoes_130 rfl (lv_at hl 3 rfl) ?_
  refine x_if_eq (tgt := 139) hM hf dX12_dutyGoes_131 (by decide) (fun hf => ?_) (fun hf => ?_)
  · refine lv_iconst (v := 2) hM.1 hM.2.1 dX12_dutyGoes_139 ic_2 ?_
    refine lv_iload hM.1 hM.2.1 dX12_dutyGoes_140 (lv_at hl 4 rfl) ?_
    refine lv_imul hM.1 hM.2.1 dX12_dutyGoes_142 ?_
    exact w_X12_dutyGoes_j143 hM ho hR hw (lv_sub hl [0, 1, 2, 3] rfl) hf
  refine lv_iload hM.1 hM.2.1 dX12_dutyGoes_134 (lv_at hl 4 rfl) ?_
  refine lv_goto (tgt := 143) hM.1 hM.2.1 dX12_dutyGoes_136 (by decide) ?_
  exact w_X12_dutyGoes_j143 hM ho hR hw (lv_sub hl [0, 1, 2, 3] rfl) hf
def c_X12_dutyGoes_j87  (x1 : Int32) (x2 : Int32) (y0 : Int32) (h : PH) : Option (PH) :=
  nm y0 fun v7 =>
  bind2 (c_X12_wearsNow x2 x1 h) fun r8 h9 =>
  nm r8 fun v10 =>
  gd (ixOK (22 + x1) 40) <| nm (setI h9 44 (22 + x1).toNatClampNeg x2) fun h11 =>
  if v7 = 0 then
    c_X12_dutyGoes_j123 x1 x2 v7 v10 2 (13 + x1) 44 h11
  else
    c_X12_dutyGoes_j123 x1 x2 v7 v10 1 (13 + x1) 44 h11
set_option maxHeartbeats 4000000 in
set_option maxRecDepth 100000 in
theorem w_X12_dutyGoes_j87 {p0 : Program} {l : Launch} {e : Env} {s : State} {m : MethodId} {args : Array Value} {below : List Frame} {meth : Method} {c : Code} {Q : State → Prop} {D : va_G} {G : GG} {A : Nat → Prop} {H0 : Heap} {ad : Nat → Nat} {lay : List KK} {X : va_W} {r0 : PH} {x1 : Int32} {x2 : Int32} {y0 : Int32} {h : PH} {H : Heap} {locs : List Loc} {ls : Array Slot} (hM : CallFix p0 m c cX12_dutyGoes 5 s args lw_g RX12) (ho : okX12 lay) (hR : RtV p0 l e (rmN 6 135) s m args below meth c cX12_dutyGoes D G A H0 ad lay X (none) r0 Q 0 0) (hw : Wd D G A H0 ad lay X h s H locs) (hl : lv_has ls 5 [(0, .ref (ad 0)), (1, .int x1), (2, .int x2)]) (hf : c_X12_dutyGoes_j87 x1 x2 y0 h = some r0) : W p0 l e (rmN 6 135) s m args below meth c H locs 0 0 Q (F0 m 87 ls [.int y0]) := by
  unfold c_X12_dutyGoes_j87 at hf
  refine x_istore_n hM hf dX12_dutyGoes_87 rfl hl (by decide) (fun v7 => [(3, .int v7), (0, .ref (ad 0)), (1, .int x1), (2, .int x2)]) (fun _ => rfl) (fun v7 ls hf hl => ?_)
  refine lv_aload_n hM.1 hM.2.1 dX12_dutyGoes_88 rfl (lv_at hl 1 rfl) ?_
  refine lv_iload_n hM.1 hM.2.1 dX12_dutyGoes_89 rfl (lv_at hl 3 rfl) ?_
  refine lv_iload_n hM.1 hM.2.1 dX12_dutyGoes_90 rfl (lv_at hl 2 rfl) ?_
  refine x_callVI (rest := []) hM hw (ct_X12_wearsNow l ho x2 x1) [.int x2, .int x1] (okX12.o ho) rfl rfl rfl (gi_V ml_X12_410 im_X12_wearsNow sl_X12_wearsNow in_X12 kc_X12_wearsNow) hd_X12_wearsNow rfl ⟨Nat.le_of_ble_eq_true rfl, Nat.le_of_ble_eq_true rfl⟩ rfl (Nat.le_of_ble_eq_true rfl) hl.1 hcs0 hf dX12_dutyGoes_91 (fun r8 h9 H locs hf hw => ?_)
  refine x_istore hM hf dX12_dutyGoes_94 hl (by decide) (fun v10 => [(4, .int v10), (3, .int v7), (0, .ref (ad 0)), (1, .int x1), (2, .int x2)]) (fun _ => rfl) (fun v10 ls hf hl => ?_)
  refine lv_aload_n hM.1 hM.2.1 dX12_dutyGoes_96 rfl (lv_at hl 2 rfl) ?_
  refine gf_X12_row hM hw (okX12.o ho) fl_X12_149 dX12_dutyGoes_97 ?_
  refine lv_bipush (v := 22) hM.1 hM.2.1 dX12_dutyGoes_100 (by decide) ?_
  refine lv_iload_n hM.1 hM.2.1 dX12_dutyGoes_102 rfl (lv_at hl 3 rfl) ?_
  refine lv_iadd hM.1 hM.2.1 dX12_dutyGoes_103 ?_
  refine lv_iload_n hM.1 hM.2.1 dX12_dutyGoes_104 rfl (lv_at hl 4 rfl) ?_
  refine x_iast hM hw (okX12.row ho) hf dX12_dutyGoes_105 (fun h11 H locs hf hw => ?_)
  refine lv_aload_n hM.1 hM.2.1 dX12_dutyGoes_106 rfl (lv_at hl 2 rfl) ?_
  refine gf_X12_row hM hw (okX12.o ho) fl_X12_149 dX12_dutyGoes_107 ?_
  refine lv_bipush (v := 13) hM.1 hM.2.1 dX12_dutyGoes_110 (by decide) ?_
  refine lv_iload_n hM.1 hM.2.1 dX12_dutyGoes_112 rfl (lv_at hl 3 rfl) ?_
  refine lv_iadd hM.1 hM.2.1 dX12_dutyGoes_113 ?_
  refine lv_iload_n hM.1 hM.2.1 dX12_dutyGoes_114 rfl (lv_at hl 1 rfl) ?_
  refine x_if_eq (tgt := 122) hM hf dX12_dutyGoes_115 (by decide) (fun hf => ?_) (fun hf => ?_)
  · refine lv_iconst (v := 2) hM.1 hM.2.1 dX12_dutyGoes_122 ic_2 ?_
    exact w_X12_dutyGoes_j123 hM ho hR (okX12.row ho) hw (lv_sub hl [2, 3, 4, 1, 0] rfl) hf
  refine lv_iconst (v := 1) hM.1 hM.2.1 dX12_dutyGoes_118 ic_1 ?_
  refine lv_goto (tgt := 123) hM.1 hM.2.1 dX12_dutyGoes_119 (by decide) ?_
  exact w_X12_dutyGoes_j123 hM ho hR (okX12.row ho) hw (lv_sub hl [2, 3, 4, 1, 0] rfl) hf
def c_X12_dutyGoes (a1 : Int32) (h : PH) : Option (PH) :=
  gd (ixOK (4 + a1) 40) <|
  nm (h.1 44 (4 + a1).toNatClampNeg) fun v1 =>
  if v1 < 0 then
    c_X12_dutyGoes_j26 a1 h
  else
    if (((h.1 44 3) >>> (v1 &&& 31)) &&& 1) = 0 then
      c_X12_dutyGoes_j26 a1 h
    else
      (c_X12_lotOf (h.1 44 0) (1 + a1) h).bind fun r4 =>
      bind2 (c_X12_passesNow v1 a1 h) fun r5 h6 =>
      if r5 ≤ r4 then
        c_X12_dutyGoes_j87 a1 v1 0 h6
      else
        c_X12_dutyGoes_j87 a1 v1 1 h6
set_option maxHeartbeats 4000000 in
set_option maxRecDepth 100000 in
theorem ct_X12_dutyGoes (l : Launch) {lay : List KK} (ho : okX12 lay) (a1 : Int32) : CtV l yX12_dutyGoes cX12_dutyGoes 5 (none) 6 135 lay (fun h => c_X12_dutyGoes a1 h) (fun ad => [.ref (ad 0), .int a1]) := by
  refine CtV.mk' RX12 (by decide) rfl (fun _ => Nat.le_of_ble_eq_true rfl) ?_
  intro p0 e s m args below meth c D G A H0 ad X h r0 H ls Q hM hw hl hf hR
  have hl : lv_has ls 5 [(0, .ref (ad 0)), (1, .int a1)] := hl
  unfold c_X12_dutyGoes at hf
  refine lv_aload_n hM.1 hM.2.1 dX12_dutyGoes_0 rfl (lv_at hl 0 rfl) ?_
  refine gf_X12_row hM hw (okX12.o ho) fl_X12_149 dX12_dutyGoes_1 ?_
  refine lv_iconst (v := 4) hM.1 hM.2.1 dX12_dutyGoes_4 ic_4 ?_
  refine lv_iload_n hM.1 hM.2.1 dX12_dutyGoes_5 rfl (lv_at hl 1 rfl) ?_
  refine lv_iadd hM.1 hM.2.1 dX12_dutyGoes_6 ?_
  refine x_iald hM hw (okX12.row ho) hf dX12_dutyGoes_7 (fun hf => ?_)
  refine x_istore_n hM hf dX12_dutyGoes_8 rfl hl (by decide) (fun v1 => [(2, .int v1), (0, .ref (ad 0)), (1, .int a1)]) (fun _ => rfl) (fun v1 ls hf hl => ?_)
  refine lv_iload_n hM.1 hM.2.1 dX12_dutyGoes_9 rfl (lv_at hl 0 rfl) ?_
  refine x_if_lt (tgt := 26) hM hf dX12_dutyGoes_10 (by decide) (fun hf => ?_) (fun hf => ?_)
  · exact w_X12_dutyGoes_j26 hM ho hR hw (lv_sub hl [1, 2] rfl) hf
  refine lv_aload_n hM.1 hM.2.1 dX12_dutyGoes_13 rfl (lv_at hl 1 rfl) ?_
  refine gf_X12_row hM hw (okX12.o ho) fl_X12_149 dX12_dutyGoes_14 ?_
  refine lv_iconst (v := 3) hM.1 hM.2.1 dX12_dutyGoes_17 ic_3 ?_
  refine x_ialdK hM hw (okX12.row ho) 3 (by decide) (by decide) dX12_dutyGoes_18 ?_
  refine lv_iload_n hM.1 hM.2.1 dX12_dutyGoes_19 rfl (lv_at hl 0 rfl) ?_
  refine lv_ishr hM.1 hM.2.1 dX12_dutyGoes_20 ?_
  refine lv_iconst (v := 1) hM.1 hM.2.1 dX12_dutyGoes_21 ic_1 ?_
  refine lv_iand hM.1 hM.2.1 dX12_dutyGoes_22 ?_
  refine x_if_ne (tgt := 60) hM hf dX12_dutyGoes_23 (by decide) (fun hf => ?_) (fun hf => ?_)
  · refine lv_aload_n hM.1 hM.2.1 dX12_dutyGoes_60 rfl (lv_at hl 1 rfl) ?_
    refine lv_aload_n hM.1 hM.2.1 dX12_dutyGoes_61 rfl (lv_at hl 1 rfl) ?_
    refine gf_X12_row hM hw (okX12.o ho) fl_X12_149 dX12_dutyGoes_62 ?_
    refine lv_iconst (v := 0) hM.1 hM.2.1 dX12_dutyGoes_65 ic_0 ?_
    refine x_ialdK hM hw (okX12.row ho) 0 (by decide) (by decide) dX12_dutyGoes_66 ?_
    refine lv_iconst (v := 1) hM.1 hM.2.1 dX12_dutyGoes_67 ic_1 ?_
    refine lv_iload_n hM.1 hM.2.1 dX12_dutyGoes_68 rfl (lv_at hl 2 rfl) ?_
    refine lv_iadd hM.1 hM.2.1 dX12_dutyGoes_69 ?_
    refine x_callVIr (rest := []) hM hw (ct_X12_lotOf l ho (h.1 44 0) (1 + a1)) [.int (h.1 44 0), .int (1 + a1)] (okX12.o ho) rfl rfl rfl (gi_V ml_X12_370 im_X12_lotOf sl_X12_lotOf in_X12 kc_X12_lotOf) hd_X12_lotOf rfl ⟨Nat.le_of_ble_eq_true rfl, Nat.le_of_ble_eq_true rfl⟩ rfl (Nat.le_of_ble_eq_true rfl) hl.1 hcs0 hf dX12_dutyGoes_70 (fun r4 H locs hf hw => ?_)
    refine lv_aload_n hM.1 hM.2.1 dX12_dutyGoes_73 rfl (lv_at hl 1 rfl) ?_
    refine lv_iload_n hM.1 hM.2.1 dX12_dutyGoes_74 rfl (lv_at hl 0 rfl) ?_
    refine lv_iload_n hM.1 hM.2.1 dX12_dutyGoes_75 rfl (lv_at hl 2 rfl) ?_
    refine x_callVI (rest := [.int r4]) hM hw (ct_X12_passesNow l ho v1 a1) [.int v1, .int a1] (okX12.o ho) rfl rfl rfl (gi_V ml_X12_407 im_X12_passesNow sl_X12_passesNow in_X12 kc_X12_passesNow) hd_X12_passesNow rfl ⟨Nat.le_of_ble_eq_true rfl, Nat.le_of_ble_eq_true rfl⟩ rfl (Nat.le_of_ble_eq_true rfl) hl.1 hcs0 hf dX12_dutyGoes_76 (fun r5 h6 H locs hf hw => ?_)
    refine x_ic_ge (tgt := 86) hM hf dX12_dutyGoes_79 (by decide) (fun hf => ?_) (fun hf => ?_)
    · refine lv_iconst (v := 0) hM.1 hM.2.1 dX12_dutyGoes_86 ic_0 ?_
      exact w_X12_dutyGoes_j87 hM ho hR hw (lv_sub hl [1, 2, 0] rfl) hf
    refine lv_iconst (v := 1) hM.1 hM.2.1 dX12_dutyGoes_82 ic_1 ?_
    refine lv_goto (tgt := 87) hM.1 hM.2.1 dX12_dutyGoes_83 (by decide) ?_
    exact w_X12_dutyGoes_j87 hM ho hR hw (lv_sub hl [1, 2, 0] rfl) hf
  exact w_X12_dutyGoes_j26 hM ho hR hw (lv_sub hl [1, 2] rfl) hf
theorem hd_X12_dutyGoes : yX12_dutyGoes.cls = RX12 ∧ yX12_dutyGoes.cls ≠ "java/lang/invoke/MethodHandle" ∧ yX12_dutyGoes.cls ≠ "java/lang/invoke/VarHandle" ∧ (parseMethodDescriptor yX12_dutyGoes.desc).map (fun d => d.parameters.length) = some 1 := ⟨rfl, by decide, by decide, by decide +kernel⟩
