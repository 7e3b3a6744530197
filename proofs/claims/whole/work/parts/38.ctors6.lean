theorem dX10_init_0 : decode cX10_init 0 = .ok (.aload_n 0, 1) := by decide +kernel
theorem dX10_init_1 : decode cX10_init 1 = .ok (.invokespecial 3, 3) := by decide +kernel
theorem dX10_init_4 : decode cX10_init 4 = .ok (.aload_n 0, 1) := by decide +kernel
theorem dX10_init_5 : decode cX10_init 5 = .ok (.sipush 401, 3) := by decide +kernel
theorem dX10_init_8 : decode cX10_init 8 = .ok (.newarray .int, 2) := by decide +kernel
theorem dX10_init_10 : decode cX10_init 10 = .ok (.putfield 9, 3) := by decide +kernel
theorem dX10_init_13 : decode cX10_init 13 = .ok (.aload_n 0, 1) := by decide +kernel
theorem dX10_init_14 : decode cX10_init 14 = .ok (.sipush 401, 3) := by decide +kernel
theorem dX10_init_17 : decode cX10_init 17 = .ok (.newarray .int, 2) := by decide +kernel
theorem dX10_init_19 : decode cX10_init 19 = .ok (.putfield 15, 3) := by decide +kernel
theorem dX10_init_22 : decode cX10_init 22 = .ok (.aload_n 0, 1) := by decide +kernel
theorem dX10_init_23 : decode cX10_init 23 = .ok (.sipush 401, 3) := by decide +kernel
theorem dX10_init_26 : decode cX10_init 26 = .ok (.newarray .long, 2) := by decide +kernel
theorem dX10_init_28 : decode cX10_init 28 = .ok (.putfield 18, 3) := by decide +kernel
theorem dX10_init_31 : decode cX10_init 31 = .ok (.aload_n 0, 1) := by decide +kernel
theorem dX10_init_32 : decode cX10_init 32 = .ok (.bipush 23, 2) := by decide +kernel
theorem dX10_init_34 : decode cX10_init 34 = .ok (.newarray .long, 2) := by decide +kernel
theorem dX10_init_36 : decode cX10_init 36 = .ok (.putfield 22, 3) := by decide +kernel
theorem dX10_init_39 : decode cX10_init 39 = .ok (.iconst 0, 1) := by decide +kernel
theorem dX10_init_40 : decode cX10_init 40 = .ok (.istore_n 1, 1) := by decide +kernel
theorem dX10_init_41 : decode cX10_init 41 = .ok (.lconst 0, 1) := by decide +kernel
theorem dX10_init_42 : decode cX10_init 42 = .ok (.lstore_n 2, 1) := by decide +kernel
theorem dX10_init_43 : decode cX10_init 43 = .ok (.iconst 0, 1) := by decide +kernel
theorem dX10_init_44 : decode cX10_init 44 = .ok (.istore 4, 2) := by decide +kernel
theorem dX10_init_46 : decode cX10_init 46 = .ok (.iload 4, 2) := by decide +kernel
theorem dX10_init_48 : decode cX10_init 48 = .ok (.ldc 25, 2) := by decide +kernel
theorem dX10_init_50 : decode cX10_init 50 = .ok (.invokevirtual 27, 3) := by decide +kernel
theorem dX10_init_53 : decode cX10_init 53 = .ok (.if_icmp .ge 61, 3) := by decide +kernel
theorem dX10_init_56 : decode cX10_init 56 = .ok (.iload_n 1, 1) := by decide +kernel
theorem dX10_init_57 : decode cX10_init 57 = .ok (.bipush 23, 2) := by decide +kernel
theorem dX10_init_59 : decode cX10_init 59 = .ok (.if_icmp .ge 55, 3) := by decide +kernel
theorem dX10_init_62 : decode cX10_init 62 = .ok (.ldc 25, 2) := by decide +kernel
theorem dX10_init_64 : decode cX10_init 64 = .ok (.iload 4, 2) := by decide +kernel
theorem dX10_init_66 : decode cX10_init 66 = .ok (.invokevirtual 33, 3) := by decide +kernel
theorem dX10_init_69 : decode cX10_init 69 = .ok (.istore 5, 2) := by decide +kernel
theorem dX10_init_71 : decode cX10_init 71 = .ok (.iload 5, 2) := by decide +kernel
theorem dX10_init_73 : decode cX10_init 73 = .ok (.bipush 32, 2) := by decide +kernel
theorem dX10_init_75 : decode cX10_init 75 = .ok (.if_icmp .ne 18, 3) := by decide +kernel
theorem dX10_init_78 : decode cX10_init 78 = .ok (.aload_n 0, 1) := by decide +kernel
theorem dX10_init_79 : decode cX10_init 79 = .ok (.getfield 22, 3) := by decide +kernel
theorem dX10_init_82 : decode cX10_init 82 = .ok (.iload_n 1, 1) := by decide +kernel
theorem dX10_init_83 : decode cX10_init 83 = .ok (.lload_n 2, 1) := by decide +kernel
theorem dX10_init_84 : decode cX10_init 84 = .ok (.lastore, 1) := by decide +kernel
theorem dX10_init_85 : decode cX10_init 85 = .ok (.iinc 1 1, 3) := by decide +kernel
theorem dX10_init_88 : decode cX10_init 88 = .ok (.lconst 0, 1) := by decide +kernel
theorem dX10_init_89 : decode cX10_init 89 = .ok (.lstore_n 2, 1) := by decide +kernel
theorem dX10_init_90 : decode cX10_init 90 = .ok (.goto 18, 3) := by decide +kernel
theorem dX10_init_93 : decode cX10_init 93 = .ok (.lload_n 2, 1) := by decide +kernel
theorem dX10_init_94 : decode cX10_init 94 = .ok (.ldc2_w 37, 3) := by decide +kernel
theorem dX10_init_97 : decode cX10_init 97 = .ok (.lmul, 1) := by decide +kernel
theorem dX10_init_98 : decode cX10_init 98 = .ok (.iload 5, 2) := by decide +kernel
theorem dX10_init_100 : decode cX10_init 100 = .ok (.bipush 97, 2) := by decide +kernel
theorem dX10_init_102 : decode cX10_init 102 = .ok (.isub, 1) := by decide +kernel
theorem dX10_init_103 : decode cX10_init 103 = .ok (.iconst 1, 1) := by decide +kernel
theorem dX10_init_104 : decode cX10_init 104 = .ok (.iadd, 1) := by decide +kernel
theorem dX10_init_105 : decode cX10_init 105 = .ok (.i2l, 1) := by decide +kernel
theorem dX10_init_106 : decode cX10_init 106 = .ok (.ladd, 1) := by decide +kernel
theorem dX10_init_107 : decode cX10_init 107 = .ok (.lstore_n 2, 1) := by decide +kernel
theorem dX10_init_108 : decode cX10_init 108 = .ok (.iinc 4 1, 3) := by decide +kernel
theorem dX10_init_111 : decode cX10_init 111 = .ok (.goto (-65), 3) := by decide +kernel
theorem dX10_init_114 : decode cX10_init 114 = .ok (.return_, 1) := by decide +kernel
def Pn2 (D : va_G) (G : GG) (b0 kS vS : Nat) (W0 : va_W) (sz : Nat) (U : State) : Prop := Pn D G W0 sz U ∧ b0 ≤ sz ∧ (∀ (k : Nat) (x : Nat × va_E), W0[k]? = some x → b0 ≤ x.1) ∧ SE kS vS (fun q => b0 ≤ q) U U.heap ∧ vk_R RX10 25 "man excuse duty knows test passes wears rain coins seed once if then else day strong wear trust kind ago wet hours heard " kS U
def CtN2 (l : Launch) (y : MethodName) (cc : ByteArray) (n : Nat) (fr lo mc ms ci : Nat) (fs0 : List Value) (lay : List KK) (hX : PH) : Prop :=
  ∀ (D : va_G) (G : GG) (b0 kS vS : Nat) (Y : va_W) (q sz : Nat), Met l y (.code y cc n none :: lw_g) (rmC fr lo mc ms) (va_Pc [.ref q] (Pn2 D G b0 kS vS (Y ++ [(q, .inr (ci, fs0))]) sz)) (va_Qv (fun (u : Nat → Nat) => u 0 = q) (Bn D G Y (va_A (Y ++ [(q, .inr (ci, fs0))]) sz) lay hX) (va_A (Y ++ [(q, .inr (ci, fs0))]) sz)) mc ms (va_A (Y ++ [(q, .inr (ci, fs0))]) sz)
theorem pn2_blind {D : va_G} {G : GG} {b0 kS vS : Nat} {W0 : va_W} {sz : Nat} {as : List Value} : FrameBlind (va_Pc as (Pn2 D G b0 kS vS W0 sz)) := fun a U g mk q => by
  obtain ⟨q0, q1, q2, q3, q4, q5⟩ := q
  exact ⟨q0, (pn_blind (as := as) a U g mk ⟨q0, q1⟩).2, q2, q3, SE.moved (u := U) (U := U.calling g mk a) (Vm.Alike.refl U.vm) q4, vk_R.same (u := U) (U := U.calling g mk a) rfl q5⟩
theorem wn_kept {D : va_G} {G : GG} {A : Nat → Prop} {H0 H H1 : Heap} {W0 : va_W} {s : State} {locs locs1 : List Loc} (hw : Wn D G A H0 W0 s H locs) (hS : va_S A H0 H1 locs1) (hk : ∀ q : Nat, q < H.size → H1[q]? = H[q]?) : Wn D G A H0 W0 s H1 locs1 := ⟨hw.1, hw.2.1.kept (fun k x hx => hk x.1 ((hw.2.1 k x hx).lt)), hw.2.2.1, hS, hw.2.2.2.2⟩
/-- behind i signs: words told, the letters of the one at hand, the words -/
def wS : Nat → Nat × Int64 × (Nat → Int64)
  | 0 => (0, 0, fun _ => 0)
  | i + 1 => if wB i = 32 then ((wS i).1 + 1, 0, vp_updL (wS i).2.2 (wS i).1 (wS i).2.1) else ((wS i).1, (wS i).2.1 * 32 + ((wB i - 97) + 1).toInt64, (wS i).2.2)
theorem wS_lt : ∀ i, i < 121 → (wS i).1 < 23 := by decide +kernel
def hX10 : PH := (fun _ _ => 0, fun p j => if p = 4 then (wS 121).2.2 j else 0, fun _ _ => 0)
abbrev layX10 : List KK := [kX10, kI 401, kI 401, kJ 401, kJ 23]
def Lx10 (G : GG) (q q1 q2 q3 q4 : Nat) (f : Nat → Int64) : va_W := [(q, .inr (10, [.ref q1, .ref q2, .ref q3, .ref q4])), (q1, .inl (G.2.1, 401, .inl (fun _ => 0))), (q2, .inl (G.2.1, 401, .inl (fun _ => 0))), (q3, .inl (G.2.2.1, 401, .inr (.inl (fun _ => 0)))), (q4, .inl (G.2.2.1, 23, .inr (.inl f)))]
section XL
variable {cells slots : Nat}
variable {p : Program} {l : Launch} {e : Env} {R : Room} {s : State} {m : MethodId} {args : Array Value} {below : List Frame} {meth : Method} {c : Code} {H : Heap} {locs : List Loc} {Q : State → Prop}
variable {cc : ByteArray} {nL pc : Nat} {own : String} {ls : Array Slot} {rest : List Value} {D : va_G} {G : GG} {A : Nat → Prop} {H0 : Heap} {Y L : va_W}
theorem n_last (hM : CallFix p m c cc nL s args lw_g own) (hw : Wn D G A H0 (Y ++ L) s H locs) (i0 : Nat) {a n : Nat} {f : Nat → Int64} (ha : L[i0]? = some (a, .inl (G.2.2.1, n, .inr (.inl f)))) {i : Int32} {x : Int64} (hin : vp_in i n) (L' : va_W) (hL : L.set i0 (a, .inl (G.2.2.1, n, .inr (.inl (vp_updL f i.toNatClampNeg x)))) = L') (hdg : decode cc pc = .ok (.lastore, 1)) (kk : ∀ (H1 : Heap) (locs1 : List Loc), Wn D G A H0 (Y ++ L') s H1 locs1 → W p l e R s m args below meth c H1 locs1 cells slots Q (F0 m (pc + 1) ls rest)) : W p l e R s m args below meth c H locs cells slots Q (F0 m pc ls (.long x :: .int i :: .ref a :: rest)) :=
  va_last hM.1 hM.2.1 hw.1 hw.2.1 hw.2.2.1 hw.2.2.2.1 (Y.length + i0) 2 (by rw [ap_get]; exact ha) rfl hin hdg fun H1 locs1 hP hD hS => by
    rw [ap_set, hL] at hP hD
    exact kk H1 locs1 ⟨hw.1, hP, hD, hS, hw.2.2.2.2⟩
end XL
set_option maxHeartbeats 4000000 in
set_option maxRecDepth 100000 in
theorem x10_loop {p : Program} {l : Launch} {e : Env} {s : State} {m : MethodId} {args : Array Value} {below : List Frame} {meth : Method} {c : Code} {Q : State → Prop} {D : va_G} {G : GG} {A : Nat → Prop} {Y : va_W} {q q1 q2 q3 q4 kS vS : Nat} (hM : CallFix p m c cX10_init 6 s args lw_g RX10) (hSE : SE kS vS A s s.heap) (hR : vk_R RX10 25 "man excuse duty knows test passes wears rain coins seed once if then else day strong wear trust kind ago wet hours heard " kS s)
    (hend : ∀ (H : Heap) (locs : List Loc) (ls : Array Slot), Wn D G A s.heap (Y ++ Lx10 G q q1 q2 q3 q4 (wS 121).2.2) s H locs → W p l e (rmC 4 140 4 1226) s m args below meth c H locs 4 1226 Q (F0 m 114 ls [])) : ∀ (f i : Nat), i + f = 121 → ∀ (H : Heap) (locs : List Loc) (ls : Array Slot), Wn D G A s.heap (Y ++ Lx10 G q q1 q2 q3 q4 (wS i).2.2) s H locs → lv_has ls 6 [(0, .ref q), (1, .int (nI (wS i).1)), (2, .long (wS i).2.1), (4, .int (nI i))] → W p l e (rmC 4 140 4 1226) s m args below meth c H locs 4 1226 Q (F0 m 46 ls [])
  | 0, i, hf => fun H locs ls hw hl => by
    have hi : i = 121 := by omega
    subst hi
    refine lv_iload hM.1 hM.2.1 dX10_init_46 (lv_at hl 3 rfl) ?_
    refine va_ldcS hM.1 hM.2.1 hM.2.2.2.1 hR dX10_init_48 ?_
    refine j_callV (rest := [.int (nI 121)]) hM hSE hw.2.2.2.1 (cj_J0_length_8abf5 l kS vS) [] rfl rfl rfl (gi_V ml_X10_27 im_J0_length_8abf5 sl_J0_length_8abf5 in_J0 kc_J0_length_8abf5) hj_J0_length_8abf5 rfl ⟨Nat.le_of_ble_eq_true rfl, Nat.le_of_ble_eq_true rfl⟩ rfl (Nat.le_of_ble_eq_true rfl) hl.1 ⟨Nat.le_of_ble_eq_true rfl, Nat.le_of_ble_eq_true rfl⟩ dX10_init_50 (fun H locs hS hz hk => ?_)
    have hw := wn_kept hw hS hk
    refine lv_icmp_ge (tgt := 114) hM.1 hM.2.1 dX10_init_53 (by decide) (fun _ => ?_) (fun q => absurd (by decide) q)
    exact hend H locs ls hw
  | f + 1, i, hf => fun H locs ls hw hl => by
    have hi : i < 121 := by omega
    have hw23 := wS_lt i hi
    refine lv_iload hM.1 hM.2.1 dX10_init_46 (lv_at hl 3 rfl) ?_
    refine va_ldcS hM.1 hM.2.1 hM.2.2.2.1 hR dX10_init_48 ?_
    refine j_callV (rest := [.int (nI i)]) hM hSE hw.2.2.2.1 (cj_J0_length_8abf5 l kS vS) [] rfl rfl rfl (gi_V ml_X10_27 im_J0_length_8abf5 sl_J0_length_8abf5 in_J0 kc_J0_length_8abf5) hj_J0_length_8abf5 rfl ⟨Nat.le_of_ble_eq_true rfl, Nat.le_of_ble_eq_true rfl⟩ rfl (Nat.le_of_ble_eq_true rfl) hl.1 ⟨Nat.le_of_ble_eq_true rfl, Nat.le_of_ble_eq_true rfl⟩ dX10_init_50 (fun H locs hS hz hk => ?_)
    have hw := wn_kept hw hS hk
    refine lv_icmp_ge (tgt := 114) hM.1 hM.2.1 dX10_init_53 (by decide) (fun q => absurd q (show ¬ nI 121 ≤ nI i from nI_ge hi (by omega))) (fun _ => ?_)
    refine lv_iload_n hM.1 hM.2.1 dX10_init_56 rfl (lv_at hl 1 rfl) ?_
    refine lv_bipush (v := 23) hM.1 hM.2.1 dX10_init_57 (by decide) ?_
    refine lv_icmp_ge (tgt := 114) hM.1 hM.2.1 dX10_init_59 (by decide) (fun q => absurd q (show ¬ nI 23 ≤ nI (wS i).1 from nI_ge hw23 (by omega))) (fun _ => ?_)
    refine va_ldcS hM.1 hM.2.1 hM.2.2.2.1 hR dX10_init_62 ?_
    refine lv_iload hM.1 hM.2.1 dX10_init_64 (lv_at hl 3 rfl) ?_
    refine j_callV (rest := []) hM hSE hw.2.2.2.1 (cj_J0_charAt_5068e l kS vS hi) [.int (nI i)] rfl rfl rfl (gi_V ml_X10_33 im_J0_charAt_5068e sl_J0_charAt_5068e in_J0 kc_J0_charAt_5068e) hj_J0_charAt_5068e rfl ⟨Nat.le_of_ble_eq_true rfl, Nat.le_of_ble_eq_true rfl⟩ rfl (Nat.le_of_ble_eq_true rfl) hl.1 ⟨Nat.le_of_ble_eq_true rfl, Nat.le_of_ble_eq_true rfl⟩ dX10_init_66 (fun H locs hS hz hk => ?_)
    have hw := wn_kept hw hS hk
    have hstep : wS (i + 1) = if wB i = 32 then ((wS i).1 + 1, 0, vp_updL (wS i).2.2 (wS i).1 (wS i).2.1) else ((wS i).1, (wS i).2.1 * 32 + ((wB i - 97) + 1).toInt64, (wS i).2.2) := rfl
    have hind := x10_loop (l := l) (e := e) hM hSE hR hend f (i + 1) (by omega)
    generalize wB i = sg at hstep ⊢
    generalize (wS i).1 = ww at hstep hw23 hl ⊢
    generalize (wS i).2.1 = lt at hstep hl ⊢
    generalize (wS i).2.2 = fw at hstep hw
    refine lv_istore (lv' := [(5, .int sg), (0, .ref q), (1, .int (nI ww)), (2, .long lt), (4, .int (nI i))]) hM.1 hM.2.1 dX10_init_69 hl (by decide) rfl (fun ls hl => ?_)
    refine lv_iload hM.1 hM.2.1 dX10_init_71 (lv_at hl 0 rfl) ?_
    refine lv_bipush (v := 32) hM.1 hM.2.1 dX10_init_73 (by decide) ?_
    refine lv_icmp_ne (tgt := 93) hM.1 hM.2.1 dX10_init_75 (by decide) (fun hne => ?_) (fun heq => ?_)
    · rw [if_neg hne] at hstep
      refine lv_lload_n hM.1 hM.2.1 dX10_init_93 rfl (lv_at hl 3 rfl) ?_
      refine lv_ldc2 (v := 32) hM.1 hM.2.1 hM.2.2.2.1 (hM.2.2.2.2 _ kn_X10_37) dX10_init_94 ?_
      refine lv_lmul hM.1 hM.2.1 dX10_init_97 ?_
      refine lv_iload hM.1 hM.2.1 dX10_init_98 (lv_at hl 0 rfl) ?_
      refine lv_bipush (v := 97) hM.1 hM.2.1 dX10_init_100 (by decide) ?_
      refine lv_isub hM.1 hM.2.1 dX10_init_102 ?_
      refine lv_iconst (v := 1) hM.1 hM.2.1 dX10_init_103 ic_1 ?_
      refine lv_iadd hM.1 hM.2.1 dX10_init_104 ?_
      refine lv_i2l hM.1 hM.2.1 dX10_init_105 rfl ?_
      refine lv_ladd hM.1 hM.2.1 dX10_init_106 ?_
      refine lv_lstore_n (lv' := [(2, .long (lt * 32 + ((sg - 97) + 1).toInt64)), (5, .int sg), (0, .ref q), (1, .int (nI ww)), (4, .int (nI i))]) hM.1 hM.2.1 dX10_init_107 rfl hl (by decide) rfl (fun ls hl => ?_)
      refine lv_iinc (k := 4) (v := nI (i + 1)) (lv' := [(4, .int (nI (i + 1))), (2, .long (lt * 32 + ((sg - 97) + 1).toInt64)), (5, .int sg), (0, .ref q), (1, .int (nI ww))]) hM.1 hM.2.1 dX10_init_108 hl rfl (nI_1 i) (by decide) rfl (fun ls hl => ?_)
      refine lv_goto (tgt := 46) hM.1 hM.2.1 dX10_init_111 (by decide) ?_
      refine hind H locs ls ?_ ?_
      · rw [hstep]; exact hw
      · rw [hstep]; exact lv_sub hl [3, 4, 1, 0] rfl
    · rw [if_pos heq] at hstep
      refine lv_aload_n hM.1 hM.2.1 dX10_init_78 rfl (lv_at hl 1 rfl) ?_
      refine n_get hM hw 0 (k := 3) (fs := [.ref q1, .ref q2, .ref q3, .ref q4]) rfl rfl fw_X10 (by decide) rfl fl_X10_22 rfl dX10_init_79 ?_
      refine lv_iload_n hM.1 hM.2.1 dX10_init_82 rfl (lv_at hl 2 rfl) ?_
      refine lv_lload_n hM.1 hM.2.1 dX10_init_83 rfl (lv_at hl 3 rfl) ?_
      refine n_last hM hw 4 rfl (vp_in_nI hw23 (by omega)) (Lx10 G q q1 q2 q3 q4 (vp_updL fw ww lt)) (by rw [nI_clamp (by omega)]; rfl) dX10_init_84 (fun H locs hw => ?_)
      refine lv_iinc (k := 2) (v := nI (ww + 1)) (lv' := [(1, .int (nI (ww + 1))), (5, .int sg), (0, .ref q), (2, .long lt), (4, .int (nI i))]) hM.1 hM.2.1 dX10_init_85 hl rfl (nI_1 ww) (by decide) rfl (fun ls hl => ?_)
      refine lv_lconst (v := 0) hM.1 hM.2.1 dX10_init_88 (by decide) ?_
      refine lv_lstore_n (lv' := [(2, .long 0), (1, .int (nI (ww + 1))), (5, .int sg), (0, .ref q), (4, .int (nI i))]) hM.1 hM.2.1 dX10_init_89 rfl hl (by decide) rfl (fun ls hl => ?_)
      refine lv_goto (tgt := 108) hM.1 hM.2.1 dX10_init_90 (by decide) ?_
      refine lv_iinc (k := 4) (v := nI (i + 1)) (lv' := [(4, .int (nI (i + 1))), (2, .long 0), (1, .int (nI (ww + 1))), (5, .int sg), (0, .ref q)]) hM.1 hM.2.1 dX10_init_108 hl rfl (nI_1 i) (by decide) rfl (fun ls hl => ?_)
      refine lv_goto (tgt := 46) hM.1 hM.2.1 dX10_init_111 (by decide) ?_
      refine hind H locs ls ?_ ?_
      · rw [hstep]; exact hw
      · rw [hstep]; exact lv_sub hl [4, 2, 1, 0] rfl
set_option maxHeartbeats 4000000 in
set_option maxRecDepth 100000 in
theorem ctn_X10 (l : Launch) : CtN2 l yX10_init cX10_init 6 4 140 4 1226 10 [.null, .null, .null, .null] layX10 hX10 := by
  intro D G b0 kS vS Y q sz
  refine Met.ofW (cc := cX10_init) (maxL := 6) (ret := none) (by decide) rfl ?_
  intro p e s m args below meth c s₁ B hml hv
  obtain ⟨rfl, ⟨hsz, hP, hK, hD0, hSF⟩, hb0, hYb, hSE0, hVR⟩ := hv
  subst hsz
  have hts : ∀ w ∈ (Cond.code yX10_init cX10_init 6 none :: lw_g), w.before ([Value.ref q] : List Value).toArray s = true := atoms_spec (ws := Cond.code yX10_init cX10_init 6 none :: lw_g) B.pre
  have hown : s.vm.findClass RX10 = some m.cls := findClass_of_methodNamed B.named
  have hM : CallFix p m c cX10_init 6 s ([Value.ref q] : List Value).toArray lw_g RX10 := ⟨B.exec, B.bytes, hml, hown, fun w hw => hts w (List.mem_cons_of_mem _ hw)⟩
  have hin2 : meth.name = "<init>" := (name_of_methodNamed B.named B.method).1
  have hD := hD0.self (sz := s.heap.size)
  have hA : ∀ x : Nat, s.heap.size ≤ x → va_A (Y ++ [(q, .inr (10, [.null, .null, .null, .null]))]) s.heap.size x := fun x h => Or.inr h
  have hAb : ∀ x : Nat, va_A (Y ++ [(q, .inr (10, [.null, .null, .null, .null]))]) s.heap.size x → b0 ≤ x := fun x h => by
    rcases h with ⟨k, e, hk⟩ | h
    · exact hYb k (x, e) hk
    · omega
  have hSE := hSE0.narrow hAb
  generalize va_A (Y ++ [(q, .inr (10, [.null, .null, .null, .null]))]) s.heap.size = A at hD hA hSE ⊢
  have hw : Wn D G A s.heap (Y ++ [(q, .inr (10, [.null, .null, .null, .null]))]) s s.heap [] := ⟨hK, hP, hD, va_S.rf, hA⟩
  have hl := lv_entry ([.ref q]) (n := 6) (Nat.le_of_ble_eq_true rfl)
  rw [lg_entry_eq]
  generalize (lg_sl ([.ref q]) ++ List.replicate (6 - (lg_sl ([.ref q])).length) Slot.unset).toArray = ls at hl ⊢
  have hl : lv_has ls 6 [(0, .ref q)] := hl
  refine lv_aload_n hM.1 hM.2.1 dX10_init_0 rfl (lv_at hl 0 rfl) ?_
  refine n_obj hM hl.1 ml_X10_3 dX10_init_1 (Nat.le_of_ble_eq_true rfl) (Nat.le_of_ble_eq_true rfl) ?_
  refine lv_aload_n hM.1 hM.2.1 dX10_init_4 rfl (lv_at hl 0 rfl) ?_
  refine lv_sipush (v := 401) hM.1 hM.2.1 dX10_init_5 (by decide) ?_
  refine n_newa hM hw (atype := .int) ac_I rfl 1 rfl 401 (a0 := (401, .inl (fun _ => 0))) (fun _ => rfl) (by decide) (by decide) (Nat.le_of_ble_eq_true rfl) (Nat.le_of_ble_eq_true rfl) (Nat.le_of_ble_eq_true rfl) dX10_init_8 (fun q1 H hw => ?_)
  have hw := wn_eq (W1 := Y ++ ((q, .inr (10, [.null, .null, .null, .null])) :: ([(q1, .inl (G.2.1, 401, .inl (fun _ => 0)))] : va_W))) (by simp only [List.append_assoc, List.cons_append, List.nil_append, List.append_nil]) hw
  refine n_putF hM hw hin2 0 rfl rfl fw_X10 (k := 0) tyX10_ok nmX10 (by decide) rfl rfl rfl fl_X10_9 rfl rfl (by show 0 < 4; decide) ((q, .inr (10, [.ref q1, .null, .null, .null])) :: ([(q1, .inl (G.2.1, 401, .inl (fun _ => 0)))] : va_W)) rfl dX10_init_10 (fun H locs hw => ?_)
  refine lv_aload_n hM.1 hM.2.1 dX10_init_13 rfl (lv_at hl 0 rfl) ?_
  refine lv_sipush (v := 401) hM.1 hM.2.1 dX10_init_14 (by decide) ?_
  refine n_newa hM hw (atype := .int) ac_I rfl 1 rfl 401 (a0 := (401, .inl (fun _ => 0))) (fun _ => rfl) (by decide) (by decide) (Nat.le_of_ble_eq_true rfl) (Nat.le_of_ble_eq_true rfl) (Nat.le_of_ble_eq_true rfl) dX10_init_17 (fun q2 H hw => ?_)
  have hw := wn_eq (W1 := Y ++ ((q, .inr (10, [.ref q1, .null, .null, .null])) :: ([(q1, .inl (G.2.1, 401, .inl (fun _ => 0))), (q2, .inl (G.2.1, 401, .inl (fun _ => 0)))] : va_W))) (by simp only [List.append_assoc, List.cons_append, List.nil_append, List.append_nil]) hw
  refine n_putF hM hw hin2 0 rfl rfl fw_X10 (k := 1) tyX10_ok nmX10 (by decide) rfl rfl rfl fl_X10_15 rfl rfl (by show 1 < 4; decide) ((q, .inr (10, [.ref q1, .ref q2, .null, .null])) :: ([(q1, .inl (G.2.1, 401, .inl (fun _ => 0))), (q2, .inl (G.2.1, 401, .inl (fun _ => 0)))] : va_W)) rfl dX10_init_19 (fun H locs hw => ?_)
  refine lv_aload_n hM.1 hM.2.1 dX10_init_22 rfl (lv_at hl 0 rfl) ?_
  refine lv_sipush (v := 401) hM.1 hM.2.1 dX10_init_23 (by decide) ?_
  refine n_newa hM hw (atype := .long) ac_J rfl 2 rfl 401 (a0 := (401, .inr (.inl (fun _ => 0)))) (fun _ => rfl) (by decide) (by decide) (Nat.le_of_ble_eq_true rfl) (Nat.le_of_ble_eq_true rfl) (Nat.le_of_ble_eq_true rfl) dX10_init_26 (fun q3 H hw => ?_)
  have hw := wn_eq (W1 := Y ++ ((q, .inr (10, [.ref q1, .ref q2, .null, .null])) :: ([(q1, .inl (G.2.1, 401, .inl (fun _ => 0))), (q2, .inl (G.2.1, 401, .inl (fun _ => 0))), (q3, .inl (G.2.2.1, 401, .inr (.inl (fun _ => 0))))] : va_W))) (by simp only [List.append_assoc, List.cons_append, List.nil_append, List.append_nil]) hw
  refine n_putF hM hw hin2 0 rfl rfl fw_X10 (k := 2) tyX10_ok nmX10 (by decide) rfl rfl rfl fl_X10_18 rfl rfl (by show 2 < 4; decide) ((q, .inr (10, [.ref q1, .ref q2, .ref q3, .null])) :: ([(q1, .inl (G.2.1, 401, .inl (fun _ => 0))), (q2, .inl (G.2.1, 401, .inl (fun _ => 0))), (q3, .inl (G.2.2.1, 401, .inr (.inl (fun _ => 0))))] : va_W)) rfl dX10_init_28 (fun H locs hw => ?_)
  refine lv_aload_n hM.1 hM.2.1 dX10_init_31 rfl (lv_at hl 0 rfl) ?_
  refine lv_bipush (v := 23) hM.1 hM.2.1 dX10_init_32 (by decide) ?_
  refine n_newa hM hw (atype := .long) ac_J rfl 2 rfl 23 (a0 := (23, .inr (.inl (fun _ => 0)))) (fun _ => rfl) (by decide) (by decide) (Nat.le_of_ble_eq_true rfl) (Nat.le_of_ble_eq_true rfl) (Nat.le_of_ble_eq_true rfl) dX10_init_34 (fun q4 H hw => ?_)
  have hw := wn_eq (W1 := Y ++ ((q, .inr (10, [.ref q1, .ref q2, .ref q3, .null])) :: ([(q1, .inl (G.2.1, 401, .inl (fun _ => 0))), (q2, .inl (G.2.1, 401, .inl (fun _ => 0))), (q3, .inl (G.2.2.1, 401, .inr (.inl (fun _ => 0)))), (q4, .inl (G.2.2.1, 23, .inr (.inl (fun _ => 0))))] : va_W))) (by simp only [List.append_assoc, List.cons_append, List.nil_append, List.append_nil]) hw
  refine n_putF hM hw hin2 0 rfl rfl fw_X10 (k := 3) tyX10_ok nmX10 (by decide) rfl rfl rfl fl_X10_22 rfl rfl (by show 3 < 4; decide) ((q, .inr (10, [.ref q1, .ref q2, .ref q3, .ref q4])) :: ([(q1, .inl (G.2.1, 401, .inl (fun _ => 0))), (q2, .inl (G.2.1, 401, .inl (fun _ => 0))), (q3, .inl (G.2.2.1, 401, .inr (.inl (fun _ => 0)))), (q4, .inl (G.2.2.1, 23, .inr (.inl (fun _ => 0))))] : va_W)) rfl dX10_init_36 (fun H locs hw => ?_)
  refine lv_iconst (v := 0) hM.1 hM.2.1 dX10_init_39 ic_0 ?_
  refine lv_istore_n (lv' := [(1, .int (nI 0)), (0, .ref q)]) hM.1 hM.2.1 dX10_init_40 rfl hl (by decide) rfl (fun ls hl => ?_)
  refine lv_lconst (v := 0) hM.1 hM.2.1 dX10_init_41 (by decide) ?_
  refine lv_lstore_n (lv' := [(2, .long 0), (1, .int (nI 0)), (0, .ref q)]) hM.1 hM.2.1 dX10_init_42 rfl hl (by decide) rfl (fun ls hl => ?_)
  refine lv_iconst (v := 0) hM.1 hM.2.1 dX10_init_43 ic_0 ?_
  refine lv_istore (lv' := [(4, .int (nI 0)), (2, .long 0), (1, .int (nI 0)), (0, .ref q)]) hM.1 hM.2.1 dX10_init_44 hl (by decide) rfl (fun ls hl => ?_)
  refine x10_loop (Y := Y) (q := q) (q1 := q1) (q2 := q2) (q3 := q3) (q4 := q4) hM hSE hVR ?_ 121 0 rfl H locs ls hw (lv_sub hl [3, 2, 1, 0] rfl)
  intro H locs ls hw
  have hw := wn_eq (W1 := Y ++ encA (fun i => [q, q1, q2, q3, q4].getD i 0) G hX10 0 layX10) rfl hw
  exact W.vret B.exec B.bytes B.returns (fun t ht hW => ⟨⟨_, rfl, rfl, by rw [ht]; exact hw.2.1, va_K.moved hW.alike hw.1, hw.2.2.1⟩, hw.2.2.2.1.F ht⟩) (fun q hq => hw.2.2.2.1.2.2 q hq) dX10_init_114 (hlocks := B.notSynchronized)
