def hZ : PH := (fun _ _ => 0, fun _ _ => 0, fun _ _ => 0)
theorem dX0_init_0 : decode cX0_init 0 = .ok (.aload_n 0, 1) := by decide +kernel
theorem dX0_init_1 : decode cX0_init 1 = .ok (.invokespecial 3, 3) := by decide +kernel
theorem dX0_init_4 : decode cX0_init 4 = .ok (.aload_n 0, 1) := by decide +kernel
theorem dX0_init_5 : decode cX0_init 5 = .ok (.bipush 20, 2) := by decide +kernel
theorem dX0_init_7 : decode cX0_init 7 = .ok (.newarray .int, 2) := by decide +kernel
theorem dX0_init_9 : decode cX0_init 9 = .ok (.putfield 9, 3) := by decide +kernel
theorem dX0_init_12 : decode cX0_init 12 = .ok (.aload_n 0, 1) := by decide +kernel
theorem dX0_init_13 : decode cX0_init 13 = .ok (.bipush 20, 2) := by decide +kernel
theorem dX0_init_15 : decode cX0_init 15 = .ok (.newarray .int, 2) := by decide +kernel
theorem dX0_init_17 : decode cX0_init 17 = .ok (.putfield 15, 3) := by decide +kernel
theorem dX0_init_20 : decode cX0_init 20 = .ok (.aload_n 0, 1) := by decide +kernel
theorem dX0_init_21 : decode cX0_init 21 = .ok (.bipush 20, 2) := by decide +kernel
theorem dX0_init_23 : decode cX0_init 23 = .ok (.newarray .int, 2) := by decide +kernel
theorem dX0_init_25 : decode cX0_init 25 = .ok (.putfield 18, 3) := by decide +kernel
theorem dX0_init_28 : decode cX0_init 28 = .ok (.aload_n 0, 1) := by decide +kernel
theorem dX0_init_29 : decode cX0_init 29 = .ok (.bipush 20, 2) := by decide +kernel
theorem dX0_init_31 : decode cX0_init 31 = .ok (.newarray .int, 2) := by decide +kernel
theorem dX0_init_33 : decode cX0_init 33 = .ok (.putfield 21, 3) := by decide +kernel
theorem dX0_init_36 : decode cX0_init 36 = .ok (.aload_n 0, 1) := by decide +kernel
theorem dX0_init_37 : decode cX0_init 37 = .ok (.iconst 0, 1) := by decide +kernel
theorem dX0_init_38 : decode cX0_init 38 = .ok (.putfield 24, 3) := by decide +kernel
theorem dX0_init_41 : decode cX0_init 41 = .ok (.return_, 1) := by decide +kernel
abbrev layX0 : List KK := [kX0, kI 20, kI 20, kI 20, kI 20]
set_option maxHeartbeats 4000000 in
set_option maxRecDepth 100000 in
theorem ctn_X0 (l : Launch) : CtN l yX0_init cX0_init 1 1 12 4 80 0 [.null, .null, .null, .null, .int 0] layX0 hZ := by
  intro D G Y q sz
  refine Met.ofW (cc := cX0_init) (maxL := 1) (ret := none) (by decide) rfl ?_
  intro p e s m args below meth c s₁ B hml hv
  obtain ⟨rfl, hsz, hP, hK, hD0, hSF⟩ := hv
  subst hsz
  have hts : ∀ w ∈ (Cond.code yX0_init cX0_init 1 none :: lw_g), w.before ([Value.ref q] : List Value).toArray s = true := atoms_spec (ws := Cond.code yX0_init cX0_init 1 none :: lw_g) B.pre
  have hown : s.vm.findClass RX0 = some m.cls := findClass_of_methodNamed B.named
  have hM : CallFix p m c cX0_init 1 s ([Value.ref q] : List Value).toArray lw_g RX0 := ⟨B.exec, B.bytes, hml, hown, fun w hw => hts w (List.mem_cons_of_mem _ hw)⟩
  have hin2 : meth.name = "<init>" := (name_of_methodNamed B.named B.method).1
  have hD := hD0.self (sz := s.heap.size)
  have hA : ∀ x : Nat, s.heap.size ≤ x → va_A (Y ++ [(q, .inr (0, [.null, .null, .null, .null, .int 0]))]) s.heap.size x := fun x h => Or.inr h
  generalize va_A (Y ++ [(q, .inr (0, [.null, .null, .null, .null, .int 0]))]) s.heap.size = A at hD hA ⊢
  have hw : Wn D G A s.heap (Y ++ [(q, .inr (0, [.null, .null, .null, .null, .int 0]))]) s s.heap [] := ⟨hK, hP, hD, va_S.rf, hA⟩
  have hl := lv_entry ([.ref q]) (n := 1) (Nat.le_of_ble_eq_true rfl)
  rw [lg_entry_eq]
  generalize (lg_sl ([.ref q]) ++ List.replicate (1 - (lg_sl ([.ref q])).length) Slot.unset).toArray = ls at hl ⊢
  have hl : lv_has ls 1 [(0, .ref q)] := hl
  refine lv_aload_n hM.1 hM.2.1 dX0_init_0 rfl (lv_at hl 0 rfl) ?_
  refine n_obj hM hl.1 ml_X0_3 dX0_init_1 (Nat.le_of_ble_eq_true rfl) (Nat.le_of_ble_eq_true rfl) ?_
  refine lv_aload_n hM.1 hM.2.1 dX0_init_4 rfl (lv_at hl 0 rfl) ?_
  refine lv_bipush (v := 20) hM.1 hM.2.1 dX0_init_5 (by decide) ?_
  refine n_newa hM hw (atype := .int) ac_I rfl 1 rfl 20 (a0 := (20, .inl (fun _ => 0))) (fun _ => rfl) (by decide) (by decide) (Nat.le_of_ble_eq_true rfl) (Nat.le_of_ble_eq_true rfl) (Nat.le_of_ble_eq_true rfl) dX0_init_7 (fun q1 H hw => ?_)
  have hw : Wn D G A s.heap (Y ++ [(q, .inr (0, [.null, .null, .null, .null, .int 0])), (q1, .inl (G.2.1, 20, .inl (fun _ => 0)))]) s H _ := hw
  refine n_putF hM hw hin2 0 rfl rfl fw_X0 (k := 0) tyX0_ok nmX0 (by decide) rfl rfl rfl fl_X0_9 rfl rfl (by show 0 < 5; decide) [(q, .inr (0, [.ref q1, .null, .null, .null, .int 0])), (q1, .inl (G.2.1, 20, .inl (fun _ => 0)))] rfl dX0_init_9 (fun H locs hw => ?_)
  refine lv_aload_n hM.1 hM.2.1 dX0_init_12 rfl (lv_at hl 0 rfl) ?_
  refine lv_bipush (v := 20) hM.1 hM.2.1 dX0_init_13 (by decide) ?_
  refine n_newa hM hw (atype := .int) ac_I rfl 1 rfl 20 (a0 := (20, .inl (fun _ => 0))) (fun _ => rfl) (by decide) (by decide) (Nat.le_of_ble_eq_true rfl) (Nat.le_of_ble_eq_true rfl) (Nat.le_of_ble_eq_true rfl) dX0_init_15 (fun q2 H hw => ?_)
  have hw : Wn D G A s.heap (Y ++ [(q, .inr (0, [.ref q1, .null, .null, .null, .int 0])), (q1, .inl (G.2.1, 20, .inl (fun _ => 0))), (q2, .inl (G.2.1, 20, .inl (fun _ => 0)))]) s H _ := hw
  refine n_putF hM hw hin2 0 rfl rfl fw_X0 (k := 1) tyX0_ok nmX0 (by decide) rfl rfl rfl fl_X0_15 rfl rfl (by show 1 < 5; decide) [(q, .inr (0, [.ref q1, .ref q2, .null, .null, .int 0])), (q1, .inl (G.2.1, 20, .inl (fun _ => 0))), (q2, .inl (G.2.1, 20, .inl (fun _ => 0)))] rfl dX0_init_17 (fun H locs hw => ?_)
  refine lv_aload_n hM.1 hM.2.1 dX0_init_20 rfl (lv_at hl 0 rfl) ?_
  refine lv_bipush (v := 20) hM.1 hM.2.1 dX0_init_21 (by decide) ?_
  refine n_newa hM hw (atype := .int) ac_I rfl 1 rfl 20 (a0 := (20, .inl (fun _ => 0))) (fun _ => rfl) (by decide) (by decide) (Nat.le_of_ble_eq_true rfl) (Nat.le_of_ble_eq_true rfl) (Nat.le_of_ble_eq_true rfl) dX0_init_23 (fun q3 H hw => ?_)
  have hw : Wn D G A s.heap (Y ++ [(q, .inr (0, [.ref q1, .ref q2, .null, .null, .int 0])), (q1, .inl (G.2.1, 20, .inl (fun _ => 0))), (q2, .inl (G.2.1, 20, .inl (fun _ => 0))), (q3, .inl (G.2.1, 20, .inl (fun _ => 0)))]) s H _ := hw
  refine n_putF hM hw hin2 0 rfl rfl fw_X0 (k := 2) tyX0_ok nmX0 (by decide) rfl rfl rfl fl_X0_18 rfl rfl (by show 2 < 5; decide) [(q, .inr (0, [.ref q1, .ref q2, .ref q3, .null, .int 0])), (q1, .inl (G.2.1, 20, .inl (fun _ => 0))), (q2, .inl (G.2.1, 20, .inl (fun _ => 0))), (q3, .inl (G.2.1, 20, .inl (fun _ => 0)))] rfl dX0_init_25 (fun H locs hw => ?_)
  refine lv_aload_n hM.1 hM.2.1 dX0_init_28 rfl (lv_at hl 0 rfl) ?_
  refine lv_bipush (v := 20) hM.1 hM.2.1 dX0_init_29 (by decide) ?_
  refine n_newa hM hw (atype := .int) ac_I rfl 1 rfl 20 (a0 := (20, .inl (fun _ => 0))) (fun _ => rfl) (by decide) (by decide) (Nat.le_of_ble_eq_true rfl) (Nat.le_of_ble_eq_true rfl) (Nat.le_of_ble_eq_true rfl) dX0_init_31 (fun q4 H hw => ?_)
  have hw : Wn D G A s.heap (Y ++ [(q, .inr (0, [.ref q1, .ref q2, .ref q3, .null, .int 0])), (q1, .inl (G.2.1, 20, .inl (fun _ => 0))), (q2, .inl (G.2.1, 20, .inl (fun _ => 0))), (q3, .inl (G.2.1, 20, .inl (fun _ => 0))), (q4, .inl (G.2.1, 20, .inl (fun _ => 0)))]) s H _ := hw
  refine n_putF hM hw hin2 0 rfl rfl fw_X0 (k := 3) tyX0_ok nmX0 (by decide) rfl rfl rfl fl_X0_21 rfl rfl (by show 3 < 5; decide) [(q, .inr (0, [.ref q1, .ref q2, .ref q3, .ref q4, .int 0])), (q1, .inl (G.2.1, 20, .inl (fun _ => 0))), (q2, .inl (G.2.1, 20, .inl (fun _ => 0))), (q3, .inl (G.2.1, 20, .inl (fun _ => 0))), (q4, .inl (G.2.1, 20, .inl (fun _ => 0)))] rfl dX0_init_33 (fun H locs hw => ?_)
  refine lv_aload_n hM.1 hM.2.1 dX0_init_36 rfl (lv_at hl 0 rfl) ?_
  refine lv_iconst (v := 0) hM.1 hM.2.1 dX0_init_37 ic_0 ?_
  refine n_put hM hw 0 rfl rfl fw_X0 (k := 4) tyX0_ok nmX0 (by decide) rfl rfl fl_X0_24 rfl rfl (by show 4 < 5; decide) [(q, .inr (0, [.ref q1, .ref q2, .ref q3, .ref q4, .int 0])), (q1, .inl (G.2.1, 20, .inl (fun _ => 0))), (q2, .inl (G.2.1, 20, .inl (fun _ => 0))), (q3, .inl (G.2.1, 20, .inl (fun _ => 0))), (q4, .inl (G.2.1, 20, .inl (fun _ => 0)))] rfl dX0_init_38 (fun H locs hw => ?_)
  refine W.vret B.exec B.bytes B.returns (fun t ht hW => ⟨⟨(fun i => [q, q1, q2, q3, q4].getD i 0), rfl, rfl, by rw [ht]; exact hw.2.1, va_K.moved hW.alike hw.1, hw.2.2.1⟩, hw.2.2.2.1.F ht⟩) (fun q hq => hw.2.2.2.1.2.2 q hq) dX0_init_41 (hlocks := B.notSynchronized)
theorem dX1_init_0 : decode cX1_init 0 = .ok (.aload_n 0, 1) := by decide +kernel
theorem dX1_init_1 : decode cX1_init 1 = .ok (.invokespecial 3, 3) := by decide +kernel
theorem dX1_init_4 : decode cX1_init 4 = .ok (.aload_n 0, 1) := by decide +kernel
theorem dX1_init_5 : decode cX1_init 5 = .ok (.bipush 9, 2) := by decide +kernel
theorem dX1_init_7 : decode cX1_init 7 = .ok (.newarray .int, 2) := by decide +kernel
theorem dX1_init_9 : decode cX1_init 9 = .ok (.putfield 9, 3) := by decide +kernel
theorem dX1_init_12 : decode cX1_init 12 = .ok (.return_, 1) := by decide +kernel
abbrev layX1 : List KK := [kX1, kI 9]
set_option maxHeartbeats 4000000 in
set_option maxRecDepth 100000 in
theorem ctn_X1 (l : Launch) : CtN l yX1_init cX1_init 1 1 12 1 9 1 [.null] layX1 hZ := by
  intro D G Y q sz
  refine Met.ofW (cc := cX1_init) (maxL := 1) (ret := none) (by decide) rfl ?_
  intro p e s m args below meth c s₁ B hml hv
  obtain ⟨rfl, hsz, hP, hK, hD0, hSF⟩ := hv
  subst hsz
  have hts : ∀ w ∈ (Cond.code yX1_init cX1_init 1 none :: lw_g), w.before ([Value.ref q] : List Value).toArray s = true := atoms_spec (ws := Cond.code yX1_init cX1_init 1 none :: lw_g) B.pre
  have hown : s.vm.findClass RX1 = some m.cls := findClass_of_methodNamed B.named
  have hM : CallFix p m c cX1_init 1 s ([Value.ref q] : List Value).toArray lw_g RX1 := ⟨B.exec, B.bytes, hml, hown, fun w hw => hts w (List.mem_cons_of_mem _ hw)⟩
  have hin2 : meth.name = "<init>" := (name_of_methodNamed B.named B.method).1
  have hD := hD0.self (sz := s.heap.size)
  have hA : ∀ x : Nat, s.heap.size ≤ x → va_A (Y ++ [(q, .inr (1, [.null]))]) s.heap.size x := fun x h => Or.inr h
  generalize va_A (Y ++ [(q, .inr (1, [.null]))]) s.heap.size = A at hD hA ⊢
  have hw : Wn D G A s.heap (Y ++ [(q, .inr (1, [.null]))]) s s.heap [] := ⟨hK, hP, hD, va_S.rf, hA⟩
  have hl := lv_entry ([.ref q]) (n := 1) (Nat.le_of_ble_eq_true rfl)
  rw [lg_entry_eq]
  generalize (lg_sl ([.ref q]) ++ List.replicate (1 - (lg_sl ([.ref q])).length) Slot.unset).toArray = ls at hl ⊢
  have hl : lv_has ls 1 [(0, .ref q)] := hl
  refine lv_aload_n hM.1 hM.2.1 dX1_init_0 rfl (lv_at hl 0 rfl) ?_
  refine n_obj hM hl.1 ml_X1_3 dX1_init_1 (Nat.le_of_ble_eq_true rfl) (Nat.le_of_ble_eq_true rfl) ?_
  refine lv_aload_n hM.1 hM.2.1 dX1_init_4 rfl (lv_at hl 0 rfl) ?_
  refine lv_bipush (v := 9) hM.1 hM.2.1 dX1_init_5 (by decide) ?_
  refine n_newa hM hw (atype := .int) ac_I rfl 1 rfl 9 (a0 := (9, .inl (fun _ => 0))) (fun _ => rfl) (by decide) (by decide) (Nat.le_of_ble_eq_true rfl) (Nat.le_of_ble_eq_true rfl) (Nat.le_of_ble_eq_true rfl) dX1_init_7 (fun q1 H hw => ?_)
  have hw : Wn D G A s.heap (Y ++ [(q, .inr (1, [.null])), (q1, .inl (G.2.1, 9, .inl (fun _ => 0)))]) s H _ := hw
  refine n_putF hM hw hin2 0 rfl rfl fw_X1 (k := 0) tyX1_ok nmX1 (by decide) rfl rfl rfl fl_X1_9 rfl rfl (by show 0 < 1; decide) [(q, .inr (1, [.ref q1])), (q1, .inl (G.2.1, 9, .inl (fun _ => 0)))] rfl dX1_init_9 (fun H locs hw => ?_)
  refine W.vret B.exec B.bytes B.returns (fun t ht hW => ⟨⟨(fun i => [q, q1].getD i 0), rfl, rfl, by rw [ht]; exact hw.2.1, va_K.moved hW.alike hw.1, hw.2.2.1⟩, hw.2.2.2.1.F ht⟩) (fun q hq => hw.2.2.2.1.2.2 q hq) dX1_init_12 (hlocks := B.notSynchronized)
theorem dX2_init_0 : decode cX2_init 0 = .ok (.aload_n 0, 1) := by decide +kernel
theorem dX2_init_1 : decode cX2_init 1 = .ok (.invokespecial 3, 3) := by decide +kernel
theorem dX2_init_4 : decode cX2_init 4 = .ok (.aload_n 0, 1) := by decide +kernel
theorem dX2_init_5 : decode cX2_init 5 = .ok (.sipush 408, 3) := by decide +kernel
theorem dX2_init_8 : decode cX2_init 8 = .ok (.newarray .int, 2) := by decide +kernel
theorem dX2_init_10 : decode cX2_init 10 = .ok (.putfield 9, 3) := by decide +kernel
theorem dX2_init_13 : decode cX2_init 13 = .ok (.aload_n 0, 1) := by decide +kernel
theorem dX2_init_14 : decode cX2_init 14 = .ok (.iconst 0, 1) := by decide +kernel
theorem dX2_init_15 : decode cX2_init 15 = .ok (.putfield 15, 3) := by decide +kernel
theorem dX2_init_18 : decode cX2_init 18 = .ok (.aload_n 0, 1) := by decide +kernel
theorem dX2_init_19 : decode cX2_init 19 = .ok (.bipush 20, 2) := by decide +kernel
theorem dX2_init_21 : decode cX2_init 21 = .ok (.newarray .int, 2) := by decide +kernel
theorem dX2_init_23 : decode cX2_init 23 = .ok (.putfield 19, 3) := by decide +kernel
theorem dX2_init_26 : decode cX2_init 26 = .ok (.return_, 1) := by decide +kernel
abbrev layX2 : List KK := [kX2, kI 408, kI 20]
set_option maxHeartbeats 4000000 in
set_option maxRecDepth 100000 in
theorem ctn_X2 (l : Launch) : CtN l yX2_init cX2_init 1 1 12 2 428 2 [.null, .int 0, .null] layX2 hZ := by
  intro D G Y q sz
  refine Met.ofW (cc := cX2_init) (maxL := 1) (ret := none) (by decide) rfl ?_
  intro p e s m args below meth c s₁ B hml hv
  obtain ⟨rfl, hsz, hP, hK, hD0, hSF⟩ := hv
  subst hsz
  have hts : ∀ w ∈ (Cond.code yX2_init cX2_init 1 none :: lw_g), w.before ([Value.ref q] : List Value).toArray s = true := atoms_spec (ws := Cond.code yX2_init cX2_init 1 none :: lw_g) B.pre
  have hown : s.vm.findClass RX2 = some m.cls := findClass_of_methodNamed B.named
  have hM : CallFix p m c cX2_init 1 s ([Value.ref q] : List Value).toArray lw_g RX2 := ⟨B.exec, B.bytes, hml, hown, fun w hw => hts w (List.mem_cons_of_mem _ hw)⟩
  have hin2 : meth.name = "<init>" := (name_of_methodNamed B.named B.method).1
  have hD := hD0.self (sz := s.heap.size)
  have hA : ∀ x : Nat, s.heap.size ≤ x → va_A (Y ++ [(q, .inr (2, [.null, .int 0, .null]))]) s.heap.size x := fun x h => Or.inr h
  generalize va_A (Y ++ [(q, .inr (2, [.null, .int 0, .null]))]) s.heap.size = A at hD hA ⊢
  have hw : Wn D G A s.heap (Y ++ [(q, .inr (2, [.null, .int 0, .null]))]) s s.heap [] := ⟨hK, hP, hD, va_S.rf, hA⟩
  have hl := lv_entry ([.ref q]) (n := 1) (Nat.le_of_ble_eq_true rfl)
  rw [lg_entry_eq]
  generalize (lg_sl ([.ref q]) ++ List.replicate (1 - (lg_sl ([.ref q])).length) Slot.unset).toArray = ls at hl ⊢
  have hl : lv_has ls 1 [(0, .ref q)] := hl
  refine lv_aload_n hM.1 hM.2.1 dX2_init_0 rfl (lv_at hl 0 rfl) ?_
  refine n_obj hM hl.1 ml_X2_3 dX2_init_1 (Nat.le_of_ble_eq_true rfl) (Nat.le_of_ble_eq_true rfl) ?_
  refine lv_aload_n hM.1 hM.2.1 dX2_init_4 rfl (lv_at hl 0 rfl) ?_
  refine lv_sipush (v := 408) hM.1 hM.2.1 dX2_init_5 (by decide) ?_
  refine n_newa hM hw (atype := .int) ac_I rfl 1 rfl 408 (a0 := (408, .inl (fun _ => 0))) (fun _ => rfl) (by decide) (by decide) (Nat.le_of_ble_eq_true rfl) (Nat.le_of_ble_eq_true rfl) (Nat.le_of_ble_eq_true rfl) dX2_init_8 (fun q1 H hw => ?_)
  have hw : Wn D G A s.heap (Y ++ [(q, .inr (2, [.null, .int 0, .null])), (q1, .inl (G.2.1, 408, .inl (fun _ => 0)))]) s H _ := hw
  refine n_putF hM hw hin2 0 rfl rfl fw_X2 (k := 0) tyX2_ok nmX2 (by decide) rfl rfl rfl fl_X2_9 rfl rfl (by show 0 < 3; decide) [(q, .inr (2, [.ref q1, .int 0, .null])), (q1, .inl (G.2.1, 408, .inl (fun _ => 0)))] rfl dX2_init_10 (fun H locs hw => ?_)
  refine lv_aload_n hM.1 hM.2.1 dX2_init_13 rfl (lv_at hl 0 rfl) ?_
  refine lv_iconst (v := 0) hM.1 hM.2.1 dX2_init_14 ic_0 ?_
  refine n_put hM hw 0 rfl rfl fw_X2 (k := 1) tyX2_ok nmX2 (by decide) rfl rfl fl_X2_15 rfl rfl (by show 1 < 3; decide) [(q, .inr (2, [.ref q1, .int 0, .null])), (q1, .inl (G.2.1, 408, .inl (fun _ => 0)))] rfl dX2_init_15 (fun H locs hw => ?_)
  refine lv_aload_n hM.1 hM.2.1 dX2_init_18 rfl (lv_at hl 0 rfl) ?_
  refine lv_bipush (v := 20) hM.1 hM.2.1 dX2_init_19 (by decide) ?_
  refine n_newa hM hw (atype := .int) ac_I rfl 1 rfl 20 (a0 := (20, .inl (fun _ => 0))) (fun _ => rfl) (by decide) (by decide) (Nat.le_of_ble_eq_true rfl) (Nat.le_of_ble_eq_true rfl) (Nat.le_of_ble_eq_true rfl) dX2_init_21 (fun q2 H hw => ?_)
  have hw : Wn D G A s.heap (Y ++ [(q, .inr (2, [.ref q1, .int 0, .null])), (q1, .inl (G.2.1, 408, .inl (fun _ => 0))), (q2, .inl (G.2.1, 20, .inl (fun _ => 0)))]) s H _ := hw
  refine n_putF hM hw hin2 0 rfl rfl fw_X2 (k := 2) tyX2_ok nmX2 (by decide) rfl rfl rfl fl_X2_19 rfl rfl (by show 2 < 3; decide) [(q, .inr (2, [.ref q1, .int 0, .ref q2])), (q1, .inl (G.2.1, 408, .inl (fun _ => 0))), (q2, .inl (G.2.1, 20, .inl (fun _ => 0)))] rfl dX2_init_23 (fun H locs hw => ?_)
  refine W.vret B.exec B.bytes B.returns (fun t ht hW => ⟨⟨(fun i => [q, q1, q2].getD i 0), rfl, rfl, by rw [ht]; exact hw.2.1, va_K.moved hW.alike hw.1, hw.2.2.1⟩, hw.2.2.2.1.F ht⟩) (fun q hq => hw.2.2.2.1.2.2 q hq) dX2_init_26 (hlocks := B.notSynchronized)
theorem dX3_init_0 : decode cX3_init 0 = .ok (.aload_n 0, 1) := by decide +kernel
theorem dX3_init_1 : decode cX3_init 1 = .ok (.invokespecial 3, 3) := by decide +kernel
theorem dX3_init_4 : decode cX3_init 4 = .ok (.aload_n 0, 1) := by decide +kernel
theorem dX3_init_5 : decode cX3_init 5 = .ok (.iconst 3, 1) := by decide +kernel
theorem dX3_init_6 : decode cX3_init 6 = .ok (.newarray .int, 2) := by decide +kernel
theorem dX3_init_8 : decode cX3_init 8 = .ok (.putfield 9, 3) := by decide +kernel
theorem dX3_init_11 : decode cX3_init 11 = .ok (.return_, 1) := by decide +kernel
abbrev layX3 : List KK := [kX3, kI 3]
set_option maxHeartbeats 4000000 in
set_option maxRecDepth 100000 in
theorem ctn_X3 (l : Launch) : CtN l yX3_init cX3_init 1 1 12 1 3 3 [.null] layX3 hZ := by
  intro D G Y q sz
  refine Met.ofW (cc := cX3_init) (maxL := 1) (ret := none) (by decide) rfl ?_
  intro p e s m args below meth c s₁ B hml hv
  obtain ⟨rfl, hsz, hP, hK, hD0, hSF⟩ := hv
  subst hsz
  have hts : ∀ w ∈ (Cond.code yX3_init cX3_init 1 none :: lw_g), w.before ([Value.ref q] : List Value).toArray s = true := atoms_spec (ws := Cond.code yX3_init cX3_init 1 none :: lw_g) B.pre
  have hown : s.vm.findClass RX3 = some m.cls := findClass_of_methodNamed B.named
  have hM : CallFix p m c cX3_init 1 s ([Value.ref q] : List Value).toArray lw_g RX3 := ⟨B.exec, B.bytes, hml, hown, fun w hw => hts w (List.mem_cons_of_mem _ hw)⟩
  have hin2 : meth.name = "<init>" := (name_of_methodNamed B.named B.method).1
  have hD := hD0.self (sz := s.heap.size)
  have hA : ∀ x : Nat, s.heap.size ≤ x → va_A (Y ++ [(q, .inr (3, [.null]))]) s.heap.size x := fun x h => Or.inr h
  generalize va_A (Y ++ [(q, .inr (3, [.null]))]) s.heap.size = A at hD hA ⊢
  have hw : Wn D G A s.heap (Y ++ [(q, .inr (3, [.null]))]) s s.heap [] := ⟨hK, hP, hD, va_S.rf, hA⟩
  have hl := lv_entry ([.ref q]) (n := 1) (Nat.le_of_ble_eq_true rfl)
  rw [lg_entry_eq]
  generalize (lg_sl ([.ref q]) ++ List.replicate (1 - (lg_sl ([.ref q])).length) Slot.unset).toArray = ls at hl ⊢
  have hl : lv_has ls 1 [(0, .ref q)] := hl
  refine lv_aload_n hM.1 hM.2.1 dX3_init_0 rfl (lv_at hl 0 rfl) ?_
  refine n_obj hM hl.1 ml_X3_3 dX3_init_1 (Nat.le_of_ble_eq_true rfl) (Nat.le_of_ble_eq_true rfl) ?_
  refine lv_aload_n hM.1 hM.2.1 dX3_init_4 rfl (lv_at hl 0 rfl) ?_
  refine lv_iconst (v := 3) hM.1 hM.2.1 dX3_init_5 ic_3 ?_
  refine n_newa hM hw (atype := .int) ac_I rfl 1 rfl 3 (a0 := (3, .inl (fun _ => 0))) (fun _ => rfl) (by decide) (by decide) (Nat.le_of_ble_eq_true rfl) (Nat.le_of_ble_eq_true rfl) (Nat.le_of_ble_eq_true rfl) dX3_init_6 (fun q1 H hw => ?_)
  have hw : Wn D G A s.heap (Y ++ [(q, .inr (3, [.null])), (q1, .inl (G.2.1, 3, .inl (fun _ => 0)))]) s H _ := hw
  refine n_putF hM hw hin2 0 rfl rfl fw_X3 (k := 0) tyX3_ok nmX3 (by decide) rfl rfl rfl fl_X3_9 rfl rfl (by show 0 < 1; decide) [(q, .inr (3, [.ref q1])), (q1, .inl (G.2.1, 3, .inl (fun _ => 0)))] rfl dX3_init_8 (fun H locs hw => ?_)
  refine W.vret B.exec B.bytes B.returns (fun t ht hW => ⟨⟨(fun i => [q, q1].getD i 0), rfl, rfl, by rw [ht]; exact hw.2.1, va_K.moved hW.alike hw.1, hw.2.2.1⟩, hw.2.2.2.1.F ht⟩) (fun q hq => hw.2.2.2.1.2.2 q hq) dX3_init_11 (hlocks := B.notSynchronized)
theorem dX6_init_0 : decode cX6_init 0 = .ok (.aload_n 0, 1) := by decide +kernel
theorem dX6_init_1 : decode cX6_init 1 = .ok (.invokespecial 3, 3) := by decide +kernel
theorem dX6_init_4 : decode cX6_init 4 = .ok (.aload_n 0, 1) := by decide +kernel
theorem dX6_init_5 : decode cX6_init 5 = .ok (.bipush 20, 2) := by decide +kernel
theorem dX6_init_7 : decode cX6_init 7 = .ok (.newarray .int, 2) := by decide +kernel
theorem dX6_init_9 : decode cX6_init 9 = .ok (.putfield 9, 3) := by decide +kernel
theorem dX6_init_12 : decode cX6_init 12 = .ok (.aload_n 0, 1) := by decide +kernel
theorem dX6_init_13 : decode cX6_init 13 = .ok (.bipush 20, 2) := by decide +kernel
theorem dX6_init_15 : decode cX6_init 15 = .ok (.newarray .int, 2) := by decide +kernel
theorem dX6_init_17 : decode cX6_init 17 = .ok (.putfield 15, 3) := by decide +kernel
theorem dX6_init_20 : decode cX6_init 20 = .ok (.aload_n 0, 1) := by decide +kernel
theorem dX6_init_21 : decode cX6_init 21 = .ok (.bipush 20, 2) := by decide +kernel
theorem dX6_init_23 : decode cX6_init 23 = .ok (.newarray .int, 2) := by decide +kernel
theorem dX6_init_25 : decode cX6_init 25 = .ok (.putfield 18, 3) := by decide +kernel
theorem dX6_init_28 : decode cX6_init 28 = .ok (.aload_n 0, 1) := by decide +kernel
theorem dX6_init_29 : decode cX6_init 29 = .ok (.bipush 7, 2) := by decide +kernel
theorem dX6_init_31 : decode cX6_init 31 = .ok (.newarray .int, 2) := by decide +kernel
theorem dX6_init_33 : decode cX6_init 33 = .ok (.putfield 21, 3) := by decide +kernel
theorem dX6_init_36 : decode cX6_init 36 = .ok (.aload_n 0, 1) := by decide +kernel
theorem dX6_init_37 : decode cX6_init 37 = .ok (.iconst 0, 1) := by decide +kernel
theorem dX6_init_38 : decode cX6_init 38 = .ok (.putfield 24, 3) := by decide +kernel
theorem dX6_init_41 : decode cX6_init 41 = .ok (.return_, 1) := by decide +kernel
abbrev layX6 : List KK := [kX6, kI 20, kI 20, kI 20, kI 7]
set_option maxHeartbeats 4000000 in
set_option maxRecDepth 100000 in
theorem ctn_X6 (l : Launch) : CtN l yX6_init cX6_init 1 1 12 4 67 6 [.null, .null, .null, .null, .int 0] layX6 hZ := by
  intro D G Y q sz
  refine Met.ofW (cc := cX6_init) (maxL := 1) (ret := none) (by decide) rfl ?_
  intro p e s m args below meth c s₁ B hml hv
  obtain ⟨rfl, hsz, hP, hK, hD0, hSF⟩ := hv
  subst hsz
  have hts : ∀ w ∈ (Cond.code yX6_init cX6_init 1 none :: lw_g), w.before ([Value.ref q] : List Value).toArray s = true := atoms_spec (ws := Cond.code yX6_init cX6_init 1 none :: lw_g) B.pre
  have hown : s.vm.findClass RX6 = some m.cls := findClass_of_methodNamed B.named
  have hM : CallFix p m c cX6_init 1 s ([Value.ref q] : List Value).toArray lw_g RX6 := ⟨B.exec, B.bytes, hml, hown, fun w hw => hts w (List.mem_cons_of_mem _ hw)⟩
  have hin2 : meth.name = "<init>" := (name_of_methodNamed B.named B.method).1
  have hD := hD0.self (sz := s.heap.size)
  have hA : ∀ x : Nat, s.heap.size ≤ x → va_A (Y ++ [(q, .inr (6, [.null, .null, .null, .null, .int 0]))]) s.heap.size x := fun x h => Or.inr h
  generalize va_A (Y ++ [(q, .inr (6, [.null, .null, .null, .null, .int 0]))]) s.heap.size = A at hD hA ⊢
  have hw : Wn D G A s.heap (Y ++ [(q, .inr (6, [.null, .null, .null, .null, .int 0]))]) s s.heap [] := ⟨hK, hP, hD, va_S.rf, hA⟩
  have hl := lv_entry ([.ref q]) (n := 1) (Nat.le_of_ble_eq_true rfl)
  rw [lg_entry_eq]
  generalize (lg_sl ([.ref q]) ++ List.replicate (1 - (lg_sl ([.ref q])).length) Slot.unset).toArray = ls at hl ⊢
  have hl : lv_has ls 1 [(0, .ref q)] := hl
  refine lv_aload_n hM.1 hM.2.1 dX6_init_0 rfl (lv_at hl 0 rfl) ?_
  refine n_obj hM hl.1 ml_X6_3 dX6_init_1 (Nat.le_of_ble_eq_true rfl) (Nat.le_of_ble_eq_true rfl) ?_
  refine lv_aload_n hM.1 hM.2.1 dX6_init_4 rfl (lv_at hl 0 rfl) ?_
  refine lv_bipush (v := 20) hM.1 hM.2.1 dX6_init_5 (by decide) ?_
  refine n_newa hM hw (atype := .int) ac_I rfl 1 rfl 20 (a0 := (20, .inl (fun _ => 0))) (fun _ => rfl) (by decide) (by decide) (Nat.le_of_ble_eq_true rfl) (Nat.le_of_ble_eq_true rfl) (Nat.le_of_ble_eq_true rfl) dX6_init_7 (fun q1 H hw => ?_)
  have hw : Wn D G A s.heap (Y ++ [(q, .inr (6, [.null, .null, .null, .null, .int 0])), (q1, .inl (G.2.1, 20, .inl (fun _ => 0)))]) s H _ := hw
  refine n_putF hM hw hin2 0 rfl rfl fw_X6 (k := 0) tyX6_ok nmX6 (by decide) rfl rfl rfl fl_X6_9 rfl rfl (by show 0 < 5; decide) [(q, .inr (6, [.ref q1, .null, .null, .null, .int 0])), (q1, .inl (G.2.1, 20, .inl (fun _ => 0)))] rfl dX6_init_9 (fun H locs hw => ?_)
  refine lv_aload_n hM.1 hM.2.1 dX6_init_12 rfl (lv_at hl 0 rfl) ?_
  refine lv_bipush (v := 20) hM.1 hM.2.1 dX6_init_13 (by decide) ?_
  refine n_newa hM hw (atype := .int) ac_I rfl 1 rfl 20 (a0 := (20, .inl (fun _ => 0))) (fun _ => rfl) (by decide) (by decide) (Nat.le_of_ble_eq_true rfl) (Nat.le_of_ble_eq_true rfl) (Nat.le_of_ble_eq_true rfl) dX6_init_15 (fun q2 H hw => ?_)
  have hw : Wn D G A s.heap (Y ++ [(q, .inr (6, [.ref q1, .null, .null, .null, .int 0])), (q1, .inl (G.2.1, 20, .inl (fun _ => 0))), (q2, .inl (G.2.1, 20, .inl (fun _ => 0)))]) s H _ := hw
  refine n_putF hM hw hin2 0 rfl rfl fw_X6 (k := 1) tyX6_ok nmX6 (by decide) rfl rfl rfl fl_X6_15 rfl rfl (by show 1 < 5; decide) [(q, .inr (6, [.ref q1, .ref q2, .null, .null, .int 0])), (q1, .inl (G.2.1, 20, .inl (fun _ => 0))), (q2, .inl (G.2.1, 20, .inl (fun _ => 0)))] rfl dX6_init_17 (fun H locs hw => ?_)
  refine lv_aload_n hM.1 hM.2.1 dX6_init_20 rfl (lv_at hl 0 rfl) ?_
  refine lv_bipush (v := 20) hM.1 hM.2.1 dX6_init_21 (by decide) ?_
  refine n_newa hM hw (atype := .int) ac_I rfl 1 rfl 20 (a0 := (20, .inl (fun _ => 0))) (fun _ => rfl) (by decide) (by decide) (Nat.le_of_ble_eq_true rfl) (Nat.le_of_ble_eq_true rfl) (Nat.le_of_ble_eq_true rfl) dX6_init_23 (fun q3 H hw => ?_)
  have hw : Wn D G A s.heap (Y ++ [(q, .inr (6, [.ref q1, .ref q2, .null, .null, .int 0])), (q1, .inl (G.2.1, 20, .inl (fun _ => 0))), (q2, .inl (G.2.1, 20, .inl (fun _ => 0))), (q3, .inl (G.2.1, 20, .inl (fun _ => 0)))]) s H _ := hw
  refine n_putF hM hw hin2 0 rfl rfl fw_X6 (k := 2) tyX6_ok nmX6 (by decide) rfl rfl rfl fl_X6_18 rfl rfl (by show 2 < 5; decide) [(q, .inr (6, [.ref q1, .ref q2, .ref q3, .null, .int 0])), (q1, .inl (G.2.1, 20, .inl (fun _ => 0))), (q2, .inl (G.2.1, 20, .inl (fun _ => 0))), (q3, .inl (G.2.1, 20, .inl (fun _ => 0)))] rfl dX6_init_25 (fun H locs hw => ?_)
  refine lv_aload_n hM.1 hM.2.1 dX6_init_28 rfl (lv_at hl 0 rfl) ?_
  refine lv_bipush (v := 7) hM.1 hM.2.1 dX6_init_29 (by decide) ?_
  refine n_newa hM hw (atype := .int) ac_I rfl 1 rfl 7 (a0 := (7, .inl (fun _ => 0))) (fun _ => rfl) (by decide) (by decide) (Nat.le_of_ble_eq_true rfl) (Nat.le_of_ble_eq_true rfl) (Nat.le_of_ble_eq_true rfl) dX6_init_31 (fun q4 H hw => ?_)
  have hw : Wn D G A s.heap (Y ++ [(q, .inr (6, [.ref q1, .ref q2, .ref q3, .null, .int 0])), (q1, .inl (G.2.1, 20, .inl (fun _ => 0))), (q2, .inl (G.2.1, 20, .inl (fun _ => 0))), (q3, .inl (G.2.1, 20, .inl (fun _ => 0))), (q4, .inl (G.2.1, 7, .inl (fun _ => 0)))]) s H _ := hw
  refine n_putF hM hw hin2 0 rfl rfl fw_X6 (k := 3) tyX6_ok nmX6 (by decide) rfl rfl rfl fl_X6_21 rfl rfl (by show 3 < 5; decide) [(q, .inr (6, [.ref q1, .ref q2, .ref q3, .ref q4, .int 0])), (q1, .inl (G.2.1, 20, .inl (fun _ => 0))), (q2, .inl (G.2.1, 20, .inl (fun _ => 0))), (q3, .inl (G.2.1, 20, .inl (fun _ => 0))), (q4, .inl (G.2.1, 7, .inl (fun _ => 0)))] rfl dX6_init_33 (fun H locs hw => ?_)
  refine lv_aload_n hM.1 hM.2.1 dX6_init_36 rfl (lv_at hl 0 rfl) ?_
  refine lv_iconst (v := 0) hM.1 hM.2.1 dX6_init_37 ic_0 ?_
  refine n_put hM hw 0 rfl rfl fw_X6 (k := 4) tyX6_ok nmX6 (by decide) rfl rfl fl_X6_24 rfl rfl (by show 4 < 5; decide) [(q, .inr (6, [.ref q1, .ref q2, .ref q3, .ref q4, .int 0])), (q1, .inl (G.2.1, 20, .inl (fun _ => 0))), (q2, .inl (G.2.1, 20, .inl (fun _ => 0))), (q3, .inl (G.2.1, 20, .inl (fun _ => 0))), (q4, .inl (G.2.1, 7, .inl (fun _ => 0)))] rfl dX6_init_38 (fun H locs hw => ?_)
  refine W.vret B.exec B.bytes B.returns (fun t ht hW => ⟨⟨(fun i => [q, q1, q2, q3, q4].getD i 0), rfl, rfl, by rw [ht]; exact hw.2.1, va_K.moved hW.alike hw.1, hw.2.2.1⟩, hw.2.2.2.1.F ht⟩) (fun q hq => hw.2.2.2.1.2.2 q hq) dX6_init_41 (hlocks := B.notSynchronized)
theorem dX8_init_0 : decode cX8_init 0 = .ok (.aload_n 0, 1) := by decide +kernel
theorem dX8_init_1 : decode cX8_init 1 = .ok (.invokespecial 3, 3) := by decide +kernel
theorem dX8_init_4 : decode cX8_init 4 = .ok (.aload_n 0, 1) := by decide +kernel
theorem dX8_init_5 : decode cX8_init 5 = .ok (.iconst 0, 1) := by decide +kernel
theorem dX8_init_6 : decode cX8_init 6 = .ok (.putfield 9, 3) := by decide +kernel
theorem dX8_init_9 : decode cX8_init 9 = .ok (.aload_n 0, 1) := by decide +kernel
theorem dX8_init_10 : decode cX8_init 10 = .ok (.iconst 0, 1) := by decide +kernel
theorem dX8_init_11 : decode cX8_init 11 = .ok (.putfield 15, 3) := by decide +kernel
theorem dX8_init_14 : decode cX8_init 14 = .ok (.aload_n 0, 1) := by decide +kernel
theorem dX8_init_15 : decode cX8_init 15 = .ok (.iconst 0, 1) := by decide +kernel
theorem dX8_init_16 : decode cX8_init 16 = .ok (.putfield 18, 3) := by decide +kernel
theorem dX8_init_19 : decode cX8_init 19 = .ok (.aload_n 0, 1) := by decide +kernel
theorem dX8_init_20 : decode cX8_init 20 = .ok (.iconst 0, 1) := by decide +kernel
theorem dX8_init_21 : decode cX8_init 21 = .ok (.putfield 21, 3) := by decide +kernel
theorem dX8_init_24 : decode cX8_init 24 = .ok (.aload_n 0, 1) := by decide +kernel
theorem dX8_init_25 : decode cX8_init 25 = .ok (.iconst 0, 1) := by decide +kernel
theorem dX8_init_26 : decode cX8_init 26 = .ok (.putfield 24, 3) := by decide +kernel
theorem dX8_init_29 : decode cX8_init 29 = .ok (.aload_n 0, 1) := by decide +kernel
theorem dX8_init_30 : decode cX8_init 30 = .ok (.iconst 0, 1) := by decide +kernel
theorem dX8_init_31 : decode cX8_init 31 = .ok (.putfield 27, 3) := by decide +kernel
theorem dX8_init_34 : decode cX8_init 34 = .ok (.aload_n 0, 1) := by decide +kernel
theorem dX8_init_35 : decode cX8_init 35 = .ok (.iconst 0, 1) := by decide +kernel
theorem dX8_init_36 : decode cX8_init 36 = .ok (.putfield 30, 3) := by decide +kernel
theorem dX8_init_39 : decode cX8_init 39 = .ok (.aload_n 0, 1) := by decide +kernel
theorem dX8_init_40 : decode cX8_init 40 = .ok (.iconst 5, 1) := by decide +kernel
theorem dX8_init_41 : decode cX8_init 41 = .ok (.newarray .int, 2) := by decide +kernel
theorem dX8_init_43 : decode cX8_init 43 = .ok (.putfield 33, 3) := by decide +kernel
theorem dX8_init_46 : decode cX8_init 46 = .ok (.aload_n 0, 1) := by decide +kernel
theorem dX8_init_47 : decode cX8_init 47 = .ok (.bipush 9, 2) := by decide +kernel
theorem dX8_init_49 : decode cX8_init 49 = .ok (.newarray .int, 2) := by decide +kernel
theorem dX8_init_51 : decode cX8_init 51 = .ok (.putfield 37, 3) := by decide +kernel
theorem dX8_init_54 : decode cX8_init 54 = .ok (.return_, 1) := by decide +kernel
abbrev layX8 : List KK := [kX8, kI 5, kI 9]
set_option maxHeartbeats 4000000 in
set_option maxRecDepth 100000 in
theorem ctn_X8 (l : Launch) : CtN l yX8_init cX8_init 1 1 12 2 14 8 [.int 0, .int 0, .int 0, .int 0, .int 0, .int 0, .int 0, .null, .null] layX8 hZ := by
  intro D G Y q sz
  refine Met.ofW (cc := cX8_init) (maxL := 1) (ret := none) (by decide) rfl ?_
  intro p e s m args below meth c s₁ B hml hv
  obtain ⟨rfl, hsz, hP, hK, hD0, hSF⟩ := hv
  subst hsz
  have hts : ∀ w ∈ (Cond.code yX8_init cX8_init 1 none :: lw_g), w.before ([Value.ref q] : List Value).toArray s = true := atoms_spec (ws := Cond.code yX8_init cX8_init 1 none :: lw_g) B.pre
  have hown : s.vm.findClass RX8 = some m.cls := findClass_of_methodNamed B.named
  have hM : CallFix p m c cX8_init 1 s ([Value.ref q] : List Value).toArray lw_g RX8 := ⟨B.exec, B.bytes, hml, hown, fun w hw => hts w (List.mem_cons_of_mem _ hw)⟩
  have hin2 : meth.name = "<init>" := (name_of_methodNamed B.named B.method).1
  have hD := hD0.self (sz := s.heap.size)
  have hA : ∀ x : Nat, s.heap.size ≤ x → va_A (Y ++ [(q, .inr (8, [.int 0, .int 0, .int 0, .int 0, .int 0, .int 0, .int 0, .null, .null]))]) s.heap.size x := fun x h => Or.inr h
  generalize va_A (Y ++ [(q, .inr (8, [.int 0, .int 0, .int 0, .int 0, .int 0, .int 0, .int 0, .null, .null]))]) s.heap.size = A at hD hA ⊢
  have hw : Wn D G A s.heap (Y ++ [(q, .inr (8, [.int 0, .int 0, .int 0, .int 0, .int 0, .int 0, .int 0, .null, .null]))]) s s.heap [] := ⟨hK, hP, hD, va_S.rf, hA⟩
  have hl := lv_entry ([.ref q]) (n := 1) (Nat.le_of_ble_eq_true rfl)
  rw [lg_entry_eq]
  generalize (lg_sl ([.ref q]) ++ List.replicate (1 - (lg_sl ([.ref q])).length) Slot.unset).toArray = ls at hl ⊢
  have hl : lv_has ls 1 [(0, .ref q)] := hl
  refine lv_aload_n hM.1 hM.2.1 dX8_init_0 rfl (lv_at hl 0 rfl) ?_
  refine n_obj hM hl.1 ml_X8_3 dX8_init_1 (Nat.le_of_ble_eq_true rfl) (Nat.le_of_ble_eq_true rfl) ?_
  refine lv_aload_n hM.1 hM.2.1 dX8_init_4 rfl (lv_at hl 0 rfl) ?_
  refine lv_iconst (v := 0) hM.1 hM.2.1 dX8_init_5 ic_0 ?_
  refine n_put hM hw 0 rfl rfl fw_X8 (k := 0) tyX8_ok nmX8 (by decide) rfl rfl fl_X8_9 rfl rfl (by show 0 < 9; decide) [(q, .inr (8, [.int 0, .int 0, .int 0, .int 0, .int 0, .int 0, .int 0, .null, .null]))] rfl dX8_init_6 (fun H locs hw => ?_)
  refine lv_aload_n hM.1 hM.2.1 dX8_init_9 rfl (lv_at hl 0 rfl) ?_
  refine lv_iconst (v := 0) hM.1 hM.2.1 dX8_init_10 ic_0 ?_
  refine n_put hM hw 0 rfl rfl fw_X8 (k := 1) tyX8_ok nmX8 (by decide) rfl rfl fl_X8_15 rfl rfl (by show 1 < 9; decide) [(q, .inr (8, [.int 0, .int 0, .int 0, .int 0, .int 0, .int 0, .int 0, .null, .null]))] rfl dX8_init_11 (fun H locs hw => ?_)
  refine lv_aload_n hM.1 hM.2.1 dX8_init_14 rfl (lv_at hl 0 rfl) ?_
  refine lv_iconst (v := 0) hM.1 hM.2.1 dX8_init_15 ic_0 ?_
  refine n_put hM hw 0 rfl rfl fw_X8 (k := 2) tyX8_ok nmX8 (by decide) rfl rfl fl_X8_18 rfl rfl (by show 2 < 9; decide) [(q, .inr (8, [.int 0, .int 0, .int 0, .int 0, .int 0, .int 0, .int 0, .null, .null]))] rfl dX8_init_16 (fun H locs hw => ?_)
  refine lv_aload_n hM.1 hM.2.1 dX8_init_19 rfl (lv_at hl 0 rfl) ?_
  refine lv_iconst (v := 0) hM.1 hM.2.1 dX8_init_20 ic_0 ?_
  refine n_put hM hw 0 rfl rfl fw_X8 (k := 3) tyX8_ok nmX8 (by decide) rfl rfl fl_X8_21 rfl rfl (by show 3 < 9; decide) [(q, .inr (8, [.int 0, .int 0, .int 0, .int 0, .int 0, .int 0, .int 0, .null, .null]))] rfl dX8_init_21 (fun H locs hw => ?_)
  refine lv_aload_n hM.1 hM.2.1 dX8_init_24 rfl (lv_at hl 0 rfl) ?_
  refine lv_iconst (v := 0) hM.1 hM.2.1 dX8_init_25 ic_0 ?_
  refine n_put hM hw 0 rfl rfl fw_X8 (k := 4) tyX8_ok nmX8 (by decide) rfl rfl fl_X8_24 rfl rfl (by show 4 < 9; decide) [(q, .inr (8, [.int 0, .int 0, .int 0, .int 0, .int 0, .int 0, .int 0, .null, .null]))] rfl dX8_init_26 (fun H locs hw => ?_)
  refine lv_aload_n hM.1 hM.2.1 dX8_init_29 rfl (lv_at hl 0 rfl) ?_
  refine lv_iconst (v := 0) hM.1 hM.2.1 dX8_init_30 ic_0 ?_
  refine n_put hM hw 0 rfl rfl fw_X8 (k := 5) tyX8_ok nmX8 (by decide) rfl rfl fl_X8_27 rfl rfl (by show 5 < 9; decide) [(q, .inr (8, [.int 0, .int 0, .int 0, .int 0, .int 0, .int 0, .int 0, .null, .null]))] rfl dX8_init_31 (fun H locs hw => ?_)
  refine lv_aload_n hM.1 hM.2.1 dX8_init_34 rfl (lv_at hl 0 rfl) ?_
  refine lv_iconst (v := 0) hM.1 hM.2.1 dX8_init_35 ic_0 ?_
  refine n_put hM hw 0 rfl rfl fw_X8 (k := 6) tyX8_ok nmX8 (by decide) rfl rfl fl_X8_30 rfl rfl (by show 6 < 9; decide) [(q, .inr (8, [.int 0, .int 0, .int 0, .int 0, .int 0, .int 0, .int 0, .null, .null]))] rfl dX8_init_36 (fun H locs hw => ?_)
  refine lv_aload_n hM.1 hM.2.1 dX8_init_39 rfl (lv_at hl 0 rfl) ?_
  refine lv_iconst (v := 5) hM.1 hM.2.1 dX8_init_40 ic_5 ?_
  refine n_newa hM hw (atype := .int) ac_I rfl 1 rfl 5 (a0 := (5, .inl (fun _ => 0))) (fun _ => rfl) (by decide) (by decide) (Nat.le_of_ble_eq_true rfl) (Nat.le_of_ble_eq_true rfl) (Nat.le_of_ble_eq_true rfl) dX8_init_41 (fun q1 H hw => ?_)
  have hw : Wn D G A s.heap (Y ++ [(q, .inr (8, [.int 0, .int 0, .int 0, .int 0, .int 0, .int 0, .int 0, .null, .null])), (q1, .inl (G.2.1, 5, .inl (fun _ => 0)))]) s H _ := hw
  refine n_putF hM hw hin2 0 rfl rfl fw_X8 (k := 7) tyX8_ok nmX8 (by decide) rfl rfl rfl fl_X8_33 rfl rfl (by show 7 < 9; decide) [(q, .inr (8, [.int 0, .int 0, .int 0, .int 0, .int 0, .int 0, .int 0, .ref q1, .null])), (q1, .inl (G.2.1, 5, .inl (fun _ => 0)))] rfl dX8_init_43 (fun H locs hw => ?_)
  refine lv_aload_n hM.1 hM.2.1 dX8_init_46 rfl (lv_at hl 0 rfl) ?_
  refine lv_bipush (v := 9) hM.1 hM.2.1 dX8_init_47 (by decide) ?_
  refine n_newa hM hw (atype := .int) ac_I rfl 1 rfl 9 (a0 := (9, .inl (fun _ => 0))) (fun _ => rfl) (by decide) (by decide) (Nat.le_of_ble_eq_true rfl) (Nat.le_of_ble_eq_true rfl) (Nat.le_of_ble_eq_true rfl) dX8_init_49 (fun q2 H hw => ?_)
  have hw : Wn D G A s.heap (Y ++ [(q, .inr (8, [.int 0, .int 0, .int 0, .int 0, .int 0, .int 0, .int 0, .ref q1, .null])), (q1, .inl (G.2.1, 5, .inl (fun _ => 0))), (q2, .inl (G.2.1, 9, .inl (fun _ => 0)))]) s H _ := hw
  refine n_putF hM hw hin2 0 rfl rfl fw_X8 (k := 8) tyX8_ok nmX8 (by decide) rfl rfl rfl fl_X8_37 rfl rfl (by show 8 < 9; decide) [(q, .inr (8, [.int 0, .int 0, .int 0, .int 0, .int 0, .int 0, .int 0, .ref q1, .ref q2])), (q1, .inl (G.2.1, 5, .inl (fun _ => 0))), (q2, .inl (G.2.1, 9, .inl (fun _ => 0)))] rfl dX8_init_51 (fun H locs hw => ?_)
  refine W.vret B.exec B.bytes B.returns (fun t ht hW => ⟨⟨(fun i => [q, q1, q2].getD i 0), rfl, rfl, by rw [ht]; exact hw.2.1, va_K.moved hW.alike hw.1, hw.2.2.1⟩, hw.2.2.2.1.F ht⟩) (fun q hq => hw.2.2.2.1.2.2 q hq) dX8_init_54 (hlocks := B.notSynchronized)
section XK
variable {cells slots : Nat}
variable {p : Program} {l : Launch} {e : Env} {R : Room} {s : State} {m : MethodId} {args : Array Value} {below : List Frame} {meth : Method} {c : Code} {H : Heap} {locs : List Loc} {Q : State → Prop}
variable {cc : ByteArray} {nL pc : Nat} {own : String} {ls : Array Slot} {rest : List Value} {D : va_G} {G : GG} {A : Nat → Prop} {H0 : Heap} {Y L : va_W}
theorem wn_free {W0 : va_W} (hw : Wn D G A H0 W0 s H locs) : ∀ q, va_A W0 H.size q → A q := by
  intro q hq
  rcases hq with ⟨k, e, hk⟩ | hq
  · exact hw.2.2.1.2 k (q, e) hk
  · exact hw.2.2.2.2 q (Nat.le_trans hw.2.2.2.1.1 hq)
theorem pn_blind {W0 : va_W} {sz : Nat} {as : List Value} : FrameBlind (va_Pc as (Pn D G W0 sz)) := fun a U g mk q => by
  obtain ⟨q0, q1, qP, qK, qD, qS⟩ := q
  exact ⟨q0, q1, qP, va_K.moved (u := U) (U := U.calling g mk a) (Vm.Alike.refl U.vm) qK, qD, sf_same (u := U) (U := U.calling g mk a) rfl qS⟩
theorem n_ctor (hM : CallFix p m c cc nL s args lw_g own) (hSF : SF s) {y : MethodName} {b : ByteArray} {n' fr lo mc ms ci idx q : Nat} {fs0 : List Value} {lay : List KK} {hX : PH} (hC : CtN l y b n' fr lo mc ms ci fs0 lay hX) (hw : Wn D G A H0 (Y ++ (L ++ [(q, .inr (ci, fs0))])) s H locs) (hini : Cond.initialized y.cls ∈ lw_g) (hlink : Cond.methodLink own idx y ∈ lw_g) (him : Cond.instanceMethod y ∈ lw_g) (hk : Cond.code y b n' none ∈ lw_g) (hy1 : y.name = "<init>") (hd : y.cls ≠ "java/lang/invoke/MethodHandle" ∧ y.cls ≠ "java/lang/invoke/VarHandle" ∧ (parseMethodDescriptor y.desc).map (fun d => d.parameters.length) = some 0) (hR : fr + 1 ≤ R.frames ∧ 8 + (n' + 11) + lo ≤ R.locals) (hroom : (rest.map fun v => v.category).sum ≤ 8) (hl : ls.size = nL) (hcs : cells + mc ≤ R.cells ∧ slots + ms ≤ R.slots) (hdg : decode cc pc = .ok (.invokespecial idx, 3)) (kk : ∀ (u : Nat → Nat) (H1 : Heap) (locs1 : List Loc), u 0 = q → Wn D G A H0 (Y ++ (L ++ encA u G hX 0 lay)) s H1 locs1 → W p l e R s m args below meth c H1 locs1 (cells + mc) (slots + ms) Q (F0 m (pc + 3) ls rest)) : W p l e R s m args below meth c H locs cells slots Q (F0 m pc ls (.ref q :: rest)) := by
  have hw' : Wn D G A H0 ((Y ++ L) ++ [(q, .inr (ci, fs0))]) s H locs := by rw [List.append_assoc]; exact hw
  refine va_callv (va_runI (As := []) (rest := rest) hM (hC D G (Y ++ L) q H.size) (cwI 0 hM.2.2.2.2 (gi_c hk gi_g) rfl rfl rfl (hM.2.2.2.2 _ hini) (hM.2.2.2.2 _ hlink) (hM.2.2.2.2 _ him) hy1 hd hR) ⟨pn_blind, fun U hU hW => ⟨rfl, by rw [hU], by rw [hU]; exact hw'.2.1, va_K.moved hW.alike hw'.1, hw'.2.2.1.weaken (fun _ _ _ _ => trivial), sf_warm hW hSF⟩⟩ rfl rfl hl rfl (lv_room hroom) hdg hcs) hw'.2.2.2.1 (fun q _ hq => wn_free hw' q hq) (wn_free hw') (fun u t1 H1 locs1 ht hvm hq hB hz1 hk1 hS => ?_)
  obtain ⟨hP1, hK1, hD1⟩ := hB
  rw [ht] at hP1
  have hD2 : va_D A ((Y ++ L) ++ encA u G hX 0 lay) := hD1.weaken (fun k q _ hq => wn_free hw' q.1 hq)
  rw [List.append_assoc] at hP1 hD2
  exact kk u H1 locs1 hq ⟨va_K.moved hvm.symm hK1, hP1, hD2, hS, hw.2.2.2.2⟩
theorem n_ctorN (hM : CallFix p m c cc nL s args lw_g own) (hSF : SF s) {y : MethodName} {b : ByteArray} {n' fr lo mc ms ci idx q : Nat} {host : String} {fs0 : List Value} {lay : List KK} {hX : PH} (hC : CtN l y b n' fr lo mc ms ci fs0 lay hX) (hw : Wn D G A H0 (Y ++ (L ++ [(q, .inr (ci, fs0))])) s H locs) (hini : Cond.initialized y.cls ∈ lw_g) (hlink : Cond.methodLinkNest own idx y host ∈ sf_words) (him : Cond.instanceMethod y ∈ lw_g) (hk : Cond.code y b n' none ∈ lw_g) (hy1 : y.name = "<init>") (hd : y.cls ≠ "java/lang/invoke/MethodHandle" ∧ y.cls ≠ "java/lang/invoke/VarHandle" ∧ (parseMethodDescriptor y.desc).map (fun d => d.parameters.length) = some 0) (hR : fr + 1 ≤ R.frames ∧ 8 + (n' + 11) + lo ≤ R.locals) (hroom : (rest.map fun v => v.category).sum ≤ 8) (hl : ls.size = nL) (hcs : cells + mc ≤ R.cells ∧ slots + ms ≤ R.slots) (hdg : decode cc pc = .ok (.invokespecial idx, 3)) (kk : ∀ (u : Nat → Nat) (H1 : Heap) (locs1 : List Loc), u 0 = q → Wn D G A H0 (Y ++ (L ++ encA u G hX 0 lay)) s H1 locs1 → W p l e R s m args below meth c H1 locs1 (cells + mc) (slots + ms) Q (F0 m (pc + 3) ls rest)) : W p l e R s m args below meth c H locs cells slots Q (F0 m pc ls (.ref q :: rest)) := by
  have hw' : Wn D G A H0 ((Y ++ L) ++ [(q, .inr (ci, fs0))]) s H locs := by rw [List.append_assoc]; exact hw
  refine va_callv (va_runIN (As := []) (rest := rest) hM (hC D G (Y ++ L) q H.size) ⟨va_cnB 0 hM.2.2.2.2 (gi_c hk gi_g) rfl rfl rfl (hSF.1 _ hlink) (hM.2.2.2.2 _ hini) hd hR, hy1, hM.2.2.2.2 _ him⟩ ⟨pn_blind, fun U hU hW => ⟨rfl, by rw [hU], by rw [hU]; exact hw'.2.1, va_K.moved hW.alike hw'.1, hw'.2.2.1.weaken (fun _ _ _ _ => trivial), sf_warm hW hSF⟩⟩ rfl rfl hl rfl (lv_room hroom) hdg hcs) hw'.2.2.2.1 (fun q _ hq => wn_free hw' q hq) (wn_free hw') (fun u t1 H1 locs1 ht hvm hq hB hz1 hk1 hS => ?_)
  obtain ⟨hP1, hK1, hD1⟩ := hB
  rw [ht] at hP1
  have hD2 : va_D A ((Y ++ L) ++ encA u G hX 0 lay) := hD1.weaken (fun k q _ hq => wn_free hw' q.1 hq)
  rw [List.append_assoc] at hP1 hD2
  exact kk u H1 locs1 hq ⟨va_K.moved hvm.symm hK1, hP1, hD2, hS, hw.2.2.2.2⟩
end XK
