theorem wn_wd {D : va_G} {G : GG} {A : Nat → Prop} {H0 : Heap} {Y : va_W} {u : Nat → Nat} {h : PH} {lay : List KK} {s : State} {H : Heap} {locs : List Loc} (hw : Wn D G A H0 (Y ++ encA u G h 0 lay) s H locs) : Wd D G A H0 u lay Y h s H locs := by
  obtain ⟨hK, hP, hD, hS, hA⟩ := hw
  have hP2 : va_P D vwCl (([] ++ Y) ++ encA u G h 0 lay) H := hP
  have hD2 : va_D A (([] ++ Y) ++ encA u G h 0 lay) := hD
  exact ⟨hK, va_P.swap hP2, va_D.swap hD2, hS, hA⟩
theorem wd_wn {D : va_G} {G : GG} {A : Nat → Prop} {H0 : Heap} {Y : va_W} {u : Nat → Nat} {h : PH} {lay : List KK} {s : State} {H : Heap} {locs : List Loc} (hw : Wd D G A H0 u lay Y h s H locs) : Wn D G A H0 (Y ++ encA u G h 0 lay) s H locs := by
  obtain ⟨hK, hP, hD, hS, hA⟩ := hw
  have hP2 : va_P D vwCl (([] ++ encA u G h 0 lay) ++ Y) H := hP
  have hD2 : va_D A (([] ++ encA u G h 0 lay) ++ Y) := hD
  exact ⟨hK, va_P.swap hP2, va_D.swap hD2, hS, hA⟩
theorem locL_rep {n m p : Nat} {k : KK} (hk : ∀ q, KLoc k q n) : LocL n p (List.replicate m k) := by
  induction m generalizing p with
  | zero => trivial
  | succ m ih => exact ⟨hk p, ih⟩
theorem locL_II {n m k : Nat} (h : m < n) : LocL n 0 (kII m :: List.replicate m (kI k)) := ⟨loc_II (by omega), locL_rep (fun _ => loc_I)⟩
theorem locL_X2 {n : Nat} (h : 2 < n) : LocL n 0 layX2 := ⟨loc_X2 (by omega), loc_I, loc_I, trivial⟩
theorem locL_X8 {n : Nat} (h : 2 < n) : LocL n 0 layX8 := ⟨loc_X8 (by omega), loc_I, loc_I, trivial⟩
theorem dX9_init_0 : decode cX9_init 0 = .ok (.aload_n 0, 1) := by decide +kernel
theorem dX9_init_1 : decode cX9_init 1 = .ok (.invokespecial 3, 3) := by decide +kernel
theorem dX9_init_4 : decode cX9_init 4 = .ok (.aload_n 0, 1) := by decide +kernel
theorem dX9_init_5 : decode cX9_init 5 = .ok (.iconst 0, 1) := by decide +kernel
theorem dX9_init_6 : decode cX9_init 6 = .ok (.putfield 9, 3) := by decide +kernel
theorem dX9_init_9 : decode cX9_init 9 = .ok (.aload_n 0, 1) := by decide +kernel
theorem dX9_init_10 : decode cX9_init 10 = .ok (.iconst 0, 1) := by decide +kernel
theorem dX9_init_11 : decode cX9_init 11 = .ok (.putfield 15, 3) := by decide +kernel
theorem dX9_init_14 : decode cX9_init 14 = .ok (.aload_n 0, 1) := by decide +kernel
theorem dX9_init_15 : decode cX9_init 15 = .ok (.iconst 0, 1) := by decide +kernel
theorem dX9_init_16 : decode cX9_init 16 = .ok (.putfield 18, 3) := by decide +kernel
theorem dX9_init_19 : decode cX9_init 19 = .ok (.aload_n 0, 1) := by decide +kernel
theorem dX9_init_20 : decode cX9_init 20 = .ok (.iconst 0, 1) := by decide +kernel
theorem dX9_init_21 : decode cX9_init 21 = .ok (.putfield 21, 3) := by decide +kernel
theorem dX9_init_24 : decode cX9_init 24 = .ok (.aload_n 0, 1) := by decide +kernel
theorem dX9_init_25 : decode cX9_init 25 = .ok (.iconst 0, 1) := by decide +kernel
theorem dX9_init_26 : decode cX9_init 26 = .ok (.putfield 24, 3) := by decide +kernel
theorem dX9_init_29 : decode cX9_init 29 = .ok (.aload_n 0, 1) := by decide +kernel
theorem dX9_init_30 : decode cX9_init 30 = .ok (.iconst 0, 1) := by decide +kernel
theorem dX9_init_31 : decode cX9_init 31 = .ok (.putfield 27, 3) := by decide +kernel
theorem dX9_init_34 : decode cX9_init 34 = .ok (.aload_n 0, 1) := by decide +kernel
theorem dX9_init_35 : decode cX9_init 35 = .ok (.bipush 50, 2) := by decide +kernel
theorem dX9_init_37 : decode cX9_init 37 = .ok (.putfield 30, 3) := by decide +kernel
theorem dX9_init_40 : decode cX9_init 40 = .ok (.aload_n 0, 1) := by decide +kernel
theorem dX9_init_41 : decode cX9_init 41 = .ok (.iconst 0, 1) := by decide +kernel
theorem dX9_init_42 : decode cX9_init 42 = .ok (.putfield 33, 3) := by decide +kernel
theorem dX9_init_45 : decode cX9_init 45 = .ok (.aload_n 0, 1) := by decide +kernel
theorem dX9_init_46 : decode cX9_init 46 = .ok (.new 36, 3) := by decide +kernel
theorem dX9_init_49 : decode cX9_init 49 = .ok (.dup, 1) := by decide +kernel
theorem dX9_init_50 : decode cX9_init 50 = .ok (.invokespecial 38, 3) := by decide +kernel
theorem dX9_init_53 : decode cX9_init 53 = .ok (.putfield 39, 3) := by decide +kernel
theorem dX9_init_56 : decode cX9_init 56 = .ok (.aload_n 0, 1) := by decide +kernel
theorem dX9_init_57 : decode cX9_init 57 = .ok (.new 36, 3) := by decide +kernel
theorem dX9_init_60 : decode cX9_init 60 = .ok (.dup, 1) := by decide +kernel
theorem dX9_init_61 : decode cX9_init 61 = .ok (.invokespecial 38, 3) := by decide +kernel
theorem dX9_init_64 : decode cX9_init 64 = .ok (.putfield 43, 3) := by decide +kernel
theorem dX9_init_67 : decode cX9_init 67 = .ok (.aload_n 0, 1) := by decide +kernel
theorem dX9_init_68 : decode cX9_init 68 = .ok (.iconst 5, 1) := by decide +kernel
theorem dX9_init_69 : decode cX9_init 69 = .ok (.iconst 3, 1) := by decide +kernel
theorem dX9_init_70 : decode cX9_init 70 = .ok (.multianewarray 46 2, 4) := by decide +kernel
theorem dX9_init_74 : decode cX9_init 74 = .ok (.putfield 48, 3) := by decide +kernel
theorem dX9_init_77 : decode cX9_init 77 = .ok (.aload_n 0, 1) := by decide +kernel
theorem dX9_init_78 : decode cX9_init 78 = .ok (.bipush 7, 2) := by decide +kernel
theorem dX9_init_80 : decode cX9_init 80 = .ok (.iconst 5, 1) := by decide +kernel
theorem dX9_init_81 : decode cX9_init 81 = .ok (.multianewarray 46 2, 4) := by decide +kernel
theorem dX9_init_85 : decode cX9_init 85 = .ok (.putfield 51, 3) := by decide +kernel
theorem dX9_init_88 : decode cX9_init 88 = .ok (.aload_n 0, 1) := by decide +kernel
theorem dX9_init_89 : decode cX9_init 89 = .ok (.bipush 9, 2) := by decide +kernel
theorem dX9_init_91 : decode cX9_init 91 = .ok (.iconst 3, 1) := by decide +kernel
theorem dX9_init_92 : decode cX9_init 92 = .ok (.multianewarray 46 2, 4) := by decide +kernel
theorem dX9_init_96 : decode cX9_init 96 = .ok (.putfield 54, 3) := by decide +kernel
theorem dX9_init_99 : decode cX9_init 99 = .ok (.aload_n 0, 1) := by decide +kernel
theorem dX9_init_100 : decode cX9_init 100 = .ok (.bipush 6, 2) := by decide +kernel
theorem dX9_init_102 : decode cX9_init 102 = .ok (.newarray .int, 2) := by decide +kernel
theorem dX9_init_104 : decode cX9_init 104 = .ok (.putfield 57, 3) := by decide +kernel
theorem dX9_init_107 : decode cX9_init 107 = .ok (.aload_n 0, 1) := by decide +kernel
theorem dX9_init_108 : decode cX9_init 108 = .ok (.bipush 27, 2) := by decide +kernel
theorem dX9_init_110 : decode cX9_init 110 = .ok (.newarray .long, 2) := by decide +kernel
theorem dX9_init_112 : decode cX9_init 112 = .ok (.putfield 61, 3) := by decide +kernel
theorem dX9_init_115 : decode cX9_init 115 = .ok (.aload_n 0, 1) := by decide +kernel
theorem dX9_init_116 : decode cX9_init 116 = .ok (.bipush 27, 2) := by decide +kernel
theorem dX9_init_118 : decode cX9_init 118 = .ok (.newarray .int, 2) := by decide +kernel
theorem dX9_init_120 : decode cX9_init 120 = .ok (.putfield 65, 3) := by decide +kernel
theorem dX9_init_123 : decode cX9_init 123 = .ok (.aload_n 0, 1) := by decide +kernel
theorem dX9_init_124 : decode cX9_init 124 = .ok (.bipush 27, 2) := by decide +kernel
theorem dX9_init_126 : decode cX9_init 126 = .ok (.newarray .int, 2) := by decide +kernel
theorem dX9_init_128 : decode cX9_init 128 = .ok (.putfield 68, 3) := by decide +kernel
theorem dX9_init_131 : decode cX9_init 131 = .ok (.aload_n 0, 1) := by decide +kernel
theorem dX9_init_132 : decode cX9_init 132 = .ok (.iconst 0, 1) := by decide +kernel
theorem dX9_init_133 : decode cX9_init 133 = .ok (.putfield 71, 3) := by decide +kernel
theorem dX9_init_136 : decode cX9_init 136 = .ok (.aload_n 0, 1) := by decide +kernel
theorem dX9_init_137 : decode cX9_init 137 = .ok (.invokevirtual 74, 3) := by decide +kernel
theorem dX9_init_140 : decode cX9_init 140 = .ok (.return_, 1) := by decide +kernel
abbrev layX9 : List KK := [kX9] ++ (layX2 ++ (layX2 ++ ((kII 5 :: List.replicate 5 (kI 3)) ++ ((kII 7 :: List.replicate 7 (kI 5)) ++ ((kII 9 :: List.replicate 9 (kI 3)) ++ [kI 6, kJ 27, kI 27, kI 27])))))
def h0X9 : PH := setI hZ 0 6 50
def hX9 : PH := (c_X9_clear 0 h0X9).getD hZ
theorem hX9_ok : c_X9_clear 0 h0X9 = some hX9 := by
  have h : (c_X9_clear 0 h0X9).isSome = true := by decide +kernel
  unfold hX9
  cases q : c_X9_clear 0 h0X9 with
  | none => rw [q] at h; cases h
  | some v => rfl
theorem ok_layX9 : okX9 layX9 0 := ⟨rfl, ⟨rfl, rfl, rfl⟩, ⟨rfl, rfl, rfl⟩, rfl, (fun i hi => match i, hi with | 0, _ => rfl | 1, _ => rfl | 2, _ => rfl | 3, _ => rfl | 4, _ => rfl | i + 5, h => absurd h (by omega)), rfl, (fun i hi => match i, hi with | 0, _ => rfl | 1, _ => rfl | 2, _ => rfl | 3, _ => rfl | 4, _ => rfl | 5, _ => rfl | 6, _ => rfl | i + 7, h => absurd h (by omega)), rfl, (fun i hi => match i, hi with | 0, _ => rfl | 1, _ => rfl | 2, _ => rfl | 3, _ => rfl | 4, _ => rfl | 5, _ => rfl | 6, _ => rfl | 7, _ => rfl | 8, _ => rfl | i + 9, h => absurd h (by omega)), rfl, rfl, rfl, rfl⟩
set_option maxHeartbeats 4000000 in
set_option maxRecDepth 100000 in
theorem ctn_X9 (l : Launch) : CtN l yX9_init cX9_init 1 3 80 34 1047 9 [.int 0, .int 0, .int 0, .int 0, .int 0, .int 0, .int 0, .int 0, .null, .null, .null, .null, .null, .null, .null, .null, .null, .int 0] layX9 hX9 := by
  intro D G Y q sz
  refine Met.ofW (cc := cX9_init) (maxL := 1) (ret := none) (by decide) rfl ?_
  intro p e s m args below meth c s₁ B hml hv
  obtain ⟨rfl, hsz, hP, hK, hD0, hSF⟩ := hv
  subst hsz
  have hts : ∀ w ∈ (Cond.code yX9_init cX9_init 1 none :: lw_g), w.before ([Value.ref q] : List Value).toArray s = true := atoms_spec (ws := Cond.code yX9_init cX9_init 1 none :: lw_g) B.pre
  have hown : s.vm.findClass RX9 = some m.cls := findClass_of_methodNamed B.named
  have hM : CallFix p m c cX9_init 1 s ([Value.ref q] : List Value).toArray lw_g RX9 := ⟨B.exec, B.bytes, hml, hown, fun w hw => hts w (List.mem_cons_of_mem _ hw)⟩
  have hin2 : meth.name = "<init>" := (name_of_methodNamed B.named B.method).1
  have hD := hD0.self (sz := s.heap.size)
  have hA : ∀ x : Nat, s.heap.size ≤ x → va_A (Y ++ [(q, .inr (9, [.int 0, .int 0, .int 0, .int 0, .int 0, .int 0, .int 0, .int 0, .null, .null, .null, .null, .null, .null, .null, .null, .null, .int 0]))]) s.heap.size x := fun x h => Or.inr h
  generalize va_A (Y ++ [(q, .inr (9, [.int 0, .int 0, .int 0, .int 0, .int 0, .int 0, .int 0, .int 0, .null, .null, .null, .null, .null, .null, .null, .null, .null, .int 0]))]) s.heap.size = A at hD hA ⊢
  have hw : Wn D G A s.heap (Y ++ [(q, .inr (9, [.int 0, .int 0, .int 0, .int 0, .int 0, .int 0, .int 0, .int 0, .null, .null, .null, .null, .null, .null, .null, .null, .null, .int 0]))]) s s.heap [] := ⟨hK, hP, hD, va_S.rf, hA⟩
  have hl := lv_entry ([.ref q]) (n := 1) (Nat.le_of_ble_eq_true rfl)
  rw [lg_entry_eq]
  generalize (lg_sl ([.ref q]) ++ List.replicate (1 - (lg_sl ([.ref q])).length) Slot.unset).toArray = ls at hl ⊢
  have hl : lv_has ls 1 [(0, .ref q)] := hl
  refine lv_aload_n hM.1 hM.2.1 dX9_init_0 rfl (lv_at hl 0 rfl) ?_
  refine n_obj hM hl.1 ml_X9_3 dX9_init_1 (Nat.le_of_ble_eq_true rfl) (Nat.le_of_ble_eq_true rfl) ?_
  refine lv_aload_n hM.1 hM.2.1 dX9_init_4 rfl (lv_at hl 0 rfl) ?_
  refine lv_iconst (v := 0) hM.1 hM.2.1 dX9_init_5 ic_0 ?_
  refine n_put hM hw 0 rfl rfl fw_X9 (k := 0) tyX9_ok nmX9 (by decide) rfl rfl fl_X9_9 rfl rfl (by show 0 < 18; decide) ((q, .inr (9, [.int 0, .int 0, .int 0, .int 0, .int 0, .int 0, .int 0, .int 0, .null, .null, .null, .null, .null, .null, .null, .null, .null, .int 0])) :: ([] : va_W)) rfl dX9_init_6 (fun H locs hw => ?_)
  refine lv_aload_n hM.1 hM.2.1 dX9_init_9 rfl (lv_at hl 0 rfl) ?_
  refine lv_iconst (v := 0) hM.1 hM.2.1 dX9_init_10 ic_0 ?_
  refine n_put hM hw 0 rfl rfl fw_X9 (k := 1) tyX9_ok nmX9 (by decide) rfl rfl fl_X9_15 rfl rfl (by show 1 < 18; decide) ((q, .inr (9, [.int 0, .int 0, .int 0, .int 0, .int 0, .int 0, .int 0, .int 0, .null, .null, .null, .null, .null, .null, .null, .null, .null, .int 0])) :: ([] : va_W)) rfl dX9_init_11 (fun H locs hw => ?_)
  refine lv_aload_n hM.1 hM.2.1 dX9_init_14 rfl (lv_at hl 0 rfl) ?_
  refine lv_iconst (v := 0) hM.1 hM.2.1 dX9_init_15 ic_0 ?_
  refine n_put hM hw 0 rfl rfl fw_X9 (k := 2) tyX9_ok nmX9 (by decide) rfl rfl fl_X9_18 rfl rfl (by show 2 < 18; decide) ((q, .inr (9, [.int 0, .int 0, .int 0, .int 0, .int 0, .int 0, .int 0, .int 0, .null, .null, .null, .null, .null, .null, .null, .null, .null, .int 0])) :: ([] : va_W)) rfl dX9_init_16 (fun H locs hw => ?_)
  refine lv_aload_n hM.1 hM.2.1 dX9_init_19 rfl (lv_at hl 0 rfl) ?_
  refine lv_iconst (v := 0) hM.1 hM.2.1 dX9_init_20 ic_0 ?_
  refine n_put hM hw 0 rfl rfl fw_X9 (k := 3) tyX9_ok nmX9 (by decide) rfl rfl fl_X9_21 rfl rfl (by show 3 < 18; decide) ((q, .inr (9, [.int 0, .int 0, .int 0, .int 0, .int 0, .int 0, .int 0, .int 0, .null, .null, .null, .null, .null, .null, .null, .null, .null, .int 0])) :: ([] : va_W)) rfl dX9_init_21 (fun H locs hw => ?_)
  refine lv_aload_n hM.1 hM.2.1 dX9_init_24 rfl (lv_at hl 0 rfl) ?_
  refine lv_iconst (v := 0) hM.1 hM.2.1 dX9_init_25 ic_0 ?_
  refine n_put hM hw 0 rfl rfl fw_X9 (k := 4) tyX9_ok nmX9 (by decide) rfl rfl fl_X9_24 rfl rfl (by show 4 < 18; decide) ((q, .inr (9, [.int 0, .int 0, .int 0, .int 0, .int 0, .int 0, .int 0, .int 0, .null, .null, .null, .null, .null, .null, .null, .null, .null, .int 0])) :: ([] : va_W)) rfl dX9_init_26 (fun H locs hw => ?_)
  refine lv_aload_n hM.1 hM.2.1 dX9_init_29 rfl (lv_at hl 0 rfl) ?_
  refine lv_iconst (v := 0) hM.1 hM.2.1 dX9_init_30 ic_0 ?_
  refine n_put hM hw 0 rfl rfl fw_X9 (k := 5) tyX9_ok nmX9 (by decide) rfl rfl fl_X9_27 rfl rfl (by show 5 < 18; decide) ((q, .inr (9, [.int 0, .int 0, .int 0, .int 0, .int 0, .int 0, .int 0, .int 0, .null, .null, .null, .null, .null, .null, .null, .null, .null, .int 0])) :: ([] : va_W)) rfl dX9_init_31 (fun H locs hw => ?_)
  refine lv_aload_n hM.1 hM.2.1 dX9_init_34 rfl (lv_at hl 0 rfl) ?_
  refine lv_bipush (v := 50) hM.1 hM.2.1 dX9_init_35 (by decide) ?_
  refine n_put hM hw 0 rfl rfl fw_X9 (k := 6) tyX9_ok nmX9 (by decide) rfl rfl fl_X9_30 rfl rfl (by show 6 < 18; decide) ((q, .inr (9, [.int 0, .int 0, .int 0, .int 0, .int 0, .int 0, .int 50, .int 0, .null, .null, .null, .null, .null, .null, .null, .null, .null, .int 0])) :: ([] : va_W)) rfl dX9_init_37 (fun H locs hw => ?_)
  refine lv_aload_n hM.1 hM.2.1 dX9_init_40 rfl (lv_at hl 0 rfl) ?_
  refine lv_iconst (v := 0) hM.1 hM.2.1 dX9_init_41 ic_0 ?_
  refine n_put hM hw 0 rfl rfl fw_X9 (k := 7) tyX9_ok nmX9 (by decide) rfl rfl fl_X9_33 rfl rfl (by show 7 < 18; decide) ((q, .inr (9, [.int 0, .int 0, .int 0, .int 0, .int 0, .int 0, .int 50, .int 0, .null, .null, .null, .null, .null, .null, .null, .null, .null, .int 0])) :: ([] : va_W)) rfl dX9_init_42 (fun H locs hw => ?_)
  refine lv_aload_n hM.1 hM.2.1 dX9_init_45 rfl (lv_at hl 0 rfl) ?_
  refine n_new (ci := 2) hM hw fw_X2 tyX2_ok cl_X9_36 it_X2 in_X2 rfl [.null, .int 0, .null] (fun j hj => match j, hj with | 0, _ => rfl | 1, _ => rfl | 2, _ => rfl | j + 3, h => absurd h (by omega)) (Nat.le_of_ble_eq_true rfl) (Nat.le_of_ble_eq_true rfl) dX9_init_46 (fun q1 H hw => ?_)
  have hw := wn_eq (W1 := Y ++ ((q, .inr (9, [.int 0, .int 0, .int 0, .int 0, .int 0, .int 0, .int 50, .int 0, .null, .null, .null, .null, .null, .null, .null, .null, .null, .int 0])) :: ([(q1, .inr (2, [.null, .int 0, .null]))] : va_W))) (by simp only [List.append_assoc, List.cons_append, List.nil_append, List.append_nil]) hw
  refine lv_dup hM.1 hM.2.1 dX9_init_49 rfl ?_
  refine n_ctorN (host := "ExcuseMarket") (Y := Y) (L := ((q, .inr (9, [.int 0, .int 0, .int 0, .int 0, .int 0, .int 0, .int 50, .int 0, .null, .null, .null, .null, .null, .null, .null, .null, .null, .int 0])) :: ([] : va_W))) (rest := [.ref q1, .ref q]) hM hSF (ctn_X2 l) (wn_eq (by simp only [List.append_assoc, List.cons_append, List.nil_append, List.append_nil]) hw) in_X2 (by simp [sf_words]) im_X2_init kc_X2_init rfl ⟨by decide, by decide, by decide +kernel⟩ ⟨Nat.le_of_ble_eq_true rfl, Nat.le_of_ble_eq_true rfl⟩ (Nat.le_of_ble_eq_true rfl) hl.1 ⟨Nat.le_of_ble_eq_true rfl, Nat.le_of_ble_eq_true rfl⟩ dX9_init_50 (fun u2 H locs hu2 hw => ?_)
  have hw := wn_eq (W1 := Y ++ ((q, .inr (9, [.int 0, .int 0, .int 0, .int 0, .int 0, .int 0, .int 50, .int 0, .null, .null, .null, .null, .null, .null, .null, .null, .null, .int 0])) :: (encA u2 G hZ 0 layX2 : va_W))) (by simp only [List.append_assoc, List.cons_append, List.nil_append, List.append_nil]) hw
  refine n_putF hM hw hin2 0 rfl rfl fw_X9 (k := 8) tyX9_ok nmX9 (by decide) rfl rfl rfl fl_X9_39 rfl rfl (by show 8 < 18; decide) ((q, .inr (9, [.int 0, .int 0, .int 0, .int 0, .int 0, .int 0, .int 50, .int 0, .ref q1, .null, .null, .null, .null, .null, .null, .null, .null, .int 0])) :: (encA u2 G hZ 0 layX2 : va_W)) rfl dX9_init_53 (fun H locs hw => ?_)
  refine lv_aload_n hM.1 hM.2.1 dX9_init_56 rfl (lv_at hl 0 rfl) ?_
  refine n_new (ci := 2) hM hw fw_X2 tyX2_ok cl_X9_36 it_X2 in_X2 rfl [.null, .int 0, .null] (fun j hj => match j, hj with | 0, _ => rfl | 1, _ => rfl | 2, _ => rfl | j + 3, h => absurd h (by omega)) (Nat.le_of_ble_eq_true rfl) (Nat.le_of_ble_eq_true rfl) dX9_init_57 (fun q3 H hw => ?_)
  have hw := wn_eq (W1 := Y ++ ((q, .inr (9, [.int 0, .int 0, .int 0, .int 0, .int 0, .int 0, .int 50, .int 0, .ref q1, .null, .null, .null, .null, .null, .null, .null, .null, .int 0])) :: (encA u2 G hZ 0 layX2 ++ [(q3, .inr (2, [.null, .int 0, .null]))] : va_W))) (by simp only [List.append_assoc, List.cons_append, List.nil_append, List.append_nil]) hw
  refine lv_dup hM.1 hM.2.1 dX9_init_60 rfl ?_
  refine n_ctorN (host := "ExcuseMarket") (Y := Y) (L := ((q, .inr (9, [.int 0, .int 0, .int 0, .int 0, .int 0, .int 0, .int 50, .int 0, .ref q1, .null, .null, .null, .null, .null, .null, .null, .null, .int 0])) :: (encA u2 G hZ 0 layX2 : va_W))) (rest := [.ref q3, .ref q]) hM hSF (ctn_X2 l) (wn_eq (by simp only [List.append_assoc, List.cons_append, List.nil_append, List.append_nil]) hw) in_X2 (by simp [sf_words]) im_X2_init kc_X2_init rfl ⟨by decide, by decide, by decide +kernel⟩ ⟨Nat.le_of_ble_eq_true rfl, Nat.le_of_ble_eq_true rfl⟩ (Nat.le_of_ble_eq_true rfl) hl.1 ⟨Nat.le_of_ble_eq_true rfl, Nat.le_of_ble_eq_true rfl⟩ dX9_init_61 (fun u4 H locs hu4 hw => ?_)
  have hw := wn_eq (W1 := Y ++ ((q, .inr (9, [.int 0, .int 0, .int 0, .int 0, .int 0, .int 0, .int 50, .int 0, .ref q1, .null, .null, .null, .null, .null, .null, .null, .null, .int 0])) :: (encA u2 G hZ 0 layX2 ++ encA u4 G hZ 0 layX2 : va_W))) (by simp only [List.append_assoc, List.cons_append, List.nil_append, List.append_nil]) hw
  refine n_putF hM hw hin2 0 rfl rfl fw_X9 (k := 9) tyX9_ok nmX9 (by decide) rfl rfl rfl fl_X9_43 rfl rfl (by show 9 < 18; decide) ((q, .inr (9, [.int 0, .int 0, .int 0, .int 0, .int 0, .int 0, .int 50, .int 0, .ref q1, .ref q3, .null, .null, .null, .null, .null, .null, .null, .int 0])) :: (encA u2 G hZ 0 layX2 ++ encA u4 G hZ 0 layX2 : va_W)) rfl dX9_init_64 (fun H locs hw => ?_)
  refine lv_aload_n hM.1 hM.2.1 dX9_init_67 rfl (lv_at hl 0 rfl) ?_
  refine lv_iconst (v := 5) hM.1 hM.2.1 dX9_init_68 ic_5 ?_
  refine lv_iconst (v := 3) hM.1 hM.2.1 dX9_init_69 ic_3 ?_
  refine n_mna (Y := Y) hM hw hSF cl_X9_46 5 3 (by decide) (by decide) (by decide) (by decide) (Nat.le_of_ble_eq_true rfl) (Nat.le_of_ble_eq_true rfl) (Nat.le_of_ble_eq_true rfl) (Nat.le_of_ble_eq_true rfl) (Nat.le_of_ble_eq_true rfl) dX9_init_70 (fun u5 H hw => ?_)
  have hw := wn_eq (W1 := Y ++ ((q, .inr (9, [.int 0, .int 0, .int 0, .int 0, .int 0, .int 0, .int 50, .int 0, .ref q1, .ref q3, .null, .null, .null, .null, .null, .null, .null, .int 0])) :: (encA u2 G hZ 0 layX2 ++ encA u4 G hZ 0 layX2 ++ encA u5 G hZ 0 (kII 5 :: List.replicate 5 (kI 3)) : va_W))) (by simp only [List.append_assoc, List.cons_append, List.nil_append, List.append_nil]) hw
  refine n_putF hM hw hin2 0 rfl rfl fw_X9 (k := 10) tyX9_ok nmX9 (by decide) rfl rfl rfl fl_X9_48 rfl rfl (by show 10 < 18; decide) ((q, .inr (9, [.int 0, .int 0, .int 0, .int 0, .int 0, .int 0, .int 50, .int 0, .ref q1, .ref q3, .ref (u5 0), .null, .null, .null, .null, .null, .null, .int 0])) :: (encA u2 G hZ 0 layX2 ++ encA u4 G hZ 0 layX2 ++ encA u5 G hZ 0 (kII 5 :: List.replicate 5 (kI 3)) : va_W)) rfl dX9_init_74 (fun H locs hw => ?_)
  refine lv_aload_n hM.1 hM.2.1 dX9_init_77 rfl (lv_at hl 0 rfl) ?_
  refine lv_bipush (v := 7) hM.1 hM.2.1 dX9_init_78 (by decide) ?_
  refine lv_iconst (v := 5) hM.1 hM.2.1 dX9_init_80 ic_5 ?_
  refine n_mna (Y := Y) hM hw hSF cl_X9_46 7 5 (by decide) (by decide) (by decide) (by decide) (Nat.le_of_ble_eq_true rfl) (Nat.le_of_ble_eq_true rfl) (Nat.le_of_ble_eq_true rfl) (Nat.le_of_ble_eq_true rfl) (Nat.le_of_ble_eq_true rfl) dX9_init_81 (fun u6 H hw => ?_)
  have hw := wn_eq (W1 := Y ++ ((q, .inr (9, [.int 0, .int 0, .int 0, .int 0, .int 0, .int 0, .int 50, .int 0, .ref q1, .ref q3, .ref (u5 0), .null, .null, .null, .null, .null, .null, .int 0])) :: (encA u2 G hZ 0 layX2 ++ encA u4 G hZ 0 layX2 ++ encA u5 G hZ 0 (kII 5 :: List.replicate 5 (kI 3)) ++ encA u6 G hZ 0 (kII 7 :: List.replicate 7 (kI 5)) : va_W))) (by simp only [List.append_assoc, List.cons_append, List.nil_append, List.append_nil]) hw
  refine n_putF hM hw hin2 0 rfl rfl fw_X9 (k := 11) tyX9_ok nmX9 (by decide) rfl rfl rfl fl_X9_51 rfl rfl (by show 11 < 18; decide) ((q, .inr (9, [.int 0, .int 0, .int 0, .int 0, .int 0, .int 0, .int 50, .int 0, .ref q1, .ref q3, .ref (u5 0), .ref (u6 0), .null, .null, .null, .null, .null, .int 0])) :: (encA u2 G hZ 0 layX2 ++ encA u4 G hZ 0 layX2 ++ encA u5 G hZ 0 (kII 5 :: List.replicate 5 (kI 3)) ++ encA u6 G hZ 0 (kII 7 :: List.replicate 7 (kI 5)) : va_W)) rfl dX9_init_85 (fun H locs hw => ?_)
  refine lv_aload_n hM.1 hM.2.1 dX9_init_88 rfl (lv_at hl 0 rfl) ?_
  refine lv_bipush (v := 9) hM.1 hM.2.1 dX9_init_89 (by decide) ?_
  refine lv_iconst (v := 3) hM.1 hM.2.1 dX9_init_91 ic_3 ?_
  refine n_mna (Y := Y) hM hw hSF cl_X9_46 9 3 (by decide) (by decide) (by decide) (by decide) (Nat.le_of_ble_eq_true rfl) (Nat.le_of_ble_eq_true rfl) (Nat.le_of_ble_eq_true rfl) (Nat.le_of_ble_eq_true rfl) (Nat.le_of_ble_eq_true rfl) dX9_init_92 (fun u7 H hw => ?_)
  have hw := wn_eq (W1 := Y ++ ((q, .inr (9, [.int 0, .int 0, .int 0, .int 0, .int 0, .int 0, .int 50, .int 0, .ref q1, .ref q3, .ref (u5 0), .ref (u6 0), .null, .null, .null, .null, .null, .int 0])) :: (encA u2 G hZ 0 layX2 ++ encA u4 G hZ 0 layX2 ++ encA u5 G hZ 0 (kII 5 :: List.replicate 5 (kI 3)) ++ encA u6 G hZ 0 (kII 7 :: List.replicate 7 (kI 5)) ++ encA u7 G hZ 0 (kII 9 :: List.replicate 9 (kI 3)) : va_W))) (by simp only [List.append_assoc, List.cons_append, List.nil_append, List.append_nil]) hw
  refine n_putF hM hw hin2 0 rfl rfl fw_X9 (k := 12) tyX9_ok nmX9 (by decide) rfl rfl rfl fl_X9_54 rfl rfl (by show 12 < 18; decide) ((q, .inr (9, [.int 0, .int 0, .int 0, .int 0, .int 0, .int 0, .int 50, .int 0, .ref q1, .ref q3, .ref (u5 0), .ref (u6 0), .ref (u7 0), .null, .null, .null, .null, .int 0])) :: (encA u2 G hZ 0 layX2 ++ encA u4 G hZ 0 layX2 ++ encA u5 G hZ 0 (kII 5 :: List.replicate 5 (kI 3)) ++ encA u6 G hZ 0 (kII 7 :: List.replicate 7 (kI 5)) ++ encA u7 G hZ 0 (kII 9 :: List.replicate 9 (kI 3)) : va_W)) rfl dX9_init_96 (fun H locs hw => ?_)
  refine lv_aload_n hM.1 hM.2.1 dX9_init_99 rfl (lv_at hl 0 rfl) ?_
  refine lv_bipush (v := 6) hM.1 hM.2.1 dX9_init_100 (by decide) ?_
  refine n_newa hM hw (atype := .int) ac_I rfl 1 rfl 6 (a0 := (6, .inl (fun _ => 0))) (fun _ => rfl) (by decide) (by decide) (Nat.le_of_ble_eq_true rfl) (Nat.le_of_ble_eq_true rfl) (Nat.le_of_ble_eq_true rfl) dX9_init_102 (fun q8 H hw => ?_)
  have hw := wn_eq (W1 := Y ++ ((q, .inr (9, [.int 0, .int 0, .int 0, .int 0, .int 0, .int 0, .int 50, .int 0, .ref q1, .ref q3, .ref (u5 0), .ref (u6 0), .ref (u7 0), .null, .null, .null, .null, .int 0])) :: (encA u2 G hZ 0 layX2 ++ encA u4 G hZ 0 layX2 ++ encA u5 G hZ 0 (kII 5 :: List.replicate 5 (kI 3)) ++ encA u6 G hZ 0 (kII 7 :: List.replicate 7 (kI 5)) ++ encA u7 G hZ 0 (kII 9 :: List.replicate 9 (kI 3)) ++ [(q8, .inl (G.2.1, 6, .inl (fun _ => 0)))] : va_W))) (by simp only [List.append_assoc, List.cons_append, List.nil_append, List.append_nil]) hw
  refine n_putF hM hw hin2 0 rfl rfl fw_X9 (k := 13) tyX9_ok nmX9 (by decide) rfl rfl rfl fl_X9_57 rfl rfl (by show 13 < 18; decide) ((q, .inr (9, [.int 0, .int 0, .int 0, .int 0, .int 0, .int 0, .int 50, .int 0, .ref q1, .ref q3, .ref (u5 0), .ref (u6 0), .ref (u7 0), .ref q8, .null, .null, .null, .int 0])) :: (encA u2 G hZ 0 layX2 ++ encA u4 G hZ 0 layX2 ++ encA u5 G hZ 0 (kII 5 :: List.replicate 5 (kI 3)) ++ encA u6 G hZ 0 (kII 7 :: List.replicate 7 (kI 5)) ++ encA u7 G hZ 0 (kII 9 :: List.replicate 9 (kI 3)) ++ [(q8, .inl (G.2.1, 6, .inl (fun _ => 0)))] : va_W)) rfl dX9_init_104 (fun H locs hw => ?_)
  refine lv_aload_n hM.1 hM.2.1 dX9_init_107 rfl (lv_at hl 0 rfl) ?_
  refine lv_bipush (v := 27) hM.1 hM.2.1 dX9_init_108 (by decide) ?_
  refine n_newa hM hw (atype := .long) ac_J rfl 2 rfl 27 (a0 := (27, .inr (.inl (fun _ => 0)))) (fun _ => rfl) (by decide) (by decide) (Nat.le_of_ble_eq_true rfl) (Nat.le_of_ble_eq_true rfl) (Nat.le_of_ble_eq_true rfl) dX9_init_110 (fun q9 H hw => ?_)
  have hw := wn_eq (W1 := Y ++ ((q, .inr (9, [.int 0, .int 0, .int 0, .int 0, .int 0, .int 0, .int 50, .int 0, .ref q1, .ref q3, .ref (u5 0), .ref (u6 0), .ref (u7 0), .ref q8, .null, .null, .null, .int 0])) :: (encA u2 G hZ 0 layX2 ++ encA u4 G hZ 0 layX2 ++ encA u5 G hZ 0 (kII 5 :: List.replicate 5 (kI 3)) ++ encA u6 G hZ 0 (kII 7 :: List.replicate 7 (kI 5)) ++ encA u7 G hZ 0 (kII 9 :: List.replicate 9 (kI 3)) ++ [(q8, .inl (G.2.1, 6, .inl (fun _ => 0))), (q9, .inl (G.2.2.1, 27, .inr (.inl (fun _ => 0))))] : va_W))) (by simp only [List.append_assoc, List.cons_append, List.nil_append, List.append_nil]) hw
  refine n_putF hM hw hin2 0 rfl rfl fw_X9 (k := 14) tyX9_ok nmX9 (by decide) rfl rfl rfl fl_X9_61 rfl rfl (by show 14 < 18; decide) ((q, .inr (9, [.int 0, .int 0, .int 0, .int 0, .int 0, .int 0, .int 50, .int 0, .ref q1, .ref q3, .ref (u5 0), .ref (u6 0), .ref (u7 0), .ref q8, .ref q9, .null, .null, .int 0])) :: (encA u2 G hZ 0 layX2 ++ encA u4 G hZ 0 layX2 ++ encA u5 G hZ 0 (kII 5 :: List.replicate 5 (kI 3)) ++ encA u6 G hZ 0 (kII 7 :: List.replicate 7 (kI 5)) ++ encA u7 G hZ 0 (kII 9 :: List.replicate 9 (kI 3)) ++ [(q8, .inl (G.2.1, 6, .inl (fun _ => 0))), (q9, .inl (G.2.2.1, 27, .inr (.inl (fun _ => 0))))] : va_W)) rfl dX9_init_112 (fun H locs hw => ?_)
  refine lv_aload_n hM.1 hM.2.1 dX9_init_115 rfl (lv_at hl 0 rfl) ?_
  refine lv_bipush (v := 27) hM.1 hM.2.1 dX9_init_116 (by decide) ?_
  refine n_newa hM hw (atype := .int) ac_I rfl 1 rfl 27 (a0 := (27, .inl (fun _ => 0))) (fun _ => rfl) (by decide) (by decide) (Nat.le_of_ble_eq_true rfl) (Nat.le_of_ble_eq_true rfl) (Nat.le_of_ble_eq_true rfl) dX9_init_118 (fun q10 H hw => ?_)
  have hw := wn_eq (W1 := Y ++ ((q, .inr (9, [.int 0, .int 0, .int 0, .int 0, .int 0, .int 0, .int 50, .int 0, .ref q1, .ref q3, .ref (u5 0), .ref (u6 0), .ref (u7 0), .ref q8, .ref q9, .null, .null, .int 0])) :: (encA u2 G hZ 0 layX2 ++ encA u4 G hZ 0 layX2 ++ encA u5 G hZ 0 (kII 5 :: List.replicate 5 (kI 3)) ++ encA u6 G hZ 0 (kII 7 :: List.replicate 7 (kI 5)) ++ encA u7 G hZ 0 (kII 9 :: List.replicate 9 (kI 3)) ++ [(q8, .inl (G.2.1, 6, .inl (fun _ => 0))), (q9, .inl (G.2.2.1, 27, .inr (.inl (fun _ => 0)))), (q10, .inl (G.2.1, 27, .inl (fun _ => 0)))] : va_W))) (by simp only [List.append_assoc, List.cons_append, List.nil_append, List.append_nil]) hw
  refine n_putF hM hw hin2 0 rfl rfl fw_X9 (k := 15) tyX9_ok nmX9 (by decide) rfl rfl rfl fl_X9_65 rfl rfl (by show 15 < 18; decide) ((q, .inr (9, [.int 0, .int 0, .int 0, .int 0, .int 0, .int 0, .int 50, .int 0, .ref q1, .ref q3, .ref (u5 0), .ref (u6 0), .ref (u7 0), .ref q8, .ref q9, .ref q10, .null, .int 0])) :: (encA u2 G hZ 0 layX2 ++ encA u4 G hZ 0 layX2 ++ encA u5 G hZ 0 (kII 5 :: List.replicate 5 (kI 3)) ++ encA u6 G hZ 0 (kII 7 :: List.replicate 7 (kI 5)) ++ encA u7 G hZ 0 (kII 9 :: List.replicate 9 (kI 3)) ++ [(q8, .inl (G.2.1, 6, .inl (fun _ => 0))), (q9, .inl (G.2.2.1, 27, .inr (.inl (fun _ => 0)))), (q10, .inl (G.2.1, 27, .inl (fun _ => 0)))] : va_W)) rfl dX9_init_120 (fun H locs hw => ?_)
  refine lv_aload_n hM.1 hM.2.1 dX9_init_123 rfl (lv_at hl 0 rfl) ?_
  refine lv_bipush (v := 27) hM.1 hM.2.1 dX9_init_124 (by decide) ?_
  refine n_newa hM hw (atype := .int) ac_I rfl 1 rfl 27 (a0 := (27, .inl (fun _ => 0))) (fun _ => rfl) (by decide) (by decide) (Nat.le_of_ble_eq_true rfl) (Nat.le_of_ble_eq_true rfl) (Nat.le_of_ble_eq_true rfl) dX9_init_126 (fun q11 H hw => ?_)
  have hw := wn_eq (W1 := Y ++ ((q, .inr (9, [.int 0, .int 0, .int 0, .int 0, .int 0, .int 0, .int 50, .int 0, .ref q1, .ref q3, .ref (u5 0), .ref (u6 0), .ref (u7 0), .ref q8, .ref q9, .ref q10, .null, .int 0])) :: (encA u2 G hZ 0 layX2 ++ encA u4 G hZ 0 layX2 ++ encA u5 G hZ 0 (kII 5 :: List.replicate 5 (kI 3)) ++ encA u6 G hZ 0 (kII 7 :: List.replicate 7 (kI 5)) ++ encA u7 G hZ 0 (kII 9 :: List.replicate 9 (kI 3)) ++ [(q8, .inl (G.2.1, 6, .inl (fun _ => 0))), (q9, .inl (G.2.2.1, 27, .inr (.inl (fun _ => 0)))), (q10, .inl (G.2.1, 27, .inl (fun _ => 0))), (q11, .inl (G.2.1, 27, .inl (fun _ => 0)))] : va_W))) (by simp only [List.append_assoc, List.cons_append, List.nil_append, List.append_nil]) hw
  refine n_putF hM hw hin2 0 rfl rfl fw_X9 (k := 16) tyX9_ok nmX9 (by decide) rfl rfl rfl fl_X9_68 rfl rfl (by show 16 < 18; decide) ((q, .inr (9, [.int 0, .int 0, .int 0, .int 0, .int 0, .int 0, .int 50, .int 0, .ref q1, .ref q3, .ref (u5 0), .ref (u6 0), .ref (u7 0), .ref q8, .ref q9, .ref q10, .ref q11, .int 0])) :: (encA u2 G hZ 0 layX2 ++ encA u4 G hZ 0 layX2 ++ encA u5 G hZ 0 (kII 5 :: List.replicate 5 (kI 3)) ++ encA u6 G hZ 0 (kII 7 :: List.replicate 7 (kI 5)) ++ encA u7 G hZ 0 (kII 9 :: List.replicate 9 (kI 3)) ++ [(q8, .inl (G.2.1, 6, .inl (fun _ => 0))), (q9, .inl (G.2.2.1, 27, .inr (.inl (fun _ => 0)))), (q10, .inl (G.2.1, 27, .inl (fun _ => 0))), (q11, .inl (G.2.1, 27, .inl (fun _ => 0)))] : va_W)) rfl dX9_init_128 (fun H locs hw => ?_)
  refine lv_aload_n hM.1 hM.2.1 dX9_init_131 rfl (lv_at hl 0 rfl) ?_
  refine lv_iconst (v := 0) hM.1 hM.2.1 dX9_init_132 ic_0 ?_
  refine n_put hM hw 0 rfl rfl fw_X9 (k := 17) tyX9_ok nmX9 (by decide) rfl rfl fl_X9_71 rfl rfl (by show 17 < 18; decide) ((q, .inr (9, [.int 0, .int 0, .int 0, .int 0, .int 0, .int 0, .int 50, .int 0, .ref q1, .ref q3, .ref (u5 0), .ref (u6 0), .ref (u7 0), .ref q8, .ref q9, .ref q10, .ref q11, .int 0])) :: (encA u2 G hZ 0 layX2 ++ encA u4 G hZ 0 layX2 ++ encA u5 G hZ 0 (kII 5 :: List.replicate 5 (kI 3)) ++ encA u6 G hZ 0 (kII 7 :: List.replicate 7 (kI 5)) ++ encA u7 G hZ 0 (kII 9 :: List.replicate 9 (kI 3)) ++ [(q8, .inl (G.2.1, 6, .inl (fun _ => 0))), (q9, .inl (G.2.2.1, 27, .inr (.inl (fun _ => 0)))), (q10, .inl (G.2.1, 27, .inl (fun _ => 0))), (q11, .inl (G.2.1, 27, .inl (fun _ => 0)))] : va_W)) rfl dX9_init_133 (fun H locs hw => ?_)
  obtain ⟨u, hu⟩ : ∃ u : Nat → Nat, u = fun i => [q, u2 0, u2 1, u2 2, u4 0, u4 1, u4 2, u5 0, u5 1, u5 2, u5 3, u5 4, u5 5, u6 0, u6 1, u6 2, u6 3, u6 4, u6 5, u6 6, u6 7, u7 0, u7 1, u7 2, u7 3, u7 4, u7 5, u7 6, u7 7, u7 8, u7 9, q8, q9, q10, q11].getD i 0 := ⟨_, rfl⟩
  have e0 : encA u G h0X9 1 layX2 = encA u2 G hZ 0 layX2 := encA_same (n := 3) _ (locL_X2 (by omega)) (by decide) (fun x hx => by rw [hu]; exact (match x, hx with | 0, _ => rfl | 1, _ => rfl | 2, _ => rfl | x + 3, h => absurd h (by omega))) (fun x _ => ⟨(setI_other _ (by omega)).1, rfl, rfl⟩)
  have e1 : encA u G h0X9 4 layX2 = encA u4 G hZ 0 layX2 := encA_same (n := 3) _ (locL_X2 (by omega)) (by decide) (fun x hx => by rw [hu]; exact (match x, hx with | 0, _ => rfl | 1, _ => rfl | 2, _ => rfl | x + 3, h => absurd h (by omega))) (fun x _ => ⟨(setI_other _ (by omega)).1, rfl, rfl⟩)
  have e2 : encA u G h0X9 7 (kII 5 :: List.replicate 5 (kI 3)) = encA u5 G hZ 0 (kII 5 :: List.replicate 5 (kI 3)) := encA_same (n := 6) _ (locL_II (by omega)) (by decide) (fun x hx => by rw [hu]; exact (match x, hx with | 0, _ => rfl | 1, _ => rfl | 2, _ => rfl | 3, _ => rfl | 4, _ => rfl | 5, _ => rfl | x + 6, h => absurd h (by omega))) (fun x _ => ⟨(setI_other _ (by omega)).1, rfl, rfl⟩)
  have e3 : encA u G h0X9 13 (kII 7 :: List.replicate 7 (kI 5)) = encA u6 G hZ 0 (kII 7 :: List.replicate 7 (kI 5)) := encA_same (n := 8) _ (locL_II (by omega)) (by decide) (fun x hx => by rw [hu]; exact (match x, hx with | 0, _ => rfl | 1, _ => rfl | 2, _ => rfl | 3, _ => rfl | 4, _ => rfl | 5, _ => rfl | 6, _ => rfl | 7, _ => rfl | x + 8, h => absurd h (by omega))) (fun x _ => ⟨(setI_other _ (by omega)).1, rfl, rfl⟩)
  have e4 : encA u G h0X9 21 (kII 9 :: List.replicate 9 (kI 3)) = encA u7 G hZ 0 (kII 9 :: List.replicate 9 (kI 3)) := encA_same (n := 10) _ (locL_II (by omega)) (by decide) (fun x hx => by rw [hu]; exact (match x, hx with | 0, _ => rfl | 1, _ => rfl | 2, _ => rfl | 3, _ => rfl | 4, _ => rfl | 5, _ => rfl | 6, _ => rfl | 7, _ => rfl | 8, _ => rfl | 9, _ => rfl | x + 10, h => absurd h (by omega))) (fun x _ => ⟨(setI_other _ (by omega)).1, rfl, rfl⟩)
  have e9 : ((q, .inr (9, [.int 0, .int 0, .int 0, .int 0, .int 0, .int 0, .int 50, .int 0, .ref q1, .ref q3, .ref (u5 0), .ref (u6 0), .ref (u7 0), .ref q8, .ref q9, .ref q10, .ref q11, .int 0])) :: (encA u2 G hZ 0 layX2 ++ encA u4 G hZ 0 layX2 ++ encA u5 G hZ 0 (kII 5 :: List.replicate 5 (kI 3)) ++ encA u6 G hZ 0 (kII 7 :: List.replicate 7 (kI 5)) ++ encA u7 G hZ 0 (kII 9 :: List.replicate 9 (kI 3)) ++ [(q8, .inl (G.2.1, 6, .inl (fun _ => 0))), (q9, .inl (G.2.2.1, 27, .inr (.inl (fun _ => 0)))), (q10, .inl (G.2.1, 27, .inl (fun _ => 0))), (q11, .inl (G.2.1, 27, .inl (fun _ => 0)))] : va_W)) = encA u G h0X9 0 layX9 := by
    show _ = encA u G h0X9 0 [kX9] ++ (encA u G h0X9 1 layX2 ++ (encA u G h0X9 4 layX2 ++ (encA u G h0X9 7 (kII 5 :: List.replicate 5 (kI 3)) ++ (encA u G h0X9 13 (kII 7 :: List.replicate 7 (kI 5)) ++ (encA u G h0X9 21 (kII 9 :: List.replicate 9 (kI 3)) ++ encA u G h0X9 31 [kI 6, kJ 27, kI 27, kI 27])))))
    rw [e0, e1, e2, e3, e4]
    subst hu
    rw [← hu2, ← hu4]
    simp only [List.append_assoc]
    rfl
  have hw := wn_wd (wn_eq (by rw [e9]) hw)
  have hq0 : u 0 = q := by rw [hu]; rfl
  rw [← hq0] at hl
  refine lv_aload_n hM.1 hM.2.1 dX9_init_136 rfl (lv_at hl 0 rfl) ?_
  refine y_callVV (rest := []) hM hw (ct_X9_clear l ok_layX9) [] (okX9.o ok_layX9) rfl rfl rfl (gi_V ml_X9_74 im_X9_clear sl_X9_clear in_X9 kc_X9_clear) hd_X9_clear rfl ⟨Nat.le_of_ble_eq_true rfl, Nat.le_of_ble_eq_true rfl⟩ rfl (Nat.le_of_ble_eq_true rfl) hl.1 hX9_ok ⟨Nat.le_of_ble_eq_true rfl, Nat.le_of_ble_eq_true rfl⟩ dX9_init_137 (fun H locs hw => ?_)
  have hw := wd_wn hw
  exact W.vret B.exec B.bytes B.returns (fun t ht hW => ⟨⟨u, rfl, hq0, by rw [ht]; exact hw.2.1, va_K.moved hW.alike hw.1, hw.2.2.1⟩, hw.2.2.2.1.F ht⟩) (fun q hq => hw.2.2.2.1.2.2 q hq) dX9_init_140 (hlocks := B.notSynchronized)
