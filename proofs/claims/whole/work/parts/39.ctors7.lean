section XK2
variable {cells slots : Nat}
variable {p : Program} {l : Launch} {e : Env} {R : Room} {s : State} {m : MethodId} {args : Array Value} {below : List Frame} {meth : Method} {c : Code} {H : Heap} {locs : List Loc} {Q : State → Prop}
variable {cc : ByteArray} {nL pc : Nat} {own : String} {ls : Array Slot} {rest : List Value} {D : va_G} {G : GG} {A : Nat → Prop} {H0 : Heap} {Y L : va_W}
theorem n_ctor2 (hM : CallFix p m c cc nL s args lw_g own) (hSF : SF s) {b0 kS vS : Nat} (hb0 : b0 ≤ s.heap.size) (hAb : ∀ x, A x → b0 ≤ x) (hSE : SE kS vS (fun q => b0 ≤ q) s s.heap) (hVR : vk_R RX10 25 "man excuse duty knows test passes wears rain coins seed once if then else day strong wear trust kind ago wet hours heard " kS s) {y : MethodName} {b : ByteArray} {n' fr lo mc ms ci idx q : Nat} {fs0 : List Value} {lay : List KK} {hX : PH} (hC : CtN2 l y b n' fr lo mc ms ci fs0 lay hX) (hw : Wn D G A s.heap (Y ++ (L ++ [(q, .inr (ci, fs0))])) s H locs) (hini : Cond.initialized y.cls ∈ lw_g) (hlink : Cond.methodLink own idx y ∈ lw_g) (him : Cond.instanceMethod y ∈ lw_g) (hk : Cond.code y b n' none ∈ lw_g) (hy1 : y.name = "<init>") (hd : y.cls ≠ "java/lang/invoke/MethodHandle" ∧ y.cls ≠ "java/lang/invoke/VarHandle" ∧ (parseMethodDescriptor y.desc).map (fun d => d.parameters.length) = some 0) (hR : fr + 1 ≤ R.frames ∧ 8 + (n' + 11) + lo ≤ R.locals) (hroom : (rest.map fun v => v.category).sum ≤ 8) (hl : ls.size = nL) (hcs : cells + mc ≤ R.cells ∧ slots + ms ≤ R.slots) (hdg : decode cc pc = .ok (.invokespecial idx, 3)) (kk : ∀ (u : Nat → Nat) (H1 : Heap) (locs1 : List Loc), u 0 = q → Wn D G A s.heap (Y ++ (L ++ encA u G hX 0 lay)) s H1 locs1 → W p l e R s m args below meth c H1 locs1 (cells + mc) (slots + ms) Q (F0 m (pc + 3) ls rest)) : W p l e R s m args below meth c H locs cells slots Q (F0 m pc ls (.ref q :: rest)) := by
  have hw' : Wn D G A s.heap ((Y ++ L) ++ [(q, .inr (ci, fs0))]) s H locs := by rw [List.append_assoc]; exact hw
  have hpre : ∀ U : State, U.heap = H → s.WarmedH U.vm → va_Pc [.ref q] (Pn2 D G b0 kS vS ((Y ++ L) ++ [(q, .inr (ci, fs0))]) H.size) ([Value.ref q] : List Value).toArray U := fun U hU hW => ⟨rfl, ⟨by rw [hU], by rw [hU]; exact hw'.2.1, va_K.moved hW.alike hw'.1, hw'.2.2.1.weaken (fun _ _ _ _ => trivial), sf_warm hW hSF⟩, Nat.le_trans hb0 hw'.2.2.2.1.1, fun k x hx => hAb _ (hw'.2.2.1.2 k x hx), by
      rw [hU]
      exact SE.moved hW.alike (hSE.kept (fun a ha hn => hw'.2.2.2.1.2.1 a ha (fun h => hn (hAb a h)))), vk_R.warm hW hVR⟩
  refine va_callv (va_runI (As := []) (rest := rest) hM (hC D G b0 kS vS (Y ++ L) q H.size) (cwI 0 hM.2.2.2.2 (gi_c hk gi_g) rfl rfl rfl (hM.2.2.2.2 _ hini) (hM.2.2.2.2 _ hlink) (hM.2.2.2.2 _ him) hy1 hd hR) ⟨pn2_blind, hpre⟩ rfl rfl hl rfl (lv_room hroom) hdg hcs) hw'.2.2.2.1 (fun q _ hq => wn_free hw' q hq) (wn_free hw') (fun u t1 H1 locs1 ht hvm hq hB hz1 hk1 hS => ?_)
  obtain ⟨hP1, hK1, hD1⟩ := hB
  rw [ht] at hP1
  have hD2 : va_D A ((Y ++ L) ++ encA u G hX 0 lay) := hD1.weaken (fun k q _ hq => wn_free hw' q.1 hq)
  rw [List.append_assoc] at hP1 hD2
  exact kk u H1 locs1 hq ⟨va_K.moved hvm.symm hK1, hP1, hD2, hS, hw.2.2.2.2⟩
theorem n_ctorN2 {host : String} (hM : CallFix p m c cc nL s args lw_g own) (hSF : SF s) {b0 kS vS : Nat} (hb0 : b0 ≤ s.heap.size) (hAb : ∀ x, A x → b0 ≤ x) (hSE : SE kS vS (fun q => b0 ≤ q) s s.heap) (hVR : vk_R RX10 25 "man excuse duty knows test passes wears rain coins seed once if then else day strong wear trust kind ago wet hours heard " kS s) {y : MethodName} {b : ByteArray} {n' fr lo mc ms ci idx q : Nat} {fs0 : List Value} {lay : List KK} {hX : PH} (hC : CtN2 l y b n' fr lo mc ms ci fs0 lay hX) (hw : Wn D G A s.heap (Y ++ (L ++ [(q, .inr (ci, fs0))])) s H locs) (hini : Cond.initialized y.cls ∈ lw_g) (hlink : Cond.methodLinkNest own idx y host ∈ sf_words) (him : Cond.instanceMethod y ∈ lw_g) (hk : Cond.code y b n' none ∈ lw_g) (hy1 : y.name = "<init>") (hd : y.cls ≠ "java/lang/invoke/MethodHandle" ∧ y.cls ≠ "java/lang/invoke/VarHandle" ∧ (parseMethodDescriptor y.desc).map (fun d => d.parameters.length) = some 0) (hR : fr + 1 ≤ R.frames ∧ 8 + (n' + 11) + lo ≤ R.locals) (hroom : (rest.map fun v => v.category).sum ≤ 8) (hl : ls.size = nL) (hcs : cells + mc ≤ R.cells ∧ slots + ms ≤ R.slots) (hdg : decode cc pc = .ok (.invokespecial idx, 3)) (kk : ∀ (u : Nat → Nat) (H1 : Heap) (locs1 : List Loc), u 0 = q → Wn D G A s.heap (Y ++ (L ++ encA u G hX 0 lay)) s H1 locs1 → W p l e R s m args below meth c H1 locs1 (cells + mc) (slots + ms) Q (F0 m (pc + 3) ls rest)) : W p l e R s m args below meth c H locs cells slots Q (F0 m pc ls (.ref q :: rest)) := by
  have hw' : Wn D G A s.heap ((Y ++ L) ++ [(q, .inr (ci, fs0))]) s H locs := by rw [List.append_assoc]; exact hw
  have hpre : ∀ U : State, U.heap = H → s.WarmedH U.vm → va_Pc [.ref q] (Pn2 D G b0 kS vS ((Y ++ L) ++ [(q, .inr (ci, fs0))]) H.size) ([Value.ref q] : List Value).toArray U := fun U hU hW => ⟨rfl, ⟨by rw [hU], by rw [hU]; exact hw'.2.1, va_K.moved hW.alike hw'.1, hw'.2.2.1.weaken (fun _ _ _ _ => trivial), sf_warm hW hSF⟩, Nat.le_trans hb0 hw'.2.2.2.1.1, fun k x hx => hAb _ (hw'.2.2.1.2 k x hx), by
      rw [hU]
      exact SE.moved hW.alike (hSE.kept (fun a ha hn => hw'.2.2.2.1.2.1 a ha (fun h => hn (hAb a h)))), vk_R.warm hW hVR⟩
  refine va_callv (va_runIN (As := []) (rest := rest) hM (hC D G b0 kS vS (Y ++ L) q H.size) ⟨va_cnB 0 hM.2.2.2.2 (gi_c hk gi_g) rfl rfl rfl (hSF.1 _ hlink) (hM.2.2.2.2 _ hini) hd hR, hy1, hM.2.2.2.2 _ him⟩ ⟨pn2_blind, hpre⟩ rfl rfl hl rfl (lv_room hroom) hdg hcs) hw'.2.2.2.1 (fun q _ hq => wn_free hw' q hq) (wn_free hw') (fun u t1 H1 locs1 ht hvm hq hB hz1 hk1 hS => ?_)
  obtain ⟨hP1, hK1, hD1⟩ := hB
  rw [ht] at hP1
  have hD2 : va_D A ((Y ++ L) ++ encA u G hX 0 lay) := hD1.weaken (fun k q _ hq => wn_free hw' q.1 hq)
  rw [List.append_assoc] at hP1 hD2
  exact kk u H1 locs1 hq ⟨va_K.moved hvm.symm hK1, hP1, hD2, hS, hw.2.2.2.2⟩
end XK2
theorem locL_X10 {n : Nat} (h : 4 < n) : LocL n 0 layX10 := ⟨loc_X10 (by omega), loc_I, loc_I, loc_J, loc_J, trivial⟩
theorem locL_X9 {n : Nat} (h : 34 < n) : LocL n 0 layX9 := ⟨loc_X9 (by omega), loc_X2 (by omega), loc_I, loc_I, loc_X2 (by omega), loc_I, loc_I, loc_II (by omega), loc_I, loc_I, loc_I, loc_I, loc_I, loc_II (by omega), loc_I, loc_I, loc_I, loc_I, loc_I, loc_I, loc_I, loc_II (by omega), loc_I, loc_I, loc_I, loc_I, loc_I, loc_I, loc_I, loc_I, loc_I, loc_I, loc_J, loc_I, loc_I, trivial⟩
theorem dX4_init_0 : decode cX4_init 0 = .ok (.aload_n 0, 1) := by decide +kernel
theorem dX4_init_1 : decode cX4_init 1 = .ok (.invokespecial 3, 3) := by decide +kernel
theorem dX4_init_4 : decode cX4_init 4 = .ok (.aload_n 0, 1) := by decide +kernel
theorem dX4_init_5 : decode cX4_init 5 = .ok (.new 9, 3) := by decide +kernel
theorem dX4_init_8 : decode cX4_init 8 = .ok (.dup, 1) := by decide +kernel
theorem dX4_init_9 : decode cX4_init 9 = .ok (.invokespecial 11, 3) := by decide +kernel
theorem dX4_init_12 : decode cX4_init 12 = .ok (.putfield 12, 3) := by decide +kernel
theorem dX4_init_15 : decode cX4_init 15 = .ok (.aload_n 0, 1) := by decide +kernel
theorem dX4_init_16 : decode cX4_init 16 = .ok (.new 18, 3) := by decide +kernel
theorem dX4_init_19 : decode cX4_init 19 = .ok (.dup, 1) := by decide +kernel
theorem dX4_init_20 : decode cX4_init 20 = .ok (.invokespecial 20, 3) := by decide +kernel
theorem dX4_init_23 : decode cX4_init 23 = .ok (.putfield 21, 3) := by decide +kernel
theorem dX4_init_26 : decode cX4_init 26 = .ok (.aload_n 0, 1) := by decide +kernel
theorem dX4_init_27 : decode cX4_init 27 = .ok (.iconst 0, 1) := by decide +kernel
theorem dX4_init_28 : decode cX4_init 28 = .ok (.putfield 25, 3) := by decide +kernel
theorem dX4_init_31 : decode cX4_init 31 = .ok (.aload_n 0, 1) := by decide +kernel
theorem dX4_init_32 : decode cX4_init 32 = .ok (.iconst 0, 1) := by decide +kernel
theorem dX4_init_33 : decode cX4_init 33 = .ok (.putfield 29, 3) := by decide +kernel
theorem dX4_init_36 : decode cX4_init 36 = .ok (.aload_n 0, 1) := by decide +kernel
theorem dX4_init_37 : decode cX4_init 37 = .ok (.iconst (-1), 1) := by decide +kernel
theorem dX4_init_38 : decode cX4_init 38 = .ok (.putfield 32, 3) := by decide +kernel
theorem dX4_init_41 : decode cX4_init 41 = .ok (.aload_n 0, 1) := by decide +kernel
theorem dX4_init_42 : decode cX4_init 42 = .ok (.iconst 0, 1) := by decide +kernel
theorem dX4_init_43 : decode cX4_init 43 = .ok (.putfield 35, 3) := by decide +kernel
theorem dX4_init_46 : decode cX4_init 46 = .ok (.aload_n 0, 1) := by decide +kernel
theorem dX4_init_47 : decode cX4_init 47 = .ok (.iconst (-1), 1) := by decide +kernel
theorem dX4_init_48 : decode cX4_init 48 = .ok (.putfield 38, 3) := by decide +kernel
theorem dX4_init_51 : decode cX4_init 51 = .ok (.return_, 1) := by decide +kernel
abbrev layX4 : List KK := [kX4] ++ (layX10 ++ layX9)
def hX4 : PH := (fun p j => if p = 0 then (if j = 4 then -1 else if j = 6 then -1 else 0) else if p < 6 then hX10.1 (p - 1) j else hX9.1 (p - 6) j, fun p j => if p < 6 then hX10.2.1 (p - 1) j else hX9.2.1 (p - 6) j, fun p j => if p = 0 then 6 else if p < 6 then hX10.2.2 (p - 1) j else hX9.2.2 (p - 6) j)
set_option maxHeartbeats 4000000 in
set_option maxRecDepth 100000 in
theorem ctn_X4 (l : Launch) : CtN2 l yX4_init cX4_init 1 5 180 40 2295 4 [.null, .null, .int 0, .int 0, .int 0, .int 0, .int 0] layX4 hX4 := by
  intro D G b0 kS vS Y q sz
  refine Met.ofW (cc := cX4_init) (maxL := 1) (ret := none) (by decide) rfl ?_
  intro p e s m args below meth c s₁ B hml hv
  obtain ⟨rfl, ⟨hsz, hP, hK, hD0, hSF⟩, hb0, hYb, hSE0, hVR⟩ := hv
  subst hsz
  have hts : ∀ w ∈ (Cond.code yX4_init cX4_init 1 none :: lw_g), w.before ([Value.ref q] : List Value).toArray s = true := atoms_spec (ws := Cond.code yX4_init cX4_init 1 none :: lw_g) B.pre
  have hown : s.vm.findClass RX4 = some m.cls := findClass_of_methodNamed B.named
  have hM : CallFix p m c cX4_init 1 s ([Value.ref q] : List Value).toArray lw_g RX4 := ⟨B.exec, B.bytes, hml, hown, fun w hw => hts w (List.mem_cons_of_mem _ hw)⟩
  have hin2 : meth.name = "<init>" := (name_of_methodNamed B.named B.method).1
  have hD := hD0.self (sz := s.heap.size)
  have hA : ∀ x : Nat, s.heap.size ≤ x → va_A (Y ++ [(q, .inr (4, [.null, .null, .int 0, .int 0, .int 0, .int 0, .int 0]))]) s.heap.size x := fun x h => Or.inr h
  have hAb : ∀ x : Nat, va_A (Y ++ [(q, .inr (4, [.null, .null, .int 0, .int 0, .int 0, .int 0, .int 0]))]) s.heap.size x → b0 ≤ x := fun x h => by
    rcases h with ⟨k, e, hk⟩ | h
    · exact hYb k (x, e) hk
    · omega
  generalize va_A (Y ++ [(q, .inr (4, [.null, .null, .int 0, .int 0, .int 0, .int 0, .int 0]))]) s.heap.size = A at hD hA hAb ⊢
  have hw : Wn D G A s.heap (Y ++ [(q, .inr (4, [.null, .null, .int 0, .int 0, .int 0, .int 0, .int 0]))]) s s.heap [] := ⟨hK, hP, hD, va_S.rf, hA⟩
  have hl := lv_entry ([.ref q]) (n := 1) (Nat.le_of_ble_eq_true rfl)
  rw [lg_entry_eq]
  generalize (lg_sl ([.ref q]) ++ List.replicate (1 - (lg_sl ([.ref q])).length) Slot.unset).toArray = ls at hl ⊢
  have hl : lv_has ls 1 [(0, .ref q)] := hl
  refine lv_aload_n hM.1 hM.2.1 dX4_init_0 rfl (lv_at hl 0 rfl) ?_
  refine n_obj hM hl.1 ml_X4_3 dX4_init_1 (Nat.le_of_ble_eq_true rfl) (Nat.le_of_ble_eq_true rfl) ?_
  refine lv_aload_n hM.1 hM.2.1 dX4_init_4 rfl (lv_at hl 0 rfl) ?_
  refine n_new (ci := 10) hM hw fw_X10 tyX10_ok cl_X4_9 it_X10 in_X10 rfl [.null, .null, .null, .null] (fun j hj => match j, hj with | 0, _ => rfl | 1, _ => rfl | 2, _ => rfl | 3, _ => rfl | j + 4, h => absurd h (by omega)) (Nat.le_of_ble_eq_true rfl) (Nat.le_of_ble_eq_true rfl) dX4_init_5 (fun q1 H hw => ?_)
  have hw := wn_eq (W1 := Y ++ ((q, .inr (4, [.null, .null, .int 0, .int 0, .int 0, .int 0, .int 0])) :: ([(q1, .inr (10, [.null, .null, .null, .null]))] : va_W))) (by simp only [List.append_assoc, List.cons_append, List.nil_append, List.append_nil]) hw
  refine lv_dup hM.1 hM.2.1 dX4_init_8 rfl ?_
  refine n_ctor2 (Y := Y) (L := ((q, .inr (4, [.null, .null, .int 0, .int 0, .int 0, .int 0, .int 0])) :: ([] : va_W))) (rest := [.ref q1, .ref q]) hM hSF hb0 hAb hSE0 hVR (ctn_X10 l) (wn_eq (by simp only [List.append_assoc, List.cons_append, List.nil_append, List.append_nil]) hw) in_X10 ml_X4_11 im_X10_init kc_X10_init rfl ⟨by decide, by decide, by decide +kernel⟩ ⟨Nat.le_of_ble_eq_true rfl, Nat.le_of_ble_eq_true rfl⟩ (Nat.le_of_ble_eq_true rfl) hl.1 ⟨Nat.le_of_ble_eq_true rfl, Nat.le_of_ble_eq_true rfl⟩ dX4_init_9 (fun u2 H locs hu2 hw => ?_)
  have hw := wn_eq (W1 := Y ++ ((q, .inr (4, [.null, .null, .int 0, .int 0, .int 0, .int 0, .int 0])) :: (encA u2 G hX10 0 layX10 : va_W))) (by simp only [List.append_assoc, List.cons_append, List.nil_append, List.append_nil]) hw
  refine n_putF hM hw hin2 0 rfl rfl fw_X4 (k := 0) tyX4_ok nmX4 (by decide) rfl rfl rfl fl_X4_12 rfl rfl (by show 0 < 7; decide) ((q, .inr (4, [.ref q1, .null, .int 0, .int 0, .int 0, .int 0, .int 0])) :: (encA u2 G hX10 0 layX10 : va_W)) rfl dX4_init_12 (fun H locs hw => ?_)
  refine lv_aload_n hM.1 hM.2.1 dX4_init_15 rfl (lv_at hl 0 rfl) ?_
  refine n_new (ci := 9) hM hw fw_X9 tyX9_ok cl_X4_18 it_X9 in_X9 rfl [.int 0, .int 0, .int 0, .int 0, .int 0, .int 0, .int 0, .int 0, .null, .null, .null, .null, .null, .null, .null, .null, .null, .int 0] (fun j hj => match j, hj with | 0, _ => rfl | 1, _ => rfl | 2, _ => rfl | 3, _ => rfl | 4, _ => rfl | 5, _ => rfl | 6, _ => rfl | 7, _ => rfl | 8, _ => rfl | 9, _ => rfl | 10, _ => rfl | 11, _ => rfl | 12, _ => rfl | 13, _ => rfl | 14, _ => rfl | 15, _ => rfl | 16, _ => rfl | 17, _ => rfl | j + 18, h => absurd h (by omega)) (Nat.le_of_ble_eq_true rfl) (Nat.le_of_ble_eq_true rfl) dX4_init_16 (fun q3 H hw => ?_)
  have hw := wn_eq (W1 := Y ++ ((q, .inr (4, [.ref q1, .null, .int 0, .int 0, .int 0, .int 0, .int 0])) :: (encA u2 G hX10 0 layX10 ++ [(q3, .inr (9, [.int 0, .int 0, .int 0, .int 0, .int 0, .int 0, .int 0, .int 0, .null, .null, .null, .null, .null, .null, .null, .null, .null, .int 0]))] : va_W))) (by simp only [List.append_assoc, List.cons_append, List.nil_append, List.append_nil]) hw
  refine lv_dup hM.1 hM.2.1 dX4_init_19 rfl ?_
  refine n_ctor (Y := Y) (L := ((q, .inr (4, [.ref q1, .null, .int 0, .int 0, .int 0, .int 0, .int 0])) :: (encA u2 G hX10 0 layX10 : va_W))) (rest := [.ref q3, .ref q]) hM hSF (ctn_X9 l) (wn_eq (by simp only [List.append_assoc, List.cons_append, List.nil_append, List.append_nil]) hw) in_X9 ml_X4_20 im_X9_init kc_X9_init rfl ⟨by decide, by decide, by decide +kernel⟩ ⟨Nat.le_of_ble_eq_true rfl, Nat.le_of_ble_eq_true rfl⟩ (Nat.le_of_ble_eq_true rfl) hl.1 ⟨Nat.le_of_ble_eq_true rfl, Nat.le_of_ble_eq_true rfl⟩ dX4_init_20 (fun u4 H locs hu4 hw => ?_)
  have hw := wn_eq (W1 := Y ++ ((q, .inr (4, [.ref q1, .null, .int 0, .int 0, .int 0, .int 0, .int 0])) :: (encA u2 G hX10 0 layX10 ++ encA u4 G hX9 0 layX9 : va_W))) (by simp only [List.append_assoc, List.cons_append, List.nil_append, List.append_nil]) hw
  refine n_put hM hw 0 rfl rfl fw_X4 (k := 1) tyX4_ok nmX4 (by decide) rfl rfl fl_X4_21 rfl rfl (by show 1 < 7; decide) ((q, .inr (4, [.ref q1, .ref q3, .int 0, .int 0, .int 0, .int 0, .int 0])) :: (encA u2 G hX10 0 layX10 ++ encA u4 G hX9 0 layX9 : va_W)) rfl dX4_init_23 (fun H locs hw => ?_)
  refine lv_aload_n hM.1 hM.2.1 dX4_init_26 rfl (lv_at hl 0 rfl) ?_
  refine lv_iconst (v := 0) hM.1 hM.2.1 dX4_init_27 ic_0 ?_
  refine n_put hM hw 0 rfl rfl fw_X4 (k := 2) tyX4_ok nmX4 (by decide) rfl rfl fl_X4_25 rfl rfl (by show 2 < 7; decide) ((q, .inr (4, [.ref q1, .ref q3, .int 0, .int 0, .int 0, .int 0, .int 0])) :: (encA u2 G hX10 0 layX10 ++ encA u4 G hX9 0 layX9 : va_W)) rfl dX4_init_28 (fun H locs hw => ?_)
  refine lv_aload_n hM.1 hM.2.1 dX4_init_31 rfl (lv_at hl 0 rfl) ?_
  refine lv_iconst (v := 0) hM.1 hM.2.1 dX4_init_32 ic_0 ?_
  refine n_put hM hw 0 rfl rfl fw_X4 (k := 3) tyX4_ok nmX4 (by decide) rfl rfl fl_X4_29 rfl rfl (by show 3 < 7; decide) ((q, .inr (4, [.ref q1, .ref q3, .int 0, .int 0, .int 0, .int 0, .int 0])) :: (encA u2 G hX10 0 layX10 ++ encA u4 G hX9 0 layX9 : va_W)) rfl dX4_init_33 (fun H locs hw => ?_)
  refine lv_aload_n hM.1 hM.2.1 dX4_init_36 rfl (lv_at hl 0 rfl) ?_
  refine lv_iconst (v := (-1)) hM.1 hM.2.1 dX4_init_37 ic_m1 ?_
  refine n_put hM hw 0 rfl rfl fw_X4 (k := 4) tyX4_ok nmX4 (by decide) rfl rfl fl_X4_32 rfl rfl (by show 4 < 7; decide) ((q, .inr (4, [.ref q1, .ref q3, .int 0, .int 0, .int (-1), .int 0, .int 0])) :: (encA u2 G hX10 0 layX10 ++ encA u4 G hX9 0 layX9 : va_W)) rfl dX4_init_38 (fun H locs hw => ?_)
  refine lv_aload_n hM.1 hM.2.1 dX4_init_41 rfl (lv_at hl 0 rfl) ?_
  refine lv_iconst (v := 0) hM.1 hM.2.1 dX4_init_42 ic_0 ?_
  refine n_put hM hw 0 rfl rfl fw_X4 (k := 5) tyX4_ok nmX4 (by decide) rfl rfl fl_X4_35 rfl rfl (by show 5 < 7; decide) ((q, .inr (4, [.ref q1, .ref q3, .int 0, .int 0, .int (-1), .int 0, .int 0])) :: (encA u2 G hX10 0 layX10 ++ encA u4 G hX9 0 layX9 : va_W)) rfl dX4_init_43 (fun H locs hw => ?_)
  refine lv_aload_n hM.1 hM.2.1 dX4_init_46 rfl (lv_at hl 0 rfl) ?_
  refine lv_iconst (v := (-1)) hM.1 hM.2.1 dX4_init_47 ic_m1 ?_
  refine n_put hM hw 0 rfl rfl fw_X4 (k := 6) tyX4_ok nmX4 (by decide) rfl rfl fl_X4_38 rfl rfl (by show 6 < 7; decide) ((q, .inr (4, [.ref q1, .ref q3, .int 0, .int 0, .int (-1), .int 0, .int (-1)])) :: (encA u2 G hX10 0 layX10 ++ encA u4 G hX9 0 layX9 : va_W)) rfl dX4_init_48 (fun H locs hw => ?_)
  obtain ⟨u, hu⟩ : ∃ u : Nat → Nat, u = fun i => if i = 0 then q else if i < 6 then u2 (i - 1) else u4 (i - 6) := ⟨_, rfl⟩
  have e1 : encA u G hX4 1 layX10 = encA u2 G hX10 0 layX10 := encA_same (n := 5) layX10 (locL_X10 (by omega)) (by decide) (fun x hx => by rw [hu]; simp [show ¬ 1 + x = 0 by omega, show 1 + x < 6 by omega, show 1 + x - 1 = x by omega]) (fun x hx => by have hx : x < 5 := hx; refine ⟨funext fun j => ?_, funext fun j => ?_, funext fun j => ?_⟩ <;> simp [hX4, show ¬ 1 + x = 0 by omega, show 1 + x < 6 by omega, show 1 + x - 1 = x by omega])
  have e2 : encA u G hX4 6 layX9 = encA u4 G hX9 0 layX9 := encA_same (n := 35) layX9 (locL_X9 (by omega)) (by decide) (fun x hx => by rw [hu]; simp [show ¬ 6 + x = 0 by omega, show ¬ 6 + x < 6 by omega, show 6 + x - 6 = x by omega]) (fun x hx => by refine ⟨funext fun j => ?_, funext fun j => ?_, funext fun j => ?_⟩ <;> simp [hX4, show ¬ 6 + x = 0 by omega, show ¬ 6 + x < 6 by omega, show 6 + x - 6 = x by omega])
  have e9 : ((q, .inr (4, [.ref q1, .ref q3, .int 0, .int 0, .int (-1), .int 0, .int (-1)])) :: (encA u2 G hX10 0 layX10 ++ encA u4 G hX9 0 layX9 : va_W)) = encA u G hX4 0 layX4 := by
    show _ = encA u G hX4 0 [kX4] ++ (encA u G hX4 1 layX10 ++ encA u G hX4 6 layX9)
    rw [e1, e2]
    subst hu
    rw [← hu2, ← hu4]
    rfl
  have hw := wn_eq (by rw [e9]) hw
  exact W.vret B.exec B.bytes B.returns (fun t ht hW => ⟨⟨u, rfl, by rw [hu]; rfl, by rw [ht]; exact hw.2.1, va_K.moved hW.alike hw.1, hw.2.2.1⟩, hw.2.2.2.1.F ht⟩) (fun q hq => hw.2.2.2.1.2.2 q hq) dX4_init_51 (hlocks := B.notSynchronized)
