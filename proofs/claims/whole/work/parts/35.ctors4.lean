theorem dX5_init_0 : decode cX5_init 0 = .ok (.aload_n 0, 1) := by decide +kernel
theorem dX5_init_1 : decode cX5_init 1 = .ok (.invokespecial 3, 3) := by decide +kernel
theorem dX5_init_4 : decode cX5_init 4 = .ok (.aload_n 0, 1) := by decide +kernel
theorem dX5_init_5 : decode cX5_init 5 = .ok (.bipush 40, 2) := by decide +kernel
theorem dX5_init_7 : decode cX5_init 7 = .ok (.anewarray 9, 3) := by decide +kernel
theorem dX5_init_10 : decode cX5_init 10 = .ok (.putfield 11, 3) := by decide +kernel
theorem dX5_init_13 : decode cX5_init 13 = .ok (.aload_n 0, 1) := by decide +kernel
theorem dX5_init_14 : decode cX5_init 14 = .ok (.iconst 0, 1) := by decide +kernel
theorem dX5_init_15 : decode cX5_init 15 = .ok (.putfield 17, 3) := by decide +kernel
theorem dX5_init_18 : decode cX5_init 18 = .ok (.aload_n 0, 1) := by decide +kernel
theorem dX5_init_19 : decode cX5_init 19 = .ok (.iconst 0, 1) := by decide +kernel
theorem dX5_init_20 : decode cX5_init 20 = .ok (.putfield 21, 3) := by decide +kernel
theorem dX5_init_23 : decode cX5_init 23 = .ok (.iconst 0, 1) := by decide +kernel
theorem dX5_init_24 : decode cX5_init 24 = .ok (.istore_n 1, 1) := by decide +kernel
theorem dX5_init_25 : decode cX5_init 25 = .ok (.iload_n 1, 1) := by decide +kernel
theorem dX5_init_26 : decode cX5_init 26 = .ok (.bipush 40, 2) := by decide +kernel
theorem dX5_init_28 : decode cX5_init 28 = .ok (.if_icmp .ge 22, 3) := by decide +kernel
theorem dX5_init_31 : decode cX5_init 31 = .ok (.aload_n 0, 1) := by decide +kernel
theorem dX5_init_32 : decode cX5_init 32 = .ok (.getfield 11, 3) := by decide +kernel
theorem dX5_init_35 : decode cX5_init 35 = .ok (.iload_n 1, 1) := by decide +kernel
theorem dX5_init_36 : decode cX5_init 36 = .ok (.new 9, 3) := by decide +kernel
theorem dX5_init_39 : decode cX5_init 39 = .ok (.dup, 1) := by decide +kernel
theorem dX5_init_40 : decode cX5_init 40 = .ok (.invokespecial 24, 3) := by decide +kernel
theorem dX5_init_43 : decode cX5_init 43 = .ok (.aastore, 1) := by decide +kernel
theorem dX5_init_44 : decode cX5_init 44 = .ok (.iinc 1 1, 3) := by decide +kernel
theorem dX5_init_47 : decode cX5_init 47 = .ok (.goto (-22), 3) := by decide +kernel
theorem dX5_init_50 : decode cX5_init 50 = .ok (.return_, 1) := by decide +kernel
section XQ
variable {cells slots : Nat}
variable {p : Program} {l : Launch} {e : Env} {R : Room} {s : State} {m : MethodId} {args : Array Value} {below : List Frame} {meth : Method} {c : Code} {H : Heap} {locs : List Loc} {Q : State → Prop}
variable {cc : ByteArray} {nL pc : Nat} {own : String} {ls : Array Slot} {rest : List Value} {D : va_G} {G : GG} {A : Nat → Prop} {H0 : Heap} {Y L : va_W}
theorem n_newq (hM : CallFix p m c cc nL s args lw_g own) (hw : Wn D G A H0 (Y ++ L) s H locs) (hSF : SF s) {idx : Nat} (hclink : Cond.classLink own idx RX8 ∈ lw_g) {n : Int32} (N' : Nat) (hn : ¬ n < 0) (hN : n.toNatClampNeg = N') (hbytes : N' * 4 ≤ 536870912) (hcells : cells + 1 ≤ R.cells) (hslots : slots + N' ≤ R.slots) (hdg : decode cc pc = .ok (.anewarray idx, 3)) (kk : ∀ (q : Nat) (H1 : Heap), Wn D G A H0 (Y ++ (L ++ [(q, .inl (G.2.2.2.2.1, N', .inr (.inr (.inr (.inr (fun _ => none))))))])) s H1 locs → W p l e R s m args below meth c H1 locs (cells + 1) (slots + N') Q (F0 m (pc + 3) ls (.ref q :: rest))) : W p l e R s m args below meth c H locs cells slots Q (F0 m pc ls (.int n :: rest)) :=
  va_newq hM.1 hM.2.1 hM.2.2.2.1 (hM.2.2.2.2 _ hclink) hSF.2.1 hw.1 hw.2.1 hw.2.2.1 hw.2.2.2.1 hw.2.2.2.2 hn hN hbytes hcells hslots hdg fun q cA H1 hK hP hD hS => by
    have h1 : va_RA s cA (.object "ExcuseMarket$State") := (hK.2 (tysOf G).length (cA, .object RX8) (by simp)).2
    have h2 := (hw.1.2 4 _ rfl).2
    have e := ra_same h1 h2
    subst e
    rw [List.append_assoc] at hP hD
    exact kk q H1 ⟨hw.1, hP, hD, hS, hw.2.2.2.2⟩
theorem n_get (hM : CallFix p m c cc nL s args lw_g own) (hw : Wn D G A H0 (Y ++ L) s H locs) (i : Nat) {a : Nat} {ref C : String} {T : u_T} {N ci idx k : Nat} {fs : List Value} {v : Value} (he : L[i]? = some (a, .inr (ci, fs))) (hc : vwCl[ci]? = some (C, T, N)) (hin : ∀ w ∈ u_ws C T N, w ∈ lw_g) (hkN : k < N) (href : (T k).1 = ref) (hlink : Cond.fieldLink own idx ref (T k).2.1 (T k).2.2.1 ∈ lw_g) (hv : fs[k]? = some v) (hdg : decode cc pc = .ok (.getfield idx, 3)) (kk : W p l e R s m args below meth c H locs cells slots Q (F0 m (pc + 3) ls (v :: rest))) : W p l e R s m args below meth c H locs cells slots Q (F0 m pc ls (.ref a :: rest)) :=
  va_get hM.1 hM.2.1 hM.2.2.2.2 hin hM.2.2.2.1 hw.1 hw.2.1 (Y.length + i) (by rw [ap_get]; exact he) hc k hkN (hM.2.2.2.2 _ hlink) (by subst href; exact fun _ h => h) hv hdg kk
theorem n_astq (hM : CallFix p m c cc nL s args lw_g own) (hw : Wn D G A H0 (Y ++ L) s H locs) (i0 k0 : Nat) {a v n : Nat} {vs : List Value} {f : Nat → Option Nat} (ha : L[i0]? = some (a, .inl (G.2.2.2.2.1, n, .inr (.inr (.inr (.inr f)))))) (hv : L[k0]? = some (v, .inr (8, vs))) {i : Int32} (hin : vp_in i n) (L' : va_W) (hL : L.set i0 (a, .inl (G.2.2.2.2.1, n, .inr (.inr (.inr (.inr (va_up f i.toNatClampNeg (some v))))))) = L') (hdg : decode cc pc = .ok (.aastore, 1)) (kk : ∀ (H1 : Heap) (locs1 : List Loc), Wn D G A H0 (Y ++ L') s H1 locs1 → W p l e R s m args below meth c H1 locs1 cells slots Q (F0 m (pc + 1) ls rest)) : W p l e R s m args below meth c H locs cells slots Q (F0 m pc ls (.ref v :: .int i :: .ref a :: rest)) :=
  va_astq (r := (RX8, TX8, 9)) hM.1 hM.2.1 hw.1 hw.2.1 hw.2.2.1 hw.2.2.2.1 (Y.length + i0) 4 (Y.length + k0) 8 (by rw [ap_get]; exact ha) rfl (by rw [ap_get]; exact hv) rfl hin hdg fun H1 locs1 hP hD hS => by
    rw [ap_set, hL] at hP hD
    exact kk H1 locs1 ⟨hw.1, hP, hD, hS, hw.2.2.2.2⟩
end XQ
theorem kloc_mono {k : KK} {p n n' : Nat} (h : KLoc k p n) (hn : n ≤ n') : KLoc k p n' := fun ad ad' G i j r b hx => h ad ad' G i j r b (fun x hx' => hx x (by omega))
theorem locL_mono {n n' : Nat} (hn : n ≤ n') : ∀ (ks : List KK) (p : Nat), LocL n p ks → LocL n' p ks
  | [], _, _ => trivial
  | _ :: ks, p, h => ⟨kloc_mono h.1 hn, locL_mono hn ks (p + 1) h.2⟩
/-- n states, one behind the other -/
def stLay : Nat → List KK
  | 0 => []
  | n + 1 => stLay n ++ layX8
theorem stLay_len : ∀ n : Nat, (stLay n).length = 3 * n
  | 0 => rfl
  | n + 1 => by
    show (stLay n ++ layX8).length = _
    rw [List.length_append, stLay_len n]
    show 3 * n + 3 = _
    omega
theorem stLay_loc : ∀ (n p : Nat), LocL (p + 3 * n) p (stLay n)
  | 0, p => trivial
  | n + 1, p => locL_app _ _ p (locL_mono (by omega) _ _ (stLay_loc n p)) (by
    rw [stLay_len]
    exact ⟨loc_X8 (by omega), loc_I, loc_I, trivial⟩)
theorem stLay_at : ∀ (n i : Nat), i < n → (stLay n)[3 * i]? = some kX8 ∧ (stLay n)[3 * i + 1]? = some (kI 5) ∧ (stLay n)[3 * i + 2]? = some (kI 9)
  | 0, i, h => absurd h (by omega)
  | n + 1, i, h => by
    have e : stLay (n + 1) = stLay n ++ layX8 := rfl
    by_cases q : i < n
    · obtain ⟨h1, h2, h3⟩ := stLay_at n i q
      have hl := stLay_len n
      rw [e, List.getElem?_append_left (by omega), List.getElem?_append_left (by omega), List.getElem?_append_left (by omega)]
      exact ⟨h1, h2, h3⟩
    · have hi : i = n := by omega
      subst hi
      have hl := stLay_len i
      rw [e, List.getElem?_append_right (by omega), List.getElem?_append_right (by omega), List.getElem?_append_right (by omega), hl]
      rw [show 3 * i - 3 * i = 0 by omega, show 3 * i + 1 - 3 * i = 1 by omega, show 3 * i + 2 - 3 * i = 2 by omega]
      exact ⟨rfl, rfl, rfl⟩
def ringF (u : Nat → Nat) (i : Nat) : Nat → Option Nat := fun x => if x < i then some (u (1 + 1 + 3 * x)) else none
def Lx5 (G : GG) (u : Nat → Nat) (i : Nat) : va_W := (u 0, .inr (5, [.ref (u 1), .int 0, .int 0])) :: (u 1, .inl (G.2.2.2.2.1, 40, .inr (.inr (.inr (.inr (ringF u i)))))) :: encA u G hZ 2 (stLay i)
abbrev layX5 : List KK := kX5 :: kS 40 :: stLay 40
set_option maxHeartbeats 4000000 in
theorem x5_step {G : GG} {u w : Nat → Nat} {i : Nat} : ∃ u' : Nat → Nat, u' 0 = u 0 ∧ u' 1 = u 1 ∧ (u 0, .inr (5, [.ref (u 1), .int 0, .int 0])) :: (u 1, .inl (G.2.2.2.2.1, 40, .inr (.inr (.inr (.inr (va_up (ringF u i) i (some (w 0)))))))) :: (encA u G hZ 2 (stLay i) ++ encA w G hZ 0 layX8) = Lx5 G u' (i + 1) := by
  refine ⟨fun x => if x < 2 + 3 * i then u x else w (x - (2 + 3 * i)), if_pos (by omega), if_pos (by omega), ?_⟩
  generalize hu' : (fun x => if x < 2 + 3 * i then u x else w (x - (2 + 3 * i))) = u'
  have a0 : ∀ x, x < 2 + 3 * i → u' x = u x := fun x hx => by rw [← hu']; simp [hx]
  have a1 : ∀ x, u' (2 + 3 * i + x) = w x := fun x => by
    rw [← hu']
    simp only [show ¬ 2 + 3 * i + x < 2 + 3 * i by omega, if_false]
    congr 1
    omega
  have e1 : encA u' G hZ 2 (stLay i) = encA u G hZ 2 (stLay i) := by
    have h := encA_rel (ad := u) (ad' := u') (G := G) (h := hZ) (h' := hZ) (b := 0) (n := 2 + 3 * i) (fun x hx => by rw [Nat.zero_add]; exact a0 x hx) (stLay i) 2 (stLay_loc i 2) (by rw [stLay_len]; omega) (fun x _ _ => ⟨rfl, rfl, rfl⟩)
    rw [Nat.zero_add] at h
    exact h
  have e2 : encA u' G hZ (2 + 3 * i) layX8 = encA w G hZ 0 layX8 := encA_same (n := 3) layX8 (locL_X8 (by omega)) (by decide) (fun x _ => a1 x) (fun x _ => ⟨rfl, rfl, rfl⟩)
  have e3 : va_up (ringF u i) i (some (w 0)) = ringF u' (i + 1) := by
    funext x
    unfold va_up ringF
    by_cases q : x = i
    · subst q
      have := a1 0
      rw [Nat.add_zero] at this
      simp [this]
    · by_cases q2 : x < i
      · have := a0 (2 + 3 * x) (by omega)
        simp [q, q2, show x < i + 1 by omega, this]
      · simp [q, q2, show ¬ x < i + 1 by omega]
  have e4 : stLay (i + 1) = stLay i ++ layX8 := rfl
  unfold Lx5
  rw [e4, encA_app, stLay_len, e1, e2, e3, a0 0 (by omega), a0 1 (by omega)]
set_option maxHeartbeats 4000000 in
set_option maxRecDepth 100000 in
theorem x5_loop {p : Program} {l : Launch} {e : Env} {s : State} {m : MethodId} {args : Array Value} {below : List Frame} {meth : Method} {c : Code} {Q : State → Prop} {D : va_G} {G : GG} {A : Nat → Prop} {Y : va_W} {a0 a1 : Nat} (hM : CallFix p m c cX5_init 2 s args lw_g RX5) (hSF : SF s)
    (hend : ∀ (u : Nat → Nat) (H : Heap) (locs : List Loc) (ls : Array Slot), u 0 = a0 → Wn D G A s.heap (Y ++ Lx5 G u 40) s H locs → lv_has ls 2 [(0, .ref a0)] → W p l e (rmC 2 40 121 960) s m args below meth c H locs 121 960 Q (F0 m 50 ls [])) : ∀ (f i : Nat), i + f = 40 → ∀ (u : Nat → Nat) (H : Heap) (locs : List Loc) (ls : Array Slot), u 0 = a0 → u 1 = a1 → Wn D G A s.heap (Y ++ Lx5 G u i) s H locs → lv_has ls 2 [(0, .ref a0), (1, .int (nI i))] → W p l e (rmC 2 40 121 960) s m args below meth c H locs (1 + 3 * i) (40 + 23 * i) Q (F0 m 25 ls [])
  | 0, i, hf => fun u H locs ls h0 h1 hw hl => by
    have hi : i = 40 := by omega
    subst hi
    refine lv_iload_n hM.1 hM.2.1 dX5_init_25 rfl (lv_at hl 1 rfl) ?_
    refine lv_bipush (v := 40) hM.1 hM.2.1 dX5_init_26 (by decide) ?_
    refine lv_icmp_ge (tgt := 50) hM.1 hM.2.1 dX5_init_28 (by decide) (fun _ => ?_) (fun q => absurd (by decide) q)
    exact hend u H locs ls h0 hw (lv_sub hl [0] rfl)
  | f + 1, i, hf => fun u H locs ls h0 h1 hw hl => by
    have hi : i < 40 := by omega
    refine lv_iload_n hM.1 hM.2.1 dX5_init_25 rfl (lv_at hl 1 rfl) ?_
    refine lv_bipush (v := 40) hM.1 hM.2.1 dX5_init_26 (by decide) ?_
    refine lv_icmp_ge (tgt := 50) hM.1 hM.2.1 dX5_init_28 (by decide) (fun q => absurd q (show ¬ nI 40 ≤ nI i from nI_ge hi (by omega))) (fun _ => ?_)
    refine lv_aload_n hM.1 hM.2.1 dX5_init_31 rfl (lv_at hl 0 rfl) ?_
    subst h0
    subst h1
    refine n_get hM hw 0 (k := 0) (fs := [.ref (u 1), .int 0, .int 0]) rfl rfl fw_X5 (by decide) rfl fl_X5_11 rfl dX5_init_32 ?_
    refine lv_iload_n hM.1 hM.2.1 dX5_init_35 rfl (lv_at hl 1 rfl) ?_
    refine n_new (ci := 8) hM hw fw_X8 tyX8_ok cl_X5_9 it_X8 in_X8 rfl [.int 0, .int 0, .int 0, .int 0, .int 0, .int 0, .int 0, .null, .null] (fun j hj => match j, hj with | 0, _ => rfl | 1, _ => rfl | 2, _ => rfl | 3, _ => rfl | 4, _ => rfl | 5, _ => rfl | 6, _ => rfl | 7, _ => rfl | 8, _ => rfl | j + 9, h => absurd h (by omega)) (by show 1 + 3 * i + 1 ≤ 121; omega) (by show 40 + 23 * i + 9 ≤ 960; omega) dX5_init_36 (fun q2 H hw => ?_)
    refine lv_dup hM.1 hM.2.1 dX5_init_39 rfl ?_
    refine n_ctorN (host := "ExcuseMarket") (Y := Y) (L := Lx5 G u i) (rest := [.ref q2, .int (nI i), .ref (u 1)]) hM hSF (ctn_X8 l) hw in_X8 (by simp [sf_words]) im_X8_init kc_X8_init rfl ⟨by decide, by decide, by decide +kernel⟩ ⟨Nat.le_of_ble_eq_true rfl, Nat.le_of_ble_eq_true rfl⟩ (Nat.le_of_ble_eq_true rfl) hl.1 ⟨by show 1 + 3 * i + 1 + 2 ≤ 121; omega, by show 40 + 23 * i + 9 + 14 ≤ 960; omega⟩ dX5_init_40 (fun w H locs hw0 hw => ?_)
    obtain ⟨u', b0, b1, e9⟩ := x5_step (G := G) (u := u) (w := w) (i := i)
    have hlen := stLay_len i
    refine n_astq hM hw 1 (2 + 3 * i) (a := u 1) (n := 40) (f := ringF u i) (vs := [.int 0, .int 0, .int 0, .int 0, .int 0, .int 0, .int 0, .ref (w 1), .ref (w 2)]) rfl ?_ (vp_in_nI hi (by omega)) (Lx5 G u' (i + 1)) ?_ dX5_init_43 (fun H locs hw => ?_)
    · show ((u 0, _) :: (u 1, _) :: (encA u G hZ 2 (stLay i) ++ encA w G hZ 0 layX8))[2 + 3 * i]? = _
      rw [show 2 + 3 * i = (3 * i) + 1 + 1 by omega, List.getElem?_cons_succ, List.getElem?_cons_succ, List.getElem?_append_right (by rw [encA_len, hlen]; omega), encA_len, hlen, show 3 * i - 3 * i = 0 by omega, ← hw0]
      rfl
    · rw [← e9, nI_clamp (by omega), hw0]
      rfl
    obtain ⟨x2, ex2⟩ : ∃ y : Int32, y = nI (i + 1) := ⟨_, rfl⟩
    refine lv_iinc (k := 1) (v := nI (i + 1)) (lv' := [(1, .int (nI (i + 1))), (0, .ref (u 0))]) hM.1 hM.2.1 dX5_init_44 hl rfl (nI_1 i) (by decide) rfl (fun ls hl => ?_)
    refine lv_goto (tgt := 25) hM.1 hM.2.1 dX5_init_47 (by decide) ?_
    refine W.widen (k := 1 + 3 * (i + 1)) (n := 40 + 23 * (i + 1)) (by omega) (by omega) ?_
    exact x5_loop hM hSF hend f (i + 1) (by omega) u' H locs ls b0 b1 hw (lv_sub hl [1, 0] rfl)
set_option maxHeartbeats 4000000 in
set_option maxRecDepth 100000 in
theorem ctn_X5 (l : Launch) : CtN l yX5_init cX5_init 2 2 40 121 960 5 [.null, .int 0, .int 0] layX5 hZ := by
  intro D G Y q sz
  refine Met.ofW (cc := cX5_init) (maxL := 2) (ret := none) (by decide) rfl ?_
  intro p e s m args below meth c s₁ B hml hv
  obtain ⟨rfl, hsz, hP, hK, hD0, hSF⟩ := hv
  subst hsz
  have hts : ∀ w ∈ (Cond.code yX5_init cX5_init 2 none :: lw_g), w.before ([Value.ref q] : List Value).toArray s = true := atoms_spec (ws := Cond.code yX5_init cX5_init 2 none :: lw_g) B.pre
  have hown : s.vm.findClass RX5 = some m.cls := findClass_of_methodNamed B.named
  have hM : CallFix p m c cX5_init 2 s ([Value.ref q] : List Value).toArray lw_g RX5 := ⟨B.exec, B.bytes, hml, hown, fun w hw => hts w (List.mem_cons_of_mem _ hw)⟩
  have hin2 : meth.name = "<init>" := (name_of_methodNamed B.named B.method).1
  have hD := hD0.self (sz := s.heap.size)
  have hA : ∀ x : Nat, s.heap.size ≤ x → va_A (Y ++ [(q, .inr (5, [.null, .int 0, .int 0]))]) s.heap.size x := fun x h => Or.inr h
  generalize va_A (Y ++ [(q, .inr (5, [.null, .int 0, .int 0]))]) s.heap.size = A at hD hA ⊢
  have hw : Wn D G A s.heap (Y ++ [(q, .inr (5, [.null, .int 0, .int 0]))]) s s.heap [] := ⟨hK, hP, hD, va_S.rf, hA⟩
  have hl := lv_entry ([.ref q]) (n := 2) (Nat.le_of_ble_eq_true rfl)
  rw [lg_entry_eq]
  generalize (lg_sl ([.ref q]) ++ List.replicate (2 - (lg_sl ([.ref q])).length) Slot.unset).toArray = ls at hl ⊢
  have hl : lv_has ls 2 [(0, .ref q)] := hl
  refine lv_aload_n hM.1 hM.2.1 dX5_init_0 rfl (lv_at hl 0 rfl) ?_
  refine n_obj hM hl.1 ml_X5_3 dX5_init_1 (Nat.le_of_ble_eq_true rfl) (Nat.le_of_ble_eq_true rfl) ?_
  refine lv_aload_n hM.1 hM.2.1 dX5_init_4 rfl (lv_at hl 0 rfl) ?_
  refine lv_bipush (v := 40) hM.1 hM.2.1 dX5_init_5 (by decide) ?_
  refine n_newq hM hw hSF cl_X5_9 40 (by decide) (by decide) (Nat.le_of_ble_eq_true rfl) (Nat.le_of_ble_eq_true rfl) (Nat.le_of_ble_eq_true rfl) dX5_init_7 (fun q1 H hw => ?_)
  have hw := wn_eq (W1 := Y ++ [(q, .inr (5, [.null, .int 0, .int 0])), (q1, .inl (G.2.2.2.2.1, 40, .inr (.inr (.inr (.inr (fun _ => none))))))]) (by simp only [List.cons_append, List.nil_append]) hw
  refine n_putF hM hw hin2 0 rfl rfl fw_X5 (k := 0) tyX5_ok nmX5 (by decide) rfl rfl rfl fl_X5_11 rfl rfl (by show 0 < 3; decide) [(q, .inr (5, [.ref q1, .int 0, .int 0])), (q1, .inl (G.2.2.2.2.1, 40, .inr (.inr (.inr (.inr (fun _ => none))))))] rfl dX5_init_10 (fun H locs hw => ?_)
  refine lv_aload_n hM.1 hM.2.1 dX5_init_13 rfl (lv_at hl 0 rfl) ?_
  refine lv_iconst (v := 0) hM.1 hM.2.1 dX5_init_14 ic_0 ?_
  refine n_put hM hw 0 rfl rfl fw_X5 (k := 1) tyX5_ok nmX5 (by decide) rfl rfl fl_X5_17 rfl rfl (by show 1 < 3; decide) [(q, .inr (5, [.ref q1, .int 0, .int 0])), (q1, .inl (G.2.2.2.2.1, 40, .inr (.inr (.inr (.inr (fun _ => none))))))] rfl dX5_init_15 (fun H locs hw => ?_)
  refine lv_aload_n hM.1 hM.2.1 dX5_init_18 rfl (lv_at hl 0 rfl) ?_
  refine lv_iconst (v := 0) hM.1 hM.2.1 dX5_init_19 ic_0 ?_
  refine n_put hM hw 0 rfl rfl fw_X5 (k := 2) tyX5_ok nmX5 (by decide) rfl rfl fl_X5_21 rfl rfl (by show 2 < 3; decide) [(q, .inr (5, [.ref q1, .int 0, .int 0])), (q1, .inl (G.2.2.2.2.1, 40, .inr (.inr (.inr (.inr (fun _ => none))))))] rfl dX5_init_20 (fun H locs hw => ?_)
  refine lv_iconst (v := 0) hM.1 hM.2.1 dX5_init_23 ic_0 ?_
  refine lv_istore_n (lv' := [(1, .int (nI 0)), (0, .ref q)]) hM.1 hM.2.1 dX5_init_24 rfl hl (by decide) rfl (fun ls hl => ?_)
  refine x5_loop (Y := Y) hM hSF (a0 := q) (a1 := q1) ?_ 40 0 rfl (fun x => if x = 0 then q else q1) H locs ls rfl rfl (wn_eq ?_ hw) (lv_sub hl [1, 0] rfl)
  · intro u H locs ls h0 hw hl
    exact W.vret B.exec B.bytes B.returns (fun t ht hW => ⟨⟨u, rfl, h0, by rw [ht]; exact hw.2.1, va_K.moved hW.alike hw.1, hw.2.2.1⟩, hw.2.2.2.1.F ht⟩) (fun q hq => hw.2.2.2.1.2.2 q hq) dX5_init_50 (hlocks := B.notSynchronized)
  · refine congrArg (fun L => Y ++ L) ?_
    unfold Lx5
    have e : (fun _ : Nat => (none : Option Nat)) = ringF (fun x => if x = 0 then q else q1) 0 := by
      funext x
      simp [ringF]
    rw [e]
    rfl
