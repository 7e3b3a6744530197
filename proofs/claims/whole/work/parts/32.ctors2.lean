theorem wn_eq {D : va_G} {G : GG} {A : Nat → Prop} {H0 : Heap} {W0 W1 : va_W} {s : State} {H : Heap} {locs : List Loc} (e : W0 = W1) (h : Wn D G A H0 W0 s H locs) : Wn D G A H0 W1 s H locs := e ▸ h
/-! kinds that speak of places near by alone -/
def KLoc (k : KK) (p n : Nat) : Prop := ∀ (ad ad' : Nat → Nat) (G : GG) (i : Nat → Int32) (j : Nat → Int64) (r : Nat → Nat) (b : Nat), (∀ x, x < n → ad' (b + x) = ad x) → k ad' G i j r (b + p) = k ad G i j r p
def LocL (n : Nat) : Nat → List KK → Prop
  | _, [] => True
  | p, k :: ks => KLoc k p n ∧ LocL n (p + 1) ks
theorem loc_I {m p n : Nat} : KLoc (kI m) p n := fun _ _ _ _ _ _ _ _ => rfl
theorem loc_B {m p n : Nat} : KLoc (kB m) p n := fun _ _ _ _ _ _ _ _ => rfl
theorem loc_J {m p n : Nat} : KLoc (kJ m) p n := fun _ _ _ _ _ _ _ _ => rfl
theorem loc_Z {m p n : Nat} : KLoc (kZ m) p n := fun _ _ _ _ _ _ _ _ => rfl
theorem loc_II {m p n : Nat} (h : p + m < n) : KLoc (kII m) p n := by
  intro ad ad' G i j r b hx
  refine congrArg (fun f => (Sum.inl (G.2.2.2.2.2, m, .inr (.inr (.inr (.inr f)))) : va_E)) (funext fun x => ?_)
  by_cases q : x < m
  · rw [if_pos q, if_pos q, ← hx (p + 1 + x) (by omega)]
    congr 2
    omega
  · rw [if_neg q, if_neg q]
theorem loc_S {m p n : Nat} (h : p + 3 * m < n) : KLoc (kS m) p n := by
  intro ad ad' G i j r b hx
  refine congrArg (fun f => (Sum.inl (G.2.2.2.2.1, m, .inr (.inr (.inr (.inr f)))) : va_E)) (funext fun x => ?_)
  by_cases q : x < m
  · rw [if_pos q, if_pos q, ← hx (p + 1 + 3 * x) (by omega)]
    congr 2
    omega
  · rw [if_neg q, if_neg q]
theorem encA_rel {ad ad' : Nat → Nat} {G : GG} {h h' : PH} {b n : Nat} (hx : ∀ x, x < n → ad' (b + x) = ad x) : ∀ (ks : List KK) (p : Nat), LocL n p ks → p + ks.length ≤ n → (∀ x, p ≤ x → x < p + ks.length → h'.1 (b + x) = h.1 x ∧ h'.2.1 (b + x) = h.2.1 x ∧ h'.2.2 (b + x) = h.2.2 x) → encA ad' G h' (b + p) ks = encA ad G h p ks
  | [], _, _, _, _ => rfl
  | k :: ks, p, hl, hn, hh => by
    have hlen : (k :: ks).length = ks.length + 1 := rfl
    obtain ⟨e1, e2, e3⟩ := hh p (Nat.le_refl p) (by omega)
    have h1 := encA_rel (h := h) (h' := h') (G := G) hx ks (p + 1) hl.2 (by omega) (fun x h1 h2 => hh x (by omega) (by omega))
    rw [show b + (p + 1) = b + p + 1 by omega] at h1
    simp only [encA, h1, e1, e2, e3, hx p (by omega), hl.1 ad ad' G _ _ _ b hx]
theorem encA_app {ad : Nat → Nat} {G : GG} {h : PH} : ∀ (l1 l2 : List KK) (b : Nat), encA ad G h b (l1 ++ l2) = encA ad G h b l1 ++ encA ad G h (b + l1.length) l2
  | [], l2, b => by simp [encA]
  | k :: l1, l2, b => by
    have h1 := encA_app (ad := ad) (G := G) (h := h) l1 l2 (b + 1)
    simp only [List.cons_append, encA, h1, List.length_cons]
    rw [show b + 1 + l1.length = b + (l1.length + 1) by omega]
theorem locL_app {n : Nat} : ∀ (l1 l2 : List KK) (p : Nat), LocL n p l1 → LocL n (p + l1.length) l2 → LocL n p (l1 ++ l2)
  | [], l2, p, _, h => by simpa using h
  | k :: l1, l2, p, h1, h2 => ⟨h1.1, locL_app l1 l2 (p + 1) h1.2 (by rw [show p + 1 + l1.length = p + (k :: l1).length by rw [List.length_cons]; omega]; exact h2)⟩
/-- cells of a kind at their own places: by the addresses alone -/
theorem encA_same {ad ad' : Nat → Nat} {G : GG} {h h' : PH} {b n : Nat} (ks : List KK) (hl : LocL n 0 ks) (hn : ks.length ≤ n) (hx : ∀ x, x < n → ad' (b + x) = ad x) (hh : ∀ x, x < ks.length → h'.1 (b + x) = h.1 x ∧ h'.2.1 (b + x) = h.2.1 x ∧ h'.2.2 (b + x) = h.2.2 x) : encA ad' G h' b ks = encA ad G h 0 ks := encA_rel hx ks 0 hl (by omega) (fun x _ h2 => hh x (by omega))
theorem loc_X0 {p n : Nat} (h : p + 4 < n) : KLoc kX0 p n := by
  intro ad ad' G i j r b hx
  have e1 : ad' (b + p + 1) = ad (p + 1) := hx (p + 1) (by omega)
  have e2 : ad' (b + p + 2) = ad (p + 2) := hx (p + 2) (by omega)
  have e3 : ad' (b + p + 3) = ad (p + 3) := hx (p + 3) (by omega)
  have e4 : ad' (b + p + 4) = ad (p + 4) := hx (p + 4) (by omega)
  simp only [kX0, e1, e2, e3, e4]
theorem loc_X1 {p n : Nat} (h : p + 1 < n) : KLoc kX1 p n := by
  intro ad ad' G i j r b hx
  have e1 : ad' (b + p + 1) = ad (p + 1) := hx (p + 1) (by omega)
  simp only [kX1, e1]
theorem loc_X2 {p n : Nat} (h : p + 2 < n) : KLoc kX2 p n := by
  intro ad ad' G i j r b hx
  have e1 : ad' (b + p + 1) = ad (p + 1) := hx (p + 1) (by omega)
  have e2 : ad' (b + p + 2) = ad (p + 2) := hx (p + 2) (by omega)
  simp only [kX2, e1, e2]
theorem loc_X3 {p n : Nat} (h : p + 1 < n) : KLoc kX3 p n := by
  intro ad ad' G i j r b hx
  have e1 : ad' (b + p + 1) = ad (p + 1) := hx (p + 1) (by omega)
  simp only [kX3, e1]
theorem loc_X6 {p n : Nat} (h : p + 4 < n) : KLoc kX6 p n := by
  intro ad ad' G i j r b hx
  have e1 : ad' (b + p + 1) = ad (p + 1) := hx (p + 1) (by omega)
  have e2 : ad' (b + p + 2) = ad (p + 2) := hx (p + 2) (by omega)
  have e3 : ad' (b + p + 3) = ad (p + 3) := hx (p + 3) (by omega)
  have e4 : ad' (b + p + 4) = ad (p + 4) := hx (p + 4) (by omega)
  simp only [kX6, e1, e2, e3, e4]
theorem loc_X8 {p n : Nat} (h : p + 2 < n) : KLoc kX8 p n := by
  intro ad ad' G i j r b hx
  have e1 : ad' (b + p + 1) = ad (p + 1) := hx (p + 1) (by omega)
  have e2 : ad' (b + p + 2) = ad (p + 2) := hx (p + 2) (by omega)
  simp only [kX8, e1, e2]
theorem loc_X7 {p n : Nat} (h : p + 7 < n) : KLoc kX7 p n := by
  intro ad ad' G i j r b hx
  have e1 : ad' (b + p + 1) = ad (p + 1) := hx (p + 1) (by omega)
  have e4 : ad' (b + p + 4) = ad (p + 4) := hx (p + 4) (by omega)
  have e5 : ad' (b + p + 5) = ad (p + 5) := hx (p + 5) (by omega)
  have e6 : ad' (b + p + 6) = ad (p + 6) := hx (p + 6) (by omega)
  have e7 : ad' (b + p + 7) = ad (p + 7) := hx (p + 7) (by omega)
  simp only [kX7, e1, e4, e5, e6, e7]
theorem loc_X9 {p n : Nat} (h : p + 34 < n) : KLoc kX9 p n := by
  intro ad ad' G i j r b hx
  have e1 : ad' (b + p + 1) = ad (p + 1) := hx (p + 1) (by omega)
  have e4 : ad' (b + p + 4) = ad (p + 4) := hx (p + 4) (by omega)
  have e7 : ad' (b + p + 7) = ad (p + 7) := hx (p + 7) (by omega)
  have e13 : ad' (b + p + 13) = ad (p + 13) := hx (p + 13) (by omega)
  have e21 : ad' (b + p + 21) = ad (p + 21) := hx (p + 21) (by omega)
  have e31 : ad' (b + p + 31) = ad (p + 31) := hx (p + 31) (by omega)
  have e32 : ad' (b + p + 32) = ad (p + 32) := hx (p + 32) (by omega)
  have e33 : ad' (b + p + 33) = ad (p + 33) := hx (p + 33) (by omega)
  have e34 : ad' (b + p + 34) = ad (p + 34) := hx (p + 34) (by omega)
  simp only [kX9, e1, e4, e7, e13, e21, e31, e32, e33, e34]
theorem loc_X10 {p n : Nat} (h : p + 4 < n) : KLoc kX10 p n := by
  intro ad ad' G i j r b hx
  have e1 : ad' (b + p + 1) = ad (p + 1) := hx (p + 1) (by omega)
  have e2 : ad' (b + p + 2) = ad (p + 2) := hx (p + 2) (by omega)
  have e3 : ad' (b + p + 3) = ad (p + 3) := hx (p + 3) (by omega)
  have e4 : ad' (b + p + 4) = ad (p + 4) := hx (p + 4) (by omega)
  simp only [kX10, e1, e2, e3, e4]
theorem loc_X5 {p n : Nat} (h : p + 1 < n) : KLoc kX5 p n := by
  intro ad ad' G i j r b hx
  have e1 : ad' (b + p + 1) = ad (p + 1) := hx (p + 1) (by omega)
  simp only [kX5, e1]
theorem dX7_init_0 : decode cX7_init 0 = .ok (.aload_n 0, 1) := by decide +kernel
theorem dX7_init_1 : decode cX7_init 1 = .ok (.invokespecial 3, 3) := by decide +kernel
theorem dX7_init_4 : decode cX7_init 4 = .ok (.aload_n 0, 1) := by decide +kernel
theorem dX7_init_5 : decode cX7_init 5 = .ok (.new 9, 3) := by decide +kernel
theorem dX7_init_8 : decode cX7_init 8 = .ok (.dup, 1) := by decide +kernel
theorem dX7_init_9 : decode cX7_init 9 = .ok (.invokespecial 11, 3) := by decide +kernel
theorem dX7_init_12 : decode cX7_init 12 = .ok (.putfield 12, 3) := by decide +kernel
theorem dX7_init_15 : decode cX7_init 15 = .ok (.aload_n 0, 1) := by decide +kernel
theorem dX7_init_16 : decode cX7_init 16 = .ok (.iconst 3, 1) := by decide +kernel
theorem dX7_init_17 : decode cX7_init 17 = .ok (.newarray .int, 2) := by decide +kernel
theorem dX7_init_19 : decode cX7_init 19 = .ok (.putfield 18, 3) := by decide +kernel
theorem dX7_init_22 : decode cX7_init 22 = .ok (.aload_n 0, 1) := by decide +kernel
theorem dX7_init_23 : decode cX7_init 23 = .ok (.iconst 3, 1) := by decide +kernel
theorem dX7_init_24 : decode cX7_init 24 = .ok (.newarray .int, 2) := by decide +kernel
theorem dX7_init_26 : decode cX7_init 26 = .ok (.putfield 22, 3) := by decide +kernel
theorem dX7_init_29 : decode cX7_init 29 = .ok (.aload_n 0, 1) := by decide +kernel
theorem dX7_init_30 : decode cX7_init 30 = .ok (.iconst 3, 1) := by decide +kernel
theorem dX7_init_31 : decode cX7_init 31 = .ok (.newarray .int, 2) := by decide +kernel
theorem dX7_init_33 : decode cX7_init 33 = .ok (.putfield 25, 3) := by decide +kernel
theorem dX7_init_36 : decode cX7_init 36 = .ok (.aload_n 0, 1) := by decide +kernel
theorem dX7_init_37 : decode cX7_init 37 = .ok (.iconst 3, 1) := by decide +kernel
theorem dX7_init_38 : decode cX7_init 38 = .ok (.newarray .int, 2) := by decide +kernel
theorem dX7_init_40 : decode cX7_init 40 = .ok (.putfield 28, 3) := by decide +kernel
theorem dX7_init_43 : decode cX7_init 43 = .ok (.aload_n 0, 1) := by decide +kernel
theorem dX7_init_44 : decode cX7_init 44 = .ok (.iconst 0, 1) := by decide +kernel
theorem dX7_init_45 : decode cX7_init 45 = .ok (.putfield 31, 3) := by decide +kernel
theorem dX7_init_48 : decode cX7_init 48 = .ok (.aload_n 0, 1) := by decide +kernel
theorem dX7_init_49 : decode cX7_init 49 = .ok (.bipush (-2), 2) := by decide +kernel
theorem dX7_init_51 : decode cX7_init 51 = .ok (.putfield 35, 3) := by decide +kernel
theorem dX7_init_54 : decode cX7_init 54 = .ok (.return_, 1) := by decide +kernel
abbrev layX7 : List KK := [kX7] ++ layX8 ++ [kI 3, kI 3, kI 3, kI 3]
def hX7 : PH := (setI hZ 0 6 (-2))
set_option maxHeartbeats 4000000 in
set_option maxRecDepth 100000 in
theorem ctn_X7 (l : Launch) : CtN l yX7_init cX7_init 1 2 40 7 35 7 [.null, .null, .null, .null, .null, .int 0, .int 0] layX7 hX7 := by
  intro D G Y q sz
  refine Met.ofW (cc := cX7_init) (maxL := 1) (ret := none) (by decide) rfl ?_
  intro p e s m args below meth c s₁ B hml hv
  obtain ⟨rfl, hsz, hP, hK, hD0, hSF⟩ := hv
  subst hsz
  have hts : ∀ w ∈ (Cond.code yX7_init cX7_init 1 none :: lw_g), w.before ([Value.ref q] : List Value).toArray s = true := atoms_spec (ws := Cond.code yX7_init cX7_init 1 none :: lw_g) B.pre
  have hown : s.vm.findClass RX7 = some m.cls := findClass_of_methodNamed B.named
  have hM : CallFix p m c cX7_init 1 s ([Value.ref q] : List Value).toArray lw_g RX7 := ⟨B.exec, B.bytes, hml, hown, fun w hw => hts w (List.mem_cons_of_mem _ hw)⟩
  have hin2 : meth.name = "<init>" := (name_of_methodNamed B.named B.method).1
  have hD := hD0.self (sz := s.heap.size)
  have hA : ∀ x : Nat, s.heap.size ≤ x → va_A (Y ++ [(q, .inr (7, [.null, .null, .null, .null, .null, .int 0, .int 0]))]) s.heap.size x := fun x h => Or.inr h
  generalize va_A (Y ++ [(q, .inr (7, [.null, .null, .null, .null, .null, .int 0, .int 0]))]) s.heap.size = A at hD hA ⊢
  have hw : Wn D G A s.heap (Y ++ [(q, .inr (7, [.null, .null, .null, .null, .null, .int 0, .int 0]))]) s s.heap [] := ⟨hK, hP, hD, va_S.rf, hA⟩
  have hl := lv_entry ([.ref q]) (n := 1) (Nat.le_of_ble_eq_true rfl)
  rw [lg_entry_eq]
  generalize (lg_sl ([.ref q]) ++ List.replicate (1 - (lg_sl ([.ref q])).length) Slot.unset).toArray = ls at hl ⊢
  have hl : lv_has ls 1 [(0, .ref q)] := hl
  refine lv_aload_n hM.1 hM.2.1 dX7_init_0 rfl (lv_at hl 0 rfl) ?_
  refine n_obj hM hl.1 ml_X7_3 dX7_init_1 (Nat.le_of_ble_eq_true rfl) (Nat.le_of_ble_eq_true rfl) ?_
  refine lv_aload_n hM.1 hM.2.1 dX7_init_4 rfl (lv_at hl 0 rfl) ?_
  refine n_new (ci := 8) hM hw fw_X8 tyX8_ok cl_X7_9 it_X8 in_X8 rfl [.int 0, .int 0, .int 0, .int 0, .int 0, .int 0, .int 0, .null, .null] (fun j hj => match j, hj with | 0, _ => rfl | 1, _ => rfl | 2, _ => rfl | 3, _ => rfl | 4, _ => rfl | 5, _ => rfl | 6, _ => rfl | 7, _ => rfl | 8, _ => rfl | j + 9, h => absurd h (by omega)) (Nat.le_of_ble_eq_true rfl) (Nat.le_of_ble_eq_true rfl) dX7_init_5 (fun q1 H hw => ?_)
  have hw := wn_eq (W1 := Y ++ ((q, .inr (7, [.null, .null, .null, .null, .null, .int 0, .int 0])) :: ([(q1, .inr (8, [.int 0, .int 0, .int 0, .int 0, .int 0, .int 0, .int 0, .null, .null]))] : va_W))) (by simp only [List.append_assoc, List.cons_append, List.nil_append, List.append_nil]) hw
  refine lv_dup hM.1 hM.2.1 dX7_init_8 rfl ?_
  refine n_ctorN (host := "ExcuseMarket") (Y := Y) (L := ((q, .inr (7, [.null, .null, .null, .null, .null, .int 0, .int 0])) :: ([] : va_W))) (rest := [.ref q1, .ref q]) hM hSF (ctn_X8 l) (wn_eq (by simp only [List.append_assoc, List.cons_append, List.nil_append, List.append_nil]) hw) in_X8 (by simp [sf_words]) im_X8_init kc_X8_init rfl ⟨by decide, by decide, by decide +kernel⟩ ⟨Nat.le_of_ble_eq_true rfl, Nat.le_of_ble_eq_true rfl⟩ (Nat.le_of_ble_eq_true rfl) hl.1 ⟨Nat.le_of_ble_eq_true rfl, Nat.le_of_ble_eq_true rfl⟩ dX7_init_9 (fun u2 H locs hu2 hw => ?_)
  have hw := wn_eq (W1 := Y ++ ((q, .inr (7, [.null, .null, .null, .null, .null, .int 0, .int 0])) :: (encA u2 G hZ 0 layX8 : va_W))) (by simp only [List.append_assoc, List.cons_append, List.nil_append, List.append_nil]) hw
  refine n_putF hM hw hin2 0 rfl rfl fw_X7 (k := 0) tyX7_ok nmX7 (by decide) rfl rfl rfl fl_X7_12 rfl rfl (by show 0 < 7; decide) ((q, .inr (7, [.ref q1, .null, .null, .null, .null, .int 0, .int 0])) :: (encA u2 G hZ 0 layX8 : va_W)) rfl dX7_init_12 (fun H locs hw => ?_)
  refine lv_aload_n hM.1 hM.2.1 dX7_init_15 rfl (lv_at hl 0 rfl) ?_
  refine lv_iconst (v := 3) hM.1 hM.2.1 dX7_init_16 ic_3 ?_
  refine n_newa hM hw (atype := .int) ac_I rfl 1 rfl 3 (a0 := (3, .inl (fun _ => 0))) (fun _ => rfl) (by decide) (by decide) (Nat.le_of_ble_eq_true rfl) (Nat.le_of_ble_eq_true rfl) (Nat.le_of_ble_eq_true rfl) dX7_init_17 (fun q3 H hw => ?_)
  have hw := wn_eq (W1 := Y ++ ((q, .inr (7, [.ref q1, .null, .null, .null, .null, .int 0, .int 0])) :: (encA u2 G hZ 0 layX8 ++ [(q3, .inl (G.2.1, 3, .inl (fun _ => 0)))] : va_W))) (by simp only [List.append_assoc, List.cons_append, List.nil_append, List.append_nil]) hw
  refine n_putF hM hw hin2 0 rfl rfl fw_X7 (k := 1) tyX7_ok nmX7 (by decide) rfl rfl rfl fl_X7_18 rfl rfl (by show 1 < 7; decide) ((q, .inr (7, [.ref q1, .ref q3, .null, .null, .null, .int 0, .int 0])) :: (encA u2 G hZ 0 layX8 ++ [(q3, .inl (G.2.1, 3, .inl (fun _ => 0)))] : va_W)) rfl dX7_init_19 (fun H locs hw => ?_)
  refine lv_aload_n hM.1 hM.2.1 dX7_init_22 rfl (lv_at hl 0 rfl) ?_
  refine lv_iconst (v := 3) hM.1 hM.2.1 dX7_init_23 ic_3 ?_
  refine n_newa hM hw (atype := .int) ac_I rfl 1 rfl 3 (a0 := (3, .inl (fun _ => 0))) (fun _ => rfl) (by decide) (by decide) (Nat.le_of_ble_eq_true rfl) (Nat.le_of_ble_eq_true rfl) (Nat.le_of_ble_eq_true rfl) dX7_init_24 (fun q4 H hw => ?_)
  have hw := wn_eq (W1 := Y ++ ((q, .inr (7, [.ref q1, .ref q3, .null, .null, .null, .int 0, .int 0])) :: (encA u2 G hZ 0 layX8 ++ [(q3, .inl (G.2.1, 3, .inl (fun _ => 0))), (q4, .inl (G.2.1, 3, .inl (fun _ => 0)))] : va_W))) (by simp only [List.append_assoc, List.cons_append, List.nil_append, List.append_nil]) hw
  refine n_putF hM hw hin2 0 rfl rfl fw_X7 (k := 2) tyX7_ok nmX7 (by decide) rfl rfl rfl fl_X7_22 rfl rfl (by show 2 < 7; decide) ((q, .inr (7, [.ref q1, .ref q3, .ref q4, .null, .null, .int 0, .int 0])) :: (encA u2 G hZ 0 layX8 ++ [(q3, .inl (G.2.1, 3, .inl (fun _ => 0))), (q4, .inl (G.2.1, 3, .inl (fun _ => 0)))] : va_W)) rfl dX7_init_26 (fun H locs hw => ?_)
  refine lv_aload_n hM.1 hM.2.1 dX7_init_29 rfl (lv_at hl 0 rfl) ?_
  refine lv_iconst (v := 3) hM.1 hM.2.1 dX7_init_30 ic_3 ?_
  refine n_newa hM hw (atype := .int) ac_I rfl 1 rfl 3 (a0 := (3, .inl (fun _ => 0))) (fun _ => rfl) (by decide) (by decide) (Nat.le_of_ble_eq_true rfl) (Nat.le_of_ble_eq_true rfl) (Nat.le_of_ble_eq_true rfl) dX7_init_31 (fun q5 H hw => ?_)
  have hw := wn_eq (W1 := Y ++ ((q, .inr (7, [.ref q1, .ref q3, .ref q4, .null, .null, .int 0, .int 0])) :: (encA u2 G hZ 0 layX8 ++ [(q3, .inl (G.2.1, 3, .inl (fun _ => 0))), (q4, .inl (G.2.1, 3, .inl (fun _ => 0))), (q5, .inl (G.2.1, 3, .inl (fun _ => 0)))] : va_W))) (by simp only [List.append_assoc, List.cons_append, List.nil_append, List.append_nil]) hw
  refine n_putF hM hw hin2 0 rfl rfl fw_X7 (k := 3) tyX7_ok nmX7 (by decide) rfl rfl rfl fl_X7_25 rfl rfl (by show 3 < 7; decide) ((q, .inr (7, [.ref q1, .ref q3, .ref q4, .ref q5, .null, .int 0, .int 0])) :: (encA u2 G hZ 0 layX8 ++ [(q3, .inl (G.2.1, 3, .inl (fun _ => 0))), (q4, .inl (G.2.1, 3, .inl (fun _ => 0))), (q5, .inl (G.2.1, 3, .inl (fun _ => 0)))] : va_W)) rfl dX7_init_33 (fun H locs hw => ?_)
  refine lv_aload_n hM.1 hM.2.1 dX7_init_36 rfl (lv_at hl 0 rfl) ?_
  refine lv_iconst (v := 3) hM.1 hM.2.1 dX7_init_37 ic_3 ?_
  refine n_newa hM hw (atype := .int) ac_I rfl 1 rfl 3 (a0 := (3, .inl (fun _ => 0))) (fun _ => rfl) (by decide) (by decide) (Nat.le_of_ble_eq_true rfl) (Nat.le_of_ble_eq_true rfl) (Nat.le_of_ble_eq_true rfl) dX7_init_38 (fun q6 H hw => ?_)
  have hw := wn_eq (W1 := Y ++ ((q, .inr (7, [.ref q1, .ref q3, .ref q4, .ref q5, .null, .int 0, .int 0])) :: (encA u2 G hZ 0 layX8 ++ [(q3, .inl (G.2.1, 3, .inl (fun _ => 0))), (q4, .inl (G.2.1, 3, .inl (fun _ => 0))), (q5, .inl (G.2.1, 3, .inl (fun _ => 0))), (q6, .inl (G.2.1, 3, .inl (fun _ => 0)))] : va_W))) (by simp only [List.append_assoc, List.cons_append, List.nil_append, List.append_nil]) hw
  refine n_putF hM hw hin2 0 rfl rfl fw_X7 (k := 4) tyX7_ok nmX7 (by decide) rfl rfl rfl fl_X7_28 rfl rfl (by show 4 < 7; decide) ((q, .inr (7, [.ref q1, .ref q3, .ref q4, .ref q5, .ref q6, .int 0, .int 0])) :: (encA u2 G hZ 0 layX8 ++ [(q3, .inl (G.2.1, 3, .inl (fun _ => 0))), (q4, .inl (G.2.1, 3, .inl (fun _ => 0))), (q5, .inl (G.2.1, 3, .inl (fun _ => 0))), (q6, .inl (G.2.1, 3, .inl (fun _ => 0)))] : va_W)) rfl dX7_init_40 (fun H locs hw => ?_)
  refine lv_aload_n hM.1 hM.2.1 dX7_init_43 rfl (lv_at hl 0 rfl) ?_
  refine lv_iconst (v := 0) hM.1 hM.2.1 dX7_init_44 ic_0 ?_
  refine n_put hM hw 0 rfl rfl fw_X7 (k := 5) tyX7_ok nmX7 (by decide) rfl rfl fl_X7_31 rfl rfl (by show 5 < 7; decide) ((q, .inr (7, [.ref q1, .ref q3, .ref q4, .ref q5, .ref q6, .int 0, .int 0])) :: (encA u2 G hZ 0 layX8 ++ [(q3, .inl (G.2.1, 3, .inl (fun _ => 0))), (q4, .inl (G.2.1, 3, .inl (fun _ => 0))), (q5, .inl (G.2.1, 3, .inl (fun _ => 0))), (q6, .inl (G.2.1, 3, .inl (fun _ => 0)))] : va_W)) rfl dX7_init_45 (fun H locs hw => ?_)
  refine lv_aload_n hM.1 hM.2.1 dX7_init_48 rfl (lv_at hl 0 rfl) ?_
  refine lv_bipush (v := (-2)) hM.1 hM.2.1 dX7_init_49 (by decide) ?_
  refine n_put hM hw 0 rfl rfl fw_X7 (k := 6) tyX7_ok nmX7 (by decide) rfl rfl fl_X7_35 rfl rfl (by show 6 < 7; decide) ((q, .inr (7, [.ref q1, .ref q3, .ref q4, .ref q5, .ref q6, .int 0, .int (-2)])) :: (encA u2 G hZ 0 layX8 ++ [(q3, .inl (G.2.1, 3, .inl (fun _ => 0))), (q4, .inl (G.2.1, 3, .inl (fun _ => 0))), (q5, .inl (G.2.1, 3, .inl (fun _ => 0))), (q6, .inl (G.2.1, 3, .inl (fun _ => 0)))] : va_W)) rfl dX7_init_51 (fun H locs hw => ?_)
  refine W.vret B.exec B.bytes B.returns (fun t ht hW => ⟨⟨(fun i => [q, u2 0, u2 1, u2 2, q3, q4, q5, q6].getD i 0), rfl, rfl, ?_, va_K.moved hW.alike hw.1, ?_⟩, hw.2.2.2.1.F ht⟩) (fun q hq => hw.2.2.2.1.2.2 q hq) dX7_init_54 (hlocks := B.notSynchronized)
  · rw [ht]
    have h1 := hw.2.1
    rw [← hu2] at h1
    exact h1
  · have h1 := hw.2.2.1
    rw [← hu2] at h1
    exact h1
