def lastG (T : TX) (σ : ST) (e a : Nat) (i : Nat) (x : Int32) : Int32 := if (σ.out i = 1 ∨ σ.out i = 2) ∧ σ.plan i = nI e ∧ T.dman i = a then jmax x (nI (T.dday i)) else x
theorem told_bit2 {σ : ST} {d : Nat} (hd : d < 9) : (((nI (outMask σ 1) ||| nI (outMask σ 2)) >>> (nI d &&& 31)) &&& 1) = if σ.out d = 1 ∨ σ.out d = 2 then (1 : Int32) else 0 := by
  rw [b_or, b_get (told_lt σ) hd]
  exact ite_cg (told_bit hd)
theorem lastTold_ok {p t : Nat} {T : TX} {σ : ST} {h : PH} (w : T.wf) (xc : TxC t T h) (x : StC p σ h) {e a : Nat} (he : e < T.exc) (ha : a < T.men) : c_X8_lastTold p t (nI e) (nI a) h = some (forS (lastG T σ e a) T.dut (-2)) := by
  have w1 := w.men; have w2 := w.dut; have w3 := w.exc
  unfold c_X8_lastTold
  simp only [nm, x.freed, x.caught]
  refine for_f (K := fun w11 => some w11) (lastG T σ e a) (by omega) (fun REC i y hi => ?_) (fun REC y => ?_) (-2)
  · unfold c_X8_lastTold_L18b lastG
    have d1 := w.dman i hi
    rw [xc.dut, if_neg (nI_ge hi (by omega)), told_bit2 (by omega)]
    simp only [nm, ixOK_nI (show i < 9 by omega) (show 9 < 2 ^ 31 by omega), gdt, nI_clamp (show i < 2 ^ 31 by omega), xc.dman i hi, xc.dday i hi, x.plan i (show i < 9 by omega), nI_1, nI_eq (show T.dman i < 2 ^ 31 by omega) (show a < 2 ^ 31 by omega)]
    by_cases b : σ.out i = 1 ∨ σ.out i = 2 <;> by_cases c : σ.plan i = nI e <;> by_cases d : T.dman i = a <;> simp [b, c, d]
  · unfold c_X8_lastTold_L18b
    rw [xc.dut, if_pos (nI_le (by omega) (by omega))]
theorem toldLast_ok {T : TX} {σ : ST} {s : Nat} {h : PH} (w : T.wf) (hs : s < 2) (l : h.1 0 18 = nI s) (xr : TxR s T h) (x : StV σ h) {e a : Nat} (he : e < T.exc) (ha : a < T.men) : c_X12_toldLast (nI e) (nI a) h = some (forS (lastG T σ e a) T.dut (-2)) := by
  have w1 := w.men; have w2 := w.dut; have w3 := w.exc
  unfold c_X12_toldLast
  simp only [nm]
  refine for_f (K := fun w8 => some w8) (lastG T σ e a) (by omega) (fun REC i y hi => ?_) (fun REC y => ?_) (-2)
  · unfold c_X12_toldLast_L6b lastG
    have d1 := w.dman i hi
    have g1 : h.1 44 (22 + i) = toldP σ i := x.told i (by omega)
    rw [l, live_gd hs, nI_clamp (by omega), xr.dut, if_neg (nI_ge hi (by omega)), nI_a22, gdI (by omega) (by omega), nI_clamp (by omega), g1, manOf_ok w hs l xr hi, dayOf_ok w hs l xr hi]
    simp only [nm, nI_1, Option.bind_some, toldP_eq (show e < 7 by omega), nI_eq (show T.dman i < 2 ^ 31 by omega) (show a < 2 ^ 31 by omega)]
    by_cases b : (σ.out i = 1 ∨ σ.out i = 2) ∧ σ.plan i = nI e
    · rw [if_pos b]
      by_cases c : T.dman i = a
      · have bc : (σ.out i = 1 ∨ σ.out i = 2) ∧ σ.plan i = nI e ∧ T.dman i = a := ⟨b.1, b.2, c⟩
        rw [if_pos c, if_pos bc]
        unfold jmax
        by_cases u : nI (T.dday i) ≤ y
        · rw [if_pos u, if_neg (Int32.not_lt.mpr u)]
        · rw [if_neg u, if_pos (Int32.not_le.mp u)]
      · rw [if_neg c, if_neg (fun q => c q.2.2)]
    · rw [if_neg b, if_neg (fun q => b ⟨q.1, q.2.1⟩)]
  · unfold c_X12_toldLast_L6b
    rw [l, live_gd hs, nI_clamp (by omega), xr.dut, if_pos (nI_le (by omega) (by omega))]
theorem StR.mv {q o q' o' : Nat} {σ : ST} {h h' : PH} (g : ∀ k, k < 40 → h'.1 q' (o' + k) = h.1 q (o + k)) (x : StR q o σ h) : StR q' o' σ h' := by
  apply StR.mk
  · rw [g _ (by omega)]; exact x.today
  · rw [g _ (by omega)]; exact x.coins
  · rw [g _ (by omega)]; exact x.hours
  · rw [g _ (by omega)]; exact x.owned
  · intro d hd; rw [g _ (by omega)]; exact x.plan d hd
  · intro d hd; rw [g _ (by omega)]; exact x.out d hd
  · intro d hd; rw [g _ (by omega)]; exact x.told d hd
  · intro d hd; rw [g _ (by omega)]; exact x.trust d hd
def F44 (p k : Nat) : Prop := p ≠ 44 ∧ ¬ (p = 0 ∧ k = 62)
theorem copies_ok {T : TX} {s : Nat} {h : PH} (hs : s < 2) (l : h.1 0 18 = nI s) (xr : TxR s T h) : ∃ h', c_X12_copies h = some h' ∧ (∀ k, k < 40 → h'.1 44 k = h.1 43 k) ∧ h'.1 0 62 = T.seed ∧ KP F44 h h' := by
  unfold c_X12_copies
  simp only [nm]
  obtain ⟨y, e, hy⟩ := for_h (B := c_X12_copies_L2b (fun h4 => gd (ixOK (h4.1 0 18) 2) (some (setI h4 0 62 (h4.1 30 (h4.1 0 18).toNatClampNeg))))) (K := fun h4 => gd (ixOK (h4.1 0 18) 2) (some (setI h4 0 62 (h4.1 30 (h4.1 0 18).toNatClampNeg)))) (N := 40) (fun i y => (∀ k, k < i → y.1 44 k = h.1 43 k) ∧ KP (fun p _ => p ≠ 44) h y) (by omega) (fun REC i y hi hp => by
    refine ⟨setI y 44 i (y.1 43 i), ?_, fun k hk => ?_, hp.2.trans (KP.setI (fun q => q rfl))⟩
    · unfold c_X12_copies_L2b
      rw [if_neg (show ¬ (40 : Int32) ≤ nI i from nI_ge (b := 40) hi (by omega))]
      simp only [nm, ixOK_nI hi (show 40 < 2 ^ 31 by omega), gdt, nI_clamp (show i < 2 ^ 31 by omega), nI_1]
    · by_cases q : k = i
      · subst q; rw [setI_eq]; exact hp.2.i (by omega)
      · exact (setI_ne (by omega)).trans (hp.1 k (by omega))) (fun REC y _ => by
    unfold c_X12_copies_L2b
    rw [if_pos (show (40 : Int32) ≤ nI 40 from nI_le (a := 40) (b := 40) (by omega) (by omega))]) h ⟨fun k hk => absurd hk (by omega), KP.rfl⟩
  have ly : y.1 0 18 = nI s := (hy.2.i (by omega)).trans l
  have sy : y.1 30 s = T.seed := (hy.2.i (by omega)).trans xr.seed
  rw [e, ly, live_gd hs, nI_clamp (by omega), sy]
  refine ⟨_, rfl, fun k hk => (setI_ne (by omega)).trans (hy.1 k hk), setI_eq _ _ _ _, (hy.2.mono (fun p k q => q.1)).trans (KP.setI (fun q => q.2 ⟨rfl, rfl⟩))⟩
theorem told_ok {n : Nat} {T : TX} {σ : ST} {s t : Nat} {hc hr : PH} (C : Cor n T σ s t hc hr) (a1 a2 a3 : Int32) : ∃ (v : Int32) (hr' : PH), c_X11_told a1 a2 a3 hc = some v ∧ c_X12_told a1 a2 a3 hr = some (v, hr') ∧ KP F44 hr hr' := by
  have w1 := C.twf.men; have w2 := C.twf.dut; have w3 := C.twf.exc
  have s2 := C.s2
  unfold c_X11_told c_X12_told
  simp only [nm, C.txt, gdT C.t2]
  rcases isExc_cases C.twf C.s2 C.live C.xc C.xr a1 with ⟨e, he, rfl, e1, e2⟩ | ⟨e1, e2⟩
  · rcases isMan_cases C.twf C.s2 C.live C.xc C.xr a2 with ⟨a, ha, rfl, f1, f2⟩ | ⟨f1, f2⟩
    · obtain ⟨h3, c1, c2, _, c3⟩ := copies_ok C.s2 C.live C.xr
      have l3 : h3.1 0 18 = nI s := (c3.i (by unfold F44; omega)).trans C.live
      have x3 : TxR s T h3 := C.xr.fr (c3.mono (fun p k q => by unfold FxR at q; unfold F44; omega))
      have r3 : StV σ h3 := StR.v (C.sr.mv (fun k hk => by rw [Nat.zero_add]; exact c2 k hk))
      simp only [e1, e2, f1, f2, Option.bind_some, one_ne0, if_false, c1, C.sc.freed, C.sc.caught, b_or, tales_ok C.twf C.xc C.sc (told_lt σ), tale_times C.twf he ha, toldTimes_ok C.twf C.s2 l3 x3 r3 he ha, lastTold_ok C.twf C.xc C.sc he ha, toldLast_ok C.twf C.s2 l3 x3 r3 he ha]
      by_cases q : a3 = 0
      · rw [if_pos q, if_pos q]; exact ⟨_, h3, rfl, rfl, c3⟩
      · rw [if_neg q, if_neg q]; exact ⟨_, h3, rfl, rfl, c3⟩
    · simp only [e1, e2, f1, f2, Option.bind_some, one_ne0, if_false, if_true]
      exact ⟨_, hr, rfl, rfl, KP.rfl⟩
  · simp only [e1, e2, Option.bind_some, if_true]
    exact ⟨_, hr, rfl, rfl, KP.rfl⟩
