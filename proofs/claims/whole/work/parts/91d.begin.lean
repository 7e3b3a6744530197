/-- how it all begins with a text -/
def st0 (T : TX) : ST := ST.mk 0 T.coin 0 0 (fun _ => 0) (fun _ => -2) (fun a => if a < T.men then T.trust a else 0)
theorem st0_wf {T : TX} (w : T.wf) (b : Nat) : ST.wf b T 0 (st0 T) := by
  apply ST.wf.mk
  · show 0 ≤ b; omega
  · show T.coin ≤ b + 9999; have := w.coin; omega
  · show 0 < 128; omega
  · intro d hd; show 0 ≤ 3; omega
  · intro d hd
    show (0 : Nat) ≠ 0 ↔ T.dday d < 0 ∨ (T.dday d = 0 ∧ d < 0)
    omega
  · intro d _ hd; rfl
  · intro d hd; exact Or.inl rfl
  · intro d hd h; have h : (0 : Nat) = 1 ∨ (0 : Nat) = 2 := h; omega
  · intro a ha
    show (if a < T.men then T.trust a else 0) ≤ 99
    by_cases z : a < T.men
    · rw [if_pos z]; exact w.trust a z
    · rw [if_neg z]; omega
theorem st0_m (T : TX) : outMask (st0 T) 1 = 0 ∧ outMask (st0 T) 2 = 0 ∧ outMask (st0 T) 3 = 0 := by
  show maskOf (fun _ => (0 : Nat) == 1) 9 = 0 ∧ maskOf (fun _ => (0 : Nat) == 2) 9 = 0 ∧ maskOf (fun _ => (0 : Nat) == 3) 9 = 0
  decide
def FBg (p _k : Nat) : Prop := p < 78 ∨ 80 < p
theorem beginC {t : Nat} {T : TX} {h : PH} (ht : t = 8 ∨ t = 43) (w : T.wf) (xc : TxC t T h) : ∃ h', c_X8_begin 78 t h = some h' ∧ StC 78 (st0 T) h' ∧ KP FBg h h' := by
  have wm := w.men
  obtain ⟨h1, e1⟩ : ∃ x, x = setI h 78 0 (0 : Int32) := ⟨_, rfl⟩
  have c1 : h1.1 t 6 = nI T.coin := by rw [e1, setI_ne (by omega)]; exact xc.coin
  obtain ⟨h2, e2⟩ : ∃ x, x = setI h1 78 1 (nI T.coin) := ⟨_, rfl⟩
  obtain ⟨h3, e3⟩ : ∃ x, x = setI h2 78 2 (0 : Int32) := ⟨_, rfl⟩
  obtain ⟨h4, e4⟩ : ∃ x, x = setI h3 78 3 (0 : Int32) := ⟨_, rfl⟩
  obtain ⟨h5, e5⟩ : ∃ x, x = setI h4 78 4 (0 : Int32) := ⟨_, rfl⟩
  obtain ⟨h6, e6⟩ : ∃ x, x = setI h5 78 5 (0 : Int32) := ⟨_, rfl⟩
  obtain ⟨h7, e7⟩ : ∃ x, x = setI h6 78 6 (0 : Int32) := ⟨_, rfl⟩
  have k7 : KP (fun p _ => p ≠ 78) h h7 := by
    rw [e7, e6, e5, e4, e3, e2, e1]
    exact ((((((KP.setI (fun z => z rfl)).trans (KP.setI (fun z => z rfl))).trans (KP.setI (fun z => z rfl))).trans (KP.setI (fun z => z rfl))).trans (KP.setI (fun z => z rfl))).trans (KP.setI (fun z => z rfl))).trans (KP.setI (fun z => z rfl))
  have v7 : ∀ k, k < 7 → h7.1 78 k = if k = 1 then nI T.coin else 0 := fun k hk => by
    have : k = 0 ∨ k = 1 ∨ k = 2 ∨ k = 3 ∨ k = 4 ∨ k = 5 ∨ k = 6 := by omega
    rcases this with q | q | q | q | q | q | q <;> subst q <;> simp (disch := omega) only [e7, e6, e5, e4, e3, e2, e1, setI_eq, setI_ne] <;> rfl
  obtain ⟨h8, e8, p8, k8⟩ := for_h (B := c_X8_begin_L40b 78 t (fun h15 => nm (0 : Int32) fun v16 => lq2 (c_X8_begin_L79b 78 t (fun h19 => some h19)) fu v16 h15)) (K := fun h15 => nm (0 : Int32) fun v16 => lq2 (c_X8_begin_L79b 78 t (fun h19 => some h19)) fu v16 h15) (N := 5) (fun i y => (∀ a, a < i → y.1 79 a = nI (if a < T.men then T.trust a else 0)) ∧ KP (fun p _ => p ≠ 79) h7 y) (by omega) (fun REC i y hi hp => by
    obtain ⟨p1, p2⟩ := hp
    have ym : y.1 t 0 = nI T.men := (p2.i (by omega)).trans ((k7.i (by omega)).trans xc.men)
    refine ⟨setI y 79 i (nI (if i < T.men then T.trust i else 0)), ?_, fun a ha => ?_, p2.trans (KP.setI (fun q => q rfl))⟩
    · unfold c_X8_begin_L40b c_X9_isMan
      rw [if_neg (show ¬ (5 : Int32) ≤ nI i from nI_ge (b := 5) hi (by omega)), if_neg (nI_pos (n := i) (by omega)), ym, ite_cg (show nI T.men ≤ nI i ↔ T.men ≤ i from nI_leI (by omega) (by omega))]
      by_cases z : i < T.men
      · have yt : y.1 (t + 7 + 1 + i) 0 = nI (T.trust i) := (p2.i (by omega)).trans ((k7.i (by omega)).trans (xc.trust i z))
        rw [if_neg (show ¬ T.men ≤ i by omega), Option.bind_some, if_neg (show ¬ (1 : Int32) = 0 by decide), gdI (k := i) hi (by omega), gdI (k := i) hi (by omega), nI_clamp (n := i) (by omega), yt, nm_eq, nI_1, nm_eq, if_pos z]
      · rw [if_pos (show T.men ≤ i by omega), Option.bind_some, if_pos (Eq.refl (0 : Int32)), gdI (k := i) hi (by omega), nI_clamp (n := i) (by omega), nm_eq, nI_1, nm_eq, if_neg z, nI_0]
    · by_cases q : a = i
      · subst q; rw [setI_eq]
      · rw [setI_ne (by omega)]; exact p1 a (by omega)) (fun REC y _ => by
    unfold c_X8_begin_L40b
    rw [if_pos (show (5 : Int32) ≤ nI 5 from nI_le (a := 5) (b := 5) (by omega) (by omega))]) h7 ⟨fun a ha => absurd ha (by omega), KP.rfl⟩
  obtain ⟨h9, e9, p9, k9⟩ := for_h (B := c_X8_begin_L79b 78 t (fun h19 => some h19)) (K := fun h19 => some h19) (N := 9) (fun i y => (∀ a, a < i → y.1 80 a = -2) ∧ KP (fun p _ => p ≠ 80) h8 y) (by omega) (fun REC i y hi hp => by
    obtain ⟨p1, p2⟩ := hp
    refine ⟨setI y 80 i (-2), ?_, fun a ha => ?_, p2.trans (KP.setI (fun q => q rfl))⟩
    · unfold c_X8_begin_L79b
      rw [if_neg (show ¬ (9 : Int32) ≤ nI i from nI_ge (b := 9) hi (by omega)), gdI (k := i) hi (by omega), nI_clamp (n := i) (by omega), nm_eq, nI_1, nm_eq]
    · by_cases q : a = i
      · subst q; rw [setI_eq]
      · rw [setI_ne (by omega)]; exact p1 a (by omega)) (fun REC y _ => by
    unfold c_X8_begin_L79b
    rw [if_pos (show (9 : Int32) ≤ nI 9 from nI_le (a := 9) (b := 9) (by omega) (by omega))]) h8 ⟨fun a ha => absurd ha (by omega), KP.rfl⟩
  obtain ⟨m1, m2, m3⟩ := st0_m T
  have w78 : ∀ k, k < 7 → h9.1 78 k = if k = 1 then nI T.coin else 0 := fun k hk => by rw [(k9.i (by omega)), (k8.i (by omega))]; exact v7 k hk
  refine ⟨h9, ?_, ?_, ((k7.mono (fun p k z => by unfold FBg at z; omega)).trans (k8.mono (fun p k z => by unfold FBg at z; omega))).trans (k9.mono (fun p k z => by unfold FBg at z; omega))⟩
  · unfold c_X8_begin
    rw [← e1, nm_eq h1, c1, ← e2, nm_eq h2, ← e3, nm_eq h3, ← e4, nm_eq h4, ← e5, nm_eq h5, ← e6, nm_eq h6, ← e7, nm_eq h7, nm_eq, e8, nm_eq, e9]
  · apply StC.set
    · exact (w78 0 (by omega)).trans nI_0.symm
    · exact w78 1 (by omega)
    · exact (w78 2 (by omega)).trans nI_0.symm
    · exact (w78 3 (by omega)).trans nI_0.symm
    · rw [m1]; exact (w78 4 (by omega)).trans nI_0.symm
    · rw [m2]; exact (w78 5 (by omega)).trans nI_0.symm
    · rw [m3]; exact (w78 6 (by omega)).trans nI_0.symm
    · intro a ha; exact (k9.i (by omega)).trans (p8 a ha)
    · intro d hd; exact p9 d hd
def rowV (T : TX) (k : Nat) : Int32 := if k = 1 then nI T.coin else if (4 ≤ k ∧ k < 13) ∨ (22 ≤ k ∧ k < 31) then -2 else if 31 ≤ k ∧ k < 31 + T.men then nI (T.trust (k - 31)) else 0
theorem beginR {s : Nat} {T : TX} {h : PH} (hs : s < 2) (w : T.wf) (l : h.1 0 18 = nI s) (xr : TxR s T h) : ∃ h', c_X12_begins h = some h' ∧ (∀ k, k < 40 → h'.1 44 k = rowV T k) ∧ KP (fun p k => p ≠ 44 ∧ ¬ (p = 0 ∧ k = 62)) h h' := by
  have wm := w.men
  have K3 : ∀ y : PH, True := fun _ => trivial
  obtain ⟨K2, eK2⟩ : ∃ K2 : PH → Option PH, K2 = fun h14 => gd (ixOK (h14.1 0 18) 2) <| nm (setI h14 0 62 (h14.1 30 (h14.1 0 18).toNatClampNeg)) fun h15 => some h15 := ⟨_, rfl⟩
  obtain ⟨K1, eK1⟩ : ∃ K1 : PH → Option PH, K1 = fun h10 => nm (0 : Int32) fun v11 => lq2 (c_X12_begins_L73b K2) fu v11 h10 := ⟨_, rfl⟩
  obtain ⟨K0, eK0⟩ : ∃ K0 : PH → Option PH, K0 = fun h4 => gd (ixOK (h4.1 0 18) 2) <| nm (setI h4 44 1 (h4.1 29 (h4.1 0 18).toNatClampNeg)) fun h5 => nm (0 : Int32) fun v6 => lq2 (c_X12_begins_L38b K1) fu v6 h5 := ⟨_, rfl⟩
  obtain ⟨h1, e1, p1, k1⟩ := for_h (B := c_X12_begins_L2b K0) (K := K0) (N := 40) (fun i y => (∀ a, a < i → y.1 44 a = 0) ∧ KP (fun p _ => p ≠ 44) h y) (by omega) (fun REC i y hi hp => by
    obtain ⟨p1, p2⟩ := hp
    refine ⟨setI y 44 i 0, ?_, fun a ha => ?_, p2.trans (KP.setI (fun q => q rfl))⟩
    · unfold c_X12_begins_L2b
      rw [if_neg (show ¬ (40 : Int32) ≤ nI i from nI_ge (b := 40) hi (by omega)), gdI (k := i) hi (by omega), nI_clamp (n := i) (by omega), nm_eq, nI_1, nm_eq]
    · by_cases q : a = i
      · subst q; rw [setI_eq]
      · rw [setI_ne (by omega)]; exact p1 a (by omega)) (fun REC y _ => by
    unfold c_X12_begins_L2b
    rw [if_pos (show (40 : Int32) ≤ nI 40 from nI_le (a := 40) (b := 40) (by omega) (by omega))]) h ⟨fun a ha => absurd ha (by omega), KP.rfl⟩
  have l1 : h1.1 0 18 = nI s := (k1.i (by omega)).trans l
  have c1 : h1.1 29 s = nI T.coin := (k1.i (by omega)).trans xr.coin
  obtain ⟨h2, e2⟩ : ∃ x, x = setI h1 44 1 (nI T.coin) := ⟨_, rfl⟩
  have k2 : KP (fun p k => p ≠ 44) h1 h2 := by rw [e2]; exact KP.setI (fun z => z rfl)
  have v2 : ∀ k, k < 40 → h2.1 44 k = if k = 1 then nI T.coin else 0 := fun k hk => by
    rw [e2]
    by_cases z : k = 1
    · rw [z, setI_eq, if_pos rfl]
    · rw [setI_ne (by omega), if_neg z]; exact p1 k hk
  obtain ⟨h3, e3, p3, k3⟩ := for_h (B := c_X12_begins_L38b K1) (K := K1) (N := 9) (fun i y => (∀ k, k < 40 → y.1 44 k = if k = 1 then nI T.coin else if (4 ≤ k ∧ k < 4 + i) ∨ (22 ≤ k ∧ k < 22 + i) then -2 else 0) ∧ KP (fun p _ => p ≠ 44) h2 y) (by omega) (fun REC i y hi hp => by
    obtain ⟨p1, p2⟩ := hp
    refine ⟨setI (setI y 44 (4 + i) (-2)) 44 (22 + i) (-2), ?_, fun a ha => ?_, (p2.trans (KP.setI (fun q => q rfl))).trans (KP.setI (fun q => q rfl))⟩
    · unfold c_X12_begins_L38b
      rw [if_neg (show ¬ (9 : Int32) ≤ nI i from nI_ge (b := 9) hi (by omega)), nI_a4, gdI (k := 4 + i) (by omega) (by omega), nI_clamp (n := 4 + i) (by omega), nm_eq, nI_a22, gdI (k := 22 + i) (by omega) (by omega), nI_clamp (n := 22 + i) (by omega), nm_eq, nI_1, nm_eq]
    · by_cases q : a = 22 + i
      · subst q; rw [setI_eq, if_neg (by omega), if_pos (by omega)]
      · rw [setI_ne (by omega)]
        by_cases q2 : a = 4 + i
        · subst q2; rw [setI_eq, if_neg (by omega), if_pos (by omega)]
        · rw [setI_ne (by omega), p1 a ha]
          by_cases q3 : a = 1
          · rw [if_pos q3, if_pos q3]
          · rw [if_neg q3, if_neg q3, ite_cg (show ((4 ≤ a ∧ a < 4 + i) ∨ (22 ≤ a ∧ a < 22 + i)) ↔ ((4 ≤ a ∧ a < 4 + (i + 1)) ∨ (22 ≤ a ∧ a < 22 + (i + 1))) by omega)]) (fun REC y _ => by
    unfold c_X12_begins_L38b
    rw [if_pos (show (9 : Int32) ≤ nI 9 from nI_le (a := 9) (b := 9) (by omega) (by omega))]) h2 ⟨fun k hk => by
      rw [v2 k hk]
      by_cases z : k = 1
      · rw [if_pos z, if_pos z]
      · rw [if_neg z, if_neg z, if_neg (by omega)], KP.rfl⟩
  have l3 : h3.1 0 18 = nI s := (k3.i (by omega)).trans ((k2.i (by omega)).trans l1)
  have x3 : ∀ p k, p ≠ 44 → h3.1 p k = h.1 p k := fun p k hp => (k3.i hp).trans ((k2.i hp).trans (k1.i hp))
  obtain ⟨h4, e4, p4, k4⟩ := for_h (B := c_X12_begins_L73b K2) (K := K2) (N := T.men) (fun i y => (∀ k, k < 40 → y.1 44 k = if k = 1 then nI T.coin else if (4 ≤ k ∧ k < 13) ∨ (22 ≤ k ∧ k < 31) then -2 else if 31 ≤ k ∧ k < 31 + i then nI (T.trust (k - 31)) else 0) ∧ KP (fun p _ => p ≠ 44) h3 y) (by omega) (fun REC i y hi hp => by
    obtain ⟨p1, p2⟩ := hp
    have yl : y.1 0 18 = nI s := (p2.i (by omega)).trans l3
    have ym : y.1 11 s = nI T.men := (p2.i (by omega)).trans ((x3 _ _ (by omega)).trans xr.men)
    have yt : y.1 12 (5 * s + i) = nI (T.trust i) := (p2.i (by omega)).trans ((x3 _ _ (by omega)).trans (xr.trust i hi))
    refine ⟨setI y 44 (31 + i) (nI (T.trust i)), ?_, fun a ha => ?_, p2.trans (KP.setI (fun q => q rfl))⟩
    · unfold c_X12_begins_L73b
      rw [yl, live_gd hs, nI_clamp (n := s) (by omega), ym, if_neg (nI_ge (a := i) (b := T.men) hi (by omega)), nI_mul5, nI_add, gdI (k := 5 * s + i) (by omega) (by omega), nI_clamp (n := 5 * s + i) (by omega), yt, nI_a31, gdI (k := 31 + i) (by omega) (by omega), nI_clamp (n := 31 + i) (by omega), nm_eq, nI_1, nm_eq]
    · by_cases q : a = 31 + i
      · subst q
        rw [setI_eq, if_neg (by omega), if_neg (by omega), if_pos (by omega), show 31 + i - 31 = i by omega]
      · rw [setI_ne (by omega), p1 a ha, ite_cg (show (31 ≤ a ∧ a < 31 + i) ↔ (31 ≤ a ∧ a < 31 + (i + 1)) by omega)]) (fun REC y hp => by
    have yl : y.1 0 18 = nI s := (hp.2.i (by omega)).trans l3
    have ym : y.1 11 s = nI T.men := (hp.2.i (by omega)).trans ((x3 _ _ (by omega)).trans xr.men)
    unfold c_X12_begins_L73b
    rw [yl, live_gd hs, nI_clamp (n := s) (by omega), ym, if_pos (nI_le (Nat.le_refl _) (by omega))]) h3 ⟨fun k hk => by
      rw [p3 k hk]
      by_cases z : k = 1
      · rw [if_pos z, if_pos z]
      · rw [if_neg z, if_neg z]
        by_cases z2 : (4 ≤ k ∧ k < 13) ∨ (22 ≤ k ∧ k < 31)
        · rw [if_pos z2, if_pos (by omega)]
        · rw [if_neg z2, if_neg (by omega), if_neg (by omega)], KP.rfl⟩
  have l4 : h4.1 0 18 = nI s := (k4.i (by omega)).trans l3
  have q4 : h4.1 30 s = T.seed := (k4.i (by omega)).trans ((x3 _ _ (by omega)).trans xr.seed)
  obtain ⟨h5, e5⟩ : ∃ x, x = setI h4 0 62 T.seed := ⟨_, rfl⟩
  have k5 : KP (fun p k => ¬ (p = 0 ∧ k = 62)) h4 h5 := by rw [e5]; exact KP.setI (fun z => z ⟨rfl, rfl⟩)
  have E0 : K0 h1 = K1 h3 := by
    rw [eK0]
    show (gd (ixOK (h1.1 0 18) 2) <| nm (setI h1 44 1 (h1.1 29 (h1.1 0 18).toNatClampNeg)) fun h5 => nm (0 : Int32) fun v6 => lq2 (c_X12_begins_L38b K1) fu v6 h5) = K1 h3
    rw [l1, live_gd hs, nI_clamp (n := s) (by omega), c1, ← e2, nm_eq h2, nm_eq, e3]
  have E1 : K1 h3 = K2 h4 := by
    rw [eK1]
    show (nm (0 : Int32) fun v11 => lq2 (c_X12_begins_L73b K2) fu v11 h3) = K2 h4
    rw [nm_eq, e4]
  have E2 : K2 h4 = some h5 := by
    rw [eK2]
    show (gd (ixOK (h4.1 0 18) 2) <| nm (setI h4 0 62 (h4.1 30 (h4.1 0 18).toNatClampNeg)) fun h15 => some h15) = some h5
    rw [l4, live_gd hs, nI_clamp (n := s) (by omega), q4, ← e5]
    rfl
  refine ⟨h5, ?_, fun k hk => (k5.i (by omega)).trans (p4 k hk), (((k1.mono (fun _ _ z => z.1)).trans (k2.mono (fun _ _ z => z.1))).trans (k3.mono (fun _ _ z => z.1))).trans ((k4.mono (fun _ _ z => z.1)).trans (k5.mono (fun _ _ z => z.2)))⟩
  unfold c_X12_begins
  rw [nm_eq, ← eK2, ← eK1, ← eK0, e1, E0, E1, E2]
theorem row_StR {T : TX} {h : PH} (w : T.wf) (v : ∀ k, k < 40 → h.1 43 k = rowV T k) : StR 43 0 (st0 T) h := by
  have wm := w.men
  have g : ∀ k, k < 40 → h.1 43 (0 + k) = rowV T k := fun k hk => by rw [Nat.zero_add]; exact v k hk
  apply StR.mk
  · rw [g _ (by omega)]; unfold rowV; rw [if_neg (by omega), if_neg (by omega), if_neg (by omega)]; exact nI_0.symm
  · rw [g _ (by omega)]; unfold rowV; rw [if_pos rfl]; rfl
  · rw [g _ (by omega)]; unfold rowV; rw [if_neg (by omega), if_neg (by omega), if_neg (by omega)]; exact nI_0.symm
  · rw [g _ (by omega)]; unfold rowV; rw [if_neg (by omega), if_neg (by omega), if_neg (by omega)]; exact nI_0.symm
  · intro d hd; rw [g _ (by omega)]; unfold rowV; rw [if_neg (by omega), if_pos (by omega)]; rfl
  · intro d hd; rw [g _ (by omega)]; unfold rowV; rw [if_neg (by omega), if_neg (by omega), if_neg (by omega)]; exact nI_0.symm
  · intro d hd; rw [g _ (by omega)]; unfold rowV; rw [if_neg (by omega), if_pos (by omega)]; rfl
  · intro a ha
    rw [g _ (by omega)]; unfold rowV
    rw [if_neg (by omega), if_neg (by omega)]
    show _ = nI (if a < T.men then T.trust a else 0)
    by_cases z : a < T.men
    · rw [if_pos (by omega), if_pos z, show 31 + a - 31 = a by omega]
    · rw [if_neg (by omega), if_neg z]; exact nI_0.symm
