theorem nar_bv : ∀ b, b < 256 → vp_nar .byte (bv b) = bv b := by decide +kernel
/-- what the reading of a text leaves as it is, in the class and in the reference -/
def FCd (t p k : Nat) : Prop := ¬ (4 ≤ p ∧ p ≤ 6) ∧ ¬ (p = 2 ∧ 2 ≤ k ∧ k ≤ 6) ∧ ¬ (t ≤ p ∧ p < t + 35)
def FRd (s p k : Nat) : Prop := ¬ (p = 0 ∧ (k = 2 ∨ k = 4 ∨ (10 ≤ k ∧ k ≤ 16) ∨ k = 19 ∨ k = 20 ∨ k = 46 ∨ k = 52 ∨ k = 56)) ∧ ¬ (2 ≤ p ∧ p ≤ 6) ∧ ¬ (8 ≤ p ∧ p ≤ 10) ∧ ¬ FxRs s p k ∧ p ≠ 40
theorem mid_C {K t : Nat} {bs : Nat → Nat} {hc : PH} (ht : t = 8 ∨ t = 43) (tp : TpC K bs hc) (hw : ∀ k, k < 23 → hc.2.1 7 k = hX11.2.1 7 k) (oth : hc.2.2 2 1 = t) : ∃ N h8, c_X4_parse 2 1 (nI K) hc = lq2 ldC fu (nI 0) h8 ∧ tEnd K bs N ∧ (∀ i, i < N → TokC K bs h8 i) ∧ KP (FCd t) hc h8 ∧ h8.1 2 2 = 0 ∧ h8.1 2 3 = 0 ∧ h8.1 2 5 = 0 ∧ h8.1 2 6 = -1 ∧ (∀ k, k < 8 → h8.1 t k = if k = 6 then 50 else 0) ∧ h8.1 t 17 = 0 ∧ CdC (t + 1) [50, -1] h8 ∧ CdC (t + 4) [10, -1] h8 ∧ h8.2.2 2 1 = t := by
  obtain ⟨h1, e1, k1, N, tE, tk⟩ := cutC tp hw
  have o1 : h1.2.2 2 1 = t := (k1.r (by unfold FTt; omega)).trans oth
  obtain ⟨h3, e3, v3, w3, cp3, cw3, k3⟩ := clearC t h1
  obtain ⟨h4, e4⟩ : ∃ x, x = setI h3 2 2 (0 : Int32) := ⟨_, rfl⟩
  obtain ⟨h5, e5⟩ : ∃ x, x = setI h4 2 3 (0 : Int32) := ⟨_, rfl⟩
  obtain ⟨h6, e6⟩ : ∃ x, x = setI h5 2 4 (-1 : Int32) := ⟨_, rfl⟩
  obtain ⟨h7, e7⟩ : ∃ x, x = setI h6 2 5 (0 : Int32) := ⟨_, rfl⟩
  obtain ⟨h8, e8⟩ : ∃ x, x = setI h7 2 6 (-1 : Int32) := ⟨_, rfl⟩
  have k38 : KP (fun p k => ¬ (p = 2 ∧ 2 ≤ k ∧ k ≤ 6)) h3 h8 := by
    rw [e8, e7, e6, e5, e4]
    exact ((((KP.setI (by omega)).trans (KP.setI (by omega))).trans (KP.setI (by omega))).trans (KP.setI (by omega))).trans (KP.setI (by omega))
  have k18 : KP (fun p k => Fclr t p k ∧ ¬ (p = 2 ∧ 2 ≤ k ∧ k ≤ 6)) h1 h8 := (k3.mono (fun _ _ z => z.1)).trans (k38.mono (fun _ _ z => z.2))
  refine ⟨N, h8, ?_, tE, fun i hi => ?_, (k1.mono (fun p k z => by unfold FCd at z; unfold FTt; omega)).trans (k18.mono (fun p k z => by unfold FCd at z; unfold Fclr FQ; omega)), ?_, ?_, ?_, ?_, fun k hk => (k38.i (by omega)).trans (v3 k hk), (k38.i (by omega)).trans w3, cp3.fr (k38.mono (fun p k z => by omega)), cw3.fr (k38.mono (fun p k z => by omega)), (k18.r (by unfold Fclr FQ; omega)).trans o1⟩
  · unfold c_X4_parse
    rw [e1, Option.bind_some, o1, nm_eq t, tOK_o ht, e3, Option.bind_some, ← e4, nm_eq h4, ← e5, nm_eq h5, ← e6, nm_eq h6, ← e7, nm_eq h7, ← e8, nm_eq h8, nm_eq, nI_0]
    unfold ldC
    rfl
  · obtain ⟨a, b, c⟩ := tk i hi
    exact ⟨(k18.i (by unfold Fclr FQ; omega)).trans a, (k18.i (by unfold Fclr FQ; omega)).trans b, (k18.j (by unfold Fclr FQ; omega)).trans c⟩
  · rw [e8, setI_ne (by omega), e7, setI_ne (by omega), e6, setI_ne (by omega), e5, setI_ne (by omega), e4, setI_eq]
  · rw [e8, setI_ne (by omega), e7, setI_ne (by omega), e6, setI_ne (by omega), e5, setI_eq]
  · rw [e8, setI_ne (by omega), e7, setI_eq]
  · rw [e8, setI_eq]
theorem mid_R {K s : Nat} {bs : Nat → Nat} {hr : PH} (hs : s < 2) (hK : K ≤ 2000) (a02 : hr.1 0 2 = nI K) (live : hr.1 0 18 = nI (1 - s)) (tb : ∀ i, i < K → bs i < 256 ∧ hr.1 1 i = bv (bs i)) (hw : ∀ k, k < 23 → hr.2.1 7 k = hX12.2.1 7 k) : ∃ N hA, c_X12_read hr = lq1 ldR fu hA ∧ rEnd K bs N ∧ (∀ i, i < N → TokR K bs hA i) ∧ KP (FRd s) hr hA ∧ hA.1 0 2 = 0 ∧ hA.1 0 11 = 0 ∧ hA.1 0 12 = 0 ∧ hA.1 0 13 = 0 ∧ hA.1 0 15 = 0 ∧ hA.1 0 19 = nI s ∧ hA.1 0 20 = 0 ∧ hA.1 0 46 = nI (130 * s) ∧ hA.1 0 52 = nI (420 * s) ∧ (∀ p, p = 11 ∨ p = 15 ∨ p = 21 ∨ p = 25 ∨ p = 26 ∨ p = 28 ∨ p = 29 ∨ p = 30 → hA.1 p s = if p = 29 then 50 else 0) ∧ (∀ i, i < 5 → hA.1 14 (5 * s + i) = 0) ∧ (∀ i, i < 2 → hA.1 31 (2 * s + i) = 0 ∧ hA.1 32 (2 * s + i) = 0) := by
  obtain ⟨KK, eKK⟩ : ∃ KK : PH → Option (Int32 × PH), KK = fun h5 => nm (setI h5 0 2 0) fun h6 => (c_X12_cut h6).bind fun h7 => nm (setI h7 0 11 0) fun h8 => nm (setI h8 0 12 0) fun h9 => nm (setI h9 0 13 0) fun h10 => nm (setI h10 0 15 0) fun h11 => nm (setI h11 0 19 (1 - (h11.1 0 18))) fun h12 => nm (setI h12 0 20 0) fun h13 => (c_X12_plain (h13.1 0 19) h13).bind fun h14 => nm (setI h14 0 46 (130 * (h14.1 0 19))) fun h15 => nm (setI h15 0 52 (420 * (h15.1 0 19))) fun h16 => lq1 ldR fu h16 := ⟨_, rfl⟩
  obtain ⟨h1, e1⟩ : ∃ x, x = setI hr 0 4 (nI K) := ⟨_, rfl⟩
  have k1 : KP (fun p k => ¬ (p = 0 ∧ k = 4)) hr h1 := by rw [e1]; exact KP.setI (fun z => z ⟨rfl, rfl⟩)
  have a4 : h1.1 0 4 = nI K := by rw [e1, setI_eq]
  obtain ⟨h5, e5, p5, k5⟩ := for_h (B := c_X12_read_L10b KK) (K := KK) (N := K) (fun i y => (∀ a, a < i → y.1 2 a = bv (bs a)) ∧ KP (fun p _ => p ≠ 2) h1 y) (by omega) (fun REC i y hi hp => by
    obtain ⟨p1, p2⟩ := hp
    have y4 : y.1 0 4 = nI K := (p2.i (by omega)).trans a4
    have yt : y.1 1 i = bv (bs i) := (p2.i (by omega)).trans ((k1.i (by omega)).trans (tb i hi).2)
    refine ⟨setI y 2 i (bv (bs i)), ?_, fun a ha => ?_, p2.trans (KP.setI (fun q => q rfl))⟩
    · unfold c_X12_read_L10b
      rw [y4, if_neg (nI_ge (a := i) (b := K) hi (by omega)), gdI (k := i) (by omega) (by omega), gdI (k := i) (by omega) (by omega), nI_clamp (n := i) (by omega), yt, nar_bv _ (tb i hi).1, nm_eq, nI_1, nm_eq]
    · by_cases q : a = i
      · subst q; rw [setI_eq]
      · rw [setI_ne (by omega)]; exact p1 a (by omega)) (fun REC y hp => by
    have y4 : y.1 0 4 = nI K := (hp.2.i (by omega)).trans a4
    unfold c_X12_read_L10b
    rw [y4, if_pos (nI_le (Nat.le_refl _) (by omega))]) h1 ⟨fun a ha => absurd ha (by omega), KP.rfl⟩
  obtain ⟨h6, e6⟩ : ∃ x, x = setI h5 0 2 (0 : Int32) := ⟨_, rfl⟩
  have k6 : KP (fun p k => ¬ (p = 0 ∧ k = 2)) h5 h6 := by rw [e6]; exact KP.setI (fun z => z ⟨rfl, rfl⟩)
  have k06 : KP (fun p k => ¬ (p = 0 ∧ (k = 2 ∨ k = 4)) ∧ p ≠ 2) hr h6 := ((k1.mono (fun p k z => by omega)).trans (k5.mono (fun p k z => by omega))).trans (k6.mono (fun p k z => by omega))
  have tp : TpR K bs h6 := ⟨hK, (k6.i (by omega)).trans ((k5.i (by omega)).trans a4), fun i hi => ⟨(tb i hi).1, (k6.i (by omega)).trans (p5 i hi)⟩⟩
  obtain ⟨h7, e7, k7, N, _, rE, tk⟩ := cutR tp (fun k hk => (k06.j (by omega)).trans (hw k hk))
  obtain ⟨h8, e8⟩ : ∃ x, x = setI h7 0 11 (0 : Int32) := ⟨_, rfl⟩
  obtain ⟨h9, e9⟩ : ∃ x, x = setI h8 0 12 (0 : Int32) := ⟨_, rfl⟩
  obtain ⟨h10, e10⟩ : ∃ x, x = setI h9 0 13 (0 : Int32) := ⟨_, rfl⟩
  obtain ⟨h11, e11⟩ : ∃ x, x = setI h10 0 15 (0 : Int32) := ⟨_, rfl⟩
  obtain ⟨h12, e12⟩ : ∃ x, x = setI h11 0 19 (nI s) := ⟨_, rfl⟩
  obtain ⟨h13, e13⟩ : ∃ x, x = setI h12 0 20 (0 : Int32) := ⟨_, rfl⟩
  have k711 : KP (fun p k => ¬ (p = 0 ∧ (k = 11 ∨ k = 12 ∨ k = 13 ∨ k = 15))) h7 h11 := by
    rw [e11, e10, e9, e8]
    exact (((KP.setI (by omega)).trans (KP.setI (by omega))).trans (KP.setI (by omega))).trans (KP.setI (by omega))
  have l11 : h11.1 0 18 = nI (1 - s) := (k711.i (by omega)).trans ((k7.i (by unfold FRt; omega)).trans ((k06.i (by omega)).trans live))
  have m1 : (1 : Int32) - nI (1 - s) = nI s := by rw [show (1 : Int32) = nI 1 from rfl, pk_sub (by omega), show 1 - (1 - s) = s by omega]
  have k1113 : KP (fun p k => ¬ (p = 0 ∧ (k = 19 ∨ k = 20))) h11 h13 := by
    rw [e13, e12]
    exact (KP.setI (by omega)).trans (KP.setI (by omega))
  have s13 : h13.1 0 19 = nI s := by rw [e13, setI_ne (by omega), e12, setI_eq]
  obtain ⟨h14, e14, v14, w14, x14, k14⟩ := plainR hs h13
  have s14 : h14.1 0 19 = nI s := (k14.i (by unfold FxRs; omega)).trans s13
  obtain ⟨h15, e15⟩ : ∃ x, x = setI h14 0 46 (nI (130 * s)) := ⟨_, rfl⟩
  have s15 : h15.1 0 19 = nI s := by rw [e15, setI_ne (by omega)]; exact s14
  obtain ⟨h16, e16⟩ : ∃ x, x = setI h15 0 52 (nI (420 * s)) := ⟨_, rfl⟩
  have k1416 : KP (fun p k => ¬ (p = 0 ∧ (k = 46 ∨ k = 52))) h14 h16 := by
    rw [e16, e15]
    exact (KP.setI (by omega)).trans (KP.setI (by omega))
  have k1316 : KP (fun p k => ¬ FxRs s p k ∧ ¬ (p = 0 ∧ (k = 46 ∨ k = 52))) h13 h16 := (k14.mono (fun _ _ z => z.1)).trans (k1416.mono (fun _ _ z => z.2))
  have k716 : KP (fun p k => ¬ FxRs s p k ∧ ¬ (p = 0 ∧ (k = 11 ∨ k = 12 ∨ k = 13 ∨ k = 15 ∨ k = 19 ∨ k = 20 ∨ k = 46 ∨ k = 52))) h7 h16 := ((k711.mono (fun p k z => by omega)).trans (k1113.mono (fun p k z => by omega))).trans (k1316.mono (fun p k z => ⟨z.1, by omega⟩))
  have h0 : ∀ k, k = 11 ∨ k = 12 ∨ k = 13 ∨ k = 15 → h11.1 0 k = 0 := fun k hk => by
    rcases hk with q | q | q | q <;> subst q <;> simp (disch := omega) only [e11, e10, e9, e8, setI_eq, setI_ne]
  have g0 : ∀ k, k = 11 ∨ k = 12 ∨ k = 13 ∨ k = 15 → h16.1 0 k = 0 := fun k hk => (k1316.i (by unfold FxRs; omega)).trans ((k1113.i (by omega)).trans (h0 k hk))
  refine ⟨N, h16, ?_, rE, fun i hi => ?_, ((k06.mono (fun p k z => by unfold FRd at z; omega)).trans (k7.mono (fun p k z => by unfold FRd at z; unfold FRt; omega))).trans (k716.mono (fun p k z => by unfold FRd at z; exact ⟨z.2.2.2.1, by have := z.1; omega⟩)), ?_, g0 11 (by omega), g0 12 (by omega), g0 13 (by omega), g0 15 (by omega), ?_, ?_, ?_, by rw [e16, setI_eq], fun p hp => ?_, fun i hi => ?_, fun i hi => ?_⟩
  · have E : KK h5 = lq1 ldR fu h16 := by
      rw [eKK]
      show (nm (setI h5 0 2 0) fun h6 => (c_X12_cut h6).bind fun h7 => nm (setI h7 0 11 0) fun h8 => nm (setI h8 0 12 0) fun h9 => nm (setI h9 0 13 0) fun h10 => nm (setI h10 0 15 0) fun h11 => nm (setI h11 0 19 (1 - (h11.1 0 18))) fun h12 => nm (setI h12 0 20 0) fun h13 => (c_X12_plain (h13.1 0 19) h13).bind fun h14 => nm (setI h14 0 46 (130 * (h14.1 0 19))) fun h15 => nm (setI h15 0 52 (420 * (h15.1 0 19))) fun h16 => lq1 ldR fu h16) = _
      rw [← e6, nm_eq h6, e7, Option.bind_some, ← e8, nm_eq h8, ← e9, nm_eq h9, ← e10, nm_eq h10, ← e11, nm_eq h11, l11, m1, ← e12, nm_eq h12, ← e13, nm_eq h13, s13, e14, Option.bind_some, s14, show (130 : Int32) * nI s = nI (130 * s) from (Int32.ofNat_mul 130 s).symm, ← e15, nm_eq h15, s15, show (420 : Int32) * nI s = nI (420 * s) from (Int32.ofNat_mul 420 s).symm, ← e16, nm_eq h16]
    unfold c_X12_read
    rw [a02, ← e1, nm_eq h1, nm_eq]
    refine Eq.trans ?_ (e5.trans E)
    rw [eKK]
    unfold ldR
    rfl
  · obtain ⟨a, b, c, d⟩ := tk i hi
    exact ⟨(k716.i (by unfold FxRs; omega)).trans a, (k716.i (by unfold FxRs; omega)).trans b, fun z => (k716.i (by unfold FxRs; omega)).trans (c z), fun z1 z2 z3 => (k716.j (by unfold FxRs; omega)).trans (d z1 z2 z3)⟩
  · rw [(k716.i (by unfold FxRs; omega)), (k7.i (by unfold FRt; omega)), e6, setI_eq]
  · exact (k1416.i (by omega)).trans s14
  · rw [(k1316.i (by unfold FxRs; omega)), e13, setI_eq]
  · rw [e16, setI_ne (by omega), e15, setI_eq]
  · rw [(k1416.i (by omega))]; exact v14 p hp
  · rw [(k1416.i (by omega))]; exact w14 i hi
  · rw [(k1416.i (by omega)), (k1416.i (by omega))]; exact x14 i hi
theorem read_mid {n : Nat} {T : TX} {σ : ST} {s t : Nat} {Lp Lw : LawT} {hc hr : PH} (I : Iv1 n T σ s t Lp Lw hc hr) : ∃ K bs N hc' hr', c_X4_parse 2 1 (hc.1 0 1) hc = c_X4_parse_j264 2 1 hc' ∧ c_X12_read hr = c_X12_read_j134 hr' ∧ KP (FCd (51 - t)) hc hc' ∧ KP (FRd (1 - s)) hr hr' ∧ hr'.1 0 2 = 0 ∧ hr'.1 0 19 = nI (1 - s) ∧ PT K bs N hc' hr' ∧ (BK hc' hr' ∨ ∃ p', RS K bs N p' hc' hr' ∧ BD (51 - t) (1 - s) p' hc' hr') := by
  have C := I.cl.cor
  have t2 := C.t2; have s2 := C.s2
  obtain ⟨K, hK, a1, a2, tb⟩ := I.tape
  obtain ⟨w1, w2⟩ := I.words
  have ex : ∀ i, ∃ b, i < K → b < 256 ∧ hc.1 1 i = bv b := fun i => by
    by_cases h : i < K
    · obtain ⟨b, hb⟩ := (tb i h).2
      exact ⟨b, fun _ => hb⟩
    · exact ⟨0, fun z => absurd z h⟩
  obtain ⟨bs, hbs⟩ : ∃ bs : Nat → Nat, ∀ i, i < K → bs i < 256 ∧ hc.1 1 i = bv (bs i) := ⟨fun i => (ex i).choose, fun i hi => (ex i).choose_spec hi⟩
  have ht : 51 - t = 8 ∨ 51 - t = 43 := by omega
  have hs : 1 - s < 2 := by omega
  obtain ⟨N, h8, e8, tE, tk, k8, r2, r3, r5, r6, v8, v17, cp, cw, oth⟩ := mid_C (K := K) (bs := bs) ht ⟨hK, hbs⟩ w1 I.other
  obtain ⟨N', hA, eA, rE, tkR, kA, z2, z11, z12, z13, z15, z19, z20, z46, z52, vA, v14, v31⟩ := mid_R (K := K) (bs := bs) (hr := hr) hs hK a2 (by rw [C.live]; exact congrArg nI (by omega)) (fun i hi => ⟨(hbs i hi).1, (tb i hi).1.symm.trans (hbs i hi).2⟩) w2
  have nn := tEnd_le tE rE
  have pt : PT K bs N h8 hA := ⟨hK, tE, fun i hi => ⟨tk i hi, tkR i (by omega)⟩⟩
  have rs : RS K bs N 0 h8 hA := ⟨r3, z13, r2.trans nI_0.symm, z11.trans nI_0.symm, tEnd_pos tE, Or.inl ⟨r5, z15, r6⟩⟩
  have bd : BD (51 - t) (1 - s) 0 h8 hA := BD0 hs v8 v17 cp cw vA v14 v31 z19 oth z12 z20 z46 z52
  obtain ⟨hc', hr', e1, e2, kc, kr, pt', h⟩ := loop2 ht hs fu fu 0 0 h8 hA (by unfold fu; omega) (by unfold fu; omega) (Nat.le_refl _) pt rs bd
  refine ⟨K, bs, N, hc', hr', by rw [a1, e8]; exact e1, by rw [eA]; exact e2, k8.trans (kc.mono (fun p k z => by unfold FCd at z; unfold FPc; omega)), kA.trans (kr.mono (fun p k z => by unfold FRd at z; unfold FPr; exact ⟨by omega, z.2.2.1, z.2.2.2.1, z.2.2.2.2⟩)), (kr.i (by unfold FPr FxRs; omega)).trans z2, (kr.i (by unfold FPr FxRs; omega)).trans z19, pt', h⟩
