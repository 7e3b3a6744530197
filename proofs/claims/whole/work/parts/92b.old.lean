theorem old_Iv {n : Nat} {T : TX} {σ : ST} {s t : Nat} {Lp Lw : LawT} {hc hr hc' hr' : PH} (I : Iv1 n T σ s t Lp Lw hc hr) (kc : KP (fun p k => FCd (51 - t) p k ∧ ¬ (p = 0 ∧ (k = 1 ∨ k = 2))) hc hc') (kr : KP (fun p k => FRd (1 - s) p k ∧ ¬ (p = 0 ∧ k = 17)) hr hr') (a : hc'.1 0 1 = 0) (b : hr'.1 0 2 = 0) (c : hc'.1 0 2 = hr'.1 0 17) : Iv (n + 1) hc' hr' := by
  have C0 := I.cl.cor
  have t2 := C0.t2; have s2 := C0.s2
  refine ⟨T, σ, s, t, Lp, Lw, Iv1.mk (CL.mk (Cor.mk C0.twf C0.s2 ((kr.i (by unfold FRd FxRs; omega)).trans C0.live) t2 ((kc.r (by unfold FCd; omega)).trans C0.txt) (C0.xc.fr C0.twf (kc.mono ?_)) (C0.xr.frs C0.twf (kr.mono ?_)) (wf_up (by omega) C0.swf) (C0.sc.fr (kc.mono ?_)) (C0.sr.fr (kr.mono ?_))) (I.cl.lc.fr (kc.mono ?_)) (I.cl.lr.frs (kr.mono ?_)) I.cl.cp I.cl.cw) ⟨0, by omega, a.trans nI_0.symm, b.trans nI_0.symm, fun i hi => absurd hi (by omega)⟩ c (iSaid_fr (kc.mono ?_) (kr.mono ?_) I.said) (iKnown_fr (kc.mono ?_) (kr.mono ?_) I.known) (iUndo_fr (Nat.le_succ n) (kc.mono ?_) (kr.mono ?_) I.undo) (iSlots_fr (Nat.le_succ n) (kc.mono ?_) (kr.mono ?_) I.slots) ((kc.r (by unfold FCd; omega)).trans I.other) (iWords_fr (kc.mono ?_) (kr.mono ?_) I.words)⟩
  · intro p k z; unfold FxC at z; unfold FCd; omega
  · intro p k z; unfold FxRs at z; unfold FRd FxRs; omega
  · intro p k z; unfold FCd; omega
  · intro p k z; unfold FRd FxRs; omega
  · intro p k z; unfold FxC at z; unfold FCd; omega
  · intro p k z; unfold FxRs at z; unfold FRd FxRs; omega
  · intro p k z; unfold FsC at z; unfold FCd; omega
  · intro p k z; unfold FsR at z; unfold FRd FxRs; omega
  · intro p k z; unfold FkC at z; unfold FCd; omega
  · intro p k z; unfold FkR at z; unfold FRd FxRs; omega
  · intro p k z; unfold FuC at z; unfold FCd; omega
  · intro p k z; unfold FuR at z; unfold FRd FxRs; omega
  · intro p k z; unfold FlC at z; unfold FCd; omega
  · intro p k z; unfold FlR at z; unfold FRd FxRs; omega
  · intro p k z; unfold FCd; omega
  · intro p k z; unfold FRd FxRs; omega
/-- a text that isn't taken -/
theorem bad_Iv {n u : Nat} {T : TX} {σ : ST} {s t : Nat} {Lp Lw : LawT} {hc hr h1 r1 : PH} {w : Int32} (I : Iv1 n T σ s t Lp Lw hc hr) (kC : KP (FCd (51 - t)) hc h1) (kR : KP (FRd (1 - s)) hr r1) (z2 : r1.1 0 2 = 0) (u1 : 0 < u) (u2 : u < 100) (eP : c_X4_parse 2 1 (hc.1 0 1) hc = some (nI u, h1)) (eF : c_X4_placeOfFault 2 h1 = some w) (eR : c_X12_read hr = some (nI u, setI r1 0 17 w)) : ∃ (v : Int32) (hc' hr' : PH), c_X11_read hc = some (v, hc') ∧ c_X12_read hr = some (v, hr') ∧ Iv (n + 1) hc' hr' := by
  have k2 : KP (fun p k => ¬ (p = 0 ∧ (k = 1 ∨ k = 2))) h1 (setI (setI h1 0 2 w) 0 1 0) := (KP.setI (by omega)).trans (KP.setI (by omega))
  have k3 : KP (fun p k => ¬ (p = 0 ∧ k = 17)) r1 (setI r1 0 17 w) := KP.setI (fun z => z ⟨rfl, rfl⟩)
  refine ⟨nI u, setI (setI h1 0 2 w) 0 1 0, setI r1 0 17 w, ?_, eR, old_Iv I ((kC.mono (fun _ _ z => z.1)).trans (k2.mono (fun _ _ z => z.2))) ((kR.mono (fun _ _ z => z.1)).trans (k3.mono (fun _ _ z => z.2))) (setI_eq _ _ _ _) ((k3.i (by omega)).trans z2) (by rw [setI_ne (by omega), setI_eq, setI_eq])⟩
  unfold c_X11_read
  rw [eP, b2_some, nm_eq, eF, Option.bind_some, nm_eq, nm_eq, if_neg (nI_nz u1 (by omega))]
def FNw (p k : Nat) : Prop := ¬ (p = 0 ∧ (k = 1 ∨ k = 2 ∨ k = 4)) ∧ ¬ (p = 2 ∧ k = 1) ∧ ¬ (78 ≤ p ∧ p ≤ 80) ∧ ¬ (p = 84 ∧ k = 2) ∧ ¬ (p = 229 ∧ k = 4) ∧ ¬ (p = 234 ∧ k = 4) ∧ p ≠ 216
def FMw (p k : Nat) : Prop := ¬ (p = 0 ∧ (k = 17 ∨ k = 18 ∨ k = 62 ∨ k = 63 ∨ k = 67 ∨ k = 72)) ∧ p ≠ 43 ∧ p ≠ 44 ∧ p ≠ 54
theorem setR_r (h : PH) (p k v : Nat) : (setR h p k v).2.2 p k = v := by
  show (if p = p then (if k = k then v else h.2.2 p k) else h.2.2 p k) = v
  rw [if_pos rfl, if_pos rfl]
theorem anew_C {t t' : Nat} {T : TX} {h : PH} (ht : t = 8 ∨ t = 43) (ht' : t' = 8 ∨ t' = 43) (w : T.wf) (xc : TxC t' T h) (a : h.2.2 0 4 = t) (b : h.2.2 2 1 = t') : ∃ h', c_X11_beginAnew h = some h' ∧ StC 78 (st0 T) h' ∧ h'.2.2 0 4 = t' ∧ h'.2.2 2 1 = t ∧ h'.1 84 2 = 0 ∧ h'.1 229 4 = 0 ∧ h'.1 234 4 = 0 ∧ (∀ i, i < 3 → h'.1 216 i = 0) ∧ KP (fun p k => ¬ (p = 0 ∧ k = 4) ∧ ¬ (p = 2 ∧ k = 1) ∧ ¬ (78 ≤ p ∧ p ≤ 80) ∧ ¬ (p = 84 ∧ k = 2) ∧ ¬ (p = 229 ∧ k = 4) ∧ ¬ (p = 234 ∧ k = 4) ∧ p ≠ 216) h h' := by
  obtain ⟨h3, e3⟩ : ∃ x, x = setR h 0 4 t' := ⟨_, rfl⟩
  have k3 : KP (fun p k => ¬ (p = 0 ∧ k = 4)) h h3 := by rw [e3]; exact KP.setR (fun z => z ⟨rfl, rfl⟩)
  obtain ⟨h4, e4⟩ : ∃ x, x = setR h3 2 1 t := ⟨_, rfl⟩
  have k4 : KP (fun p k => ¬ (p = 2 ∧ k = 1)) h3 h4 := by rw [e4]; exact KP.setR (fun z => z ⟨rfl, rfl⟩)
  have a4 : h4.2.2 0 4 = t' := by rw [(k4.r (by omega)), e3]; exact setR_r _ _ _ _
  have b4 : h4.2.2 2 1 = t := by rw [e4]; exact setR_r _ _ _ _
  have xc4 : TxC t' T h4 := xc.fr w ((k3.mono (fun p k z => by unfold FxC at z; omega)).trans (k4.mono (fun p k z => by unfold FxC at z; omega)))
  obtain ⟨h6, e6, sc6, k6⟩ := beginC ht' w xc4
  obtain ⟨h7, e7⟩ : ∃ x, x = setI h6 84 2 (0 : Int32) := ⟨_, rfl⟩
  obtain ⟨h8, e8⟩ : ∃ x, x = setI h7 229 4 (0 : Int32) := ⟨_, rfl⟩
  obtain ⟨h9, e9⟩ : ∃ x, x = setI h8 234 4 (0 : Int32) := ⟨_, rfl⟩
  have k69 : KP (fun p k => ¬ (p = 84 ∧ k = 2) ∧ ¬ (p = 229 ∧ k = 4) ∧ ¬ (p = 234 ∧ k = 4)) h6 h9 := by
    rw [e9, e8, e7]
    exact ((KP.setI (by omega)).trans (KP.setI (by omega))).trans (KP.setI (by omega))
  obtain ⟨h10, e10, p10, k10⟩ := for_h (B := c_X11_beginAnew_L58b (fun h13 => some h13)) (K := fun h13 => some h13) (N := 3) (fun i y => (∀ a, a < i → y.1 216 a = 0) ∧ KP (fun p _ => p ≠ 216) h9 y) (by omega) (fun REC i y hi hp => by
    obtain ⟨p1, p2⟩ := hp
    refine ⟨setI y 216 i 0, ?_, fun a ha => ?_, p2.trans (KP.setI (fun q => q rfl))⟩
    · unfold c_X11_beginAnew_L58b
      rw [if_neg (show ¬ (3 : Int32) ≤ nI i from nI_ge (b := 3) hi (by omega)), gdI (k := i) hi (by omega), nI_clamp (n := i) (by omega), nar0, nm_eq, nI_1, nm_eq]
    · by_cases q : a = i
      · subst q; rw [setI_eq]
      · rw [setI_ne (by omega)]; exact p1 a (by omega)) (fun REC y _ => by
    unfold c_X11_beginAnew_L58b
    rw [if_pos (show (3 : Int32) ≤ nI 3 from nI_le (a := 3) (b := 3) (by omega) (by omega))]) h9 ⟨fun a ha => absurd ha (by omega), KP.rfl⟩
  refine ⟨h10, ?_, ?_, ?_, ?_, ?_, ?_, ?_, p10, ?_⟩
  · unfold c_X11_beginAnew c_X5_clear c_X0_clear c_X6_clear
    rw [a, nm_eq t, tOK_o ht, b, nm_eq t', tOK_o ht', ← e3, nm_eq h3, ← e4, nm_eq h4, a4, nm_eq t', tOK_o ht', e6, Option.bind_some, ← e7, nm_eq h7, Option.bind_some, ← e8, nm_eq h8, Option.bind_some, ← e9, nm_eq h9, Option.bind_some, nm_eq, e10]
  · exact sc6.fr ((k69.mono (fun p k z => by omega)).trans (k10.mono (fun p k z => by omega)))
  · rw [(k10.r (by omega)), (k69.r (by omega)), (k6.r (by unfold FBg; omega))]; exact a4
  · rw [(k10.r (by omega)), (k69.r (by omega)), (k6.r (by unfold FBg; omega))]; exact b4
  · rw [(k10.i (by omega)), e9, setI_ne (by omega), e8, setI_ne (by omega), e7, setI_eq]
  · rw [(k10.i (by omega)), e9, setI_ne (by omega), e8, setI_eq]
  · rw [(k10.i (by omega)), e9, setI_eq]
  · exact (((k3.mono (fun _ _ z => z.1)).trans (k4.mono (fun _ _ z => z.2.1))).trans (k6.mono (fun p k z => by unfold FBg; omega))).trans ((k69.mono (fun p k z => by omega)).trans (k10.mono (fun p k z => by omega)))
theorem anew_R {s : Nat} {T : TX} {h : PH} (hs : s < 2) (w : T.wf) (xr : TxR s T h) (z13 : h.1 0 13 = 0) (z15 : h.1 0 15 = 0) (z19 : h.1 0 19 = nI s) : ∃ h', c_X12_read_j164 (-1) h = some (0, h') ∧ StR 43 0 (st0 T) h' ∧ h'.1 0 17 = -1 ∧ h'.1 0 18 = nI s ∧ h'.1 0 63 = 0 ∧ h'.1 0 67 = 0 ∧ h'.1 0 72 = 0 ∧ (∀ i, i < 3 → h'.1 54 i = 0) ∧ KP FMw h h' := by
  obtain ⟨h2, e2⟩ : ∃ x, x = setI h 0 17 (-1 : Int32) := ⟨_, rfl⟩
  obtain ⟨h3, e3⟩ : ∃ x, x = setI h2 0 18 (nI s) := ⟨_, rfl⟩
  have k2 : KP (fun p k => ¬ (p = 0 ∧ k = 17)) h h2 := by rw [e2]; exact KP.setI (fun z => z ⟨rfl, rfl⟩)
  have k3 : KP (fun p k => ¬ (p = 0 ∧ k = 18)) h2 h3 := by rw [e3]; exact KP.setI (fun z => z ⟨rfl, rfl⟩)
  have xr3 : TxR s T h3 := xr.fr ((k2.mono (fun p k z => by unfold FxR at z; omega)).trans (k3.mono (fun p k z => by unfold FxR at z; omega)))
  obtain ⟨h4, e4, v4, k4⟩ := beginR hs w (show h3.1 0 18 = nI s by rw [e3, setI_eq]) xr3
  obtain ⟨h5, e5, v5, k5⟩ := keepsRow_ok h4
  obtain ⟨h6, e6⟩ : ∃ x, x = setI h5 0 63 (0 : Int32) := ⟨_, rfl⟩
  obtain ⟨h7, e7⟩ : ∃ x, x = setI h6 0 67 (0 : Int32) := ⟨_, rfl⟩
  obtain ⟨h8, e8⟩ : ∃ x, x = setI h7 0 72 (0 : Int32) := ⟨_, rfl⟩
  have k58 : KP (fun p k => ¬ (p = 0 ∧ (k = 63 ∨ k = 67 ∨ k = 72))) h5 h8 := by
    rw [e8, e7, e6]
    exact ((KP.setI (by omega)).trans (KP.setI (by omega))).trans (KP.setI (by omega))
  obtain ⟨h9, e9, p9, k9⟩ := for_h (B := c_X12_read_L224b (fun h30 => some ((0 : Int32), h30))) (K := fun h30 => some ((0 : Int32), h30)) (N := 3) (fun i y => (∀ a, a < i → y.1 54 a = 0) ∧ KP (fun p _ => p ≠ 54) h8 y) (by omega) (fun REC i y hi hp => by
    obtain ⟨p1, p2⟩ := hp
    refine ⟨setI y 54 i 0, ?_, fun a ha => ?_, p2.trans (KP.setI (fun q => q rfl))⟩
    · unfold c_X12_read_L224b
      rw [if_neg (show ¬ (3 : Int32) ≤ nI i from nI_ge (b := 3) hi (by omega)), gdI (k := i) hi (by omega), nI_clamp (n := i) (by omega), nar0, nm_eq, nI_1, nm_eq]
    · by_cases q : a = i
      · subst q; rw [setI_eq]
      · rw [setI_ne (by omega)]; exact p1 a (by omega)) (fun REC y _ => by
    unfold c_X12_read_L224b
    rw [if_pos (show (3 : Int32) ≤ nI 3 from nI_le (a := 3) (b := 3) (by omega) (by omega))]) h8 ⟨fun a ha => absurd ha (by omega), KP.rfl⟩
  have k39 : KP (fun p k => ¬ (p = 0 ∧ (k = 62 ∨ k = 63 ∨ k = 67 ∨ k = 72)) ∧ p ≠ 43 ∧ p ≠ 44 ∧ p ≠ 54) h3 h9 := ((k4.mono (fun p k z => by omega)).trans (k5.mono (fun p k z => by omega))).trans ((k58.mono (fun p k z => by omega)).trans (k9.mono (fun p k z => by omega)))
  refine ⟨h9, ?_, ?_, ?_, ?_, ?_, ?_, ?_, p9, ((k2.mono (fun p k z => by unfold FMw at z; omega)).trans (k3.mono (fun p k z => by unfold FMw at z; omega))).trans (k39.mono (fun p k z => by unfold FMw at z; omega))⟩
  · unfold c_X12_read_j164
    rw [← e2, nm_eq h2, show h2.1 0 13 = 0 from (k2.i (by omega)).trans z13, if_pos (show (0 : Int32) ≤ 0 by decide), show h2.1 0 15 = 0 from (k2.i (by omega)).trans z15, if_pos (show (0 : Int32) ≤ 0 by decide), show h2.1 0 19 = nI s from (k2.i (by omega)).trans z19, ← e3, nm_eq h3, e4, Option.bind_some, e5, Option.bind_some, ← e6, nm_eq h6, ← e7, nm_eq h7, ← e8, nm_eq h8, nm_eq, e9]
  · refine row_StR w (fun k hk => ?_)
    rw [(k9.i (by omega)), (k58.i (by omega)), v5 k hk]
    exact v4 k hk
  · rw [(k39.i (by omega)), (k3.i (by omega)), e2, setI_eq]
  · rw [(k39.i (by omega)), e3, setI_eq]
  · rw [(k9.i (by omega)), e8, setI_ne (by omega), e7, setI_ne (by omega), e6, setI_eq]
  · rw [(k9.i (by omega)), e8, setI_ne (by omega), e7, setI_eq]
  · rw [(k9.i (by omega)), e8, setI_eq]
