theorem b2_some {α β γ : Type} (v : α) (h : β) (f : α → β → Option γ) : bind2 (some (v, h)) f = f v h := rfl
theorem NW.up {c m e m' e' s k : Nat} {L : Nat → List Nat} {so nu : Nat → Nat} {l : List Nat} (nw : NW c L so nu m e) (hc : c < 27) (ol : okL l) (hs : s < 5) (hk : k < 100) (h0 : s = 0 → k < m') (h1 : s = 1 → k < e') (hm : m ≤ m') (he : e ≤ e') : NW (c + 1) (upN L c l) (upN so c s) (upN nu c k) m' e' := ⟨by omega, fun i hi => by
  by_cases q : i = c
  · rw [q, upN_eq, upN_eq, upN_eq]; exact ⟨ol, hs, hk, h0, h1⟩
  · rw [upN_ne q, upN_ne q, upN_ne q]
    obtain ⟨a1, a2, a3, a4, a5⟩ := nw.2 i (by omega)
    exact ⟨a1, a2, a3, fun z => by have := a4 z; omega, fun z => by have := a5 z; omega⟩⟩
theorem DIS.up {c : Nat} {L : Nat → List Nat} {l : List Nat} (d : DIS c L) (h : ∀ i, i < c → ¬ L i = l) : DIS (c + 1) (upN L c l) := fun i j hi hj e => by
  by_cases q : i = c
  · by_cases r : j = c
    · rw [q, r]
    · rw [q, upN_eq, upN_ne r] at e; exact absurd e.symm (h j (by omega))
  · by_cases r : j = c
    · rw [r, upN_eq, upN_ne q] at e; exact absurd e (h i (by omega))
    · rw [upN_ne q, upN_ne r] at e; exact d i j (by omega) (by omega) e
theorem addManC {t m : Nat} {v1 v2 : Int32} {h : PH} (ht : t = 8 ∨ t = 43) (hm : m < 5) (a : h.1 t 0 = nI m) : ∃ h', c_X9_addMan t v1 v2 h = some h' ∧ h'.1 t 0 = nI (m + 1) ∧ h'.1 (t + 7 + 1 + m) 0 = v1 ∧ h'.1 (t + 7 + 1 + m) 1 = v2 ∧ h'.1 (t + 7 + 1 + m) 2 = 0 ∧ KP (fun p k => ¬ (p = t ∧ k = 0) ∧ ¬ p = t + 7 + 1 + m) h h' := by
  unfold c_X9_addMan
  have r1 : ∀ (g : PH) (j : Nat) (v : Int32), (setI g (t + 7 + 1 + m) j v).1 t 0 = g.1 t 0 := fun g j v => setI_ne (by omega)
  rw [a, if_neg (show ¬ (5 : Int32) ≤ nI m from nI_ge (b := 5) hm (by omega)), gdI (k := m) (by omega) (by omega), nI_clamp (n := m) (by omega), nm_eq, r1, a, gdI (k := m) (by omega) (by omega), nI_clamp (n := m) (by omega), nm_eq, r1, r1, a, gdI (k := m) (by omega) (by omega), nI_clamp (n := m) (by omega), nm_eq, r1, r1, r1, a, nI_1, nm_eq]
  exact ⟨_, rfl, setI_eq _ _ _ _, by rw [setI_ne (by omega), setI_ne (by omega), setI_ne (by omega), setI_eq], by rw [setI_ne (by omega), setI_ne (by omega), setI_eq], by rw [setI_ne (by omega), setI_eq], ((KP.setI (fun z => z.2 rfl)).trans (KP.setI (fun z => z.2 rfl))).trans ((KP.setI (fun z => z.2 rfl)).trans (KP.setI (fun z => z.1 ⟨rfl, rfl⟩)))⟩
theorem man2 {K N p t s : Nat} {bs : Nat → Nat} {hc hr : PH} (pt : PT K bs N hc hr) (rs : RS K bs N p hc hr) (bd : BD t s p hc hr) (ht : t = 8 ∨ t = 43) (hs : s < 2) (q : tK K bs p = 64) : OUT K bs N t s p hc hr ((c_X4_tellMan 2 hc).bind fun h12 => c_X4_accept 2 59 h12) (c_X12_tellOne hr) := by
  obtain ⟨T, c, L, so, nu, b, k, al, sd⟩ := bd
  have hN := pt.2.1.1; have h5 := rs.2.2.2.2.1
  have b1 := al.men; have b2 := al.exc; have b3 := al.dut; have b4 := al.tst; have bc := al.cc
  unfold c_X4_tellMan c_X12_tellOne
  rw [(rs.kindR pt).1, (rs.kindR pt (α := PH) (o := none)).2, q, if_pos (show nI (kM 64) = (20 : Int32) from rfl), al.side, live_gd hs, nI_clamp (n := s) (by omega), al.rm, nm_eq, al.oth, gdT ht, al.cm]
  obtain ⟨hc1, hr1, e1, e2, kc1, kr1, pt1, h1⟩ := open2 (wd := 64) (most := 5) pt rs (by omega) (by omega) q al.men (by omega) (a1 := 64) (a3 := 5) rfl rfl
  rw [e1, e2, Option.bind_some, Option.bind_some]
  have ho1 : hc1.2.2 2 1 = t := (kc1.r (by unfold GC; omega)).trans al.oth
  rw [nm_eq, ho1, gdT ht]
  rcases h1 with bk | ⟨rs1, lt, s51⟩
  · obtain ⟨x1, y1⟩ := bk.num (a1 := 0) (a2 := 99)
    obtain ⟨x2, y2⟩ := bk.num (a1 := 0) (a2 := 9)
    rw [bk.nn, Option.bind_some, y1, b2_some, nm_eq, y2, b2_some, nm_eq, if_neg bk.nc, Option.bind_some, bk.acc, if_neg bk.nr]
    exact ⟨_, _, rfl, rfl, kc1.mono (fun _ _ z => GC_fp z), kr1.mono (fun _ _ z => GR_fp z), pt1, Or.inl bk⟩
  · have m1 : hc1.1 t 0 = nI T.men := (kc1.i (by unfold GC; omega)).trans al.cm
    have sd1 : hr1.1 0 19 = nI s := (kr1.i (by unfold GR; omega)).trans al.side
    have rm1 : hr1.1 11 s = nI T.men := (kr1.i (by unfold GR; omega)).trans al.rm
    rw [m1, if_pos rs1.2.1]
    unfold c_X12_tellMan
    rw [sd1, live_gd hs, nI_clamp (n := s) (by omega), rm1, nI_mul5, nI_add, nm_eq]
    obtain ⟨hc4, v4, hr3, e3, e4, kc4, kr3, pt4, w4, f4⟩ := name2 (s := 0) (k := T.men) pt1 (Or.inl rs1) (al.nc.fr (kc1.mono (fun p k z => by unfold FNc at z; unfold GC; omega))) (al.nr.fr (kr1.mono (fun p k z => by unfold FNr at z; unfold GR; omega))) al.nw ht ho1 (by omega) (a1 := 64) (a2 := nI T.men) rfl rfl
    rw [e3, e4, Option.bind_some, b2_some, nm_eq]
    obtain ⟨v7, hc6, r5, hr6, e5, e6, kc6, kr6, pt6, w6, f6⟩ := num2 (lo := 0) (hi := 99) pt4 w4 (by omega) (by omega) (a1 := 0) (a2 := 99) rfl rfl
    rw [e5, e6, b2_some, b2_some, nm_eq, gdI (k := 5 * s + T.men) (by omega) (by omega), nI_clamp (n := 5 * s + T.men) (by omega), nm_eq]
    obtain ⟨hr7, e7⟩ : ∃ x, x = setI hr6 12 (5 * s + T.men) r5 := ⟨_, rfl⟩
    rw [← e7]
    have k7 : KP (fun p k => ¬ (p = 12 ∧ k = 5 * s + T.men)) hr6 hr7 := by rw [e7]; exact KP.setI (fun z => z ⟨rfl, rfl⟩)
    have pt7 := pt6.fr2 KP.rfl (k7.mono (fun p k z => by omega))
    have w7 := w6.fr KP.rfl (k7.mono (fun p k z => by unfold FWr at z; omega))
    obtain ⟨v10, hc9, r8, hr9, e8, e9, kc9, kr9, pt9, w9, f9⟩ := num2 (lo := 0) (hi := 9) pt7 w7 (by omega) (by omega) (a1 := 0) (a2 := 9) rfl rfl
    rw [e8, e9, b2_some, b2_some, nm_eq, gdI (k := 5 * s + T.men) (by omega) (by omega), nm_eq]
    obtain ⟨hr10, e10⟩ : ∃ x, x = setI hr9 13 (5 * s + T.men) r8 := ⟨_, rfl⟩
    rw [← e10]
    have k10 : KP (fun p k => ¬ (p = 13 ∧ k = 5 * s + T.men)) hr9 hr10 := by rw [e10]; exact KP.setI (fun z => z ⟨rfl, rfl⟩)
    have pt10 := pt9.fr2 KP.rfl (k10.mono (fun p k z => by omega))
    have w10 := w9.fr KP.rfl (k10.mono (fun p k z => by unfold FWr at z; omega))
    have kC9 : KP (GC2 t) hc hc9 := ((kc1.mono (fun _ _ z => z.1)).trans kc4).trans ((kc6.mono (fun _ _ z => z.1)).trans (kc9.mono (fun _ _ z => z.1)))
    have kR10 : KP (fun p k => GR p k ∧ ¬ ((p = 12 ∨ p = 13) ∧ k = 5 * s + T.men)) hr hr10 := ((kr1.mono (fun _ _ z => z.1)).trans (kr3.mono (fun _ _ z => z.1))).trans (((kr6.mono (fun _ _ z => z.1)).trans (k7.mono (fun p k z => by omega))).trans ((kr9.mono (fun _ _ z => z.1)).trans (k10.mono (fun p k z => by omega))))
    rcases w10 with rs10 | bk
    · have ho9 : hc9.2.2 2 1 = t := (kC9.r (by unfold GC2 GC FNc; omega)).trans al.oth
      have m9 : hc9.1 t 0 = nI T.men := (kC9.i (by unfold GC2 GC FNc; omega)).trans al.cm
      rw [if_pos rs10.1, nm_eq, ho9, gdT ht]
      obtain ⟨hc12, e12, c0, c1, c2, c3, k12⟩ := addManC (v1 := v7) (v2 := v10) ht lt m9
      rw [e12, Option.bind_some]
      have pt12 := pt10.fr2 (k12.mono (fun p k z => by omega)) KP.rfl
      have w12 : WP K bs N (p + 1 + 1 + 1 + 1) hc12 hr10 := Or.inl (rs10.fr (k12.mono (fun p k z => by unfold FWc at z; omega)) KP.rfl)
      obtain ⟨hc13, hr11, e13, e11, kc13, kr11, pt13, w13, f13⟩ := acc3 (k := 59) pt12 w12 (by omega) (by omega) rfl (c := 59) (c' := 4) rfl rfl
      show OUT K bs N t s p hc hr (c_X4_accept 2 59 hc12) _
      rw [e13, e11, Option.bind_some]
      have kC13 : KP (fun p k => GC2 t p k ∧ ¬ (p = t ∧ k = 0) ∧ ¬ p = t + 7 + 1 + T.men) hc hc13 := ((kC9.mono (fun _ _ z => z.1)).trans (k12.mono (fun _ _ z => z.2))).trans (kc13.mono (fun _ _ z => z.1.1))
      have kR11 : KP (fun p k => GR p k ∧ ¬ ((p = 12 ∨ p = 13) ∧ k = 5 * s + T.men)) hr hr11 := kR10.trans (kr11.mono (fun _ _ z => z.1))
      have fpC : KP (FPc t) hc hc13 := kC13.mono (fun p k z => by unfold FPc at z; unfold GC2 GC FNc; omega)
      rcases w13 with rs13 | bk
      · have sd11 : hr11.1 0 19 = nI s := (kR11.i (by unfold GR; omega)).trans al.side
        have rm11 : hr11.1 11 s = nI T.men := (kR11.i (by unfold GR; omega)).trans al.rm
        obtain ⟨z10, t13, s13⟩ := f13 rs13.2.1
        obtain ⟨z7, _, n2, n2b, n2c, n2d, n2e⟩ := f9 ((k10.i (by omega)).symm.trans z10)
        obtain ⟨z3, _, n1, n1b, n1c, n1d, n1e⟩ := f6 ((k7.i (by omega)).symm.trans z7)
        obtain ⟨_, _, v4e, lp4, ol, nc4, d4⟩ := f4 z3
        have nr11 : NR c L so nu hr11 := al.nr.fr (kR11.mono (fun p k z => by unfold FNr at z; unfold GR; omega))
        have kr3_11 : KP (fun p k => GR p k ∧ ¬ ((p = 12 ∨ p = 13) ∧ k = 5 * s + T.men)) hr3 hr11 := (((kr6.mono (fun _ _ z => z.1)).trans (k7.mono (fun p k z => by omega))).trans ((kr9.mono (fun _ _ z => z.1)).trans (k10.mono (fun p k z => by omega)))).trans (kr11.mono (fun _ _ z => z.1))
        have lp11 : hr11.2.1 6 (p + 1) = lN (vB 27 (LT K bs (p + 1))) := (kr3_11.j (by unfold GR; omega)).trans lp4
        obtain ⟨hr12, e14, nr12, k14⟩ := notesR (s := 0) (k := T.men) nr11 (by omega) (by omega) lp11
        rw [rs13.2.1, if_pos (show (0 : Int32) ≤ 0 by decide), sd11, live_gd hs, nI_clamp (n := s) (by omega), rm11, v4e, show (0 : Int32) = nI (min 0 2) from rfl, e14, Option.bind_some, nm_eq]
        have sd12 : hr12.1 0 19 = nI s := (k14.i (by unfold FNr; omega)).trans sd11
        have rm12 : hr12.1 11 s = nI T.men := (k14.i (by unfold FNr; omega)).trans rm11
        rw [sd12, live_gd hs, live_gd hs, nI_clamp (n := s) (by omega), rm12, nI_1, nm_eq]
        obtain ⟨hr14, e15⟩ : ∃ x, x = setI hr12 11 s (nI (T.men + 1)) := ⟨_, rfl⟩
        rw [← e15]
        have k15 : KP (fun p k => ¬ (p = 11 ∧ k = s)) hr12 hr14 := by rw [e15]; exact KP.setI (fun z => z ⟨rfl, rfl⟩)
        have k11_14 : KP (fun p k => ¬ FNr p k ∧ ¬ (p = 11 ∧ k = s)) hr11 hr14 := (k14.mono (fun _ _ z => z.1)).trans (k15.mono (fun _ _ z => z.2))
        have kR14 : KP (fun p k => GR p k ∧ ¬ FNr p k ∧ ¬ (p = 11 ∧ k = s) ∧ ¬ ((p = 12 ∨ p = 13) ∧ k = 5 * s + T.men)) hr hr14 := (kR11.mono (fun _ _ z => ⟨z.1, z.2.2.2⟩)).trans (k11_14.mono (fun _ _ z => ⟨z.2.1, z.2.2.1⟩))
        have nc13 : NC t (c + 1) (upN L c (LT K bs (p + 1))) (upN so c 0) (upN nu c T.men) hc13 := nc4.fr ((((kc6.mono (fun p k z => by unfold FNc at z; unfold GC; omega)).trans (kc9.mono (fun p k z => by unfold FNc at z; unfold GC; omega))).trans (k12.mono (fun p k z => by unfold FNc at z; omega))).trans (kc13.mono (fun p k z => by unfold FNc at z; unfold GC; omega)))
        have i12 : hr14.1 12 (5 * s + T.men) = nI n1 := by
          rw [(k11_14.i (by unfold FNr; omega)), (kr11.i (by unfold GR; omega)), (k10.i (by omega)), (kr9.i (by unfold GR; omega)), e7, setI_eq]; exact n1d
        have i13 : hr14.1 13 (5 * s + T.men) = nI n2 := by
          rw [(k11_14.i (by unfold FNr; omega)), (kr11.i (by unfold GR; omega)), e10, setI_eq]; exact n2d
        have j0 : hc13.1 t 0 = nI (T.men + 1) := (kc13.i (by unfold GC; omega)).trans c0
        have j1 : hc13.1 (t + 7 + 1 + T.men) 0 = nI n1 := (kc13.i (by unfold GC; omega)).trans (c1.trans n1c)
        have j2 : hc13.1 (t + 7 + 1 + T.men) 1 = nI n2 := (kc13.i (by unfold GC; omega)).trans (c2.trans n2c)
        have j3 : hc13.1 (t + 7 + 1 + T.men) 2 = nI 0 := (kc13.i (by unfold GC; omega)).trans (c3.trans nI_0.symm)
        have i11 : hr14.1 11 s = nI (T.men + 1) := by rw [e15, setI_eq]
        refine ⟨_, _, rfl, rfl, fpC, kR14.mono (fun p k z => by unfold FPr FxRs at z; unfold GR FNr; omega), pt13.fr2 KP.rfl (k11_14.mono (fun p k z => by unfold FNr; omega)), Or.inr ⟨p + 1 + 1 + 1 + 1 + 1, by omega, rs13.fr KP.rfl (k11_14.mono (fun p k z => by unfold FWr at z; unfold FNr; omega)), T.aMan n1 n2 0, c + 1, upN L c (LT K bs (p + 1)), upN so c 0, upN nu c T.men, b, k, ?_, ?_⟩⟩
        · refine AL.mk lt b2 b3 b4 al.kno (show c + 1 = T.men + 1 + T.exc + T.dut + T.tst by omega) j0 ((kC13.i (by unfold GC2 GC FNc; omega)).trans al.ce) ((kC13.i (by unfold GC2 GC FNc; omega)).trans al.cd) ((kC13.i (by unfold GC2 GC FNc; omega)).trans al.ct) ((kC13.i (by unfold GC2 GC FNc; omega)).trans al.ck) i11 ((kR14.i (by unfold GR FNr; omega)).trans al.re) ((kR14.i (by unfold GR FNr; omega)).trans al.rd) ((kR14.i (by unfold GR FNr; omega)).trans al.rt) ((kR14.i (by unfold GR FNr; omega)).trans al.rk) nc13 (nr12.fr (k15.mono (fun p k z => by unfold FNr at z; omega))) (al.nw.up (by omega) ol (by omega) (by omega) (fun _ => Nat.lt_succ_self _) (fun z => absurd z (by omega)) (Nat.le_succ _) (Nat.le_refl _)) ((kR14.i (by unfold GR FNr; omega)).trans al.side) ((kC13.r (by unfold GC2 GC FNc; omega)).trans al.oth) ((kR14.i (by unfold GR FNr; omega)).trans al.opn) ((kR14.i (by unfold GR FNr; omega)).trans al.br) ((kR14.i (by unfold GR FNr; omega)).trans al.co) (by have := al.b4; omega) (by have := al.kp; omega)
        · intro z
          have y9 : hc9.1 2 5 = 0 := (k12.i (by omega)).symm.trans (s13.symm.trans z)
          obtain ⟨y6, _, l2⟩ := n2e y9
          obtain ⟨y4, _, l1⟩ := n1e y6
          obtain ⟨y1, dn⟩ := d4 y4
          obtain ⟨Lp, Lw, S⟩ := sd (s51.symm.trans y1)
          refine ⟨Lp, Lw, SD.mk (TX.aMan_wf S.wf lt l1 l2 (by omega)) (TxC.aMan S.xc S.wf lt (kC13.mono (fun p k z => by unfold KcT at z; unfold GC2 GC FNc; omega)) j0 j1 j2 j3) (TxR.aMan S.xr S.wf lt (kR14.mono (fun p k z => by unfold KrT at z; unfold GR FNr; omega)) i11 i12 i13 ?_) (S.dis.up dn) ?_ (S.lcp.fr (kC13.mono (fun p k z => by unfold GC2 GC FNc; omega))) (S.lcw.fr (kC13.mono (fun p k z => by unfold GC2 GC FNc; omega))) (S.lrp.fr (Nat.le_refl _) (Nat.le_refl _) (kR14.mono (fun p k z => by unfold FLr at z; unfold GR FNr; omega))) (S.lrw.fr (Nat.le_refl _) (Nat.le_refl _) (kR14.mono (fun p k z => by unfold FLr at z; unfold GR FNr; omega))) S.cp S.cw⟩
          · exact ((kR14.i (by unfold GR FNr; omega)).trans (S.kn T.men (Nat.le_refl _) lt)).trans nI_0.symm
          · intro i hi hi5
            have hi : T.men + 1 ≤ i := hi
            exact (kR14.i (by unfold GR FNr; omega)).trans (S.kn i (by omega) hi5)
      · rw [if_neg bk.nl]
        exact ⟨_, _, rfl, rfl, fpC, kR11.mono (fun p k z => by unfold FPr FxRs at z; unfold GR; omega), pt13, Or.inl bk⟩
    · rw [if_neg bk.nc, Option.bind_some, bk.acc, nm_eq hr10, bk.must, Option.bind_some, if_neg bk.nl]
      exact ⟨_, _, rfl, rfl, kC9.mono (fun _ _ z => GC2_fp ht z), kR10.mono (fun p k z => by unfold FPr FxRs at z; unfold GR; omega), pt10, Or.inl bk⟩
