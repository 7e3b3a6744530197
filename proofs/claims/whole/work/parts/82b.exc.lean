theorem addExcC {t m : Nat} {v1 v2 v3 v4 v5 : Int32} {h : PH} (ht : t = 8 ∨ t = 43) (hm : m < 7) (a : h.1 t 1 = nI m) : ∃ h', c_X9_addExcuse t v1 v2 v3 v4 v5 h = some h' ∧ h'.1 t 1 = nI (m + 1) ∧ h'.1 (t + 13 + 1 + m) 0 = v1 ∧ h'.1 (t + 13 + 1 + m) 1 = v2 ∧ h'.1 (t + 13 + 1 + m) 2 = v3 ∧ h'.1 (t + 13 + 1 + m) 3 = v4 ∧ h'.1 (t + 13 + 1 + m) 4 = v5 ∧ KP (fun p k => ¬ (p = t ∧ k = 1) ∧ ¬ p = t + 13 + 1 + m) h h' := by
  unfold c_X9_addExcuse
  have r1 : ∀ (g : PH) (j : Nat) (v : Int32), (setI g (t + 13 + 1 + m) j v).1 t 1 = g.1 t 1 := fun g j v => setI_ne (by omega)
  rw [a, if_neg (show ¬ (7 : Int32) ≤ nI m from nI_ge (b := 7) hm (by omega)), gdI (k := m) (by omega) (by omega), nI_clamp (n := m) (by omega), nm_eq, nm_eq, nm_eq, nm_eq, nm_eq, r1, r1, r1, r1, r1, a, nI_1, nm_eq]
  refine ⟨_, rfl, setI_eq _ _ _ _, ?_, ?_, ?_, ?_, ?_, ?_⟩
  · rw [setI_ne (by omega), setI_ne (by omega), setI_ne (by omega), setI_ne (by omega), setI_ne (by omega), setI_eq]
  · rw [setI_ne (by omega), setI_ne (by omega), setI_ne (by omega), setI_ne (by omega), setI_eq]
  · rw [setI_ne (by omega), setI_ne (by omega), setI_ne (by omega), setI_eq]
  · rw [setI_ne (by omega), setI_ne (by omega), setI_eq]
  · rw [setI_ne (by omega), setI_eq]
  · exact (((KP.setI (fun z => z.2 rfl)).trans (KP.setI (fun z => z.2 rfl))).trans ((KP.setI (fun z => z.2 rfl)).trans (KP.setI (fun z => z.2 rfl)))).trans ((KP.setI (fun z => z.2 rfl)).trans (KP.setI (fun z => z.1 ⟨rfl, rfl⟩)))
theorem j88_ok {t o : Nat} {x1 x2 x3 x4 : Int32} {h : PH} (ht : t = 8 ∨ t = 43) (hb : h.1 2 3 = 0) (ho : h.2.2 2 1 = t) (ho1 : o ≤ 1) : c_X4_tellExcuse_j88 2 x1 x2 x3 x4 (nI o) h = c_X9_addExcuse t x1 x2 x3 x4 (nI o) h := by
  unfold c_X4_tellExcuse_j88
  have bs : ∀ o : Option PH, (o.bind fun h => some h) = o := fun o => by cases o <;> rfl
  rw [if_pos hb, nm_eq, ho, gdT ht]
  have : o = 0 ∨ o = 1 := by omega
  rcases this with z | z
  · rw [z, if_pos (show nI 0 = 0 from nI_0), bs]; rfl
  · rw [z, if_neg (show ¬ nI 1 = 0 by decide), bs]; rfl
theorem once2 {K N q idx : Nat} {bs : Nat → Nat} {hc hr : PH} (pt : PT K bs N hc hr) (w : WP K bs N q hc hr) (hi : idx < 14) (x1 x2 x3 x4 v4 : Int32) : ∃ (o : Nat) (hcX hrX : PH) (q' : Nat), o ≤ 1 ∧ q ≤ q' ∧ ((c_X4_kind 2 hc).bind fun r17 => if r17 = 74 then nm (1 : Int32) fun v23 => if v23 = 0 then c_X4_tellExcuse_j88 2 x1 x2 x3 x4 v23 hc else (c_X4_accept 2 74 hc).bind fun h24 => c_X4_tellExcuse_j88 2 x1 x2 x3 x4 v23 h24 else nm (0 : Int32) fun v18 => if v18 = 0 then c_X4_tellExcuse_j88 2 x1 x2 x3 x4 v18 hc else (c_X4_accept 2 74 hc).bind fun h22 => c_X4_tellExcuse_j88 2 x1 x2 x3 x4 v18 h22) = c_X4_tellExcuse_j88 2 x1 x2 x3 x4 (nI o) hcX ∧ (if hr.1 0 13 = 0 then (c_X12_is 30 hr).bind fun r23 => if r23 = 0 then gd (ixOK (nI idx) 14) <| nm (setI hr 20 idx (vp_nar .boolean 0)) fun h24 => gd (ixOK (nI idx) 14) <| if (h24.1 20 idx) = 0 then c_X12_tellExcuse_j115 v4 h24 else (c_X12_goesOn h24).bind fun h25 => c_X12_tellExcuse_j115 v4 h25 else gd (ixOK (nI idx) 14) <| nm (setI hr 20 idx (vp_nar .boolean 1)) fun h26 => gd (ixOK (nI idx) 14) <| if (h26.1 20 idx) = 0 then c_X12_tellExcuse_j115 v4 h26 else (c_X12_goesOn h26).bind fun h27 => c_X12_tellExcuse_j115 v4 h27 else gd (ixOK (nI idx) 14) <| nm (setI hr 20 idx (vp_nar .boolean 0)) fun h17 => gd (ixOK (nI idx) 14) <| if (h17.1 20 idx) = 0 then c_X12_tellExcuse_j115 v4 h17 else (c_X12_goesOn h17).bind fun h22 => c_X12_tellExcuse_j115 v4 h22) = c_X12_tellExcuse_j115 v4 hrX ∧ KP GC hc hcX ∧ KP (fun p k => GR p k ∧ ¬ (p = 20 ∧ k = idx)) hr hrX ∧ PT K bs N hcX hrX ∧ WP K bs N q' hcX hrX ∧ (hrX.1 0 13 = 0 → hr.1 0 13 = 0 ∧ hcX.1 2 5 = hc.1 2 5 ∧ hrX.1 20 idx = nI o) := by
  have ks : ∀ v, KP (fun p k => ¬ (p = 20 ∧ k = idx)) hr (setI hr 20 idx v) := fun v => KP.setI (fun z => z ⟨rfl, rfl⟩)
  have pts : ∀ v, PT K bs N hc (setI hr 20 idx v) := fun v => pt.fr2 KP.rfl ((ks v).mono (fun p k z => by omega))
  have kw : ∀ v, KP FWr hr (setI hr 20 idx v) := fun v => (ks v).mono (fun p k z => by unfold FWr at z; omega)
  have g : ∀ {α : Type} {o : Option α}, gd (ixOK (nI idx) 14) o = o := gdI hi (by omega)
  rcases w with rs | bk
  · rw [rs.kind pt, Option.bind_some, if_pos rs.2.1, rs.is pt (k := 74) (by omega) rfl (c := 30) rfl, Option.bind_some, if_0i, ite_cg (nI_lit (show tK K bs q < 2 ^ 31 by have := tkind_lt K bs (tS K bs q); unfold tK; omega) 74 (by omega) (M := 74) rfl)]
    by_cases z : tK K bs q = 74
    · rw [if_pos z, if_neg (fun y => y z), nm_eq, if_neg (show ¬ (1 : Int32) = 0 by decide), g, nm_eq, g, setI_eq, nar1, if_neg (show ¬ (1 : Int32) = 0 by decide)]
      obtain ⟨hcX, hrX, a, b, kc, kr, ptX, wX, s5, _⟩ := goes2 (k := 74) (pts 1) (rs.fr KP.rfl (kw 1)) (by omega) (by omega) z (c := 74) rfl
      rw [a, b]
      refine ⟨1, hcX, hrX, q + 1, by omega, by omega, rfl, rfl, kc, ((ks 1).mono (fun p k y => y.2)).trans (kr.mono (fun p k y => y.1)), ptX, wX, fun _ => ⟨rs.2.1, s5, ?_⟩⟩
      rw [(kr.i (by unfold GR; omega)), setI_eq]; rfl
    · rw [if_neg z, if_pos z, nm_eq, if_pos (Eq.refl (0 : Int32)), g, nm_eq, g, setI_eq, nar0, if_pos (Eq.refl (0 : Int32))]
      refine ⟨0, hc, _, q, by omega, by omega, rfl, rfl, KP.rfl, (ks 0).mono (fun p k y => y.2), pts 0, Or.inl (rs.fr KP.rfl (kw 0)), fun _ => ⟨rs.2.1, rfl, ?_⟩⟩
      rw [setI_eq]; rfl
  · rw [bk.kind, Option.bind_some, if_neg (show ¬ (1 : Int32) = 74 by decide), nm_eq, if_pos (Eq.refl (0 : Int32)), if_neg bk.nr, g, nm_eq, g, setI_eq, nar0, if_pos (Eq.refl (0 : Int32))]
    have bk' := bk.fr KP.rfl (kw 0)
    exact ⟨0, hc, _, q, by omega, by omega, rfl, rfl, KP.rfl, (ks 0).mono (fun p k y => y.2), pts 0, Or.inr bk', fun y => absurd y bk'.nr⟩
theorem exc2 {K N p t s : Nat} {bs : Nat → Nat} {hc hr : PH} (pt : PT K bs N hc hr) (rs : RS K bs N p hc hr) (bd : BD t s p hc hr) (ht : t = 8 ∨ t = 43) (hs : s < 2) (q : tK K bs p = 65) : OUT K bs N t s p hc hr ((c_X4_tellExcuse 2 hc).bind fun h12 => c_X4_accept 2 59 h12) (c_X12_tellOne hr) := by
  obtain ⟨T, c, L, so, nu, b, k, al, sd⟩ := bd
  have hN := pt.2.1.1; have h5 := rs.2.2.2.2.1
  have b1 := al.men; have b2 := al.exc; have b3 := al.dut; have b4 := al.tst; have bc := al.cc
  unfold c_X4_tellExcuse c_X12_tellOne
  rw [(rs.kindR pt).1, (rs.kindR pt (α := PH) (o := none)).2, q, if_neg (show ¬ nI (kM 65) = (20 : Int32) by decide), if_pos (show nI (kM 65) = (21 : Int32) from rfl), al.side, live_gd hs, nI_clamp (n := s) (by omega), al.re, nm_eq, al.oth, gdT ht, al.ce]
  obtain ⟨hc1, hr1, e1, e2, kc1, kr1, pt1, h1⟩ := open2 (wd := 65) (most := 7) pt rs (by omega) (by omega) q al.exc (by omega) (a1 := 65) (a3 := 7) rfl rfl
  rw [e1, e2, Option.bind_some, Option.bind_some]
  have ho1 : hc1.2.2 2 1 = t := (kc1.r (by unfold GC; omega)).trans al.oth
  rw [nm_eq, ho1, gdT ht]
  rcases h1 with bk | ⟨rs1, lt, s51⟩
  · obtain ⟨x1, y1⟩ := bk.num (a1 := 0) (a2 := 99)
    obtain ⟨x2, y2⟩ := bk.num (a1 := 0) (a2 := 9)
    rw [bk.nn, Option.bind_some, y1, b2_some, nm_eq, y1, b2_some, nm_eq, y2, b2_some, nm_eq, y1, b2_some, nm_eq, bk.kind, Option.bind_some, if_neg (show ¬ (1 : Int32) = 74 by decide), nm_eq, if_pos (Eq.refl (0 : Int32))]
    unfold c_X4_tellExcuse_j88
    rw [if_neg bk.nc, Option.bind_some, bk.acc, if_neg bk.nr]
    exact ⟨_, _, rfl, rfl, kc1.mono (fun _ _ z => GC_fp z), kr1.mono (fun _ _ z => GR_fp z), pt1, Or.inl bk⟩
  · have m1 : hc1.1 t 1 = nI T.exc := (kc1.i (by unfold GC; omega)).trans al.ce
    have sd1 : hr1.1 0 19 = nI s := (kr1.i (by unfold GR; omega)).trans al.side
    have rm1 : hr1.1 15 s = nI T.exc := (kr1.i (by unfold GR; omega)).trans al.re
    rw [m1, if_pos rs1.2.1]
    unfold c_X12_tellExcuse
    rw [sd1, live_gd hs, nI_clamp (n := s) (by omega), rm1, nI_mul7, nI_add, nm_eq]
    obtain ⟨hc4, v4, hr3, e3, e4, kc4, kr3, pt4, w4, f4⟩ := name2 (s := 1) (k := T.exc) pt1 (Or.inl rs1) (al.nc.fr (kc1.mono (fun p k z => by unfold FNc at z; unfold GC; omega))) (al.nr.fr (kr1.mono (fun p k z => by unfold FNr at z; unfold GR; omega))) al.nw ht ho1 (by omega) (a1 := 65) (a2 := nI T.exc) rfl rfl
    rw [e3, e4, Option.bind_some, b2_some, nm_eq]
    obtain ⟨vprice, hcA1, rprice, hrA1, eA1, eB1, kcA1, krA1, ptA1, wA1, fA1⟩ := num2 (lo := 0) (hi := 99) pt4 w4 (by omega) (by omega) (a1 := 0) (a2 := 99) rfl rfl
    rw [eA1, eB1, b2_some, b2_some, nm_eq vprice, gdI (k := 7 * s + T.exc) (by omega) (by omega), nI_clamp (n := 7 * s + T.exc) (by omega), nm_eq (setI hrA1 16 (7 * s + T.exc) rprice)]
    obtain ⟨hrB1, eC1⟩ : ∃ x, x = setI hrA1 16 (7 * s + T.exc) rprice := ⟨_, rfl⟩
    rw [← eC1]
    have kB1 : KP (fun p k => ¬ (p = 16 ∧ k = 7 * s + T.exc)) hrA1 hrB1 := by rw [eC1]; exact KP.setI (fun z => z ⟨rfl, rfl⟩)
    have ptB1 := ptA1.fr2 KP.rfl (kB1.mono (fun p k z => by omega))
    have wB1 := wA1.fr KP.rfl (kB1.mono (fun p k z => by unfold FWr at z; omega))
    obtain ⟨vgood, hcA2, rgood, hrA2, eA2, eB2, kcA2, krA2, ptA2, wA2, fA2⟩ := num2 (lo := 0) (hi := 99) ptB1 wB1 (by omega) (by omega) (a1 := 0) (a2 := 99) rfl rfl
    rw [eA2, eB2, b2_some, b2_some, nm_eq vgood, gdI (k := 7 * s + T.exc) (by omega) (by omega), nm_eq (setI hrA2 17 (7 * s + T.exc) rgood)]
    obtain ⟨hrB2, eC2⟩ : ∃ x, x = setI hrA2 17 (7 * s + T.exc) rgood := ⟨_, rfl⟩
    rw [← eC2]
    have kB2 : KP (fun p k => ¬ (p = 17 ∧ k = 7 * s + T.exc)) hrA2 hrB2 := by rw [eC2]; exact KP.setI (fun z => z ⟨rfl, rfl⟩)
    have ptB2 := ptA2.fr2 KP.rfl (kB2.mono (fun p k z => by omega))
    have wB2 := wA2.fr KP.rfl (kB2.mono (fun p k z => by unfold FWr at z; omega))
    obtain ⟨vkind, hcA3, rkind, hrA3, eA3, eB3, kcA3, krA3, ptA3, wA3, fA3⟩ := num2 (lo := 0) (hi := 9) ptB2 wB2 (by omega) (by omega) (a1 := 0) (a2 := 9) rfl rfl
    rw [eA3, eB3, b2_some, b2_some, nm_eq vkind, gdI (k := 7 * s + T.exc) (by omega) (by omega), nm_eq (setI hrA3 18 (7 * s + T.exc) rkind)]
    obtain ⟨hrB3, eC3⟩ : ∃ x, x = setI hrA3 18 (7 * s + T.exc) rkind := ⟨_, rfl⟩
    rw [← eC3]
    have kB3 : KP (fun p k => ¬ (p = 18 ∧ k = 7 * s + T.exc)) hrA3 hrB3 := by rw [eC3]; exact KP.setI (fun z => z ⟨rfl, rfl⟩)
    have ptB3 := ptA3.fr2 KP.rfl (kB3.mono (fun p k z => by omega))
    have wB3 := wA3.fr KP.rfl (kB3.mono (fun p k z => by unfold FWr at z; omega))
    obtain ⟨vstrong, hcA4, rstrong, hrA4, eA4, eB4, kcA4, krA4, ptA4, wA4, fA4⟩ := num2 (lo := 0) (hi := 99) ptB3 wB3 (by omega) (by omega) (a1 := 0) (a2 := 99) rfl rfl
    rw [eA4, eB4, b2_some, b2_some, nm_eq vstrong, gdI (k := 7 * s + T.exc) (by omega) (by omega), nm_eq (setI hrA4 19 (7 * s + T.exc) rstrong)]
    obtain ⟨hrB4, eC4⟩ : ∃ x, x = setI hrA4 19 (7 * s + T.exc) rstrong := ⟨_, rfl⟩
    rw [← eC4]
    have kB4 : KP (fun p k => ¬ (p = 19 ∧ k = 7 * s + T.exc)) hrA4 hrB4 := by rw [eC4]; exact KP.setI (fun z => z ⟨rfl, rfl⟩)
    have ptB4 := ptA4.fr2 KP.rfl (kB4.mono (fun p k z => by omega))
    have wB4 := wA4.fr KP.rfl (kB4.mono (fun p k z => by unfold FWr at z; omega))
    obtain ⟨o, hcX, hrX, qX, o1, qle, eX1, eX2, kcX, krX, ptX, wX, fX⟩ := once2 ptB4 wB4 (show 7 * s + T.exc < 14 by omega) vprice vgood vkind vstrong v4
    rw [eX1, eX2]
    have kC9 : KP (GC2 t) hc hcX := (((((((kc1.mono (fun _ _ z => z.1)).trans kc4).trans (kcA1.mono (fun _ _ z => z.1))).trans (kcA2.mono (fun _ _ z => z.1))).trans (kcA3.mono (fun _ _ z => z.1))).trans (kcA4.mono (fun _ _ z => z.1))).trans (kcX.mono (fun _ _ z => z.1)))
    have kr3_X : KP (fun p k => GR p k ∧ ¬ ((16 ≤ p ∧ p ≤ 20) ∧ k = 7 * s + T.exc)) hr3 hrX := (((((((((krA1.mono (fun _ _ z => z.1)).trans (kB1.mono (fun p k z => by omega))).trans (krA2.mono (fun _ _ z => z.1))).trans (kB2.mono (fun p k z => by omega))).trans (krA3.mono (fun _ _ z => z.1))).trans (kB3.mono (fun p k z => by omega))).trans (krA4.mono (fun _ _ z => z.1))).trans (kB4.mono (fun p k z => by omega))).trans (krX.mono (fun p k z => ⟨z.1, by omega⟩)))
    have kR10 : KP (fun p k => GR p k ∧ ¬ ((16 ≤ p ∧ p ≤ 20) ∧ k = 7 * s + T.exc)) hr hrX := (((kr1.mono (fun _ _ z => z.1)).trans (kr3.mono (fun _ _ z => z.1))).trans kr3_X)
    unfold c_X12_tellExcuse_j115
    rcases wX with rs10 | bk
    · have ho9 : hcX.2.2 2 1 = t := (kC9.r (by unfold GC2 GC FNc; omega)).trans al.oth
      have m9 : hcX.1 t 1 = nI T.exc := (kC9.i (by unfold GC2 GC FNc; omega)).trans al.ce
      rw [j88_ok ht rs10.1 ho9 o1]
      obtain ⟨hc12, e12, c0, c1, c2, c3, c4, c5, k12⟩ := addExcC (v1 := vprice) (v2 := vgood) (v3 := vkind) (v4 := vstrong) (v5 := nI o) ht lt m9
      rw [e12, Option.bind_some]
      have pt12 := ptX.fr2 (k12.mono (fun p k z => by omega)) KP.rfl
      have w12 : WP K bs N qX hc12 hrX := Or.inl (rs10.fr (k12.mono (fun p k z => by unfold FWc at z; omega)) KP.rfl)
      obtain ⟨hc13, hr11, e13, e11, kc13, kr11, pt13, w13, f13⟩ := acc3 (k := 59) pt12 w12 (by omega) (by omega) rfl (c := 59) (c' := 4) rfl rfl
      rw [e13, e11, Option.bind_some]
      have kC13 : KP (fun p k => GC2 t p k ∧ ¬ (p = t ∧ k = 1) ∧ ¬ p = t + 13 + 1 + T.exc) hc hc13 := ((kC9.mono (fun _ _ z => z.1)).trans (k12.mono (fun _ _ z => z.2))).trans (kc13.mono (fun _ _ z => z.1.1))
      have kR11 : KP (fun p k => GR p k ∧ ¬ ((16 ≤ p ∧ p ≤ 20) ∧ k = 7 * s + T.exc)) hr hr11 := kR10.trans (kr11.mono (fun _ _ z => z.1))
      have fpC : KP (FPc t) hc hc13 := kC13.mono (fun p k z => by unfold FPc at z; unfold GC2 GC FNc; omega)
      rcases w13 with rs13 | bk
      · have sd11 : hr11.1 0 19 = nI s := (kR11.i (by unfold GR; omega)).trans al.side
        have rm11 : hr11.1 15 s = nI T.exc := (kR11.i (by unfold GR; omega)).trans al.re
        obtain ⟨zX, t13, s13⟩ := f13 rs13.2.1
        obtain ⟨zB4, s5X, i20⟩ := fX zX
        obtain ⟨zB3, _, nstrong, bstrong, cstrong, dstrong, gstrong⟩ := fA4 ((kB4.i (by omega)).symm.trans zB4)
        obtain ⟨zB2, _, nkind, bkind, ckind, dkind, gkind⟩ := fA3 ((kB3.i (by omega)).symm.trans zB3)
        obtain ⟨zB1, _, ngood, bgood, cgood, dgood, ggood⟩ := fA2 ((kB2.i (by omega)).symm.trans zB2)
        obtain ⟨z3, _, nprice, bprice, cprice, dprice, gprice⟩ := fA1 ((kB1.i (by omega)).symm.trans zB1)
        obtain ⟨_, _, v4e, lp4, ol, nc4, d4⟩ := f4 z3
        have nr11 : NR c L so nu hr11 := al.nr.fr (kR11.mono (fun p k z => by unfold FNr at z; unfold GR; omega))
        have lp11 : hr11.2.1 6 (p + 1) = lN (vB 27 (LT K bs (p + 1))) := ((kr11.j (by unfold GR; omega)).trans (kr3_X.j (by unfold GR; omega))).trans lp4
        obtain ⟨hr12, e14, nr12, k14⟩ := notesR (s := 1) (k := T.exc) nr11 (by omega) (by omega) lp11
        rw [rs13.2.1, if_pos (show (0 : Int32) ≤ 0 by decide), sd11, live_gd hs, nI_clamp (n := s) (by omega), rm11, v4e, show (1 : Int32) = nI (min 1 2) from rfl, e14, Option.bind_some, nm_eq]
        have sd12 : hr12.1 0 19 = nI s := (k14.i (by unfold FNr; omega)).trans sd11
        have rm12 : hr12.1 15 s = nI T.exc := (k14.i (by unfold FNr; omega)).trans rm11
        rw [sd12, live_gd hs, live_gd hs, nI_clamp (n := s) (by omega), rm12, show nI T.exc + nI (min 1 2) = nI (T.exc + 1) from nI_1 _, nm_eq]
        obtain ⟨hr14, e15⟩ : ∃ x, x = setI hr12 15 s (nI (T.exc + 1)) := ⟨_, rfl⟩
        rw [← e15]
        have k15 : KP (fun p k => ¬ (p = 15 ∧ k = s)) hr12 hr14 := by rw [e15]; exact KP.setI (fun z => z ⟨rfl, rfl⟩)
        have k11_14 : KP (fun p k => ¬ FNr p k ∧ ¬ (p = 15 ∧ k = s)) hr11 hr14 := (k14.mono (fun _ _ z => z.1)).trans (k15.mono (fun _ _ z => z.2))
        have kR14 : KP (fun p k => GR p k ∧ ¬ FNr p k ∧ ¬ (p = 15 ∧ k = s) ∧ ¬ ((16 ≤ p ∧ p ≤ 20) ∧ k = 7 * s + T.exc)) hr hr14 := (kR11.mono (fun _ _ z => ⟨z.1, z.2.2.2⟩)).trans (k11_14.mono (fun _ _ z => ⟨z.2.1, z.2.2.1⟩))
        have nc13 : NC t (c + 1) (upN L c (LT K bs (p + 1))) (upN so c 1) (upN nu c T.exc) hc13 := nc4.fr ((((((kcA1.mono (fun p k z => by unfold FNc at z; unfold GC; omega)).trans (kcA2.mono (fun p k z => by unfold FNc at z; unfold GC; omega))).trans (kcA3.mono (fun p k z => by unfold FNc at z; unfold GC; omega))).trans (kcA4.mono (fun p k z => by unfold FNc at z; unfold GC; omega))).trans (kcX.mono (fun p k z => by unfold FNc at z; unfold GC; omega))).trans ((k12.mono (fun p k z => by unfold FNc at z; omega)).trans (kc13.mono (fun p k z => by unfold FNc at z; unfold GC; omega))))
        have i16 : hr14.1 16 (7 * s + T.exc) = nI nprice := by
          rw [(k11_14.i (by unfold FNr; omega)), (kr11.i (by unfold GR; omega)), (krX.i (by unfold GR; omega)), (kB4.i (by omega)), (krA4.i (by unfold GR; omega)), (kB3.i (by omega)), (krA3.i (by unfold GR; omega)), (kB2.i (by omega)), (krA2.i (by unfold GR; omega)), eC1, setI_eq]; exact dprice
        have i17 : hr14.1 17 (7 * s + T.exc) = nI ngood := by
          rw [(k11_14.i (by unfold FNr; omega)), (kr11.i (by unfold GR; omega)), (krX.i (by unfold GR; omega)), (kB4.i (by omega)), (krA4.i (by unfold GR; omega)), (kB3.i (by omega)), (krA3.i (by unfold GR; omega)), eC2, setI_eq]; exact dgood
        have i18 : hr14.1 18 (7 * s + T.exc) = nI nkind := by
          rw [(k11_14.i (by unfold FNr; omega)), (kr11.i (by unfold GR; omega)), (krX.i (by unfold GR; omega)), (kB4.i (by omega)), (krA4.i (by unfold GR; omega)), eC3, setI_eq]; exact dkind
        have i19 : hr14.1 19 (7 * s + T.exc) = nI nstrong := by
          rw [(k11_14.i (by unfold FNr; omega)), (kr11.i (by unfold GR; omega)), (krX.i (by unfold GR; omega)), eC4, setI_eq]; exact dstrong
        have i20' : hr14.1 20 (7 * s + T.exc) = nI o := by
          rw [(k11_14.i (by unfold FNr; omega)), (kr11.i (by unfold GR; omega))]; exact i20
        have j0 : hc13.1 t 1 = nI (T.exc + 1) := (kc13.i (by unfold GC; omega)).trans c0
        have j1 : hc13.1 (t + 13 + 1 + T.exc) 0 = nI nprice := (kc13.i (by unfold GC; omega)).trans (c1.trans cprice)
        have j2 : hc13.1 (t + 13 + 1 + T.exc) 1 = nI ngood := (kc13.i (by unfold GC; omega)).trans (c2.trans cgood)
        have j3 : hc13.1 (t + 13 + 1 + T.exc) 2 = nI nkind := (kc13.i (by unfold GC; omega)).trans (c3.trans ckind)
        have j4 : hc13.1 (t + 13 + 1 + T.exc) 3 = nI nstrong := (kc13.i (by unfold GC; omega)).trans (c4.trans cstrong)
        have j5 : hc13.1 (t + 13 + 1 + T.exc) 4 = nI o := (kc13.i (by unfold GC; omega)).trans c5
        have i11 : hr14.1 15 s = nI (T.exc + 1) := by rw [e15, setI_eq]
        refine ⟨_, _, rfl, rfl, fpC, kR14.mono (fun p k z => by unfold FPr FxRs at z; unfold GR FNr; omega), pt13.fr2 KP.rfl (k11_14.mono (fun p k z => by unfold FNr; omega)), Or.inr ⟨qX + 1, by omega, rs13.fr KP.rfl (k11_14.mono (fun p k z => by unfold FWr at z; unfold FNr; omega)), T.aExc nprice ngood nkind nstrong o, c + 1, upN L c (LT K bs (p + 1)), upN so c 1, upN nu c T.exc, b, k, ?_, ?_⟩⟩
        · refine AL.mk b1 lt b3 b4 al.kno (show c + 1 = T.men + (T.exc + 1) + T.dut + T.tst by omega) ((kC13.i (by unfold GC2 GC FNc; omega)).trans al.cm) j0 ((kC13.i (by unfold GC2 GC FNc; omega)).trans al.cd) ((kC13.i (by unfold GC2 GC FNc; omega)).trans al.ct) ((kC13.i (by unfold GC2 GC FNc; omega)).trans al.ck) ((kR14.i (by unfold GR FNr; omega)).trans al.rm) i11 ((kR14.i (by unfold GR FNr; omega)).trans al.rd) ((kR14.i (by unfold GR FNr; omega)).trans al.rt) ((kR14.i (by unfold GR FNr; omega)).trans al.rk) nc13 (nr12.fr (k15.mono (fun p k z => by unfold FNr at z; omega))) (al.nw.up (by omega) ol (by omega) (by omega) (fun z => absurd z (by omega)) (fun _ => Nat.lt_succ_self _) (Nat.le_refl _) (Nat.le_succ _)) ((kR14.i (by unfold GR FNr; omega)).trans al.side) ((kC13.r (by unfold GC2 GC FNc; omega)).trans al.oth) ((kR14.i (by unfold GR FNr; omega)).trans al.opn) ((kR14.i (by unfold GR FNr; omega)).trans al.br) ((kR14.i (by unfold GR FNr; omega)).trans al.co) (by have := al.b4; omega) (by have := al.kp; omega)
        · intro z
          have yX : hcX.1 2 5 = 0 := (k12.i (by omega)).symm.trans (s13.symm.trans z)
          obtain ⟨yA3, _, l4⟩ := gstrong (s5X.symm.trans yX)
          obtain ⟨yA2, _, l3⟩ := gkind yA3
          obtain ⟨yA1, _, l2⟩ := ggood yA2
          obtain ⟨y4, _, l1⟩ := gprice yA1
          obtain ⟨y1, dn⟩ := d4 y4
          obtain ⟨Lp, Lw, S⟩ := sd (s51.symm.trans y1)
          refine ⟨Lp, Lw, SD.mk (TX.aExc_wf S.wf lt l1 l2 l3 l4 o1) (TxC.aExc S.xc S.wf lt (kC13.mono (fun p k z => by unfold KcT at z; unfold GC2 GC FNc; omega)) j0 j1 j2 j3 j4 j5) (TxR.aExc S.xr S.wf lt (kR14.mono (fun p k z => by unfold KrT at z; unfold GR FNr; omega)) i11 i16 i17 i18 i19 i20') (S.dis.up dn) ?_ (S.lcp.fr (kC13.mono (fun p k z => by unfold GC2 GC FNc; omega))) (S.lcw.fr (kC13.mono (fun p k z => by unfold GC2 GC FNc; omega))) (S.lrp.fr (Nat.le_refl _) (Nat.le_refl _) (kR14.mono (fun p k z => by unfold FLr at z; unfold GR FNr; omega))) (S.lrw.fr (Nat.le_refl _) (Nat.le_refl _) (kR14.mono (fun p k z => by unfold FLr at z; unfold GR FNr; omega))) S.cp S.cw⟩
          intro i hi hi5
          exact (kR14.i (by unfold GR FNr; omega)).trans (S.kn i hi hi5)
      · rw [if_neg bk.nl]
        exact ⟨_, _, rfl, rfl, fpC, kR11.mono (fun p k z => by unfold FPr FxRs at z; unfold GR; omega), pt13, Or.inl bk⟩
    · unfold c_X4_tellExcuse_j88
      rw [if_neg bk.nc, Option.bind_some, bk.acc, bk.must, Option.bind_some, if_neg bk.nl]
      exact ⟨_, _, rfl, rfl, kC9.mono (fun _ _ z => GC2_fp ht z), kR10.mono (fun p k z => by unfold FPr FxRs at z; unfold GR; omega), ptX, Or.inl bk⟩
