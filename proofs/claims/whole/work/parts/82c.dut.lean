theorem addDutC {t m : Nat} {v1 v2 v3 : Int32} {h : PH} (ht : t = 8 ∨ t = 43) (hm : m < 9) (a : h.1 t 2 = nI m) : ∃ h', c_X9_addDuty t v1 v2 v3 h = some h' ∧ h'.1 t 2 = nI (m + 1) ∧ h'.1 (t + 21 + 1 + m) 0 = v1 ∧ h'.1 (t + 21 + 1 + m) 1 = v2 ∧ h'.1 (t + 21 + 1 + m) 2 = v3 ∧ KP (fun p k => ¬ (p = t ∧ k = 2) ∧ ¬ p = t + 21 + 1 + m) h h' := by
  unfold c_X9_addDuty
  have r1 : ∀ (g : PH) (j : Nat) (v : Int32), (setI g (t + 21 + 1 + m) j v).1 t 2 = g.1 t 2 := fun g j v => setI_ne (by omega)
  rw [a, if_neg (show ¬ (9 : Int32) ≤ nI m from nI_ge (b := 9) hm (by omega)), gdI (k := m) (by omega) (by omega), nI_clamp (n := m) (by omega), nm_eq, r1, a, gdI (k := m) (by omega) (by omega), nI_clamp (n := m) (by omega), nm_eq, r1, r1, a, gdI (k := m) (by omega) (by omega), nI_clamp (n := m) (by omega), nm_eq, r1, r1, r1, a, nI_1, nm_eq]
  exact ⟨_, rfl, setI_eq _ _ _ _, by rw [setI_ne (by omega), setI_ne (by omega), setI_ne (by omega), setI_eq], by rw [setI_ne (by omega), setI_ne (by omega), setI_eq], by rw [setI_ne (by omega), setI_eq], ((KP.setI (fun z => z.2 rfl)).trans (KP.setI (fun z => z.2 rfl))).trans ((KP.setI (fun z => z.2 rfl)).trans (KP.setI (fun z => z.1 ⟨rfl, rfl⟩)))⟩
theorem dut2 {K N p t s : Nat} {bs : Nat → Nat} {hc hr : PH} (pt : PT K bs N hc hr) (rs : RS K bs N p hc hr) (bd : BD t s p hc hr) (ht : t = 8 ∨ t = 43) (hs : s < 2) (q : tK K bs p = 66) : OUT K bs N t s p hc hr ((c_X4_tellDuty 2 hc).bind fun h12 => c_X4_accept 2 59 h12) (c_X12_tellOne hr) := by
  obtain ⟨T, c, L, so, nu, b, k, al, sd⟩ := bd
  have hN := pt.2.1.1; have h5 := rs.2.2.2.2.1
  have b1 := al.men; have b2 := al.exc; have b3 := al.dut; have b4 := al.tst; have bc := al.cc
  unfold c_X4_tellDuty c_X12_tellOne
  rw [(rs.kindR pt).1, (rs.kindR pt (α := PH) (o := none)).2, q, if_neg (show ¬ nI (kM 66) = (20 : Int32) by decide), if_neg (show ¬ nI (kM 66) = (21 : Int32) by decide), if_pos (show nI (kM 66) = (22 : Int32) from rfl), al.side, live_gd hs, nI_clamp (n := s) (by omega), al.rd, nm_eq, al.oth, gdT ht, al.cd]
  obtain ⟨hc1, hr1, e1, e2, kc1, kr1, pt1, h1⟩ := open2 (wd := 66) (most := 9) pt rs (by omega) (by omega) q al.dut (by omega) (a1 := 66) (a3 := 9) rfl rfl
  rw [e1, e2, Option.bind_some, Option.bind_some]
  have ho1 : hc1.2.2 2 1 = t := (kc1.r (by unfold GC; omega)).trans al.oth
  rw [nm_eq, ho1, gdT ht]
  rcases h1 with bk | ⟨rs1, lt, s51⟩
  · obtain ⟨x1, y1⟩ := bk.num (a1 := 0) (a2 := 99)
    obtain ⟨x2, y2⟩ := bk.num (a1 := 1) (a2 := 9)
    rw [bk.nn, Option.bind_some, bk.told, b2_some, nm_eq, y1, b2_some, nm_eq, y2, b2_some, nm_eq, if_neg bk.nc, Option.bind_some, bk.acc, if_neg bk.nr]
    exact ⟨_, _, rfl, rfl, kc1.mono (fun _ _ z => GC_fp z), kr1.mono (fun _ _ z => GR_fp z), pt1, Or.inl bk⟩
  · have m1 : hc1.1 t 2 = nI T.dut := (kc1.i (by unfold GC; omega)).trans al.cd
    have sd1 : hr1.1 0 19 = nI s := (kr1.i (by unfold GR; omega)).trans al.side
    have rm1 : hr1.1 21 s = nI T.dut := (kr1.i (by unfold GR; omega)).trans al.rd
    rw [m1, if_pos rs1.2.1]
    unfold c_X12_tellDuty
    rw [sd1, live_gd hs, nI_clamp (n := s) (by omega), rm1, nI_mul9, nI_add, nm_eq]
    have nr1 : NR c L so nu hr1 := al.nr.fr (kr1.mono (fun p k z => by unfold FNr at z; unfold GR; omega))
    obtain ⟨hc4, v4, hr3, e3, e4, kc4, kr3, pt4, w4, f4⟩ := name2 (s := 2) (k := T.dut) pt1 (Or.inl rs1) (al.nc.fr (kc1.mono (fun p k z => by unfold FNc at z; unfold GC; omega))) nr1 al.nw ht ho1 (by omega) (a1 := 66) (a2 := nI T.dut) rfl rfl
    rw [e3, e4, Option.bind_some, b2_some, nm_eq]
    obtain ⟨vman, hcA1, rman, hrA1, eA1, eB1, kcA1, krA1, ptA1, wA1, vvA, vvB, fA1⟩ : ∃ v hc' v' hr', c_X4_toldName 2 64 hc4 = some (v, hc') ∧ c_X12_known 0 hr3 = some (v', hr') ∧ KP GC hc4 hc' ∧ KP GR hr3 hr' ∧ PT K bs N hc' hr' ∧ WP K bs N (p + 1 + 1 + 1) hc' hr' ∧ True ∧ True ∧ (hr'.1 0 13 = 0 → hr3.1 0 13 = 0 ∧ tK K bs (p + 1 + 1) = 2 ∧ ∃ n, n < 10000 ∧ (hc'.1 2 5 = 0 → v = nI n) ∧ (hc'.1 2 5 = 0 → v' = nI n) ∧ (hc'.1 2 5 = 0 → hc4.1 2 5 = 0 ∧ 0 ≤ n ∧ n < T.men)) := by
      rcases w4 with rs4 | bk
      · obtain ⟨_, _, v4e, lp4, ol, nc4, d4⟩ := f4 rs4.2.1
        have nr3 : NR c L so nu hr3 := nr1.fr (kr3.mono (fun p k z => by unfold FNr at z; unfold GR; omega))
        have nw4 := al.nw.up (s := 2) (k := T.dut) (m' := T.men) (e' := T.exc) (by omega) ol (by omega) (by omega) (fun z => absurd z (by omega)) (fun z => absurd z (by omega)) (Nat.le_refl _) (Nat.le_refl _)
        obtain ⟨v, hc', v', hr', a1, a2, a3, a4, a5, a6, a7, a8, a9⟩ := known2g (s := 0) (lim := T.men) pt4 (Or.inl rs4) nc4 nr3 nw4 al.nw (fun z => by
          obtain ⟨y1, dn⟩ := d4 z
          obtain ⟨Lp, Lw, S⟩ := sd (s51.symm.trans y1)
          exact tv_up (by omega) (by omega) (S.dis.up dn)) ht ((kc4.r (by unfold GC2 GC FNc; omega)).trans ho1) (by omega) (fun i hi z => (nw4.2 i hi).2.2.2.1 z) (fun i hi z => (al.nw.2 i hi).2.2.2.1 z) (by omega) (a1 := 64) (a2 := 0) rfl rfl
        refine ⟨v, hc', v', hr', a1, a2, a3, a4, a5, a6, trivial, trivial, fun z => ?_⟩
        obtain ⟨z1, z2, _, z4⟩ := a9 z
        by_cases y : hc'.1 2 5 = 0
        · obtain ⟨y1, n, y2, y3, y4⟩ := z4 y
          exact ⟨z1, z2, n, by omega, fun _ => y3, fun _ => y4, fun _ => ⟨y1, by omega, y2⟩⟩
        · exact ⟨z1, z2, 0, by omega, fun x => absurd x y, fun x => absurd x y, fun x => absurd x y⟩
      · exact ⟨_, _, _, _, bk.told, bk.known, KP.rfl, KP.rfl, pt4, Or.inr bk, trivial, trivial, fun z => absurd z bk.nr⟩
    rw [eA1, eB1, b2_some, b2_some, nm_eq vman, gdI (k := 9 * s + T.dut) (by omega) (by omega), nI_clamp (n := 9 * s + T.dut) (by omega), nm_eq (setI hrA1 22 (9 * s + T.dut) rman)]
    obtain ⟨hrB1, eC1⟩ : ∃ x, x = setI hrA1 22 (9 * s + T.dut) rman := ⟨_, rfl⟩
    rw [← eC1]
    have kB1 : KP (fun p k => ¬ (p = 22 ∧ k = 9 * s + T.dut)) hrA1 hrB1 := by rw [eC1]; exact KP.setI (fun z => z ⟨rfl, rfl⟩)
    have ptB1 := ptA1.fr2 KP.rfl (kB1.mono (fun p k z => by omega))
    have wB1 := wA1.fr KP.rfl (kB1.mono (fun p k z => by unfold FWr at z; omega))
    obtain ⟨vday, hcA2, rday, hrA2, eA2, eB2, kcA2, krA2, ptA2, wA2, fA2⟩ := num2 (lo := 0) (hi := 99) ptB1 wB1 (by omega) (by omega) (a1 := 0) (a2 := 99) rfl rfl
    rw [eA2, eB2, b2_some, b2_some, nm_eq vday, gdI (k := 9 * s + T.dut) (by omega) (by omega), nm_eq (setI hrA2 23 (9 * s + T.dut) rday)]
    obtain ⟨hrB2, eC2⟩ : ∃ x, x = setI hrA2 23 (9 * s + T.dut) rday := ⟨_, rfl⟩
    rw [← eC2]
    have kB2 : KP (fun p k => ¬ (p = 23 ∧ k = 9 * s + T.dut)) hrA2 hrB2 := by rw [eC2]; exact KP.setI (fun z => z ⟨rfl, rfl⟩)
    have ptB2 := ptA2.fr2 KP.rfl (kB2.mono (fun p k z => by omega))
    have wB2 := wA2.fr KP.rfl (kB2.mono (fun p k z => by unfold FWr at z; omega))
    obtain ⟨vhrs, hcA3, rhrs, hrA3, eA3, eB3, kcA3, krA3, ptA3, wA3, fA3⟩ := num2 (lo := 1) (hi := 9) ptB2 wB2 (by omega) (by omega) (a1 := 1) (a2 := 9) rfl rfl
    rw [eA3, eB3, b2_some, b2_some, nm_eq vhrs, gdI (k := 9 * s + T.dut) (by omega) (by omega), nm_eq (setI hrA3 24 (9 * s + T.dut) rhrs)]
    obtain ⟨hrB3, eC3⟩ : ∃ x, x = setI hrA3 24 (9 * s + T.dut) rhrs := ⟨_, rfl⟩
    rw [← eC3]
    have kB3 : KP (fun p k => ¬ (p = 24 ∧ k = 9 * s + T.dut)) hrA3 hrB3 := by rw [eC3]; exact KP.setI (fun z => z ⟨rfl, rfl⟩)
    have ptB3 := ptA3.fr2 KP.rfl (kB3.mono (fun p k z => by omega))
    have wB3 := wA3.fr KP.rfl (kB3.mono (fun p k z => by unfold FWr at z; omega))
    have kC9 : KP (GC2 t) hc hcA3 := (((((kc1.mono (fun _ _ z => z.1)).trans kc4).trans (kcA1.mono (fun _ _ z => z.1))).trans (kcA2.mono (fun _ _ z => z.1))).trans (kcA3.mono (fun _ _ z => z.1)))
    have kr3_X : KP (fun p k => GR p k ∧ ¬ ((22 ≤ p ∧ p ≤ 24) ∧ k = 9 * s + T.dut)) hr3 hrB3 := ((((((krA1.mono (fun _ _ z => z.1)).trans (kB1.mono (fun p k z => by omega))).trans (krA2.mono (fun _ _ z => z.1))).trans (kB2.mono (fun p k z => by omega))).trans (krA3.mono (fun _ _ z => z.1))).trans (kB3.mono (fun p k z => by omega)))
    have kR10 : KP (fun p k => GR p k ∧ ¬ ((22 ≤ p ∧ p ≤ 24) ∧ k = 9 * s + T.dut)) hr hrB3 := (((kr1.mono (fun _ _ z => z.1)).trans (kr3.mono (fun _ _ z => z.1))).trans kr3_X)
    rcases wB3 with rs10 | bk
    · have ho9 : hcA3.2.2 2 1 = t := (kC9.r (by unfold GC2 GC FNc; omega)).trans al.oth
      have m9 : hcA3.1 t 2 = nI T.dut := (kC9.i (by unfold GC2 GC FNc; omega)).trans al.cd
      obtain ⟨hc12, e12, c0, c1, c2, c3, k12⟩ := addDutC (v1 := vman) (v2 := vday) (v3 := vhrs) ht lt m9
      rw [if_pos rs10.1, nm_eq (hcA3.2.2 2 1), ho9, gdT ht, e12, Option.bind_some]
      have pt12 := ptB3.fr2 (k12.mono (fun p k z => by omega)) KP.rfl
      have w12 : WP K bs N (p + 1 + 1 + 1 + 1 + 1) hc12 hrB3 := Or.inl (rs10.fr (k12.mono (fun p k z => by unfold FWc at z; omega)) KP.rfl)
      obtain ⟨hc13, hr11, e13, e11, kc13, kr11, pt13, w13, f13⟩ := acc3 (k := 59) pt12 w12 (by omega) (by omega) rfl (c := 59) (c' := 4) rfl rfl
      show OUT K bs N t s p hc hr (c_X4_accept 2 59 hc12) _
      rw [e13, e11, Option.bind_some]
      have kC13 : KP (fun p k => GC2 t p k ∧ ¬ (p = t ∧ k = 2) ∧ ¬ p = t + 21 + 1 + T.dut) hc hc13 := ((kC9.mono (fun _ _ z => z.1)).trans (k12.mono (fun _ _ z => z.2))).trans (kc13.mono (fun _ _ z => z.1.1))
      have kR11 : KP (fun p k => GR p k ∧ ¬ ((22 ≤ p ∧ p ≤ 24) ∧ k = 9 * s + T.dut)) hr hr11 := kR10.trans (kr11.mono (fun _ _ z => z.1))
      have fpC : KP (FPc t) hc hc13 := kC13.mono (fun p k z => by unfold FPc at z; unfold GC2 GC FNc; omega)
      rcases w13 with rs13 | bk
      · have sd11 : hr11.1 0 19 = nI s := (kR11.i (by unfold GR; omega)).trans al.side
        have rm11 : hr11.1 21 s = nI T.dut := (kR11.i (by unfold GR; omega)).trans al.rd
        obtain ⟨zB3, t13, s13⟩ := f13 rs13.2.1
        obtain ⟨zB2, _, nhrs, bhrs, chrs, dhrs, ghrs⟩ := fA3 ((kB3.i (by omega)).symm.trans zB3)
        obtain ⟨zB1, _, nday, bday, cday, dday, gday⟩ := fA2 ((kB2.i (by omega)).symm.trans zB2)
        obtain ⟨z3, _, nman, bman, cman, dman, gman⟩ := fA1 ((kB1.i (by omega)).symm.trans zB1)
        obtain ⟨_, _, v4e, lp4, ol, nc4, d4⟩ := f4 z3
        have nr11 : NR c L so nu hr11 := al.nr.fr (kR11.mono (fun p k z => by unfold FNr at z; unfold GR; omega))
        have lp11 : hr11.2.1 6 (p + 1) = lN (vB 27 (LT K bs (p + 1))) := ((kr11.j (by unfold GR; omega)).trans (kr3_X.j (by unfold GR; omega))).trans lp4
        obtain ⟨hr12, e14, nr12, k14⟩ := notesR (s := 2) (k := T.dut) nr11 (by omega) (by omega) lp11
        rw [rs13.2.1, if_pos (show (0 : Int32) ≤ 0 by decide), sd11, live_gd hs, nI_clamp (n := s) (by omega), rm11, v4e, show c_X12_notes (nI (p + 1)) 2 (nI T.dut) hr11 = some hr12 from e14, Option.bind_some, nm_eq]
        have sd12 : hr12.1 0 19 = nI s := (k14.i (by unfold FNr; omega)).trans sd11
        have rm12 : hr12.1 21 s = nI T.dut := (k14.i (by unfold FNr; omega)).trans rm11
        rw [sd12, live_gd hs, live_gd hs, nI_clamp (n := s) (by omega), rm12, nI_1, nm_eq]
        obtain ⟨hr14, e15⟩ : ∃ x, x = setI hr12 21 s (nI (T.dut + 1)) := ⟨_, rfl⟩
        rw [← e15]
        have k15 : KP (fun p k => ¬ (p = 21 ∧ k = s)) hr12 hr14 := by rw [e15]; exact KP.setI (fun z => z ⟨rfl, rfl⟩)
        have k11_14 : KP (fun p k => ¬ FNr p k ∧ ¬ (p = 21 ∧ k = s)) hr11 hr14 := (k14.mono (fun _ _ z => z.1)).trans (k15.mono (fun _ _ z => z.2))
        have kR14 : KP (fun p k => GR p k ∧ ¬ FNr p k ∧ ¬ (p = 21 ∧ k = s) ∧ ¬ ((22 ≤ p ∧ p ≤ 24) ∧ k = 9 * s + T.dut)) hr hr14 := (kR11.mono (fun _ _ z => ⟨z.1, z.2.2.2⟩)).trans (k11_14.mono (fun _ _ z => ⟨z.2.1, z.2.2.1⟩))
        have nc13 : NC t (c + 1) (upN L c (LT K bs (p + 1))) (upN so c 2) (upN nu c T.dut) hc13 := nc4.fr ((((kcA1.mono (fun p k z => by unfold FNc at z; unfold GC; omega)).trans (kcA2.mono (fun p k z => by unfold FNc at z; unfold GC; omega))).trans (kcA3.mono (fun p k z => by unfold FNc at z; unfold GC; omega))).trans ((k12.mono (fun p k z => by unfold FNc at z; omega)).trans (kc13.mono (fun p k z => by unfold FNc at z; unfold GC; omega))))
        have i22 : hcA1.1 2 5 = 0 → hr14.1 22 (9 * s + T.dut) = nI nman := fun z => by
          rw [(k11_14.i (by unfold FNr; omega)), (kr11.i (by unfold GR; omega)), (kB3.i (by omega)), (krA3.i (by unfold GR; omega)), (kB2.i (by omega)), (krA2.i (by unfold GR; omega)), eC1, setI_eq]; exact dman z
        have i23 : hr14.1 23 (9 * s + T.dut) = nI nday := by
          rw [(k11_14.i (by unfold FNr; omega)), (kr11.i (by unfold GR; omega)), (kB3.i (by omega)), (krA3.i (by unfold GR; omega)), eC2, setI_eq]; exact dday
        have i24 : hr14.1 24 (9 * s + T.dut) = nI nhrs := by
          rw [(k11_14.i (by unfold FNr; omega)), (kr11.i (by unfold GR; omega)), eC3, setI_eq]; exact dhrs
        have j0 : hc13.1 t 2 = nI (T.dut + 1) := (kc13.i (by unfold GC; omega)).trans c0
        have j1 : hc13.1 (t + 21 + 1 + T.dut) 0 = vman := (kc13.i (by unfold GC; omega)).trans c1
        have j2 : hc13.1 (t + 21 + 1 + T.dut) 1 = nI nday := (kc13.i (by unfold GC; omega)).trans (c2.trans cday)
        have j3 : hc13.1 (t + 21 + 1 + T.dut) 2 = nI nhrs := (kc13.i (by unfold GC; omega)).trans (c3.trans chrs)
        have i11 : hr14.1 21 s = nI (T.dut + 1) := by rw [e15, setI_eq]
        refine ⟨_, _, rfl, rfl, fpC, kR14.mono (fun p k z => by unfold FPr FxRs at z; unfold GR FNr; omega), pt13.fr2 KP.rfl (k11_14.mono (fun p k z => by unfold FNr; omega)), Or.inr ⟨p + 1 + 1 + 1 + 1 + 1 + 1, by omega, rs13.fr KP.rfl (k11_14.mono (fun p k z => by unfold FWr at z; unfold FNr; omega)), T.aDut nman nday nhrs, c + 1, upN L c (LT K bs (p + 1)), upN so c 2, upN nu c T.dut, b, k, ?_, ?_⟩⟩
        · refine AL.mk b1 b2 lt b4 al.kno (show c + 1 = T.men + T.exc + (T.dut + 1) + T.tst by omega) ((kC13.i (by unfold GC2 GC FNc; omega)).trans al.cm) ((kC13.i (by unfold GC2 GC FNc; omega)).trans al.ce) j0 ((kC13.i (by unfold GC2 GC FNc; omega)).trans al.ct) ((kC13.i (by unfold GC2 GC FNc; omega)).trans al.ck) ((kR14.i (by unfold GR FNr; omega)).trans al.rm) ((kR14.i (by unfold GR FNr; omega)).trans al.re) i11 ((kR14.i (by unfold GR FNr; omega)).trans al.rt) ((kR14.i (by unfold GR FNr; omega)).trans al.rk) nc13 (nr12.fr (k15.mono (fun p k z => by unfold FNr at z; omega))) (al.nw.up (by omega) ol (by omega) (by omega) (fun z => absurd z (by omega)) (fun z => absurd z (by omega)) (Nat.le_refl _) (Nat.le_refl _)) ((kR14.i (by unfold GR FNr; omega)).trans al.side) ((kC13.r (by unfold GC2 GC FNc; omega)).trans al.oth) ((kR14.i (by unfold GR FNr; omega)).trans al.opn) ((kR14.i (by unfold GR FNr; omega)).trans al.br) ((kR14.i (by unfold GR FNr; omega)).trans al.co) (by have := al.b4; omega) (by have := al.kp; omega)
        · intro z
          have yX : hcA3.1 2 5 = 0 := (k12.i (by omega)).symm.trans (s13.symm.trans z)
          obtain ⟨yA2, _, l3⟩ := ghrs yX
          obtain ⟨yA1, _, l2⟩ := gday yA2
          obtain ⟨y4, _, l1⟩ := gman yA1
          obtain ⟨y1, dn⟩ := d4 y4
          obtain ⟨Lp, Lw, S⟩ := sd (s51.symm.trans y1)
          refine ⟨Lp, Lw, SD.mk (TX.aDut_wf S.wf lt l1 l2 l3) (TxC.aDut S.xc S.wf lt (kC13.mono (fun p k z => by unfold KcT at z; unfold GC2 GC FNc; omega)) j0 (j1.trans (cman yA1)) j2 j3) (TxR.aDut S.xr S.wf lt (kR14.mono (fun p k z => by unfold KrT at z; unfold GR FNr; omega)) i11 (i22 yA1) i23 i24) (S.dis.up dn) ?_ (S.lcp.fr (kC13.mono (fun p k z => by unfold GC2 GC FNc; omega))) (S.lcw.fr (kC13.mono (fun p k z => by unfold GC2 GC FNc; omega))) (S.lrp.fr (Nat.le_refl _) (Nat.le_refl _) (kR14.mono (fun p k z => by unfold FLr at z; unfold GR FNr; omega))) (S.lrw.fr (Nat.le_refl _) (Nat.le_refl _) (kR14.mono (fun p k z => by unfold FLr at z; unfold GR FNr; omega))) S.cp S.cw⟩
          intro i hi hi5
          exact (kR14.i (by unfold GR FNr; omega)).trans (S.kn i hi hi5)
      · rw [if_neg bk.nl]
        exact ⟨_, _, rfl, rfl, fpC, kR11.mono (fun p k z => by unfold FPr FxRs at z; unfold GR; omega), pt13, Or.inl bk⟩
    · rw [if_neg bk.nc, Option.bind_some, bk.acc, bk.must, Option.bind_some, if_neg bk.nl]
      exact ⟨_, _, rfl, rfl, kC9.mono (fun _ _ z => GC2_fp ht z), kR10.mono (fun p k z => by unfold FPr FxRs at z; unfold GR; omega), ptB3, Or.inl bk⟩
