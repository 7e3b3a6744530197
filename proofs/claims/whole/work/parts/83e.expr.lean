theorem exB_stop {K N q s n0 d p F f : Nat} {bs : Nat → Nat} {cs : List Int32} {is : List (Nat × Nat)} {wl : List Nat} {hc hr : PH} (c : CF K bs N q cs s n0 is wl d p hc hr) (h41 : tK K bs p ≠ 41 ∨ d = 0) (ts : TSk (tK K bs p)) : exB F (f + 1) hr = exK2 hr := by
  have i8 := c.rs.is c.pt (k := 43) (by omega) rfl (c := 8) rfl
  have i9 := c.rs.is c.pt (k := 45) (by omega) rfl (c := 9) rfl
  have i10 := c.rs.is c.pt (k := 42) (by omega) rfl (c := 10) rfl
  have i15 := c.rs.is c.pt (k := 47) (by omega) rfl (c := 15) rfl
  rw [if_neg ts.2.1] at i8
  rw [if_neg ts.2.2] at i9
  rw [if_neg ts.1.1] at i10
  rw [if_neg ts.1.2] at i15
  have go : c_X12_expression_j145 0 (fun h29 => some h29) exK2 (fun h34 => some h34) (exO F) hr = exK2 hr := by
    unfold c_X12_expression_j145 c_X12_expression_j186
    rw [i8, Option.bind_some, if_pos (Eq.refl (0 : Int32)), i9, Option.bind_some, if_pos (Eq.refl (0 : Int32)), i10, Option.bind_some, if_pos (Eq.refl (0 : Int32)), i15, Option.bind_some, if_pos (Eq.refl (0 : Int32)), nm_eq, if_pos (Eq.refl (0 : Int32))]
  rw [exB_s, c.rs.is c.pt (k := 41) (by omega) rfl (c := 7) rfl, Option.bind_some, go, c.op]
  by_cases z : tK K bs p = 41
  · have d0 : d = 0 := h41.resolve_left (fun y => y z)
    subst d0
    rw [if_pos z, if_neg (show ¬ (1 : Int32) = 0 by decide), if_pos (show nI 0 ≤ 0 by decide)]
  · rw [if_neg z, if_pos (Eq.refl (0 : Int32))]
theorem goes_b {hc hr : PH} (bk : BK hc hr) : ∃ h', c_X12_goesOn hr = some h' ∧ KP (fun p k => ¬ (p = 0 ∧ k = 11)) hr h' := by
  unfold c_X12_goesOn
  by_cases z : hr.1 0 11 = 400
  · rw [if_pos z, bk.fail]; exact ⟨hr, rfl, KP.rfl⟩
  · rw [if_neg z, nm_eq]; exact ⟨_, rfl, KP.setI (fun z => z ⟨rfl, rfl⟩)⟩
theorem unit_ok {K N q s n0 d m : Nat} {bs : Nat → Nat} {rc : Nat → Int32 → PH → Option PH} (hq : 9 ≤ q) (hs : s < 2) (hd : d ≤ 6) (hm : 1 ≤ m) (hb : RBk q rc) (hS : d < 6 → SH K bs N q s n0 rc (d + 1) m (3 * d + 3)) : UH K bs N q s n0 rc d m (3 * d + 2) := by
  intro cs is wl p hc hr F f c hB gF gf
  have hN := c.pt.2.1.1; have h5 := c.rs.2.2.2.2.1; have cb := c.cb; have cl := c.cl
  by_cases ho : tK K bs p = 40
  case neg => exact unit_flat hq hs c hm gF gf ho
  obtain ⟨f0, rfl⟩ : ∃ f0, f = f0 + 1 + 1 := ⟨f - 2, by omega⟩
  rw [exA_s, c.rs.is c.pt (k := 40) (by omega) rfl (c := 6) rfl, Option.bind_some, if_pos ho, if_neg (show ¬ (1 : Int32) = 0 by decide)]
  unfold c_X4_unit
  rw [c.rs.kind c.pt, Option.bind_some, nm_eq, ho, if_pos (show nI 40 = (40 : Int32) from rfl), c.op, ite_cg (show nI d < 6 ↔ d < 6 from nI_ltI (b := 6) (by omega) (by omega)), ite_cg (show nI d = 6 ↔ d = 6 from nI_lit (by omega) 6 (by omega) rfl)]
  by_cases d6 : d < 6
  · rw [if_pos d6, if_neg (show ¬ d = 6 by omega)]
    unfold c_X4_unit_j25
    rw [if_pos (show nI 40 = (40 : Int32) from rfl), nI_1]
    obtain ⟨h5', e5⟩ : ∃ x, x = setI hr 0 12 (nI (d + 1)) := ⟨_, rfl⟩
    rw [← e5, nm_eq h5']
    have k5 : KP (fun p k => ¬ (p = 0 ∧ k = 12)) hr h5' := by rw [e5]; exact KP.setI (fun z => z ⟨rfl, rfl⟩)
    have pt5 := c.pt.fr2 (KP.rfl (h := hc)) (k5.mono (fun p k z => by omega))
    have rs5 := c.rs.fr (KP.rfl (h := hc)) (k5.mono (fun p k z => by unfold FWr at z; omega))
    obtain ⟨hc1, h6, ea, eb, kc, kr, pt6, h⟩ := goes3 (q := q) pt5 rs5 (k := 40) (by omega) (by omega) ho rfl
    rw [show c_X4_accept 2 40 hc = some hc1 from ea, Option.bind_some, eb, Option.bind_some]
    have w6 : h6.1 0 56 = nI wl.length := (kr.i (by omega)).trans ((k5.i (by omega)).trans c.ww.1)
    obtain ⟨h7, e7⟩ : ∃ x, x = setI h6 40 wl.length (nI 6) := ⟨_, rfl⟩
    obtain ⟨h8, e8⟩ : ∃ x, x = setI h7 0 56 (nI (wl.length + 1)) := ⟨_, rfl⟩
    have w7 : h7.1 0 56 = nI wl.length := by rw [e7, setI_ne (by omega)]; exact w6
    rw [w6, gdI (k := wl.length) (by omega) (by omega), nI_clamp (n := wl.length) (by omega), show setI h6 40 wl.length (6 : Int32) = h7 from e7.symm, nm_eq h7, w7, nI_1, ← e8, nm_eq h8]
    obtain ⟨ww8, k8⟩ := pushW (w := 6) (c.ww.fr ((k5.mono (fun p k z => by omega)).trans (kr.mono (fun p k z => by omega)))) (by omega) h7 h8 e7 e8
    have k18 : KP (FEr s n0) hr h8 := ((k5.mono (fun p k z => by unfold FEr at z; omega)).trans (kr.mono (fun p k z => by unfold FEr at z; omega))).trans (k8.mono (fun p k z => by unfold FEr at z; omega))
    have kc1 : KP (FEc q) hc hc1 := kc.mono (fun _ _ z => z.1)
    have pt8 := pt6.fr2 (KP.rfl (h := hc1)) (k8.mono (fun p k z => by omega))
    rcases h with rs6 | bk6
    · have c8 : CF K bs N q cs s n0 is (wl ++ [6]) (d + 1) (p + 1) hc1 h8 := by
        refine CF.mk pt8 (rs6.fr KP.rfl (k8.mono (fun p k z => by unfold FWr at z; omega))) (c.cc.fr (kc.mono (fun p k z => by omega))) (by omega) (((c.cr.fr (k5.mono (fun p k z => by omega))).fr (kr.mono (fun p k z => by omega))).fr (k8.mono (fun p k z => by omega))) (by rw [List.length_append]; show n0 + is.length + (wl.length + 1) ≤ p + 1; omega) ww8 (fun w hw => ?_) ?_
        · rcases List.mem_append.mp hw with y | y
          · exact c.wb w y
          · rw [List.mem_singleton.mp y]; omega
        · rw [(k8.i (by omega)), (kr.i (by omega)), e5, setI_eq]
      obtain ⟨hc2, eu, ku, po⟩ := hS d6 _ _ _ _ _ _ F (f0 + 1) c8 (by rw [List.length_append]; show wl.length + 1 ≤ 3 * d + 3; omega) halt0_open (by omega) (by omega)
      rw [eu, Option.bind_some]
      rcases po with ⟨F3, f3, p3, hr3, U3, M3, eo, hp3, hl3, c3, hF3, hf3, kr3, ok3, am3, tp3⟩ | bx
      · rw [eo]
        obtain ⟨mc, ml⟩ := am3.cm
        have hN3 := c3.rs.2.2.2.2.1; have cb3 := c3.cb; have cl3 := c3.cl
        rw [List.length_append, List.length_append, List.length_append, List.length_reverse] at cb3
        have cb3 : n0 + (is.length + U3.length) + (wl.length + 1 + M3.length) ≤ p3 := cb3
        rw [List.length_append, List.length_map, List.length_append, List.length_map] at cl3
        obtain ⟨f4, rfl⟩ : ∃ f4, f3 = f4 + 1 + 1 := ⟨f3 - 2, by omega⟩
        by_cases h41 : tK K bs p3 = 41
        · rw [exB_s, c3.rs.is c3.pt (k := 41) (by omega) rfl (c := 7) rfl, Option.bind_some, if_pos h41, if_neg (show ¬ (1 : Int32) = 0 by decide), c3.op, if_neg (show ¬ nI (d + 1) ≤ 0 from nI_ge (a := 0) (b := d + 1) (by omega) (by omega))]
          obtain ⟨h13, e13, cr13, ww13, k13⟩ := co_run (z := 0) hs M3 fu (wl ++ [6]) (is ++ U3) hr3 (by unfold fu; omega) c3.cr c3.ww (by rw [List.length_append]; omega) (by rw [List.length_append]; show wl.length + 1 + M3.length < 64; omega) mc halt0_open
          rw [show c_X12_comesOut 0 hr3 = some h13 from e13, Option.bind_some]
          have w13 : h13.1 0 56 = nI (wl.length + 1) := by rw [ww13.1, List.length_append]; rfl
          obtain ⟨h14, e14⟩ : ∃ x, x = setI h13 0 56 (nI wl.length) := ⟨_, rfl⟩
          rw [w13, nI_pred, ← e14, nm_eq h14]
          have k14 : KP (fun p k => ¬ (p = 0 ∧ k = 56)) h13 h14 := by rw [e14]; exact KP.setI (fun z => z ⟨rfl, rfl⟩)
          have ww14 : StW wl h14 := by rw [e14]; exact popW ww13
          have o14 : h14.1 0 12 = nI (d + 1) := (k14.i (by omega)).trans ((k13.i (by unfold FCo; omega)).trans c3.op)
          obtain ⟨h15, e15⟩ : ∃ x, x = setI h14 0 12 (nI d) := ⟨_, rfl⟩
          rw [o14, nI_pred, ← e15, nm_eq h15]
          have k15 : KP (fun p k => ¬ (p = 0 ∧ k = 12)) h14 h15 := by rw [e15]; exact KP.setI (fun z => z ⟨rfl, rfl⟩)
          have k315 : KP (fun p k => FCo s n0 p k ∧ ¬ (p = 0 ∧ k = 12)) hr3 h15 := ((k13.mono (fun _ _ z => z.1)).trans (k14.mono (fun p k z => by unfold FCo at z; omega))).trans (k15.mono (fun _ _ z => z.2))
          have pt15 := c3.pt.fr2 (KP.rfl (h := hc2)) (k315.mono (fun p k z => by unfold FCo; omega))
          have rs15 := c3.rs.fr (KP.rfl (h := hc2)) (k315.mono (fun p k z => by unfold FWr at z; unfold FCo; omega))
          obtain ⟨hc4, h16, ea4, eb4, kc4, kr4, pt16, hh⟩ := goes3 (q := q) pt15 rs15 (k := 41) (by omega) (by omega) h41 rfl
          rw [show c_X4_accept 2 41 hc2 = some hc4 from ea4, eb4, Option.bind_some, Option.bind_some]
          have cr16 : CdR s n0 (is ++ (U3 ++ M3.map opI)) h16 := by
            rw [← List.append_assoc]
            exact ((cr13.fr (k14.mono (fun p k z => by omega))).fr (k15.mono (fun p k z => by omega))).fr (kr4.mono (fun p k z => by omega))
          have ww16 : StW wl h16 := (ww14.fr (k15.mono (fun p k z => by omega))).fr (kr4.mono (fun p k z => by omega))
          have kR : KP (FEr s n0) hr h16 := ((k18.trans kr3).trans (k315.mono (fun p k z => ⟨FCo_er z, by unfold FEr at z; omega⟩))).trans (kr4.mono (fun p k z => by unfold FEr at z; omega))
          have lU : (U3 ++ M3.map opI).length = U3.length + M3.length := by rw [List.length_append, List.length_map]
          refine ⟨hc4, rfl, (kc1.trans ku).trans (kc4.mono (fun _ _ z => z.1)), ?_⟩
          rcases hh with rs16 | bk16
          · refine Or.inl ⟨F3, f4 + 1, p3 + 1, h16, U3 ++ M3.map opI, rfl, by omega, by omega, CF.mk pt16 rs16 (c3.cc.fr (kc4.mono (fun p k z => by omega))) (by rw [List.length_append, List.length_map, List.length_append, List.length_map]; omega) cr16 (by rw [List.length_append, lU]; omega) ww16 c.wb ?_, by omega, by omega, kR, ok3⟩
            rw [(kr4.i (by omega)), e15, setI_eq]
          · obtain ⟨hr', eb', bk', kb'⟩ := exB_brk (F := F3) (f := f4) hs bk16 cr16 ww16 c.wb (by rw [List.length_append, lU]; omega) (by omega)
            rw [eb']
            exact Or.inr ⟨hr', rfl, bk', (c3.cc.ln (by rw [List.length_append, List.length_map, List.length_append, List.length_map]; omega)).fr (kc4.mono (fun p k z => by omega)), pt16.fr2 KP.rfl (kb'.mono (fun p k z => by unfold FCo; omega)), kR.trans (kb'.mono (fun p k z => FCo_er z))⟩
        · have tc3 := (c3.pt.2.2 p3 hN3).1
          have acc := acceptC (k := 41) c3.rs.1 c3.rs.2.2.1 (by omega) (by omega) tc3
          rw [if_neg (show ¬ (tK K bs p3 = 41 ∧ p3 < 400) from fun z => h41 z.1), show brk K bs p3 41 = 1 from if_neg h41] at acc
          rw [show c_X4_accept 2 41 hc2 = _ from acc, exB_stop c3 (Or.inl h41) tp3]
          unfold exK2
          rw [c3.op, if_neg (show ¬ nI (d + 1) ≤ 0 from nI_ge (a := 0) (b := d + 1) (by omega) (by omega)), show (1 : Int32) = nI 1 from rfl, failRS c3.pt c3.rs, Option.bind_some, Option.bind_some]
          have bk : BK (setI (setI hc2 2 3 (nI 1)) 2 4 (nI (tS K bs p3))) (setI (setI hr3 0 13 (nI 1)) 0 14 (nI (tS K bs p3))) := BK.mk1 (N := N) 1 (by omega) (by omega) (by omega) c3.rs.2.2.1
          have k1 : KP (fun p k => ¬ (p = 2 ∧ 2 ≤ k ∧ k ≤ 4)) hc2 (setI (setI hc2 2 3 (nI 1)) 2 4 (nI (tS K bs p3))) := (KP.setI (by omega)).trans (KP.setI (by omega))
          have k2 : KP (fun p k => ¬ (p = 0 ∧ (k = 11 ∨ k = 13 ∨ k = 14))) hr3 (setI (setI hr3 0 13 (nI 1)) 0 14 (nI (tS K bs p3))) := (KP.setI (by omega)).trans (KP.setI (by omega))
          obtain ⟨hr', e', k'⟩ := cm_any (z := 0) hs (c3.cr.fr (k2.mono (fun p k z => by omega))) (c3.ww.fr (k2.mono (fun p k z => by omega))) c3.wb (by rw [List.length_append, List.length_append, List.length_append, List.length_reverse]; show n0 + (is.length + U3.length) + (wl.length + 1 + M3.length) ≤ 420; omega) (by rw [List.length_append, List.length_append, List.length_reverse]; show wl.length + 1 + M3.length < 64; omega)
          rw [e']
          refine ⟨_, rfl, (kc1.trans ku).trans (k1.mono (fun _ _ z => z.1)), Or.inr ⟨hr', rfl, bk.fr KP.rfl (k'.mono (fun p k z => by unfold FWr at z; unfold FCo; omega)), (c3.cc.ln (by rw [List.length_append, List.length_map, List.length_append, List.length_map]; omega)).fr (k1.mono (fun p k z => by omega)), (c3.pt.fr2 (k1.mono (fun p k z => by omega)) (k2.mono (fun p k z => by omega))).fr2 KP.rfl (k'.mono (fun p k z => by unfold FCo; omega)), ((k18.trans kr3).trans (k2.mono (fun p k z => by unfold FEr at z; omega))).trans (k'.mono (fun p k z => FCo_er z))⟩⟩
      · obtain ⟨hr3, eo, bk3, ln3, pt3, kr3⟩ := bx
        rw [bk3.acc, eo]
        exact ⟨hc2, rfl, kc1.trans ku, Or.inr ⟨hr3, rfl, bk3, ln3, pt3, k18.trans kr3⟩⟩
    · have bk8 : BK hc1 h8 := bk6.fr KP.rfl (k8.mono (fun p k z => by unfold FWr at z; omega))
      obtain ⟨hc2, e2, l2, k2, bk2⟩ := hb (nI (d + 1)) hc1 h8 bk8 ((c.cc.ln (by omega)).fr (kc.mono (fun p k z => by omega)))
      rw [e2, Option.bind_some, bk2.acc, exA_brk bk8]
      exact ⟨hc2, rfl, kc1.trans (k2.mono (fun _ _ z => z.2)), Or.inr ⟨h8, rfl, bk2, l2, pt8.frq hq k2, k18⟩⟩
  · rw [if_neg d6, if_pos (show d = 6 by omega), show (2 : Int32) = nI 2 from rfl, brkC c.pt c.rs, failRS c.pt c.rs, Option.bind_some, Option.bind_some]
    have bk : BK (setI (setI hc 2 3 (nI 2)) 2 4 (nI (tS K bs p))) (setI (setI hr 0 13 (nI 2)) 0 14 (nI (tS K bs p))) := BK.mk1 (N := N) 2 (by omega) (by omega) (by omega) c.rs.2.2.1
    have k1 : KP (fun p k => ¬ (p = 2 ∧ 2 ≤ k ∧ k ≤ 4)) hc (setI (setI hc 2 3 (nI 2)) 2 4 (nI (tS K bs p))) := (KP.setI (by omega)).trans (KP.setI (by omega))
    have k2 : KP (fun p k => ¬ (p = 0 ∧ (k = 11 ∨ k = 13 ∨ k = 14))) hr (setI (setI hr 0 13 (nI 2)) 0 14 (nI (tS K bs p))) := (KP.setI (by omega)).trans (KP.setI (by omega))
    generalize setI (setI hc 2 3 (nI 2)) 2 4 (nI (tS K bs p)) = hc1 at bk k1 ⊢
    generalize setI (setI hr 0 13 (nI 2)) 0 14 (nI (tS K bs p)) = hr1 at bk k2 ⊢
    obtain ⟨h5', e5⟩ : ∃ x, x = setI hr1 0 12 (hr1.1 0 12 + 1) := ⟨_, rfl⟩
    have k5 : KP (fun p k => ¬ (p = 0 ∧ k = 12)) hr1 h5' := by rw [e5]; exact KP.setI (fun z => z ⟨rfl, rfl⟩)
    have bk5 : BK hc1 h5' := bk.fr KP.rfl (k5.mono (fun p k z => by unfold FWr at z; omega))
    obtain ⟨h6, e6, k6⟩ := goes_b bk5
    have bk6 : BK hc1 h6 := by
      obtain ⟨b, y, b1, b2, b3, b4, b5, b6, b7⟩ := bk5
      exact ⟨b, y, b1, b2, b3, b4, (k6.i (by omega)).trans b5, b6, b7.trans (k6.i (by omega)).symm⟩
    have w6 : h6.1 0 56 = nI wl.length := (k6.i (by omega)).trans ((k5.i (by omega)).trans ((k2.i (by omega)).trans c.ww.1))
    obtain ⟨h7, e7⟩ : ∃ x, x = setI h6 40 wl.length (6 : Int32) := ⟨_, rfl⟩
    obtain ⟨h8, e8⟩ : ∃ x, x = setI h7 0 56 (h7.1 0 56 + 1) := ⟨_, rfl⟩
    have k7 : KP (fun p k => p ≠ 40) h6 h7 := by rw [e7]; exact KP.setI (fun z => z rfl)
    have k8 : KP (fun p k => ¬ (p = 0 ∧ k = 56)) h7 h8 := by rw [e8]; exact KP.setI (fun z => z ⟨rfl, rfl⟩)
    have bk8 : BK hc1 h8 := bk6.fr KP.rfl ((k7.mono (fun p k z => by unfold FWr at z; omega)).trans (k8.mono (fun p k z => by unfold FWr at z; omega)))
    rw [← e5, nm_eq h5', e6, Option.bind_some, w6, gdI (k := wl.length) (by omega) (by omega), nI_clamp (n := wl.length) (by omega), ← e7, nm_eq h7, ← e8, nm_eq h8, exA_brk bk8]
    have kR : KP (fun p k => ¬ (p = 0 ∧ ((11 ≤ k ∧ k ≤ 14) ∨ k = 56)) ∧ p ≠ 40) hr h8 := ((((k2.mono (fun p k z => by omega)).trans (k5.mono (fun p k z => by omega))).trans (k6.mono (fun p k z => by omega))).trans (k7.mono (fun p k z => by omega))).trans (k8.mono (fun p k z => by omega))
    exact ⟨hc1, rfl, k1.mono (fun _ _ z => z.1), Or.inr ⟨h8, rfl, bk8, (c.cc.ln (by omega)).fr (k1.mono (fun p k z => by omega)), c.pt.fr2 (k1.mono (fun p k z => by omega)) (kR.mono (fun p k z => by omega)), kR.mono (fun p k z => by unfold FEr at z; omega)⟩⟩
theorem sumN_b {q : Nat} (hq : 9 ≤ q) (n : Nat) : RBk q (c_X4_sumN 2 (n + 1)) := fun a hc hr bk ln => sumB_b (rc := c_X4_sumN 2 n) hq bk ln
theorem sumN_ok {K N q s n0 : Nat} {bs : Nat → Nat} (hq : 9 ≤ q) (hs : s < 2) : ∀ k d, d + k = 6 → SH K bs N q s n0 (c_X4_sumN 2 (k + 2)) d (2 * k + 3) (3 * d)
  | 0, d, h => by
    have u : UH K bs N q s n0 (c_X4_sumN 2 1) d 1 (3 * d + 2) := unit_ok hq hs (by omega) (Nat.le_refl _) (sumN_b hq 0) (fun z => by omega)
    exact sumB_ok hq hs (by omega) (prod_ok hq hs (by omega) u)
  | k + 1, d, h => by
    have u : UH K bs N q s n0 (c_X4_sumN 2 (k + 2)) d (2 * k + 3) (3 * d + 2) := unit_ok hq hs (by omega) (by omega) (sumN_b hq (k + 1)) (fun _ => sumN_ok hq hs k (d + 1) (by omega))
    exact sumB_ok hq hs (by omega) (prod_ok hq hs (by omega) u)
/-- an expression, on both sides -/
theorem expr_ok {K N q s n0 p : Nat} {bs : Nat → Nat} {cs : List Int32} {is : List (Nat × Nat)} {hc hr : PH} (hq : 9 ≤ q) (hs : s < 2) (pt : PT K bs N hc hr) (rs : RS K bs N p hc hr) (cc : CdC q cs hc) (cl : cs.length ≤ p) (cr : CdR s n0 is hr) (cb : n0 + is.length ≤ p) (op : hr.1 0 12 = 0) : ∃ hc' hr', c_X4_sum 2 q 0 hc = some hc' ∧ c_X12_expression hr = some hr' ∧ KP (FEc q) hc hc' ∧ KP (FEr s n0) hr hr' ∧ PT K bs N hc' hr' ∧ LnC q hc' ∧ (BK hc' hr' ∨ ∃ U p', p < p' ∧ p + U.length ≤ p' ∧ RS K bs N p' hc' hr' ∧ CdC q (cs ++ U.map cst) hc' ∧ CdR s n0 (is ++ U) hr' ∧ hr'.1 0 12 = 0 ∧ OKh U 15) := by
  have hN := pt.2.1.1; have h5 := rs.2.2.2.2.1
  obtain ⟨g, hg⟩ : ∃ g, fu = g + 1 := ⟨8191, by unfold fu; omega⟩
  have g8 : 402 ≤ g := by unfold fu at hg; omega
  obtain ⟨h1, e1⟩ : ∃ x, x = setI hr 0 56 (0 : Int32) := ⟨_, rfl⟩
  have k1 : KP (fun p k => ¬ (p = 0 ∧ k = 56)) hr h1 := by rw [e1]; exact KP.setI (fun z => z ⟨rfl, rfl⟩)
  have o1 : h1.1 0 12 = 0 := (k1.i (by omega)).trans op
  have rs1 : RS K bs N p hc h1 := rs.fr KP.rfl (k1.mono (fun p k z => by unfold FWr at z; omega))
  have ee : c_X12_expression hr = exO fu 1 h1 := by
    unfold c_X12_expression exO exK2
    rw [← e1, nm_eq h1, o1, nm_eq, nm_eq]
  have e2 : exO (g + 1) 1 h1 = exA g fu h1 := by rw [exO_s, if_pos rs1.2.1]
  have e3 : c_X12_expression hr = exA g fu h1 := ee.trans ((congrArg (fun n => exO n 1 h1) hg).trans e2)
  have c1 : CF K bs N q cs s n0 is [] 0 p hc h1 := CF.mk (pt.fr2 KP.rfl (k1.mono (fun p k z => by omega))) rs1 cc cl (cr.fr (k1.mono (fun p k z => by omega))) cb ⟨by rw [e1, setI_eq]; exact nI_0.symm, fun i w z => by rw [List.getElem?_nil] at z; exact absurd z (by simp)⟩ (fun w hw => nomatch hw) (o1.trans nI_0.symm)
  obtain ⟨hc2, eu, ku, po⟩ := sumN_ok (K := K) (bs := bs) (N := N) (n0 := n0) hq hs 6 0 rfl _ _ _ _ _ _ g fu c1 (Nat.zero_le _) (Or.inl rfl) (by omega) (by unfold fu; omega)
  rw [e3]
  refine ⟨hc2, ?_⟩
  rcases po with ⟨F3, f3, p3, hr3, U3, M3, eo, hp3, hl3, c3, hF3, hf3, kr3, ok3, am3, tp3⟩ | bx
  · obtain ⟨mc, ml⟩ := am3.cm
    have hN3 := c3.rs.2.2.2.2.1; have cb3 := c3.cb; have cl3 := c3.cl
    rw [List.length_append, List.length_append, List.length_reverse] at cb3
    have cb3 : n0 + (is.length + U3.length) + (0 + M3.length) ≤ p3 := cb3
    rw [List.length_append, List.length_map, List.length_append, List.length_map] at cl3
    obtain ⟨f4, rfl⟩ : ∃ f4, f3 = f4 + 1 := ⟨f3 - 1, by omega⟩
    obtain ⟨h', e', cr', ww', k'⟩ := co_run (z := 0) hs M3 fu [] (is ++ U3) hr3 (by unfold fu; omega) c3.cr c3.ww (by rw [List.length_append]; omega) (by show 0 + M3.length < 64; omega) mc (Or.inl rfl)
    have lU : (U3 ++ M3.map opI).length = U3.length + M3.length := by rw [List.length_append, List.length_map]
    refine ⟨h', eu, ?_, ku, ((k1.mono (fun p k z => by unfold FEr at z; omega)).trans kr3).trans (k'.mono (fun p k z => FCo_er z)), c3.pt.fr2 KP.rfl (k'.mono (fun p k z => by unfold FCo; omega)), c3.cc.ln (by rw [List.length_append, List.length_map, List.length_append, List.length_map]; omega), Or.inr ⟨U3 ++ M3.map opI, p3, hp3, by omega, c3.rs.fr KP.rfl (k'.mono (fun p k z => by unfold FWr at z; unfold FCo; omega)), c3.cc, ?_, (k'.i (by unfold FCo; omega)).trans (c3.op.trans nI_0), ok3⟩⟩
    · rw [eo, exB_stop c3 (Or.inr rfl) tp3]
      unfold exK2
      rw [c3.op, if_pos (show nI 0 ≤ 0 by decide), show c_X12_comesOut 0 hr3 = some h' from e']; rfl
    · rw [← List.append_assoc]; exact cr'
  · obtain ⟨hr3, eo, bk3, ln3, pt3, kr3⟩ := bx
    exact ⟨hr3, eu, eo, ku, (k1.mono (fun p k z => by unfold FEr at z; omega)).trans kr3, pt3, ln3, Or.inl bk3⟩
theorem expr_b {q : Nat} {hc hr : PH} (hq : 9 ≤ q) (bk : BK hc hr) (ln : LnC q hc) : ∃ hc' hr', c_X4_sum 2 q 0 hc = some hc' ∧ c_X12_expression hr = some hr' ∧ KP (FQ q) hc hc' ∧ KP (fun p k => ¬ (p = 0 ∧ k = 56)) hr hr' ∧ LnC q hc' ∧ BK hc' hr' := by
  obtain ⟨hc', e, l, k, bk'⟩ := sum_b (a := 0) hq bk ln
  obtain ⟨g, hg⟩ : ∃ g, fu = g + 1 := ⟨8191, by unfold fu; omega⟩
  obtain ⟨h1, e1⟩ : ∃ x, x = setI hr 0 56 (0 : Int32) := ⟨_, rfl⟩
  have k1 : KP (fun p k => ¬ (p = 0 ∧ k = 56)) hr h1 := by rw [e1]; exact KP.setI (fun z => z ⟨rfl, rfl⟩)
  have bk1 : BK hc' h1 := bk'.fr KP.rfl (k1.mono (fun p k z => by unfold FWr at z; omega))
  refine ⟨hc', h1, e, ?_, k, k1, l, bk1⟩
  unfold c_X12_expression
  rw [← e1, nm_eq h1, nm_eq, nm_eq, hg, lq2_s]
  unfold c_X12_expression_L12b
  rw [if_neg (show ¬ (1 : Int32) = 0 by decide), if_neg bk1.nr]
