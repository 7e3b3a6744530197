def K1c (q : Nat) (h : PH) : Option PH := (c_X4_sum 2 q 0 h).bind fun h20 => (c_X2_add q (-1) h20).bind fun h21 => some h21
def FEnd (s n0 B kk p k : Nat) : Prop := FEr s n0 p k ∧ ¬ ((33 ≤ p ∧ p ≤ 37) ∧ k = B) ∧ ¬ (p = 0 ∧ k = 46) ∧ ¬ ((p = 31 ∨ p = 32) ∧ k = 2 * s + kk)
/-- a law's last term -/
theorem endS {K N q s n0 B kk : Nat} {bs : Nat → Nat} {Gd : List Int32 → Its → Nat → Prop} {hc hr : PH} {v2 : Int32} (hq : 9 ≤ q) (hs : s < 2) (hk : kk < 2) (w : WwS K bs N q s n0 Gd hc hr) (hl : ∀ cs is p, Gd cs is p → cs.length + 1 ≤ p) (b46 : hr.1 0 46 = nI B) (hB : B < 260) (sd : hr.1 0 19 = nI s) : ∃ hc' hr', ((K1c q hc).bind fun h => c_X4_accept 2 59 h) = some hc' ∧ c_X12_tellLaw_j129 (nI kk) v2 hr = some hr' ∧ KP (FEc q) hc hc' ∧ KP (FEnd s n0 B kk) hr hr' ∧ ((PT K bs N hc' hr' ∧ BK hc' hr') ∨ ∃ cs is p cs0 is0 p0 D, Gd cs0 is0 p0 ∧ OKh D 15 ∧ p0 + 2 ≤ p ∧ cs = cs0 ++ (D.map cst ++ [-1]) ∧ is = is0 ++ D ∧ LwS K bs N q s n0 cs is p hc' hr' ∧ hr'.1 33 B = 0 ∧ hr'.1 36 B = nI (420 * s + n0 + is0.length) ∧ hr'.1 37 B = nI (420 * s + n0 + is0.length + D.length) ∧ hr'.1 31 (2 * s + kk) = v2 ∧ hr'.1 32 (2 * s + kk) = nI (B + 1) ∧ hr'.1 0 46 = nI (B + 1)) := by
  obtain ⟨h1, e1⟩ : ∃ x, x = setI hr 33 B (0 : Int32) := ⟨_, rfl⟩
  have k1 : KP (fun p k => ¬ (p = 33 ∧ k = B)) hr h1 := by rw [e1]; exact KP.setI (fun z => z ⟨rfl, rfl⟩)
  have w1 := w.frr (k1.mono (fun p k z => by unfold FLw at z; omega))
  have b1 : h1.1 0 46 = nI B := (k1.i (by omega)).trans b46
  obtain ⟨hc2, h2, a2, c2, kc2, kr2, b2, w2⟩ := termS hq hs w1 b1 hB
  obtain ⟨hc3, a3, kc3, w3⟩ := addS hq w2 (fun cs is p g => by
    obtain ⟨cs0, is0, p0, U, ⟨g0, _, g2, g3, g4, _⟩, _⟩ := g
    have := hl cs0 is0 p0 g0
    rw [g4, List.length_append, List.length_map]; omega) (-1)
  obtain ⟨hc4, h4, a4, c4, kc4, kr4, w4⟩ := accS hq w3 (k := 59) (by omega) (by omega) rfl (c := 59) (c' := 4) rfl rfl
  have kc : KP (FEc q) hc hc4 := (kc2.trans kc3).trans kc4
  have kr : KP (FEnd s n0 B kk) hr h4 := ((k1.mono (fun p k z => by have := z.2.1; omega)).trans (kr2.mono (fun p k z => ⟨z.1, by have := z.2.1; omega, z.2.2.1⟩))).trans (kr4.mono (fun p k z => by have := z.1; unfold FEr at this; omega))
  have b4 : h4.1 0 46 = nI (B + 1) := (kr4.i (by omega)).trans b2
  have s4 : h4.1 0 19 = nI s := (kr.i (by unfold FEnd FEr; omega)).trans sd
  have ec : ((K1c q hc).bind fun h => c_X4_accept 2 59 h) = some hc4 := by
    unfold K1c
    rw [a2, Option.bind_some, a3, Option.bind_some, Option.bind_some, a4]
  have er : c_X12_tellLaw_j129 (nI kk) v2 hr = if (h4.1 0 13) ≤ 0 then gd (ixOK ((2 * (h4.1 0 19)) + nI kk) 4) <| nm (setI h4 31 ((2 * (h4.1 0 19)) + nI kk).toNatClampNeg v2) fun h25 => gd (ixOK ((2 * (h25.1 0 19)) + nI kk) 4) <| nm (setI h25 32 ((2 * (h25.1 0 19)) + nI kk).toNatClampNeg (h25.1 0 46)) fun h26 => some h26 else some h4 := by
    unfold c_X12_tellLaw_j129
    rw [b46, gdI (k := B) hB (by omega), nI_clamp (n := B) (by omega), nar0, ← e1, nm_eq h1, c2, Option.bind_some, c4, Option.bind_some]
  rcases w4 with ⟨cs, is, p, ⟨p1, ⟨cs1, ⟨cs0, is0, p0, D, ⟨g0, okD, g2, g3, g4, g5⟩, r36, r37⟩, e9⟩, ep⟩, l⟩ | ⟨pt, bk, ln⟩
  · have m2 : (2 : Int32) * nI s + nI kk = nI (2 * s + kk) := by rw [show (2 : Int32) * nI s = nI (2 * s) from (Int32.ofNat_mul 2 s).symm, nI_add]
    obtain ⟨h5, e5⟩ : ∃ x, x = setI h4 31 (2 * s + kk) v2 := ⟨_, rfl⟩
    have k5 : KP (fun p k => ¬ (p = 31 ∧ k = 2 * s + kk)) h4 h5 := by rw [e5]; exact KP.setI (fun z => z ⟨rfl, rfl⟩)
    have s5 : h5.1 0 19 = nI s := (k5.i (by omega)).trans s4
    have b5 : h5.1 0 46 = nI (B + 1) := (k5.i (by omega)).trans b4
    obtain ⟨h6, e6⟩ : ∃ x, x = setI h5 32 (2 * s + kk) (nI (B + 1)) := ⟨_, rfl⟩
    have k6 : KP (fun p k => ¬ (p = 32 ∧ k = 2 * s + kk)) h5 h6 := by rw [e6]; exact KP.setI (fun z => z ⟨rfl, rfl⟩)
    have k56 : KP (fun p k => ¬ ((p = 31 ∨ p = 32) ∧ k = 2 * s + kk)) h4 h6 := (k5.mono (fun p k z => by omega)).trans (k6.mono (fun p k z => by omega))
    refine ⟨hc4, h6, ec, ?_, kc, kr.trans (k56.mono (fun p k z => z.2.2.2)), Or.inr ⟨cs, is, p, cs0, is0, p0, D, g0, okD, by omega, by rw [e9, g4, List.append_assoc], g5, l.frr (k56.mono (fun p k z => by unfold FLw at z; omega)), ?_, ?_, ?_, ?_, by rw [e6, setI_eq], (k56.i (by omega)).trans b4⟩⟩
    · rw [er, l.rs.2.1, if_pos (show (0 : Int32) ≤ 0 by decide), s4, m2, gdI (k := 2 * s + kk) (by omega) (by omega), nI_clamp (n := 2 * s + kk) (by omega), ← e5, nm_eq h5, s5, m2, gdI (k := 2 * s + kk) (by omega) (by omega), nI_clamp (n := 2 * s + kk) (by omega), b5, ← e6]
      rfl
    · rw [(k56.i (by omega)), (kr4.i (by omega)), (kr2.i (by unfold FTm FEr; omega)), e1, setI_eq]
    · rw [(k56.i (by omega)), (kr4.i (by omega))]; exact r36
    · rw [(k56.i (by omega)), (kr4.i (by omega)), r37, g5, List.length_append]; exact congrArg nI (by omega)
    · rw [(k6.i (by omega)), e5, setI_eq]
  · refine ⟨hc4, h4, ec, by rw [er, if_neg bk.nl], kc, kr, Or.inl ⟨pt, bk⟩⟩
/-- a branch told by the class where the text is broken -/
theorem brCl_b {K N q s n0 : Nat} {bs : Nat → Nat} {hc hr : PH} (hq : 9 ≤ q) (hs : s < 2) (lb : LwB K bs N q hc hr) (R1 : Int32 → PH → Option PH) (x : Int32) : ∃ hc', ((c_X4_sum 2 q 0 hc).bind fun h7 => (c_X4_accept 2 60 h7).bind fun h8 => (c_X4_sum 2 q 0 h8).bind fun h9 => (c_X4_accept 2 76 h9).bind fun h10 => bind2 (c_X2_addUnlessLess q h10) fun r11 h12 => nm r11 fun v13 => (c_X4_sum 2 q 0 h12).bind fun h14 => (c_X2_add q (-1) h14).bind fun h15 => (c_X4_accept 2 77 h15).bind fun h16 => (c_X2_landHere q v13 h16).bind fun h17 => nm (x + 1) fun v18 => R1 v18 h17) = R1 (x + 1) hc' ∧ KP (FEc q) hc hc' ∧ LwB K bs N q hc' hr := by
  obtain ⟨pt, bk, ln⟩ := lb
  obtain ⟨hc1, a1, l1, k1, bk1⟩ := sum_b (a := 0) hq bk ln
  obtain ⟨hc2, a2, l2, k2, bk2⟩ := sum_b (a := 0) hq bk1 l1
  have pt2 := (pt.frq hq k1).frq hq k2
  have w2 : WwS K bs N q s n0 (fun _ _ _ => False) hc2 hr := Or.inr ⟨pt2, bk2, l2⟩
  obtain ⟨v, hc3, a3, k3, w3⟩ := unlS hq w2 (fun _ _ _ g => nomatch g)
  rcases w3 with ⟨_, _, _, ⟨_, g, _⟩, _⟩ | ⟨pt3, bk3, l3⟩
  · exact nomatch g
  obtain ⟨hc4, a4, l4, k4, bk4⟩ := sum_b (a := 0) hq bk3 l3
  obtain ⟨hc5, a5, l5, k5⟩ := add_b (v := -1) l4
  have bk5 := bk4.frq hq k5
  have w5 : WwS K bs N q s n0 (fun _ _ _ => False) hc5 hr := Or.inr ⟨(pt3.frq hq k4).frq hq k5, bk5, l5⟩
  obtain ⟨hc6, a6, k6, w6⟩ := landS (v := v) (W := fun _ _ _ _ _ => False) hq w5 (fun _ _ _ g => nomatch g)
  rcases w6 with ⟨_, _, _, ⟨_, _, _, g, _⟩, _⟩ | lb6
  · exact nomatch g
  refine ⟨hc6, ?_, ((((k1.mono (fun _ _ z => z.2)).trans (k2.mono (fun _ _ z => z.2))).trans k3).trans (k4.mono (fun _ _ z => z.2))).trans ((k5.mono (fun _ _ z => z.2)).trans k6), lb6⟩
  rw [a1, Option.bind_some, bk1.acc, Option.bind_some, a2, Option.bind_some, bk2.acc, Option.bind_some, a3, b2_some, nm_eq, a4, Option.bind_some, a5, Option.bind_some, bk5.acc, Option.bind_some, a6, Option.bind_some, nm_eq]
def FLaw (s kk B n0 p k : Nat) : Prop := FEr s n0 p k ∧ ¬ ((33 ≤ p ∧ p ≤ 37) ∧ B ≤ k ∧ k < 130 * s + 130) ∧ ¬ (p = 0 ∧ k = 46) ∧ ¬ ((p = 31 ∨ p = 32) ∧ k = 2 * s + kk)
def clLp (q : Nat) : Nat → Int32 → PH → Option PH := lq2 (c_X4_tellLaw_L17b 2 q (K1c q))
def rfLp (kk : Nat) (v2 : Int32) : Nat → Int32 → PH → Option PH := lq2 (c_X12_tellLaw_L12b (nI kk) v2 (fun h20 => some h20) (fun h21 => c_X12_tellLaw_j129 (nI kk) v2 h21))
theorem clLp_b {q F : Nat} {x : Int32} {hc hr : PH} (bk : BK hc hr) : clLp q (F + 1) x hc = K1c q hc := by
  unfold clLp
  rw [lq2_s, L17_eq]
  by_cases z : 4 < x
  · rw [if_pos z]
  · rw [if_neg z, bk.kind, Option.bind_some, if_neg (show ¬ (1 : Int32) = 75 by decide)]
theorem rfLp_b {kk F : Nat} {v2 x : Int32} {hc hr : PH} (bk : BK hc hr) : rfLp kk v2 (F + 1) x hr = c_X12_tellLaw_j129 (nI kk) v2 hr := by
  unfold rfLp
  rw [lq2_s]
  unfold c_X12_tellLaw_L12b
  rw [if_neg bk.nr]
theorem FEnd_law {s n0 B kk p k : Nat} (hB : B < 130 * s + 130) (z : FLaw s kk B n0 p k) : FEnd s n0 B kk p k := ⟨z.1, by have := z.2.1; omega, z.2.2.1, z.2.2.2⟩
def TLo (K : Nat) (bs : Nat → Nat) (N q s n0 kk : Nat) (cs : List Int32) (is : Its) (p B : Nat) (v2 : Int32) (hc' hr' : PH) : Prop := (PT K bs N hc' hr' ∧ BK hc' hr') ∨ ∃ (brs : List Br) (D : Its) (p' : Nat), (∀ x ∈ brs, brOK x) ∧ OKh D 15 ∧ LwS K bs N q s n0 (cs ++ codeC cs.length brs D) (is ++ flat brs D) p' hc' hr' ∧ p + 4 * brs.length + 2 ≤ p' ∧ RwR B (420 * s + n0 + is.length) brs D hr' ∧ hr'.1 31 (2 * s + kk) = v2 ∧ hr'.1 32 (2 * s + kk) = nI (B + brs.length + 1) ∧ hr'.1 0 46 = nI (B + brs.length + 1)
theorem tellL {K N q s n0 kk : Nat} {bs : Nat → Nat} {v2 : Int32} (hq : 9 ≤ q) (hs : s < 2) (hk : kk < 2) : ∀ (m j F1 F2 : Nat) (cs : List Int32) (is : Its) (p B : Nat) (hc hr : PH), j + m = 4 → m + 2 ≤ F1 → m + 2 ≤ F2 → LwS K bs N q s n0 cs is p hc hr → cs.length + 2 ≤ p → hr.1 0 46 = nI B → 130 * s ≤ B → B + m + 1 < 130 * s + 130 → hr.1 0 19 = nI s → ∃ hc' hr', ((clLp q F1 (nI j) hc).bind fun h => c_X4_accept 2 59 h) = some hc' ∧ rfLp kk v2 F2 (nI j) hr = some hr' ∧ KP (FEc q) hc hc' ∧ KP (FLaw s kk B n0) hr hr' ∧ TLo K bs N q s n0 kk cs is p B v2 hc' hr' := by
  intro m
  induction m with
  | zero =>
    intro j F1 F2 cs is p B hc hr hj hF1 hF2 l sl b46 hB hB2 sd
    have j4 : j = 4 := by omega
    subst j4
    have pl := l.lim
    obtain ⟨F1, rfl⟩ : ∃ F, F1 = F + 1 + 1 := ⟨F1 - 2, by omega⟩
    obtain ⟨F2, rfl⟩ : ∃ F, F2 = F + 1 := ⟨F2 - 1, by omega⟩
    have c0 : clLp q (F1 + 1 + 1) (nI 4) hc = if tK K bs p = 75 then brCl q (clLp q (F1 + 1)) (nI 4) hc else K1c q hc := by
      unfold clLp
      rw [lq2_s, L17_eq, if_neg (show ¬ (4 : Int32) < nI 4 by decide), l.rs.kind l.pt, Option.bind_some]
      have kl : tK K bs p < 128 := tkind_lt K bs (tS K bs p)
      rw [ite_cg (show nI (tK K bs p) = 75 ↔ tK K bs p = 75 from nI_lit (by omega) 75 (by omega) rfl)]
    have r0 : rfLp kk v2 (F2 + 1) (nI 4) hr = if tK K bs p = 75 then (c_X12_fail 2 hr).bind fun h19 => c_X12_tellLaw_j38 (nI kk) v2 (fun h20 => some h20) (fun h21 => c_X12_tellLaw_j129 (nI kk) v2 h21) (rfLp kk v2 F2) (nI 4) h19 else c_X12_tellLaw_j129 (nI kk) v2 hr := by
      unfold rfLp
      rw [lq2_s]
      unfold c_X12_tellLaw_L12b
      rw [if_pos l.rs.2.1, l.rs.is l.pt (k := 75) (by omega) rfl (c := 31) rfl, Option.bind_some, if_0i]
      by_cases z : tK K bs p = 75
      · rw [if_neg (fun y => y z), if_pos z, if_pos (show nI 4 = (4 : Int32) from rfl)]
      · rw [if_pos z, if_neg z]
    rw [c0, r0]
    by_cases z : tK K bs p = 75
    · rw [if_pos z, if_pos z, show (2 : Int32) = nI 2 from rfl, failRS l.pt l.rs, Option.bind_some]
      have bk : BK (setI (setI hc 2 3 (nI 2)) 2 4 (nI (tS K bs p))) (setI (setI hr 0 13 (nI 2)) 0 14 (nI (tS K bs p))) := BK.mk1 (N := N) 2 (by omega) (by omega) (by omega) l.rs.2.2.1
      have k1 : KP (fun p k => ¬ (p = 2 ∧ 2 ≤ k ∧ k ≤ 4)) hc (setI (setI hc 2 3 (nI 2)) 2 4 (nI (tS K bs p))) := (KP.setI (by omega)).trans (KP.setI (by omega))
      have k2 : KP (fun p k => ¬ (p = 0 ∧ (k = 11 ∨ k = 13 ∨ k = 14))) hr (setI (setI hr 0 13 (nI 2)) 0 14 (nI (tS K bs p))) := (KP.setI (by omega)).trans (KP.setI (by omega))
      have op : c_X4_open 2 75 (nI 4) 4 hc = some (setI (setI hc 2 3 (nI 2)) 2 4 (nI (tS K bs p))) := by
        unfold c_X4_open
        rw [if_neg (show ¬ nI 4 < 4 by decide), show (2 : Int32) = nI 2 from rfl, brkC l.pt l.rs, Option.bind_some, bk.acc]; rfl
      generalize setI (setI hc 2 3 (nI 2)) 2 4 (nI (tS K bs p)) = hc1 at bk k1 op
      generalize setI (setI hr 0 13 (nI 2)) 0 14 (nI (tS K bs p)) = hr1 at bk k2 ⊢
      have lb : LwB K bs N q hc1 hr1 := ⟨l.pt.fr2 (k1.mono (fun p k z => by omega)) (k2.mono (fun p k z => by omega)), bk, (l.cc.ln (by have := l.cl; omega)).fr (k1.mono (fun p k z => by omega))⟩
      obtain ⟨hc2, e2, kc2, lb2⟩ := brCl_b (s := s) (n0 := n0) hq hs lb (clLp q (F1 + 1)) (nI 4)
      obtain ⟨hc3, e3, l3, k3, bk3⟩ := sum_b (a := 0) hq lb2.2.1 lb2.2.2
      obtain ⟨hc4, e4, l4, k4⟩ := add_b (v := -1) l3
      have bk4 := bk3.frq hq k4
      refine ⟨hc4, hr1, ?_, ?_, (((k1.mono (fun _ _ z => z.1)).trans kc2).trans (k3.mono (fun _ _ z => z.2))).trans (k4.mono (fun _ _ z => z.2)), k2.mono (fun p k z => by have := z.1; unfold FEr at this; omega), Or.inl ⟨(lb2.1.frq hq k3).frq hq k4, bk4⟩⟩
      · unfold brCl
        rw [op, Option.bind_some, e2, clLp_b lb2.2.1]
        unfold K1c
        rw [e3, Option.bind_some, e4, Option.bind_some, Option.bind_some, bk4.acc]
      · unfold c_X12_tellLaw_j38
        rw [if_neg bk.nl]
    · rw [if_neg z, if_neg z]
      have w : WwS K bs N q s n0 (fun cs' is' p' => cs' = cs ∧ is' = is ∧ p' = p) hc hr := Or.inl ⟨cs, is, p, ⟨rfl, rfl, rfl⟩, l⟩
      obtain ⟨hc', hr', e1, e2, kc, kr, h⟩ := endS (v2 := v2) hq hs hk w (fun cs' is' p' g => by rw [g.1, g.2.2]; omega) b46 (by omega) sd
      refine ⟨hc', hr', e1, e2, kc, kr.mono (fun p k y => FEnd_law (by omega) y), ?_⟩
      rcases h with h | ⟨cs', is', p', cs0, is0, p0, D, ⟨g1, g2, g3⟩, okD, g4, g5, g6, l', r33, r36, r37, r31, r32, b46'⟩
      · exact Or.inl h
      · subst g1; subst g2; subst g3; subst g5; subst g6
        exact Or.inr ⟨[], D, p', (fun x hx => nomatch hx), okD, l', g4, ⟨r33, r36, r37⟩, r31, r32, b46'⟩
  | succ m ih =>
    intro j F1 F2 cs is p B hc hr hj hF1 hF2 l sl b46 hB hB2 sd
    have pl := l.lim
    obtain ⟨F1, rfl⟩ : ∃ F, F1 = F + 1 + 1 := ⟨F1 - 2, by omega⟩
    obtain ⟨F2, rfl⟩ : ∃ F, F2 = F + 1 + 1 := ⟨F2 - 2, by omega⟩
    have c0 : clLp q (F1 + 1 + 1) (nI j) hc = if tK K bs p = 75 then brCl q (clLp q (F1 + 1)) (nI j) hc else K1c q hc := by
      unfold clLp
      rw [lq2_s, L17_eq, if_neg (show ¬ (4 : Int32) < nI j from fun z => by have := (nI_ltI (a := 4) (by omega) (by omega)).mp z; omega), l.rs.kind l.pt, Option.bind_some]
      have kl : tK K bs p < 128 := tkind_lt K bs (tS K bs p)
      rw [ite_cg (show nI (tK K bs p) = 75 ↔ tK K bs p = 75 from nI_lit (by omega) 75 (by omega) rfl)]
    have r0 : rfLp kk v2 (F2 + 1 + 1) (nI j) hr = if tK K bs p = 75 then c_X12_tellLaw_j38 (nI kk) v2 (fun h20 => some h20) (fun h21 => c_X12_tellLaw_j129 (nI kk) v2 h21) (rfLp kk v2 (F2 + 1)) (nI j) hr else c_X12_tellLaw_j129 (nI kk) v2 hr := by
      unfold rfLp
      rw [lq2_s]
      unfold c_X12_tellLaw_L12b
      rw [if_pos l.rs.2.1, l.rs.is l.pt (k := 75) (by omega) rfl (c := 31) rfl, Option.bind_some, if_0i]
      by_cases z : tK K bs p = 75
      · rw [if_neg (fun y => y z), if_pos z, if_neg (show ¬ nI j = 4 from fun y => by have := (nI_lit (by omega) 4 (by omega) rfl).mp y; omega)]
      · rw [if_pos z, if_neg z]
    rw [c0, r0]
    by_cases z : tK K bs p = 75
    · rw [if_pos z, if_pos z]
      obtain ⟨hc1, hr1, e1, e2, kc1, kr1, b1, w1⟩ := brStep (z1 := nI kk) (z2 := v2) (K1 := fun h20 => some h20) (K2 := fun h21 => c_X12_tellLaw_j129 (nI kk) v2 h21) hq hs (show j < 4 by omega) l z b46 (by omega) (clLp q (F1 + 1)) (rfLp kk v2 (F2 + 1))
      rw [e1, e2]
      have s1 : hr1.1 0 19 = nI s := (kr1.i (by unfold FBr FEr; omega)).trans sd
      rcases w1 with ⟨cs1, is1, p1, ⟨x, okx, g1, g2, g3, r33, r34, r35, r36, r37⟩, l1⟩ | lb
      · have lx := brC_len cs.length x
        have ll : cs1.length = cs.length + brL x + 3 := by rw [g1, List.length_append, lx]; omega
        have li : is1.length = is.length + brL x := by
          rw [g2, List.length_append, List.length_append, List.length_append]; unfold brL; omega
        obtain ⟨hc', hr', e3, e4, kc, kr, h⟩ := ih (j + 1) (F1 + 1) (F2 + 1) cs1 is1 p1 (B + 1) hc1 hr1 (by omega) (by omega) (by omega) l1 (by omega) b1 (by omega) (by omega) s1
        refine ⟨hc', hr', e3, e4, kc1.trans kc, (kr1.mono (fun p k y => ⟨y.1, by have := y.2.1; omega, y.2.2.1⟩)).trans (kr.mono (fun p k y => ⟨y.1, by have := y.2.1; omega, y.2.2.1, y.2.2.2⟩)), ?_⟩
        rcases h with h | ⟨brs, D, p', okb, okD, l', h1, rr, r31, r32, b'⟩
        · exact Or.inl h
        · have row : ∀ a, 33 ≤ a → a ≤ 37 → hr'.1 a B = hr1.1 a B := fun a a1 a2 => kr.i (by unfold FLaw FEr; omega)
          refine Or.inr ⟨x :: brs, D, p', fun y hy => ?_, okD, ?_, by show p + 4 * (brs.length + 1) + 2 ≤ p'; omega, ⟨⟨(row _ (by omega) (by omega)).trans r33, (row _ (by omega) (by omega)).trans r34, (row _ (by omega) (by omega)).trans r35, (row _ (by omega) (by omega)).trans r36, (row _ (by omega) (by omega)).trans r37⟩, ?_⟩, r31, ?_, ?_⟩
          · rcases List.mem_cons.mp hy with y | y
            · rw [y]; exact okx
            · exact okb _ y
          · have ec : cs1 ++ codeC cs1.length brs D = cs ++ codeC cs.length (x :: brs) D := by
              rw [ll, g1, List.append_assoc]; rfl
            have ei : is1 ++ flat brs D = is ++ flat (x :: brs) D := by
              rw [g2]
              show is ++ (x.1 ++ (x.2.1 ++ x.2.2)) ++ flat brs D = is ++ (x.1 ++ (x.2.1 ++ (x.2.2 ++ flat brs D)))
              simp only [List.append_assoc]
            rw [ec, ei] at l'; exact l'
          · rw [show 420 * s + n0 + is.length + brL x = 420 * s + n0 + is1.length by omega]; exact rr
          · rw [r32]; exact congrArg nI (by show B + 1 + brs.length + 1 = B + (brs.length + 1) + 1; omega)
          · rw [b']; exact congrArg nI (by show B + 1 + brs.length + 1 = B + (brs.length + 1) + 1; omega)
      · have w : WwS K bs N q s n0 (fun _ _ _ => False) hc1 hr1 := Or.inr lb
        rw [clLp_b lb.2.1, rfLp_b lb.2.1]
        obtain ⟨hc', hr', e3, e4, kc, kr, h⟩ := endS (v2 := v2) hq hs hk w (fun _ _ _ g => nomatch g) b1 (by omega) s1
        refine ⟨hc', hr', e3, e4, kc1.trans kc, (kr1.mono (fun p k y => ⟨y.1, by have := y.2.1; omega, y.2.2.1⟩)).trans (kr.mono (fun p k y => ⟨y.1, by have := y.2.1; omega, y.2.2.1, y.2.2.2⟩)), ?_⟩
        rcases h with h | ⟨_, _, _, _, _, _, _, g, _⟩
        · exact Or.inl h
        · exact nomatch g
    · rw [if_neg z, if_neg z]
      have w : WwS K bs N q s n0 (fun cs' is' p' => cs' = cs ∧ is' = is ∧ p' = p) hc hr := Or.inl ⟨cs, is, p, ⟨rfl, rfl, rfl⟩, l⟩
      obtain ⟨hc', hr', e1, e2, kc, kr, h⟩ := endS (v2 := v2) hq hs hk w (fun cs' is' p' g => by rw [g.1, g.2.2]; omega) b46 (by omega) sd
      refine ⟨hc', hr', e1, e2, kc, kr.mono (fun p k y => FEnd_law (by omega) y), ?_⟩
      rcases h with h | ⟨cs', is', p', cs0, is0, p0, D, ⟨g1, g2, g3⟩, okD, g4, g5, g6, l', r33, r36, r37, r31, r32, b46'⟩
      · exact Or.inl h
      · subst g1; subst g2; subst g3; subst g5; subst g6
        exact Or.inr ⟨[], D, p', (fun x hx => nomatch hx), okD, l', g4, ⟨r33, r36, r37⟩, r31, r32, b46'⟩
