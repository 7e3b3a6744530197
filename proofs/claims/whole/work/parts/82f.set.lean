def FAL (t p k : Nat) : Prop := (p = t ∧ (k ≤ 4 ∨ k = 17)) ∨ (t + 32 ≤ p ∧ p ≤ t + 34) ∨ (p = 2 ∧ k = 1)
def FALr (s p k : Nat) : Prop := ((p = 11 ∨ p = 15 ∨ p = 21 ∨ p = 25 ∨ p = 26) ∧ k = s) ∨ (p = 0 ∧ (k = 19 ∨ k = 12 ∨ k = 20 ∨ k = 46 ∨ k = 52)) ∨ (8 ≤ p ∧ p ≤ 10)
theorem AL.fr {t s p p' c b k : Nat} {T : TX} {L : Nat → List Nat} {so nu : Nat → Nat} {hc hr hc' hr' : PH} (al : AL t s p T c L so nu b k hc hr) (hp : p ≤ p') (kc : KP (FAL t) hc hc') (kr : KP (FALr s) hr hr') : AL t s p' T c L so nu b k hc' hr' :=
  AL.mk al.men al.exc al.dut al.tst al.kno al.cc ((kc.i (by unfold FAL; omega)).trans al.cm) ((kc.i (by unfold FAL; omega)).trans al.ce) ((kc.i (by unfold FAL; omega)).trans al.cd) ((kc.i (by unfold FAL; omega)).trans al.ct) ((kc.i (by unfold FAL; omega)).trans al.ck) ((kr.i (by unfold FALr; omega)).trans al.rm) ((kr.i (by unfold FALr; omega)).trans al.re) ((kr.i (by unfold FALr; omega)).trans al.rd) ((kr.i (by unfold FALr; omega)).trans al.rt) ((kr.i (by unfold FALr; omega)).trans al.rk) (al.nc.fr (kc.mono (fun p k z => by unfold FNc at z; unfold FAL; omega))) (al.nr.fr (kr.mono (fun p k z => by unfold FNr at z; unfold FALr; omega))) al.nw ((kr.i (by unfold FALr; omega)).trans al.side) ((kc.r (by unfold FAL; omega)).trans al.oth) ((kr.i (by unfold FALr; omega)).trans al.opn) ((kr.i (by unfold FALr; omega)).trans al.br) ((kr.i (by unfold FALr; omega)).trans al.co) (by have := al.b4; omega) (by have := al.kp; omega)
theorem set_core {K N p t s wd j a hi : Nat} {bs : Nat → Nat} {hc hr : PH} (pt : PT K bs N hc hr) (rs : RS K bs N p hc hr) (ht : t = 8 ∨ t = 43) (hs : s < 2) (sd : hr.1 0 19 = nI s) (q : tK K bs p = wd) (hw : wd < 128) (hw1 : 1 < wd) (ha : 11 < a) (hh : hi < 10000) {a1 a2 : Int32} (e1 : a1 = nI wd) (e2 : a2 = nI hi) : ∃ hc' hr', (bind2 (c_X4_setting 2 a1 a2 hc) fun r h25 => c_X4_accept 2 59 (setI h25 t j r)) = some hc' ∧ ((c_X12_goesOn hr).bind fun h20 => bind2 (c_X12_bounded 0 a2 h20) fun r21 h22 => gd (ixOK (h20.1 0 19) 2) <| nm (setI h22 a (h20.1 0 19).toNatClampNeg r21) fun h23 => (c_X12_must 4 h23).bind fun h24 => some h24) = some hr' ∧ KP (fun p k => GC p k ∧ ¬ (p = t ∧ k = j)) hc hc' ∧ KP (fun p k => GR p k ∧ ¬ (p = a ∧ k = s)) hr hr' ∧ PT K bs N hc' hr' ∧ (BK hc' hr' ∨ (RS K bs N (p + 3) hc' hr' ∧ ∃ n, hc'.1 t j = nI n ∧ hr'.1 a s = nI n ∧ (hc'.1 2 5 = 0 → hc.1 2 5 = 0 ∧ n ≤ hi))) := by
  obtain ⟨hc1, hr1, x1, x2, kc1, kr1, pt1, w1, s1, _⟩ := goes2 pt rs hw hw1 q e1
  unfold c_X4_setting
  rw [x1, x2, Option.bind_some, Option.bind_some]
  obtain ⟨v, hc2, v', hr2, y1, y2, kc2, kr2, pt2, w2, f2⟩ := num2 (lo := 0) (hi := hi) pt1 w1 (by omega) hh (a1 := 0) (a2 := a2) rfl e2
  have sd1 : hr1.1 0 19 = nI s := (kr1.i (by unfold GR; omega)).trans sd
  rw [y1, y2, b2_some, b2_some, b2_some, sd1, live_gd hs, nI_clamp (n := s) (by omega)]
  obtain ⟨hc3, z1⟩ : ∃ x, x = setI hc2 t j v := ⟨_, rfl⟩
  obtain ⟨hr3, z2⟩ : ∃ x, x = setI hr2 a s v' := ⟨_, rfl⟩
  rw [← z1, ← z2, nm_eq hr3]
  have kc3 : KP (fun p k => ¬ (p = t ∧ k = j)) hc2 hc3 := by rw [z1]; exact KP.setI (fun z => z ⟨rfl, rfl⟩)
  have kr3 : KP (fun p k => ¬ (p = a ∧ k = s)) hr2 hr3 := by rw [z2]; exact KP.setI (fun z => z ⟨rfl, rfl⟩)
  have pt3 := pt2.fr2 (kc3.mono (fun p k z => by omega)) (kr3.mono (fun p k z => by omega))
  have w3 := w2.fr (kc3.mono (fun p k z => by unfold FWc at z; omega)) (kr3.mono (fun p k z => by unfold FWr at z; omega))
  obtain ⟨hc4, hr4, u1, u2, kc4, kr4, pt4, w4, f4⟩ := acc3 (k := 59) pt3 w3 (by omega) (by omega) rfl (c := 59) (c' := 4) rfl rfl
  rw [u1, u2]
  refine ⟨_, _, rfl, rfl, (((kc1.mono (fun _ _ z => z.1)).trans (kc2.mono (fun _ _ z => z.1))).trans (kc3.mono (fun _ _ z => z.2))).trans (kc4.mono (fun _ _ z => z.1)), (((kr1.mono (fun _ _ z => z.1)).trans (kr2.mono (fun _ _ z => z.1))).trans (kr3.mono (fun _ _ z => z.2))).trans (kr4.mono (fun _ _ z => z.1)), pt4, ?_⟩
  rcases w4 with rs4 | bk
  · obtain ⟨f3, _, s4⟩ := f4 rs4.2.1
    obtain ⟨_, _, n, _, n2, n3, n4⟩ := f2 ((kr3.i (by omega)).symm.trans f3)
    refine Or.inr ⟨rs4, n, ?_, ?_, fun z => ?_⟩
    · rw [(kc4.i (by unfold GC; omega)), z1, setI_eq]; exact n2
    · rw [(kr4.i (by unfold GR; omega)), z2, setI_eq]; exact n3
    · obtain ⟨y, _, l⟩ := n4 ((kc3.i (by omega)).symm.trans (s4.symm.trans z))
      exact ⟨s1.symm.trans y, l⟩
  · exact Or.inl bk
/-- the statement of a setting, with what it does to the text -/
theorem set_end {K N p t s j a hi : Nat} {bs : Nat → Nat} {hc hr : PH} {oc or : Option PH} (bd : BD t s p hc hr) (ht : t = 8 ∨ t = 43) (hs : s < 2) (hj : 5 ≤ j ∧ j ≤ 7) (ha : 28 ≤ a ∧ a ≤ 30) (up : ∀ (T : TX) (n : Nat) (hc' hr' : PH), T.wf → n ≤ hi → TxC t T hc → TxR s T hr → KP (fun p k => GC p k ∧ ¬ (p = t ∧ k = j)) hc hc' → KP (fun p k => GR p k ∧ ¬ (p = a ∧ k = s)) hr hr' → hc'.1 t j = nI n → hr'.1 a s = nI n → ∃ T' : TX, T'.wf ∧ TxC t T' hc' ∧ TxR s T' hr' ∧ T'.men = T.men ∧ T'.exc = T.exc ∧ T'.dut = T.dut ∧ T'.tst = T.tst ∧ T'.kno = T.kno) (h : ∃ hc' hr', oc = some hc' ∧ or = some hr' ∧ KP (fun p k => GC p k ∧ ¬ (p = t ∧ k = j)) hc hc' ∧ KP (fun p k => GR p k ∧ ¬ (p = a ∧ k = s)) hr hr' ∧ PT K bs N hc' hr' ∧ (BK hc' hr' ∨ (RS K bs N (p + 3) hc' hr' ∧ ∃ n, hc'.1 t j = nI n ∧ hr'.1 a s = nI n ∧ (hc'.1 2 5 = 0 → hc.1 2 5 = 0 ∧ n ≤ hi)))) : OUT K bs N t s p hc hr oc or := by
  obtain ⟨hc', hr', e1, e2, kc, kr, pt', h⟩ := h
  obtain ⟨T, c, L, so, nu, b, k, al, sd⟩ := bd
  refine ⟨hc', hr', e1, e2, kc.mono (fun p k z => by unfold FPc at z; unfold GC; omega), kr.mono (fun p k z => by unfold FPr FxRs at z; unfold GR; omega), pt', ?_⟩
  rcases h with bk | ⟨rs, n, v1, v2, hn⟩
  · exact Or.inl bk
  · refine Or.inr ⟨p + 3, by omega, rs, ?_⟩
    have al' := al.fr (p' := p + 3) (by omega) (kc.mono (fun p k z => by unfold FAL at z; unfold GC; omega)) (kr.mono (fun p k z => by unfold FALr at z; unfold GR; omega))
    by_cases z : hc'.1 2 5 = 0
    · obtain ⟨z0, l⟩ := hn z
      obtain ⟨Lp, Lw, S⟩ := sd z0
      obtain ⟨T', w', xc', xr', m1, m2, m3, m4, m5⟩ := up T n hc' hr' S.wf l S.xc S.xr kc kr v1 v2
      refine ⟨T', c, L, so, nu, b, k, ?_, fun _ => ⟨Lp, Lw, SD.mk w' xc' xr' S.dis (fun i hi hi5 => (kr.i (by unfold GR; omega)).trans (S.kn i (by omega) hi5)) (S.lcp.fr (kc.mono (fun p k z => by unfold GC; omega))) (S.lcw.fr (kc.mono (fun p k z => by unfold GC; omega))) (S.lrp.fr (Nat.le_refl _) (Nat.le_refl _) (kr.mono (fun p k z => by unfold FLr at z; unfold GR; omega))) (S.lrw.fr (Nat.le_refl _) (Nat.le_refl _) (kr.mono (fun p k z => by unfold FLr at z; unfold GR; omega))) S.cp S.cw⟩⟩
      exact AL.mk (by rw [m1]; exact al'.men) (by rw [m2]; exact al'.exc) (by rw [m3]; exact al'.dut) (by rw [m4]; exact al'.tst) (by rw [m5]; exact al'.kno) (by rw [m1, m2, m3, m4]; exact al'.cc) (by rw [m1]; exact al'.cm) (by rw [m2]; exact al'.ce) (by rw [m3]; exact al'.cd) (by rw [m4]; exact al'.ct) (by rw [m5]; exact al'.ck) (by rw [m1]; exact al'.rm) (by rw [m2]; exact al'.re) (by rw [m3]; exact al'.rd) (by rw [m4]; exact al'.rt) (by rw [m5]; exact al'.rk) al'.nc al'.nr (by rw [m1, m2]; exact al'.nw) al'.side al'.oth al'.opn al'.br al'.co al'.b4 al'.kp
    · exact ⟨T, c, L, so, nu, b, k, al', fun y => absurd y z⟩
theorem kM_20 : ∀ w, 64 ≤ w → w < 87 → ∀ c : Nat, c < 43 → c ≠ w - 44 → ¬ nI (kM w) = nI c := fun w h1 h2 c hc hn z => by
  have : kM w = w - 44 := by unfold kM; rw [if_neg (by omega), if_neg (by omega), if_neg (by omega), if_neg (by omega), if_pos h1]
  rw [this] at z
  have := (nI_eq (by omega) (by omega)).mp z
  omega
theorem rain2 {K N p t s : Nat} {bs : Nat → Nat} {hc hr : PH} (pt : PT K bs N hc hr) (rs : RS K bs N p hc hr) (bd : BD t s p hc hr) (ht : t = 8 ∨ t = 43) (hs : s < 2) (q : tK K bs p = 71) : OUT K bs N t s p hc hr (bind2 (c_X4_setting 2 71 100 hc) fun r h25 => c_X4_accept 2 59 (setI h25 t 5 r)) (c_X12_tellOne hr) := by
  refine set_end (j := 5) (a := 28) (hi := 100) bd ht hs (by omega) (by omega) (fun T n hc' hr' w hn xc xr kc kr v1 v2 => ⟨T.sRain n, TX.sRain_wf w hn, TxC.sRain xc w (kc.mono (fun p k z => by unfold KcT at z; unfold GC; omega)) v1, TxR.sRain xr w (kr.mono (fun p k z => by unfold KrT at z; unfold GR; omega)) v2, rfl, rfl, rfl, rfl, rfl⟩) ?_
  obtain ⟨T, c, L, so, nu, b, k, al, sd⟩ := bd
  have := set_core (j := 5) (a := 28) (hi := 100) pt rs ht hs al.side q (by omega) (by omega) (by omega) (by omega) (a1 := 71) (a2 := 100) rfl rfl
  unfold c_X12_tellOne
  rw [(rs.kindR pt).1, (rs.kindR pt (α := PH) (o := none)).2, q, if_neg (show ¬ nI (kM 71) = (20 : Int32) by decide), if_neg (show ¬ nI (kM 71) = (21 : Int32) by decide), if_neg (show ¬ nI (kM 71) = (22 : Int32) by decide), if_neg (show ¬ nI (kM 71) = (23 : Int32) by decide), if_neg (show ¬ nI (kM 71) = (24 : Int32) by decide), if_neg (show ¬ nI (kM 71) = (25 : Int32) by decide), if_neg (show ¬ nI (kM 71) = (26 : Int32) by decide), if_pos (show nI (kM 71) = (27 : Int32) from rfl)]
  exact this
theorem coin2 {K N p t s : Nat} {bs : Nat → Nat} {hc hr : PH} (pt : PT K bs N hc hr) (rs : RS K bs N p hc hr) (bd : BD t s p hc hr) (ht : t = 8 ∨ t = 43) (hs : s < 2) (q : tK K bs p = 72) : OUT K bs N t s p hc hr (bind2 (c_X4_setting 2 72 999 hc) fun r h25 => c_X4_accept 2 59 (setI h25 t 6 r)) (c_X12_tellOne hr) := by
  refine set_end (j := 6) (a := 29) (hi := 999) bd ht hs (by omega) (by omega) (fun T n hc' hr' w hn xc xr kc kr v1 v2 => ⟨T.sCoin n, TX.sCoin_wf w (by omega), TxC.sCoin xc w (kc.mono (fun p k z => by unfold KcT at z; unfold GC; omega)) v1, TxR.sCoin xr w (kr.mono (fun p k z => by unfold KrT at z; unfold GR; omega)) v2, rfl, rfl, rfl, rfl, rfl⟩) ?_
  obtain ⟨T, c, L, so, nu, b, k, al, sd⟩ := bd
  have := set_core (j := 6) (a := 29) (hi := 999) pt rs ht hs al.side q (by omega) (by omega) (by omega) (by omega) (a1 := 72) (a2 := 999) rfl rfl
  unfold c_X12_tellOne
  rw [(rs.kindR pt).1, (rs.kindR pt (α := PH) (o := none)).2, q, if_neg (show ¬ nI (kM 72) = (20 : Int32) by decide), if_neg (show ¬ nI (kM 72) = (21 : Int32) by decide), if_neg (show ¬ nI (kM 72) = (22 : Int32) by decide), if_neg (show ¬ nI (kM 72) = (23 : Int32) by decide), if_neg (show ¬ nI (kM 72) = (24 : Int32) by decide), if_neg (show ¬ nI (kM 72) = (25 : Int32) by decide), if_neg (show ¬ nI (kM 72) = (26 : Int32) by decide), if_neg (show ¬ nI (kM 72) = (27 : Int32) by decide), if_pos (show nI (kM 72) = (28 : Int32) from rfl)]
  exact this
theorem seed2 {K N p t s : Nat} {bs : Nat → Nat} {hc hr : PH} (pt : PT K bs N hc hr) (rs : RS K bs N p hc hr) (bd : BD t s p hc hr) (ht : t = 8 ∨ t = 43) (hs : s < 2) (q : tK K bs p = 73) : OUT K bs N t s p hc hr (bind2 (c_X4_setting 2 73 9999 hc) fun r h25 => c_X4_accept 2 59 (setI h25 t 7 r)) (c_X12_tellOne hr) := by
  refine set_end (j := 7) (a := 30) (hi := 9999) bd ht hs (by omega) (by omega) (fun T n hc' hr' w hn xc xr kc kr v1 v2 => ⟨T.sSeed (nI n), TX.sSeed_wf w, TxC.sSeed xc w (kc.mono (fun p k z => by unfold KcT at z; unfold GC; omega)) v1, TxR.sSeed xr w (kr.mono (fun p k z => by unfold KrT at z; unfold GR; omega)) v2, rfl, rfl, rfl, rfl, rfl⟩) ?_
  obtain ⟨T, c, L, so, nu, b, k, al, sd⟩ := bd
  have := set_core (j := 7) (a := 30) (hi := 9999) pt rs ht hs al.side q (by omega) (by omega) (by omega) (by omega) (a1 := 73) (a2 := 9999) rfl rfl
  unfold c_X12_tellOne
  rw [(rs.kindR pt).1, (rs.kindR pt (α := PH) (o := none)).2, q, if_neg (show ¬ nI (kM 73) = (20 : Int32) by decide), if_neg (show ¬ nI (kM 73) = (21 : Int32) by decide), if_neg (show ¬ nI (kM 73) = (22 : Int32) by decide), if_neg (show ¬ nI (kM 73) = (23 : Int32) by decide), if_neg (show ¬ nI (kM 73) = (24 : Int32) by decide), if_neg (show ¬ nI (kM 73) = (25 : Int32) by decide), if_neg (show ¬ nI (kM 73) = (26 : Int32) by decide), if_neg (show ¬ nI (kM 73) = (27 : Int32) by decide), if_neg (show ¬ nI (kM 73) = (28 : Int32) by decide), if_pos (show nI (kM 73) = (29 : Int32) from rfl)]
  exact this
