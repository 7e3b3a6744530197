theorem TX.sRain_eq (T : TX) : T.sRain T.rain = T := rfl
/-- a law's statement told, up to what the law answers -/
theorem law_run {K N p t s kk : Nat} {bs : Nat → Nat} {T : TX} {c b k : Nat} {L : Nat → List Nat} {so nu : Nat → Nat} {hc hr : PH} (pt : PT K bs N hc hr) (rs : RS K bs N p hc hr) (al : AL t s p T c L so nu b k hc hr) (ht : t = 8 ∨ t = 43) (hs : s < 2) (hk : kk < 2) (tk : tK K bs p = 69 + kk) : ∃ hc' hr', ((c_X4_tellLaw 2 (t + 1 + 3 * kk) (nI (69 + kk)) hc).bind fun h => c_X4_accept 2 59 h) = some hc' ∧ c_X12_tellOne hr = some hr' ∧ KP (FEc (t + 1 + 3 * kk)) hc hc' ∧ KP (FLaw s kk (130 * s + b) k) hr hr' ∧ ((PT K bs N hc' hr' ∧ BK hc' hr') ∨ ∃ (brs : List Br) (D : Its) (p' : Nat), (∀ x ∈ brs, brOK x) ∧ OKh D 15 ∧ LwS K bs N (t + 1 + 3 * kk) s k (codeC 0 brs D) (flat brs D) p' hc' hr' ∧ p + 4 * brs.length + 4 ≤ p' ∧ RwR (130 * s + b) (420 * s + k) brs D hr' ∧ hr'.1 31 (2 * s + kk) = nI (130 * s + b) ∧ hr'.1 32 (2 * s + kk) = nI (130 * s + b + brs.length + 1) ∧ hr'.1 0 46 = nI (130 * s + b + brs.length + 1)) := by
  have hN := pt.2.1.1; have h5 := rs.2.2.2.2.1
  have b4 := al.b4; have kp := al.kp
  obtain ⟨q, hq⟩ : ∃ q, q = t + 1 + 3 * kk := ⟨_, rfl⟩
  rw [← hq]
  have q9 : 9 ≤ q := by omega
  obtain ⟨hcA, eA⟩ : ∃ x, x = setI hc q 1 (0 : Int32) := ⟨_, rfl⟩
  have kA : KP (FQ q) hc hcA := by rw [eA]; exact KP.setI (fun z => z.1 ⟨rfl, rfl⟩)
  have ptA := pt.frq q9 kA
  have rsA := rs.frq q9 kA
  have ccA : CdC q [] hcA := ⟨by rw [eA, setI_eq]; exact nI_0.symm, fun i w z => by rw [List.getElem?_nil] at z; exact absurd z (by simp)⟩
  have cr0 : CdR s k [] hr := ⟨al.co, fun i w z => by rw [List.getElem?_nil] at z; exact absurd z (by simp)⟩
  obtain ⟨hc1, hr1, a1, b1, kc1, kr1, pt1, h1⟩ := goes3 (q := q) ptA rsA (k := 69 + kk) (by omega) (by omega) tk rfl
  have cc1 : CdC q [] hc1 := ccA.fr (kc1.mono (fun p k z => by omega))
  have w1 : WwS K bs N q s k (fun cs is p' => cs = [] ∧ is = [] ∧ p' = p + 1) hc1 hr1 := by
    rcases h1 with rs1 | bk
    · exact Or.inl ⟨[], [], p + 1, ⟨rfl, rfl, rfl⟩, LwS.mk pt1 rs1 cc1 (Nat.zero_le _) (cr0.fr (kr1.mono (fun p k z => by omega))) (by show k + 0 ≤ p + 1; omega) ((kr1.i (by omega)).trans al.opn)⟩
    · exact Or.inr ⟨pt1, bk, cc1.ln (Nat.zero_le _)⟩
  obtain ⟨hc2, hr2, a2, b2, kc2, kr2, w2⟩ := accS q9 w1 (k := 61) (by omega) (by omega) rfl (c := 61) (c' := 5) rfl rfl
  have b46 : hr2.1 0 46 = nI (130 * s + b) := (kr2.i (by omega)).trans ((kr1.i (by omega)).trans al.br)
  have sd2 : hr2.1 0 19 = nI s := (kr2.i (by omega)).trans ((kr1.i (by omega)).trans al.side)
  have kc02 : KP (FEc q) hc hc2 := ((kA.mono (fun _ _ z => z.2)).trans (kc1.mono (fun _ _ z => z.1))).trans kc2
  have kr02 : KP (FLaw s kk (130 * s + b) k) hr hr2 := (kr1.mono (fun p k z => by have := z.1; unfold FEr at this; omega)).trans (kr2.mono (fun p k z => by have := z.1; unfold FEr at this; omega))
  obtain ⟨g, hg⟩ : ∃ g, fu = g + 1 := ⟨8191, by unfold fu; omega⟩
  have g8 : 6 ≤ fu := by unfold fu; omega
  have eC : ((c_X4_tellLaw 2 q (nI (69 + kk)) hc).bind fun h => c_X4_accept 2 59 h) = ((clLp q fu (nI 0) hc2).bind fun h => c_X4_accept 2 59 h) := by
    unfold c_X4_tellLaw c_X2_clear
    rw [← eA, nm_eq hcA, Option.bind_some, a1, Option.bind_some, a2, Option.bind_some, nm_eq, ← nI_0]
    rfl
  have eR : c_X12_tellOne hr = rfLp kk (nI (130 * s + b)) fu (nI 0) hr2 := by
    have km : kM (69 + kk) = 25 + kk := by
      have : kk = 0 ∨ kk = 1 := by omega
      rcases this with e | e <;> subst e <;> rfl
    have nk : ∀ m, m < 30 → m ≠ 25 + kk → ¬ nI (25 + kk) = nI m := fun m h1 h2 z => by have := (nI_eq (by omega) (by omega)).mp z; omega
    have tl : c_X12_tellLaw (nI kk) hr1 = rfLp kk (nI (130 * s + b)) fu (nI 0) hr2 := by
      unfold c_X12_tellLaw
      rw [b2, Option.bind_some, b46, nm_eq, nm_eq, ← nI_0]
      rfl
    unfold c_X12_tellOne
    rw [(rs.kindR pt).1, (rs.kindR pt (α := PH) (o := none)).2, tk, km, if_neg (show ¬ nI (25 + kk) = (20 : Int32) from nk 20 (by omega) (by omega)), if_neg (show ¬ nI (25 + kk) = (21 : Int32) from nk 21 (by omega) (by omega)), if_neg (show ¬ nI (25 + kk) = (22 : Int32) from nk 22 (by omega) (by omega)), if_neg (show ¬ nI (25 + kk) = (23 : Int32) from nk 23 (by omega) (by omega)), if_neg (show ¬ nI (25 + kk) = (24 : Int32) from nk 24 (by omega) (by omega))]
    have j294 : c_X12_tellOne_j294 hr = rfLp kk (nI (130 * s + b)) fu (nI 0) hr2 := by
      unfold c_X12_tellOne_j294
      rw [(rs.kindR pt).1, (rs.kindR pt (α := PH) (o := none)).2, tk, km, show nI (25 + kk) - 25 = nI kk from by rw [show (25 : Int32) = nI 25 from rfl, pk_sub (by omega), show 25 + kk - 25 = kk by omega], nm_eq, if_neg (nI_pos (by omega)), (rs.kindR pt).1, if_pos (show nI (25 + kk) ≤ 26 from nI_le (b := 26) (by omega) (by omega)), rs.2.1, if_pos (show (0 : Int32) ≤ 0 by decide), b1, Option.bind_some, tl]
      cases rfLp kk (nI (130 * s + b)) fu (nI 0) hr2 <;> rfl
    have h01 : kk = 0 ∨ kk = 1 := by omega
    rcases h01 with e | e
    · subst e
      rw [if_pos (show nI (25 + 0) = (25 : Int32) from rfl), j294]
    · subst e
      rw [if_neg (show ¬ nI (25 + 1) = (25 : Int32) by decide), if_pos (show nI (25 + 1) = (26 : Int32) from rfl), j294]
  rw [eC, eR]
  rcases w2 with ⟨cs, is, p2, ⟨p1, ⟨e1, e2, e3⟩, e4⟩, l⟩ | lb
  · subst e1; subst e2; subst e4; subst e3
    obtain ⟨hc', hr', e5, e6, kc, kr, h⟩ := tellL (v2 := nI (130 * s + b)) q9 hs hk 4 0 fu fu [] [] (p + 1 + 1) (130 * s + b) hc2 hr2 rfl (by omega) (by omega) l (by show 0 + 2 ≤ p + 1 + 1; omega) b46 (by omega) (by omega) sd2
    refine ⟨hc', hr', e5, e6, kc02.trans kc, kr02.trans kr, ?_⟩
    rcases h with h | ⟨brs, D, p', okb, okD, l', h1, rr, r31, r32, b'⟩
    · exact Or.inl h
    · exact Or.inr ⟨brs, D, p', okb, okD, l', by omega, rr, r31, r32, b'⟩
  · have w : WwS K bs N q s k (fun _ _ _ => False) hc2 hr2 := Or.inr lb
    rw [hg, clLp_b lb.2.1, rfLp_b lb.2.1]
    obtain ⟨hc', hr', e3, e4, kc, kr, h⟩ := endS (v2 := nI (130 * s + b)) q9 hs hk w (fun _ _ _ g => nomatch g) b46 (by omega) sd2
    refine ⟨hc', hr', e3, e4, kc02.trans kc, kr02.trans (kr.mono (fun p k y => FEnd_law (by omega) y)), ?_⟩
    rcases h with h | ⟨_, _, _, _, _, _, _, g, _⟩
    · exact Or.inl h
    · exact nomatch g
theorem FPc_law {t kk p k : Nat} (ht : t = 8 ∨ t = 43) (hk : kk < 2) (z : FPc t p k) : FEc (t + 1 + 3 * kk) p k := by unfold FPc at z; unfold FEc FQ; omega
theorem FPr_law {s kk b n0 p k : Nat} (hs : s < 2) (hk : kk < 2) (z : FPr s p k) : FLaw s kk (130 * s + b) n0 p k := by unfold FPr FxRs at z; unfold FLaw FEr; omega
theorem law_txt {t s kk b k : Nat} {T : TX} {hc hr hc' hr' : PH} (ht : t = 8 ∨ t = 43) (hs : s < 2) (hk : kk < 2) (w : T.wf) (xc : TxC t T hc) (xr : TxR s T hr) (kc : KP (FEc (t + 1 + 3 * kk)) hc hc') (kr : KP (FLaw s kk (130 * s + b) k) hr hr') : TxC t T hc' ∧ TxR s T hr' := by
  have a := TxC.sRain (n := T.rain) xc w (kc.mono (fun p k z => by unfold KcT at z; unfold FEc FQ; omega)) ((kc.i (by unfold FEc FQ; omega)).trans xc.rain)
  have b := TxR.sRain (n := T.rain) xr w (kr.mono (fun p k z => by unfold KrT at z; unfold FLaw FEr; omega)) ((kr.i (by unfold FLaw FEr; omega)).trans xr.rain)
  rw [TX.sRain_eq] at a b
  exact ⟨a, b⟩
theorem law2 {K N p t s kk : Nat} {bs : Nat → Nat} {hc hr : PH} (pt : PT K bs N hc hr) (rs : RS K bs N p hc hr) (bd : BD t s p hc hr) (ht : t = 8 ∨ t = 43) (hs : s < 2) (hk : kk < 2) (tk : tK K bs p = 69 + kk) : OUT K bs N t s p hc hr ((c_X4_tellLaw 2 (t + 1 + 3 * kk) (nI (69 + kk)) hc).bind fun h => c_X4_accept 2 59 h) (c_X12_tellOne hr) := by
  obtain ⟨T, c, L, so, nu, b, k, al, sd⟩ := bd
  have b4 := al.b4; have kp := al.kp
  obtain ⟨hc', hr', e1, e2, kc, kr, h⟩ := law_run pt rs al ht hs hk tk
  have hN := pt.2.1.1; have h5 := rs.2.2.2.2.1
  have kcF : KP (FPc t) hc hc' := kc.mono (fun p k z => FPc_law ht hk z)
  have krF : KP (FPr s) hr hr' := kr.mono (fun p k z => FPr_law hs hk z)
  refine ⟨hc', hr', e1, e2, kcF, krF, ?_⟩
  rcases h with ⟨pt', bk⟩ | ⟨brs, D, p', okb, okD, l, h1, rr, r31, r32, b46⟩
  · exact ⟨pt', Or.inl bk⟩
  have pl := l.lim; have cb := l.cb; have cl := l.cl
  refine ⟨l.pt, Or.inr ⟨p', by omega, l.rs, ?_⟩⟩
  have al' : AL t s p' T c L so nu (b + brs.length + 1) (k + (flat brs D).length) hc' hr' := AL.mk al.men al.exc al.dut al.tst al.kno al.cc ((kc.i (by unfold FEc FQ; omega)).trans al.cm) ((kc.i (by unfold FEc FQ; omega)).trans al.ce) ((kc.i (by unfold FEc FQ; omega)).trans al.cd) ((kc.i (by unfold FEc FQ; omega)).trans al.ct) ((kc.i (by unfold FEc FQ; omega)).trans al.ck) ((kr.i (by unfold FLaw FEr; omega)).trans al.rm) ((kr.i (by unfold FLaw FEr; omega)).trans al.re) ((kr.i (by unfold FLaw FEr; omega)).trans al.rd) ((kr.i (by unfold FLaw FEr; omega)).trans al.rt) ((kr.i (by unfold FLaw FEr; omega)).trans al.rk) (al.nc.fr (kc.mono (fun p k z => by unfold FNc at z; unfold FEc FQ; omega))) (al.nr.fr (kr.mono (fun p k z => by unfold FNr at z; unfold FLaw FEr; omega))) al.nw ((kr.i (by unfold FLaw FEr; omega)).trans al.side) ((kc.r (by unfold FEc FQ; omega)).trans al.oth) l.op (by rw [b46]; exact congrArg nI (by omega)) (by rw [l.cr.1]; exact congrArg nI (by omega)) (by omega) (by omega)
  by_cases z : hc'.1 2 5 = 0
  · obtain ⟨Lp, Lw, S⟩ := sd ((kc.i (by unfold FEc FQ; omega)).symm.trans z)
    obtain ⟨xc', xr'⟩ := law_txt ht hs hk S.wf S.xc S.xr kc kr
    have kn' : ∀ i, T.men ≤ i → i < 5 → hr'.1 14 (5 * s + i) = 0 := fun i hi hi5 => (kr.i (by unfold FLaw FEr; omega)).trans (S.kn i hi hi5)
    have nC : LwC (t + 1 + 3 * kk) (fun v => lawV v brs D) hc' := lwC_of (by omega) okb okD l.cc (by omega)
    have nR : ∀ pl m, m < 1000 → LwR s kk pl m (b + brs.length + 1) (k + (flat brs D).length) (fun v => lawV v brs D) hr' := fun pl m hm => lwR_of (b0 := b) (o0 := k) hs hk hm okb okD r31 r32 rr (fun i x e => by
      have := l.cr.2 i x e
      exact this) (Nat.le_refl _) (by omega) (Nat.le_refl _) (by omega)
    have nF := lawF_of okb okD
    refine ⟨T, c, L, so, nu, _, _, al', fun _ => ?_⟩
    have h01 : kk = 0 ∨ kk = 1 := by omega
    rcases h01 with e | e
    · subst e
      exact ⟨_, Lw, SD.mk S.wf xc' xr' S.dis kn' nC (S.lcw.fr (kc.mono (fun p k z => by unfold FEc FQ; omega))) (nR 50 100 (by omega)) (S.lrw.fr (by omega) (by omega) (kr.mono (fun p k z => by unfold FLr at z; unfold FLaw FEr; omega))) nF S.cw⟩
    · subst e
      exact ⟨Lp, _, SD.mk S.wf xc' xr' S.dis kn' (S.lcp.fr (kc.mono (fun p k z => by unfold FEc FQ; omega))) nC (S.lrp.fr (by omega) (by omega) (kr.mono (fun p k z => by unfold FLr at z; unfold FLaw FEr; omega))) (nR 10 99 (by omega)) S.cp nF⟩
  · exact ⟨T, c, L, so, nu, _, _, al', fun y => absurd y z⟩
theorem kinds_no : ∀ k, k < 128 → validK k = true → (k < 64 ∨ 73 < k) → kM k < 20 ∨ (29 < kM k ∧ kM k < 64) := by decide +kernel
theorem sub_neg0 : ∀ k, k < 20 → nI k - 25 < 0 := by decide +kernel
theorem sub_pos0 : ∀ k, k < 64 → 29 < k → ¬ nI k - 25 < 0 := by decide +kernel
theorem sub_neg {k : Nat} (h : k < 20) : nI k - 25 < 0 := sub_neg0 k h
theorem sub_pos {k : Nat} (h : 29 < k) (h2 : k < 64) : ¬ nI k - 25 < 0 := sub_pos0 k h2 h
/-- what begins no statement -/
theorem none2 {K N p t s : Nat} {bs : Nat → Nat} {hc hr : PH} (pt : PT K bs N hc hr) (rs : RS K bs N p hc hr) (h0 : tK K bs p ≠ 0) (hn : tK K bs p < 64 ∨ 73 < tK K bs p) : OUT K bs N t s p hc hr ((c_X4_breakOff 2 1 hc).bind fun h => c_X4_accept 2 59 h) (c_X12_tellOne hr) := by
  have hN := pt.2.1.1; have h5 := rs.2.2.2.2.1
  have kl : tK K bs p < 128 := tkind_lt K bs (tS K bs p)
  have km := kinds_no _ kl (tkind_ok K bs (tS K bs p)) hn
  have km : kM (tK K bs p) < 20 ∨ (29 < kM (tK K bs p) ∧ kM (tK K bs p) < 64) := km
  obtain ⟨hc', hr', e1, e2, kc, kr, pt', bk⟩ := brk2 (f := 1) pt rs (by omega) (by omega)
  have nk : ∀ m, 20 ≤ m → m < 30 → ¬ nI (kM (tK K bs p)) = nI m := fun m h1 h2 z => by have := (nI_eq (by omega) (by omega)).mp z; omega
  refine ⟨hc', hr', by rw [show (1 : Int32) = nI 1 from rfl, e1, Option.bind_some, bk.acc], ?_, kc.mono (fun p k z => GC_fp z), kr.mono (fun p k z => GR_fp z), pt', Or.inl bk⟩
  unfold c_X12_tellOne
  rw [(rs.kindR pt).1, (rs.kindR pt (α := PH) (o := none)).2, if_neg (show ¬ nI (kM (tK K bs p)) = (20 : Int32) from nk 20 (by omega) (by omega)), if_neg (show ¬ nI (kM (tK K bs p)) = (21 : Int32) from nk 21 (by omega) (by omega)), if_neg (show ¬ nI (kM (tK K bs p)) = (22 : Int32) from nk 22 (by omega) (by omega)), if_neg (show ¬ nI (kM (tK K bs p)) = (23 : Int32) from nk 23 (by omega) (by omega)), if_neg (show ¬ nI (kM (tK K bs p)) = (24 : Int32) from nk 24 (by omega) (by omega)), if_neg (show ¬ nI (kM (tK K bs p)) = (25 : Int32) from nk 25 (by omega) (by omega)), if_neg (show ¬ nI (kM (tK K bs p)) = (26 : Int32) from nk 26 (by omega) (by omega)), if_neg (show ¬ nI (kM (tK K bs p)) = (27 : Int32) from nk 27 (by omega) (by omega)), if_neg (show ¬ nI (kM (tK K bs p)) = (28 : Int32) from nk 28 (by omega) (by omega)), if_neg (show ¬ nI (kM (tK K bs p)) = (29 : Int32) from nk 29 (by omega) (by omega))]
  unfold c_X12_tellOne_j294
  rw [(rs.kindR pt).1, (rs.kindR pt (α := PH) (o := none)).2, nm_eq, show (1 : Int32) = nI 1 from rfl, e2, Option.bind_some, if_neg bk.nl, (rs.kindR pt).1]
  by_cases z : kM (tK K bs p) < 20
  · rw [if_pos (sub_neg z)]
  · rw [if_neg (sub_pos (by omega) (by omega)), if_neg (show ¬ nI (kM (tK K bs p)) ≤ 26 from fun y => by have := (nI_leI (b := 26) (by omega) (by omega)).mp y; omega)]
