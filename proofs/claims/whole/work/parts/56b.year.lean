theorem wf_up {b b' : Nat} {T : TX} {i : Nat} {σ : ST} (h : b ≤ b') (sw : ST.wf b T i σ) : ST.wf b' T i σ := ST.wf.mk (Nat.le_trans sw.today h) (by have := sw.coins; omega) sw.owned sw.out sw.out0 sw.out1 sw.plan sw.planT sw.trust
theorem CL.fr {n n' : Nat} {T : TX} {σ : ST} {s t : Nat} {Lp Lw : LawT} {hc hr hc' hr' : PH} (hn : n ≤ n') (kc : KP (SC t) hc hc') (kr : KP SR hr hr') (C : CL n T σ s t Lp Lw hc hr) : CL n' T σ s t Lp Lw hc' hr' := by
  have C0 := C.cor
  have t2 := C0.t2
  refine CL.mk (Cor.mk C0.twf C0.s2 ((kr.i (by unfold SR; omega)).trans C0.live) C0.t2 ((kc.r (by unfold SC; omega)).trans C0.txt) (C0.xc.fr C0.twf (kc.mono (fun q k z => by unfold FxC at z; unfold SC; omega))) (C0.xr.fr (kr.mono (fun q k z => by unfold FxR at z; unfold SR; omega))) (wf_up (by omega) C0.swf) (C0.sc.fr (kc.mono (fun q k z => by unfold SC; omega))) (C0.sr.fr (kr.mono (fun q k z => by unfold SR; omega)))) (C.lc.fr (kc.mono (fun q k z => by unfold FxC at z; unfold SC; omega))) (C.lr.fr (kr.mono (fun q k z => by unfold FxR at z; unfold SR; omega))) C.cp C.cw
def yearS (T : TX) (Lp Lw : LawT) (σ : ST) (m n : Nat) : Int32 := forS (fun i x => x + nI (moreN T (goS T Lp Lw (T.seed + nI i) m σ) σ 1)) n 0
theorem year_ok {n : Nat} {T : TX} {σ : ST} {s t : Nat} {Lp Lw : LawT} {hc hr : PH} (C : CL n T σ s t Lp Lw hc hr) (hn : n < 600) (a1 a2 : Int32) : ∃ (v : Int32) (hc' hr' : PH), c_X11_year a1 a2 hc = some (v, hc') ∧ c_X12_year a1 a2 hr = some (v, hr') ∧ KP (SC t) hc hc' ∧ KP SR hr hr' := by
  have C0 := C.cor
  unfold c_X11_year c_X12_year
  rw [isAhead_eq, isLong_eq, Option.bind_some, Option.bind_some, if10, if10]
  by_cases q1 : 0 ≤ a1 ∧ a1 ≤ 30
  · rw [if_pos q1, if_pos q1, X12_in, Option.bind_some, if10]
    by_cases q2 : a2 < 1
    · rw [if_pos q2, if_neg (fun z => absurd z.1 (Int32.not_le.mpr q2))]
      exact ⟨-1, hc, hr, rfl, rfl, KP.rfl, KP.rfl⟩
    rw [if_neg q2]
    by_cases q3 : a2 ≤ 20
    · rw [if_pos q3, if_pos ⟨Int32.not_lt.mp q2, q3⟩]
      obtain ⟨m, hm, rfl⟩ := nI_of (Int32.not_lt.mpr q1.1)
      have m30 : m ≤ 30 := (nI_leI (b := 30) hm (by omega)).mp q1.2
      obtain ⟨j, hj, rfl⟩ := nI_of (show ¬ a2 < 0 from fun z => q2 (Int32.lt_trans z (by decide)))
      have j20 : j ≤ 20 := (nI_leI (b := 20) hj (by omega)).mp q3
      simp only [nm]
      rw [lq3_m, lq3_m]
      obtain ⟨⟨v, hc'⟩, e, hv, kc⟩ := for_r (B := fun REC (t : Int32 × PH) i => c_X11_year_L25b (nI m) (nI j) (fun w11 h12 => some (w11, h12)) (fun a i c => REC (a, c) i) t.1 i t.2) (K := fun x => some (x.1, x.2)) (N := j) (fun i x => x.1 = yearS T Lp Lw σ m i ∧ KP (SC t) hc x.2) (by omega) (fun REC i x hi hp => by
        obtain ⟨hv, k⟩ := hp
        obtain ⟨⟨hc1, hc2, c1, c2, c3, c4, c5, c6, c7⟩, _⟩ := ahead_ok (C.fr (Nat.le_refl n) k KP.rfl) hn (show m ≤ 60 by omega) (nI i)
        have wg := wf_go (Lp := Lp) (Lw := Lw) (seed := T.seed + nI i) C0.swf C0.twf m
        refine ⟨(x.1 + nI (moreN T (goS T Lp Lw (T.seed + nI i) m σ) σ 1), hc2), ?_, by rw [hv]; rfl, k.trans c7⟩
        unfold c_X11_year_L25b
        rw [if_neg (nI_ge hi (by omega)), c1]
        simp only [nm, Option.bind_some, c2, gdT C0.t2, c3, c4, c5.freed, c6.freed, moreC C0.twf wg (k := 1) (by omega), nI_1]) (fun REC x _ => by
        unfold c_X11_year_L25b
        rw [if_pos (nI_le (by omega) (by omega))]) (0, hc) ⟨rfl, KP.rfl⟩
      obtain ⟨⟨v', hr'⟩, e', hv', kr⟩ := for_r (B := fun REC (t : Int32 × PH) i => c_X12_year_L24b (nI m) (nI j) (fun w11 h12 => some (w11, h12)) (fun a i c => REC (a, c) i) t.1 i t.2) (K := fun x => some (x.1, x.2)) (N := j) (fun i x => x.1 = yearS T Lp Lw σ m i ∧ KP SR hr x.2) (by omega) (fun REC i x hi hp => by
        obtain ⟨hv, k⟩ := hp
        obtain ⟨_, hr1, r1, r2, hr2, r3, r4, r5, r6, r7, r8⟩ := ahead_ok (C.fr (Nat.le_refl n) KP.rfl k) hn (show m ≤ 60 by omega) (nI i)
        have wg := wf_go (Lp := Lp) (Lw := Lw) (seed := T.seed + nI i) C0.swf C0.twf m
        refine ⟨(x.1 + nI (moreN T (goS T Lp Lw (T.seed + nI i) m σ) σ 1), hr2), ?_, by rw [hv]; rfl, k.trans r8⟩
        unfold c_X12_year_L24b
        rw [if_neg (nI_ge hi (by omega)), r1]
        simp only [nm, Option.bind_some, r2, r3, show (1 : Int32) = nI 1 from rfl, moreR C0.twf C0.s2 r6 r7 r4 r5 wg C0.swf (show 1 < 9 by omega), nI_add]) (fun REC x _ => by
        unfold c_X12_year_L24b
        rw [if_pos (nI_le (by omega) (by omega))]) (0, hr) ⟨rfl, KP.rfl⟩
      rw [e, e']
      exact ⟨v, hc', hr', rfl, by rw [hv']; exact congrArg (fun z => some (z, hr')) hv.symm, kc, kr⟩
    · rw [if_neg q3, if_neg (fun z => q3 z.2)]
      exact ⟨-1, hc, hr, rfl, rfl, KP.rfl, KP.rfl⟩
  · rw [if_neg q1, if_neg q1]
    exact ⟨-1, hc, hr, rfl, rfl, KP.rfl, KP.rfl⟩
