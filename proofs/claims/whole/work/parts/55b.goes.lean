theorem out_z {b : Nat} {T : TX} {σ : ST} {d : Nat} (sw : ST.wf b T d σ) (hd : d < T.dut) (hday : T.dday d = σ.today) : σ.out d = 0 := by
  by_cases q : σ.out d = 0
  · exact q
  · have := (sw.out0 d hd).mp q; omega
theorem goC_day {b : Nat} {T : TX} {σ : ST} {p t : Nat} {Lp Lw : (Nat → Int32) → Int32} {h : PH} (w : T.wf) (sw : ST.wf b T 0 σ) (xc : TxC t T h) (x : StC p σ h) (LL : LawsC t Lp Lw h) (cp : LawF Lp) (cw : LawF Lw) (hp : p = 78 ∨ p = 81 ∨ p = 220) (ht : t = 8 ∨ t = 43) (hb : b < 2 ^ 31) (seed z3 z5 : Int32) (K : PH → Option PH) : ∃ y, lq2 (c_X1_goBy_L12b 217 t p z3 seed z5 K) fu 0 h = K y ∧ StC p (forS (stepS T Lp Lw seed) T.dut σ) y ∧ KP (FGo t p) h y := by
  have w2 := w.dut
  refine for_h (K := K) (N := T.dut) (fun i y => StC p (forS (stepS T Lp Lw seed) i σ) y ∧ KP (FGo t p) h y) (by omega) (fun REC i y hi hp2 => ?_) (fun REC y hp2 => ?_) h ⟨x, KP.rfl⟩
  · obtain ⟨xi, ki⟩ := hp2
    have wi := wf_for (Lp := Lp) (Lw := Lw) (seed := seed) sw w i (by omega)
    have ci : TxC t T y := xc.fr w (ki.mono (fun q k z => by unfold FxC at z; unfold FGo; omega))
    have Li : LawsC t Lp Lw y := LL.fr (ki.mono (fun q k z => by unfold FxC at z; unfold FGo; omega))
    have ti := for_today T Lp Lw seed σ i
    have tb := wi.today
    have d2 := w.dday i hi
    show ∃ y', _ ∧ StC p (stepS T Lp Lw seed i (forS (stepS T Lp Lw seed) i σ)) y' ∧ KP (FGo t p) h y'
    generalize forS (stepS T Lp Lw seed) i σ = τ at wi xi ti tb
    unfold c_X1_goBy_L12b stepS
    rw [ci.dut, if_neg (nI_ge hi (by omega)), gdI (k := i) (by omega) (by omega), nI_clamp (by omega), ci.dday i hi, xi.today, ite_cg (nI_eq (a := T.dday i) (b := τ.today) (by omega) (by omega))]
    by_cases q : T.dday i = τ.today
    · rw [if_pos q, if_pos q, isOver_ok xi (by omega) (wi.out i (by omega)), Option.bind_some, if_pos (out_z wi hi q), if_pos rfl]
      obtain ⟨y', e', x', k'⟩ := meetC_ok w wi ci xi Li cp cw hp ht (by omega) hi (out_z wi hi q) seed
      rw [e', Option.bind_some]
      exact ⟨y', by simp only [nm, nI_1], x', ki.trans k'⟩
    · rw [if_neg q, if_neg q]
      exact ⟨y, by simp only [nm, nI_1], xi, ki⟩
  · have ci : TxC t T y := xc.fr w (hp2.2.mono (fun q k z => by unfold FxC at z; unfold FGo; omega))
    unfold c_X1_goBy_L12b
    rw [ci.dut, if_pos (nI_le (by omega) (by omega))]
theorem one_nI : (1 : Int32) = nI 1 := rfl
theorem goC_ok {b : Nat} {T : TX} {σ : ST} {p t : Nat} {Lp Lw : (Nat → Int32) → Int32} {h : PH} (w : T.wf) (sw : ST.wf b T 0 σ) (xc : TxC t T h) (x : StC p σ h) (LL : LawsC t Lp Lw h) (cp : LawF Lp) (cw : LawF Lw) (hp : p = 78 ∨ p = 81 ∨ p = 220) (ht : t = 8 ∨ t = 43) {n : Nat} (hb : b < 100000) (hn : n ≤ 60) (seed : Int32) : ExH (c_X1_goBy 217 t p (nI n) seed h) (fun h' => StC p (goS T Lp Lw seed n σ) h' ∧ KP (FGo t p) h h') := by
  unfold c_X1_goBy
  refine ex_nm ?_
  obtain ⟨y, e, hy⟩ := for_h (B := c_X1_goBy_L3b 217 t p (nI n) seed (fun h12 => some h12)) (K := fun h5 => some h5) (N := n) (fun i y => StC p (goS T Lp Lw seed i σ) y ∧ KP (FGo t p) h y) (by omega) (fun REC i y hi hp2 => by
    obtain ⟨xi, ki⟩ := hp2
    have wi := wf_go (Lp := Lp) (Lw := Lw) (seed := seed) sw w i
    have ci : TxC t T y := xc.fr w (ki.mono (fun q k z => by unfold FxC at z; unfold FGo; omega))
    have Li : LawsC t Lp Lw y := LL.fr (ki.mono (fun q k z => by unfold FxC at z; unfold FGo; omega))
    show ∃ y', _ ∧ StC p (dayS T Lp Lw seed (goS T Lp Lw seed i σ)) y' ∧ KP (FGo t p) h y'
    generalize goS T Lp Lw seed i σ = τ at wi xi
    unfold c_X1_goBy_L3b
    rw [if_neg (nI_ge hi (by omega))]
    rw [nm_eq]
    obtain ⟨y2, e2, x2, k2⟩ := goC_day w wi ci xi Li cp cw hp ht (by omega) seed (nI n) (nI i) (fun h9 => (c_X1_mend 217 t p 1 h9).bind fun h10 => nm (nI i + 1) fun v11 => REC v11 h10)
    rw [e2]
    have wd := wf_for (Lp := Lp) (Lw := Lw) (seed := seed) wi w T.dut (Nat.le_refl _)
    have c2 : TxC t T y2 := ci.fr w (k2.mono (fun q k z => by unfold FxC at z; unfold FGo; omega))
    obtain ⟨y3, e3, x3, k3⟩ := mendC_ok (n := 1) w c2 x2 wd.trust hp ht (by omega)
    rw [one_nI, e3, Option.bind_some]
    refine ⟨y3, by rw [nm_eq, nI_add], x3, (ki.trans k2).trans k3⟩) (fun REC y _ => by
    unfold c_X1_goBy_L3b
    rw [if_pos (nI_le (by omega) (by omega))]) h ⟨x, KP.rfl⟩
  rw [e]
  exact ex_some hy
theorem goR_day {b : Nat} {T : TX} {σ : ST} {s : Nat} {Lp Lw : (Nat → Int32) → Int32} {h : PH} (w : T.wf) (sw : ST.wf b T 0 σ) (hs : s < 2) (l : h.1 0 18 = nI s) (xr : TxR s T h) (x : StR 44 0 σ h) (LL : LawsR s Lp Lw h) (cp : LawF Lp) (cw : LawF Lw) (hb : b < 2 ^ 31) : ExH (c_X12_dayGoes h) (fun h' => StR 44 0 (dayS T Lp Lw (h.1 0 62) σ) h' ∧ KP FRg h h') := by
  have w1 := w.men; have w2 := w.dut
  unfold c_X12_dayGoes
  refine ex_nm ?_
  generalize hsd : h.1 0 62 = seed
  obtain ⟨y, e, xy, ky⟩ := for_h (B := c_X12_dayGoes_L2b (fun h6 => (c_X12_mendsAll h6).bind fun h7 => nm (setI h7 44 0 ((h7.1 44 0) + 1)) fun h8 => some h8)) (K := fun h6 => (c_X12_mendsAll h6).bind fun h7 => nm (setI h7 44 0 ((h7.1 44 0) + 1)) fun h8 => some h8) (N := T.dut) (fun i y => StR 44 0 (forS (stepS T Lp Lw seed) i σ) y ∧ KP FRg h y) (by omega) (fun REC i y hi hp2 => by
    obtain ⟨xi, ki⟩ := hp2
    have wi := wf_for (Lp := Lp) (Lw := Lw) (seed := seed) sw w i (by omega)
    have li : y.1 0 18 = nI s := (ki.i (by unfold FRg; omega)).trans l
    have si : y.1 0 62 = seed := (ki.i (by unfold FRg; omega)).trans hsd
    have ci : TxR s T y := xr.fr (ki.mono (fun q k z => by unfold FxR at z; unfold FRg; omega))
    have Li : LawsR s Lp Lw y := LL.fr (ki.mono (fun q k z => by unfold FxR at z; unfold FRg; omega))
    have tb := wi.today
    have d2 := w.dday i hi
    show ∃ y', _ ∧ StR 44 0 (stepS T Lp Lw seed i (forS (stepS T Lp Lw seed) i σ)) y' ∧ KP FRg h y'
    generalize forS (stepS T Lp Lw seed) i σ = τ at wi xi tb
    have to : y.1 44 0 = nI τ.today := xi.today
    unfold c_X12_dayGoes_L2b stepS
    rw [li, live_gd hs, nI_clamp (by omega), ci.dut, if_neg (nI_ge hi (by omega)), dayOf_ok w hs li ci hi, Option.bind_some, to, ite_cg (nI_eq (a := T.dday i) (b := τ.today) (by omega) (by omega))]
    by_cases q : T.dday i = τ.today
    · rw [if_pos q, if_pos q]
      obtain ⟨y', e', x', k'⟩ := meetR_ok w wi hs li ci xi Li cp cw (by omega) hi (out_z wi hi q)
      rw [si] at x'
      rw [e', Option.bind_some]
      exact ⟨y', by simp only [nm, nI_1], x', ki.trans k'⟩
    · rw [if_neg q, if_neg q]
      exact ⟨y, by simp only [nm, nI_1], xi, ki⟩) (fun REC y hp2 => by
    have li : y.1 0 18 = nI s := (hp2.2.i (by unfold FRg; omega)).trans l
    have ci : TxR s T y := xr.fr (hp2.2.mono (fun q k z => by unfold FxR at z; unfold FRg; omega))
    unfold c_X12_dayGoes_L2b
    rw [li, live_gd hs, nI_clamp (by omega), ci.dut, if_pos (nI_le (by omega) (by omega))]) h ⟨x, KP.rfl⟩
  rw [e]
  have wd := wf_for (Lp := Lp) (Lw := Lw) (seed := seed) sw w T.dut (Nat.le_refl _)
  have ly : y.1 0 18 = nI s := (ky.i (by unfold FRg; omega)).trans l
  have cy : TxR s T y := xr.fr (ky.mono (fun q k z => by unfold FxR at z; unfold FRg; omega))
  unfold dayS
  generalize forS (stepS T Lp Lw seed) T.dut σ = τ at wd xy
  refine ex_bind (mendR_ok w hs ly cy (fun a ha => xy.trust0 ha) wd.trust) (fun h7 ⟨r7, k7⟩ => ?_)
  refine ex_set (fun h8 e8 => ex_some ⟨?_, ?_⟩)
  · have v0 : h7.1 44 0 = nI τ.today := (k7.i (by omega)).trans xy.today
    have rd : ∀ k, k ≠ 0 → ¬ (31 ≤ k ∧ k < 36) → h8.1 44 k = y.1 44 k := fun k a c => by rw [e8, setI_ne (by omega)]; exact k7.i (by omega)
    apply StR.set
    · rw [e8, v0, nI_1, setI_eq]; rfl
    · rw [rd _ (by omega) (by omega)]; exact xy.coins
    · rw [rd _ (by omega) (by omega)]; exact xy.hours
    · rw [rd _ (by omega) (by omega)]; exact xy.owned
    · intro d hd; rw [rd _ (by omega) (by omega)]; exact xy.plan0 hd
    · intro d hd; rw [rd _ (by omega) (by omega)]; exact xy.out0 hd
    · intro d hd; rw [rd _ (by omega) (by omega)]; exact xy.told0 hd
    · intro a ha; rw [e8, setI_ne (by omega)]; exact r7 a ha
  · rw [e8]; exact (ky.trans (k7.mono (fun q k z => by unfold FRg at z; omega))).trans (KP.setI (fun q => q.2.2.1 rfl))
theorem goR_ok {b : Nat} {T : TX} {σ : ST} {s : Nat} {Lp Lw : (Nat → Int32) → Int32} {h : PH} (w : T.wf) (sw : ST.wf b T 0 σ) (hs : s < 2) (l : h.1 0 18 = nI s) (xr : TxR s T h) (x : StR 44 0 σ h) (LL : LawsR s Lp Lw h) (cp : LawF Lp) (cw : LawF Lw) {n : Nat} (hb : b < 100000) (hn : n ≤ 60) : ExH (c_X12_goes (nI n) h) (fun h' => StR 44 0 (goS T Lp Lw (h.1 0 62) n σ) h' ∧ KP FRg h h') := by
  unfold c_X12_goes
  refine ex_nm ?_
  generalize hsd : h.1 0 62 = seed
  obtain ⟨y, e, hy⟩ := for_h (B := c_X12_goes_L2b (nI n) (fun h4 => some h4)) (K := fun h4 => some h4) (N := n) (fun i y => StR 44 0 (goS T Lp Lw seed i σ) y ∧ KP FRg h y) (by omega) (fun REC i y hi hp2 => by
    obtain ⟨xi, ki⟩ := hp2
    have wi := wf_go (Lp := Lp) (Lw := Lw) (seed := seed) sw w i
    have li : y.1 0 18 = nI s := (ki.i (by unfold FRg; omega)).trans l
    have si : y.1 0 62 = seed := (ki.i (by unfold FRg; omega)).trans hsd
    have ci : TxR s T y := xr.fr (ki.mono (fun q k z => by unfold FxR at z; unfold FRg; omega))
    have Li : LawsR s Lp Lw y := LL.fr (ki.mono (fun q k z => by unfold FxR at z; unfold FRg; omega))
    show ∃ y', _ ∧ StR 44 0 (dayS T Lp Lw seed (goS T Lp Lw seed i σ)) y' ∧ KP FRg h y'
    generalize goS T Lp Lw seed i σ = τ at wi xi
    unfold c_X12_goes_L2b
    rw [if_neg (nI_ge hi (by omega))]
    obtain ⟨y2, e2, x2, k2⟩ := goR_day w wi hs li ci xi Li cp cw (by omega)
    rw [si] at x2
    rw [e2, Option.bind_some]
    exact ⟨y2, by simp only [nm, nI_1], x2, ki.trans k2⟩) (fun REC y _ => by
    unfold c_X12_goes_L2b
    rw [if_pos (nI_le (by omega) (by omega))]) h ⟨x, KP.rfl⟩
  rw [e]
  exact ex_some hy
