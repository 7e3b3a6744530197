theorem heard0 {T : TX} {σ : ST} {a k : Nat} (hq : ∀ d, d < T.dut → (σ.out d = 1 ∨ σ.out d = 2) → T.dday d < σ.today) : heardN T σ a k σ.today = 0 := by
  unfold heardN
  refine cnt_zero (fun x _ => ?_)
  unfold heardB
  have : anyX (elseP T σ x k σ.today) T.dut 0 = false := by
    apply Bool.eq_false_iff.mpr
    intro z
    obtain ⟨d, hd, q⟩ := anyX_0.mp z
    unfold elseP at q
    obtain ⟨q1, _, q3, _⟩ := of_decide_eq_true q
    have := hq d hd q1
    omega
  rw [this, Bool.and_false]
theorem calmR_step {T : TX} {σ : ST} {s : Nat} {Lp Lw : LawT} {h : PH} (w : T.wf) (hs : s < 2) (l : h.1 0 18 = nI s) (xr : TxR s T h) (x : StV σ h) (LL : LawsR s Lp Lw h) (cp : LawF Lp) (hb : σ.today < 2 ^ 31) {e a : Nat} (he : e < T.exc) (ha : a < T.men) {α : Type} (B : Int32 → PH → Option (α × PH)) {Q : α → PH → Prop} (kk : ∀ h', KP FRs h h' → ExV (B (nI (passN T Lp (h.1 0 62) σ e a 1 0)) h') Q) : ExV ((c_X12_looks (nI e) (nI a) 1 0 h).bind fun h5 => gd (ixOK ((7 * (h5.1 0 18)) + nI e) 14) <| if (h5.1 44 0) ≤ (h5.1 17 ((7 * (h5.1 0 18)) + nI e).toNatClampNeg) then bind2 (c_X12_asks 0 50 100 h5) fun r6 h7 => B r6 h7 else B 0 h5) Q := by
  have w3 := w.exc
  have g := w.good e he
  refine ev_bind (looks_ok w hs l xr x he ha 1 0) (fun h5 ⟨v5, k5⟩ => ?_)
  have l5 : h5.1 0 18 = nI s := (k5.i (by unfold F41; omega)).trans l
  have x5 : TxR s T h5 := xr.fr (k5.mono (fun p k q => by unfold FxR at q; unfold F41; omega))
  have t5 : h5.1 44 0 = nI σ.today := (k5.i (by unfold F41; omega)).trans x.today
  have f5 : KP FRs h h5 := k5.mono (fun q k z => z.1)
  unfold passN at kk
  rw [l5, nI_mul7, nI_add, gdI (k := 7 * s + e) (by omega) (by omega), nI_clamp (n := 7 * s + e) (by omega), x5.good e he, t5, ite_cg (nI_leI (a := σ.today) (b := T.good e) hb (by omega))]
  by_cases q : σ.today ≤ T.good e
  · rw [if_pos q] at kk
    rw [if_pos q]
    refine ev_b2 (LL h5 (k5.mono (fun q k z => by have z := FxRs.up z; unfold FxR at z; unfold F41; omega)) l5).1 (fun v h6 ⟨v6, k6⟩ => ?_)
    rw [v6, cp (h5.1 41) _ v5]
    exact kk h6 (f5.trans (k6.mono (fun q k z => z.2)))
  · rw [if_neg q] at kk
    rw [if_neg q, ← nI_0]
    exact kk h5 f5
theorem calm_run {T : TX} {s t : Nat} {Lp Lw : LawT} {e a : Nat} (w : T.wf) (hs : s < 2) (ht : t = 8 ∨ t = 43) (cp : LawF Lp) (he : e < T.exc) (ha : a < T.men) (p : Int32) : ∀ (n f g : Nat) (τ : ST) (hc hr : PH), (τ.today + n = 100 ∨ (n = 0 ∧ 100 ≤ τ.today ∧ τ.today < 100000)) → ST.pt T τ → (∀ d, d < T.dut → (τ.out d = 1 ∨ τ.out d = 2) → T.dday d < τ.today) → (∀ a, a < 5 → τ.trust a ≤ 99) → hc.2.2 0 4 = t → TxC t T hc → StC 81 τ hc → LawsC t Lp Lw hc → hr.1 0 18 = nI s → TxR s T hr → StV τ hr → LawsR s Lp Lw hr → hr.1 0 62 = T.seed → ∃ (v : Int32) (hc' hr' : PH), lq2 (c_X11_calm_L51b (nI e) (nI a) p (fun w15 h16 => some (w15, h16)) (fun h17 => some ((-2), h17))) (f + n + 1) (nI τ.today) hc = some (v, hc') ∧ lq1 (c_X12_calm_L32b (nI e) (nI a) p (fun h11 => some ((h11.1 44 0), h11)) (fun h12 => some ((-2), h12))) (g + n + 1) hr = some (v, hr') ∧ KP (SC t) hc hc' ∧ KP SR hr hr'
  | 0, f, g, τ, hc, hr, hn, pt, hq, tr, ct, cx, cs, cL, rl, rx, rs, rL, rd => by
    have h99 : (99 : Int32) < nI τ.today := nI_lt (a := 99) (by omega) (by omega)
    refine ⟨-2, hc, hr, ?_, ?_, KP.rfl, KP.rfl⟩
    · rw [lq2_s]; unfold c_X11_calm_L51b; rw [if_pos h99]
    · rw [lq1_s]; unfold c_X12_calm_L32b; rw [rs.today, if_pos h99]
  | n + 1, f, g, τ, hc, hr, hn, pt, hq, tr, ct, cx, cs, cL, rl, rx, rs, rL, rd => by
    have hb : τ.today < 2 ^ 31 := by omega
    have h99 : ¬ (99 : Int32) < nI τ.today := nI_nlt (a := 99) (by omega) (by omega)
    rw [show f + (n + 1) + 1 = (f + n + 1) + 1 from by omega, show g + (n + 1) + 1 = (g + n + 1) + 1 from by omega, lq2_s, lq1_s]
    have hv : hdv T τ e a = 0 := by unfold hdv; rw [heard0 hq]; rfl
    obtain ⟨v1, hc1, c1, c2, c3⟩ := passes_ok (p := 81) w pt cx cs cL cp (Or.inr (Or.inl rfl)) ht hb he ha 1 T.seed
    rw [hv] at c2
    have ct1 : hc1.2.2 0 4 = t := (c3.r (by unfold FCs; omega)).trans ct
    have cx1 : TxC t T hc1 := cx.fr w (c3.mono (fun q k z => by unfold FxC at z; unfold FCs; omega))
    have cs1 : StC 81 τ hc1 := cs.fr (c3.mono (fun q k z => by unfold FCs; omega))
    have cL1 : LawsC t Lp Lw hc1 := cL.fr (c3.mono (fun q k z => by unfold FxC at z; unfold FCs; omega))
    have k1 : KP (SC t) hc hc1 := c3.mono (fun q k z => by unfold SC at z; unfold FCs; omega)
    by_cases q : nI (passN T Lp T.seed τ e a 1 0) < p
    · obtain ⟨hc2, d1, d2, d3⟩ := mendC_ok (n := 1) (p := 81) w cx1 cs1 tr (Or.inr (Or.inl rfl)) ht (by omega)
      have k2 : KP (SC t) hc1 hc2 := d3.mono (fun q k z => by unfold SC at z; unfold FGo; omega)
      have eC : c_X11_calm_L51b (nI e) (nI a) p (fun w15 h16 => some (w15, h16)) (fun h17 => some ((-2), h17)) (lq2 (c_X11_calm_L51b (nI e) (nI a) p (fun w15 h16 => some (w15, h16)) (fun h17 => some ((-2), h17))) (f + n + 1)) (nI τ.today) hc = lq2 (c_X11_calm_L51b (nI e) (nI a) p (fun w15 h16 => some (w15, h16)) (fun h17 => some ((-2), h17))) (f + n + 1) (nI (τ.today + 1)) hc2 := by
        generalize lq2 (c_X11_calm_L51b (nI e) (nI a) p (fun w15 h16 => some (w15, h16)) (fun h17 => some ((-2), h17))) (f + n + 1) = REC
        unfold c_X11_calm_L51b
        rw [if_neg h99, ct]
        simp only [nm, bind2, gdT ht, cx.seed]
        rw [c1]
        simp only [Option.bind_some, c2]
        rw [if_pos q, ct1]
        simp only [gdT ht, one_nI]
        rw [d1, Option.bind_some, nI_add]
      have F : ∀ h', KP FRs hr h' → ExV (c_X12_calm_j87 (nI e) (nI a) p (fun h11 => some ((h11.1 44 0), h11)) (fun h12 => some ((-2 : Int32), h12)) (lq1 (c_X12_calm_L32b (nI e) (nI a) p (fun h11 => some ((h11.1 44 0), h11)) (fun h12 => some ((-2), h12))) (g + n + 1)) (nI (passN T Lp T.seed τ e a 1 0)) h') (fun v hr' => (∃ hc', lq2 (c_X11_calm_L51b (nI e) (nI a) p (fun w15 h16 => some (w15, h16)) (fun h17 => some ((-2), h17))) (f + n + 1) (nI (τ.today + 1)) hc2 = some (v, hc') ∧ KP (SC t) hc2 hc') ∧ KP SR hr hr') := fun h' k' => by
        have l' : h'.1 0 18 = nI s := (k'.i (by unfold FRs; omega)).trans rl
        have x' : TxR s T h' := rx.fr (k'.mono (fun q k z => by unfold FxR at z; unfold FRs; omega))
        have v' : StV τ h' := rs.fr (k'.mono (fun q k z => by unfold FRs; omega))
        unfold c_X12_calm_j87
        refine ev_nm ?_
        rw [if_pos q]
        refine ev_bind (mendR_ok w hs l' x' v'.trust tr) (fun h9 ⟨r9, k9⟩ => ?_)
        refine ev_set (fun h10 e10 => ?_)
        have v0 : h9.1 44 0 = nI τ.today := (k9.i (by omega)).trans v'.today
        rw [v0, nI_1] at e10
        have kk : KP SR hr h10 := by
          rw [e10]
          exact ((k'.mono (fun q k z => SR_s z)).trans (k9.mono (fun q k z => by unfold SR at z; omega))).trans (KP.setI (fun z => by unfold SR at z; omega))
        have vv : StV (mendS T 1 τ) h10 := by
          apply StV.mk
          · rw [e10, setI_eq]; rfl
          · intro d hd; rw [e10, setI_ne (by omega), k9.i (by omega)]; exact v'.told d hd
          · intro b hb5; rw [e10, setI_ne (by omega)]; exact r9 b hb5
        have L9 : LawsR s Lp Lw h10 := rL.fr (kk.mono (fun q k z => by unfold FxR at z; unfold SR; omega))
        have s10 : h10.1 0 62 = T.seed := by rw [e10, setI_ne (by omega), k9.i (by omega), k'.i (by unfold FRs; omega)]; exact rd
        obtain ⟨v, hc', hr', a1, a2, a3, a4⟩ := calm_run w hs ht cp he ha p n f g (mendS T 1 τ) hc2 h10 (by show τ.today + 1 + n = 100 ∨ (n = 0 ∧ 100 ≤ τ.today + 1 ∧ τ.today + 1 < 100000); omega) pt (fun d hd z => by have := hq d hd z; show T.dday d < τ.today + 1; omega) (fun b hb5 => by
          show (if b < T.men then min 99 (τ.trust b + 1 * T.mend b) else τ.trust b) ≤ 99
          by_cases z : b < T.men
          · rw [if_pos z]; exact Nat.min_le_left _ _
          · rw [if_neg z]; exact tr b hb5) ((k2.r (by unfold SC; omega)).trans ct1) (cx1.fr w (d3.mono (fun q k z => by unfold FxC at z; unfold FGo; omega))) d2 (cL1.fr (d3.mono (fun q k z => by unfold FxC at z; unfold FGo; omega))) ((kk.i (by unfold SR; omega)).trans rl) (rx.fr (kk.mono (fun q k z => by unfold FxR at z; unfold SR; omega))) vv L9 s10
        exact ⟨v, hr', a2, ⟨hc', a1, a3⟩, kk.trans a4⟩
      obtain ⟨v, hr', b1, ⟨hc', b2, b3⟩, b4⟩ := calmR_step w hs rl rx rs rL cp hb he ha (fun r6 h7 => c_X12_calm_j87 (nI e) (nI a) p (fun h11 => some ((h11.1 44 0), h11)) (fun h12 => some ((-2 : Int32), h12)) (lq1 (c_X12_calm_L32b (nI e) (nI a) p (fun h11 => some ((h11.1 44 0), h11)) (fun h12 => some ((-2), h12))) (g + n + 1)) r6 h7) (fun h' k' => by rw [rd]; exact F h' k')
      refine ⟨v, hc', hr', by rw [eC]; exact b2, ?_, (k1.trans k2).trans b3, b4⟩
      rw [← b1]
      generalize lq1 (c_X12_calm_L32b (nI e) (nI a) p (fun h11 => some ((h11.1 44 0), h11)) (fun h12 => some ((-2), h12))) (g + n + 1) = REC
      unfold c_X12_calm_L32b
      rw [rs.today, if_neg h99]
    · have eC : c_X11_calm_L51b (nI e) (nI a) p (fun w15 h16 => some (w15, h16)) (fun h17 => some ((-2), h17)) (lq2 (c_X11_calm_L51b (nI e) (nI a) p (fun w15 h16 => some (w15, h16)) (fun h17 => some ((-2), h17))) (f + n + 1)) (nI τ.today) hc = some (nI τ.today, hc1) := by
        generalize lq2 (c_X11_calm_L51b (nI e) (nI a) p (fun w15 h16 => some (w15, h16)) (fun h17 => some ((-2), h17))) (f + n + 1) = REC
        unfold c_X11_calm_L51b
        rw [if_neg h99, ct]
        simp only [nm, bind2, gdT ht, cx.seed]
        rw [c1]
        simp only [Option.bind_some, c2]
        rw [if_neg q]
      obtain ⟨v, hr', b1, b2, b3⟩ := calmR_step w hs rl rx rs rL cp hb he ha (fun r6 h7 => c_X12_calm_j87 (nI e) (nI a) p (fun h11 => some ((h11.1 44 0), h11)) (fun h12 => some ((-2 : Int32), h12)) (lq1 (c_X12_calm_L32b (nI e) (nI a) p (fun h11 => some ((h11.1 44 0), h11)) (fun h12 => some ((-2), h12))) (g + n + 1)) r6 h7) (Q := fun v hr' => v = nI τ.today ∧ KP SR hr hr') (fun h' k' => by
        rw [rd]
        unfold c_X12_calm_j87
        refine ev_nm ?_
        rw [if_neg q]
        exact ev_some ⟨(k'.i (by unfold FRs; omega)).trans rs.today, k'.mono (fun q k z => SR_s z)⟩)
      refine ⟨nI τ.today, hc1, hr', eC, ?_, k1, b3⟩
      rw [← b2, ← b1]
      generalize lq1 (c_X12_calm_L32b (nI e) (nI a) p (fun h11 => some ((h11.1 44 0), h11)) (fun h12 => some ((-2), h12))) (g + n + 1) = REC
      unfold c_X12_calm_L32b
      rw [rs.today, if_neg h99]
theorem isPercent_eq (a : Int32) : c_X11_isPercent a = some (if 0 ≤ a ∧ a ≤ 100 then 1 else 0) := X12_in a 0 100
theorem calm_ok {n : Nat} {T : TX} {σ : ST} {s t : Nat} {Lp Lw : LawT} {hc hr : PH} (C : CL n T σ s t Lp Lw hc hr) (hn : n < 600) (a1 a2 a3 : Int32) : ∃ (v : Int32) (hc' hr' : PH), c_X11_calm a1 a2 a3 hc = some (v, hc') ∧ c_X12_calm a1 a2 a3 hr = some (v, hr') ∧ KP (SC t) hc hc' ∧ KP SR hr hr' := by
  have C0 := C.cor
  have t2 := C0.t2
  have td := C0.swf.today
  unfold c_X11_calm c_X12_calm
  simp only [nm, C0.txt, gdT C0.t2]
  rcases isExc_cases C0.twf C0.s2 C0.live C0.xc C0.xr a1 with ⟨e, he, rfl, e1, e2⟩ | ⟨e1, e2⟩
  · rcases isMan_cases C0.twf C0.s2 C0.live C0.xc C0.xr a2 with ⟨a, ha, rfl, f1, f2⟩ | ⟨f1, f2⟩
    · rw [e1, e2, f1, f2, isPercent_eq, X12_in]
      simp only [Option.bind_some, one_ne0, if_false, if10]
      by_cases q : 0 ≤ a3 ∧ a3 ≤ 100
      · rw [if_pos q, if_pos q]
        obtain ⟨hc1, x1, x2, x3⟩ := copyC_ok (p := 81) (q := 78) C0.sc (by omega)
        obtain ⟨h3, r1, l3, x3r, r3, n3, s3, L3, k3⟩ := copies2 C
        rw [x1, r1]
        simp only [Option.bind_some]
        have t78 : hc1.1 78 0 = nI σ.today := (x3.i (by unfold FCp; omega)).trans C0.sc.today
        rw [t78]
        have hq : ∀ d, d < T.dut → (σ.out d = 1 ∨ σ.out d = 2) → T.dday d < σ.today := fun d hd z => by
          have := (C0.swf.out0 d hd).mp (by omega)
          omega
        have hn' : σ.today + (100 - σ.today) = 100 ∨ (100 - σ.today = 0 ∧ 100 ≤ σ.today ∧ σ.today < 100000) := by omega
        obtain ⟨v, hc', hr', y1, y2, y3, y4⟩ := calm_run C0.twf C0.s2 t2 C.cp he ha a3 (100 - σ.today) (8191 - (100 - σ.today)) (8191 - (100 - σ.today)) σ hc1 h3 hn' C0.swf.planT hq C0.swf.trust ((x3.r (by unfold FCp; omega)).trans C0.txt) (C0.xc.fr C0.twf (x3.mono (fun q k z => by unfold FxC at z; unfold FCp; omega))) x2 (C.lc.fr (x3.mono (fun q k z => by unfold FxC at z; unfold FCp; omega))) l3 x3r r3.v L3 s3
        rw [← fu_n (show 100 - σ.today ≤ 8000 by omega)] at y1 y2
        rw [y1, y2]
        exact ⟨v, hc', hr', rfl, rfl, (x3.mono (fun q k z => by unfold SC at z; unfold FCp; omega)).trans y3, (k3.mono (fun q k z => SR_44 z)).trans y4⟩
      · rw [if_neg q, if_neg q]; exact ⟨-1, hc, hr, rfl, rfl, KP.rfl, KP.rfl⟩
    · rw [e1, e2, f1, f2]
      exact ⟨-1, hc, hr, rfl, rfl, KP.rfl, KP.rfl⟩
  · rw [e1, e2]
    exact ⟨-1, hc, hr, rfl, rfl, KP.rfl, KP.rfl⟩
