def FRg (p k : Nat) : Prop := p ≠ 41 ∧ p ≠ 42 ∧ p ≠ 44 ∧ ¬ (p = 0 ∧ k = 59)
theorem FRs_R {p k : Nat} (h : FRg p k) : FRs p k := ⟨h.1, h.2.1, h.2.2.2⟩
theorem lessT_ok {a x w : Nat} {h : PH} (ha : a < 5) (hv : h.1 44 (31 + a) = nI x) (hx : x < 2 ^ 30) (hw : w < 2 ^ 30) : ExH (c_X12_lessTrust (nI a) (nI w) h) (fun h' => h' = setI h 44 (31 + a) (nI (x - w))) := by
  unfold c_X12_lessTrust
  simp (disch := omega) only [nI_a31, gdI, nI_clamp, hv, nI_leI]
  by_cases q : x ≤ w
  · rw [if_pos q]
    refine ex_set (fun h' e => ex_some ?_)
    rw [e, show x - w = 0 by omega]; rfl
  · rw [if_neg q, pk_sub (by omega)]
    exact ex_set (fun h' e => ex_some e)
theorem StR.set {σ : ST} {h : PH} (h0 : h.1 44 0 = nI σ.today) (h1 : h.1 44 1 = nI σ.coins) (h2 : h.1 44 2 = nI σ.hours) (h3 : h.1 44 3 = nI σ.owned) (h4 : ∀ d, d < 9 → h.1 44 (4 + d) = σ.plan d) (h5 : ∀ d, d < 9 → h.1 44 (13 + d) = nI (σ.out d)) (h6 : ∀ d, d < 9 → h.1 44 (22 + d) = toldP σ d) (h7 : ∀ a, a < 5 → h.1 44 (31 + a) = nI (σ.trust a)) : StR 44 0 σ h := by
  apply StR.mk
  · exact h0
  · exact h1
  · exact h2
  · exact h3
  · intro d hd; rw [Nat.zero_add]; exact h4 d hd
  · intro d hd; rw [Nat.zero_add]; exact h5 d hd
  · intro d hd; rw [Nat.zero_add]; exact h6 d hd
  · intro d hd; rw [Nat.zero_add]; exact h7 d hd
theorem hrsR {T : TX} {s d : Nat} {h : PH} (w : T.wf) (hs : s < 2) (l : h.1 0 18 = nI s) (xr : TxR s T h) (hd : d < T.dut) {α : Type} {B : Int32 → Option α} : (gd (ixOK ((9 * (h.1 0 18)) + nI d) 18) <| B (h.1 24 ((9 * (h.1 0 18)) + nI d).toNatClampNeg)) = B (nI (T.dhrs d)) := by
  have w2 := w.dut
  rw [l, nI_mul9, nI_add, gdI (by omega) (by omega), nI_clamp (by omega), xr.dhrs d hd]
theorem told_upd {σ : ST} {d o x : Nat} (T' : ST) (h1 : T'.out = updN σ.out d o) (h2 : T'.plan = σ.plan) : toldP T' x = if x = d then (if o = 1 ∨ o = 2 then σ.plan d else -2) else toldP σ x := by
  unfold toldP
  rw [h1, h2]
  by_cases q : x = d
  · rw [if_pos q, q, upd_eq]
  · rw [if_neg q, upd_ne q]
theorem doneR_ok {T : TX} {σ : ST} {s d : Nat} {h : PH} (w : T.wf) (hs : s < 2) (l : h.1 0 18 = nI s) (xr : TxR s T h) (x : StR 44 0 σ h) (hd : d < T.dut) (h0 : σ.out d = 0) : ExH (c_X12_dutyGoes_j26 (nI d) h) (fun h' => StR 44 0 (stDone T σ d) h' ∧ KP FRg h h') := by
  have w2 := w.dut
  unfold c_X12_dutyGoes_j26
  rw [nI_a13, gdI (k := 13 + d) (by omega) (by omega), nI_clamp (n := 13 + d) (by omega)]
  refine ex_set (fun h2 e2 => ?_)
  have k2 : KP FRg h h2 := by rw [e2]; exact KP.setI (fun q => q.2.2.1 rfl)
  have l2 : h2.1 0 18 = nI s := (k2.i (by unfold FRg; omega)).trans l
  have c2 : TxR s T h2 := xr.fr (k2.mono (fun q k z => by unfold FxR at z; unfold FRg; omega))
  rw [hrsR (B := fun v => nm (setI h2 44 2 ((h2.1 44 2) + v)) fun h3 => some h3) w hs l2 c2 hd]
  have v2 : h2.1 44 2 = nI σ.hours := by rw [e2, setI_ne (by omega)]; exact x.hours
  rw [v2, nI_add]
  refine ex_set (fun h3 e3 => ?_)
  have rd : ∀ k, k ≠ 2 → k ≠ 13 + d → h3.1 44 k = h.1 44 k := fun k a b => by rw [e3, setI_ne (by omega), e2, setI_ne (by omega)]
  refine ex_some ⟨?_, by rw [e3]; exact k2.trans (KP.setI (fun q => q.2.2.1 rfl))⟩
  apply StR.set
  · rw [rd _ (by omega) (by omega)]; exact x.today
  · rw [rd _ (by omega) (by omega)]; exact x.coins
  · rw [e3, setI_eq]; rfl
  · rw [rd _ (by omega) (by omega)]; exact x.owned
  · intro y hy; rw [rd _ (by omega) (by omega)]; exact x.plan0 hy
  · intro y hy
    show _ = nI (updN σ.out d 3 y)
    by_cases q : y = d
    · subst q; rw [e3, setI_ne (by omega), e2, show (3 : Int32) = nI 3 from rfl, setI_eq, upd_eq]
    · rw [rd _ (by omega) (by omega), upd_ne q]; exact x.out0 hy
  · intro y hy
    rw [rd _ (by omega) (by omega), x.told0 hy, told_upd (σ := σ) (d := d) (o := 3) (stDone T σ d) rfl rfl]
    by_cases q : y = d
    · rw [if_pos q, if_neg (by omega), q]; unfold toldP; rw [if_neg (by omega)]
    · rw [if_neg q]
  · intro y hy; rw [rd _ (by omega) (by omega)]; exact x.trust0 hy
theorem onceR_ok {T : TX} {σ : ST} {s e : Nat} {h : PH} (w : T.wf) (hs : s < 2) (l : h.1 0 18 = nI s) (xr : TxR s T h) (he : e < T.exc) (ho : h.1 44 3 = nI σ.owned) (hm : σ.owned < 128) : ExH (c_X12_dutyGoes_j173 (nI e) h) (fun h' => (h' = h ∨ h' = setI h 44 3 (nI (clrB σ.owned e))) ∧ h'.1 44 3 = nI (if T.once e = 0 then σ.owned else clrB σ.owned e)) := by
  have w3 := w.exc
  unfold c_X12_dutyGoes_j173
  rw [l, nI_mul7, nI_add, gdI (by omega) (by omega), nI_clamp (by omega), xr.once e he, ite_cg (show nI (T.once e) = 0 ↔ T.once e = 0 from nI_eq (b := 0) (by have := w.once e he; omega) (by omega))]
  by_cases q : T.once e = 0
  · rw [if_pos q, if_pos q]; exact ex_some ⟨Or.inl rfl, ho⟩
  · rw [if_neg q, if_neg q, ho, clr_ok (by omega) (by omega)]
    exact ex_set (fun h' e' => ex_some ⟨Or.inr e', by rw [e', setI_eq]⟩)
/-- told: the mark, the outcome, trust, hours, the excuse itself -/
theorem metR_ok {b : Nat} {T : TX} {σ : ST} {s d e : Nat} {Lp Lw : (Nat → Int32) → Int32} {h : PH} (w : T.wf) (sw : ST.wf b T d σ) (hs : s < 2) (l : h.1 0 18 = nI s) (xr : TxR s T h) (x : StR 44 0 σ h) (LL : LawsR s Lp Lw h) (cw : LawF Lw) (hb : σ.today < 2 ^ 31) (hd : d < T.dut) (he : e < T.exc) (hpl : σ.plan d = nI e) (c : Bool) : ExH (c_X12_dutyGoes_j87 (nI d) (nI e) (if c = true then 0 else 1) h) (fun h' => StR 44 0 (stMet T σ d e (if c = true then 2 else 1) (if c = true then 2 * wearN T Lw (h.1 0 62) σ e (T.dman d) (nI (T.dhrs d)) (hdv T σ e (T.dman d)) else wearN T Lw (h.1 0 62) σ e (T.dman d) (nI (T.dhrs d)) (hdv T σ e (T.dman d)))) h' ∧ KP FRg h h') := by
  have w1 := w.men; have w2 := w.dut; have w3 := w.exc
  have ha := w.dman d hd
  have om := sw.owned
  have t9 := sw.trust (T.dman d) (by omega)
  unfold c_X12_dutyGoes_j87
  refine ex_nm ?_
  refine ex_b2 (wearsNow_ok w sw.planT hs l xr x.v LL cw hb he hd) (fun v8 h9 ⟨r8, k9⟩ => ?_)
  refine ex_nm ?_
  rw [r8]
  have W := wear_le T Lw (h.1 0 62) σ e (T.dman d) (nI (T.dhrs d)) (hdv T σ e (T.dman d))
  generalize wearN T Lw (h.1 0 62) σ e (T.dman d) (nI (T.dhrs d)) (hdv T σ e (T.dman d)) = wv at W
  have x9 : StR 44 0 σ h9 := x.fr (k9.mono (fun q k z => by unfold FRs; omega))
  have l9 : h9.1 0 18 = nI s := (k9.i (by unfold FRs; omega)).trans l
  have c9 : TxR s T h9 := xr.fr (k9.mono (fun q k z => by unfold FxR at z; unfold FRs; omega))
  have g9 : KP FRg h h9 := k9.mono (fun q k z => FRs_R z)
  rw [nI_a22, gdI (k := 22 + d) (by omega) (by omega), nI_clamp (n := 22 + d) (by omega)]
  refine ex_set (fun h11 e11 => ?_)
  have k44 : ∀ {ha hb : PH} {k : Nat} {v : Int32}, hb = setI ha 44 k v → KP FRg ha hb := fun e => by rw [e]; exact KP.setI (fun q => q.2.2.1 rfl)
  have k11 : KP FRg h9 h11 := k44 e11
  have fl : ∀ {h'}, KP FRg h9 h' → h'.1 0 18 = nI s := fun k => (k.i (by unfold FRg; omega)).trans l9
  have fc : ∀ {h'}, KP FRg h9 h' → TxR s T h' := fun k => c9.fr (k.mono (fun q k z => by unfold FxR at z; unfold FRg; omega))
  cases c with
  | true =>
    simp only [if_true]
    unfold c_X12_dutyGoes_j123
    rw [nI_a13, gdI (k := 13 + d) (by omega) (by omega), nI_clamp (n := 13 + d) (by omega)]
    refine ex_set (fun h12 e12 => ?_)
    have k12 : KP FRg h9 h12 := k11.trans (k44 e12)
    rw [manOf_ok w hs (fl k12) (fc k12) hd, Option.bind_some, twoN]
    unfold c_X12_dutyGoes_j143
    have v3 : h12.1 44 (31 + T.dman d) = nI (σ.trust (T.dman d)) := by rw [e12, setI_ne (by omega), e11, setI_ne (by omega)]; exact x9.trust0 (by omega)
    rw [if_pos rfl]
    refine ex_bind (lessT_ok (show T.dman d < 5 by omega) v3 (by omega) (show 2 * wv < 2 ^ 30 by omega)) (fun h14 e14 => ?_)
    have k14 : KP FRg h9 h14 := k12.trans (k44 e14)
    rw [if_pos rfl, hrsR (B := fun v => nm (setI h14 44 2 ((h14.1 44 2) + v)) fun h16 => c_X12_dutyGoes_j173 (nI e) h16) w hs (fl k14) (fc k14) hd]
    have v2 : h14.1 44 2 = nI σ.hours := by rw [e14, setI_ne (by omega), e12, setI_ne (by omega), e11, setI_ne (by omega)]; exact x9.hours
    rw [v2, nI_add]
    refine ex_set (fun h16 e16 => ?_)
    have k16 : KP FRg h9 h16 := k14.trans (k44 e16)
    have o16 : h16.1 44 3 = nI σ.owned := by rw [e16, setI_ne (by omega), e14, setI_ne (by omega), e12, setI_ne (by omega), e11, setI_ne (by omega)]; exact x9.owned
    obtain ⟨h20, e20, q20, o20⟩ := onceR_ok w hs (fl k16) (fc k16) he o16 om
    have k20 : KP FRg h9 h20 := by
      rcases q20 with z | z
      · rw [z]; exact k16
      · exact k16.trans (k44 z)
    have r20 : ∀ k, k ≠ 3 → h20.1 44 k = h16.1 44 k := fun k hn => by
      rcases q20 with z | z
      · rw [z]
      · rw [z, setI_ne (by omega)]
    have rd : ∀ k, k ≠ 2 → k ≠ 3 → k ≠ 13 + d → k ≠ 22 + d → k ≠ 31 + T.dman d → h20.1 44 k = h9.1 44 k := fun k a1 a2 a3 a4 a5 => by rw [r20 k a2, e16, setI_ne (by omega), e14, setI_ne (by omega), e12, setI_ne (by omega), e11, setI_ne (by omega)]
    refine ⟨h20, e20, ?_, g9.trans k20⟩
    apply StR.set
    · rw [rd _ (by omega) (by omega) (by omega) (by omega) (by omega)]; exact x9.today
    · rw [rd _ (by omega) (by omega) (by omega) (by omega) (by omega)]; exact x9.coins
    · rw [r20 _ (by omega), e16, setI_eq]; rfl
    · exact o20
    · intro y hy; rw [rd _ (by omega) (by omega) (by omega) (by omega) (by omega)]; exact x9.plan0 hy
    · intro y hy
      show _ = nI (updN σ.out d 2 y)
      by_cases q : y = d
      · subst q; rw [r20 _ (by omega), e16, setI_ne (by omega), e14, setI_ne (by omega), e12, show (2 : Int32) = nI 2 from rfl, setI_eq, upd_eq]
      · rw [rd _ (by omega) (by omega) (by omega) (by omega) (by omega), upd_ne q]; exact x9.out0 hy
    · intro y hy
      rw [told_upd (σ := σ) (d := d) (o := 2) (stMet T σ d e 2 (2 * wv)) rfl rfl]
      by_cases q : y = d
      · subst q; rw [if_pos rfl, if_pos (Or.inr rfl), r20 _ (by omega), e16, setI_ne (by omega), e14, setI_ne (by omega), e12, setI_ne (by omega), e11, setI_eq, hpl]
      · rw [if_neg q, rd _ (by omega) (by omega) (by omega) (by omega) (by omega)]; exact x9.told0 hy
    · intro y hy
      show _ = nI (updN σ.trust (T.dman d) (σ.trust (T.dman d) - 2 * wv) y)
      by_cases q : y = T.dman d
      · subst q; rw [upd_eq, r20 _ (by omega), e16, setI_ne (by omega), e14, setI_eq]
      · rw [upd_ne q, rd _ (by omega) (by omega) (by omega) (by omega) (by omega)]; exact x9.trust0 hy
  | false =>
    simp only [Bool.false_eq_true, if_false, one_ne0]
    unfold c_X12_dutyGoes_j123
    rw [nI_a13, gdI (k := 13 + d) (by omega) (by omega), nI_clamp (n := 13 + d) (by omega)]
    refine ex_set (fun h12 e12 => ?_)
    have k12 : KP FRg h9 h12 := k11.trans (k44 e12)
    rw [manOf_ok w hs (fl k12) (fc k12) hd, Option.bind_some]
    unfold c_X12_dutyGoes_j143
    have v3 : h12.1 44 (31 + T.dman d) = nI (σ.trust (T.dman d)) := by rw [e12, setI_ne (by omega), e11, setI_ne (by omega)]; exact x9.trust0 (by omega)
    rw [if_neg (by decide)]
    refine ex_bind (lessT_ok (show T.dman d < 5 by omega) v3 (by omega) (show wv < 2 ^ 30 by omega)) (fun h14 e14 => ?_)
    have k14 : KP FRg h9 h14 := k12.trans (k44 e14)
    rw [if_neg (by decide)]
    have o16 : h14.1 44 3 = nI σ.owned := by rw [e14, setI_ne (by omega), e12, setI_ne (by omega), e11, setI_ne (by omega)]; exact x9.owned
    obtain ⟨h20, e20, q20, o20⟩ := onceR_ok w hs (fl k14) (fc k14) he o16 om
    have k20 : KP FRg h9 h20 := by
      rcases q20 with z | z
      · rw [z]; exact k14
      · exact k14.trans (k44 z)
    have r20 : ∀ k, k ≠ 3 → h20.1 44 k = h14.1 44 k := fun k hn => by
      rcases q20 with z | z
      · rw [z]
      · rw [z, setI_ne (by omega)]
    have rd : ∀ k, k ≠ 3 → k ≠ 13 + d → k ≠ 22 + d → k ≠ 31 + T.dman d → h20.1 44 k = h9.1 44 k := fun k a2 a3 a4 a5 => by rw [r20 k a2, e14, setI_ne (by omega), e12, setI_ne (by omega), e11, setI_ne (by omega)]
    refine ⟨h20, e20, ?_, g9.trans k20⟩
    apply StR.set
    · rw [rd _ (by omega) (by omega) (by omega) (by omega)]; exact x9.today
    · rw [rd _ (by omega) (by omega) (by omega) (by omega)]; exact x9.coins
    · rw [rd _ (by omega) (by omega) (by omega) (by omega)]; exact x9.hours
    · exact o20
    · intro y hy; rw [rd _ (by omega) (by omega) (by omega) (by omega)]; exact x9.plan0 hy
    · intro y hy
      show _ = nI (updN σ.out d 1 y)
      by_cases q : y = d
      · subst q; rw [r20 _ (by omega), e14, setI_ne (by omega), e12, show (1 : Int32) = nI 1 from rfl, setI_eq, upd_eq]
      · rw [rd _ (by omega) (by omega) (by omega) (by omega), upd_ne q]; exact x9.out0 hy
    · intro y hy
      rw [told_upd (σ := σ) (d := d) (o := 1) (stMet T σ d e 1 wv) rfl rfl]
      by_cases q : y = d
      · subst q; rw [if_pos rfl, if_pos (Or.inl rfl), r20 _ (by omega), e14, setI_ne (by omega), e12, setI_ne (by omega), e11, setI_eq, hpl]
      · rw [if_neg q, rd _ (by omega) (by omega) (by omega) (by omega)]; exact x9.told0 hy
    · intro y hy
      show _ = nI (updN σ.trust (T.dman d) (σ.trust (T.dman d) - wv) y)
      by_cases q : y = T.dman d
      · subst q; rw [upd_eq, r20 _ (by omega), e14, setI_eq]
      · rw [upd_ne q, rd _ (by omega) (by omega) (by omega) (by omega)]; exact x9.trust0 hy
theorem one_add (d : Nat) : (1 : Int32) + nI d = nI (1 + d) := nI_add 1 d
theorem meetR_ok {b : Nat} {T : TX} {σ : ST} {s d : Nat} {Lp Lw : (Nat → Int32) → Int32} {h : PH} (w : T.wf) (sw : ST.wf b T d σ) (hs : s < 2) (l : h.1 0 18 = nI s) (xr : TxR s T h) (x : StR 44 0 σ h) (LL : LawsR s Lp Lw h) (cp : LawF Lp) (cw : LawF Lw) (hb : σ.today < 2 ^ 31) (hd : d < T.dut) (h0 : σ.out d = 0) : ExH (c_X12_dutyGoes (nI d) h) (fun h' => StR 44 0 (meetS T Lp Lw (h.1 0 62) d σ) h' ∧ KP FRg h h') := by
  have w1 := w.men; have w2 := w.dut; have w3 := w.exc
  have om := sw.owned
  unfold c_X12_dutyGoes meetS
  rw [nI_a4, gdI (k := 4 + d) (by omega) (by omega), nI_clamp (n := 4 + d) (by omega), x.plan0 (by omega)]
  refine ex_nm ?_
  rcases plan_cases sw w (show d < 9 by omega) with hpl | ⟨e, he, hpl, h2, h3⟩
  · rw [hpl, if_pos m2_neg, if_pos (Or.inl rfl)]
    exact doneR_ok w hs l xr x hd h0
  · have ow : h.1 44 3 = nI σ.owned := x.owned
    rw [h2, hpl, if_neg (nI_pos (by omega)), ow, b_get (by omega) (by omega), if_0i]
    by_cases q : σ.owned.testBit e = true
    · rw [if_neg (fun z => z q), if_neg (fun z => by
        rcases z with z | z
        · exact nI_nem2 (show e < 2 ^ 31 by omega) z
        · rw [q] at z; exact absurd z (by decide))]
      have to : h.1 44 0 = nI σ.today := x.today
      rw [lotOf_ok, to, Option.bind_some]
      refine ex_b2 (passesNow_ok w sw.planT hs l xr x.v LL cp hb he hd) (fun v5 h6 ⟨r5, k6⟩ => ?_)
      rw [r5]
      have x6 : StR 44 0 σ h6 := x.fr (k6.mono (fun q k z => by unfold FRs; omega))
      have l6 : h6.1 0 18 = nI s := (k6.i (by unfold FRs; omega)).trans l
      have c6 : TxR s T h6 := xr.fr (k6.mono (fun q k z => by unfold FxR at z; unfold FRs; omega))
      have L6 : LawsR s Lp Lw h6 := LL.fr (k6.mono (fun q k z => by unfold FxR at z; unfold FRs; omega))
      have s6 : h6.1 0 62 = h.1 0 62 := k6.i (by unfold FRs; omega)
      have g6 : KP FRg h h6 := k6.mono (fun q k z => FRs_R z)
      by_cases u : nI (passN T Lp (h.1 0 62) σ e (T.dman d) (nI (T.dhrs d)) (hdv T σ e (T.dman d))) ≤ lotv (h.1 0 62) (16 * nI σ.today + (1 + nI d))
      · rw [if_pos u, if_pos u]
        obtain ⟨h', e', y, k⟩ := metR_ok (e := e) w sw hs l6 c6 x6 L6 cw hb hd he hpl true
        rw [s6] at y
        exact ⟨h', e', y, g6.trans k⟩
      · rw [if_neg u, if_neg u]
        obtain ⟨h', e', y, k⟩ := metR_ok (e := e) w sw hs l6 c6 x6 L6 cw hb hd he hpl false
        rw [s6] at y
        exact ⟨h', e', y, g6.trans k⟩
    · rw [if_pos q, if_pos (Or.inr (by simpa using q))]
      exact doneR_ok w hs l xr x hd h0
