def updN (f : Nat → Nat) (k v : Nat) : Nat → Nat := fun x => if x = k then v else f x
theorem upd_eq (f : Nat → Nat) (k v : Nat) : updN f k v k = v := if_pos rfl
theorem upd_ne {f : Nat → Nat} {k v x : Nat} (h : ¬ x = k) : updN f k v x = f x := if_neg h
def clrB (m e : Nat) : Nat := if m.testBit e then m - 2 ^ e else m
theorem clr0 : ∀ m : Nat, m < 512 → ∀ e : Nat, e < 9 → nI m &&& (((1 : Int32) <<< (nI e &&& 31)) ^^^ (-1)) = nI (clrB m e) := by decide +kernel
theorem clr_ok {m e : Nat} (hm : m < 512) (he : e < 9) : nI m &&& (((1 : Int32) <<< (nI e &&& 31)) ^^^ (-1)) = nI (clrB m e) := clr0 m hm e he
theorem clr_le (m e : Nat) : clrB m e ≤ m := by
  unfold clrB
  by_cases q : m.testBit e = true
  · rw [if_pos q]; exact Nat.sub_le _ _
  · rw [if_neg q]; exact Nat.le_refl _
theorem ST_eta (σ : ST) : ST.mk σ.today σ.coins σ.hours σ.owned σ.out σ.plan σ.trust = σ := rfl
def stDone (T : TX) (σ : ST) (d : Nat) : ST := ST.mk σ.today σ.coins (σ.hours + T.dhrs d) σ.owned (updN σ.out d 3) σ.plan σ.trust
/-- caught (o 2) or freed (o 1), with an excuse, for so much trust -/
def stMet (T : TX) (σ : ST) (d e o w : Nat) : ST := ST.mk σ.today σ.coins (if o = 2 then σ.hours + T.dhrs d else σ.hours) (if T.once e = 0 then σ.owned else clrB σ.owned e) (updN σ.out d o) σ.plan (updN σ.trust (T.dman d) (σ.trust (T.dman d) - w))
def meetS (T : TX) (Lp Lw : (Nat → Int32) → Int32) (seed : Int32) (d : Nat) (σ : ST) : ST :=
  if σ.plan d = -2 ∨ σ.owned.testBit (σ.plan d).toNatClampNeg = false then stDone T σ d
  else if nI (passN T Lp seed σ (σ.plan d).toNatClampNeg (T.dman d) (nI (T.dhrs d)) (hdv T σ (σ.plan d).toNatClampNeg (T.dman d))) ≤ lotv seed (16 * nI σ.today + (1 + nI d)) then stMet T σ d (σ.plan d).toNatClampNeg 2 (2 * wearN T Lw seed σ (σ.plan d).toNatClampNeg (T.dman d) (nI (T.dhrs d)) (hdv T σ (σ.plan d).toNatClampNeg (T.dman d)))
  else stMet T σ d (σ.plan d).toNatClampNeg 1 (wearN T Lw seed σ (σ.plan d).toNatClampNeg (T.dman d) (nI (T.dhrs d)) (hdv T σ (σ.plan d).toNatClampNeg (T.dman d)))
theorem mask_upd {σ : ST} {d o k : Nat} (hd : d < 9) (h0 : σ.out d = 0) (hk : 0 < k) : maskOf (fun x => updN σ.out d o x == k) 9 = if o = k then outMask σ k ||| 2 ^ d else outMask σ k := by
  unfold outMask
  by_cases q : o = k
  · rw [if_pos q, mask_set _ hd]
    refine congrArg (fun f => maskOf f 9) (funext fun x => ?_)
    by_cases e : x = d
    · subst e; rw [upd_eq, q]; simp
    · rw [upd_ne e]; simp [e]
  · rw [if_neg q]
    refine congrArg (fun f => maskOf f 9) (funext fun x => ?_)
    by_cases e : x = d
    · subst e; rw [upd_eq, h0]
      have h1 : (o == k) = false := beq_false_of_ne q
      have h2 : (0 == k) = false := beq_false_of_ne (by omega)
      rw [h1, h2]
    · rw [upd_ne e]
theorem wf_done {b : Nat} {T : TX} {σ : ST} {d : Nat} (sw : ST.wf b T d σ) (w : T.wf) (hd : d < T.dut) (hday : T.dday d = σ.today) : ST.wf b T (d + 1) (stDone T σ d) := by
  have w2 := w.dut
  apply ST.wf.mk
  · exact sw.today
  · exact sw.coins
  · exact sw.owned
  · intro x hx
    show updN σ.out d 3 x ≤ 3
    by_cases e : x = d
    · rw [e, upd_eq]; omega
    · rw [upd_ne e]; exact sw.out x hx
  · intro x hx
    show updN σ.out d 3 x ≠ 0 ↔ T.dday x < σ.today ∨ (T.dday x = σ.today ∧ x < d + 1)
    by_cases e : x = d
    · rw [e, upd_eq]; exact ⟨fun _ => Or.inr ⟨hday, by omega⟩, fun _ => by omega⟩
    · rw [upd_ne e, sw.out0 x hx]; omega
  · intro x hx hx9
    show updN σ.out d 3 x = 0
    rw [upd_ne (by omega)]; exact sw.out1 x hx hx9
  · exact sw.plan
  · intro x hx hq
    have hq : updN σ.out d 3 x = 1 ∨ updN σ.out d 3 x = 2 := hq
    by_cases e : x = d
    · rw [e, upd_eq] at hq; omega
    · rw [upd_ne e] at hq; exact sw.planT x hx hq
  · exact sw.trust
theorem wf_met {b : Nat} {T : TX} {σ : ST} {d e o v : Nat} (sw : ST.wf b T d σ) (w : T.wf) (hd : d < T.dut) (hday : T.dday d = σ.today) (he : e < T.exc) (hp : σ.plan d = nI e) (ho : o = 1 ∨ o = 2) : ST.wf b T (d + 1) (stMet T σ d e o v) := by
  have w2 := w.dut
  apply ST.wf.mk
  · exact sw.today
  · exact sw.coins
  · show (if T.once e = 0 then σ.owned else clrB σ.owned e) < 128
    have := sw.owned; have := clr_le σ.owned e
    by_cases q : T.once e = 0
    · rw [if_pos q]; omega
    · rw [if_neg q]; omega
  · intro x hx
    show updN σ.out d o x ≤ 3
    by_cases e : x = d
    · rw [e, upd_eq]; omega
    · rw [upd_ne e]; exact sw.out x hx
  · intro x hx
    show updN σ.out d o x ≠ 0 ↔ T.dday x < σ.today ∨ (T.dday x = σ.today ∧ x < d + 1)
    by_cases e : x = d
    · rw [e, upd_eq]; exact ⟨fun _ => Or.inr ⟨hday, by omega⟩, fun _ => by omega⟩
    · rw [upd_ne e, sw.out0 x hx]; omega
  · intro x hx hx9
    show updN σ.out d o x = 0
    rw [upd_ne (by omega)]; exact sw.out1 x hx hx9
  · exact sw.plan
  · intro x hx hq
    have hq : updN σ.out d o x = 1 ∨ updN σ.out d o x = 2 := hq
    by_cases q : x = d
    · subst q; exact ⟨e, he, hp⟩
    · rw [upd_ne q] at hq; exact sw.planT x hx hq
  · intro a ha
    show updN σ.trust (T.dman d) (σ.trust (T.dman d) - v) a ≤ 99
    by_cases q : a = T.dman d
    · rw [q, upd_eq]; have := sw.trust (T.dman d) (by omega); omega
    · rw [upd_ne q]; exact sw.trust a ha
theorem wf_skip {b : Nat} {T : TX} {σ : ST} {d : Nat} (sw : ST.wf b T d σ) (hday : ¬ T.dday d = σ.today) : ST.wf b T (d + 1) σ := by
  refine ST.wf.mk sw.today sw.coins sw.owned sw.out (fun x hx => ?_) sw.out1 sw.plan sw.planT sw.trust
  rw [sw.out0 x hx]
  by_cases e : x = d
  · subst e; omega
  · omega
theorem plan_cases {b : Nat} {T : TX} {i : Nat} {σ : ST} (sw : ST.wf b T i σ) (w : T.wf) {d : Nat} (hd : d < 9) : σ.plan d = -2 ∨ ∃ e, e < T.exc ∧ σ.plan d = nI e ∧ (σ.plan d).toNatClampNeg = e ∧ ¬ σ.plan d = -2 := by
  have w3 := w.exc
  rcases sw.plan d hd with h | ⟨e, he, h⟩
  · exact Or.inl h
  · exact Or.inr ⟨e, he, h, by rw [h, nI_clamp (by omega)], by rw [h]; exact nI_nem2 (by omega)⟩
theorem wf_meet {b : Nat} {T : TX} {σ : ST} {d : Nat} {Lp Lw : (Nat → Int32) → Int32} {seed : Int32} (sw : ST.wf b T d σ) (w : T.wf) (hd : d < T.dut) (hday : T.dday d = σ.today) : ST.wf b T (d + 1) (meetS T Lp Lw seed d σ) := by
  have w2 := w.dut
  unfold meetS
  rcases plan_cases sw w (show d < 9 by omega) with h | ⟨e, he, h, h2, h3⟩
  · rw [if_pos (Or.inl h)]; exact wf_done sw w hd hday
  · rw [h2]
    by_cases q : σ.plan d = -2 ∨ σ.owned.testBit e = false
    · rw [if_pos q]; exact wf_done sw w hd hday
    · rw [if_neg q]
      by_cases u : nI (passN T Lp seed σ e (T.dman d) (nI (T.dhrs d)) (hdv T σ e (T.dman d))) ≤ lotv seed (16 * nI σ.today + (1 + nI d))
      · rw [if_pos u]; exact wf_met sw w hd hday he h (Or.inr rfl)
      · rw [if_neg u]; exact wf_met sw w hd hday he h (Or.inl rfl)
def FGo (t p q _k : Nat) : Prop := q ≠ 218 ∧ q ≠ t + 3 ∧ q ≠ t + 6 ∧ ¬ (p ≤ q ∧ q ≤ p + 2)
theorem StC.set {p : Nat} {σ : ST} {h : PH} (h0 : h.1 p 0 = nI σ.today) (h1 : h.1 p 1 = nI σ.coins) (h2 : h.1 p 2 = nI σ.hours) (h3 : h.1 p 3 = nI σ.owned) (h4 : h.1 p 4 = nI (outMask σ 1)) (h5 : h.1 p 5 = nI (outMask σ 2)) (h6 : h.1 p 6 = nI (outMask σ 3)) (h7 : ∀ a, a < 5 → h.1 (p + 1) a = nI (σ.trust a)) (h8 : ∀ d, d < 9 → h.1 (p + 2) d = σ.plan d) : StC p σ h := StC.mk h0 h1 h2 h3 h4 h5 h6 h7 h8
theorem doneC_ok {T : TX} {σ : ST} {p t d : Nat} {h : PH} (x : StC p σ h) (hd : d < 9) (h0 : σ.out d = 0) (hrs : Int32) (hh : hrs = nI (T.dhrs d)) : ExH (c_X1_meet_j46 217 t p (nI d) hrs h) (fun h' => StC p (stDone T σ d) h' ∧ KP (FGo t p) h h') := by
  unfold c_X1_meet_j46
  refine ex_set (fun h7 e7 => ?_)
  refine ex_set (fun h8 e8 => ?_)
  rw [x.done, b_shl hd, b_or] at e7
  have v2 : h7.1 p 2 = nI σ.hours := by rw [e7, setI_ne (by omega)]; exact x.hours
  rw [v2, hh, nI_add] at e8
  have m1 := mask_upd (σ := σ) (o := 3) (k := 1) hd h0 (by omega)
  have m2 := mask_upd (σ := σ) (o := 3) (k := 2) hd h0 (by omega)
  have m3 := mask_upd (σ := σ) (o := 3) (k := 3) hd h0 (by omega)
  refine ex_some ⟨?_, ?_⟩
  · apply StC.set
    · rw [e8, setI_ne (by omega), e7, setI_ne (by omega)]; exact x.today
    · rw [e8, setI_ne (by omega), e7, setI_ne (by omega)]; exact x.coins
    · rw [e8, setI_eq]; rfl
    · rw [e8, setI_ne (by omega), e7, setI_ne (by omega)]; exact x.owned
    · rw [e8, setI_ne (by omega), e7, setI_ne (by omega)]; exact x.freed.trans (congrArg nI (m1.symm))
    · rw [e8, setI_ne (by omega), e7, setI_ne (by omega)]; exact x.caught.trans (congrArg nI (m2.symm))
    · rw [e8, setI_ne (by omega), e7, setI_eq]; exact congrArg nI m3.symm
    · intro a ha; rw [e8, setI_ne (by omega), e7, setI_ne (by omega)]; exact x.trust a ha
    · intro a ha; rw [e8, setI_ne (by omega), e7, setI_ne (by omega)]; exact x.plan a ha
  · rw [e8, e7]; exact (KP.setI (fun q => by unfold FGo at q; omega)).trans (KP.setI (fun q => by unfold FGo at q; omega))
theorem jmax_sub {x w : Nat} (hx : x < 2 ^ 30) (hw : w < 2 ^ 30) : jmax 0 (nI x - nI w) = nI (x - w) := by
  unfold jmax
  by_cases q : w ≤ x
  · rw [pk_sub q]
    by_cases u : 0 < nI (x - w)
    · rw [if_pos u]
    · rw [if_neg u]
      have := (nI_leI (a := x - w) (b := 0) (by omega) (by omega)).mp (Int32.not_lt.mp u)
      have e : x - w = 0 := by omega
      rw [e]; exact nI_0.symm
  · have := pk_sneg hw (show x < w by omega)
    rw [if_neg (Int32.not_lt.mpr (Int32.le_of_lt this)), show x - w = 0 by omega]
    exact nI_0.symm
theorem lose_ok {p a : Nat} {h : PH} {x w : Nat} (ha : a < 5) (hv : h.1 (p + 1) a = nI x) (hx : x < 2 ^ 30) (hw : w < 2 ^ 30) : ExH (c_X1_lose 217 p (nI a) (nI w) h) (fun h' => h' = setI h (p + 1) a (nI (x - w))) := by
  unfold c_X1_lose
  rw [if_neg (nI_pos (by omega)), if_neg (show ¬ (5 : Int32) ≤ nI a from nI_ge (b := 5) ha (by omega)), gdI (k := a) (by omega) (by omega), gdI (k := a) (by omega) (by omega), nI_clamp (by omega), hv, jmax_sub hx hw]
  exact ex_set (fun h' e => ex_some e)
theorem onceC_ok {T : TX} {σ : ST} {p t e : Nat} {h : PH} (w : T.wf) (xc : TxC t T h) (he : e < T.exc) (ho : h.1 p 3 = nI σ.owned) (hm : σ.owned < 128) : ExH (c_X1_meet_j177 217 t p (nI e) h) (fun h' => (h' = h ∨ h' = setI h p 3 (nI (clrB σ.owned e))) ∧ h'.1 p 3 = nI (if T.once e = 0 then σ.owned else clrB σ.owned e)) := by
  have w3 := w.exc
  unfold c_X1_meet_j177
  rw [gdI (k := e) (by omega) (by omega), nI_clamp (by omega), xc.once e he, ite_cg (show nI (T.once e) = 0 ↔ T.once e = 0 from nI_eq (b := 0) (by have := w.once e he; omega) (by omega))]
  by_cases q : T.once e = 0
  · rw [if_pos q, if_pos q]; exact ex_some ⟨Or.inl rfl, ho⟩
  · rw [if_neg q, if_neg q, ho, clr_ok (by omega) (by omega)]
    exact ex_set (fun h' e' => ex_some ⟨Or.inr e', by rw [e', setI_eq]⟩)
theorem twoN (w : Nat) : (2 : Int32) * nI w = nI (2 * w) := (Int32.ofNat_mul 2 w).symm
theorem lot_arg (x y : Int32) : 16 * x + 1 + y = 16 * x + (1 + y) := Int32.add_assoc _ _ _
theorem meetC_ok {b : Nat} {T : TX} {σ : ST} {p t d : Nat} {Lp Lw : (Nat → Int32) → Int32} {h : PH} (w : T.wf) (sw : ST.wf b T d σ) (xc : TxC t T h) (x : StC p σ h) (LL : LawsC t Lp Lw h) (cp : LawF Lp) (cw : LawF Lw) (hp : p = 78 ∨ p = 81 ∨ p = 220) (ht : t = 8 ∨ t = 43) (hb : σ.today < 2 ^ 31) (hd : d < T.dut) (h0 : σ.out d = 0) (seed : Int32) : ExH (c_X1_meet 217 t p (nI d) seed h) (fun h' => StC p (meetS T Lp Lw seed d σ) h' ∧ KP (FGo t p) h h') := by
  have w1 := w.men; have w2 := w.dut; have w3 := w.exc
  have ha := w.dman d hd
  have om := sw.owned
  unfold c_X1_meet meetS
  simp (disch := omega) only [gdI, nI_clamp]
  refine ex_nm ?_
  refine ex_nm ?_
  refine ex_nm ?_
  rw [x.plan d (by omega), xc.dman d hd, xc.dhrs d hd]
  rcases plan_cases sw w (show d < 9 by omega) with hpl | ⟨e, he, hpl, h2, h3⟩
  · have : c_X9_isExcuse t (-2) h = some 0 := by
      unfold c_X9_isExcuse; rw [if_pos (by decide)]
    rw [hpl, this, Option.bind_some, if_pos rfl, if_pos (Or.inl rfl)]
    exact doneC_ok x (by omega) h0 _ rfl
  · have ow : c_X8_owns p (nI e) h = some (if σ.owned.testBit e = true then 1 else 0) := by
      unfold c_X8_owns
      rw [x.owned, b_get (by omega) (by omega)]
      cases σ.owned.testBit e <;> rfl
    rw [h2, hpl, isExcC w xc he, Option.bind_some, if_neg (show ¬ (1 : Int32) = 0 by decide), ow, Option.bind_some, if_0i]
    by_cases q : σ.owned.testBit e = true
    · rw [if_neg (fun z => z q), if_neg (fun z => by
        rcases z with z | z
        · exact nI_nem2 (show e < 2 ^ 31 by omega) z
        · rw [q] at z; exact absurd z (by decide))]
      refine ex_b2 (wears_ok w sw.planT xc x LL cw hp ht hb he ha _ seed) (fun v10 h11 ⟨r10, k11⟩ => ?_)
      refine ex_nm ?_
      have x11 : StC p σ h11 := x.fr (k11.mono (fun q k z => by unfold FCs; omega))
      have c11 : TxC t T h11 := xc.fr w (k11.mono (fun q k z => by unfold FxC at z; unfold FCs; omega))
      have l11 : LawsC t Lp Lw h11 := LL.fr (k11.mono (fun q k z => by unfold FxC at z; unfold FCs; omega))
      rw [x11.today, X1_lot_ok, Option.bind_some, lot_arg]
      refine ex_b2 (passes_ok w sw.planT c11 x11 l11 cp hp ht hb he ha _ seed) (fun v14 h15 ⟨r14, k15⟩ => ?_)
      have x15 : StC p σ h15 := x11.fr (k15.mono (fun q k z => by unfold FCs; omega))
      have c15 : TxC t T h15 := c11.fr w (k15.mono (fun q k z => by unfold FxC at z; unfold FCs; omega))
      have kk : KP (FGo t p) h h15 := (k11.trans k15).mono (fun q k z => by unfold FGo at z; unfold FCs; omega)
      have t9 := sw.trust (T.dman d) (by omega)
      rw [r14, r10]
      have W := wear_le T Lw seed σ e (T.dman d) (nI (T.dhrs d)) (hdv T σ e (T.dman d))
      generalize wearN T Lw seed σ e (T.dman d) (nI (T.dhrs d)) (hdv T σ e (T.dman d)) = wv at W
      have cfr : ∀ {ha hb : PH}, TxC t T ha → KP (fun q _ => ¬ (p ≤ q ∧ q ≤ p + 2)) ha hb → TxC t T hb := fun a k => a.fr w (k.mono (fun q k z => by unfold FxC at z; omega))
      by_cases u : nI (passN T Lp seed σ e (T.dman d) (nI (T.dhrs d)) (hdv T σ e (T.dman d))) ≤ lotv seed (16 * nI σ.today + (1 + nI d))
      · rw [if_pos u, if_pos u]
        refine ex_set (fun h16 e16 => ?_)
        refine ex_set (fun h17 e17 => ?_)
        rw [x15.caught, b_shl (by omega), b_or] at e16
        have v2 : h16.1 p 2 = nI σ.hours := by rw [e16, setI_ne (by omega)]; exact x15.hours
        rw [v2, nI_add] at e17
        have v3 : h17.1 (p + 1) (T.dman d) = nI (σ.trust (T.dman d)) := by rw [e17, setI_ne (by omega), e16, setI_ne (by omega)]; exact x15.trust _ (by omega)
        rw [twoN]
        refine ex_bind (lose_ok (show T.dman d < 5 by omega) v3 (by omega) (show 2 * wv < 2 ^ 30 by omega)) (fun h18 e18 => ?_)
        have k18 : KP (fun q _ => ¬ (p ≤ q ∧ q ≤ p + 2)) h15 h18 := by
          rw [e18, e17, e16]; exact ((KP.setI (fun z => z (by omega))).trans (KP.setI (fun z => z (by omega)))).trans (KP.setI (fun z => z (by omega)))
        have o18 : h18.1 p 3 = nI σ.owned := by rw [e18, setI_ne (by omega), e17, setI_ne (by omega), e16, setI_ne (by omega)]; exact x15.owned
        obtain ⟨h20, e20, q20, o20⟩ := onceC_ok (p := p) w (cfr c15 k18) he o18 om
        refine ⟨h20, e20, ?_, ?_⟩
        · have m1 := mask_upd (σ := σ) (o := 2) (k := 1) (show d < 9 by omega) h0 (by omega)
          have m2 := mask_upd (σ := σ) (o := 2) (k := 2) (show d < 9 by omega) h0 (by omega)
          have m3 := mask_upd (σ := σ) (o := 2) (k := 3) (show d < 9 by omega) h0 (by omega)
          have rd : ∀ q k, ¬ (q = p ∧ k = 3) → h20.1 q k = h18.1 q k := fun q k hn => by
            rcases q20 with z | z
            · rw [z]
            · rw [z, setI_ne hn]
          apply StC.set
          · rw [rd _ _ (by omega), e18, setI_ne (by omega), e17, setI_ne (by omega), e16, setI_ne (by omega)]; exact x15.today
          · rw [rd _ _ (by omega), e18, setI_ne (by omega), e17, setI_ne (by omega), e16, setI_ne (by omega)]; exact x15.coins
          · rw [rd _ _ (by omega), e18, setI_ne (by omega), e17, setI_eq]; rfl
          · exact o20
          · rw [rd _ _ (by omega), e18, setI_ne (by omega), e17, setI_ne (by omega), e16, setI_ne (by omega)]; exact x15.freed.trans (congrArg nI m1.symm)
          · rw [rd _ _ (by omega), e18, setI_ne (by omega), e17, setI_ne (by omega), e16, setI_eq]; exact congrArg nI m2.symm
          · rw [rd _ _ (by omega), e18, setI_ne (by omega), e17, setI_ne (by omega), e16, setI_ne (by omega)]; exact x15.done.trans (congrArg nI m3.symm)
          · intro a ha5
            rw [rd _ _ (by omega), e18]
            show _ = nI (updN σ.trust (T.dman d) (σ.trust (T.dman d) - 2 * wv) a)
            by_cases z : a = T.dman d
            · subst z; rw [setI_eq, upd_eq]
            · rw [setI_ne (by omega), upd_ne z, e17, setI_ne (by omega), e16, setI_ne (by omega)]; exact x15.trust a ha5
          · intro a ha9
            rw [rd _ _ (by omega), e18, setI_ne (by omega), e17, setI_ne (by omega), e16, setI_ne (by omega)]; exact x15.plan a ha9
        · refine kk.trans ((k18.mono (fun q k z => by unfold FGo at z; omega)).trans ?_)
          rcases q20 with z | z
          · rw [z]; exact KP.rfl
          · rw [z]; exact KP.setI (fun q => by unfold FGo at q; omega)
      · rw [if_neg u, if_neg u]
        refine ex_set (fun h16 e16 => ?_)
        rw [x15.freed, b_shl (by omega), b_or] at e16
        have v3 : h16.1 (p + 1) (T.dman d) = nI (σ.trust (T.dman d)) := by rw [e16, setI_ne (by omega)]; exact x15.trust _ (by omega)
        refine ex_bind (lose_ok (show T.dman d < 5 by omega) v3 (by omega) (show wv < 2 ^ 30 by omega)) (fun h18 e18 => ?_)
        have k18 : KP (fun q _ => ¬ (p ≤ q ∧ q ≤ p + 2)) h15 h18 := by
          rw [e18, e16]; exact (KP.setI (fun z => z (by omega))).trans (KP.setI (fun z => z (by omega)))
        have o18 : h18.1 p 3 = nI σ.owned := by rw [e18, setI_ne (by omega), e16, setI_ne (by omega)]; exact x15.owned
        obtain ⟨h20, e20, q20, o20⟩ := onceC_ok (p := p) w (cfr c15 k18) he o18 om
        refine ⟨h20, e20, ?_, ?_⟩
        · have m1 := mask_upd (σ := σ) (o := 1) (k := 1) (show d < 9 by omega) h0 (by omega)
          have m2 := mask_upd (σ := σ) (o := 1) (k := 2) (show d < 9 by omega) h0 (by omega)
          have m3 := mask_upd (σ := σ) (o := 1) (k := 3) (show d < 9 by omega) h0 (by omega)
          have rd : ∀ q k, ¬ (q = p ∧ k = 3) → h20.1 q k = h18.1 q k := fun q k hn => by
            rcases q20 with z | z
            · rw [z]
            · rw [z, setI_ne hn]
          apply StC.set
          · rw [rd _ _ (by omega), e18, setI_ne (by omega), e16, setI_ne (by omega)]; exact x15.today
          · rw [rd _ _ (by omega), e18, setI_ne (by omega), e16, setI_ne (by omega)]; exact x15.coins
          · rw [rd _ _ (by omega), e18, setI_ne (by omega), e16, setI_ne (by omega)]; exact x15.hours
          · exact o20
          · rw [rd _ _ (by omega), e18, setI_ne (by omega), e16, setI_eq]; exact congrArg nI m1.symm
          · rw [rd _ _ (by omega), e18, setI_ne (by omega), e16, setI_ne (by omega)]; exact x15.caught.trans (congrArg nI m2.symm)
          · rw [rd _ _ (by omega), e18, setI_ne (by omega), e16, setI_ne (by omega)]; exact x15.done.trans (congrArg nI m3.symm)
          · intro a ha5
            rw [rd _ _ (by omega), e18]
            show _ = nI (updN σ.trust (T.dman d) (σ.trust (T.dman d) - wv) a)
            by_cases z : a = T.dman d
            · subst z; rw [setI_eq, upd_eq]
            · rw [setI_ne (by omega), upd_ne z, e16, setI_ne (by omega)]; exact x15.trust a ha5
          · intro a ha9
            rw [rd _ _ (by omega), e18, setI_ne (by omega), e16, setI_ne (by omega)]; exact x15.plan a ha9
        · refine kk.trans ((k18.mono (fun q k z => by unfold FGo at z; omega)).trans ?_)
          rcases q20 with z | z
          · rw [z]; exact KP.rfl
          · rw [z]; exact KP.setI (fun q => by unfold FGo at q; omega)
    · rw [if_pos q, if_pos (Or.inr (by simpa using q))]
      exact doneC_ok x (by omega) h0 _ rfl
