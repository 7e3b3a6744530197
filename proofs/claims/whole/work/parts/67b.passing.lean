def dayP (T : TX) (Lp Lw : LawT) (p : Int32) (eD : Nat → Nat) : List Nat → ST → Option (List Nat × ST)
  | [], τ => some ([], τ)
  | d :: l, τ => if T.dday d = τ.today then (if p ≤ nI (passN T Lp T.seed τ (eD d) (T.dman d) (nI (T.dhrs d)) (hdv T τ (eD d) (T.dman d))) then dayP T Lp Lw p eD l (tellS T Lw τ d (eD d)) else none) else some (d :: l, τ)
theorem seqP_c (T : TX) (Lp Lw : LawT) (p : Int32) (eD : Nat → Nat) (d : Nat) (l : List Nat) (τ : ST) : seqP T Lp Lw p eD (d :: l) τ = if p ≤ nI (passN T Lp T.seed (mendS T (T.dday d - τ.today) τ) (eD d) (T.dman d) (nI (T.dhrs d)) (hdv T (mendS T (T.dday d - τ.today) τ) (eD d) (T.dman d))) then seqP T Lp Lw p eD l (tellS T Lw (mendS T (T.dday d - τ.today) τ) d (eD d)) else false := rfl
theorem dayP_c (T : TX) (Lp Lw : LawT) (p : Int32) (eD : Nat → Nat) (d : Nat) (l : List Nat) (τ : ST) : dayP T Lp Lw p eD (d :: l) τ = if T.dday d = τ.today then (if p ≤ nI (passN T Lp T.seed τ (eD d) (T.dman d) (nI (T.dhrs d)) (hdv T τ (eD d) (T.dman d))) then dayP T Lp Lw p eD l (tellS T Lw τ d (eD d)) else none) else some (d :: l, τ) := rfl
def Lex (T : TX) (x y : Nat) : Prop := T.dday x < T.dday y ∨ (T.dday x = T.dday y ∧ x < y)
theorem ST_ext {a b : ST} (h1 : a.today = b.today) (h2 : a.coins = b.coins) (h3 : a.hours = b.hours) (h4 : a.owned = b.owned) (h5 : a.out = b.out) (h6 : a.plan = b.plan) (h7 : a.trust = b.trust) : a = b := by
  obtain ⟨a1, a2, a3, a4, a5, a6, a7⟩ := a
  obtain ⟨b1, b2, b3, b4, b5, b6, b7⟩ := b
  have h1 : a1 = b1 := h1
  have h2 : a2 = b2 := h2
  have h3 : a3 = b3 := h3
  have h4 : a4 = b4 := h4
  have h5 : a5 = b5 := h5
  have h6 : a6 = b6 := h6
  have h7 : a7 = b7 := h7
  subst h1; subst h2; subst h3; subst h4; subst h5; subst h6; subst h7; rfl
theorem mend0 {T : TX} {τ : ST} (w : T.wf) (tr : ∀ a, a < 5 → τ.trust a ≤ 99) : mendS T 0 τ = τ := by
  have w1 := w.men
  refine ST_ext (Nat.add_zero _) rfl rfl rfl rfl rfl (funext fun a => ?_)
  show (if a < T.men then min 99 (τ.trust a + 0 * T.mend a) else τ.trust a) = τ.trust a
  by_cases q : a < T.men
  · rw [if_pos q, Nat.zero_mul, Nat.add_zero]; have := tr a (by omega); omega
  · rw [if_neg q]
theorem mend_add {T : TX} {τ : ST} (k : Nat) : mendS T k (mendS T 1 τ) = mendS T (k + 1) τ := by
  refine ST_ext (by show τ.today + 1 + k = τ.today + (k + 1); omega) rfl rfl rfl rfl rfl (funext fun a => ?_)
  show (if a < T.men then min 99 ((if a < T.men then min 99 (τ.trust a + 1 * T.mend a) else τ.trust a) + k * T.mend a) else (if a < T.men then min 99 (τ.trust a + 1 * T.mend a) else τ.trust a)) = if a < T.men then min 99 (τ.trust a + (k + 1) * T.mend a) else τ.trust a
  by_cases q : a < T.men
  · rw [if_pos q, if_pos q, if_pos q, Nat.succ_mul k, Nat.one_mul]
    generalize k * T.mend a = x
    omega
  · rw [if_neg q, if_neg q, if_neg q]
theorem seq_day {T : TX} {Lp Lw : LawT} {p : Int32} {eD : Nat → Nat} (w : T.wf) : ∀ (l : List Nat) (τ : ST), (∀ a, a < 5 → τ.trust a ≤ 99) → (∀ d, d ∈ l → τ.today ≤ T.dday d) → seqP T Lp Lw p eD l τ = match dayP T Lp Lw p eD l τ with
      | none => false
      | some q => seqP T Lp Lw p eD q.1 (mendS T 1 q.2)
  | [], τ, _, _ => rfl
  | d :: l, τ, tr, hd => by
    have h0 := hd d List.mem_cons_self
    by_cases q : T.dday d = τ.today
    · rw [seqP_c, dayP_c, if_pos q, show T.dday d - τ.today = 0 by omega, mend0 w tr]
      by_cases c : p ≤ nI (passN T Lp T.seed τ (eD d) (T.dman d) (nI (T.dhrs d)) (hdv T τ (eD d) (T.dman d)))
      · rw [if_pos c, if_pos c]
        exact seq_day w l (tellS T Lw τ d (eD d)) (tell_trust tr) (fun d' hd' => hd d' (List.mem_cons_of_mem _ hd'))
      · rw [if_neg c, if_neg c]
    · rw [dayP_c, if_neg q]
      show seqP T Lp Lw p eD (d :: l) τ = seqP T Lp Lw p eD (d :: l) (mendS T 1 τ)
      rw [seqP_c, seqP_c]
      have e : mendS T (T.dday d - (mendS T 1 τ).today) (mendS T 1 τ) = mendS T (T.dday d - τ.today) τ := by
        have t1 : (mendS T 1 τ).today = τ.today + 1 := rfl
        rw [t1, mend_add, show T.dday d - (τ.today + 1) + 1 = T.dday d - τ.today by omega]
      rw [e]
theorem day_props {T : TX} {Lp Lw : LawT} {p : Int32} {eD : Nat → Nat} : ∀ (l : List Nat) (τ : ST) (l' : List Nat) (τ' : ST), dayP T Lp Lw p eD l τ = some (l', τ') → l.Pairwise (Lex T) → (∀ d, d ∈ l → τ.today ≤ T.dday d ∧ eD d < T.exc) → (∀ a, a < 5 → τ.trust a ≤ 99) → ST.pt T τ → τ'.today = τ.today ∧ l'.Pairwise (Lex T) ∧ (∀ d, d ∈ l' → d ∈ l ∧ τ.today < T.dday d) ∧ (∀ a, a < 5 → τ'.trust a ≤ 99) ∧ ST.pt T τ'
  | [], τ, l', τ', h, hs, hd, tr, pt => by
    have h : some ([], τ) = some (l', τ') := h
    have h1 : ([] : List Nat) = l' ∧ τ = τ' := by simpa using h
    obtain ⟨a, b⟩ := h1
    subst a; subst b
    exact ⟨rfl, List.Pairwise.nil, fun d hd => absurd hd (by simp), tr, pt⟩
  | d :: l, τ, l', τ', h, hs, hd, tr, pt => by
    obtain ⟨h1, h2⟩ := List.pairwise_cons.mp hs
    have h0 := hd d List.mem_cons_self
    unfold dayP at h
    by_cases q : T.dday d = τ.today
    · rw [if_pos q] at h
      by_cases c : p ≤ nI (passN T Lp T.seed τ (eD d) (T.dman d) (nI (T.dhrs d)) (hdv T τ (eD d) (T.dman d)))
      · rw [if_pos c] at h
        obtain ⟨a1, a2, a3, a4, a5⟩ := day_props l (tellS T Lw τ d (eD d)) l' τ' h h2 (fun d' hd' => hd d' (List.mem_cons_of_mem _ hd')) (tell_trust tr) (tell_pt pt h0.2)
        exact ⟨a1, a2, fun d' hd' => ⟨List.mem_cons_of_mem _ (a3 d' hd').1, (a3 d' hd').2⟩, a4, a5⟩
      · rw [if_neg c] at h; simp at h
    · rw [if_neg q] at h
      have h1' : d :: l = l' ∧ τ = τ' := by simpa using h
      obtain ⟨a, b⟩ := h1'
      subst a; subst b
      refine ⟨rfl, hs, fun d' hd' => ⟨hd', ?_⟩, tr, pt⟩
      rcases List.mem_cons.mp hd' with e | e
      · subst e; omega
      · have h3 := h1 d' e; unfold Lex at h3; omega
def updP (τ : ST) (d e : Nat) : ST := ST.mk τ.today τ.coins τ.hours τ.owned τ.out (updZ τ.plan d (nI e)) τ.trust
def Bt (R : Nat) (l : List Nat) : Prop := R < 512 ∧ ∀ x, x < 9 → (R.testBit x = true ↔ x ∈ l)
theorem clr_bit0 : ∀ m : Nat, m < 512 → ∀ e : Nat, e < 9 → ∀ x : Nat, x < 9 → (clrB m e).testBit x = (decide (x ≠ e) && m.testBit x) := by decide +kernel
theorem Bt_clr {R d : Nat} {l : List Nat} (h : Bt R (d :: l)) (hd : d < 9) (hn : d ∉ l) : Bt (clrB R d) l := by
  refine ⟨Nat.lt_of_le_of_lt (clr_le R d) h.1, fun x hx => ?_⟩
  rw [clr_bit0 R h.1 d hd x hx, Bool.and_eq_true, decide_eq_true_eq, h.2 x hx, List.mem_cons]
  constructor
  · rintro ⟨a, b | b⟩
    · exact absurd b a
    · exact b
  · intro b; exact ⟨fun e => hn (e ▸ b), Or.inr b⟩
def RB (T : TX) (s : Nat) (Lp Lw : LawT) (h : PH) : Prop := h.1 0 18 = nI s ∧ TxR s T h ∧ LawsR s Lp Lw h ∧ h.1 0 62 = T.seed
theorem RB.fr {T : TX} {s : Nat} {Lp Lw : LawT} {h h' : PH} (k : KP FRg h h') (b : RB T s Lp Lw h) : RB T s Lp Lw h' := ⟨(k.i (by unfold FRg; omega)).trans b.1, b.2.1.fr (k.mono (fun q k z => by unfold FxR at z; unfold FRg; omega)), b.2.2.1.fr (k.mono (fun q k z => by unfold FxR at z; unfold FRg; omega)), (k.i (by unfold FRg; omega)).trans b.2.2.2⟩
theorem inner_run {T : TX} {s : Nat} {Lp Lw : LawT} {S row p : Int32} {eD : Nat → Nat} {α : Type} (w : T.wf) (hs : s < 2) (cp : LawF Lp) (cw : LawF Lw) (K1 : PH → Option α) (K2 : Int32 → PH → Option α) : ∀ (m i f : Nat) (l : List Nat) (τ : ST) (h : PH) (R : Nat), i + m = T.dut → Bt R l → l.Pairwise (Lex T) → (∀ d, d ∈ l → d < T.dut ∧ eD d < T.exc ∧ τ.today ≤ T.dday d ∧ (T.dday d = τ.today → i ≤ d) ∧ c_X12_excuseIn S row (nI d) = some (nI (eD d))) → RB T s Lp Lw h → StV τ h → ST.pt T τ → (∀ a, a < 5 → τ.trust a ≤ 99) → τ.today < 100000 → (dayP T Lp Lw p eD l τ = none ∧ ∃ h', lq3 (c_X12_isPassing_L15b S row p K1 K2) (f + m + 1) (nI R) (nI i) h = K1 h' ∧ KP FRg h h') ∨ ∃ l' τ' R' h', dayP T Lp Lw p eD l τ = some (l', τ') ∧ lq3 (c_X12_isPassing_L15b S row p K1 K2) (f + m + 1) (nI R) (nI i) h = K2 (nI R') h' ∧ Bt R' l' ∧ StV τ' h' ∧ KP FRg h h'
  | 0, i, f, l, τ, h, R, hi, hR, hL, hB, rb, x, pt, tr, hd => by
    have w2 := w.dut
    have e : dayP T Lp Lw p eD l τ = some (l, τ) := by
      cases l with
      | nil => rfl
      | cons d l =>
        obtain ⟨b1, _, _, b4, _⟩ := hB d List.mem_cons_self
        unfold dayP
        rw [if_neg (fun z => by have := b4 z; omega)]
    refine Or.inr ⟨l, τ, R, h, e, ?_, hR, x, KP.rfl⟩
    rw [lq3_s]
    unfold c_X12_isPassing_L15b
    rw [rb.1, live_gd hs, nI_clamp (by omega), rb.2.1.dut, if_pos (nI_le (by omega) (by omega))]
  | m + 1, i, f, l, τ, h, R, hi, hR, hL, hB, rb, x, pt, tr, hd => by
    have w1 := w.men; have w2 := w.dut; have w3 := w.exc
    have hidut : i < T.dut := by omega
    have y9 := w.dday i hidut
    rw [show f + (m + 1) + 1 = (f + m + 1) + 1 from by omega, lq3_s]
    generalize hREC : lq3 (c_X12_isPassing_L15b S row p K1 K2) (f + m + 1) = REC
    have body : c_X12_isPassing_L15b S row p K1 K2 REC (nI R) (nI i) h = if R.testBit i = true then (if T.dday i = τ.today then ((c_X12_excuseIn S row (nI i)).bind fun r6 => nm r6 fun v7 => bind2 (c_X12_passesNow v7 (nI i) h) fun r8 h9 => if p ≤ r8 then bind2 (c_X12_wearsNow v7 (nI i) h9) fun r10 h11 => nm r10 fun v12 => gd (ixOK (22 + nI i) 40) <| nm (setI h11 44 (22 + nI i).toNatClampNeg v7) fun h13 => (c_X12_manOf (nI i) h13).bind fun r14 => (c_X12_lessTrust r14 v12 h13).bind fun h15 => nm (nI R &&& (((1 : Int32) <<< (nI i &&& 31)) ^^^ (-1))) fun v16 => nm (nI i + 1) fun v17 => REC v16 v17 h15 else K1 h9) else REC (nI R) (nI (i + 1)) h) else REC (nI R) (nI (i + 1)) h := by
      unfold c_X12_isPassing_L15b
      rw [rb.1, live_gd hs, nI_clamp (n := s) (by omega), rb.2.1.dut, if_neg (nI_ge hidut (by omega)), b_get hR.1 (by omega), if_0i, dayOf_ok w hs rb.1 rb.2.1 hidut, Option.bind_some, x.today, ite_cg (nI_eq (a := T.dday i) (b := τ.today) (by omega) (by omega))]
      by_cases q1 : R.testBit i = true
      · rw [if_neg (show ¬ ¬ R.testBit i = true from fun z => z q1), if_pos q1]
        by_cases q2 : T.dday i = τ.today
        · rw [if_pos q2, if_pos q2]
        · rw [if_neg q2, if_neg q2, nm_eq, nI_1]
      · rw [if_pos q1, if_neg q1, nm_eq, nI_1]
    rw [body]
    have skip : (¬ R.testBit i = true ∨ ¬ T.dday i = τ.today) → (dayP T Lp Lw p eD l τ = none ∧ ∃ h', REC (nI R) (nI (i + 1)) h = K1 h' ∧ KP FRg h h') ∨ ∃ l' τ' R' h', dayP T Lp Lw p eD l τ = some (l', τ') ∧ REC (nI R) (nI (i + 1)) h = K2 (nI R') h' ∧ Bt R' l' ∧ StV τ' h' ∧ KP FRg h h' := fun hsk => by
      rw [← hREC]
      refine inner_run w hs cp cw K1 K2 m (i + 1) f l τ h R (by omega) hR hL (fun d hdl => ?_) rb x pt tr hd
      obtain ⟨b1, b2, b3, b4, b5⟩ := hB d hdl
      refine ⟨b1, b2, b3, fun z => ?_, b5⟩
      have := b4 z
      by_cases e : d = i
      · subst e
        rcases hsk with hsk | hsk
        · exact absurd ((hR.2 d (by omega)).mpr hdl) hsk
        · exact absurd z hsk
      · omega
    by_cases q1 : R.testBit i = true
    · rw [if_pos q1]
      by_cases q2 : T.dday i = τ.today
      · rw [if_pos q2]
        have hil := (hR.2 i (by omega)).mp q1
        -- it is the first of the list
        cases l with
        | nil => exact absurd hil (by simp)
        | cons d l =>
          obtain ⟨h1, h2⟩ := List.pairwise_cons.mp hL
          obtain ⟨b1, b2, b3, b4, b5⟩ := hB d List.mem_cons_self
          have hdi : d = i := by
            rcases List.mem_cons.mp hil with e | e
            · exact e.symm
            · have h3 := h1 i e
              unfold Lex at h3
              have : T.dday d = τ.today := by omega
              have := b4 this
              omega
          subst hdi
          have hnl : d ∉ l := fun z => by have h3 := h1 d z; unfold Lex at h3; omega
          rw [b5, Option.bind_some, nm_eq]
          obtain ⟨v8, h9, e8, q8, k9⟩ := passesNow_ok w pt hs rb.1 rb.2.1 x rb.2.2.1 cp (show τ.today < 2 ^ 31 by omega) b2 hidut
          rw [rb.2.2.2] at q8
          rw [e8]
          show (_ ∧ ∃ h', (if p ≤ v8 then _ else _) = _ ∧ _) ∨ ∃ l' τ' R' h', _ ∧ (if p ≤ v8 then _ else _) = _ ∧ _
          rw [q8]
          have g9 : KP FRg h h9 := k9.mono (fun q k z => FRs_R z)
          unfold dayP
          rw [if_pos q2]
          by_cases c : p ≤ nI (passN T Lp T.seed τ (eD d) (T.dman d) (nI (T.dhrs d)) (hdv T τ (eD d) (T.dman d)))
          · rw [if_pos c, if_pos c]
            have rb9 := rb.fr g9
            have x9 : StV τ h9 := x.fr (k9.mono (fun q k z => by unfold FRs; omega))
            obtain ⟨v10, h11, e10, q10, k11⟩ := wearsNow_ok w pt hs rb9.1 rb9.2.1 x9 rb9.2.2.1 cw (show τ.today < 2 ^ 31 by omega) b2 hidut
            rw [rb9.2.2.2] at q10
            rw [e10]
            have g11 : KP FRg h h11 := g9.trans (k11.mono (fun q k z => FRs_R z))
            have x11 : StV τ h11 := x9.fr (k11.mono (fun q k z => by unfold FRs; omega))
            rw [show bind2 (some (v10, h11)) (fun r10 h11 => nm r10 fun v12 => gd (ixOK (22 + nI d) 40) <| nm (setI h11 44 (22 + nI d).toNatClampNeg (nI (eD d))) fun h13 => (c_X12_manOf (nI d) h13).bind fun r14 => (c_X12_lessTrust r14 v12 h13).bind fun h15 => nm (nI R &&& (((1 : Int32) <<< (nI d &&& 31)) ^^^ (-1))) fun v16 => nm (nI d + 1) fun v17 => REC v16 v17 h15) = (nm v10 fun v12 => gd (ixOK (22 + nI d) 40) <| nm (setI h11 44 (22 + nI d).toNatClampNeg (nI (eD d))) fun h13 => (c_X12_manOf (nI d) h13).bind fun r14 => (c_X12_lessTrust r14 v12 h13).bind fun h15 => nm (nI R &&& (((1 : Int32) <<< (nI d &&& 31)) ^^^ (-1))) fun v16 => nm (nI d + 1) fun v17 => REC v16 v17 h15) from rfl]
            rw [nm_eq, q10, nI_a22, gdI (k := 22 + d) (by omega) (by omega), nI_clamp (n := 22 + d) (by omega), nm_eq]
            have k13 : KP FRg h11 (setI h11 44 (22 + d) (nI (eD d))) := KP.setI (fun z => z.2.2.1 rfl)
            have r13 : ∀ k, k ≠ 22 + d → (setI h11 44 (22 + d) (nI (eD d))).1 44 k = h11.1 44 k := fun k hk => setI_ne (by omega)
            have r13' : (setI h11 44 (22 + d) (nI (eD d))).1 44 (22 + d) = nI (eD d) := setI_eq _ _ _ _
            generalize setI h11 44 (22 + d) (nI (eD d)) = h13 at k13 r13 r13'
            have rb13 := rb.fr (g11.trans k13)
            have ha := w.dman d hidut
            have t9 := tr (T.dman d) (by omega)
            have W := wear_le T Lw T.seed τ (eD d) (T.dman d) (nI (T.dhrs d)) (hdv T τ (eD d) (T.dman d))
            rw [manOf_ok w hs rb13.1 rb13.2.1 hidut, Option.bind_some]
            obtain ⟨h15, e15, q15⟩ := lessT_ok (h := h13) (show T.dman d < 5 by omega) (by rw [r13 _ (by omega)]; exact x11.trust (T.dman d) (by omega)) (show τ.trust (T.dman d) < 2 ^ 30 by omega) (show wearN T Lw T.seed τ (eD d) (T.dman d) (nI (T.dhrs d)) (hdv T τ (eD d) (T.dman d)) < 2 ^ 30 by omega)
            rw [e15, Option.bind_some, nm_eq, nm_eq, clr_ok hR.1 (by omega), nI_1, ← hREC]
            have k15 : KP FRg h13 h15 := by rw [q15]; exact KP.setI (fun z => z.2.2.1 rfl)
            have g15 : KP FRg h h15 := (g11.trans k13).trans k15
            have xn : StV (tellS T Lw τ d (eD d)) h15 := by
              apply StV.mk
              · rw [q15, setI_ne (by omega), r13 _ (by omega)]; exact x11.today
              · intro y hy
                rw [q15, setI_ne (by omega), told_upd (σ := updP τ d (eD d)) (d := d) (o := 1) (tellS T Lw τ d (eD d)) rfl rfl]
                by_cases z : y = d
                · subst z; rw [if_pos rfl, if_pos (Or.inl rfl), r13']; exact (updZ_eq _ _ _).symm
                · rw [if_neg z, r13 _ (by omega), x11.told y hy]
                  unfold toldP
                  show _ = if τ.out y = 1 ∨ τ.out y = 2 then updZ τ.plan d (nI (eD d)) y else -2
                  rw [updZ_ne z]
              · intro a ha5
                show _ = nI (updN τ.trust (T.dman d) (τ.trust (T.dman d) - wearN T Lw T.seed τ (eD d) (T.dman d) (nI (T.dhrs d)) (hdv T τ (eD d) (T.dman d))) a)
                by_cases z : a = T.dman d
                · subst z; rw [upd_eq, q15, setI_eq]
                · rw [upd_ne z, q15, setI_ne (by omega), r13 _ (by omega)]; exact x11.trust a ha5
            rcases inner_run (S := S) (row := row) (p := p) (eD := eD) w hs cp cw K1 K2 m (d + 1) f l (tellS T Lw τ d (eD d)) h15 (clrB R d) (by omega) (Bt_clr hR (by omega) hnl) h2 (fun d' hd' => by
              obtain ⟨c1, c2, c3, c4, c5⟩ := hB d' (List.mem_cons_of_mem _ hd')
              refine ⟨c1, c2, c3, fun z => ?_, c5⟩
              have h3 := h1 d' hd'
              have z : T.dday d' = τ.today := z
              unfold Lex at h3; omega) (rb.fr g15) xn (tell_pt pt b2) (tell_trust tr) hd with ⟨a1, h', a2, a3⟩ | ⟨l', τ', R', h', a1, a2, a3, a4, a5⟩
            · exact Or.inl ⟨a1, h', a2, g15.trans a3⟩
            · exact Or.inr ⟨l', τ', R', h', a1, a2, a3, a4, g15.trans a5⟩
          · rw [if_neg c, if_neg c]
            exact Or.inl ⟨rfl, h9, rfl, g9⟩
      · rw [if_neg q2]; exact skip (Or.inr q2)
    · rw [if_neg q1]; exact skip (Or.inl q1)
