def MC (t p k : Nat) : Prop := SC t p k ∧ ¬ (78 ≤ p ∧ p ≤ 80) ∧ ¬ (84 ≤ p ∧ p ≤ 205)
def MR (p k : Nat) : Prop := SR p k ∧ p ≠ 43 ∧ p ≠ 45 ∧ ¬ (p = 0 ∧ k = 63)
def Mut (n : Nat) (T : TX) (t : Nat) (hc hr hc' hr' : PH) : Prop := ∃ σ', ST.wf (60 * (n + 1)) T 0 σ' ∧ StC 78 σ' hc' ∧ StR 43 0 σ' hr' ∧ iUndo (n + 1) T hc' hr' ∧ KP (MC t) hc hc' ∧ KP MR hr hr'
theorem Mut_no {n : Nat} {T : TX} {σ : ST} {s t : Nat} {Lp Lw : LawT} {hc hr : PH} (C : CL n T σ s t Lp Lw hc hr) (iu : iUndo n T hc hr) : Mut n T t hc hr hc hr := ⟨σ, wf_up (by omega) C.cor.swf, C.cor.sc, C.cor.sr, iUndo_fr (Nat.le_succ n) KP.rfl KP.rfl iu, KP.rfl, KP.rfl⟩
theorem iUndo_push2 {n : Nat} {T : TX} {σ : ST} {hc hr hc2 hc' hr' : PH} {u w : Nat} (sw : ST.wf (60 * n) T 0 σ) (sr : StR 43 0 σ hr) (hu : u ≤ 40) (hw : w < 40) (e : ∀ j, j < u → ∃ σ, ST.wf (60 * n) T 0 σ ∧ StC (84 + 1 + 1 + 3 * ((w + 39 - j) % 40)) σ hc ∧ StR 45 (40 * (u - 1 - j)) σ hr) (c1 : hc2.1 84 1 = nI ((w + 1) % 40)) (c2 : hc2.1 84 2 = nI (min (u + 1) 40)) (c3 : StC (84 + 1 + 1 + 3 * w) σ hc2) (c4 : KP (FKc w) hc hc2) (r1 : hr'.1 0 63 = nI (min (u + 1) 40)) (r3 : ∀ k, k < 40 → hr'.1 45 (40 * (min (u + 1) 40 - 1) + k) = hr.1 43 k) (r4 : ∀ m k, m + 1 < min (u + 1) 40 → k < 40 → hr'.1 45 (40 * m + k) = hr.1 45 (40 * (if u = 40 then m + 1 else m) + k)) (kc : KP (fun p _ => 84 ≤ p ∧ p ≤ 205) hc2 hc') : iUndo n T hc' hr' :=
  iUndo_fr (Nat.le_refl n) (kc.mono (fun p k z => by unfold FuC at z; omega)) KP.rfl (iUndo_push sw sr hu hw e c1 c2 c3 c4 r1 r3 r4)
theorem push_all {n : Nat} {T : TX} {σ : ST} {s t : Nat} {Lp Lw : LawT} {hc hr : PH} (C : CL n T σ s t Lp Lw hc hr) (iu : iUndo n T hc hr) : ∃ hc2, c_X5_keep 84 78 hc = some hc2 ∧ StC 78 σ hc2 ∧ KP (fun p _ => ¬ (84 ≤ p ∧ p ≤ 205)) hc hc2 ∧ ∀ hr6, KP SR hr hr6 → ∃ hr', c_X12_keeps hr6 = some hr' ∧ (∀ k, k < 40 → hr'.1 43 k = hr6.1 44 k) ∧ KP MR hr hr' ∧ ∀ hc', KP (fun p _ => 84 ≤ p ∧ p ≤ 205) hc2 hc' → iUndo n T hc' hr' := by
  obtain ⟨u, w, hu, hw, a, b, c, e⟩ := iu
  have C0 := C.cor
  obtain ⟨hc2, e2, k1, k2, k3, k4⟩ := keepC_ok hu hw a c C0.sc
  refine ⟨hc2, e2, C0.sc.fr (k4.mono (fun p k z => by unfold FKc; omega)), k4.mono (fun p k z => by unfold FKc; omega), fun hr6 kr => ?_⟩
  have b6 : hr6.1 0 63 = nI u := (kr.i (by unfold SR; omega)).trans b
  obtain ⟨hr', e', r1, r2, r3, r4, r5⟩ := keepsR_ok hu b6
  refine ⟨hr', e', r2, (kr.mono (fun p k z => z.1)).trans (r5.mono (fun p k z => by unfold MR at z; unfold FKr; exact z.2)), fun hc' kc => ?_⟩
  exact iUndo_push2 (hc := hc) (hr := hr6) C0.swf (C0.sr.fr (kr.mono (fun p k z => by unfold SR; omega))) hu hw (fun j hj => by
    obtain ⟨τ, t1, t2, t3⟩ := e j hj
    exact ⟨τ, t1, t2, t3.fr (kr.mono (fun p k z => by unfold SR; omega))⟩) k1 k2 k3 k4 r1 r3 r4 kc
theorem ownsC {σ : ST} {p e : Nat} {h : PH} (x : StC p σ h) (ho : σ.owned < 128) (he : e < 9) : c_X8_owns p (nI e) h = some (if σ.owned.testBit e = true then 1 else 0) := by
  unfold c_X8_owns
  rw [x.owned, b_get (by omega) he]
  cases σ.owned.testBit e <;> rfl
theorem hasR {σ : ST} {e : Nat} {h : PH} (x : StR 43 0 σ h) (ho : σ.owned < 128) (he : e < 9) : c_X12_hasNow (nI e) h = some (if σ.owned.testBit e = true then 1 else 0) := by
  have g : h.1 43 3 = nI σ.owned := x.owned
  unfold c_X12_hasNow
  rw [g, b_get (by omega) he]
theorem coin_le {n : Nat} {T : TX} {σ : ST} (sw : ST.wf (60 * n) T 0 σ) (hn : n < 600) : σ.coins < 2 ^ 30 := by have := sw.coins; omega
theorem buy_ok {n : Nat} {T : TX} {σ : ST} {s t : Nat} {Lp Lw : LawT} {hc hr : PH} (C : CL n T σ s t Lp Lw hc hr) (iu : iUndo n T hc hr) (hn : n < 600) (a1 : Int32) : ∃ (v : Int32) (hc' hr' : PH), c_X11_buy a1 hc = some (v, hc') ∧ c_X12_buy a1 hr = some (v, hr') ∧ Mut n T t hc hr hc' hr' := by
  have C0 := C.cor
  have w3 := C0.twf.exc; have s2 := C0.s2; have t2 := C0.t2
  have no := Mut_no C iu
  unfold c_X11_buy c_X12_buy
  simp only [nm, C0.txt, gdT C0.t2]
  rcases isExc_cases C0.twf C0.s2 C0.live C0.xc C0.xr a1 with ⟨e, he, rfl, e1, e2⟩ | ⟨e1, e2⟩
  · have cl := coin_le C0.swf hn
    have pr := C0.twf.price e he
    have ow := C0.swf.owned
    have g1 : hr.1 43 1 = nI σ.coins := C0.sr.coins
    simp (disch := omega) only [nm, gdt, ixOK_nI, nI_clamp, nI_mul9, nI_mul7, nI_mul5, nI_mul6, nI_a4, nI_a13, nI_a22, nI_a31, nI_add, nI_1, Option.bind_some, one_ne0, if_false, if_true, e1, e2, C0.live, C0.xr.price e he, C0.xc.price e he, ownsC C0.sc ow, hasR C0.sr ow, if_0, if_1, C0.sc.coins, g1, nI_leI]
    by_cases q : σ.owned.testBit e = true
    · rw [if_neg (fun z => z q), if_pos q]; exact ⟨-2, hc, hr, rfl, rfl, no⟩
    rw [if_pos q, if_neg q]
    by_cases q2 : T.price e ≤ σ.coins
    · rw [if_pos q2, if_pos q2]
      obtain ⟨hc2, c1, c2, c3, c4⟩ := push_all C iu
      obtain ⟨h3, r1, l3, x3, r3, n3, s3, L3, k3⟩ := copies2 C
      rw [c1, r1, Option.bind_some, Option.bind_some, c2.coins, pk_sub q2]
      have u0 : h3.1 44 3 = nI σ.owned := r3.owned
      have u1 : h3.1 44 1 = nI σ.coins := r3.coins
      have v1 : (setI h3 44 3 (nI (σ.owned ||| 2 ^ e))).1 44 1 = nI σ.coins := by rw [setI_ne (by omega)]; exact u1
      have v3 : (setI hc2 78 1 (nI (σ.coins - T.price e))).1 78 3 = nI σ.owned := by rw [setI_ne (by omega)]; exact c2.owned
      rw [u0, v3, b_shl (by omega), b_or, v1, pk_sub q2]
      have kr6 : KP SR hr (setI (setI h3 44 3 (nI (σ.owned ||| 2 ^ e))) 44 1 (nI (σ.coins - T.price e))) := ((k3.mono (fun q k z => SR_44 z)).trans (KP.setI (fun z => by unfold SR at z; omega))).trans (KP.setI (fun z => by unfold SR at z; omega))
      obtain ⟨hr', p1, p2, p3, p4⟩ := c4 _ kr6
      rw [p1, Option.bind_some]
      refine ⟨nI (σ.coins - T.price e), setI (setI hc2 78 1 (nI (σ.coins - T.price e))) 78 3 (nI (σ.owned ||| 2 ^ e)), hr', ?_, ?_, ?_⟩
      · rw [setI_ne (by omega), setI_eq]
      · rw [p2 1 (by omega), setI_eq]
      · have kc : KP (fun p _ => ¬ (p = 78)) hc2 (setI (setI hc2 78 1 (nI (σ.coins - T.price e))) 78 3 (nI (σ.owned ||| 2 ^ e))) := (KP.setI (fun z => z rfl)).trans (KP.setI (fun z => z rfl))
        refine ⟨ST.mk σ.today (σ.coins - T.price e) σ.hours (σ.owned ||| 2 ^ e) σ.out σ.plan σ.trust, ?_, ?_, ?_, ?_, ?_, p3⟩
        · have sw := C0.swf
          refine ST.wf.mk (by show σ.today ≤ _; have := sw.today; omega) (by show σ.coins - T.price e ≤ _; have := sw.coins; omega) (Nat.or_lt_two_pow (n := 7) ow (Nat.pow_lt_pow_right (a := 2) (n := 7) (by decide) (by omega))) sw.out sw.out0 sw.out1 sw.plan sw.planT sw.trust
        · apply StC.set
          · rw [setI_ne (by omega), setI_ne (by omega)]; exact c2.today
          · rw [setI_ne (by omega), setI_eq]; rfl
          · rw [setI_ne (by omega), setI_ne (by omega)]; exact c2.hours
          · rw [setI_eq]; rfl
          · rw [setI_ne (by omega), setI_ne (by omega)]; exact c2.freed
          · rw [setI_ne (by omega), setI_ne (by omega)]; exact c2.caught
          · rw [setI_ne (by omega), setI_ne (by omega)]; exact c2.done
          · intro a ha; rw [setI_ne (by omega), setI_ne (by omega)]; exact c2.trust a ha
          · intro a ha; rw [setI_ne (by omega), setI_ne (by omega)]; exact c2.plan a ha
        · refine StR.mv (q := 44) (o := 0) (fun k hk => by rw [Nat.zero_add]; exact p2 k hk) ?_
          apply StR.set
          · rw [setI_ne (by omega), setI_ne (by omega)]; exact r3.today
          · rw [setI_eq]; rfl
          · rw [setI_ne (by omega), setI_ne (by omega)]; exact r3.hours
          · rw [setI_ne (by omega), setI_eq]; rfl
          · intro d hd; rw [setI_ne (by omega), setI_ne (by omega)]; exact r3.plan0 hd
          · intro d hd; rw [setI_ne (by omega), setI_ne (by omega)]; exact r3.out0 hd
          · intro d hd; rw [setI_ne (by omega), setI_ne (by omega)]; exact r3.told0 hd
          · intro d hd; rw [setI_ne (by omega), setI_ne (by omega)]; exact r3.trust0 hd
        · exact iUndo_fr (Nat.le_succ n) KP.rfl KP.rfl (p4 _ (kc.mono (fun p k z => by omega)))
        · exact (c3.mono (fun p k z => z.2.2)).trans (kc.mono (fun p k z => by unfold MC at z; omega))
    · rw [if_neg q2, if_neg q2]; exact ⟨-2, hc, hr, rfl, rfl, no⟩
  · rw [e1, e2]
    exact ⟨-1, hc, hr, rfl, rfl, no⟩
theorem sell_ok {n : Nat} {T : TX} {σ : ST} {s t : Nat} {Lp Lw : LawT} {hc hr : PH} (C : CL n T σ s t Lp Lw hc hr) (iu : iUndo n T hc hr) (hn : n < 600) (a1 : Int32) : ∃ (v : Int32) (hc' hr' : PH), c_X11_sell a1 hc = some (v, hc') ∧ c_X12_sell a1 hr = some (v, hr') ∧ Mut n T t hc hr hc' hr' := by
  have C0 := C.cor
  have w3 := C0.twf.exc; have s2 := C0.s2; have t2 := C0.t2
  have no := Mut_no C iu
  unfold c_X11_sell c_X12_sell
  simp only [nm, C0.txt, gdT C0.t2]
  rcases isExc_cases C0.twf C0.s2 C0.live C0.xc C0.xr a1 with ⟨e, he, rfl, e1, e2⟩ | ⟨e1, e2⟩
  · have cl := coin_le C0.swf hn
    have pr := C0.twf.price e he
    have ow := C0.swf.owned
    simp (disch := omega) only [nm, gdt, ixOK_nI, nI_clamp, nI_mul9, nI_mul7, nI_mul5, nI_mul6, nI_a4, nI_a13, nI_a22, nI_a31, nI_add, nI_1, Option.bind_some, one_ne0, if_false, if_true, e1, e2, ownsC C0.sc ow, hasR C0.sr ow, if_0, if_1]
    by_cases q : σ.owned.testBit e = true
    · rw [if_neg (fun z => z q), if_neg (fun z => z q)]
      obtain ⟨hc2, c1, c2, c3, c4⟩ := push_all C iu
      obtain ⟨h3, r1, l3, x3, r3, n3, s3, L3, k3⟩ := copies2 C
      have c2t : hc2.2.2 0 4 = t := (c3.r (by omega)).trans C0.txt
      have c2x : TxC t T hc2 := C0.xc.fr C0.twf (c3.mono (fun p k z => by unfold FxC at z; omega))
      have u0 : h3.1 44 3 = nI σ.owned := r3.owned
      rw [c1, r1, Option.bind_some, Option.bind_some, u0, clr_ok (by omega) (by omega)]
      have k4 : KP (fun p _ => p ≠ 44) h3 (setI h3 44 3 (nI (clrB σ.owned e))) := KP.setI (fun z => z rfl)
      have l4 : (setI h3 44 3 (nI (clrB σ.owned e))).1 0 18 = nI s := (k4.i (by omega)).trans l3
      have x4 : TxR s T (setI h3 44 3 (nI (clrB σ.owned e))) := x3.fr (k4.mono (fun p k z => by unfold FxR at z; omega))
      have u1 : (setI h3 44 3 (nI (clrB σ.owned e))).1 44 1 = nI σ.coins := by rw [setI_ne (by omega)]; exact r3.coins
      have dv : nI (T.price e) / 2 = nI (T.price e / 2) := pk_div (d := 2) (by omega) (by omega) (by omega)
      simp (disch := omega) only [nm, gdt, ixOK_nI, nI_clamp, nI_mul9, nI_mul7, nI_mul5, nI_mul6, nI_a4, nI_a13, nI_a22, nI_a31, nI_add, nI_1, Option.bind_some, one_ne0, if_false, if_true, c2t, gdT C0.t2, l4, c2.coins, c2x.price e he, dv, x4.price e he, u1]
      have v3 : (setI hc2 78 1 (nI (σ.coins + T.price e / 2))).1 78 3 = nI σ.owned := by rw [setI_ne (by omega)]; exact c2.owned
      rw [v3, clr_ok (by omega) (by omega)]
      have kr6 : KP SR hr (setI (setI h3 44 3 (nI (clrB σ.owned e))) 44 1 (nI (σ.coins + T.price e / 2))) := ((k3.mono (fun q k z => SR_44 z)).trans (KP.setI (fun z => by unfold SR at z; omega))).trans (KP.setI (fun z => by unfold SR at z; omega))
      obtain ⟨hr', p1, p2, p3, p4⟩ := c4 _ kr6
      rw [p1, Option.bind_some]
      refine ⟨nI (σ.coins + T.price e / 2), setI (setI hc2 78 1 (nI (σ.coins + T.price e / 2))) 78 3 (nI (clrB σ.owned e)), hr', ?_, ?_, ?_⟩
      · rw [setI_ne (by omega), setI_eq]
      · rw [p2 1 (by omega), setI_eq]
      · have kc : KP (fun p _ => ¬ (p = 78)) hc2 (setI (setI hc2 78 1 (nI (σ.coins + T.price e / 2))) 78 3 (nI (clrB σ.owned e))) := (KP.setI (fun z => z rfl)).trans (KP.setI (fun z => z rfl))
        refine ⟨ST.mk σ.today (σ.coins + T.price e / 2) σ.hours (clrB σ.owned e) σ.out σ.plan σ.trust, ?_, ?_, ?_, ?_, ?_, p3⟩
        · have sw := C0.swf
          have := clr_le σ.owned e
          refine ST.wf.mk (by show σ.today ≤ _; have := sw.today; omega) (by show σ.coins + T.price e / 2 ≤ _; have := sw.coins; omega) (by show clrB σ.owned e < 128; omega) sw.out sw.out0 sw.out1 sw.plan sw.planT sw.trust
        · apply StC.set
          · rw [setI_ne (by omega), setI_ne (by omega)]; exact c2.today
          · rw [setI_ne (by omega), setI_eq]; rfl
          · rw [setI_ne (by omega), setI_ne (by omega)]; exact c2.hours
          · rw [setI_eq]; rfl
          · rw [setI_ne (by omega), setI_ne (by omega)]; exact c2.freed
          · rw [setI_ne (by omega), setI_ne (by omega)]; exact c2.caught
          · rw [setI_ne (by omega), setI_ne (by omega)]; exact c2.done
          · intro a ha; rw [setI_ne (by omega), setI_ne (by omega)]; exact c2.trust a ha
          · intro a ha; rw [setI_ne (by omega), setI_ne (by omega)]; exact c2.plan a ha
        · refine StR.mv (q := 44) (o := 0) (fun k hk => by rw [Nat.zero_add]; exact p2 k hk) ?_
          apply StR.set
          · rw [setI_ne (by omega), setI_ne (by omega)]; exact r3.today
          · rw [setI_eq]; rfl
          · rw [setI_ne (by omega), setI_ne (by omega)]; exact r3.hours
          · rw [setI_ne (by omega), setI_eq]; rfl
          · intro d hd; rw [setI_ne (by omega), setI_ne (by omega)]; exact r3.plan0 hd
          · intro d hd; rw [setI_ne (by omega), setI_ne (by omega)]; exact r3.out0 hd
          · intro d hd; rw [setI_ne (by omega), setI_ne (by omega)]; exact r3.told0 hd
          · intro d hd; rw [setI_ne (by omega), setI_ne (by omega)]; exact r3.trust0 hd
        · exact iUndo_fr (Nat.le_succ n) KP.rfl KP.rfl (p4 _ (kc.mono (fun p k z => by omega)))
        · exact (c3.mono (fun p k z => z.2.2)).trans (kc.mono (fun p k z => by unfold MC at z; omega))
    · rw [if_pos q, if_pos q]; exact ⟨-2, hc, hr, rfl, rfl, no⟩
  · rw [e1, e2]
    exact ⟨-1, hc, hr, rfl, rfl, no⟩
