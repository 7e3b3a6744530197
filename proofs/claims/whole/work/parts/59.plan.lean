def updZ (f : Nat → Int32) (k : Nat) (v : Int32) : Nat → Int32 := fun x => if x = k then v else f x
theorem updZ_eq (f : Nat → Int32) (k : Nat) (v : Int32) : updZ f k v k = v := if_pos rfl
theorem updZ_ne {f : Nat → Int32} {k x : Nat} {v : Int32} (h : ¬ x = k) : updZ f k v x = f x := if_neg h
theorem plan_do {n : Nat} {T : TX} {σ : ST} {s t : Nat} {Lp Lw : LawT} {hc hr : PH} (C : CL n T σ s t Lp Lw hc hr) (iu : iUndo n T hc hr) {d : Nat} (hd : d < T.dut) (h0 : σ.out d = 0) {v : Int32} (hv : v = -2 ∨ ∃ e, e < T.exc ∧ v = nI e) (K : Int32) : ∃ (hc' hr' : PH), ((c_X5_keep 84 78 hc).bind fun h6 => gd (ixOK (nI d) 9) <| nm (setI h6 (78 + 2) (nI d).toNatClampNeg v) fun h7 => some (K, h7)) = some (K, hc') ∧ ((c_X12_copies hr).bind fun h3 => gd (ixOK (4 + nI d) 40) <| nm (setI h3 44 (4 + nI d).toNatClampNeg v) fun h4 => (c_X12_keeps h4).bind fun h5 => some (K, h5)) = some (K, hr') ∧ Mut n T t hc hr hc' hr' := by
  have C0 := C.cor
  have w2 := C0.twf.dut; have t2 := C0.t2
  obtain ⟨hc2, c1, c2, c3, c4⟩ := push_all C iu
  obtain ⟨h3, r1, l3, x3, r3, n3, s3, L3, k3⟩ := copies2 C
  rw [c1, r1]
  simp (disch := omega) only [nm, gdt, ixOK_nI, nI_clamp, nI_mul9, nI_mul7, nI_mul5, nI_mul6, nI_a4, nI_a13, nI_a22, nI_a31, nI_add, nI_1, Option.bind_some, one_ne0, if_false, if_true]
  have kr6 : KP SR hr (setI h3 44 (4 + d) v) := (k3.mono (fun q k z => SR_44 z)).trans (KP.setI (fun z => by unfold SR at z; omega))
  obtain ⟨hr', p1, p2, p3, p4⟩ := c4 _ kr6
  rw [p1, Option.bind_some]
  refine ⟨_, hr', rfl, rfl, ?_⟩
  have kc : KP (fun p _ => ¬ (p = 80)) hc2 (setI hc2 (78 + 2) d v) := KP.setI (fun z => z rfl)
  refine ⟨ST.mk σ.today σ.coins σ.hours σ.owned σ.out (updZ σ.plan d v) σ.trust, ?_, ?_, ?_, ?_, ?_, p3⟩
  · have sw := C0.swf
    refine ST.wf.mk (by show σ.today ≤ _; have := sw.today; omega) (by show σ.coins ≤ _; have := sw.coins; omega) sw.owned sw.out sw.out0 sw.out1 (fun x hx => ?_) (fun x hx hq => ?_) sw.trust
    · show updZ σ.plan d v x = -2 ∨ ∃ e, e < T.exc ∧ updZ σ.plan d v x = nI e
      by_cases q : x = d
      · rw [q, updZ_eq]; exact hv
      · rw [updZ_ne q]; exact sw.plan x hx
    · show ∃ e, e < T.exc ∧ updZ σ.plan d v x = nI e
      have hq : σ.out x = 1 ∨ σ.out x = 2 := hq
      by_cases q : x = d
      · rw [q, h0] at hq; omega
      · rw [updZ_ne q]; exact sw.planT x hx hq
  · apply StC.set
    · rw [setI_ne (by omega)]; exact c2.today
    · rw [setI_ne (by omega)]; exact c2.coins
    · rw [setI_ne (by omega)]; exact c2.hours
    · rw [setI_ne (by omega)]; exact c2.owned
    · rw [setI_ne (by omega)]; exact c2.freed
    · rw [setI_ne (by omega)]; exact c2.caught
    · rw [setI_ne (by omega)]; exact c2.done
    · intro a ha; rw [setI_ne (by omega)]; exact c2.trust a ha
    · intro a ha
      show _ = updZ σ.plan d v a
      by_cases q : a = d
      · subst q; rw [setI_eq, updZ_eq]
      · rw [setI_ne (by omega), updZ_ne q]; exact c2.plan a ha
  · refine StR.mv (q := 44) (o := 0) (fun k hk => by rw [Nat.zero_add]; exact p2 k hk) ?_
    apply StR.set
    · rw [setI_ne (by omega)]; exact r3.today
    · rw [setI_ne (by omega)]; exact r3.coins
    · rw [setI_ne (by omega)]; exact r3.hours
    · rw [setI_ne (by omega)]; exact r3.owned
    · intro a ha
      show _ = updZ σ.plan d v a
      by_cases q : a = d
      · subst q; rw [setI_eq, updZ_eq]
      · rw [setI_ne (by omega), updZ_ne q]; exact r3.plan0 ha
    · intro a ha; rw [setI_ne (by omega)]; exact r3.out0 ha
    · intro a ha; rw [setI_ne (by omega), r3.told0 ha]
      unfold toldP
      show (if σ.out a = 1 ∨ σ.out a = 2 then σ.plan a else -2) = if σ.out a = 1 ∨ σ.out a = 2 then updZ σ.plan d v a else -2
      by_cases q : a = d
      · rw [q, h0, if_neg (by omega), if_neg (by omega)]
      · rw [updZ_ne q]
    · intro a ha; rw [setI_ne (by omega)]; exact r3.trust0 ha
  · exact iUndo_fr (Nat.le_succ n) KP.rfl KP.rfl (p4 _ (kc.mono (fun p k z => by omega)))
  · exact (c3.mono (fun p k z => z.2.2)).trans (kc.mono (fun p k z => by unfold MC at z; omega))
theorem plan_ok {n : Nat} {T : TX} {σ : ST} {s t : Nat} {Lp Lw : LawT} {hc hr : PH} (C : CL n T σ s t Lp Lw hc hr) (iu : iUndo n T hc hr) (a1 a2 : Int32) : ∃ (v : Int32) (hc' hr' : PH), c_X11_plan a1 a2 hc = some (v, hc') ∧ c_X12_plan a1 a2 hr = some (v, hr') ∧ Mut n T t hc hr hc' hr' := by
  have C0 := C.cor
  have w2 := C0.twf.dut; have w3 := C0.twf.exc; have s2 := C0.s2; have t2 := C0.t2
  have no := Mut_no C iu
  have ow := C0.swf.owned
  unfold c_X11_plan c_X12_plan
  simp only [nm, C0.txt, gdT C0.t2]
  rcases isDut_cases C0.twf C0.s2 C0.live C0.xc C0.xr a1 with ⟨d, hd, rfl, e1, e2⟩ | ⟨e1, e2⟩
  · have o3 := C0.swf.out d (by omega)
    have ov := isOver_ok C0.sc (show d < 9 by omega) o3
    rw [e1, e2, ov]
    simp only [Option.bind_some, one_ne0, if_false, if_1, if_0]
    have g13 : hr.1 43 (13 + d) = nI (σ.out d) := C0.sr.out0 (by omega)
    have g4 : hr.1 43 (4 + d) = σ.plan d := C0.sr.plan0 (by omega)
    have oz : nI (σ.out d) = 0 ↔ σ.out d = 0 := nI_eq (b := 0) (by omega) (by omega)
    by_cases q0 : σ.out d = 0
    · have cz : (if σ.out d = 0 then (0 : Int32) else 1) = 0 := if_pos q0
      rw [if_pos cz]
      have h13 : hr.1 43 (13 + d) = 0 := by rw [g13, q0]; rfl
      by_cases q1 : a2 = -1
      · subst q1
        rw [if_pos rfl, if_pos rfl]
        unfold c_X11_plan_j34 c_X12_plan_j21 c_X11_plan_j73 c_X12_plan_j46
        simp (disch := omega) only [nm, gdt, ixOK_nI, nI_clamp, nI_mul9, nI_mul7, nI_mul5, nI_mul6, nI_a4, nI_a13, nI_a22, nI_a31, nI_add, nI_1, Option.bind_some, one_ne0, if_false, if_true, h13, g4, eq_self]
        rw [C0.sc.plan d (by omega)]
        by_cases q2 : σ.plan d = -2
        · rw [if_pos q2, if_pos q2]; exact ⟨0, hc, hr, rfl, rfl, no⟩
        · rw [if_neg q2, if_neg q2, if_pos m1_neg]
          obtain ⟨hc', hr', x1, x2, x3⟩ := plan_do C iu hd q0 (v := -2) (Or.inl rfl) 1
          simp (disch := omega) only [nm, gdt, ixOK_nI, nI_clamp, nI_mul9, nI_mul7, nI_mul5, nI_mul6, nI_a4, nI_a13, nI_a22, nI_a31, nI_add, nI_1, Option.bind_some, one_ne0, if_false, if_true] at x1 x2
          exact ⟨1, hc', hr', x1, x2, x3⟩
      · rw [if_neg q1, if_neg q1]
        unfold c_X11_plan_j34
        rcases isExc_cases C0.twf C0.s2 C0.live C0.xc C0.xr a2 with ⟨e, he, rfl, f1, f2⟩ | ⟨f1, f2⟩
        · unfold c_X12_plan_j21 c_X11_plan_j73 c_X12_plan_j46
          simp (disch := omega) only [nm, gdt, ixOK_nI, nI_clamp, nI_mul9, nI_mul7, nI_mul5, nI_mul6, nI_a4, nI_a13, nI_a22, nI_a31, nI_add, nI_1, Option.bind_some, one_ne0, if_false, if_true, C0.txt, gdT C0.t2, f1, f2, h13, g4, q1, ownsC C0.sc ow, hasR C0.sr ow, if_0, eq_self]
          rw [C0.sc.plan d (by omega), if_neg (c := nI e < 0) (nI_pos (by omega))]
          by_cases q2 : σ.plan d = nI e
          · refine ⟨0, hc, hr, ?_, by rw [if_pos q2], no⟩
            by_cases q3 : σ.owned.testBit e = true
            · rw [if_neg (show ¬ ¬ σ.owned.testBit e = true from fun z => z q3), if_pos q2]
            · rw [if_pos q3]
          · by_cases q3 : σ.owned.testBit e = true
            · obtain ⟨hc', hr', x1, x2, x3⟩ := plan_do C iu hd q0 (v := nI e) (Or.inr ⟨e, he, rfl⟩) 1
              simp (disch := omega) only [nm, gdt, ixOK_nI, nI_clamp, nI_mul9, nI_mul7, nI_mul5, nI_mul6, nI_a4, nI_a13, nI_a22, nI_a31, nI_add, nI_1, Option.bind_some, one_ne0, if_false, if_true] at x1 x2
              exact ⟨1, hc', hr', by rw [if_neg (show ¬ ¬ σ.owned.testBit e = true from fun z => z q3), if_neg q2]; exact x1, by rw [if_neg q2, if_neg (show ¬ ¬ σ.owned.testBit e = true from fun z => z q3)]; exact x2, x3⟩
            · exact ⟨0, hc, hr, by rw [if_pos q3], by rw [if_neg q2, if_pos q3], no⟩
        · simp only [nm, C0.txt, gdT C0.t2, f1, f2, Option.bind_some, if_true]
          exact ⟨0, hc, hr, rfl, rfl, no⟩
    · have cz : ¬ (if σ.out d = 0 then (0 : Int32) else 1) = 0 := by rw [if_neg q0]; decide
      rw [if_neg cz]
      have rz : c_X12_plan_j21 (nI d) a2 hr = some (0, hr) := by
        unfold c_X12_plan_j21
        have h13 : ¬ hr.1 43 (13 + d) = 0 := by rw [g13]; exact fun z => q0 (oz.mp z)
        simp (disch := omega) only [nm, gdt, ixOK_nI, nI_clamp, nI_mul9, nI_mul7, nI_mul5, nI_mul6, nI_a4, nI_a13, nI_a22, nI_a31, nI_add, nI_1, Option.bind_some, one_ne0, if_false, if_true, h13]
      rw [rz]
      by_cases q1 : a2 = -1
      · rw [if_pos q1]; exact ⟨0, hc, hr, rfl, rfl, no⟩
      · rw [if_neg q1]
        refine ⟨0, hc, hr, rfl, ?_, no⟩
        rcases isExc_cases C0.twf C0.s2 C0.live C0.xc C0.xr a2 with ⟨e, he, rfl, f1, f2⟩ | ⟨f1, f2⟩
        · rw [f2]; rfl
        · rw [f2]; rfl
  · rw [e1, e2]
    exact ⟨0, hc, hr, rfl, rfl, no⟩
theorem days_ok {n : Nat} {T : TX} {σ : ST} {s t : Nat} {Lp Lw : LawT} {hc hr : PH} (C : CL n T σ s t Lp Lw hc hr) (iu : iUndo n T hc hr) (hn : n < 600) (a1 : Int32) : ∃ (v : Int32) (hc' hr' : PH), c_X11_days a1 hc = some (v, hc') ∧ c_X12_days a1 hr = some (v, hr') ∧ Mut n T t hc hr hc' hr' := by
  have C0 := C.cor
  have t2 := C0.t2
  have no := Mut_no C iu
  have g0 : hr.1 43 0 = nI σ.today := C0.sr.today
  unfold c_X11_days c_X12_days
  rw [X12_in, Option.bind_some, if10]
  by_cases q2 : a1 < 0
  · rw [if_pos q2, if_neg (fun z => absurd z.1 (Int32.not_le.mpr q2))]
    exact ⟨-1, hc, hr, rfl, rfl, no⟩
  rw [if_neg q2]
  by_cases q3 : a1 ≤ 60
  · rw [if_pos q3, if_pos (show 0 ≤ a1 ∧ a1 ≤ 60 from ⟨Int32.not_lt.mp q2, q3⟩)]
    obtain ⟨m, hm, rfl⟩ := nI_of q2
    have m60 : m ≤ 60 := (nI_leI (b := 60) hm (by omega)).mp q3
    rw [ite_cg (show nI m ≤ 0 ↔ m ≤ 0 from nI_leI (b := 0) (by omega) (by omega)), ite_cg (show nI m = 0 ↔ m = 0 from nI_eq (b := 0) (by omega) (by omega))]
    by_cases q0 : m = 0
    · rw [if_pos (by omega), if_pos q0, C0.sc.today, g0]
      exact ⟨_, hc, hr, rfl, rfl, no⟩
    rw [if_neg (by omega), if_neg q0]
    obtain ⟨hc2, c1, c2, c3, c4⟩ := push_all C iu
    obtain ⟨h3, r1, l3, x3, r3, n3, s3, L3, k3⟩ := copies2 C
    have c2t : hc2.2.2 0 4 = t := (c3.r (by omega)).trans C0.txt
    have c2x : TxC t T hc2 := C0.xc.fr C0.twf (c3.mono (fun p k z => by unfold FxC at z; omega))
    have c2L : LawsC t Lp Lw hc2 := C.lc.fr (c3.mono (fun p k z => by unfold FxC at z; omega))
    obtain ⟨hc', d1, d2, d3⟩ := goC_ok C0.twf C0.swf c2x c2 c2L C.cp C.cw (Or.inl rfl) t2 (show 60 * n < 100000 by omega) m60 T.seed
    obtain ⟨h5, e1, e2, e3⟩ := goR_ok C0.twf C0.swf C0.s2 l3 x3 r3 L3 C.cp C.cw (show 60 * n < 100000 by omega) m60
    rw [s3] at e2
    have kr6 : KP SR hr h5 := (k3.mono (fun q k z => SR_44 z)).trans (e3.mono (fun q k z => SR_g z))
    obtain ⟨hr', p1, p2, p3, p4⟩ := c4 _ kr6
    rw [c1, r1]
    simp only [nm, Option.bind_some, c2t, gdT C0.t2, c2x.seed, d1, e1, p1, d2.today]
    refine ⟨_, hc', hr', rfl, ?_, goS T Lp Lw T.seed m σ, wf_up (by omega) (wf_go C0.swf C0.twf m), d2, e2.mv (fun k hk => by rw [Nat.zero_add]; exact p2 k hk), iUndo_fr (Nat.le_succ n) KP.rfl KP.rfl (p4 _ (d3.mono (fun p k z => by unfold FGo; omega))), (c3.mono (fun p k z => z.2.2)).trans (d3.mono (fun p k z => by unfold MC SC at z; unfold FGo; omega)), p3⟩
    rw [p2 0 (by omega)]
    exact congrArg (fun z => some (z, hr')) e2.today
  · rw [if_neg q3, if_neg (fun z => q3 z.2)]
    exact ⟨-1, hc, hr, rfl, rfl, no⟩
theorem undo_ok {n : Nat} {T : TX} {σ : ST} {s t : Nat} {Lp Lw : LawT} {hc hr : PH} (C : CL n T σ s t Lp Lw hc hr) (iu : iUndo n T hc hr) : ∃ (v : Int32) (hc' hr' : PH), c_X11_undo hc = some (v, hc') ∧ c_X12_undo hr = some (v, hr') ∧ Mut n T t hc hr hc' hr' := by
  have C0 := C.cor
  have t2 := C0.t2
  have no := Mut_no C iu
  obtain ⟨u, w, hu, hw, a, b, c, e⟩ := iu
  unfold c_X11_undo c_X12_undo c_X5_takeBack
  rw [a, b, ite_cg (show nI u = 0 ↔ u = 0 from nI_eq (b := 0) (by omega) (by omega)), ite_cg (show nI u = 0 ↔ u = 0 from nI_eq (b := 0) (by omega) (by omega))]
  by_cases q0 : u = 0
  · rw [if_pos q0, if_pos q0]
    exact ⟨0, hc, hr, rfl, rfl, no⟩
  rw [if_neg q0, if_neg q0]
  obtain ⟨τ, t1, t3, t4⟩ := e 0 (by omega)
  have nx : (if nI w ≤ 0 then c_X5_takeBack_j28 84 78 39 hc else c_X5_takeBack_j28 84 78 (nI w - 1) hc) = c_X5_takeBack_j28 84 78 (nI ((w + 39) % 40)) hc := by
    rw [ite_cg (show nI w ≤ 0 ↔ w ≤ 0 from nI_leI (b := 0) (by omega) (by omega))]
    by_cases z : w = 0
    · rw [if_pos (by omega), z]; rfl
    · rw [if_neg (by omega), show (w + 39) % 40 = w - 1 by omega]
      have : nI w - 1 = nI (w - 1) := by
        have := nI_pred (w - 1)
        rwa [show w - 1 + 1 = w by omega] at this
      rw [this]
  rw [c, nx]
  unfold c_X5_takeBack_j28
  have kh : KP (fun p k => ¬ (p = 84 ∧ (k = 1 ∨ k = 2))) hc (setI (setI hc 84 1 (nI ((w + 39) % 40))) 84 2 (nI (u - 1))) := (KP.setI (fun z => z ⟨rfl, Or.inl rfl⟩)).trans (KP.setI (fun z => z ⟨rfl, Or.inr rfl⟩))
  have v2 : (setI hc 84 1 (nI ((w + 39) % 40))).1 84 2 = nI u := by rw [setI_ne (by omega)]; exact a
  have um : nI u - 1 = nI (u - 1) := by
    have := nI_pred (u - 1)
    rwa [show u - 1 + 1 = u by omega] at this
  simp only [nm, v2, um]
  have w1 : (setI (setI hc 84 1 (nI ((w + 39) % 40))) 84 2 (nI (u - 1))).1 84 1 = nI ((w + 39) % 40) := by rw [setI_ne (by omega), setI_eq]
  have w2 : (setI (setI hc 84 1 (nI ((w + 39) % 40))) 84 2 (nI (u - 1))).1 84 2 = nI (u - 1) := setI_eq _ _ _ _
  generalize setI (setI hc 84 1 (nI ((w + 39) % 40))) 84 2 (nI (u - 1)) = h2 at kh w1 w2
  rw [w1, gdI (by omega) (by omega), nI_clamp (by omega)]
  have t3' : StC (84 + 1 + 1 + 3 * ((w + 39) % 40)) τ h2 := t3.fr (kh.mono (fun p k z => by omega))
  obtain ⟨hc', x1, x2, x3⟩ := copyC_ok (p := 78) t3' (by omega)
  rw [x1, Option.bind_some]
  have kr : KP (fun p k => ¬ (p = 0 ∧ k = 63)) hr (setI hr 0 63 (nI (u - 1))) := KP.setI (fun z => z ⟨rfl, rfl⟩)
  have r0 : (setI hr 0 63 (nI (u - 1))).1 0 63 = nI (u - 1) := setI_eq _ _ _ _
  generalize setI hr 0 63 (nI (u - 1)) = h1 at kr r0
  obtain ⟨hr', y1, y2, y3⟩ := for_h (B := c_X12_undo_L21b (fun h5 => some (1, h5))) (K := fun h5 => some ((1 : Int32), h5)) (N := 40) (fun i y => (∀ k, k < i → y.1 43 k = h1.1 45 (40 * (u - 1) + k)) ∧ KP (fun p _ => p ≠ 43) h1 y) (by omega) (fun REC i y hi hp => by
    have ry : y.1 0 63 = nI (u - 1) := (hp.2.i (by omega)).trans r0
    have r45 : y.1 45 (40 * (u - 1) + i) = h1.1 45 (40 * (u - 1) + i) := hp.2.i (by omega)
    refine ⟨setI y 43 i (h1.1 45 (40 * (u - 1) + i)), ?_, fun k hk => ?_, hp.2.trans (KP.setI (fun q => q rfl))⟩
    · unfold c_X12_undo_L21b
      rw [if_neg (show ¬ (40 : Int32) ≤ nI i from nI_ge (b := 40) hi (by omega)), ry]
      simp (disch := omega) only [nm, nI_mul40, nI_add, gdI, nI_clamp, nI_1, r45]
    · by_cases q : k = i
      · subst q; rw [setI_eq]
      · rw [setI_ne (by omega)]; exact hp.1 k (by omega)) (fun REC y _ => by
    unfold c_X12_undo_L21b
    rw [if_pos (show (40 : Int32) ≤ nI 40 from nI_le (a := 40) (b := 40) (by omega) (by omega))]) h1 ⟨fun k hk => absurd hk (by omega), KP.rfl⟩
  rw [y1]
  refine ⟨1, hc', hr', rfl, rfl, τ, wf_up (by omega) t1, x2, ?_, ⟨u - 1, (w + 39) % 40, by omega, by omega, (x3.i (by unfold FCp; omega)).trans w2, (y3.i (by omega)).trans r0, (x3.i (by unfold FCp; omega)).trans w1, fun j hj => ?_⟩, (kh.mono (fun p k z => by unfold MC at z; omega)).trans (x3.mono (fun p k z => z.2.1)), (kr.mono (fun p k z => z.2.2.2)).trans (y3.mono (fun p k z => z.2.1))⟩
  · refine t4.mv (fun k hk => ?_)
    rw [Nat.zero_add, y2 k hk, kr.i (by omega)]
    rfl
  · obtain ⟨ρ, s1, s2, s3⟩ := e (j + 1) (by omega)
    refine ⟨ρ, wf_up (by omega) s1, ?_, ?_⟩
    · rw [show ((w + 39) % 40 + 39 - j) % 40 = (w + 39 - (j + 1)) % 40 by omega]
      exact (s2.fr (kh.mono (fun p k z => by omega))).fr (x3.mono (fun p k z => by unfold FCp; omega))
    · rw [show u - 1 - 1 - j = u - 1 - (j + 1) by omega]
      exact (s3.fr (kr.mono (fun p k z => by omega))).fr (y3.mono (fun p k z => by omega))
def FlC (p _k : Nat) : Prop := 206 ≤ p ∧ p ≤ 216
def FlR (p _k : Nat) : Prop := p = 54 ∨ p = 55
def iSlots (n : Nat) (T : TX) (hc hr : PH) : Prop := ∀ i, i < 3 → hc.1 216 i = hr.1 54 i ∧ (hr.1 54 i ≠ 0 → ∃ σ, ST.wf (60 * n) T 0 σ ∧ StC (206 + 1 + 3 * i) σ hc ∧ StR 55 (40 * i) σ hr)
theorem iSlots_fr {n n' : Nat} {T : TX} {hc hr hc' hr' : PH} (hn : n ≤ n') (h1 : KP FlC hc hc') (h2 : KP FlR hr hr') (h : iSlots n T hc hr) : iSlots n' T hc' hr' := fun i hi => by
  obtain ⟨a, e⟩ := h i hi
  refine ⟨?_, fun hz => ?_⟩
  · rw [h1.i (by unfold FlC; omega), h2.i (Or.inl rfl), a]
  · rw [h2.i (Or.inl rfl)] at hz
    obtain ⟨σ, s1, s2, s3⟩ := e hz
    exact ⟨σ, wf_up (by omega) s1, s2.fr (h1.mono (fun q k z => by unfold FlC; omega)), s3.fr (h2.mono (fun q k z => Or.inr z.1))⟩
theorem slot_cases (a : Int32) (h : PH) : (∃ i, i < 3 ∧ a = nI i ∧ c_X11_slotAt a h = some (some (206 + 1 + 3 * i)) ∧ c_X12_in a 0 2 = some 1) ∨ (c_X11_slotAt a h = some none ∧ c_X12_in a 0 2 = some 0) := by
  unfold c_X11_slotAt
  rw [X12_in]
  by_cases q : a < 0
  · rw [if_pos q, if_neg (fun z => absurd z.1 (Int32.not_le.mpr q))]; exact Or.inr ⟨rfl, rfl⟩
  rw [if_neg q]
  obtain ⟨i, hi, rfl⟩ := nI_of q
  rw [ite_cg (show (3 : Int32) ≤ nI i ↔ 3 ≤ i from nI_leI (a := 3) (by omega) hi), ite_cg (show (0 ≤ nI i ∧ nI i ≤ 2) ↔ i ≤ 2 from ⟨fun z => (nI_leI (b := 2) hi (by omega)).mp z.2, fun z => ⟨nI_pos' hi, (nI_leI (b := 2) hi (by omega)).mpr z⟩⟩)]
  by_cases u : 3 ≤ i
  · rw [if_pos u, if_neg (by omega)]; exact Or.inr ⟨rfl, rfl⟩
  · rw [if_neg u, if_pos (by omega), gdI (by omega) (by omega), nI_clamp (by omega)]
    exact Or.inl ⟨i, by omega, rfl, rfl, rfl⟩
theorem nar1 : vp_nar .boolean 1 = 1 := by decide +kernel
theorem nar0 : vp_nar .boolean 0 = 0 := by decide +kernel
theorem hold_ok {n : Nat} {T : TX} {σ : ST} {s t : Nat} {Lp Lw : LawT} {hc hr : PH} (C : CL n T σ s t Lp Lw hc hr) (il : iSlots n T hc hr) (a1 : Int32) : ∃ (v : Int32) (hc' hr' : PH), c_X11_hold a1 hc = some (v, hc') ∧ c_X12_hold a1 hr = some (v, hr') ∧ iSlots n T hc' hr' ∧ KP (fun p k => ¬ FlC p k) hc hc' ∧ KP (fun p k => ¬ FlR p k) hr hr' := by
  have C0 := C.cor
  unfold c_X11_hold c_X12_hold
  rcases slot_cases a1 hc with ⟨i, hi, rfl, e1, e2⟩ | ⟨e1, e2⟩
  · rw [e1, e2]
    simp only [Option.bind_some, one_ne0, if_false, optc, nar1]
    obtain ⟨hc1, x1, x2, x3⟩ := copyC_ok (p := 206 + 1 + 3 * i) C0.sc (by omega)
    rw [x1, Option.bind_some]
    simp (disch := omega) only [nm, gdI, nI_clamp]
    have k1 : KP (fun p k => ¬ (p = 54 ∧ k = i)) hr (setI hr 54 i 1) := KP.setI (fun z => z ⟨rfl, rfl⟩)
    have v1 : (setI hr 54 i 1).1 54 i = 1 := setI_eq _ _ _ _
    generalize setI hr 54 i 1 = h1 at k1 v1
    obtain ⟨hr', y1, y2, y3, y4⟩ := for_h (B := c_X12_hold_L20b (nI i) (fun h5 => some (1, h5))) (K := fun h5 => some ((1 : Int32), h5)) (N := 40) (fun j y => (∀ k, k < j → y.1 55 (40 * i + k) = h1.1 43 k) ∧ (∀ k, ¬ (40 * i ≤ k ∧ k < 40 * i + 40) → y.1 55 k = h1.1 55 k) ∧ KP (fun p _ => p ≠ 55) h1 y) (by omega) (fun REC j y hj hp => by
      obtain ⟨p1, p2, p3⟩ := hp
      have r43 : y.1 43 j = h1.1 43 j := p3.i (by omega)
      refine ⟨setI y 55 (40 * i + j) (h1.1 43 j), ?_, fun k hk => ?_, fun k hk => ?_, p3.trans (KP.setI (fun q => q rfl))⟩
      · unfold c_X12_hold_L20b
        rw [if_neg (show ¬ (40 : Int32) ≤ nI j from nI_ge (b := 40) hj (by omega))]
        simp (disch := omega) only [nm, nI_mul40, nI_add, gdI, nI_clamp, nI_1, r43]
      · by_cases q : k = j
        · subst q; rw [setI_eq]
        · rw [setI_ne (by omega)]; exact p1 k (by omega)
      · rw [setI_ne (by omega)]; exact p2 k hk) (fun REC y _ => by
      unfold c_X12_hold_L20b
      rw [if_pos (show (40 : Int32) ≤ nI 40 from nI_le (a := 40) (b := 40) (by omega) (by omega))]) h1 ⟨fun k hk => absurd hk (by omega), fun k _ => rfl, KP.rfl⟩
    rw [y1]
    refine ⟨1, _, hr', rfl, rfl, fun j hj => ?_, (x3.mono (fun p k z => by unfold FlC at z; unfold FCp; omega)).trans (KP.setI (fun z => z (by unfold FlC; omega))), (k1.mono (fun p k z => by unfold FlR at z; omega)).trans (y4.mono (fun p k z => by unfold FlR at z; omega))⟩
    have kc : KP (fun p _ => p ≠ 216) hc1 (setI hc1 216 i 1) := KP.setI (fun z => z rfl)
    obtain ⟨i1, i2⟩ := il j hj
    by_cases q : j = i
    · subst q
      refine ⟨?_, fun _ => ⟨σ, C0.swf, x2.fr (kc.mono (fun p k z => by omega)), C0.sr.mv (fun k hk => ?_)⟩⟩
      · rw [setI_eq, y4.i (show (54 : Nat) ≠ 55 by omega), v1]
      · rw [y2 k hk, Nat.zero_add]; exact k1.i (by omega)
    · refine ⟨?_, fun hz => ?_⟩
      · rw [setI_ne (by omega), y4.i (show (54 : Nat) ≠ 55 by omega), k1.i (by omega), x3.i (by unfold FCp; omega), i1]
      · rw [y4.i (show (54 : Nat) ≠ 55 by omega), k1.i (by omega)] at hz
        obtain ⟨τ, t1, t3, t4⟩ := i2 hz
        refine ⟨τ, t1, (t3.fr (x3.mono (fun p k z => by unfold FCp; omega))).fr (kc.mono (fun p k z => by omega)), t4.mv (fun k hk => ?_)⟩
        rw [y3 _ (by omega)]; exact k1.i (by omega)
  · rw [e1, e2]
    exact ⟨0, hc, hr, rfl, rfl, il, KP.rfl, KP.rfl⟩
theorem restore_ok {n : Nat} {T : TX} {σ : ST} {s t : Nat} {Lp Lw : LawT} {hc hr : PH} (C : CL n T σ s t Lp Lw hc hr) (iu : iUndo n T hc hr) (il : iSlots n T hc hr) (a1 : Int32) : ∃ (v : Int32) (hc' hr' : PH), c_X11_restore a1 hc = some (v, hc') ∧ c_X12_restore a1 hr = some (v, hr') ∧ Mut n T t hc hr hc' hr' := by
  have C0 := C.cor
  have t2 := C0.t2
  have no := Mut_no C iu
  unfold c_X11_restore c_X12_restore
  rcases slot_cases a1 hc with ⟨i, hi, rfl, e1, e2⟩ | ⟨e1, e2⟩
  · obtain ⟨i1, i2⟩ := il i hi
    rw [e1, e2]
    simp (disch := omega) only [Option.bind_some, one_ne0, if_false, optc, gdI, nI_clamp, i1]
    by_cases q : hr.1 54 i = 0
    · rw [if_pos q, if_pos q]; exact ⟨0, hc, hr, rfl, rfl, no⟩
    rw [if_neg q, if_neg q]
    obtain ⟨τ, t1, t3, t4⟩ := i2 q
    obtain ⟨hc1, x1, x2, x3⟩ := copyC_ok (p := 78) t3 (by omega)
    obtain ⟨u, w, hu, hw, a, b, c, e⟩ := iu
    unfold c_X5_clear
    rw [x1]
    simp only [nm_p, Option.bind_some]
    obtain ⟨hr1, y1, y2, y3⟩ := for_h (B := c_X12_restore_L22b (nI i) (fun h5 => nm (setI h5 0 63 0) fun h6 => some (1, h6))) (K := fun h5 => nm (setI h5 0 63 0) fun h6 => some ((1 : Int32), h6)) (N := 40) (fun j y => (∀ k, k < j → y.1 43 k = hr.1 55 (40 * i + k)) ∧ KP (fun p _ => p ≠ 43) hr y) (by omega) (fun REC j y hj hp => by
      have r55 : y.1 55 (40 * i + j) = hr.1 55 (40 * i + j) := hp.2.i (by omega)
      refine ⟨setI y 43 j (hr.1 55 (40 * i + j)), ?_, fun k hk => ?_, hp.2.trans (KP.setI (fun q => q rfl))⟩
      · unfold c_X12_restore_L22b
        rw [if_neg (show ¬ (40 : Int32) ≤ nI j from nI_ge (b := 40) hj (by omega))]
        simp (disch := omega) only [nm_p, nI_mul40, nI_add, gdI, nI_clamp, nI_1, r55]
      · by_cases q : k = j
        · subst q; rw [setI_eq]
        · rw [setI_ne (by omega)]; exact hp.1 k (by omega)) (fun REC y _ => by
      unfold c_X12_restore_L22b
      rw [if_pos (show (40 : Int32) ≤ nI 40 from nI_le (a := 40) (b := 40) (by omega) (by omega))]) hr ⟨fun k hk => absurd hk (by omega), KP.rfl⟩
    simp only [nm_p] at y1
    rw [y1]
    have kc : KP (fun p k => ¬ (p = 84 ∧ k = 2)) hc1 (setI hc1 84 2 0) := KP.setI (fun z => z ⟨rfl, rfl⟩)
    have kr : KP (fun p k => ¬ (p = 0 ∧ k = 63)) hr1 (setI hr1 0 63 0) := KP.setI (fun z => z ⟨rfl, rfl⟩)
    refine ⟨1, _, _, rfl, rfl, τ, wf_up (by omega) t1, x2.fr (kc.mono (fun p k z => by omega)), ?_, iUndo_none hw (setI_eq _ _ _ _) (setI_eq _ _ _ _) ?_, (x3.mono (fun p k z => z.2.1)).trans (kc.mono (fun p k z => by unfold MC at z; omega)), (y3.mono (fun p k z => z.2.1)).trans (kr.mono (fun p k z => z.2.2.2))⟩
    · refine t4.mv (fun k hk => ?_)
      rw [Nat.zero_add, setI_ne (by omega)]; exact y2 k hk
    · rw [setI_ne (by omega)]; exact (x3.i (by unfold FCp; omega)).trans c
  · rw [e1, e2]
    exact ⟨0, hc, hr, rfl, rfl, no⟩
