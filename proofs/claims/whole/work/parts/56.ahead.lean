abbrev LawT : Type := (Nat → Int32) → Int32
def CL (n : Nat) (T : TX) (σ : ST) (s : Nat) (t : Nat) (Lp : LawT) (Lw : LawT) (hc : PH) (hr : PH) : Prop := (Cor n T σ s t hc hr) ∧ (LawsC t Lp Lw hc) ∧ (LawsR s Lp Lw hr) ∧ (LawF Lp) ∧ (LawF Lw)
theorem CL.cor {n : Nat} {T : TX} {σ : ST} {s : Nat} {t : Nat} {Lp : LawT} {Lw : LawT} {hc : PH} {hr : PH} (w : CL n T σ s t Lp Lw hc hr) : Cor n T σ s t hc hr := w.1
theorem CL.lc {n : Nat} {T : TX} {σ : ST} {s : Nat} {t : Nat} {Lp : LawT} {Lw : LawT} {hc : PH} {hr : PH} (w : CL n T σ s t Lp Lw hc hr) : LawsC t Lp Lw hc := w.2.1
theorem CL.lr {n : Nat} {T : TX} {σ : ST} {s : Nat} {t : Nat} {Lp : LawT} {Lw : LawT} {hc : PH} {hr : PH} (w : CL n T σ s t Lp Lw hc hr) : LawsR s Lp Lw hr := w.2.2.1
theorem CL.cp {n : Nat} {T : TX} {σ : ST} {s : Nat} {t : Nat} {Lp : LawT} {Lw : LawT} {hc : PH} {hr : PH} (w : CL n T σ s t Lp Lw hc hr) : LawF Lp := w.2.2.2.1
theorem CL.cw {n : Nat} {T : TX} {σ : ST} {s : Nat} {t : Nat} {Lp : LawT} {Lw : LawT} {hc : PH} {hr : PH} (w : CL n T σ s t Lp Lw hc hr) : LawF Lw := w.2.2.2.2
theorem CL.mk {n : Nat} {T : TX} {σ : ST} {s : Nat} {t : Nat} {Lp : LawT} {Lw : LawT} {hc : PH} {hr : PH} (h0 : Cor n T σ s t hc hr) (h1 : LawsC t Lp Lw hc) (h2 : LawsR s Lp Lw hr) (h3 : LawF Lp) (h4 : LawF Lw) : CL n T σ s t Lp Lw hc hr := ⟨h0, h1, h2, h3, h4⟩
/-- all that later calls look at: the class, the reference -/
def SC (t q _k : Nat) : Prop := q ≠ 218 ∧ q ≠ t + 3 ∧ q ≠ t + 6 ∧ ¬ (81 ≤ q ∧ q ≤ 83) ∧ ¬ (219 ≤ q ∧ q ≤ 228) ∧ q ≠ 238
def SR (p k : Nat) : Prop := p ≠ 41 ∧ p ≠ 42 ∧ p ≠ 44 ∧ p ≠ 53 ∧ ¬ (p = 0 ∧ (k = 59 ∨ k = 62 ∨ k = 65 ∨ k = 66))
theorem SR_44 {p k : Nat} (h : SR p k) : F44 p k := by unfold SR at h; unfold F44; omega
theorem SR_g {p k : Nat} (h : SR p k) : FRg p k := by unfold SR at h; unfold FRg; omega
theorem SR_s {p k : Nat} (h : SR p k) : FRs p k := by unfold SR at h; unfold FRs; omega
theorem copies2 {n : Nat} {T : TX} {σ : ST} {s t : Nat} {Lp Lw : LawT} {hc hr : PH} (C : CL n T σ s t Lp Lw hc hr) : ∃ h3, c_X12_copies hr = some h3 ∧ h3.1 0 18 = nI s ∧ TxR s T h3 ∧ StR 44 0 σ h3 ∧ StR 43 0 σ h3 ∧ h3.1 0 62 = T.seed ∧ LawsR s Lp Lw h3 ∧ KP F44 hr h3 := by
  obtain ⟨h3, c1, c2, c4, c3⟩ := copies_ok C.cor.s2 C.cor.live C.cor.xr
  refine ⟨h3, c1, (c3.i (by unfold F44; omega)).trans C.cor.live, C.cor.xr.fr (c3.mono (fun p k q => by unfold FxR at q; unfold F44; omega)), C.cor.sr.mv (fun k hk => by rw [Nat.zero_add]; exact c2 k hk), C.cor.sr.fr (c3.mono (fun p k q => by unfold F44; omega)), c4, C.lr.fr (c3.mono (fun p k q => by unfold FxR at q; unfold F44; omega)), c3⟩
theorem b_of {n : Nat} {T : TX} {σ : ST} (sw : ST.wf (60 * n) T 0 σ) (hn : n < 600) : σ.today < 2 ^ 31 := by have := sw.today; omega
theorem pass_ok {n : Nat} {T : TX} {σ : ST} {s t : Nat} {Lp Lw : LawT} {hc hr : PH} (C : CL n T σ s t Lp Lw hc hr) (hn : n < 600) (a1 a2 : Int32) : ∃ (v : Int32) (hc' hr' : PH), c_X11_pass a1 a2 hc = some (v, hc') ∧ c_X12_pass a1 a2 hr = some (v, hr') ∧ KP (SC t) hc hc' ∧ KP SR hr hr' := by
  obtain ⟨C0, lc, lr, cp, cw⟩ := C
  have C : CL n T σ s t Lp Lw hc hr := ⟨C0, lc, lr, cp, cw⟩
  have w2 := C0.twf.dut
  have hb := b_of C0.swf hn
  unfold c_X11_pass c_X12_pass
  simp only [nm, C0.txt, gdT C0.t2]
  rcases isExc_cases C0.twf C0.s2 C0.live C0.xc C0.xr a1 with ⟨e, he, rfl, e1, e2⟩ | ⟨e1, e2⟩
  · rcases isDut_cases C0.twf C0.s2 C0.live C0.xc C0.xr a2 with ⟨d, hd, rfl, f1, f2⟩ | ⟨f1, f2⟩
    · obtain ⟨h3, c1, l3, x3, r3, _, s3, L3, k3⟩ := copies2 C
      rw [e1, e2, f1, f2]
      simp (disch := omega) only [nm, gdt, ixOK_nI, nI_clamp, nI_mul9, nI_mul7, nI_mul5, nI_mul6, nI_a4, nI_a13, nI_a22, nI_a31, nI_add, nI_1, Option.bind_some, one_ne0, if_false, if_true, c1, C0.xc.dman d hd, C0.xc.dhrs d hd, C0.xc.seed]
      obtain ⟨v, hc', p1, p2, p3⟩ := passes_ok C0.twf C0.swf.planT C0.xc C0.sc lc cp (Or.inl rfl) C0.t2 hb he (C0.twf.dman d hd) (nI (T.dhrs d)) T.seed
      obtain ⟨v', hr', q1, q2, q3⟩ := passesNow_ok C0.twf C0.swf.planT C0.s2 l3 x3 r3.v L3 cp hb he hd
      rw [p1, q1, p2, q2, s3]
      exact ⟨_, hc', hr', rfl, rfl, p3.mono (fun q k z => by unfold SC at z; unfold FCs; omega), (k3.mono (fun q k z => SR_44 z)).trans (q3.mono (fun q k z => SR_s z))⟩
    · rw [e1, e2, f1, f2]
      exact ⟨-1, hc, hr, rfl, rfl, KP.rfl, KP.rfl⟩
  · rw [e1, e2]
    exact ⟨-1, hc, hr, rfl, rfl, KP.rfl, KP.rfl⟩
def FCp (p r _k : Nat) : Prop := ¬ (p ≤ r ∧ r ≤ p + 2)
theorem copyC_ok {σ : ST} {p q : Nat} {h : PH} (x : StC q σ h) (hpq : p + 2 < q ∨ q + 2 < p) : ExH (c_X8_copy p q h) (fun h' => StC p σ h' ∧ KP (FCp p) h h') := by
  unfold c_X8_copy
  refine ex_set (fun h1 e1 => ?_)
  refine ex_set (fun h2 e2 => ?_)
  refine ex_set (fun h3 e3 => ?_)
  refine ex_set (fun h4 e4 => ?_)
  refine ex_set (fun h5 e5 => ?_)
  refine ex_set (fun h6 e6 => ?_)
  refine ex_set (fun h7 e7 => ?_)
  refine ex_nm ?_
  have kp : ∀ {ha hb : PH} {j : Nat} {v : Int32}, hb = setI ha p j v → KP (FCp p) ha hb := fun e => by rw [e]; exact KP.setI (fun z => z (by omega))
  have k1 : KP (FCp p) h h1 := kp e1
  have k2 : KP (FCp p) h h2 := k1.trans (kp e2)
  have k3 : KP (FCp p) h h3 := k2.trans (kp e3)
  have k4 : KP (FCp p) h h4 := k3.trans (kp e4)
  have k5 : KP (FCp p) h h5 := k4.trans (kp e5)
  have k6 : KP (FCp p) h h6 := k5.trans (kp e6)
  have k7 : KP (FCp p) h h7 := k6.trans (kp e7)
  have fq : ∀ {h'}, KP (FCp p) h h' → StC q σ h' := fun k => x.fr (k.mono (fun r k z => by unfold FCp; omega))
  obtain ⟨y, e, hy, ky⟩ := for_h (B := c_X8_copy_L58b p q (fun h11 => nm (0 : Int32) fun v12 => lq2 (c_X8_copy_L83b p q (fun h15 => some h15)) fu v12 h11)) (K := fun h11 => nm (0 : Int32) fun v12 => lq2 (c_X8_copy_L83b p q (fun h15 => some h15)) fu v12 h11) (N := 5) (fun i y => (∀ a, a < i → y.1 (p + 1) a = nI (σ.trust a)) ∧ KP (fun r _ => r ≠ p + 1) h7 y) (by omega) (fun REC i y hi hp2 => by
    obtain ⟨r, k⟩ := hp2
    have xy : StC q σ y := fq (k7.trans (k.mono (fun r k z => by unfold FCp at z; omega)))
    refine ⟨setI y (p + 1) i (nI (σ.trust i)), ?_, fun a ha => ?_, k.trans (KP.setI (fun z => z rfl))⟩
    · unfold c_X8_copy_L58b
      rw [if_neg (show ¬ (5 : Int32) ≤ nI i from nI_ge (b := 5) hi (by omega))]
      simp (disch := omega) only [nm, gdI, nI_clamp, nI_1]
      rw [xy.trust i hi]
    · by_cases z : a = i
      · subst z; rw [setI_eq]
      · rw [setI_ne (by omega)]; exact r a (by omega)) (fun REC y _ => by
    unfold c_X8_copy_L58b
    rw [if_pos (show (5 : Int32) ≤ nI 5 from nI_le (a := 5) (b := 5) (by omega) (by omega))]) h7 ⟨fun a ha => absurd ha (by omega), KP.rfl⟩
  rw [e]
  refine ex_nm ?_
  have k8 : KP (FCp p) h y := k7.trans (ky.mono (fun r k z => by unfold FCp at z; omega))
  obtain ⟨z, e', hz, kz⟩ := for_h (B := c_X8_copy_L83b p q (fun h15 => some h15)) (K := fun h15 => some h15) (N := 9) (fun i z => (∀ a, a < i → z.1 (p + 2) a = σ.plan a) ∧ KP (fun r _ => r ≠ p + 2) y z) (by omega) (fun REC i z hi hp2 => by
    obtain ⟨r, k⟩ := hp2
    have xy : StC q σ z := fq (k8.trans (k.mono (fun r k z => by unfold FCp at z; omega)))
    refine ⟨setI z (p + 2) i (σ.plan i), ?_, fun a ha => ?_, k.trans (KP.setI (fun z => z rfl))⟩
    · unfold c_X8_copy_L83b
      rw [if_neg (show ¬ (9 : Int32) ≤ nI i from nI_ge (b := 9) hi (by omega))]
      simp (disch := omega) only [nm, gdI, nI_clamp, nI_1]
      rw [xy.plan i hi]
    · by_cases u : a = i
      · subst u; rw [setI_eq]
      · rw [setI_ne (by omega)]; exact r a (by omega)) (fun REC y _ => by
    unfold c_X8_copy_L83b
    rw [if_pos (show (9 : Int32) ≤ nI 9 from nI_le (a := 9) (b := 9) (by omega) (by omega))]) y ⟨fun a ha => absurd ha (by omega), KP.rfl⟩
  rw [e']
  have rd : ∀ k, z.1 p k = h7.1 p k := fun k => (kz.i (by omega)).trans (ky.i (by omega))
  refine ex_some ⟨?_, k8.trans (kz.mono (fun r k z => by unfold FCp at z; omega))⟩
  apply StC.set
  · rw [rd, e7, setI_ne (by omega), e6, setI_ne (by omega), e5, setI_ne (by omega), e4, setI_ne (by omega), e3, setI_ne (by omega), e2, setI_ne (by omega), e1, setI_eq]; exact x.today
  · rw [rd, e7, setI_ne (by omega), e6, setI_ne (by omega), e5, setI_ne (by omega), e4, setI_ne (by omega), e3, setI_ne (by omega), e2, setI_eq]; exact (fq k1).coins
  · rw [rd, e7, setI_ne (by omega), e6, setI_ne (by omega), e5, setI_ne (by omega), e4, setI_ne (by omega), e3, setI_eq]; exact (fq k2).hours
  · rw [rd, e7, setI_ne (by omega), e6, setI_ne (by omega), e5, setI_ne (by omega), e4, setI_eq]; exact (fq k3).owned
  · rw [rd, e7, setI_ne (by omega), e6, setI_ne (by omega), e5, setI_eq]; exact (fq k4).freed
  · rw [rd, e7, setI_ne (by omega), e6, setI_eq]; exact (fq k5).caught
  · rw [rd, e7, setI_eq]; exact (fq k6).done
  · intro a ha; rw [kz.i (show p + 1 ≠ p + 2 by omega)]; exact hy a ha
  · intro a ha; exact hz a ha
def moreN (T : TX) (σ' σ : ST) (k : Nat) : Nat := cntB (fun d => (σ'.out d == k) && !(σ.out d == k)) T.dut
theorem andnot {a c : Nat} (ha : a < 512) (hc : c < 512) : nI a &&& (nI c ^^^ (-1)) = nI (maskOf (fun d => a.testBit d && !c.testBit d) 9) := by
  have e : nI (maskOf (fun d => a.testBit d && !c.testBit d) 9) = nI (a &&& (c ^^^ 511)) := by
    congr 1
    refine (eq_mask (m := a &&& (c ^^^ 511)) ?_ (fun d hd => ?_)).symm
    · exact Nat.lt_of_le_of_lt Nat.and_le_left ha
    · rw [Nat.testBit_and, Nat.testBit_xor]
      have : (511 : Nat).testBit d = true := by
        have : d = 0 ∨ d = 1 ∨ d = 2 ∨ d = 3 ∨ d = 4 ∨ d = 5 ∨ d = 6 ∨ d = 7 ∨ d = 8 := by omega
        rcases this with q | q | q | q | q | q | q | q | q <;> subst q <;> decide
      rw [this]; cases c.testBit d <;> rfl
  rw [e]
  apply Int32.toBitVec_inj.mp
  apply BitVec.eq_of_getLsbD_eq
  intro i hi
  show (BitVec.ofNat 32 a &&& (BitVec.ofNat 32 c ^^^ (-1 : Int32).toBitVec)).getLsbD i = (BitVec.ofNat 32 (a &&& (c ^^^ 511))).getLsbD i
  have m1 : (-1 : Int32).toBitVec = BitVec.allOnes 32 := by decide
  rw [m1, BitVec.getLsbD_and, BitVec.getLsbD_xor, BitVec.getLsbD_ofNat, BitVec.getLsbD_ofNat, BitVec.getLsbD_ofNat, BitVec.getLsbD_allOnes]
  simp only [hi, decide_true, Bool.true_and, Nat.testBit_and, Nat.testBit_xor]
  by_cases q : i < 9
  · have : (511 : Nat).testBit i = true := by
      have : i = 0 ∨ i = 1 ∨ i = 2 ∨ i = 3 ∨ i = 4 ∨ i = 5 ∨ i = 6 ∨ i = 7 ∨ i = 8 := by omega
      rcases this with q | q | q | q | q | q | q | q | q <;> subst q <;> decide
    rw [this]
  · have hp : 512 ≤ 2 ^ i := Nat.pow_le_pow_right (n := 2) (i := 9) (j := i) (by decide) (by omega)
    have : a.testBit i = false := Nat.testBit_lt_two_pow (by omega)
    rw [this]; simp
theorem moreC {T : TX} {σ σ' : ST} {b : Nat} (w : T.wf) (sw : ST.wf b T 0 σ') {k : Nat} (hk : 0 < k) : c_J6_bitCount_0f7a4 (nI (outMask σ' k) &&& (nI (outMask σ k) ^^^ (-1))) = some (nI (moreN T σ' σ k)) := by
  have w2 := w.dut
  rw [andnot (out_lt σ' k) (out_lt σ k), bc (mask_lt9 _)]
  unfold moreN
  rw [cnt_9 (n := T.dut) w2 (fun d a c => ?_), cnt_congr (fun d hd => ?_)]
  · rw [mask_bit9 _ (show d < 9 by omega), out_get (by omega), out_get (by omega)]
  · rw [mask_bit9 _ c, out_get c, out_get c, sw.out1 d a c]
    have : (0 == k) = false := beq_false_of_ne (by omega)
    rw [this]; rfl
theorem moreR {T : TX} {σ σ' : ST} {s : Nat} {h : PH} {b b' : Nat} (w : T.wf) (hs : s < 2) (l : h.1 0 18 = nI s) (xr : TxR s T h) (x' : StR 44 0 σ' h) (x : StR 43 0 σ h) (sw' : ST.wf b' T 0 σ') (sw : ST.wf b T 0 σ) {k : Nat} (hk : k < 9) : c_X12_moreBy (nI k) h = some (nI (moreN T σ' σ k)) := by
  have w2 := w.dut
  unfold c_X12_moreBy moreN
  simp only [nm]
  rw [← cnt_for]
  refine for_f (K := fun w8 => some w8) _ (by omega) (fun REC i y hi => ?_) (fun REC y => ?_) 0
  · unfold c_X12_moreBy_L4b
    have o1 := sw'.out i (by omega); have o2 := sw.out i (by omega)
    rw [l, live_gd hs, nI_clamp (by omega), xr.dut, if_neg (nI_ge hi (by omega))]
    simp (disch := omega) only [nm, gdt, ixOK_nI, nI_clamp, nI_mul9, nI_mul7, nI_mul5, nI_mul6, nI_a4, nI_a13, nI_a22, nI_a31, nI_add, nI_1, Option.bind_some, one_ne0, if_false, if_true, x'.out0, x.out0, nI_eq]
    by_cases q1 : σ'.out i = k <;> by_cases q2 : σ.out i = k <;> simp [q1, q2]
  · unfold c_X12_moreBy_L4b
    rw [l, live_gd hs, nI_clamp (by omega), xr.dut, if_pos (nI_le (by omega) (by omega))]
theorem isLong_eq (a : Int32) : c_X12_isLong a = some (if 0 ≤ a ∧ a ≤ 30 then 1 else 0) := by
  unfold c_X12_isLong
  rw [X12_in, Option.bind_some]
  by_cases q : 0 ≤ a ∧ a ≤ 30
  · rw [if_pos q]; rfl
  · rw [if_neg q]; rfl
theorem isAhead_eq (a : Int32) : c_X11_isAhead a = some (if 0 ≤ a ∧ a ≤ 30 then 1 else 0) := X12_in a 0 30
/-- both sides a run of n days ahead -/
theorem ahead_ok {n : Nat} {T : TX} {σ : ST} {s t : Nat} {Lp Lw : LawT} {hc hr : PH} (C : CL n T σ s t Lp Lw hc hr) (hn : n < 600) {m : Nat} (hm : m ≤ 60) (k : Int32) : (∃ hc1 hc2, c_X8_copy 81 78 hc = some hc1 ∧ hc1.2.2 0 4 = t ∧ hc1.1 t 7 = T.seed ∧ c_X1_goBy 217 t 81 (nI m) (T.seed + k) hc1 = some hc2 ∧ StC 81 (goS T Lp Lw (T.seed + k) m σ) hc2 ∧ StC 78 σ hc2 ∧ KP (SC t) hc hc2) ∧ ∃ hr1, c_X12_copies hr = some hr1 ∧ hr1.1 0 62 = T.seed ∧ ∃ hr2, c_X12_goes (nI m) (setI hr1 0 62 (T.seed + k)) = some hr2 ∧ StR 44 0 (goS T Lp Lw (T.seed + k) m σ) hr2 ∧ StR 43 0 σ hr2 ∧ hr2.1 0 18 = nI s ∧ TxR s T hr2 ∧ KP SR hr hr2 := by
  obtain ⟨C0, lc, lr, cp, cw⟩ := C
  have C : CL n T σ s t Lp Lw hc hr := ⟨C0, lc, lr, cp, cw⟩
  have t2 := C0.t2
  constructor
  · obtain ⟨h1, e1, x1, k1⟩ := copyC_ok (p := 81) (q := 78) C0.sc (by omega)
    have c1 : TxC t T h1 := C0.xc.fr C0.twf (k1.mono (fun q k z => by unfold FxC at z; unfold FCp; omega))
    have L1 : LawsC t Lp Lw h1 := lc.fr (k1.mono (fun q k z => by unfold FxC at z; unfold FCp; omega))
    obtain ⟨h2, e2, x2, k2⟩ := goC_ok C0.twf C0.swf c1 x1 L1 cp cw (Or.inr (Or.inl rfl)) t2 (by omega) hm (T.seed + k)
    have kk := (k1.mono (F' := SC t) (fun q k z => by unfold SC at z; unfold FCp; omega)).trans (k2.mono (fun q k z => by unfold SC at z; unfold FGo; omega))
    exact ⟨h1, h2, e1, (k1.r (by unfold FCp; omega)).trans C0.txt, c1.seed, e2, x2, C0.sc.fr (kk.mono (fun q k z => by unfold SC; omega)), kk⟩
  · obtain ⟨h3, e3, l3, x3, r3, n3, s3, L3, k3⟩ := copies2 C
    have kp : KP (fun p k => ¬ (p = 0 ∧ k = 62)) h3 (setI h3 0 62 (T.seed + k)) := KP.setI (fun q => q (by omega))
    generalize hh : setI h3 0 62 (T.seed + k) = h4 at kp
    have s4 : h4.1 0 62 = T.seed + k := by rw [← hh, setI_eq]
    have l4 : h4.1 0 18 = nI s := (kp.i (by omega)).trans l3
    have x4 : TxR s T h4 := x3.fr (kp.mono (fun q k z => by unfold FxR at z; omega))
    have r4 : StR 44 0 σ h4 := r3.fr (kp.mono (fun q k z => by omega))
    have n4 : StR 43 0 σ h4 := n3.fr (kp.mono (fun q k z => by omega))
    have L4 : LawsR s Lp Lw h4 := L3.fr (kp.mono (fun q k z => by unfold FxR at z; omega))
    obtain ⟨h5, e5, x5, k5⟩ := goR_ok C0.twf C0.swf C0.s2 l4 x4 r4 L4 cp cw (show 60 * n < 100000 by omega) hm
    rw [s4] at x5
    refine ⟨h3, e3, s3, h5, by rw [hh]; exact e5, x5, n4.fr (k5.mono (fun q k z => by unfold FRg; omega)), (k5.i (by unfold FRg; omega)).trans l4, x4.fr (k5.mono (fun q k z => by unfold FxR at z; unfold FRg; omega)), ?_⟩
    exact ((k3.mono (fun q k z => SR_44 z)).trans (kp.mono (fun q k z => by unfold SR at z; omega))).trans (k5.mono (fun q k z => SR_g z))
theorem set_self (h : PH) (p k : Nat) : setI h p k (h.1 p k) = h := by
  unfold setI
  refine Prod.ext (funext fun q => funext fun j => ?_) rfl
  show (if q = p then (if j = k then h.1 p k else h.1 q j) else h.1 q j) = h.1 q j
  by_cases a : q = p
  · rw [if_pos a]
    by_cases c : j = k
    · rw [if_pos c, a, c]
    · rw [if_neg c]
  · rw [if_neg a]
/-- the same, by the text's own seed -/
theorem ahead0 {n : Nat} {T : TX} {σ : ST} {s t : Nat} {Lp Lw : LawT} {hc hr : PH} (C : CL n T σ s t Lp Lw hc hr) (hn : n < 600) {m : Nat} (hm : m ≤ 60) : (∃ hc1 hc2, c_X8_copy 81 78 hc = some hc1 ∧ hc1.2.2 0 4 = t ∧ hc1.1 t 7 = T.seed ∧ c_X1_goBy 217 t 81 (nI m) T.seed hc1 = some hc2 ∧ StC 81 (goS T Lp Lw T.seed m σ) hc2 ∧ StC 78 σ hc2 ∧ KP (SC t) hc hc2) ∧ ∃ hr1 hr2, c_X12_copies hr = some hr1 ∧ c_X12_goes (nI m) hr1 = some hr2 ∧ StR 44 0 (goS T Lp Lw T.seed m σ) hr2 ∧ StR 43 0 σ hr2 ∧ hr2.1 0 18 = nI s ∧ TxR s T hr2 ∧ KP SR hr hr2 := by
  obtain ⟨a, hr1, b1, b2, hr2, b3, b4⟩ := ahead_ok C hn hm 0
  rw [Int32.add_zero] at a b3 b4
  refine ⟨a, hr1, hr2, b1, ?_, b4⟩
  rw [← b2, set_self] at b3
  exact b3
theorem planned_ok {n : Nat} {T : TX} {σ : ST} {s t : Nat} {Lp Lw : LawT} {hc hr : PH} (C : CL n T σ s t Lp Lw hc hr) (hn : n < 600) (a1 a2 : Int32) : ∃ (v : Int32) (hc' hr' : PH), c_X11_planned a1 a2 hc = some (v, hc') ∧ c_X12_planned a1 a2 hr = some (v, hr') ∧ KP (SC t) hc hc' ∧ KP SR hr hr' := by
  have C0 := C.cor
  unfold c_X11_planned c_X12_planned
  rw [isAhead_eq, isLong_eq, Option.bind_some, Option.bind_some, if10, if10]
  by_cases q1 : 0 ≤ a1 ∧ a1 ≤ 30
  · rw [if_pos q1, if_pos q1, X12_in, Option.bind_some, if10]
    by_cases q2 : a2 < 0
    · rw [if_pos q2, if_neg (fun z => absurd z.1 (Int32.not_le.mpr q2))]
      exact ⟨-1, hc, hr, rfl, rfl, KP.rfl, KP.rfl⟩
    rw [if_neg q2]
    by_cases q3 : a2 ≤ 3
    · rw [if_pos q3, if_pos ⟨Int32.not_lt.mp q2, q3⟩]
      obtain ⟨m, hm, rfl⟩ := nI_of (Int32.not_lt.mpr q1.1)
      have m30 : m ≤ 30 := (nI_leI (b := 30) hm (by omega)).mp q1.2
      obtain ⟨j, hj, rfl⟩ := nI_of q2
      have j3 : j ≤ 3 := (nI_leI (b := 3) hj (by omega)).mp q3
      obtain ⟨⟨hc1, hc2, c1, c2, c3, c4, c5, c6, c7⟩, hr1, hr2, r1, r2, r3, r4, r5, r6, r7⟩ := ahead0 C hn (show m ≤ 60 by omega)
      have wg := wf_go (Lp := Lp) (Lw := Lw) (seed := T.seed) C0.swf C0.twf m
      rw [c1, r1]
      simp only [nm, Option.bind_some, c2, gdT C0.t2, c3, c4, r2, c5.freed, c5.caught, c5.done, c5.hours, c6.freed, c6.caught, c6.done, c6.hours]
      have h2 : hr2.1 44 2 = nI (goS T Lp Lw T.seed m σ).hours := r3.hours
      have h3 : hr2.1 43 2 = nI σ.hours := r4.hours
      have hj4 : j = 0 ∨ j = 1 ∨ j = 2 ∨ j = 3 := by omega
      rcases hj4 with q | q | q | q <;> subst q
      · rw [if_pos (show nI 0 = 0 from nI_0), if_neg (show ¬ nI 0 = 3 by decide), one_add, moreR C0.twf C0.s2 r5 r6 r3 r4 wg C0.swf (by omega), moreC C0.twf wg (k := 1) (by omega)]
        exact ⟨_, hc2, hr2, rfl, rfl, c7, r7⟩
      · rw [if_neg (show ¬ nI 1 = 0 by decide), if_pos (show nI 1 = 1 from rfl), if_neg (show ¬ nI 1 = 3 by decide), one_add, moreR C0.twf C0.s2 r5 r6 r3 r4 wg C0.swf (by omega), moreC C0.twf wg (k := 2) (by omega)]
        exact ⟨_, hc2, hr2, rfl, rfl, c7, r7⟩
      · rw [if_neg (show ¬ nI 2 = 0 by decide), if_neg (show ¬ nI 2 = 1 by decide), if_pos (show nI 2 = 2 from rfl), if_neg (show ¬ nI 2 = 3 by decide), one_add, moreR C0.twf C0.s2 r5 r6 r3 r4 wg C0.swf (by omega), moreC C0.twf wg (k := 3) (by omega)]
        exact ⟨_, hc2, hr2, rfl, rfl, c7, r7⟩
      · rw [if_neg (show ¬ nI 3 = 0 by decide), if_neg (show ¬ nI 3 = 1 by decide), if_neg (show ¬ nI 3 = 2 by decide), if_pos (show nI 3 = 3 from rfl), h2, h3]
        exact ⟨_, hc2, hr2, rfl, rfl, c7, r7⟩
    · rw [if_neg q3, if_neg (fun z => q3 z.2)]
      exact ⟨-1, hc, hr, rfl, rfl, KP.rfl, KP.rfl⟩
  · rw [if_neg q1, if_neg q1]
    exact ⟨-1, hc, hr, rfl, rfl, KP.rfl, KP.rfl⟩
theorem trust_ok {n : Nat} {T : TX} {σ : ST} {s t : Nat} {Lp Lw : LawT} {hc hr : PH} (C : CL n T σ s t Lp Lw hc hr) (hn : n < 600) (a1 a2 : Int32) : ∃ (v : Int32) (hc' hr' : PH), c_X11_trust a1 a2 hc = some (v, hc') ∧ c_X12_trust a1 a2 hr = some (v, hr') ∧ KP (SC t) hc hc' ∧ KP SR hr hr' := by
  have C0 := C.cor
  have w1 := C0.twf.men
  unfold c_X11_trust c_X12_trust
  simp only [nm, C0.txt, gdT C0.t2]
  rw [isAhead_eq, isLong_eq]
  rcases isMan_cases C0.twf C0.s2 C0.live C0.xc C0.xr a1 with ⟨a, ha, rfl, e1, e2⟩ | ⟨e1, e2⟩
  · rw [e1, e2]
    simp only [Option.bind_some, one_ne0, if_false, if10]
    by_cases q1 : 0 ≤ a2 ∧ a2 ≤ 30
    · rw [if_pos q1, if_pos q1]
      obtain ⟨m, hm, rfl⟩ := nI_of (Int32.not_lt.mpr q1.1)
      have m30 : m ≤ 30 := (nI_leI (b := 30) hm (by omega)).mp q1.2
      obtain ⟨⟨hc1, hc2, c1, c2, c3, c4, c5, c6, c7⟩, hr1, hr2, r1, r2, r3, r4, r5, r6, r7⟩ := ahead0 C hn (show m ≤ 60 by omega)
      rw [c1, r1]
      simp (disch := omega) only [nm, gdt, ixOK_nI, nI_clamp, nI_mul9, nI_mul7, nI_mul5, nI_mul6, nI_a4, nI_a13, nI_a22, nI_a31, nI_add, nI_1, Option.bind_some, one_ne0, if_false, if_true, c2, gdT C0.t2, c3, c4, r2, r3.trust0]
      rw [c5.trust a (by omega)]
      exact ⟨_, hc2, hr2, rfl, rfl, c7, r7⟩
    · rw [if_neg q1, if_neg q1]
      exact ⟨-1, hc, hr, rfl, rfl, KP.rfl, KP.rfl⟩
  · rw [e1, e2]
    exact ⟨-1, hc, hr, rfl, rfl, KP.rfl, KP.rfl⟩
