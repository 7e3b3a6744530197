/-- a law on the class's side: what its code answers; on the reference's -/
def LwC (q : Nat) (Lf : LawT) (h : PH) : Prop := ∀ h' : PH, h'.1 q 1 = h.1 q 1 → (∀ k, h'.1 (q + 1) k = h.1 (q + 1) k) → ExV (c_X2_answer q 218 h') (fun v h2 => v = Lf (h'.1 218) ∧ KP (fun r _ => r ≠ q + 2) h' h2)
def FLr (s kk b k p j : Nat) : Prop := ((p = 31 ∨ p = 32) ∧ j = 2 * s + kk) ∨ ((33 ≤ p ∧ p ≤ 37) ∧ 130 * s ≤ j ∧ j < 130 * s + b) ∨ ((38 ≤ p ∧ p ≤ 39) ∧ 420 * s ≤ j ∧ j < 420 * s + k)
def LwR (s kk pl m b k : Nat) (Lf : LawT) (h : PH) : Prop := ∀ h' : PH, KP (FLr s kk b k) h h' → h'.1 0 18 = nI s → ExV (c_X12_asks (nI kk) (nI pl) (nI m) h') (fun v h2 => v = nI (clampN m (Lf (h'.1 41))) ∧ KP FAsk h' h2)
theorem LwC.fr {q : Nat} {Lf : LawT} {h h' : PH} (x : LwC q Lf h) (k : KP (fun p k => (p = q ∧ k = 1) ∨ p = q + 1) h h') : LwC q Lf h' := fun h2 a b => x h2 (a.trans (k.i (Or.inl ⟨rfl, rfl⟩))) (fun j => (b j).trans (k.i (Or.inr rfl)))
theorem LwR.fr {s kk pl m b k b' k' : Nat} {Lf : LawT} {h h' : PH} (x : LwR s kk pl m b k Lf h) (hb : b ≤ b') (hk : k ≤ k') (f : KP (FLr s kk b k) h h') : LwR s kk pl m b' k' Lf h' := fun h2 f2 l => x h2 (f.trans (f2.mono (fun p j z => by unfold FLr at z ⊢; omega))) l
/-- at a boundary: what holds in any case -/
def AL (t s p : Nat) (T : TX) (c : Nat) (L : Nat → List Nat) (so nu : Nat → Nat) (b k : Nat) (hc hr : PH) : Prop := (T.men ≤ 5) ∧ (T.exc ≤ 7) ∧ (T.dut ≤ 9) ∧ (T.tst ≤ 6) ∧ (T.kno ≤ 8) ∧ (c = T.men + T.exc + T.dut + T.tst) ∧ (hc.1 t 0 = nI T.men) ∧ (hc.1 t 1 = nI T.exc) ∧ (hc.1 t 2 = nI T.dut) ∧ (hc.1 t 3 = nI T.tst) ∧ (hc.1 t 4 = nI T.kno) ∧ (hr.1 11 s = nI T.men) ∧ (hr.1 15 s = nI T.exc) ∧ (hr.1 21 s = nI T.dut) ∧ (hr.1 26 s = nI T.tst) ∧ (hr.1 25 s = nI T.kno) ∧ (NC t c L so nu hc) ∧ (NR c L so nu hr) ∧ (NW c L so nu T.men T.exc) ∧ (hr.1 0 19 = nI s) ∧ (hc.2.2 2 1 = t) ∧ (hr.1 0 12 = 0) ∧ (hr.1 0 46 = nI (130 * s + b)) ∧ (hr.1 0 52 = nI (420 * s + k)) ∧ (4 * b ≤ p) ∧ (k ≤ p)
theorem AL.men {t s p : Nat} {T : TX} {c : Nat} {L : Nat → List Nat} {so nu : Nat → Nat} {b k : Nat} {hc hr : PH} (w : AL t s p T c L so nu b k hc hr) : T.men ≤ 5 := w.1
theorem AL.exc {t s p : Nat} {T : TX} {c : Nat} {L : Nat → List Nat} {so nu : Nat → Nat} {b k : Nat} {hc hr : PH} (w : AL t s p T c L so nu b k hc hr) : T.exc ≤ 7 := w.2.1
theorem AL.dut {t s p : Nat} {T : TX} {c : Nat} {L : Nat → List Nat} {so nu : Nat → Nat} {b k : Nat} {hc hr : PH} (w : AL t s p T c L so nu b k hc hr) : T.dut ≤ 9 := w.2.2.1
theorem AL.tst {t s p : Nat} {T : TX} {c : Nat} {L : Nat → List Nat} {so nu : Nat → Nat} {b k : Nat} {hc hr : PH} (w : AL t s p T c L so nu b k hc hr) : T.tst ≤ 6 := w.2.2.2.1
theorem AL.kno {t s p : Nat} {T : TX} {c : Nat} {L : Nat → List Nat} {so nu : Nat → Nat} {b k : Nat} {hc hr : PH} (w : AL t s p T c L so nu b k hc hr) : T.kno ≤ 8 := w.2.2.2.2.1
theorem AL.cc {t s p : Nat} {T : TX} {c : Nat} {L : Nat → List Nat} {so nu : Nat → Nat} {b k : Nat} {hc hr : PH} (w : AL t s p T c L so nu b k hc hr) : c = T.men + T.exc + T.dut + T.tst := w.2.2.2.2.2.1
theorem AL.cm {t s p : Nat} {T : TX} {c : Nat} {L : Nat → List Nat} {so nu : Nat → Nat} {b k : Nat} {hc hr : PH} (w : AL t s p T c L so nu b k hc hr) : hc.1 t 0 = nI T.men := w.2.2.2.2.2.2.1
theorem AL.ce {t s p : Nat} {T : TX} {c : Nat} {L : Nat → List Nat} {so nu : Nat → Nat} {b k : Nat} {hc hr : PH} (w : AL t s p T c L so nu b k hc hr) : hc.1 t 1 = nI T.exc := w.2.2.2.2.2.2.2.1
theorem AL.cd {t s p : Nat} {T : TX} {c : Nat} {L : Nat → List Nat} {so nu : Nat → Nat} {b k : Nat} {hc hr : PH} (w : AL t s p T c L so nu b k hc hr) : hc.1 t 2 = nI T.dut := w.2.2.2.2.2.2.2.2.1
theorem AL.ct {t s p : Nat} {T : TX} {c : Nat} {L : Nat → List Nat} {so nu : Nat → Nat} {b k : Nat} {hc hr : PH} (w : AL t s p T c L so nu b k hc hr) : hc.1 t 3 = nI T.tst := w.2.2.2.2.2.2.2.2.2.1
theorem AL.ck {t s p : Nat} {T : TX} {c : Nat} {L : Nat → List Nat} {so nu : Nat → Nat} {b k : Nat} {hc hr : PH} (w : AL t s p T c L so nu b k hc hr) : hc.1 t 4 = nI T.kno := w.2.2.2.2.2.2.2.2.2.2.1
theorem AL.rm {t s p : Nat} {T : TX} {c : Nat} {L : Nat → List Nat} {so nu : Nat → Nat} {b k : Nat} {hc hr : PH} (w : AL t s p T c L so nu b k hc hr) : hr.1 11 s = nI T.men := w.2.2.2.2.2.2.2.2.2.2.2.1
theorem AL.re {t s p : Nat} {T : TX} {c : Nat} {L : Nat → List Nat} {so nu : Nat → Nat} {b k : Nat} {hc hr : PH} (w : AL t s p T c L so nu b k hc hr) : hr.1 15 s = nI T.exc := w.2.2.2.2.2.2.2.2.2.2.2.2.1
theorem AL.rd {t s p : Nat} {T : TX} {c : Nat} {L : Nat → List Nat} {so nu : Nat → Nat} {b k : Nat} {hc hr : PH} (w : AL t s p T c L so nu b k hc hr) : hr.1 21 s = nI T.dut := w.2.2.2.2.2.2.2.2.2.2.2.2.2.1
theorem AL.rt {t s p : Nat} {T : TX} {c : Nat} {L : Nat → List Nat} {so nu : Nat → Nat} {b k : Nat} {hc hr : PH} (w : AL t s p T c L so nu b k hc hr) : hr.1 26 s = nI T.tst := w.2.2.2.2.2.2.2.2.2.2.2.2.2.2.1
theorem AL.rk {t s p : Nat} {T : TX} {c : Nat} {L : Nat → List Nat} {so nu : Nat → Nat} {b k : Nat} {hc hr : PH} (w : AL t s p T c L so nu b k hc hr) : hr.1 25 s = nI T.kno := w.2.2.2.2.2.2.2.2.2.2.2.2.2.2.2.1
theorem AL.nc {t s p : Nat} {T : TX} {c : Nat} {L : Nat → List Nat} {so nu : Nat → Nat} {b k : Nat} {hc hr : PH} (w : AL t s p T c L so nu b k hc hr) : NC t c L so nu hc := w.2.2.2.2.2.2.2.2.2.2.2.2.2.2.2.2.1
theorem AL.nr {t s p : Nat} {T : TX} {c : Nat} {L : Nat → List Nat} {so nu : Nat → Nat} {b k : Nat} {hc hr : PH} (w : AL t s p T c L so nu b k hc hr) : NR c L so nu hr := w.2.2.2.2.2.2.2.2.2.2.2.2.2.2.2.2.2.1
theorem AL.nw {t s p : Nat} {T : TX} {c : Nat} {L : Nat → List Nat} {so nu : Nat → Nat} {b k : Nat} {hc hr : PH} (w : AL t s p T c L so nu b k hc hr) : NW c L so nu T.men T.exc := w.2.2.2.2.2.2.2.2.2.2.2.2.2.2.2.2.2.2.1
theorem AL.side {t s p : Nat} {T : TX} {c : Nat} {L : Nat → List Nat} {so nu : Nat → Nat} {b k : Nat} {hc hr : PH} (w : AL t s p T c L so nu b k hc hr) : hr.1 0 19 = nI s := w.2.2.2.2.2.2.2.2.2.2.2.2.2.2.2.2.2.2.2.1
theorem AL.oth {t s p : Nat} {T : TX} {c : Nat} {L : Nat → List Nat} {so nu : Nat → Nat} {b k : Nat} {hc hr : PH} (w : AL t s p T c L so nu b k hc hr) : hc.2.2 2 1 = t := w.2.2.2.2.2.2.2.2.2.2.2.2.2.2.2.2.2.2.2.2.1
theorem AL.opn {t s p : Nat} {T : TX} {c : Nat} {L : Nat → List Nat} {so nu : Nat → Nat} {b k : Nat} {hc hr : PH} (w : AL t s p T c L so nu b k hc hr) : hr.1 0 12 = 0 := w.2.2.2.2.2.2.2.2.2.2.2.2.2.2.2.2.2.2.2.2.2.1
theorem AL.br {t s p : Nat} {T : TX} {c : Nat} {L : Nat → List Nat} {so nu : Nat → Nat} {b k : Nat} {hc hr : PH} (w : AL t s p T c L so nu b k hc hr) : hr.1 0 46 = nI (130 * s + b) := w.2.2.2.2.2.2.2.2.2.2.2.2.2.2.2.2.2.2.2.2.2.2.1
theorem AL.co {t s p : Nat} {T : TX} {c : Nat} {L : Nat → List Nat} {so nu : Nat → Nat} {b k : Nat} {hc hr : PH} (w : AL t s p T c L so nu b k hc hr) : hr.1 0 52 = nI (420 * s + k) := w.2.2.2.2.2.2.2.2.2.2.2.2.2.2.2.2.2.2.2.2.2.2.2.1
theorem AL.b4 {t s p : Nat} {T : TX} {c : Nat} {L : Nat → List Nat} {so nu : Nat → Nat} {b k : Nat} {hc hr : PH} (w : AL t s p T c L so nu b k hc hr) : 4 * b ≤ p := w.2.2.2.2.2.2.2.2.2.2.2.2.2.2.2.2.2.2.2.2.2.2.2.2.1
theorem AL.kp {t s p : Nat} {T : TX} {c : Nat} {L : Nat → List Nat} {so nu : Nat → Nat} {b k : Nat} {hc hr : PH} (w : AL t s p T c L so nu b k hc hr) : k ≤ p := w.2.2.2.2.2.2.2.2.2.2.2.2.2.2.2.2.2.2.2.2.2.2.2.2.2
theorem AL.mk {t s p : Nat} {T : TX} {c : Nat} {L : Nat → List Nat} {so nu : Nat → Nat} {b k : Nat} {hc hr : PH} (h0 : T.men ≤ 5) (h1 : T.exc ≤ 7) (h2 : T.dut ≤ 9) (h3 : T.tst ≤ 6) (h4 : T.kno ≤ 8) (h5 : c = T.men + T.exc + T.dut + T.tst) (h6 : hc.1 t 0 = nI T.men) (h7 : hc.1 t 1 = nI T.exc) (h8 : hc.1 t 2 = nI T.dut) (h9 : hc.1 t 3 = nI T.tst) (h10 : hc.1 t 4 = nI T.kno) (h11 : hr.1 11 s = nI T.men) (h12 : hr.1 15 s = nI T.exc) (h13 : hr.1 21 s = nI T.dut) (h14 : hr.1 26 s = nI T.tst) (h15 : hr.1 25 s = nI T.kno) (h16 : NC t c L so nu hc) (h17 : NR c L so nu hr) (h18 : NW c L so nu T.men T.exc) (h19 : hr.1 0 19 = nI s) (h20 : hc.2.2 2 1 = t) (h21 : hr.1 0 12 = 0) (h22 : hr.1 0 46 = nI (130 * s + b)) (h23 : hr.1 0 52 = nI (420 * s + k)) (h24 : 4 * b ≤ p) (h25 : k ≤ p) : AL t s p T c L so nu b k hc hr := ⟨h0, h1, h2, h3, h4, h5, h6, h7, h8, h9, h10, h11, h12, h13, h14, h15, h16, h17, h18, h19, h20, h21, h22, h23, h24, h25⟩
/-- at a boundary, with nothing to complain of so far -/
def SD (t s : Nat) (T : TX) (c : Nat) (L : Nat → List Nat) (b k : Nat) (Lp Lw : LawT) (hc hr : PH) : Prop := (T.wf) ∧ (TxC t T hc) ∧ (TxR s T hr) ∧ (DIS c L) ∧ (∀ i, T.men ≤ i → i < 5 → hr.1 14 (5 * s + i) = 0) ∧ (LwC (t + 1) Lp hc) ∧ (LwC (t + 4) Lw hc) ∧ (LwR s 0 50 100 b k Lp hr) ∧ (LwR s 1 10 99 b k Lw hr) ∧ (LawF Lp) ∧ (LawF Lw)
theorem SD.wf {t s : Nat} {T : TX} {c : Nat} {L : Nat → List Nat} {b k : Nat} {Lp Lw : LawT} {hc hr : PH} (w : SD t s T c L b k Lp Lw hc hr) : T.wf := w.1
theorem SD.xc {t s : Nat} {T : TX} {c : Nat} {L : Nat → List Nat} {b k : Nat} {Lp Lw : LawT} {hc hr : PH} (w : SD t s T c L b k Lp Lw hc hr) : TxC t T hc := w.2.1
theorem SD.xr {t s : Nat} {T : TX} {c : Nat} {L : Nat → List Nat} {b k : Nat} {Lp Lw : LawT} {hc hr : PH} (w : SD t s T c L b k Lp Lw hc hr) : TxR s T hr := w.2.2.1
theorem SD.dis {t s : Nat} {T : TX} {c : Nat} {L : Nat → List Nat} {b k : Nat} {Lp Lw : LawT} {hc hr : PH} (w : SD t s T c L b k Lp Lw hc hr) : DIS c L := w.2.2.2.1
theorem SD.kn {t s : Nat} {T : TX} {c : Nat} {L : Nat → List Nat} {b k : Nat} {Lp Lw : LawT} {hc hr : PH} (w : SD t s T c L b k Lp Lw hc hr) : ∀ i, T.men ≤ i → i < 5 → hr.1 14 (5 * s + i) = 0 := w.2.2.2.2.1
theorem SD.lcp {t s : Nat} {T : TX} {c : Nat} {L : Nat → List Nat} {b k : Nat} {Lp Lw : LawT} {hc hr : PH} (w : SD t s T c L b k Lp Lw hc hr) : LwC (t + 1) Lp hc := w.2.2.2.2.2.1
theorem SD.lcw {t s : Nat} {T : TX} {c : Nat} {L : Nat → List Nat} {b k : Nat} {Lp Lw : LawT} {hc hr : PH} (w : SD t s T c L b k Lp Lw hc hr) : LwC (t + 4) Lw hc := w.2.2.2.2.2.2.1
theorem SD.lrp {t s : Nat} {T : TX} {c : Nat} {L : Nat → List Nat} {b k : Nat} {Lp Lw : LawT} {hc hr : PH} (w : SD t s T c L b k Lp Lw hc hr) : LwR s 0 50 100 b k Lp hr := w.2.2.2.2.2.2.2.1
theorem SD.lrw {t s : Nat} {T : TX} {c : Nat} {L : Nat → List Nat} {b k : Nat} {Lp Lw : LawT} {hc hr : PH} (w : SD t s T c L b k Lp Lw hc hr) : LwR s 1 10 99 b k Lw hr := w.2.2.2.2.2.2.2.2.1
theorem SD.cp {t s : Nat} {T : TX} {c : Nat} {L : Nat → List Nat} {b k : Nat} {Lp Lw : LawT} {hc hr : PH} (w : SD t s T c L b k Lp Lw hc hr) : LawF Lp := w.2.2.2.2.2.2.2.2.2.1
theorem SD.cw {t s : Nat} {T : TX} {c : Nat} {L : Nat → List Nat} {b k : Nat} {Lp Lw : LawT} {hc hr : PH} (w : SD t s T c L b k Lp Lw hc hr) : LawF Lw := w.2.2.2.2.2.2.2.2.2.2
theorem SD.mk {t s : Nat} {T : TX} {c : Nat} {L : Nat → List Nat} {b k : Nat} {Lp Lw : LawT} {hc hr : PH} (h0 : T.wf) (h1 : TxC t T hc) (h2 : TxR s T hr) (h3 : DIS c L) (h4 : ∀ i, T.men ≤ i → i < 5 → hr.1 14 (5 * s + i) = 0) (h5 : LwC (t + 1) Lp hc) (h6 : LwC (t + 4) Lw hc) (h7 : LwR s 0 50 100 b k Lp hr) (h8 : LwR s 1 10 99 b k Lw hr) (h9 : LawF Lp) (h10 : LawF Lw) : SD t s T c L b k Lp Lw hc hr := ⟨h0, h1, h2, h3, h4, h5, h6, h7, h8, h9, h10⟩
def BD (t s p : Nat) (hc hr : PH) : Prop := ∃ (T : TX) (c : Nat) (L : Nat → List Nat) (so nu : Nat → Nat) (b k : Nat), AL t s p T c L so nu b k hc hr ∧ (hc.1 2 5 = 0 → ∃ Lp Lw, SD t s T c L b k Lp Lw hc hr)
/-- what a statement leaves as it is -/
def FPc (t p k : Nat) : Prop := ¬ (p = 2 ∧ 2 ≤ k ∧ k ≤ 6) ∧ ¬ (t ≤ p ∧ p < t + 35)
def FPr (s p k : Nat) : Prop := ¬ (p = 0 ∧ ((11 ≤ k ∧ k ≤ 16) ∨ k = 20 ∨ k = 46 ∨ k = 52 ∨ k = 56)) ∧ ¬ (8 ≤ p ∧ p ≤ 10) ∧ ¬ FxRs s p k ∧ p ≠ 40
/-- where a statement ends: broken alike, or at a later token -/
def OUT (K : Nat) (bs : Nat → Nat) (N t s p : Nat) (hc hr : PH) (oc or : Option PH) : Prop := ∃ hc' hr', oc = some hc' ∧ or = some hr' ∧ KP (FPc t) hc hc' ∧ KP (FPr s) hr hr' ∧ PT K bs N hc' hr' ∧ (BK hc' hr' ∨ ∃ p', p < p' ∧ RS K bs N p' hc' hr' ∧ BD t s p' hc' hr')
theorem BK.nn {hc hr : PH} {a1 a2 : Int32} (h : BK hc hr) : c_X4_newName 2 a1 a2 hc = some hc := by
  unfold c_X4_newName
  rw [h.placeC, Option.bind_some, nm_eq, h.gd, nm_eq, h.acc, Option.bind_some, if_neg h.nc]
theorem BK.num {hc hr : PH} {a1 a2 : Int32} (h : BK hc hr) : ∃ v, c_X4_number 2 a1 a2 hc = some (v, hc) := by
  unfold c_X4_number
  rw [h.placeC, Option.bind_some, nm_eq, h.gd, nm_eq, h.acc, Option.bind_some, if_neg h.nc]
  exact ⟨_, rfl⟩
theorem BK.told {hc hr : PH} {a1 : Int32} (h : BK hc hr) : c_X4_toldName 2 a1 hc = some (-1, hc) := by
  unfold c_X4_toldName
  rw [h.placeC, Option.bind_some, nm_eq, h.gd, nm_eq, h.acc, Option.bind_some, if_neg h.nc]
theorem PT.fp {K N t s : Nat} {bs : Nat → Nat} {hc hr hc' hr' : PH} (h : PT K bs N hc hr) (ht : t = 8 ∨ t = 43) (kc : KP (FPc t) hc hc') (kr : KP (FPr s) hr hr') : PT K bs N hc' hr' := h.fr kc kr (fun _ _ a b => by unfold FPc; omega) (fun _ _ a b => by unfold FPr FxRs; omega)
/-- failing, on both sides -/
theorem BK.mk1 {K N p : Nat} {bs : Nat → Nat} {hc hr : PH} (f : Nat) (hf : 0 < f) (hf2 : f < 3) (hp : p < 401) (a : hc.1 2 2 = nI p) : BK (setI (setI hc 2 3 (nI f)) 2 4 (nI (tS K bs p))) (setI (setI hr 0 13 (nI f)) 0 14 (nI (tS K bs p))) := ⟨f, p, hf, hf2, hp, by rw [setI_ne (by omega), setI_eq], by rw [setI_ne (by omega), setI_eq], by rw [setI_ne (by omega), setI_ne (by omega)]; exact a, by rw [setI_eq, setI_eq]⟩
theorem brkC {K N p f : Nat} {bs : Nat → Nat} {hc hr : PH} (pt : PT K bs N hc hr) (rs : RS K bs N p hc hr) : c_X4_breakOff 2 (nI f) hc = some (setI (setI hc 2 3 (nI f)) 2 4 (nI (tS K bs p))) := by
  have hN := pt.2.1.1; have h5 := rs.2.2.2.2.1
  unfold c_X4_breakOff
  rw [if_pos rs.1, nm_eq, setI_ne (by omega), rs.2.2.1, gdI (k := p) (by omega) (by omega), nI_clamp (n := p) (by omega), setI_ne (by omega), show hc.1 (2 + 1 + 2) p = nI (tS K bs p) from (pt.2.2 p h5).1.2.1]; rfl
theorem failRS {K N p f : Nat} {bs : Nat → Nat} {hc hr : PH} (pt : PT K bs N hc hr) (rs : RS K bs N p hc hr) : c_X12_fail (nI f) hr = some (setI (setI hr 0 13 (nI f)) 0 14 (nI (tS K bs p))) := by
  have hN := pt.2.1.1; have h5 := rs.2.2.2.2.1
  exact failR rs.2.1 rs.2.2.2.1 (by omega) (pt.2.2 p h5).2
/-- breaking off, on both sides -/
theorem brk2 {K N p f : Nat} {bs : Nat → Nat} {hc hr : PH} (pt : PT K bs N hc hr) (rs : RS K bs N p hc hr) (hf : 0 < f) (hf2 : f < 3) : ∃ hc' hr', c_X4_breakOff 2 (nI f) hc = some hc' ∧ c_X12_fail (nI f) hr = some hr' ∧ KP GC hc hc' ∧ KP GR hr hr' ∧ PT K bs N hc' hr' ∧ BK hc' hr' := by
  have hN := pt.2.1.1; have h5 := rs.2.2.2.2.1
  have kc : KP GC hc (setI (setI hc 2 3 (nI f)) 2 4 (nI (tS K bs p))) := (KP.setI (by unfold GC; omega)).trans (KP.setI (by unfold GC; omega))
  have kr : KP GR hr (setI (setI hr 0 13 (nI f)) 0 14 (nI (tS K bs p))) := (KP.setI (by unfold GR; omega)).trans (KP.setI (by unfold GR; omega))
  exact ⟨_, _, brkC pt rs, failRS pt rs, kc, kr, pt.fr kc kr (fun a b _ _ => by unfold GC; omega) (fun a b _ _ => by unfold GR; omega), BK.mk1 (N := N) f hf hf2 (by omega) rs.2.2.1⟩
/-- the next token, with one that is what is asked for -/
theorem goes2 {K N p k : Nat} {bs : Nat → Nat} {hc hr : PH} (pt : PT K bs N hc hr) (rs : RS K bs N p hc hr) (hk : k < 128) (hk1 : 1 < k) (q : tK K bs p = k) {c : Int32} (e : c = nI k) : ∃ hc' hr', c_X4_accept 2 c hc = some hc' ∧ c_X12_goesOn hr = some hr' ∧ KP GC hc hc' ∧ KP GR hr hr' ∧ PT K bs N hc' hr' ∧ WP K bs N (p + 1) hc' hr' ∧ hc'.1 2 5 = hc.1 2 5 ∧ (RS K bs N (p + 1) hc' hr' ∨ BK hc' hr') := by
  have hN := pt.2.1.1; have h5 := rs.2.2.2.2.1
  obtain ⟨tc, tr⟩ := pt.2.2 p h5
  rw [e, acceptC rs.1 rs.2.2.1 (by omega) hk tc, goesR rs.2.1 rs.2.2.2.1 (by omega) tr]
  by_cases p4 : p < 400
  · rw [if_pos ⟨q, p4⟩, if_pos p4]
    have k1 : KP GC hc (setI hc 2 2 (nI (p + 1))) := KP.setI (by unfold GC; omega)
    have k2 : KP GR hr (setI hr 0 11 (nI (p + 1))) := KP.setI (by unfold GR; omega)
    have r2 : RS K bs N (p + 1) (setI hc 2 2 (nI (p + 1))) (setI hr 0 11 (nI (p + 1))) := by
      refine ⟨by rw [setI_ne (by omega)]; exact rs.1, by rw [setI_ne (by omega)]; exact rs.2.1, setI_eq _ _ _ _, setI_eq _ _ _ _, tEnd_next pt.2.1 h5 (by omega) p4, ?_⟩
      have := rs.2.2.2.2.2.le (show p ≤ p + 1 by omega)
      unfold RU at this ⊢
      rw [setI_ne (by omega), setI_ne (by omega), setI_ne (by omega), setI_ne (by omega)]
      exact this
    exact ⟨_, _, rfl, rfl, k1, k2, pt.fr k1 k2 (fun a b _ _ => by unfold GC; omega) (fun a b _ _ => by unfold GR; omega), Or.inl r2, setI_ne (by omega), Or.inl r2⟩
  · rw [if_neg (fun z => p4 z.2), if_neg p4, show brk K bs p k = 2 from if_pos q]
    have kc : KP GC hc (setI (setI hc 2 3 (nI 2)) 2 4 (nI (tS K bs p))) := (KP.setI (by unfold GC; omega)).trans (KP.setI (by unfold GC; omega))
    have kr : KP GR hr (setI (setI hr 0 13 (nI 2)) 0 14 (nI (tS K bs p))) := (KP.setI (by unfold GR; omega)).trans (KP.setI (by unfold GR; omega))
    have bk : BK (setI (setI hc 2 3 (nI 2)) 2 4 (nI (tS K bs p))) (setI (setI hr 0 13 (nI 2)) 0 14 (nI (tS K bs p))) := BK.mk1 (N := N) 2 (by omega) (by omega) (by omega) rs.2.2.1
    exact ⟨_, _, rfl, rfl, kc, kr, pt.fr kc kr (fun a b _ _ => by unfold GC; omega) (fun a b _ _ => by unfold GR; omega), Or.inr bk, by rw [setI_ne (by omega), setI_ne (by omega)], Or.inr bk⟩
/-- the first token of a statement: room for one more of its sort? -/
theorem open2 {K N p wd n most : Nat} {bs : Nat → Nat} {hc hr : PH} (pt : PT K bs N hc hr) (rs : RS K bs N p hc hr) (hw : wd < 128) (hw1 : 1 < wd) (q : tK K bs p = wd) (hn : n ≤ most) (hm : most < 100) {a1 a3 : Int32} (e1 : a1 = nI wd) (e3 : a3 = nI most) : ∃ hc' hr', c_X4_open 2 a1 (nI n) a3 hc = some hc' ∧ c_X12_roomFor (nI n) a3 hr = some hr' ∧ KP GC hc hc' ∧ KP GR hr hr' ∧ PT K bs N hc' hr' ∧ (BK hc' hr' ∨ (RS K bs N (p + 1) hc' hr' ∧ n < most ∧ hc'.1 2 5 = hc.1 2 5)) := by
  unfold c_X4_open c_X12_roomFor
  rw [e3, ite_cg (nI_ltI (a := n) (b := most) (by omega) (by omega)), ite_cg (nI_eq (a := n) (b := most) (by omega) (by omega))]
  by_cases z : n < most
  · rw [if_pos z, if_neg (show ¬ n = most by omega), if_pos rs.2.1]
    obtain ⟨hc', hr', a, b, kc, kr, pt', _, s5, h⟩ := goes2 pt rs hw hw1 q e1
    rw [a, b]
    rcases h with h | h
    · exact ⟨_, _, rfl, rfl, kc, kr, pt', Or.inr ⟨h, z, s5⟩⟩
    · exact ⟨_, _, rfl, rfl, kc, kr, pt', Or.inl h⟩
  · rw [if_neg z, if_pos (show n = most by omega)]
    obtain ⟨hc', hr', a, b, kc, kr, pt', bk⟩ := brk2 (f := 2) pt rs (by omega) (by omega)
    rw [show (2 : Int32) = nI 2 from rfl, a, b, Option.bind_some, Option.bind_some, bk.acc, if_neg bk.nr]
    exact ⟨_, _, rfl, rfl, kc, kr, pt', Or.inl bk⟩
theorem GC_fp {t p k : Nat} (z : FPc t p k) : GC p k := z.1
theorem GC2_fp {t p k : Nat} (ht : t = 8 ∨ t = 43) (z : FPc t p k) : GC2 t p k := by unfold FPc at z; unfold GC2 GC FNc; omega
theorem GR_fp {s p k : Nat} (z : FPr s p k) : GR p k := by unfold FPr at z; unfold GR; omega
theorem AL.c27 {t s p c b k : Nat} {T : TX} {L : Nat → List Nat} {so nu : Nat → Nat} {hc hr : PH} (a : AL t s p T c L so nu b k hc hr) : c ≤ 27 := by have := a.cc; have := a.men; have := a.exc; have := a.dut; have := a.tst; omega
