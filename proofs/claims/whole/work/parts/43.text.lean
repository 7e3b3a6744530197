/-- a text, as data -/
def TX : Type := (Nat) × (Nat) × (Nat) × (Nat) × (Nat) × (Nat) × (Nat) × (Int32) × (Nat → Nat) × (Nat → Nat) × (Nat → Nat) × (Nat → Nat) × (Nat → Nat) × (Nat → Nat) × (Nat → Nat) × (Nat → Nat) × (Nat → Nat) × (Nat → Nat) × (Nat → Nat) × (Nat → Nat)
def TX.men (w : TX) : Nat := w.1
def TX.exc (w : TX) : Nat := w.2.1
def TX.dut (w : TX) : Nat := w.2.2.1
def TX.tst (w : TX) : Nat := w.2.2.2.1
def TX.kno (w : TX) : Nat := w.2.2.2.2.1
def TX.rain (w : TX) : Nat := w.2.2.2.2.2.1
def TX.coin (w : TX) : Nat := w.2.2.2.2.2.2.1
def TX.seed (w : TX) : Int32 := w.2.2.2.2.2.2.2.1
def TX.trust (w : TX) : Nat → Nat := w.2.2.2.2.2.2.2.2.1
def TX.mend (w : TX) : Nat → Nat := w.2.2.2.2.2.2.2.2.2.1
def TX.know (w : TX) : Nat → Nat := w.2.2.2.2.2.2.2.2.2.2.1
def TX.price (w : TX) : Nat → Nat := w.2.2.2.2.2.2.2.2.2.2.2.1
def TX.good (w : TX) : Nat → Nat := w.2.2.2.2.2.2.2.2.2.2.2.2.1
def TX.kind (w : TX) : Nat → Nat := w.2.2.2.2.2.2.2.2.2.2.2.2.2.1
def TX.strong (w : TX) : Nat → Nat := w.2.2.2.2.2.2.2.2.2.2.2.2.2.2.1
def TX.once (w : TX) : Nat → Nat := w.2.2.2.2.2.2.2.2.2.2.2.2.2.2.2.1
def TX.dman (w : TX) : Nat → Nat := w.2.2.2.2.2.2.2.2.2.2.2.2.2.2.2.2.1
def TX.dday (w : TX) : Nat → Nat := w.2.2.2.2.2.2.2.2.2.2.2.2.2.2.2.2.2.1
def TX.dhrs (w : TX) : Nat → Nat := w.2.2.2.2.2.2.2.2.2.2.2.2.2.2.2.2.2.2.1
def TX.ring (w : TX) : Nat → Nat := w.2.2.2.2.2.2.2.2.2.2.2.2.2.2.2.2.2.2.2
def TX.mk (h0 : Nat) (h1 : Nat) (h2 : Nat) (h3 : Nat) (h4 : Nat) (h5 : Nat) (h6 : Nat) (h7 : Int32) (h8 : Nat → Nat) (h9 : Nat → Nat) (h10 : Nat → Nat) (h11 : Nat → Nat) (h12 : Nat → Nat) (h13 : Nat → Nat) (h14 : Nat → Nat) (h15 : Nat → Nat) (h16 : Nat → Nat) (h17 : Nat → Nat) (h18 : Nat → Nat) (h19 : Nat → Nat) : TX := (h0, h1, h2, h3, h4, h5, h6, h7, h8, h9, h10, h11, h12, h13, h14, h15, h16, h17, h18, h19)
theorem TX.mk_men (h0 : Nat) (h1 : Nat) (h2 : Nat) (h3 : Nat) (h4 : Nat) (h5 : Nat) (h6 : Nat) (h7 : Int32) (h8 : Nat → Nat) (h9 : Nat → Nat) (h10 : Nat → Nat) (h11 : Nat → Nat) (h12 : Nat → Nat) (h13 : Nat → Nat) (h14 : Nat → Nat) (h15 : Nat → Nat) (h16 : Nat → Nat) (h17 : Nat → Nat) (h18 : Nat → Nat) (h19 : Nat → Nat) : (TX.mk h0 h1 h2 h3 h4 h5 h6 h7 h8 h9 h10 h11 h12 h13 h14 h15 h16 h17 h18 h19).men = h0 := rfl
theorem TX.mk_exc (h0 : Nat) (h1 : Nat) (h2 : Nat) (h3 : Nat) (h4 : Nat) (h5 : Nat) (h6 : Nat) (h7 : Int32) (h8 : Nat → Nat) (h9 : Nat → Nat) (h10 : Nat → Nat) (h11 : Nat → Nat) (h12 : Nat → Nat) (h13 : Nat → Nat) (h14 : Nat → Nat) (h15 : Nat → Nat) (h16 : Nat → Nat) (h17 : Nat → Nat) (h18 : Nat → Nat) (h19 : Nat → Nat) : (TX.mk h0 h1 h2 h3 h4 h5 h6 h7 h8 h9 h10 h11 h12 h13 h14 h15 h16 h17 h18 h19).exc = h1 := rfl
theorem TX.mk_dut (h0 : Nat) (h1 : Nat) (h2 : Nat) (h3 : Nat) (h4 : Nat) (h5 : Nat) (h6 : Nat) (h7 : Int32) (h8 : Nat → Nat) (h9 : Nat → Nat) (h10 : Nat → Nat) (h11 : Nat → Nat) (h12 : Nat → Nat) (h13 : Nat → Nat) (h14 : Nat → Nat) (h15 : Nat → Nat) (h16 : Nat → Nat) (h17 : Nat → Nat) (h18 : Nat → Nat) (h19 : Nat → Nat) : (TX.mk h0 h1 h2 h3 h4 h5 h6 h7 h8 h9 h10 h11 h12 h13 h14 h15 h16 h17 h18 h19).dut = h2 := rfl
theorem TX.mk_tst (h0 : Nat) (h1 : Nat) (h2 : Nat) (h3 : Nat) (h4 : Nat) (h5 : Nat) (h6 : Nat) (h7 : Int32) (h8 : Nat → Nat) (h9 : Nat → Nat) (h10 : Nat → Nat) (h11 : Nat → Nat) (h12 : Nat → Nat) (h13 : Nat → Nat) (h14 : Nat → Nat) (h15 : Nat → Nat) (h16 : Nat → Nat) (h17 : Nat → Nat) (h18 : Nat → Nat) (h19 : Nat → Nat) : (TX.mk h0 h1 h2 h3 h4 h5 h6 h7 h8 h9 h10 h11 h12 h13 h14 h15 h16 h17 h18 h19).tst = h3 := rfl
theorem TX.mk_kno (h0 : Nat) (h1 : Nat) (h2 : Nat) (h3 : Nat) (h4 : Nat) (h5 : Nat) (h6 : Nat) (h7 : Int32) (h8 : Nat → Nat) (h9 : Nat → Nat) (h10 : Nat → Nat) (h11 : Nat → Nat) (h12 : Nat → Nat) (h13 : Nat → Nat) (h14 : Nat → Nat) (h15 : Nat → Nat) (h16 : Nat → Nat) (h17 : Nat → Nat) (h18 : Nat → Nat) (h19 : Nat → Nat) : (TX.mk h0 h1 h2 h3 h4 h5 h6 h7 h8 h9 h10 h11 h12 h13 h14 h15 h16 h17 h18 h19).kno = h4 := rfl
theorem TX.mk_rain (h0 : Nat) (h1 : Nat) (h2 : Nat) (h3 : Nat) (h4 : Nat) (h5 : Nat) (h6 : Nat) (h7 : Int32) (h8 : Nat → Nat) (h9 : Nat → Nat) (h10 : Nat → Nat) (h11 : Nat → Nat) (h12 : Nat → Nat) (h13 : Nat → Nat) (h14 : Nat → Nat) (h15 : Nat → Nat) (h16 : Nat → Nat) (h17 : Nat → Nat) (h18 : Nat → Nat) (h19 : Nat → Nat) : (TX.mk h0 h1 h2 h3 h4 h5 h6 h7 h8 h9 h10 h11 h12 h13 h14 h15 h16 h17 h18 h19).rain = h5 := rfl
theorem TX.mk_coin (h0 : Nat) (h1 : Nat) (h2 : Nat) (h3 : Nat) (h4 : Nat) (h5 : Nat) (h6 : Nat) (h7 : Int32) (h8 : Nat → Nat) (h9 : Nat → Nat) (h10 : Nat → Nat) (h11 : Nat → Nat) (h12 : Nat → Nat) (h13 : Nat → Nat) (h14 : Nat → Nat) (h15 : Nat → Nat) (h16 : Nat → Nat) (h17 : Nat → Nat) (h18 : Nat → Nat) (h19 : Nat → Nat) : (TX.mk h0 h1 h2 h3 h4 h5 h6 h7 h8 h9 h10 h11 h12 h13 h14 h15 h16 h17 h18 h19).coin = h6 := rfl
theorem TX.mk_seed (h0 : Nat) (h1 : Nat) (h2 : Nat) (h3 : Nat) (h4 : Nat) (h5 : Nat) (h6 : Nat) (h7 : Int32) (h8 : Nat → Nat) (h9 : Nat → Nat) (h10 : Nat → Nat) (h11 : Nat → Nat) (h12 : Nat → Nat) (h13 : Nat → Nat) (h14 : Nat → Nat) (h15 : Nat → Nat) (h16 : Nat → Nat) (h17 : Nat → Nat) (h18 : Nat → Nat) (h19 : Nat → Nat) : (TX.mk h0 h1 h2 h3 h4 h5 h6 h7 h8 h9 h10 h11 h12 h13 h14 h15 h16 h17 h18 h19).seed = h7 := rfl
theorem TX.mk_trust (h0 : Nat) (h1 : Nat) (h2 : Nat) (h3 : Nat) (h4 : Nat) (h5 : Nat) (h6 : Nat) (h7 : Int32) (h8 : Nat → Nat) (h9 : Nat → Nat) (h10 : Nat → Nat) (h11 : Nat → Nat) (h12 : Nat → Nat) (h13 : Nat → Nat) (h14 : Nat → Nat) (h15 : Nat → Nat) (h16 : Nat → Nat) (h17 : Nat → Nat) (h18 : Nat → Nat) (h19 : Nat → Nat) : (TX.mk h0 h1 h2 h3 h4 h5 h6 h7 h8 h9 h10 h11 h12 h13 h14 h15 h16 h17 h18 h19).trust = h8 := rfl
theorem TX.mk_mend (h0 : Nat) (h1 : Nat) (h2 : Nat) (h3 : Nat) (h4 : Nat) (h5 : Nat) (h6 : Nat) (h7 : Int32) (h8 : Nat → Nat) (h9 : Nat → Nat) (h10 : Nat → Nat) (h11 : Nat → Nat) (h12 : Nat → Nat) (h13 : Nat → Nat) (h14 : Nat → Nat) (h15 : Nat → Nat) (h16 : Nat → Nat) (h17 : Nat → Nat) (h18 : Nat → Nat) (h19 : Nat → Nat) : (TX.mk h0 h1 h2 h3 h4 h5 h6 h7 h8 h9 h10 h11 h12 h13 h14 h15 h16 h17 h18 h19).mend = h9 := rfl
theorem TX.mk_know (h0 : Nat) (h1 : Nat) (h2 : Nat) (h3 : Nat) (h4 : Nat) (h5 : Nat) (h6 : Nat) (h7 : Int32) (h8 : Nat → Nat) (h9 : Nat → Nat) (h10 : Nat → Nat) (h11 : Nat → Nat) (h12 : Nat → Nat) (h13 : Nat → Nat) (h14 : Nat → Nat) (h15 : Nat → Nat) (h16 : Nat → Nat) (h17 : Nat → Nat) (h18 : Nat → Nat) (h19 : Nat → Nat) : (TX.mk h0 h1 h2 h3 h4 h5 h6 h7 h8 h9 h10 h11 h12 h13 h14 h15 h16 h17 h18 h19).know = h10 := rfl
theorem TX.mk_price (h0 : Nat) (h1 : Nat) (h2 : Nat) (h3 : Nat) (h4 : Nat) (h5 : Nat) (h6 : Nat) (h7 : Int32) (h8 : Nat → Nat) (h9 : Nat → Nat) (h10 : Nat → Nat) (h11 : Nat → Nat) (h12 : Nat → Nat) (h13 : Nat → Nat) (h14 : Nat → Nat) (h15 : Nat → Nat) (h16 : Nat → Nat) (h17 : Nat → Nat) (h18 : Nat → Nat) (h19 : Nat → Nat) : (TX.mk h0 h1 h2 h3 h4 h5 h6 h7 h8 h9 h10 h11 h12 h13 h14 h15 h16 h17 h18 h19).price = h11 := rfl
theorem TX.mk_good (h0 : Nat) (h1 : Nat) (h2 : Nat) (h3 : Nat) (h4 : Nat) (h5 : Nat) (h6 : Nat) (h7 : Int32) (h8 : Nat → Nat) (h9 : Nat → Nat) (h10 : Nat → Nat) (h11 : Nat → Nat) (h12 : Nat → Nat) (h13 : Nat → Nat) (h14 : Nat → Nat) (h15 : Nat → Nat) (h16 : Nat → Nat) (h17 : Nat → Nat) (h18 : Nat → Nat) (h19 : Nat → Nat) : (TX.mk h0 h1 h2 h3 h4 h5 h6 h7 h8 h9 h10 h11 h12 h13 h14 h15 h16 h17 h18 h19).good = h12 := rfl
theorem TX.mk_kind (h0 : Nat) (h1 : Nat) (h2 : Nat) (h3 : Nat) (h4 : Nat) (h5 : Nat) (h6 : Nat) (h7 : Int32) (h8 : Nat → Nat) (h9 : Nat → Nat) (h10 : Nat → Nat) (h11 : Nat → Nat) (h12 : Nat → Nat) (h13 : Nat → Nat) (h14 : Nat → Nat) (h15 : Nat → Nat) (h16 : Nat → Nat) (h17 : Nat → Nat) (h18 : Nat → Nat) (h19 : Nat → Nat) : (TX.mk h0 h1 h2 h3 h4 h5 h6 h7 h8 h9 h10 h11 h12 h13 h14 h15 h16 h17 h18 h19).kind = h13 := rfl
theorem TX.mk_strong (h0 : Nat) (h1 : Nat) (h2 : Nat) (h3 : Nat) (h4 : Nat) (h5 : Nat) (h6 : Nat) (h7 : Int32) (h8 : Nat → Nat) (h9 : Nat → Nat) (h10 : Nat → Nat) (h11 : Nat → Nat) (h12 : Nat → Nat) (h13 : Nat → Nat) (h14 : Nat → Nat) (h15 : Nat → Nat) (h16 : Nat → Nat) (h17 : Nat → Nat) (h18 : Nat → Nat) (h19 : Nat → Nat) : (TX.mk h0 h1 h2 h3 h4 h5 h6 h7 h8 h9 h10 h11 h12 h13 h14 h15 h16 h17 h18 h19).strong = h14 := rfl
theorem TX.mk_once (h0 : Nat) (h1 : Nat) (h2 : Nat) (h3 : Nat) (h4 : Nat) (h5 : Nat) (h6 : Nat) (h7 : Int32) (h8 : Nat → Nat) (h9 : Nat → Nat) (h10 : Nat → Nat) (h11 : Nat → Nat) (h12 : Nat → Nat) (h13 : Nat → Nat) (h14 : Nat → Nat) (h15 : Nat → Nat) (h16 : Nat → Nat) (h17 : Nat → Nat) (h18 : Nat → Nat) (h19 : Nat → Nat) : (TX.mk h0 h1 h2 h3 h4 h5 h6 h7 h8 h9 h10 h11 h12 h13 h14 h15 h16 h17 h18 h19).once = h15 := rfl
theorem TX.mk_dman (h0 : Nat) (h1 : Nat) (h2 : Nat) (h3 : Nat) (h4 : Nat) (h5 : Nat) (h6 : Nat) (h7 : Int32) (h8 : Nat → Nat) (h9 : Nat → Nat) (h10 : Nat → Nat) (h11 : Nat → Nat) (h12 : Nat → Nat) (h13 : Nat → Nat) (h14 : Nat → Nat) (h15 : Nat → Nat) (h16 : Nat → Nat) (h17 : Nat → Nat) (h18 : Nat → Nat) (h19 : Nat → Nat) : (TX.mk h0 h1 h2 h3 h4 h5 h6 h7 h8 h9 h10 h11 h12 h13 h14 h15 h16 h17 h18 h19).dman = h16 := rfl
theorem TX.mk_dday (h0 : Nat) (h1 : Nat) (h2 : Nat) (h3 : Nat) (h4 : Nat) (h5 : Nat) (h6 : Nat) (h7 : Int32) (h8 : Nat → Nat) (h9 : Nat → Nat) (h10 : Nat → Nat) (h11 : Nat → Nat) (h12 : Nat → Nat) (h13 : Nat → Nat) (h14 : Nat → Nat) (h15 : Nat → Nat) (h16 : Nat → Nat) (h17 : Nat → Nat) (h18 : Nat → Nat) (h19 : Nat → Nat) : (TX.mk h0 h1 h2 h3 h4 h5 h6 h7 h8 h9 h10 h11 h12 h13 h14 h15 h16 h17 h18 h19).dday = h17 := rfl
theorem TX.mk_dhrs (h0 : Nat) (h1 : Nat) (h2 : Nat) (h3 : Nat) (h4 : Nat) (h5 : Nat) (h6 : Nat) (h7 : Int32) (h8 : Nat → Nat) (h9 : Nat → Nat) (h10 : Nat → Nat) (h11 : Nat → Nat) (h12 : Nat → Nat) (h13 : Nat → Nat) (h14 : Nat → Nat) (h15 : Nat → Nat) (h16 : Nat → Nat) (h17 : Nat → Nat) (h18 : Nat → Nat) (h19 : Nat → Nat) : (TX.mk h0 h1 h2 h3 h4 h5 h6 h7 h8 h9 h10 h11 h12 h13 h14 h15 h16 h17 h18 h19).dhrs = h18 := rfl
theorem TX.mk_ring (h0 : Nat) (h1 : Nat) (h2 : Nat) (h3 : Nat) (h4 : Nat) (h5 : Nat) (h6 : Nat) (h7 : Int32) (h8 : Nat → Nat) (h9 : Nat → Nat) (h10 : Nat → Nat) (h11 : Nat → Nat) (h12 : Nat → Nat) (h13 : Nat → Nat) (h14 : Nat → Nat) (h15 : Nat → Nat) (h16 : Nat → Nat) (h17 : Nat → Nat) (h18 : Nat → Nat) (h19 : Nat → Nat) : (TX.mk h0 h1 h2 h3 h4 h5 h6 h7 h8 h9 h10 h11 h12 h13 h14 h15 h16 h17 h18 h19).ring = h19 := rfl
def TX.wf (T : TX) : Prop := (T.men ≤ 5) ∧ (T.exc ≤ 7) ∧ (T.dut ≤ 9) ∧ (T.tst ≤ 6) ∧ (T.kno ≤ 403) ∧ (T.rain ≤ 100) ∧ (T.coin ≤ 9999) ∧ (∀ i, i < T.men → T.trust i ≤ 99) ∧ (∀ i, i < T.men → T.mend i ≤ 9) ∧ (∀ i, i < T.men → T.know i < 32) ∧ (∀ i, i < T.exc → T.price i ≤ 99) ∧ (∀ i, i < T.exc → T.good i ≤ 99) ∧ (∀ i, i < T.exc → T.kind i ≤ 9) ∧ (∀ i, i < T.exc → T.strong i ≤ 99) ∧ (∀ i, i < T.exc → T.once i ≤ 1) ∧ (∀ i, i < T.dut → T.dman i < T.men) ∧ (∀ i, i < T.dut → T.dday i ≤ 99) ∧ (∀ i, i < T.dut → T.dhrs i ≤ 9) ∧ (∀ i, i < T.tst → T.ring i < 128)
theorem TX.wf.men {T : TX} (w : TX.wf T) : T.men ≤ 5 := w.1
theorem TX.wf.exc {T : TX} (w : TX.wf T) : T.exc ≤ 7 := w.2.1
theorem TX.wf.dut {T : TX} (w : TX.wf T) : T.dut ≤ 9 := w.2.2.1
theorem TX.wf.tst {T : TX} (w : TX.wf T) : T.tst ≤ 6 := w.2.2.2.1
theorem TX.wf.kno {T : TX} (w : TX.wf T) : T.kno ≤ 403 := w.2.2.2.2.1
theorem TX.wf.rain {T : TX} (w : TX.wf T) : T.rain ≤ 100 := w.2.2.2.2.2.1
theorem TX.wf.coin {T : TX} (w : TX.wf T) : T.coin ≤ 9999 := w.2.2.2.2.2.2.1
theorem TX.wf.trust {T : TX} (w : TX.wf T) : ∀ i, i < T.men → T.trust i ≤ 99 := w.2.2.2.2.2.2.2.1
theorem TX.wf.mend {T : TX} (w : TX.wf T) : ∀ i, i < T.men → T.mend i ≤ 9 := w.2.2.2.2.2.2.2.2.1
theorem TX.wf.know {T : TX} (w : TX.wf T) : ∀ i, i < T.men → T.know i < 32 := w.2.2.2.2.2.2.2.2.2.1
theorem TX.wf.price {T : TX} (w : TX.wf T) : ∀ i, i < T.exc → T.price i ≤ 99 := w.2.2.2.2.2.2.2.2.2.2.1
theorem TX.wf.good {T : TX} (w : TX.wf T) : ∀ i, i < T.exc → T.good i ≤ 99 := w.2.2.2.2.2.2.2.2.2.2.2.1
theorem TX.wf.kind {T : TX} (w : TX.wf T) : ∀ i, i < T.exc → T.kind i ≤ 9 := w.2.2.2.2.2.2.2.2.2.2.2.2.1
theorem TX.wf.strong {T : TX} (w : TX.wf T) : ∀ i, i < T.exc → T.strong i ≤ 99 := w.2.2.2.2.2.2.2.2.2.2.2.2.2.1
theorem TX.wf.once {T : TX} (w : TX.wf T) : ∀ i, i < T.exc → T.once i ≤ 1 := w.2.2.2.2.2.2.2.2.2.2.2.2.2.2.1
theorem TX.wf.dman {T : TX} (w : TX.wf T) : ∀ i, i < T.dut → T.dman i < T.men := w.2.2.2.2.2.2.2.2.2.2.2.2.2.2.2.1
theorem TX.wf.dday {T : TX} (w : TX.wf T) : ∀ i, i < T.dut → T.dday i ≤ 99 := w.2.2.2.2.2.2.2.2.2.2.2.2.2.2.2.2.1
theorem TX.wf.dhrs {T : TX} (w : TX.wf T) : ∀ i, i < T.dut → T.dhrs i ≤ 9 := w.2.2.2.2.2.2.2.2.2.2.2.2.2.2.2.2.2.1
theorem TX.wf.ring {T : TX} (w : TX.wf T) : ∀ i, i < T.tst → T.ring i < 128 := w.2.2.2.2.2.2.2.2.2.2.2.2.2.2.2.2.2.2
theorem TX.wf.mk {T : TX} (h0 : T.men ≤ 5) (h1 : T.exc ≤ 7) (h2 : T.dut ≤ 9) (h3 : T.tst ≤ 6) (h4 : T.kno ≤ 403) (h5 : T.rain ≤ 100) (h6 : T.coin ≤ 9999) (h7 : ∀ i, i < T.men → T.trust i ≤ 99) (h8 : ∀ i, i < T.men → T.mend i ≤ 9) (h9 : ∀ i, i < T.men → T.know i < 32) (h10 : ∀ i, i < T.exc → T.price i ≤ 99) (h11 : ∀ i, i < T.exc → T.good i ≤ 99) (h12 : ∀ i, i < T.exc → T.kind i ≤ 9) (h13 : ∀ i, i < T.exc → T.strong i ≤ 99) (h14 : ∀ i, i < T.exc → T.once i ≤ 1) (h15 : ∀ i, i < T.dut → T.dman i < T.men) (h16 : ∀ i, i < T.dut → T.dday i ≤ 99) (h17 : ∀ i, i < T.dut → T.dhrs i ≤ 9) (h18 : ∀ i, i < T.tst → T.ring i < 128) : TX.wf T := ⟨h0, h1, h2, h3, h4, h5, h6, h7, h8, h9, h10, h11, h12, h13, h14, h15, h16, h17, h18⟩
/-- the class's text at t -/
def TxC (t : Nat) (T : TX) (h : PH) : Prop := (h.1 t 0 = nI T.men) ∧ (h.1 t 1 = nI T.exc) ∧ (h.1 t 2 = nI T.dut) ∧ (h.1 t 3 = nI T.tst) ∧ (h.1 t 4 = nI T.kno) ∧ (h.1 t 5 = nI T.rain) ∧ (h.1 t 6 = nI T.coin) ∧ (h.1 t 7 = T.seed) ∧ (∀ i, i < T.men → h.1 (t + 7 + 1 + i) 0 = nI (T.trust i)) ∧ (∀ i, i < T.men → h.1 (t + 7 + 1 + i) 1 = nI (T.mend i)) ∧ (∀ i, i < T.men → h.1 (t + 7 + 1 + i) 2 = nI (T.know i)) ∧ (∀ i, i < T.exc → h.1 (t + 13 + 1 + i) 0 = nI (T.price i)) ∧ (∀ i, i < T.exc → h.1 (t + 13 + 1 + i) 1 = nI (T.good i)) ∧ (∀ i, i < T.exc → h.1 (t + 13 + 1 + i) 2 = nI (T.kind i)) ∧ (∀ i, i < T.exc → h.1 (t + 13 + 1 + i) 3 = nI (T.strong i)) ∧ (∀ i, i < T.exc → h.1 (t + 13 + 1 + i) 4 = nI (T.once i)) ∧ (∀ i, i < T.dut → h.1 (t + 21 + 1 + i) 0 = nI (T.dman i)) ∧ (∀ i, i < T.dut → h.1 (t + 21 + 1 + i) 1 = nI (T.dday i)) ∧ (∀ i, i < T.dut → h.1 (t + 21 + 1 + i) 2 = nI (T.dhrs i)) ∧ (∀ i, i < T.tst → h.1 (t + 31) i = nI (T.ring i))
theorem TxC.men {t : Nat} {T : TX} {h : PH} (w : TxC t T h) : h.1 t 0 = nI T.men := w.1
theorem TxC.exc {t : Nat} {T : TX} {h : PH} (w : TxC t T h) : h.1 t 1 = nI T.exc := w.2.1
theorem TxC.dut {t : Nat} {T : TX} {h : PH} (w : TxC t T h) : h.1 t 2 = nI T.dut := w.2.2.1
theorem TxC.tst {t : Nat} {T : TX} {h : PH} (w : TxC t T h) : h.1 t 3 = nI T.tst := w.2.2.2.1
theorem TxC.kno {t : Nat} {T : TX} {h : PH} (w : TxC t T h) : h.1 t 4 = nI T.kno := w.2.2.2.2.1
theorem TxC.rain {t : Nat} {T : TX} {h : PH} (w : TxC t T h) : h.1 t 5 = nI T.rain := w.2.2.2.2.2.1
theorem TxC.coin {t : Nat} {T : TX} {h : PH} (w : TxC t T h) : h.1 t 6 = nI T.coin := w.2.2.2.2.2.2.1
theorem TxC.seed {t : Nat} {T : TX} {h : PH} (w : TxC t T h) : h.1 t 7 = T.seed := w.2.2.2.2.2.2.2.1
theorem TxC.trust {t : Nat} {T : TX} {h : PH} (w : TxC t T h) : ∀ i, i < T.men → h.1 (t + 7 + 1 + i) 0 = nI (T.trust i) := w.2.2.2.2.2.2.2.2.1
theorem TxC.mend {t : Nat} {T : TX} {h : PH} (w : TxC t T h) : ∀ i, i < T.men → h.1 (t + 7 + 1 + i) 1 = nI (T.mend i) := w.2.2.2.2.2.2.2.2.2.1
theorem TxC.know {t : Nat} {T : TX} {h : PH} (w : TxC t T h) : ∀ i, i < T.men → h.1 (t + 7 + 1 + i) 2 = nI (T.know i) := w.2.2.2.2.2.2.2.2.2.2.1
theorem TxC.price {t : Nat} {T : TX} {h : PH} (w : TxC t T h) : ∀ i, i < T.exc → h.1 (t + 13 + 1 + i) 0 = nI (T.price i) := w.2.2.2.2.2.2.2.2.2.2.2.1
theorem TxC.good {t : Nat} {T : TX} {h : PH} (w : TxC t T h) : ∀ i, i < T.exc → h.1 (t + 13 + 1 + i) 1 = nI (T.good i) := w.2.2.2.2.2.2.2.2.2.2.2.2.1
theorem TxC.kind {t : Nat} {T : TX} {h : PH} (w : TxC t T h) : ∀ i, i < T.exc → h.1 (t + 13 + 1 + i) 2 = nI (T.kind i) := w.2.2.2.2.2.2.2.2.2.2.2.2.2.1
theorem TxC.strong {t : Nat} {T : TX} {h : PH} (w : TxC t T h) : ∀ i, i < T.exc → h.1 (t + 13 + 1 + i) 3 = nI (T.strong i) := w.2.2.2.2.2.2.2.2.2.2.2.2.2.2.1
theorem TxC.once {t : Nat} {T : TX} {h : PH} (w : TxC t T h) : ∀ i, i < T.exc → h.1 (t + 13 + 1 + i) 4 = nI (T.once i) := w.2.2.2.2.2.2.2.2.2.2.2.2.2.2.2.1
theorem TxC.dman {t : Nat} {T : TX} {h : PH} (w : TxC t T h) : ∀ i, i < T.dut → h.1 (t + 21 + 1 + i) 0 = nI (T.dman i) := w.2.2.2.2.2.2.2.2.2.2.2.2.2.2.2.2.1
theorem TxC.dday {t : Nat} {T : TX} {h : PH} (w : TxC t T h) : ∀ i, i < T.dut → h.1 (t + 21 + 1 + i) 1 = nI (T.dday i) := w.2.2.2.2.2.2.2.2.2.2.2.2.2.2.2.2.2.1
theorem TxC.dhrs {t : Nat} {T : TX} {h : PH} (w : TxC t T h) : ∀ i, i < T.dut → h.1 (t + 21 + 1 + i) 2 = nI (T.dhrs i) := w.2.2.2.2.2.2.2.2.2.2.2.2.2.2.2.2.2.2.1
theorem TxC.ring {t : Nat} {T : TX} {h : PH} (w : TxC t T h) : ∀ i, i < T.tst → h.1 (t + 31) i = nI (T.ring i) := w.2.2.2.2.2.2.2.2.2.2.2.2.2.2.2.2.2.2.2
theorem TxC.mk {t : Nat} {T : TX} {h : PH} (h0 : h.1 t 0 = nI T.men) (h1 : h.1 t 1 = nI T.exc) (h2 : h.1 t 2 = nI T.dut) (h3 : h.1 t 3 = nI T.tst) (h4 : h.1 t 4 = nI T.kno) (h5 : h.1 t 5 = nI T.rain) (h6 : h.1 t 6 = nI T.coin) (h7 : h.1 t 7 = T.seed) (h8 : ∀ i, i < T.men → h.1 (t + 7 + 1 + i) 0 = nI (T.trust i)) (h9 : ∀ i, i < T.men → h.1 (t + 7 + 1 + i) 1 = nI (T.mend i)) (h10 : ∀ i, i < T.men → h.1 (t + 7 + 1 + i) 2 = nI (T.know i)) (h11 : ∀ i, i < T.exc → h.1 (t + 13 + 1 + i) 0 = nI (T.price i)) (h12 : ∀ i, i < T.exc → h.1 (t + 13 + 1 + i) 1 = nI (T.good i)) (h13 : ∀ i, i < T.exc → h.1 (t + 13 + 1 + i) 2 = nI (T.kind i)) (h14 : ∀ i, i < T.exc → h.1 (t + 13 + 1 + i) 3 = nI (T.strong i)) (h15 : ∀ i, i < T.exc → h.1 (t + 13 + 1 + i) 4 = nI (T.once i)) (h16 : ∀ i, i < T.dut → h.1 (t + 21 + 1 + i) 0 = nI (T.dman i)) (h17 : ∀ i, i < T.dut → h.1 (t + 21 + 1 + i) 1 = nI (T.dday i)) (h18 : ∀ i, i < T.dut → h.1 (t + 21 + 1 + i) 2 = nI (T.dhrs i)) (h19 : ∀ i, i < T.tst → h.1 (t + 31) i = nI (T.ring i)) : TxC t T h := ⟨h0, h1, h2, h3, h4, h5, h6, h7, h8, h9, h10, h11, h12, h13, h14, h15, h16, h17, h18, h19⟩
/-- the reference's text on side s -/
def TxR (s : Nat) (T : TX) (h : PH) : Prop := (h.1 11 s = nI T.men) ∧ (h.1 15 s = nI T.exc) ∧ (h.1 21 s = nI T.dut) ∧ (h.1 26 s = nI T.tst) ∧ (h.1 25 s = nI T.kno) ∧ (h.1 28 s = nI T.rain) ∧ (h.1 29 s = nI T.coin) ∧ (h.1 30 s = T.seed) ∧ (∀ i, i < T.men → h.1 12 (5 * s + i) = nI (T.trust i)) ∧ (∀ i, i < T.men → h.1 13 (5 * s + i) = nI (T.mend i)) ∧ (∀ i, i < T.men → h.1 14 (5 * s + i) = nI (T.know i)) ∧ (∀ i, i < T.exc → h.1 16 (7 * s + i) = nI (T.price i)) ∧ (∀ i, i < T.exc → h.1 17 (7 * s + i) = nI (T.good i)) ∧ (∀ i, i < T.exc → h.1 18 (7 * s + i) = nI (T.kind i)) ∧ (∀ i, i < T.exc → h.1 19 (7 * s + i) = nI (T.strong i)) ∧ (∀ i, i < T.exc → h.1 20 (7 * s + i) = nI (T.once i)) ∧ (∀ i, i < T.dut → h.1 22 (9 * s + i) = nI (T.dman i)) ∧ (∀ i, i < T.dut → h.1 23 (9 * s + i) = nI (T.dday i)) ∧ (∀ i, i < T.dut → h.1 24 (9 * s + i) = nI (T.dhrs i)) ∧ (∀ i, i < T.tst → h.1 27 (6 * s + i) = nI (T.ring i))
theorem TxR.men {s : Nat} {T : TX} {h : PH} (w : TxR s T h) : h.1 11 s = nI T.men := w.1
theorem TxR.exc {s : Nat} {T : TX} {h : PH} (w : TxR s T h) : h.1 15 s = nI T.exc := w.2.1
theorem TxR.dut {s : Nat} {T : TX} {h : PH} (w : TxR s T h) : h.1 21 s = nI T.dut := w.2.2.1
theorem TxR.tst {s : Nat} {T : TX} {h : PH} (w : TxR s T h) : h.1 26 s = nI T.tst := w.2.2.2.1
theorem TxR.kno {s : Nat} {T : TX} {h : PH} (w : TxR s T h) : h.1 25 s = nI T.kno := w.2.2.2.2.1
theorem TxR.rain {s : Nat} {T : TX} {h : PH} (w : TxR s T h) : h.1 28 s = nI T.rain := w.2.2.2.2.2.1
theorem TxR.coin {s : Nat} {T : TX} {h : PH} (w : TxR s T h) : h.1 29 s = nI T.coin := w.2.2.2.2.2.2.1
theorem TxR.seed {s : Nat} {T : TX} {h : PH} (w : TxR s T h) : h.1 30 s = T.seed := w.2.2.2.2.2.2.2.1
theorem TxR.trust {s : Nat} {T : TX} {h : PH} (w : TxR s T h) : ∀ i, i < T.men → h.1 12 (5 * s + i) = nI (T.trust i) := w.2.2.2.2.2.2.2.2.1
theorem TxR.mend {s : Nat} {T : TX} {h : PH} (w : TxR s T h) : ∀ i, i < T.men → h.1 13 (5 * s + i) = nI (T.mend i) := w.2.2.2.2.2.2.2.2.2.1
theorem TxR.know {s : Nat} {T : TX} {h : PH} (w : TxR s T h) : ∀ i, i < T.men → h.1 14 (5 * s + i) = nI (T.know i) := w.2.2.2.2.2.2.2.2.2.2.1
theorem TxR.price {s : Nat} {T : TX} {h : PH} (w : TxR s T h) : ∀ i, i < T.exc → h.1 16 (7 * s + i) = nI (T.price i) := w.2.2.2.2.2.2.2.2.2.2.2.1
theorem TxR.good {s : Nat} {T : TX} {h : PH} (w : TxR s T h) : ∀ i, i < T.exc → h.1 17 (7 * s + i) = nI (T.good i) := w.2.2.2.2.2.2.2.2.2.2.2.2.1
theorem TxR.kind {s : Nat} {T : TX} {h : PH} (w : TxR s T h) : ∀ i, i < T.exc → h.1 18 (7 * s + i) = nI (T.kind i) := w.2.2.2.2.2.2.2.2.2.2.2.2.2.1
theorem TxR.strong {s : Nat} {T : TX} {h : PH} (w : TxR s T h) : ∀ i, i < T.exc → h.1 19 (7 * s + i) = nI (T.strong i) := w.2.2.2.2.2.2.2.2.2.2.2.2.2.2.1
theorem TxR.once {s : Nat} {T : TX} {h : PH} (w : TxR s T h) : ∀ i, i < T.exc → h.1 20 (7 * s + i) = nI (T.once i) := w.2.2.2.2.2.2.2.2.2.2.2.2.2.2.2.1
theorem TxR.dman {s : Nat} {T : TX} {h : PH} (w : TxR s T h) : ∀ i, i < T.dut → h.1 22 (9 * s + i) = nI (T.dman i) := w.2.2.2.2.2.2.2.2.2.2.2.2.2.2.2.2.1
theorem TxR.dday {s : Nat} {T : TX} {h : PH} (w : TxR s T h) : ∀ i, i < T.dut → h.1 23 (9 * s + i) = nI (T.dday i) := w.2.2.2.2.2.2.2.2.2.2.2.2.2.2.2.2.2.1
theorem TxR.dhrs {s : Nat} {T : TX} {h : PH} (w : TxR s T h) : ∀ i, i < T.dut → h.1 24 (9 * s + i) = nI (T.dhrs i) := w.2.2.2.2.2.2.2.2.2.2.2.2.2.2.2.2.2.2.1
theorem TxR.ring {s : Nat} {T : TX} {h : PH} (w : TxR s T h) : ∀ i, i < T.tst → h.1 27 (6 * s + i) = nI (T.ring i) := w.2.2.2.2.2.2.2.2.2.2.2.2.2.2.2.2.2.2.2
theorem TxR.mk {s : Nat} {T : TX} {h : PH} (h0 : h.1 11 s = nI T.men) (h1 : h.1 15 s = nI T.exc) (h2 : h.1 21 s = nI T.dut) (h3 : h.1 26 s = nI T.tst) (h4 : h.1 25 s = nI T.kno) (h5 : h.1 28 s = nI T.rain) (h6 : h.1 29 s = nI T.coin) (h7 : h.1 30 s = T.seed) (h8 : ∀ i, i < T.men → h.1 12 (5 * s + i) = nI (T.trust i)) (h9 : ∀ i, i < T.men → h.1 13 (5 * s + i) = nI (T.mend i)) (h10 : ∀ i, i < T.men → h.1 14 (5 * s + i) = nI (T.know i)) (h11 : ∀ i, i < T.exc → h.1 16 (7 * s + i) = nI (T.price i)) (h12 : ∀ i, i < T.exc → h.1 17 (7 * s + i) = nI (T.good i)) (h13 : ∀ i, i < T.exc → h.1 18 (7 * s + i) = nI (T.kind i)) (h14 : ∀ i, i < T.exc → h.1 19 (7 * s + i) = nI (T.strong i)) (h15 : ∀ i, i < T.exc → h.1 20 (7 * s + i) = nI (T.once i)) (h16 : ∀ i, i < T.dut → h.1 22 (9 * s + i) = nI (T.dman i)) (h17 : ∀ i, i < T.dut → h.1 23 (9 * s + i) = nI (T.dday i)) (h18 : ∀ i, i < T.dut → h.1 24 (9 * s + i) = nI (T.dhrs i)) (h19 : ∀ i, i < T.tst → h.1 27 (6 * s + i) = nI (T.ring i)) : TxR s T h := ⟨h0, h1, h2, h3, h4, h5, h6, h7, h8, h9, h10, h11, h12, h13, h14, h15, h16, h17, h18, h19⟩
/-- what of the class's heap a text at t is made of: all of it but the stacks of its laws -/
def FxC (t : Nat) (p _k : Nat) : Prop := t ≤ p ∧ p < t + 35 ∧ p ≠ t + 3 ∧ p ≠ t + 6
def FxR (p _k : Nat) : Prop := (11 ≤ p ∧ p ≤ 39)
theorem TxC.fr {t : Nat} {T : TX} {h h' : PH} (w : T.wf) (f : KP (FxC t) h h') (x : TxC t T h) : TxC t T h' := by
  have g : ∀ p k, t ≤ p → p < t + 35 → p ≠ t + 3 → p ≠ t + 6 → h'.1 p k = h.1 p k := fun p k a b c d => f.i ⟨a, b, c, d⟩
  have w1 := w.men; have w2 := w.exc; have w3 := w.dut
  apply TxC.mk
  · rw [g t 0 (by omega) (by omega) (by omega) (by omega)]; exact x.men
  · rw [g t 1 (by omega) (by omega) (by omega) (by omega)]; exact x.exc
  · rw [g t 2 (by omega) (by omega) (by omega) (by omega)]; exact x.dut
  · rw [g t 3 (by omega) (by omega) (by omega) (by omega)]; exact x.tst
  · rw [g t 4 (by omega) (by omega) (by omega) (by omega)]; exact x.kno
  · rw [g t 5 (by omega) (by omega) (by omega) (by omega)]; exact x.rain
  · rw [g t 6 (by omega) (by omega) (by omega) (by omega)]; exact x.coin
  · rw [g t 7 (by omega) (by omega) (by omega) (by omega)]; exact x.seed
  all_goals intro i hi; rw [g _ _ (by omega) (by omega) (by omega) (by omega)]
  · exact x.trust i hi
  · exact x.mend i hi
  · exact x.know i hi
  · exact x.price i hi
  · exact x.good i hi
  · exact x.kind i hi
  · exact x.strong i hi
  · exact x.once i hi
  · exact x.dman i hi
  · exact x.dday i hi
  · exact x.dhrs i hi
  · exact x.ring i hi
theorem TxR.fr {s : Nat} {T : TX} {h h' : PH} (f : KP FxR h h') (x : TxR s T h) : TxR s T h' := by
  have g : ∀ p k, 11 ≤ p → p ≤ 39 → h'.1 p k = h.1 p k := fun p k a b => f.i ⟨a, b⟩
  apply TxR.mk
  · rw [g _ _ (by omega) (by omega)]; exact x.men
  · rw [g _ _ (by omega) (by omega)]; exact x.exc
  · rw [g _ _ (by omega) (by omega)]; exact x.dut
  · rw [g _ _ (by omega) (by omega)]; exact x.tst
  · rw [g _ _ (by omega) (by omega)]; exact x.kno
  · rw [g _ _ (by omega) (by omega)]; exact x.rain
  · rw [g _ _ (by omega) (by omega)]; exact x.coin
  · rw [g _ _ (by omega) (by omega)]; exact x.seed
  all_goals intro i hi; rw [g _ _ (by omega) (by omega)]
  · exact x.trust i hi
  · exact x.mend i hi
  · exact x.know i hi
  · exact x.price i hi
  · exact x.good i hi
  · exact x.kind i hi
  · exact x.strong i hi
  · exact x.once i hi
  · exact x.dman i hi
  · exact x.dday i hi
  · exact x.dhrs i hi
  · exact x.ring i hi
/-- what of the reference's arrays is of the text on side s -/
def FxRs (s p k : Nat) : Prop := ((p = 11 ∨ p = 15 ∨ p = 21 ∨ p = 25 ∨ p = 26 ∨ p = 28 ∨ p = 29 ∨ p = 30) ∧ k = s) ∨ ((12 ≤ p ∧ p ≤ 14) ∧ 5 * s ≤ k ∧ k < 5 * s + 5) ∨ ((16 ≤ p ∧ p ≤ 20) ∧ 7 * s ≤ k ∧ k < 7 * s + 7) ∨ ((22 ≤ p ∧ p ≤ 24) ∧ 9 * s ≤ k ∧ k < 9 * s + 9) ∨ (p = 27 ∧ 6 * s ≤ k ∧ k < 6 * s + 6) ∨ ((p = 31 ∨ p = 32) ∧ 2 * s ≤ k ∧ k < 2 * s + 2) ∨ ((33 ≤ p ∧ p ≤ 37) ∧ 130 * s ≤ k ∧ k < 130 * s + 130) ∨ ((38 ≤ p ∧ p ≤ 39) ∧ 420 * s ≤ k ∧ k < 420 * s + 420)
theorem FxRs.up {s p k : Nat} (h : FxRs s p k) : FxR p k := by unfold FxRs at h; unfold FxR; omega
theorem TxR.frs {s : Nat} {T : TX} {h h' : PH} (w : T.wf) (f : KP (FxRs s) h h') (x : TxR s T h) : TxR s T h' := by
  have w1 := w.men; have w2 := w.exc; have w3 := w.dut; have w4 := w.tst
  apply TxR.mk
  · rw [f.i (by unfold FxRs; omega)]; exact x.men
  · rw [f.i (by unfold FxRs; omega)]; exact x.exc
  · rw [f.i (by unfold FxRs; omega)]; exact x.dut
  · rw [f.i (by unfold FxRs; omega)]; exact x.tst
  · rw [f.i (by unfold FxRs; omega)]; exact x.kno
  · rw [f.i (by unfold FxRs; omega)]; exact x.rain
  · rw [f.i (by unfold FxRs; omega)]; exact x.coin
  · rw [f.i (by unfold FxRs; omega)]; exact x.seed
  all_goals intro i hi; rw [f.i (by unfold FxRs; omega)]
  · exact x.trust i hi
  · exact x.mend i hi
  · exact x.know i hi
  · exact x.price i hi
  · exact x.good i hi
  · exact x.kind i hi
  · exact x.strong i hi
  · exact x.once i hi
  · exact x.dman i hi
  · exact x.dday i hi
  · exact x.dhrs i hi
  · exact x.ring i hi
/-- a state, as data: out d is 0 (to come), 1 (freed), 2 (caught), 3 (done) -/
def ST : Type := (Nat) × (Nat) × (Nat) × (Nat) × (Nat → Nat) × (Nat → Int32) × (Nat → Nat)
def ST.today (w : ST) : Nat := w.1
def ST.coins (w : ST) : Nat := w.2.1
def ST.hours (w : ST) : Nat := w.2.2.1
def ST.owned (w : ST) : Nat := w.2.2.2.1
def ST.out (w : ST) : Nat → Nat := w.2.2.2.2.1
def ST.plan (w : ST) : Nat → Int32 := w.2.2.2.2.2.1
def ST.trust (w : ST) : Nat → Nat := w.2.2.2.2.2.2
def ST.mk (h0 : Nat) (h1 : Nat) (h2 : Nat) (h3 : Nat) (h4 : Nat → Nat) (h5 : Nat → Int32) (h6 : Nat → Nat) : ST := (h0, h1, h2, h3, h4, h5, h6)
theorem ST.mk_today (h0 : Nat) (h1 : Nat) (h2 : Nat) (h3 : Nat) (h4 : Nat → Nat) (h5 : Nat → Int32) (h6 : Nat → Nat) : (ST.mk h0 h1 h2 h3 h4 h5 h6).today = h0 := rfl
theorem ST.mk_coins (h0 : Nat) (h1 : Nat) (h2 : Nat) (h3 : Nat) (h4 : Nat → Nat) (h5 : Nat → Int32) (h6 : Nat → Nat) : (ST.mk h0 h1 h2 h3 h4 h5 h6).coins = h1 := rfl
theorem ST.mk_hours (h0 : Nat) (h1 : Nat) (h2 : Nat) (h3 : Nat) (h4 : Nat → Nat) (h5 : Nat → Int32) (h6 : Nat → Nat) : (ST.mk h0 h1 h2 h3 h4 h5 h6).hours = h2 := rfl
theorem ST.mk_owned (h0 : Nat) (h1 : Nat) (h2 : Nat) (h3 : Nat) (h4 : Nat → Nat) (h5 : Nat → Int32) (h6 : Nat → Nat) : (ST.mk h0 h1 h2 h3 h4 h5 h6).owned = h3 := rfl
theorem ST.mk_out (h0 : Nat) (h1 : Nat) (h2 : Nat) (h3 : Nat) (h4 : Nat → Nat) (h5 : Nat → Int32) (h6 : Nat → Nat) : (ST.mk h0 h1 h2 h3 h4 h5 h6).out = h4 := rfl
theorem ST.mk_plan (h0 : Nat) (h1 : Nat) (h2 : Nat) (h3 : Nat) (h4 : Nat → Nat) (h5 : Nat → Int32) (h6 : Nat → Nat) : (ST.mk h0 h1 h2 h3 h4 h5 h6).plan = h5 := rfl
theorem ST.mk_trust (h0 : Nat) (h1 : Nat) (h2 : Nat) (h3 : Nat) (h4 : Nat → Nat) (h5 : Nat → Int32) (h6 : Nat → Nat) : (ST.mk h0 h1 h2 h3 h4 h5 h6).trust = h6 := rfl
def maskOf (f : Nat → Bool) : Nat → Nat
  | 0 => 0
  | n + 1 => maskOf f n + if f n then 2 ^ n else 0
def outMask (σ : ST) (k : Nat) : Nat := maskOf (fun d => σ.out d == k) 9
def toldP (σ : ST) (d : Nat) : Int32 := if σ.out d = 1 ∨ σ.out d = 2 then σ.plan d else -2
def ST.wf (b : Nat) (T : TX) (i : Nat) (σ : ST) : Prop := (σ.today ≤ b) ∧ (σ.coins ≤ b + 9999) ∧ (σ.owned < 128) ∧ (∀ d, d < 9 → σ.out d ≤ 3) ∧ (∀ d, d < T.dut → (σ.out d ≠ 0 ↔ T.dday d < σ.today ∨ (T.dday d = σ.today ∧ d < i))) ∧ (∀ d, T.dut ≤ d → d < 9 → σ.out d = 0) ∧ (∀ d, d < 9 → (σ.plan d = -2 ∨ ∃ e, e < T.exc ∧ σ.plan d = nI e)) ∧ (∀ d, d < 9 → σ.out d = 1 ∨ σ.out d = 2 → ∃ e, e < T.exc ∧ σ.plan d = nI e) ∧ (∀ a, a < 5 → σ.trust a ≤ 99)
theorem ST.wf.today {b : Nat} {T : TX} {i : Nat} {σ : ST} (w : ST.wf b T i σ) : σ.today ≤ b := w.1
theorem ST.wf.coins {b : Nat} {T : TX} {i : Nat} {σ : ST} (w : ST.wf b T i σ) : σ.coins ≤ b + 9999 := w.2.1
theorem ST.wf.owned {b : Nat} {T : TX} {i : Nat} {σ : ST} (w : ST.wf b T i σ) : σ.owned < 128 := w.2.2.1
theorem ST.wf.out {b : Nat} {T : TX} {i : Nat} {σ : ST} (w : ST.wf b T i σ) : ∀ d, d < 9 → σ.out d ≤ 3 := w.2.2.2.1
theorem ST.wf.out0 {b : Nat} {T : TX} {i : Nat} {σ : ST} (w : ST.wf b T i σ) : ∀ d, d < T.dut → (σ.out d ≠ 0 ↔ T.dday d < σ.today ∨ (T.dday d = σ.today ∧ d < i)) := w.2.2.2.2.1
theorem ST.wf.out1 {b : Nat} {T : TX} {i : Nat} {σ : ST} (w : ST.wf b T i σ) : ∀ d, T.dut ≤ d → d < 9 → σ.out d = 0 := w.2.2.2.2.2.1
theorem ST.wf.plan {b : Nat} {T : TX} {i : Nat} {σ : ST} (w : ST.wf b T i σ) : ∀ d, d < 9 → (σ.plan d = -2 ∨ ∃ e, e < T.exc ∧ σ.plan d = nI e) := w.2.2.2.2.2.2.1
theorem ST.wf.planT {b : Nat} {T : TX} {i : Nat} {σ : ST} (w : ST.wf b T i σ) : ∀ d, d < 9 → σ.out d = 1 ∨ σ.out d = 2 → ∃ e, e < T.exc ∧ σ.plan d = nI e := w.2.2.2.2.2.2.2.1
theorem ST.wf.trust {b : Nat} {T : TX} {i : Nat} {σ : ST} (w : ST.wf b T i σ) : ∀ a, a < 5 → σ.trust a ≤ 99 := w.2.2.2.2.2.2.2.2
theorem ST.wf.mk {b : Nat} {T : TX} {i : Nat} {σ : ST} (h0 : σ.today ≤ b) (h1 : σ.coins ≤ b + 9999) (h2 : σ.owned < 128) (h3 : ∀ d, d < 9 → σ.out d ≤ 3) (h4 : ∀ d, d < T.dut → (σ.out d ≠ 0 ↔ T.dday d < σ.today ∨ (T.dday d = σ.today ∧ d < i))) (h5 : ∀ d, T.dut ≤ d → d < 9 → σ.out d = 0) (h6 : ∀ d, d < 9 → (σ.plan d = -2 ∨ ∃ e, e < T.exc ∧ σ.plan d = nI e)) (h7 : ∀ d, d < 9 → σ.out d = 1 ∨ σ.out d = 2 → ∃ e, e < T.exc ∧ σ.plan d = nI e) (h8 : ∀ a, a < 5 → σ.trust a ≤ 99) : ST.wf b T i σ := ⟨h0, h1, h2, h3, h4, h5, h6, h7, h8⟩
def StC (p : Nat) (σ : ST) (h : PH) : Prop := (h.1 p 0 = nI σ.today) ∧ (h.1 p 1 = nI σ.coins) ∧ (h.1 p 2 = nI σ.hours) ∧ (h.1 p 3 = nI σ.owned) ∧ (h.1 p 4 = nI (outMask σ 1)) ∧ (h.1 p 5 = nI (outMask σ 2)) ∧ (h.1 p 6 = nI (outMask σ 3)) ∧ (∀ a, a < 5 → h.1 (p + 1) a = nI (σ.trust a)) ∧ (∀ d, d < 9 → h.1 (p + 2) d = σ.plan d)
theorem StC.today {p : Nat} {σ : ST} {h : PH} (w : StC p σ h) : h.1 p 0 = nI σ.today := w.1
theorem StC.coins {p : Nat} {σ : ST} {h : PH} (w : StC p σ h) : h.1 p 1 = nI σ.coins := w.2.1
theorem StC.hours {p : Nat} {σ : ST} {h : PH} (w : StC p σ h) : h.1 p 2 = nI σ.hours := w.2.2.1
theorem StC.owned {p : Nat} {σ : ST} {h : PH} (w : StC p σ h) : h.1 p 3 = nI σ.owned := w.2.2.2.1
theorem StC.freed {p : Nat} {σ : ST} {h : PH} (w : StC p σ h) : h.1 p 4 = nI (outMask σ 1) := w.2.2.2.2.1
theorem StC.caught {p : Nat} {σ : ST} {h : PH} (w : StC p σ h) : h.1 p 5 = nI (outMask σ 2) := w.2.2.2.2.2.1
theorem StC.done {p : Nat} {σ : ST} {h : PH} (w : StC p σ h) : h.1 p 6 = nI (outMask σ 3) := w.2.2.2.2.2.2.1
theorem StC.trust {p : Nat} {σ : ST} {h : PH} (w : StC p σ h) : ∀ a, a < 5 → h.1 (p + 1) a = nI (σ.trust a) := w.2.2.2.2.2.2.2.1
theorem StC.plan {p : Nat} {σ : ST} {h : PH} (w : StC p σ h) : ∀ d, d < 9 → h.1 (p + 2) d = σ.plan d := w.2.2.2.2.2.2.2.2
theorem StC.mk {p : Nat} {σ : ST} {h : PH} (h0 : h.1 p 0 = nI σ.today) (h1 : h.1 p 1 = nI σ.coins) (h2 : h.1 p 2 = nI σ.hours) (h3 : h.1 p 3 = nI σ.owned) (h4 : h.1 p 4 = nI (outMask σ 1)) (h5 : h.1 p 5 = nI (outMask σ 2)) (h6 : h.1 p 6 = nI (outMask σ 3)) (h7 : ∀ a, a < 5 → h.1 (p + 1) a = nI (σ.trust a)) (h8 : ∀ d, d < 9 → h.1 (p + 2) d = σ.plan d) : StC p σ h := ⟨h0, h1, h2, h3, h4, h5, h6, h7, h8⟩
def StR (q o : Nat) (σ : ST) (h : PH) : Prop := (h.1 q (o + 0) = nI σ.today) ∧ (h.1 q (o + 1) = nI σ.coins) ∧ (h.1 q (o + 2) = nI σ.hours) ∧ (h.1 q (o + 3) = nI σ.owned) ∧ (∀ d, d < 9 → h.1 q (o + (4 + d)) = σ.plan d) ∧ (∀ d, d < 9 → h.1 q (o + (13 + d)) = nI (σ.out d)) ∧ (∀ d, d < 9 → h.1 q (o + (22 + d)) = toldP σ d) ∧ (∀ a, a < 5 → h.1 q (o + (31 + a)) = nI (σ.trust a))
theorem StR.today {q o : Nat} {σ : ST} {h : PH} (w : StR q o σ h) : h.1 q (o + 0) = nI σ.today := w.1
theorem StR.coins {q o : Nat} {σ : ST} {h : PH} (w : StR q o σ h) : h.1 q (o + 1) = nI σ.coins := w.2.1
theorem StR.hours {q o : Nat} {σ : ST} {h : PH} (w : StR q o σ h) : h.1 q (o + 2) = nI σ.hours := w.2.2.1
theorem StR.owned {q o : Nat} {σ : ST} {h : PH} (w : StR q o σ h) : h.1 q (o + 3) = nI σ.owned := w.2.2.2.1
theorem StR.plan {q o : Nat} {σ : ST} {h : PH} (w : StR q o σ h) : ∀ d, d < 9 → h.1 q (o + (4 + d)) = σ.plan d := w.2.2.2.2.1
theorem StR.out {q o : Nat} {σ : ST} {h : PH} (w : StR q o σ h) : ∀ d, d < 9 → h.1 q (o + (13 + d)) = nI (σ.out d) := w.2.2.2.2.2.1
theorem StR.told {q o : Nat} {σ : ST} {h : PH} (w : StR q o σ h) : ∀ d, d < 9 → h.1 q (o + (22 + d)) = toldP σ d := w.2.2.2.2.2.2.1
theorem StR.trust {q o : Nat} {σ : ST} {h : PH} (w : StR q o σ h) : ∀ a, a < 5 → h.1 q (o + (31 + a)) = nI (σ.trust a) := w.2.2.2.2.2.2.2
theorem StR.mk {q o : Nat} {σ : ST} {h : PH} (h0 : h.1 q (o + 0) = nI σ.today) (h1 : h.1 q (o + 1) = nI σ.coins) (h2 : h.1 q (o + 2) = nI σ.hours) (h3 : h.1 q (o + 3) = nI σ.owned) (h4 : ∀ d, d < 9 → h.1 q (o + (4 + d)) = σ.plan d) (h5 : ∀ d, d < 9 → h.1 q (o + (13 + d)) = nI (σ.out d)) (h6 : ∀ d, d < 9 → h.1 q (o + (22 + d)) = toldP σ d) (h7 : ∀ a, a < 5 → h.1 q (o + (31 + a)) = nI (σ.trust a)) : StR q o σ h := ⟨h0, h1, h2, h3, h4, h5, h6, h7⟩
theorem StC.fr {p : Nat} {σ : ST} {h h' : PH} (f : KP (fun q _ => p ≤ q ∧ q ≤ p + 2) h h') (x : StC p σ h) : StC p σ h' := by
  have g : ∀ q k, p ≤ q → q ≤ p + 2 → h'.1 q k = h.1 q k := fun p k a b => f.i ⟨a, b⟩
  apply StC.mk
  · rw [g _ _ (by omega) (by omega)]; exact x.today
  · rw [g _ _ (by omega) (by omega)]; exact x.coins
  · rw [g _ _ (by omega) (by omega)]; exact x.hours
  · rw [g _ _ (by omega) (by omega)]; exact x.owned
  · rw [g _ _ (by omega) (by omega)]; exact x.freed
  · rw [g _ _ (by omega) (by omega)]; exact x.caught
  · rw [g _ _ (by omega) (by omega)]; exact x.done
  · intro a ha; rw [g _ _ (by omega) (by omega)]; exact x.trust a ha
  · intro a ha; rw [g _ _ (by omega) (by omega)]; exact x.plan a ha
theorem StR.fr {q o : Nat} {σ : ST} {h h' : PH} (f : KP (fun p k => p = q ∧ o ≤ k ∧ k < o + 40) h h') (x : StR q o σ h) : StR q o σ h' := by
  have g : ∀ k, k < 40 → h'.1 q (o + k) = h.1 q (o + k) := fun k a => f.i ⟨rfl, by omega, by omega⟩
  apply StR.mk
  · rw [g _ (by omega)]; exact x.today
  · rw [g _ (by omega)]; exact x.coins
  · rw [g _ (by omega)]; exact x.hours
  · rw [g _ (by omega)]; exact x.owned
  · intro d hd; rw [g _ (by omega)]; exact x.plan d hd
  · intro d hd; rw [g _ (by omega)]; exact x.out d hd
  · intro d hd; rw [g _ (by omega)]; exact x.told d hd
  · intro d hd; rw [g _ (by omega)]; exact x.trust d hd
/-- what the reference's row 44 tells of a state to its laws -/
def StV (σ : ST) (h : PH) : Prop := (h.1 44 0 = nI σ.today) ∧ (∀ d, d < 9 → h.1 44 (22 + d) = toldP σ d) ∧ (∀ a, a < 5 → h.1 44 (31 + a) = nI (σ.trust a))
theorem StV.today {σ : ST} {h : PH} (w : StV σ h) : h.1 44 0 = nI σ.today := w.1
theorem StV.told {σ : ST} {h : PH} (w : StV σ h) : ∀ d, d < 9 → h.1 44 (22 + d) = toldP σ d := w.2.1
theorem StV.trust {σ : ST} {h : PH} (w : StV σ h) : ∀ a, a < 5 → h.1 44 (31 + a) = nI (σ.trust a) := w.2.2
theorem StV.mk {σ : ST} {h : PH} (h0 : h.1 44 0 = nI σ.today) (h1 : ∀ d, d < 9 → h.1 44 (22 + d) = toldP σ d) (h2 : ∀ a, a < 5 → h.1 44 (31 + a) = nI (σ.trust a)) : StV σ h := ⟨h0, h1, h2⟩
theorem StR.plan0 {q : Nat} {σ : ST} {h : PH} (x : StR q 0 σ h) {d : Nat} (hd : d < 9) : h.1 q (4 + d) = σ.plan d := by have := x.plan d hd; rwa [Nat.zero_add] at this
theorem StR.out0 {q : Nat} {σ : ST} {h : PH} (x : StR q 0 σ h) {d : Nat} (hd : d < 9) : h.1 q (13 + d) = nI (σ.out d) := by have := x.out d hd; rwa [Nat.zero_add] at this
theorem StR.told0 {q : Nat} {σ : ST} {h : PH} (x : StR q 0 σ h) {d : Nat} (hd : d < 9) : h.1 q (22 + d) = toldP σ d := by have := x.told d hd; rwa [Nat.zero_add] at this
theorem StR.trust0 {q : Nat} {σ : ST} {h : PH} (x : StR q 0 σ h) {a : Nat} (ha : a < 5) : h.1 q (31 + a) = nI (σ.trust a) := by have := x.trust a ha; rwa [Nat.zero_add] at this
theorem StR.v {σ : ST} {h : PH} (x : StR 44 0 σ h) : StV σ h := StV.mk x.today (fun _ hd => x.told0 hd) (fun _ ha => x.trust0 ha)
theorem StV.fr {σ : ST} {h h' : PH} (f : KP (fun p k => p = 44 ∧ (k = 0 ∨ (22 ≤ k ∧ k < 40))) h h') (x : StV σ h) : StV σ h' := by
  have g : ∀ k, k = 0 ∨ (22 ≤ k ∧ k < 40) → h'.1 44 k = h.1 44 k := fun k a => f.i ⟨rfl, a⟩
  apply StV.mk
  · rw [g _ (by omega)]; exact x.today
  · intro d hd; rw [g _ (by omega)]; exact x.told d hd
  · intro d hd; rw [g _ (by omega)]; exact x.trust d hd
def ST.pt (T : TX) (σ : ST) : Prop := ∀ d, d < 9 → (σ.out d = 1 ∨ σ.out d = 2) → ∃ e, e < T.exc ∧ σ.plan d = nI e
