/-- cells of a class's text that stay: all but the scalar j and the row r (k9: of it the cell k9 alone) -/
def KcT (t j r k9 p k : Nat) : Prop := (p = t ∧ k ≤ 7 ∧ k ≠ j) ∨ (t + 8 ≤ p ∧ p ≤ t + 31 ∧ ¬ (p = r ∧ (k = k9 ∨ k9 = 99)))
def KrT (s a lo hi j p k : Nat) : Prop := ((11 ≤ p ∧ p ≤ 30) ∧ ¬ (p = a ∧ k = s) ∧ ¬ (lo ≤ p ∧ p ≤ hi ∧ k = j))
def TX.aMan (T : TX) (n_trust : Nat) (n_mend : Nat) (n_know : Nat) : TX := TX.mk (T.men + 1) T.exc T.dut T.tst T.kno T.rain T.coin T.seed (upN T.trust T.men n_trust) (upN T.mend T.men n_mend) (upN T.know T.men n_know) T.price T.good T.kind T.strong T.once T.dman T.dday T.dhrs T.ring
theorem TX.aMan_wf {T : TX} {n_trust n_mend n_know : Nat} (w : T.wf) (h : T.men < 5) (h_trust : n_trust ≤ 99) (h_mend : n_mend ≤ 9) (h_know : n_know < 32) : (T.aMan n_trust n_mend n_know).wf := by
  apply TX.wf.mk
  · show T.men + 1 ≤ 5; omega
  · exact w.exc
  · exact w.dut
  · exact w.tst
  · exact w.kno
  · exact w.rain
  · exact w.coin
  · intro i hi; have hi : i < T.men + 1 := hi; show upN T.trust T.men n_trust i ≤ 99
    by_cases q : i = T.men
    · rw [q, upN_eq]; exact h_trust
    · rw [upN_ne q]; exact w.trust i (by omega)
  · intro i hi; have hi : i < T.men + 1 := hi; show upN T.mend T.men n_mend i ≤ 9
    by_cases q : i = T.men
    · rw [q, upN_eq]; exact h_mend
    · rw [upN_ne q]; exact w.mend i (by omega)
  · intro i hi; have hi : i < T.men + 1 := hi; show upN T.know T.men n_know i < 32
    by_cases q : i = T.men
    · rw [q, upN_eq]; exact h_know
    · rw [upN_ne q]; exact w.know i (by omega)
  · exact w.price
  · exact w.good
  · exact w.kind
  · exact w.strong
  · exact w.once
  · intro i hi; have := w.dman i hi; show T.dman i < T.men + 1; omega
  · exact w.dday
  · exact w.dhrs
  · exact w.ring
theorem TxC.aMan {t : Nat} {T : TX} {h h' : PH} {n_trust n_mend n_know : Nat} (x : TxC t T h) (w : T.wf) (h9 : T.men < 5) (k : KP (KcT t 0 (t + 7 + 1 + T.men) 99) h h') (v : h'.1 t 0 = nI (T.men + 1)) (v_trust : h'.1 (t + 7 + 1 + T.men) 0 = nI n_trust) (v_mend : h'.1 (t + 7 + 1 + T.men) 1 = nI n_mend) (v_know : h'.1 (t + 7 + 1 + T.men) 2 = nI n_know) : TxC t (T.aMan n_trust n_mend n_know) h' := by
  have w1 := w.men; have w2 := w.exc; have w3 := w.dut; have w4 := w.tst
  apply TxC.mk
  · exact v
  · exact (k.i (by unfold KcT; omega)).trans x.exc
  · exact (k.i (by unfold KcT; omega)).trans x.dut
  · exact (k.i (by unfold KcT; omega)).trans x.tst
  · exact (k.i (by unfold KcT; omega)).trans x.kno
  · exact (k.i (by unfold KcT; omega)).trans x.rain
  · exact (k.i (by unfold KcT; omega)).trans x.coin
  · exact (k.i (by unfold KcT; omega)).trans x.seed
  · intro i hi; have hi : i < T.men + 1 := hi; show h'.1 (t + 7 + 1 + i) 0 = nI (upN T.trust T.men n_trust i)
    by_cases q : i = T.men
    · rw [q, upN_eq]; exact v_trust
    · rw [upN_ne q]; exact (k.i (by unfold KcT; omega)).trans (x.trust i (by omega))
  · intro i hi; have hi : i < T.men + 1 := hi; show h'.1 (t + 7 + 1 + i) 1 = nI (upN T.mend T.men n_mend i)
    by_cases q : i = T.men
    · rw [q, upN_eq]; exact v_mend
    · rw [upN_ne q]; exact (k.i (by unfold KcT; omega)).trans (x.mend i (by omega))
  · intro i hi; have hi : i < T.men + 1 := hi; show h'.1 (t + 7 + 1 + i) 2 = nI (upN T.know T.men n_know i)
    by_cases q : i = T.men
    · rw [q, upN_eq]; exact v_know
    · rw [upN_ne q]; exact (k.i (by unfold KcT; omega)).trans (x.know i (by omega))
  · intro i hi; have hi : i < T.exc := hi; exact (k.i (by unfold KcT; omega)).trans (x.price i hi)
  · intro i hi; have hi : i < T.exc := hi; exact (k.i (by unfold KcT; omega)).trans (x.good i hi)
  · intro i hi; have hi : i < T.exc := hi; exact (k.i (by unfold KcT; omega)).trans (x.kind i hi)
  · intro i hi; have hi : i < T.exc := hi; exact (k.i (by unfold KcT; omega)).trans (x.strong i hi)
  · intro i hi; have hi : i < T.exc := hi; exact (k.i (by unfold KcT; omega)).trans (x.once i hi)
  · intro i hi; have hi : i < T.dut := hi; exact (k.i (by unfold KcT; omega)).trans (x.dman i hi)
  · intro i hi; have hi : i < T.dut := hi; exact (k.i (by unfold KcT; omega)).trans (x.dday i hi)
  · intro i hi; have hi : i < T.dut := hi; exact (k.i (by unfold KcT; omega)).trans (x.dhrs i hi)
  · intro i hi; have hi : i < T.tst := hi; exact (k.i (by unfold KcT; omega)).trans (x.ring i hi)
theorem TxR.aMan {s : Nat} {T : TX} {h h' : PH} {n_trust n_mend n_know : Nat} (x : TxR s T h) (w : T.wf) (h9 : T.men < 5) (k : KP (KrT s 11 12 14 (5 * s + T.men)) h h') (v : h'.1 11 s = nI (T.men + 1)) (v_trust : h'.1 12 (5 * s + T.men) = nI n_trust) (v_mend : h'.1 13 (5 * s + T.men) = nI n_mend) (v_know : h'.1 14 (5 * s + T.men) = nI n_know) : TxR s (T.aMan n_trust n_mend n_know) h' := by
  have w1 := w.men; have w2 := w.exc; have w3 := w.dut; have w4 := w.tst
  apply TxR.mk
  · exact v
  · exact (k.i (by unfold KrT; omega)).trans x.exc
  · exact (k.i (by unfold KrT; omega)).trans x.dut
  · exact (k.i (by unfold KrT; omega)).trans x.tst
  · exact (k.i (by unfold KrT; omega)).trans x.kno
  · exact (k.i (by unfold KrT; omega)).trans x.rain
  · exact (k.i (by unfold KrT; omega)).trans x.coin
  · exact (k.i (by unfold KrT; omega)).trans x.seed
  · intro i hi; have hi : i < T.men + 1 := hi; show h'.1 12 (5 * s + i) = nI (upN T.trust T.men n_trust i)
    by_cases q : i = T.men
    · rw [q, upN_eq]; exact v_trust
    · rw [upN_ne q]; exact (k.i (by unfold KrT; omega)).trans (x.trust i (by omega))
  · intro i hi; have hi : i < T.men + 1 := hi; show h'.1 13 (5 * s + i) = nI (upN T.mend T.men n_mend i)
    by_cases q : i = T.men
    · rw [q, upN_eq]; exact v_mend
    · rw [upN_ne q]; exact (k.i (by unfold KrT; omega)).trans (x.mend i (by omega))
  · intro i hi; have hi : i < T.men + 1 := hi; show h'.1 14 (5 * s + i) = nI (upN T.know T.men n_know i)
    by_cases q : i = T.men
    · rw [q, upN_eq]; exact v_know
    · rw [upN_ne q]; exact (k.i (by unfold KrT; omega)).trans (x.know i (by omega))
  · intro i hi; have hi : i < T.exc := hi; exact (k.i (by unfold KrT; omega)).trans (x.price i hi)
  · intro i hi; have hi : i < T.exc := hi; exact (k.i (by unfold KrT; omega)).trans (x.good i hi)
  · intro i hi; have hi : i < T.exc := hi; exact (k.i (by unfold KrT; omega)).trans (x.kind i hi)
  · intro i hi; have hi : i < T.exc := hi; exact (k.i (by unfold KrT; omega)).trans (x.strong i hi)
  · intro i hi; have hi : i < T.exc := hi; exact (k.i (by unfold KrT; omega)).trans (x.once i hi)
  · intro i hi; have hi : i < T.dut := hi; exact (k.i (by unfold KrT; omega)).trans (x.dman i hi)
  · intro i hi; have hi : i < T.dut := hi; exact (k.i (by unfold KrT; omega)).trans (x.dday i hi)
  · intro i hi; have hi : i < T.dut := hi; exact (k.i (by unfold KrT; omega)).trans (x.dhrs i hi)
  · intro i hi; have hi : i < T.tst := hi; exact (k.i (by unfold KrT; omega)).trans (x.ring i hi)
def TX.aExc (T : TX) (n_price : Nat) (n_good : Nat) (n_kind : Nat) (n_strong : Nat) (n_once : Nat) : TX := TX.mk T.men (T.exc + 1) T.dut T.tst T.kno T.rain T.coin T.seed T.trust T.mend T.know (upN T.price T.exc n_price) (upN T.good T.exc n_good) (upN T.kind T.exc n_kind) (upN T.strong T.exc n_strong) (upN T.once T.exc n_once) T.dman T.dday T.dhrs T.ring
theorem TX.aExc_wf {T : TX} {n_price n_good n_kind n_strong n_once : Nat} (w : T.wf) (h : T.exc < 7) (h_price : n_price ≤ 99) (h_good : n_good ≤ 99) (h_kind : n_kind ≤ 9) (h_strong : n_strong ≤ 99) (h_once : n_once ≤ 1) : (T.aExc n_price n_good n_kind n_strong n_once).wf := by
  apply TX.wf.mk
  · exact w.men
  · show T.exc + 1 ≤ 7; omega
  · exact w.dut
  · exact w.tst
  · exact w.kno
  · exact w.rain
  · exact w.coin
  · exact w.trust
  · exact w.mend
  · exact w.know
  · intro i hi; have hi : i < T.exc + 1 := hi; show upN T.price T.exc n_price i ≤ 99
    by_cases q : i = T.exc
    · rw [q, upN_eq]; exact h_price
    · rw [upN_ne q]; exact w.price i (by omega)
  · intro i hi; have hi : i < T.exc + 1 := hi; show upN T.good T.exc n_good i ≤ 99
    by_cases q : i = T.exc
    · rw [q, upN_eq]; exact h_good
    · rw [upN_ne q]; exact w.good i (by omega)
  · intro i hi; have hi : i < T.exc + 1 := hi; show upN T.kind T.exc n_kind i ≤ 9
    by_cases q : i = T.exc
    · rw [q, upN_eq]; exact h_kind
    · rw [upN_ne q]; exact w.kind i (by omega)
  · intro i hi; have hi : i < T.exc + 1 := hi; show upN T.strong T.exc n_strong i ≤ 99
    by_cases q : i = T.exc
    · rw [q, upN_eq]; exact h_strong
    · rw [upN_ne q]; exact w.strong i (by omega)
  · intro i hi; have hi : i < T.exc + 1 := hi; show upN T.once T.exc n_once i ≤ 1
    by_cases q : i = T.exc
    · rw [q, upN_eq]; exact h_once
    · rw [upN_ne q]; exact w.once i (by omega)
  · exact w.dman
  · exact w.dday
  · exact w.dhrs
  · exact w.ring
theorem TxC.aExc {t : Nat} {T : TX} {h h' : PH} {n_price n_good n_kind n_strong n_once : Nat} (x : TxC t T h) (w : T.wf) (h9 : T.exc < 7) (k : KP (KcT t 1 (t + 13 + 1 + T.exc) 99) h h') (v : h'.1 t 1 = nI (T.exc + 1)) (v_price : h'.1 (t + 13 + 1 + T.exc) 0 = nI n_price) (v_good : h'.1 (t + 13 + 1 + T.exc) 1 = nI n_good) (v_kind : h'.1 (t + 13 + 1 + T.exc) 2 = nI n_kind) (v_strong : h'.1 (t + 13 + 1 + T.exc) 3 = nI n_strong) (v_once : h'.1 (t + 13 + 1 + T.exc) 4 = nI n_once) : TxC t (T.aExc n_price n_good n_kind n_strong n_once) h' := by
  have w1 := w.men; have w2 := w.exc; have w3 := w.dut; have w4 := w.tst
  apply TxC.mk
  · exact (k.i (by unfold KcT; omega)).trans x.men
  · exact v
  · exact (k.i (by unfold KcT; omega)).trans x.dut
  · exact (k.i (by unfold KcT; omega)).trans x.tst
  · exact (k.i (by unfold KcT; omega)).trans x.kno
  · exact (k.i (by unfold KcT; omega)).trans x.rain
  · exact (k.i (by unfold KcT; omega)).trans x.coin
  · exact (k.i (by unfold KcT; omega)).trans x.seed
  · intro i hi; have hi : i < T.men := hi; exact (k.i (by unfold KcT; omega)).trans (x.trust i hi)
  · intro i hi; have hi : i < T.men := hi; exact (k.i (by unfold KcT; omega)).trans (x.mend i hi)
  · intro i hi; have hi : i < T.men := hi; exact (k.i (by unfold KcT; omega)).trans (x.know i hi)
  · intro i hi; have hi : i < T.exc + 1 := hi; show h'.1 (t + 13 + 1 + i) 0 = nI (upN T.price T.exc n_price i)
    by_cases q : i = T.exc
    · rw [q, upN_eq]; exact v_price
    · rw [upN_ne q]; exact (k.i (by unfold KcT; omega)).trans (x.price i (by omega))
  · intro i hi; have hi : i < T.exc + 1 := hi; show h'.1 (t + 13 + 1 + i) 1 = nI (upN T.good T.exc n_good i)
    by_cases q : i = T.exc
    · rw [q, upN_eq]; exact v_good
    · rw [upN_ne q]; exact (k.i (by unfold KcT; omega)).trans (x.good i (by omega))
  · intro i hi; have hi : i < T.exc + 1 := hi; show h'.1 (t + 13 + 1 + i) 2 = nI (upN T.kind T.exc n_kind i)
    by_cases q : i = T.exc
    · rw [q, upN_eq]; exact v_kind
    · rw [upN_ne q]; exact (k.i (by unfold KcT; omega)).trans (x.kind i (by omega))
  · intro i hi; have hi : i < T.exc + 1 := hi; show h'.1 (t + 13 + 1 + i) 3 = nI (upN T.strong T.exc n_strong i)
    by_cases q : i = T.exc
    · rw [q, upN_eq]; exact v_strong
    · rw [upN_ne q]; exact (k.i (by unfold KcT; omega)).trans (x.strong i (by omega))
  · intro i hi; have hi : i < T.exc + 1 := hi; show h'.1 (t + 13 + 1 + i) 4 = nI (upN T.once T.exc n_once i)
    by_cases q : i = T.exc
    · rw [q, upN_eq]; exact v_once
    · rw [upN_ne q]; exact (k.i (by unfold KcT; omega)).trans (x.once i (by omega))
  · intro i hi; have hi : i < T.dut := hi; exact (k.i (by unfold KcT; omega)).trans (x.dman i hi)
  · intro i hi; have hi : i < T.dut := hi; exact (k.i (by unfold KcT; omega)).trans (x.dday i hi)
  · intro i hi; have hi : i < T.dut := hi; exact (k.i (by unfold KcT; omega)).trans (x.dhrs i hi)
  · intro i hi; have hi : i < T.tst := hi; exact (k.i (by unfold KcT; omega)).trans (x.ring i hi)
theorem TxR.aExc {s : Nat} {T : TX} {h h' : PH} {n_price n_good n_kind n_strong n_once : Nat} (x : TxR s T h) (w : T.wf) (h9 : T.exc < 7) (k : KP (KrT s 15 16 20 (7 * s + T.exc)) h h') (v : h'.1 15 s = nI (T.exc + 1)) (v_price : h'.1 16 (7 * s + T.exc) = nI n_price) (v_good : h'.1 17 (7 * s + T.exc) = nI n_good) (v_kind : h'.1 18 (7 * s + T.exc) = nI n_kind) (v_strong : h'.1 19 (7 * s + T.exc) = nI n_strong) (v_once : h'.1 20 (7 * s + T.exc) = nI n_once) : TxR s (T.aExc n_price n_good n_kind n_strong n_once) h' := by
  have w1 := w.men; have w2 := w.exc; have w3 := w.dut; have w4 := w.tst
  apply TxR.mk
  · exact (k.i (by unfold KrT; omega)).trans x.men
  · exact v
  · exact (k.i (by unfold KrT; omega)).trans x.dut
  · exact (k.i (by unfold KrT; omega)).trans x.tst
  · exact (k.i (by unfold KrT; omega)).trans x.kno
  · exact (k.i (by unfold KrT; omega)).trans x.rain
  · exact (k.i (by unfold KrT; omega)).trans x.coin
  · exact (k.i (by unfold KrT; omega)).trans x.seed
  · intro i hi; have hi : i < T.men := hi; exact (k.i (by unfold KrT; omega)).trans (x.trust i hi)
  · intro i hi; have hi : i < T.men := hi; exact (k.i (by unfold KrT; omega)).trans (x.mend i hi)
  · intro i hi; have hi : i < T.men := hi; exact (k.i (by unfold KrT; omega)).trans (x.know i hi)
  · intro i hi; have hi : i < T.exc + 1 := hi; show h'.1 16 (7 * s + i) = nI (upN T.price T.exc n_price i)
    by_cases q : i = T.exc
    · rw [q, upN_eq]; exact v_price
    · rw [upN_ne q]; exact (k.i (by unfold KrT; omega)).trans (x.price i (by omega))
  · intro i hi; have hi : i < T.exc + 1 := hi; show h'.1 17 (7 * s + i) = nI (upN T.good T.exc n_good i)
    by_cases q : i = T.exc
    · rw [q, upN_eq]; exact v_good
    · rw [upN_ne q]; exact (k.i (by unfold KrT; omega)).trans (x.good i (by omega))
  · intro i hi; have hi : i < T.exc + 1 := hi; show h'.1 18 (7 * s + i) = nI (upN T.kind T.exc n_kind i)
    by_cases q : i = T.exc
    · rw [q, upN_eq]; exact v_kind
    · rw [upN_ne q]; exact (k.i (by unfold KrT; omega)).trans (x.kind i (by omega))
  · intro i hi; have hi : i < T.exc + 1 := hi; show h'.1 19 (7 * s + i) = nI (upN T.strong T.exc n_strong i)
    by_cases q : i = T.exc
    · rw [q, upN_eq]; exact v_strong
    · rw [upN_ne q]; exact (k.i (by unfold KrT; omega)).trans (x.strong i (by omega))
  · intro i hi; have hi : i < T.exc + 1 := hi; show h'.1 20 (7 * s + i) = nI (upN T.once T.exc n_once i)
    by_cases q : i = T.exc
    · rw [q, upN_eq]; exact v_once
    · rw [upN_ne q]; exact (k.i (by unfold KrT; omega)).trans (x.once i (by omega))
  · intro i hi; have hi : i < T.dut := hi; exact (k.i (by unfold KrT; omega)).trans (x.dman i hi)
  · intro i hi; have hi : i < T.dut := hi; exact (k.i (by unfold KrT; omega)).trans (x.dday i hi)
  · intro i hi; have hi : i < T.dut := hi; exact (k.i (by unfold KrT; omega)).trans (x.dhrs i hi)
  · intro i hi; have hi : i < T.tst := hi; exact (k.i (by unfold KrT; omega)).trans (x.ring i hi)
def TX.aDut (T : TX) (n_dman : Nat) (n_dday : Nat) (n_dhrs : Nat) : TX := TX.mk T.men T.exc (T.dut + 1) T.tst T.kno T.rain T.coin T.seed T.trust T.mend T.know T.price T.good T.kind T.strong T.once (upN T.dman T.dut n_dman) (upN T.dday T.dut n_dday) (upN T.dhrs T.dut n_dhrs) T.ring
theorem TX.aDut_wf {T : TX} {n_dman n_dday n_dhrs : Nat} (w : T.wf) (h : T.dut < 9) (h_dman : n_dman < T.men) (h_dday : n_dday ≤ 99) (h_dhrs : n_dhrs ≤ 9) : (T.aDut n_dman n_dday n_dhrs).wf := by
  apply TX.wf.mk
  · exact w.men
  · exact w.exc
  · show T.dut + 1 ≤ 9; omega
  · exact w.tst
  · exact w.kno
  · exact w.rain
  · exact w.coin
  · exact w.trust
  · exact w.mend
  · exact w.know
  · exact w.price
  · exact w.good
  · exact w.kind
  · exact w.strong
  · exact w.once
  · intro i hi; have hi : i < T.dut + 1 := hi; show upN T.dman T.dut n_dman i < T.men
    by_cases q : i = T.dut
    · rw [q, upN_eq]; exact h_dman
    · rw [upN_ne q]; exact w.dman i (by omega)
  · intro i hi; have hi : i < T.dut + 1 := hi; show upN T.dday T.dut n_dday i ≤ 99
    by_cases q : i = T.dut
    · rw [q, upN_eq]; exact h_dday
    · rw [upN_ne q]; exact w.dday i (by omega)
  · intro i hi; have hi : i < T.dut + 1 := hi; show upN T.dhrs T.dut n_dhrs i ≤ 9
    by_cases q : i = T.dut
    · rw [q, upN_eq]; exact h_dhrs
    · rw [upN_ne q]; exact w.dhrs i (by omega)
  · exact w.ring
theorem TxC.aDut {t : Nat} {T : TX} {h h' : PH} {n_dman n_dday n_dhrs : Nat} (x : TxC t T h) (w : T.wf) (h9 : T.dut < 9) (k : KP (KcT t 2 (t + 21 + 1 + T.dut) 99) h h') (v : h'.1 t 2 = nI (T.dut + 1)) (v_dman : h'.1 (t + 21 + 1 + T.dut) 0 = nI n_dman) (v_dday : h'.1 (t + 21 + 1 + T.dut) 1 = nI n_dday) (v_dhrs : h'.1 (t + 21 + 1 + T.dut) 2 = nI n_dhrs) : TxC t (T.aDut n_dman n_dday n_dhrs) h' := by
  have w1 := w.men; have w2 := w.exc; have w3 := w.dut; have w4 := w.tst
  apply TxC.mk
  · exact (k.i (by unfold KcT; omega)).trans x.men
  · exact (k.i (by unfold KcT; omega)).trans x.exc
  · exact v
  · exact (k.i (by unfold KcT; omega)).trans x.tst
  · exact (k.i (by unfold KcT; omega)).trans x.kno
  · exact (k.i (by unfold KcT; omega)).trans x.rain
  · exact (k.i (by unfold KcT; omega)).trans x.coin
  · exact (k.i (by unfold KcT; omega)).trans x.seed
  · intro i hi; have hi : i < T.men := hi; exact (k.i (by unfold KcT; omega)).trans (x.trust i hi)
  · intro i hi; have hi : i < T.men := hi; exact (k.i (by unfold KcT; omega)).trans (x.mend i hi)
  · intro i hi; have hi : i < T.men := hi; exact (k.i (by unfold KcT; omega)).trans (x.know i hi)
  · intro i hi; have hi : i < T.exc := hi; exact (k.i (by unfold KcT; omega)).trans (x.price i hi)
  · intro i hi; have hi : i < T.exc := hi; exact (k.i (by unfold KcT; omega)).trans (x.good i hi)
  · intro i hi; have hi : i < T.exc := hi; exact (k.i (by unfold KcT; omega)).trans (x.kind i hi)
  · intro i hi; have hi : i < T.exc := hi; exact (k.i (by unfold KcT; omega)).trans (x.strong i hi)
  · intro i hi; have hi : i < T.exc := hi; exact (k.i (by unfold KcT; omega)).trans (x.once i hi)
  · intro i hi; have hi : i < T.dut + 1 := hi; show h'.1 (t + 21 + 1 + i) 0 = nI (upN T.dman T.dut n_dman i)
    by_cases q : i = T.dut
    · rw [q, upN_eq]; exact v_dman
    · rw [upN_ne q]; exact (k.i (by unfold KcT; omega)).trans (x.dman i (by omega))
  · intro i hi; have hi : i < T.dut + 1 := hi; show h'.1 (t + 21 + 1 + i) 1 = nI (upN T.dday T.dut n_dday i)
    by_cases q : i = T.dut
    · rw [q, upN_eq]; exact v_dday
    · rw [upN_ne q]; exact (k.i (by unfold KcT; omega)).trans (x.dday i (by omega))
  · intro i hi; have hi : i < T.dut + 1 := hi; show h'.1 (t + 21 + 1 + i) 2 = nI (upN T.dhrs T.dut n_dhrs i)
    by_cases q : i = T.dut
    · rw [q, upN_eq]; exact v_dhrs
    · rw [upN_ne q]; exact (k.i (by unfold KcT; omega)).trans (x.dhrs i (by omega))
  · intro i hi; have hi : i < T.tst := hi; exact (k.i (by unfold KcT; omega)).trans (x.ring i hi)
theorem TxR.aDut {s : Nat} {T : TX} {h h' : PH} {n_dman n_dday n_dhrs : Nat} (x : TxR s T h) (w : T.wf) (h9 : T.dut < 9) (k : KP (KrT s 21 22 24 (9 * s + T.dut)) h h') (v : h'.1 21 s = nI (T.dut + 1)) (v_dman : h'.1 22 (9 * s + T.dut) = nI n_dman) (v_dday : h'.1 23 (9 * s + T.dut) = nI n_dday) (v_dhrs : h'.1 24 (9 * s + T.dut) = nI n_dhrs) : TxR s (T.aDut n_dman n_dday n_dhrs) h' := by
  have w1 := w.men; have w2 := w.exc; have w3 := w.dut; have w4 := w.tst
  apply TxR.mk
  · exact (k.i (by unfold KrT; omega)).trans x.men
  · exact (k.i (by unfold KrT; omega)).trans x.exc
  · exact v
  · exact (k.i (by unfold KrT; omega)).trans x.tst
  · exact (k.i (by unfold KrT; omega)).trans x.kno
  · exact (k.i (by unfold KrT; omega)).trans x.rain
  · exact (k.i (by unfold KrT; omega)).trans x.coin
  · exact (k.i (by unfold KrT; omega)).trans x.seed
  · intro i hi; have hi : i < T.men := hi; exact (k.i (by unfold KrT; omega)).trans (x.trust i hi)
  · intro i hi; have hi : i < T.men := hi; exact (k.i (by unfold KrT; omega)).trans (x.mend i hi)
  · intro i hi; have hi : i < T.men := hi; exact (k.i (by unfold KrT; omega)).trans (x.know i hi)
  · intro i hi; have hi : i < T.exc := hi; exact (k.i (by unfold KrT; omega)).trans (x.price i hi)
  · intro i hi; have hi : i < T.exc := hi; exact (k.i (by unfold KrT; omega)).trans (x.good i hi)
  · intro i hi; have hi : i < T.exc := hi; exact (k.i (by unfold KrT; omega)).trans (x.kind i hi)
  · intro i hi; have hi : i < T.exc := hi; exact (k.i (by unfold KrT; omega)).trans (x.strong i hi)
  · intro i hi; have hi : i < T.exc := hi; exact (k.i (by unfold KrT; omega)).trans (x.once i hi)
  · intro i hi; have hi : i < T.dut + 1 := hi; show h'.1 22 (9 * s + i) = nI (upN T.dman T.dut n_dman i)
    by_cases q : i = T.dut
    · rw [q, upN_eq]; exact v_dman
    · rw [upN_ne q]; exact (k.i (by unfold KrT; omega)).trans (x.dman i (by omega))
  · intro i hi; have hi : i < T.dut + 1 := hi; show h'.1 23 (9 * s + i) = nI (upN T.dday T.dut n_dday i)
    by_cases q : i = T.dut
    · rw [q, upN_eq]; exact v_dday
    · rw [upN_ne q]; exact (k.i (by unfold KrT; omega)).trans (x.dday i (by omega))
  · intro i hi; have hi : i < T.dut + 1 := hi; show h'.1 24 (9 * s + i) = nI (upN T.dhrs T.dut n_dhrs i)
    by_cases q : i = T.dut
    · rw [q, upN_eq]; exact v_dhrs
    · rw [upN_ne q]; exact (k.i (by unfold KrT; omega)).trans (x.dhrs i (by omega))
  · intro i hi; have hi : i < T.tst := hi; exact (k.i (by unfold KrT; omega)).trans (x.ring i hi)
def TX.aTst (T : TX) (n_ring : Nat) : TX := TX.mk T.men T.exc T.dut (T.tst + 1) T.kno T.rain T.coin T.seed T.trust T.mend T.know T.price T.good T.kind T.strong T.once T.dman T.dday T.dhrs (upN T.ring T.tst n_ring)
theorem TX.aTst_wf {T : TX} {n_ring : Nat} (w : T.wf) (h : T.tst < 6) (h_ring : n_ring < 128) : (T.aTst n_ring).wf := by
  apply TX.wf.mk
  · exact w.men
  · exact w.exc
  · exact w.dut
  · show T.tst + 1 ≤ 6; omega
  · exact w.kno
  · exact w.rain
  · exact w.coin
  · exact w.trust
  · exact w.mend
  · exact w.know
  · exact w.price
  · exact w.good
  · exact w.kind
  · exact w.strong
  · exact w.once
  · exact w.dman
  · exact w.dday
  · exact w.dhrs
  · intro i hi; have hi : i < T.tst + 1 := hi; show upN T.ring T.tst n_ring i < 128
    by_cases q : i = T.tst
    · rw [q, upN_eq]; exact h_ring
    · rw [upN_ne q]; exact w.ring i (by omega)
theorem TxC.aTst {t : Nat} {T : TX} {h h' : PH} {n_ring : Nat} (x : TxC t T h) (w : T.wf) (h9 : T.tst < 6) (k : KP (KcT t 3 (t + 31) T.tst) h h') (v : h'.1 t 3 = nI (T.tst + 1)) (v_ring : h'.1 (t + 31) T.tst = nI n_ring) : TxC t (T.aTst n_ring) h' := by
  have w1 := w.men; have w2 := w.exc; have w3 := w.dut; have w4 := w.tst
  apply TxC.mk
  · exact (k.i (by unfold KcT; omega)).trans x.men
  · exact (k.i (by unfold KcT; omega)).trans x.exc
  · exact (k.i (by unfold KcT; omega)).trans x.dut
  · exact v
  · exact (k.i (by unfold KcT; omega)).trans x.kno
  · exact (k.i (by unfold KcT; omega)).trans x.rain
  · exact (k.i (by unfold KcT; omega)).trans x.coin
  · exact (k.i (by unfold KcT; omega)).trans x.seed
  · intro i hi; have hi : i < T.men := hi; exact (k.i (by unfold KcT; omega)).trans (x.trust i hi)
  · intro i hi; have hi : i < T.men := hi; exact (k.i (by unfold KcT; omega)).trans (x.mend i hi)
  · intro i hi; have hi : i < T.men := hi; exact (k.i (by unfold KcT; omega)).trans (x.know i hi)
  · intro i hi; have hi : i < T.exc := hi; exact (k.i (by unfold KcT; omega)).trans (x.price i hi)
  · intro i hi; have hi : i < T.exc := hi; exact (k.i (by unfold KcT; omega)).trans (x.good i hi)
  · intro i hi; have hi : i < T.exc := hi; exact (k.i (by unfold KcT; omega)).trans (x.kind i hi)
  · intro i hi; have hi : i < T.exc := hi; exact (k.i (by unfold KcT; omega)).trans (x.strong i hi)
  · intro i hi; have hi : i < T.exc := hi; exact (k.i (by unfold KcT; omega)).trans (x.once i hi)
  · intro i hi; have hi : i < T.dut := hi; exact (k.i (by unfold KcT; omega)).trans (x.dman i hi)
  · intro i hi; have hi : i < T.dut := hi; exact (k.i (by unfold KcT; omega)).trans (x.dday i hi)
  · intro i hi; have hi : i < T.dut := hi; exact (k.i (by unfold KcT; omega)).trans (x.dhrs i hi)
  · intro i hi; have hi : i < T.tst + 1 := hi; show h'.1 (t + 31) i = nI (upN T.ring T.tst n_ring i)
    by_cases q : i = T.tst
    · rw [q, upN_eq]; exact v_ring
    · rw [upN_ne q]; exact (k.i (by unfold KcT; omega)).trans (x.ring i (by omega))
theorem TxR.aTst {s : Nat} {T : TX} {h h' : PH} {n_ring : Nat} (x : TxR s T h) (w : T.wf) (h9 : T.tst < 6) (k : KP (KrT s 26 27 27 (6 * s + T.tst)) h h') (v : h'.1 26 s = nI (T.tst + 1)) (v_ring : h'.1 27 (6 * s + T.tst) = nI n_ring) : TxR s (T.aTst n_ring) h' := by
  have w1 := w.men; have w2 := w.exc; have w3 := w.dut; have w4 := w.tst
  apply TxR.mk
  · exact (k.i (by unfold KrT; omega)).trans x.men
  · exact (k.i (by unfold KrT; omega)).trans x.exc
  · exact (k.i (by unfold KrT; omega)).trans x.dut
  · exact v
  · exact (k.i (by unfold KrT; omega)).trans x.kno
  · exact (k.i (by unfold KrT; omega)).trans x.rain
  · exact (k.i (by unfold KrT; omega)).trans x.coin
  · exact (k.i (by unfold KrT; omega)).trans x.seed
  · intro i hi; have hi : i < T.men := hi; exact (k.i (by unfold KrT; omega)).trans (x.trust i hi)
  · intro i hi; have hi : i < T.men := hi; exact (k.i (by unfold KrT; omega)).trans (x.mend i hi)
  · intro i hi; have hi : i < T.men := hi; exact (k.i (by unfold KrT; omega)).trans (x.know i hi)
  · intro i hi; have hi : i < T.exc := hi; exact (k.i (by unfold KrT; omega)).trans (x.price i hi)
  · intro i hi; have hi : i < T.exc := hi; exact (k.i (by unfold KrT; omega)).trans (x.good i hi)
  · intro i hi; have hi : i < T.exc := hi; exact (k.i (by unfold KrT; omega)).trans (x.kind i hi)
  · intro i hi; have hi : i < T.exc := hi; exact (k.i (by unfold KrT; omega)).trans (x.strong i hi)
  · intro i hi; have hi : i < T.exc := hi; exact (k.i (by unfold KrT; omega)).trans (x.once i hi)
  · intro i hi; have hi : i < T.dut := hi; exact (k.i (by unfold KrT; omega)).trans (x.dman i hi)
  · intro i hi; have hi : i < T.dut := hi; exact (k.i (by unfold KrT; omega)).trans (x.dday i hi)
  · intro i hi; have hi : i < T.dut := hi; exact (k.i (by unfold KrT; omega)).trans (x.dhrs i hi)
  · intro i hi; have hi : i < T.tst + 1 := hi; show h'.1 27 (6 * s + i) = nI (upN T.ring T.tst n_ring i)
    by_cases q : i = T.tst
    · rw [q, upN_eq]; exact v_ring
    · rw [upN_ne q]; exact (k.i (by unfold KrT; omega)).trans (x.ring i (by omega))
def TX.sRain (T : TX) (n : Nat) : TX := TX.mk T.men T.exc T.dut T.tst T.kno n T.coin T.seed T.trust T.mend T.know T.price T.good T.kind T.strong T.once T.dman T.dday T.dhrs T.ring
theorem TX.sRain_wf {T : TX} {n : Nat} (w : T.wf) (h : n ≤ 100) : (T.sRain n).wf := by
  apply TX.wf.mk
  · exact w.men
  · exact w.exc
  · exact w.dut
  · exact w.tst
  · exact w.kno
  · exact h
  · exact w.coin
  · exact w.trust
  · exact w.mend
  · exact w.know
  · exact w.price
  · exact w.good
  · exact w.kind
  · exact w.strong
  · exact w.once
  · exact w.dman
  · exact w.dday
  · exact w.dhrs
  · exact w.ring
theorem TxC.sRain {t : Nat} {T : TX} {h h' : PH} {n : Nat} (x : TxC t T h) (w : T.wf) (k : KP (KcT t 5 0 99) h h') (v : h'.1 t 5 = nI n) : TxC t (T.sRain n) h' := by
  have w1 := w.men; have w2 := w.exc; have w3 := w.dut; have w4 := w.tst
  apply TxC.mk
  · exact (k.i (by unfold KcT; omega)).trans x.men
  · exact (k.i (by unfold KcT; omega)).trans x.exc
  · exact (k.i (by unfold KcT; omega)).trans x.dut
  · exact (k.i (by unfold KcT; omega)).trans x.tst
  · exact (k.i (by unfold KcT; omega)).trans x.kno
  · exact v
  · exact (k.i (by unfold KcT; omega)).trans x.coin
  · exact (k.i (by unfold KcT; omega)).trans x.seed
  · intro i hi; have hi : i < T.men := hi; exact (k.i (by unfold KcT; omega)).trans (x.trust i hi)
  · intro i hi; have hi : i < T.men := hi; exact (k.i (by unfold KcT; omega)).trans (x.mend i hi)
  · intro i hi; have hi : i < T.men := hi; exact (k.i (by unfold KcT; omega)).trans (x.know i hi)
  · intro i hi; have hi : i < T.exc := hi; exact (k.i (by unfold KcT; omega)).trans (x.price i hi)
  · intro i hi; have hi : i < T.exc := hi; exact (k.i (by unfold KcT; omega)).trans (x.good i hi)
  · intro i hi; have hi : i < T.exc := hi; exact (k.i (by unfold KcT; omega)).trans (x.kind i hi)
  · intro i hi; have hi : i < T.exc := hi; exact (k.i (by unfold KcT; omega)).trans (x.strong i hi)
  · intro i hi; have hi : i < T.exc := hi; exact (k.i (by unfold KcT; omega)).trans (x.once i hi)
  · intro i hi; have hi : i < T.dut := hi; exact (k.i (by unfold KcT; omega)).trans (x.dman i hi)
  · intro i hi; have hi : i < T.dut := hi; exact (k.i (by unfold KcT; omega)).trans (x.dday i hi)
  · intro i hi; have hi : i < T.dut := hi; exact (k.i (by unfold KcT; omega)).trans (x.dhrs i hi)
  · intro i hi; have hi : i < T.tst := hi; exact (k.i (by unfold KcT; omega)).trans (x.ring i hi)
theorem TxR.sRain {s : Nat} {T : TX} {h h' : PH} {n : Nat} (x : TxR s T h) (w : T.wf) (k : KP (KrT s 28 1 0 0) h h') (v : h'.1 28 s = nI n) : TxR s (T.sRain n) h' := by
  have w1 := w.men; have w2 := w.exc; have w3 := w.dut; have w4 := w.tst
  apply TxR.mk
  · exact (k.i (by unfold KrT; omega)).trans x.men
  · exact (k.i (by unfold KrT; omega)).trans x.exc
  · exact (k.i (by unfold KrT; omega)).trans x.dut
  · exact (k.i (by unfold KrT; omega)).trans x.tst
  · exact (k.i (by unfold KrT; omega)).trans x.kno
  · exact v
  · exact (k.i (by unfold KrT; omega)).trans x.coin
  · exact (k.i (by unfold KrT; omega)).trans x.seed
  · intro i hi; have hi : i < T.men := hi; exact (k.i (by unfold KrT; omega)).trans (x.trust i hi)
  · intro i hi; have hi : i < T.men := hi; exact (k.i (by unfold KrT; omega)).trans (x.mend i hi)
  · intro i hi; have hi : i < T.men := hi; exact (k.i (by unfold KrT; omega)).trans (x.know i hi)
  · intro i hi; have hi : i < T.exc := hi; exact (k.i (by unfold KrT; omega)).trans (x.price i hi)
  · intro i hi; have hi : i < T.exc := hi; exact (k.i (by unfold KrT; omega)).trans (x.good i hi)
  · intro i hi; have hi : i < T.exc := hi; exact (k.i (by unfold KrT; omega)).trans (x.kind i hi)
  · intro i hi; have hi : i < T.exc := hi; exact (k.i (by unfold KrT; omega)).trans (x.strong i hi)
  · intro i hi; have hi : i < T.exc := hi; exact (k.i (by unfold KrT; omega)).trans (x.once i hi)
  · intro i hi; have hi : i < T.dut := hi; exact (k.i (by unfold KrT; omega)).trans (x.dman i hi)
  · intro i hi; have hi : i < T.dut := hi; exact (k.i (by unfold KrT; omega)).trans (x.dday i hi)
  · intro i hi; have hi : i < T.dut := hi; exact (k.i (by unfold KrT; omega)).trans (x.dhrs i hi)
  · intro i hi; have hi : i < T.tst := hi; exact (k.i (by unfold KrT; omega)).trans (x.ring i hi)
def TX.sCoin (T : TX) (n : Nat) : TX := TX.mk T.men T.exc T.dut T.tst T.kno T.rain n T.seed T.trust T.mend T.know T.price T.good T.kind T.strong T.once T.dman T.dday T.dhrs T.ring
theorem TX.sCoin_wf {T : TX} {n : Nat} (w : T.wf) (h : n ≤ 9999) : (T.sCoin n).wf := by
  apply TX.wf.mk
  · exact w.men
  · exact w.exc
  · exact w.dut
  · exact w.tst
  · exact w.kno
  · exact w.rain
  · exact h
  · exact w.trust
  · exact w.mend
  · exact w.know
  · exact w.price
  · exact w.good
  · exact w.kind
  · exact w.strong
  · exact w.once
  · exact w.dman
  · exact w.dday
  · exact w.dhrs
  · exact w.ring
theorem TxC.sCoin {t : Nat} {T : TX} {h h' : PH} {n : Nat} (x : TxC t T h) (w : T.wf) (k : KP (KcT t 6 0 99) h h') (v : h'.1 t 6 = nI n) : TxC t (T.sCoin n) h' := by
  have w1 := w.men; have w2 := w.exc; have w3 := w.dut; have w4 := w.tst
  apply TxC.mk
  · exact (k.i (by unfold KcT; omega)).trans x.men
  · exact (k.i (by unfold KcT; omega)).trans x.exc
  · exact (k.i (by unfold KcT; omega)).trans x.dut
  · exact (k.i (by unfold KcT; omega)).trans x.tst
  · exact (k.i (by unfold KcT; omega)).trans x.kno
  · exact (k.i (by unfold KcT; omega)).trans x.rain
  · exact v
  · exact (k.i (by unfold KcT; omega)).trans x.seed
  · intro i hi; have hi : i < T.men := hi; exact (k.i (by unfold KcT; omega)).trans (x.trust i hi)
  · intro i hi; have hi : i < T.men := hi; exact (k.i (by unfold KcT; omega)).trans (x.mend i hi)
  · intro i hi; have hi : i < T.men := hi; exact (k.i (by unfold KcT; omega)).trans (x.know i hi)
  · intro i hi; have hi : i < T.exc := hi; exact (k.i (by unfold KcT; omega)).trans (x.price i hi)
  · intro i hi; have hi : i < T.exc := hi; exact (k.i (by unfold KcT; omega)).trans (x.good i hi)
  · intro i hi; have hi : i < T.exc := hi; exact (k.i (by unfold KcT; omega)).trans (x.kind i hi)
  · intro i hi; have hi : i < T.exc := hi; exact (k.i (by unfold KcT; omega)).trans (x.strong i hi)
  · intro i hi; have hi : i < T.exc := hi; exact (k.i (by unfold KcT; omega)).trans (x.once i hi)
  · intro i hi; have hi : i < T.dut := hi; exact (k.i (by unfold KcT; omega)).trans (x.dman i hi)
  · intro i hi; have hi : i < T.dut := hi; exact (k.i (by unfold KcT; omega)).trans (x.dday i hi)
  · intro i hi; have hi : i < T.dut := hi; exact (k.i (by unfold KcT; omega)).trans (x.dhrs i hi)
  · intro i hi; have hi : i < T.tst := hi; exact (k.i (by unfold KcT; omega)).trans (x.ring i hi)
theorem TxR.sCoin {s : Nat} {T : TX} {h h' : PH} {n : Nat} (x : TxR s T h) (w : T.wf) (k : KP (KrT s 29 1 0 0) h h') (v : h'.1 29 s = nI n) : TxR s (T.sCoin n) h' := by
  have w1 := w.men; have w2 := w.exc; have w3 := w.dut; have w4 := w.tst
  apply TxR.mk
  · exact (k.i (by unfold KrT; omega)).trans x.men
  · exact (k.i (by unfold KrT; omega)).trans x.exc
  · exact (k.i (by unfold KrT; omega)).trans x.dut
  · exact (k.i (by unfold KrT; omega)).trans x.tst
  · exact (k.i (by unfold KrT; omega)).trans x.kno
  · exact (k.i (by unfold KrT; omega)).trans x.rain
  · exact v
  · exact (k.i (by unfold KrT; omega)).trans x.seed
  · intro i hi; have hi : i < T.men := hi; exact (k.i (by unfold KrT; omega)).trans (x.trust i hi)
  · intro i hi; have hi : i < T.men := hi; exact (k.i (by unfold KrT; omega)).trans (x.mend i hi)
  · intro i hi; have hi : i < T.men := hi; exact (k.i (by unfold KrT; omega)).trans (x.know i hi)
  · intro i hi; have hi : i < T.exc := hi; exact (k.i (by unfold KrT; omega)).trans (x.price i hi)
  · intro i hi; have hi : i < T.exc := hi; exact (k.i (by unfold KrT; omega)).trans (x.good i hi)
  · intro i hi; have hi : i < T.exc := hi; exact (k.i (by unfold KrT; omega)).trans (x.kind i hi)
  · intro i hi; have hi : i < T.exc := hi; exact (k.i (by unfold KrT; omega)).trans (x.strong i hi)
  · intro i hi; have hi : i < T.exc := hi; exact (k.i (by unfold KrT; omega)).trans (x.once i hi)
  · intro i hi; have hi : i < T.dut := hi; exact (k.i (by unfold KrT; omega)).trans (x.dman i hi)
  · intro i hi; have hi : i < T.dut := hi; exact (k.i (by unfold KrT; omega)).trans (x.dday i hi)
  · intro i hi; have hi : i < T.dut := hi; exact (k.i (by unfold KrT; omega)).trans (x.dhrs i hi)
  · intro i hi; have hi : i < T.tst := hi; exact (k.i (by unfold KrT; omega)).trans (x.ring i hi)
def TX.sSeed (T : TX) (n : Int32) : TX := TX.mk T.men T.exc T.dut T.tst T.kno T.rain T.coin n T.trust T.mend T.know T.price T.good T.kind T.strong T.once T.dman T.dday T.dhrs T.ring
theorem TX.sSeed_wf {T : TX} {n : Int32} (w : T.wf) : (T.sSeed n).wf := by
  apply TX.wf.mk
  · exact w.men
  · exact w.exc
  · exact w.dut
  · exact w.tst
  · exact w.kno
  · exact w.rain
  · exact w.coin
  · exact w.trust
  · exact w.mend
  · exact w.know
  · exact w.price
  · exact w.good
  · exact w.kind
  · exact w.strong
  · exact w.once
  · exact w.dman
  · exact w.dday
  · exact w.dhrs
  · exact w.ring
theorem TxC.sSeed {t : Nat} {T : TX} {h h' : PH} {n : Int32} (x : TxC t T h) (w : T.wf) (k : KP (KcT t 7 0 99) h h') (v : h'.1 t 7 = n) : TxC t (T.sSeed n) h' := by
  have w1 := w.men; have w2 := w.exc; have w3 := w.dut; have w4 := w.tst
  apply TxC.mk
  · exact (k.i (by unfold KcT; omega)).trans x.men
  · exact (k.i (by unfold KcT; omega)).trans x.exc
  · exact (k.i (by unfold KcT; omega)).trans x.dut
  · exact (k.i (by unfold KcT; omega)).trans x.tst
  · exact (k.i (by unfold KcT; omega)).trans x.kno
  · exact (k.i (by unfold KcT; omega)).trans x.rain
  · exact (k.i (by unfold KcT; omega)).trans x.coin
  · exact v
  · intro i hi; have hi : i < T.men := hi; exact (k.i (by unfold KcT; omega)).trans (x.trust i hi)
  · intro i hi; have hi : i < T.men := hi; exact (k.i (by unfold KcT; omega)).trans (x.mend i hi)
  · intro i hi; have hi : i < T.men := hi; exact (k.i (by unfold KcT; omega)).trans (x.know i hi)
  · intro i hi; have hi : i < T.exc := hi; exact (k.i (by unfold KcT; omega)).trans (x.price i hi)
  · intro i hi; have hi : i < T.exc := hi; exact (k.i (by unfold KcT; omega)).trans (x.good i hi)
  · intro i hi; have hi : i < T.exc := hi; exact (k.i (by unfold KcT; omega)).trans (x.kind i hi)
  · intro i hi; have hi : i < T.exc := hi; exact (k.i (by unfold KcT; omega)).trans (x.strong i hi)
  · intro i hi; have hi : i < T.exc := hi; exact (k.i (by unfold KcT; omega)).trans (x.once i hi)
  · intro i hi; have hi : i < T.dut := hi; exact (k.i (by unfold KcT; omega)).trans (x.dman i hi)
  · intro i hi; have hi : i < T.dut := hi; exact (k.i (by unfold KcT; omega)).trans (x.dday i hi)
  · intro i hi; have hi : i < T.dut := hi; exact (k.i (by unfold KcT; omega)).trans (x.dhrs i hi)
  · intro i hi; have hi : i < T.tst := hi; exact (k.i (by unfold KcT; omega)).trans (x.ring i hi)
theorem TxR.sSeed {s : Nat} {T : TX} {h h' : PH} {n : Int32} (x : TxR s T h) (w : T.wf) (k : KP (KrT s 30 1 0 0) h h') (v : h'.1 30 s = n) : TxR s (T.sSeed n) h' := by
  have w1 := w.men; have w2 := w.exc; have w3 := w.dut; have w4 := w.tst
  apply TxR.mk
  · exact (k.i (by unfold KrT; omega)).trans x.men
  · exact (k.i (by unfold KrT; omega)).trans x.exc
  · exact (k.i (by unfold KrT; omega)).trans x.dut
  · exact (k.i (by unfold KrT; omega)).trans x.tst
  · exact (k.i (by unfold KrT; omega)).trans x.kno
  · exact (k.i (by unfold KrT; omega)).trans x.rain
  · exact (k.i (by unfold KrT; omega)).trans x.coin
  · exact v
  · intro i hi; have hi : i < T.men := hi; exact (k.i (by unfold KrT; omega)).trans (x.trust i hi)
  · intro i hi; have hi : i < T.men := hi; exact (k.i (by unfold KrT; omega)).trans (x.mend i hi)
  · intro i hi; have hi : i < T.men := hi; exact (k.i (by unfold KrT; omega)).trans (x.know i hi)
  · intro i hi; have hi : i < T.exc := hi; exact (k.i (by unfold KrT; omega)).trans (x.price i hi)
  · intro i hi; have hi : i < T.exc := hi; exact (k.i (by unfold KrT; omega)).trans (x.good i hi)
  · intro i hi; have hi : i < T.exc := hi; exact (k.i (by unfold KrT; omega)).trans (x.kind i hi)
  · intro i hi; have hi : i < T.exc := hi; exact (k.i (by unfold KrT; omega)).trans (x.strong i hi)
  · intro i hi; have hi : i < T.exc := hi; exact (k.i (by unfold KrT; omega)).trans (x.once i hi)
  · intro i hi; have hi : i < T.dut := hi; exact (k.i (by unfold KrT; omega)).trans (x.dman i hi)
  · intro i hi; have hi : i < T.dut := hi; exact (k.i (by unfold KrT; omega)).trans (x.dday i hi)
  · intro i hi; have hi : i < T.dut := hi; exact (k.i (by unfold KrT; omega)).trans (x.dhrs i hi)
  · intro i hi; have hi : i < T.tst := hi; exact (k.i (by unfold KrT; omega)).trans (x.ring i hi)
def TX.aKno (T : TX) (f : Nat → Nat) : TX := TX.mk T.men T.exc T.dut T.tst (T.kno + 1) T.rain T.coin T.seed T.trust T.mend f T.price T.good T.kind T.strong T.once T.dman T.dday T.dhrs T.ring
theorem TX.aKno_wf {T : TX} {f : Nat → Nat} (w : T.wf) (h : T.kno < 403) (hf : ∀ i, i < T.men → f i < 32) : (T.aKno f).wf := by
  apply TX.wf.mk
  · exact w.men
  · exact w.exc
  · exact w.dut
  · exact w.tst
  · show T.kno + 1 ≤ 403; omega
  · exact w.rain
  · exact w.coin
  · exact w.trust
  · exact w.mend
  · exact hf
  · exact w.price
  · exact w.good
  · exact w.kind
  · exact w.strong
  · exact w.once
  · exact w.dman
  · exact w.dday
  · exact w.dhrs
  · exact w.ring
theorem TxC.aKno {t : Nat} {T : TX} {h h' : PH} {f : Nat → Nat} (x : TxC t T h) (w : T.wf) (k : KP (fun p k => (p = t ∧ k ≤ 7 ∧ k ≠ 4) ∨ (t + 8 ≤ p ∧ p ≤ t + 31 ∧ ¬ (p ≤ t + 12 ∧ k = 2))) h h') (v : h'.1 t 4 = nI (T.kno + 1)) (vk : ∀ i, i < T.men → h'.1 (t + 7 + 1 + i) 2 = nI (f i)) : TxC t (T.aKno f) h' := by
  have w1 := w.men; have w2 := w.exc; have w3 := w.dut; have w4 := w.tst
  apply TxC.mk
  · exact (k.i (by omega)).trans x.men
  · exact (k.i (by omega)).trans x.exc
  · exact (k.i (by omega)).trans x.dut
  · exact (k.i (by omega)).trans x.tst
  · exact v
  · exact (k.i (by omega)).trans x.rain
  · exact (k.i (by omega)).trans x.coin
  · exact (k.i (by omega)).trans x.seed
  · intro i hi; have hi : i < T.men := hi; exact (k.i (by omega)).trans (x.trust i hi)
  · intro i hi; have hi : i < T.men := hi; exact (k.i (by omega)).trans (x.mend i hi)
  · exact vk
  · intro i hi; have hi : i < T.exc := hi; exact (k.i (by omega)).trans (x.price i hi)
  · intro i hi; have hi : i < T.exc := hi; exact (k.i (by omega)).trans (x.good i hi)
  · intro i hi; have hi : i < T.exc := hi; exact (k.i (by omega)).trans (x.kind i hi)
  · intro i hi; have hi : i < T.exc := hi; exact (k.i (by omega)).trans (x.strong i hi)
  · intro i hi; have hi : i < T.exc := hi; exact (k.i (by omega)).trans (x.once i hi)
  · intro i hi; have hi : i < T.dut := hi; exact (k.i (by omega)).trans (x.dman i hi)
  · intro i hi; have hi : i < T.dut := hi; exact (k.i (by omega)).trans (x.dday i hi)
  · intro i hi; have hi : i < T.dut := hi; exact (k.i (by omega)).trans (x.dhrs i hi)
  · intro i hi; have hi : i < T.tst := hi; exact (k.i (by omega)).trans (x.ring i hi)
theorem TxR.aKno {s : Nat} {T : TX} {h h' : PH} {f : Nat → Nat} (x : TxR s T h) (w : T.wf) (k : KP (fun p k => (11 ≤ p ∧ p ≤ 30) ∧ ¬ (p = 25 ∧ k = s) ∧ p ≠ 14) h h') (v : h'.1 25 s = nI (T.kno + 1)) (vk : ∀ i, i < T.men → h'.1 14 (5 * s + i) = nI (f i)) : TxR s (T.aKno f) h' := by
  have w1 := w.men; have w2 := w.exc; have w3 := w.dut; have w4 := w.tst
  apply TxR.mk
  · exact (k.i (by omega)).trans x.men
  · exact (k.i (by omega)).trans x.exc
  · exact (k.i (by omega)).trans x.dut
  · exact (k.i (by omega)).trans x.tst
  · exact v
  · exact (k.i (by omega)).trans x.rain
  · exact (k.i (by omega)).trans x.coin
  · exact (k.i (by omega)).trans x.seed
  · intro i hi; have hi : i < T.men := hi; exact (k.i (by omega)).trans (x.trust i hi)
  · intro i hi; have hi : i < T.men := hi; exact (k.i (by omega)).trans (x.mend i hi)
  · exact vk
  · intro i hi; have hi : i < T.exc := hi; exact (k.i (by omega)).trans (x.price i hi)
  · intro i hi; have hi : i < T.exc := hi; exact (k.i (by omega)).trans (x.good i hi)
  · intro i hi; have hi : i < T.exc := hi; exact (k.i (by omega)).trans (x.kind i hi)
  · intro i hi; have hi : i < T.exc := hi; exact (k.i (by omega)).trans (x.strong i hi)
  · intro i hi; have hi : i < T.exc := hi; exact (k.i (by omega)).trans (x.once i hi)
  · intro i hi; have hi : i < T.dut := hi; exact (k.i (by omega)).trans (x.dman i hi)
  · intro i hi; have hi : i < T.dut := hi; exact (k.i (by omega)).trans (x.dday i hi)
  · intro i hi; have hi : i < T.dut := hi; exact (k.i (by omega)).trans (x.dhrs i hi)
  · intro i hi; have hi : i < T.tst := hi; exact (k.i (by omega)).trans (x.ring i hi)
