def Cor (n : Nat) (T : TX) (σ : ST) (s t : Nat) (hc hr : PH) : Prop := (T.wf) ∧ (s < 2) ∧ (hr.1 0 18 = nI s) ∧ (t = 8 ∨ t = 43) ∧ (hc.2.2 0 4 = t) ∧ (TxC t T hc) ∧ (TxR s T hr) ∧ (ST.wf (60 * n) T 0 σ) ∧ (StC 78 σ hc) ∧ (StR 43 0 σ hr)
theorem Cor.twf {n : Nat} {T : TX} {σ : ST} {s t : Nat} {hc hr : PH} (w : Cor n T σ s t hc hr) : T.wf := w.1
theorem Cor.s2 {n : Nat} {T : TX} {σ : ST} {s t : Nat} {hc hr : PH} (w : Cor n T σ s t hc hr) : s < 2 := w.2.1
theorem Cor.live {n : Nat} {T : TX} {σ : ST} {s t : Nat} {hc hr : PH} (w : Cor n T σ s t hc hr) : hr.1 0 18 = nI s := w.2.2.1
theorem Cor.t2 {n : Nat} {T : TX} {σ : ST} {s t : Nat} {hc hr : PH} (w : Cor n T σ s t hc hr) : t = 8 ∨ t = 43 := w.2.2.2.1
theorem Cor.txt {n : Nat} {T : TX} {σ : ST} {s t : Nat} {hc hr : PH} (w : Cor n T σ s t hc hr) : hc.2.2 0 4 = t := w.2.2.2.2.1
theorem Cor.xc {n : Nat} {T : TX} {σ : ST} {s t : Nat} {hc hr : PH} (w : Cor n T σ s t hc hr) : TxC t T hc := w.2.2.2.2.2.1
theorem Cor.xr {n : Nat} {T : TX} {σ : ST} {s t : Nat} {hc hr : PH} (w : Cor n T σ s t hc hr) : TxR s T hr := w.2.2.2.2.2.2.1
theorem Cor.swf {n : Nat} {T : TX} {σ : ST} {s t : Nat} {hc hr : PH} (w : Cor n T σ s t hc hr) : ST.wf (60 * n) T 0 σ := w.2.2.2.2.2.2.2.1
theorem Cor.sc {n : Nat} {T : TX} {σ : ST} {s t : Nat} {hc hr : PH} (w : Cor n T σ s t hc hr) : StC 78 σ hc := w.2.2.2.2.2.2.2.2.1
theorem Cor.sr {n : Nat} {T : TX} {σ : ST} {s t : Nat} {hc hr : PH} (w : Cor n T σ s t hc hr) : StR 43 0 σ hr := w.2.2.2.2.2.2.2.2.2
theorem Cor.mk {n : Nat} {T : TX} {σ : ST} {s t : Nat} {hc hr : PH} (h0 : T.wf) (h1 : s < 2) (h2 : hr.1 0 18 = nI s) (h3 : t = 8 ∨ t = 43) (h4 : hc.2.2 0 4 = t) (h5 : TxC t T hc) (h6 : TxR s T hr) (h7 : ST.wf (60 * n) T 0 σ) (h8 : StC 78 σ hc) (h9 : StR 43 0 σ hr) : Cor n T σ s t hc hr := ⟨h0, h1, h2, h3, h4, h5, h6, h7, h8, h9⟩
theorem cases_in (a : Int32) (N : Nat) (hN : N < 1000) : (∃ i, i < N ∧ a = nI i) ∨ (a < 0 ∨ (¬ a < 0 ∧ nI N ≤ a)) := by
  by_cases q : a < 0
  · exact Or.inr (Or.inl q)
  · by_cases w : nI N ≤ a
    · exact Or.inr (Or.inr ⟨q, w⟩)
    · obtain ⟨j, hj, rfl⟩ := nI_of q
      exact Or.inl ⟨j, by
        have : ¬ N ≤ j := fun h => w ((nI_leI (by omega) hj).mpr h)
        omega, rfl⟩
theorem gt_pred {a : Int32} {N : Nat} (hN : N < 1000) (h : ¬ a < 0) (w : nI N ≤ a) : ¬ a ≤ nI N - 1 := by
  intro q
  obtain ⟨j, hj, rfl⟩ := nI_of h
  cases N with
  | zero =>
    have e : nI 0 - 1 = (-1 : Int32) := by decide +kernel
    rw [e] at q
    have := Int32.le_iff_toInt_le.mp q
    rw [nI_toInt hj] at this
    have h1 : (-1 : Int32).toInt = -1 := by decide
    omega
  | succ m =>
    rw [nI_pred] at q
    have h1 := (nI_leI hj (by omega)).mp q
    have h2 := (nI_leI (by omega) hj).mp w
    omega
theorem le_pred {i N : Nat} (hN : N < 1000) (h : i < N) : nI i ≤ nI N - 1 := by
  cases N with
  | zero => omega
  | succ m => rw [nI_pred]; exact nI_le (by omega) (by omega)
theorem zOK1 : zOK 1 = true := by decide
theorem zOK0 : zOK 0 = true := by decide
theorem live_gd {α : Type} {s : Nat} (h : s < 2) {o : Option α} : gd (ixOK (nI s) 2) o = o := gdI h (by omega)
theorem isC_lt (N : Nat) (hN : N < 1000) (i : Nat) (hi : i < N) : (if nI i < 0 then some 0 else if nI N ≤ nI i then some 0 else some (1 : Int32)) = some 1 := by
  rw [if_neg (nI_pos (by omega)), if_neg (nI_ge hi (by omega))]
theorem isC_no (N : Nat) (a : Int32) (h : a < 0 ∨ (¬ a < 0 ∧ nI N ≤ a)) : (if a < 0 then some 0 else if nI N ≤ a then some 0 else some (1 : Int32)) = some 0 := by
  rcases h with h | ⟨h1, h2⟩
  · rw [if_pos h]
  · rw [if_neg h1, if_pos h2]
theorem isR_lt (N : Nat) (hN : N < 1000) (i : Nat) (hi : i < N) : ((c_X12_in (nI i) 0 (nI N - 1)).bind fun r1 => gd (zOK r1) <| some r1) = some 1 := by
  rw [X12_in, if_pos ⟨nI_pos' (by omega), le_pred hN hi⟩]; rfl
theorem isR_no (N : Nat) (hN : N < 1000) (a : Int32) (h : a < 0 ∨ (¬ a < 0 ∧ nI N ≤ a)) : ((c_X12_in a 0 (nI N - 1)).bind fun r1 => gd (zOK r1) <| some r1) = some 0 := by
  have : ¬ (0 ≤ a ∧ a ≤ nI N - 1) := by
    rcases h with h | ⟨h1, h2⟩
    · exact fun w => absurd w.1 (Int32.not_le.mpr h)
    · exact fun w => gt_pred hN h1 h2 w.2
  rw [X12_in, if_neg this]; rfl
theorem isMan_cases {T : TX} {t s : Nat} {hc hr : PH} (w : T.wf) (hs : s < 2) (l : hr.1 0 18 = nI s) (xc : TxC t T hc) (xr : TxR s T hr) (a : Int32) : (∃ i, i < T.men ∧ a = nI i ∧ c_X9_isMan t a hc = some 1 ∧ c_X12_isMan a hr = some 1) ∨ (c_X9_isMan t a hc = some 0 ∧ c_X12_isMan a hr = some 0) := by
  have := w.men
  unfold c_X9_isMan c_X12_isMan
  rw [xc.men, l, live_gd hs, nI_clamp (by omega), xr.men]
  rcases cases_in a T.men (by omega) with ⟨i, hi, rfl⟩ | h
  · exact Or.inl ⟨i, hi, rfl, isC_lt _ (by omega) i hi, isR_lt _ (by omega) i hi⟩
  · exact Or.inr ⟨isC_no _ a h, isR_no _ (by omega) a h⟩
theorem isExc_cases {T : TX} {t s : Nat} {hc hr : PH} (w : T.wf) (hs : s < 2) (l : hr.1 0 18 = nI s) (xc : TxC t T hc) (xr : TxR s T hr) (a : Int32) : (∃ i, i < T.exc ∧ a = nI i ∧ c_X9_isExcuse t a hc = some 1 ∧ c_X12_isExcuse a hr = some 1) ∨ (c_X9_isExcuse t a hc = some 0 ∧ c_X12_isExcuse a hr = some 0) := by
  have := w.exc
  unfold c_X9_isExcuse c_X12_isExcuse
  rw [xc.exc, l, live_gd hs, nI_clamp (by omega), xr.exc]
  rcases cases_in a T.exc (by omega) with ⟨i, hi, rfl⟩ | h
  · exact Or.inl ⟨i, hi, rfl, isC_lt _ (by omega) i hi, isR_lt _ (by omega) i hi⟩
  · exact Or.inr ⟨isC_no _ a h, isR_no _ (by omega) a h⟩
theorem isDut_cases {T : TX} {t s : Nat} {hc hr : PH} (w : T.wf) (hs : s < 2) (l : hr.1 0 18 = nI s) (xc : TxC t T hc) (xr : TxR s T hr) (a : Int32) : (∃ i, i < T.dut ∧ a = nI i ∧ c_X9_isDuty t a hc = some 1 ∧ c_X12_isDuty a hr = some 1) ∨ (c_X9_isDuty t a hc = some 0 ∧ c_X12_isDuty a hr = some 0) := by
  have := w.dut
  unfold c_X9_isDuty c_X12_isDuty
  rw [xc.dut, l, live_gd hs, nI_clamp (by omega), xr.dut]
  rcases cases_in a T.dut (by omega) with ⟨i, hi, rfl⟩ | h
  · exact Or.inl ⟨i, hi, rfl, isC_lt _ (by omega) i hi, isR_lt _ (by omega) i hi⟩
  · exact Or.inr ⟨isC_no _ a h, isR_no _ (by omega) a h⟩
theorem tOK_t {t : Nat} (h : t = 8 ∨ t = 43) : tOK t = true := by unfold tOK; exact decide_eq_true h
theorem gdT {α : Type} {t : Nat} {o : Option α} (h : t = 8 ∨ t = 43) : gd (tOK t) o = o := if_pos (tOK_t h)
theorem nI_mul9 (s : Nat) : (9 : Int32) * nI s = nI (9 * s) := (Int32.ofNat_mul 9 s).symm
theorem nI_mul7 (s : Nat) : (7 : Int32) * nI s = nI (7 * s) := (Int32.ofNat_mul 7 s).symm
theorem nI_mul5 (s : Nat) : (5 : Int32) * nI s = nI (5 * s) := (Int32.ofNat_mul 5 s).symm
theorem nI_mul6 (s : Nat) : (6 : Int32) * nI s = nI (6 * s) := (Int32.ofNat_mul 6 s).symm
theorem manOf_ok {T : TX} {s : Nat} {hr : PH} (w : T.wf) (hs : s < 2) (l : hr.1 0 18 = nI s) (xr : TxR s T hr) {d : Nat} (hd : d < T.dut) : c_X12_manOf (nI d) hr = some (nI (T.dman d)) := by
  have := w.dut
  unfold c_X12_manOf
  rw [l, nI_mul9, nI_add, gdI (by omega) (by omega), nI_clamp (by omega), xr.dman d hd]
theorem dayOf_ok {T : TX} {s : Nat} {hr : PH} (w : T.wf) (hs : s < 2) (l : hr.1 0 18 = nI s) (xr : TxR s T hr) {d : Nat} (hd : d < T.dut) : c_X12_dayOf (nI d) hr = some (nI (T.dday d)) := by
  have := w.dut
  unfold c_X12_dayOf
  rw [l, nI_mul9, nI_add, gdI (by omega) (by omega), nI_clamp (by omega), xr.dday d hd]
