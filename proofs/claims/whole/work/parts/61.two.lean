def toldB (σ : ST) (d : Nat) : Bool := decide (σ.out d = 1 ∨ σ.out d = 2)
/-- the first of them told for d, the other one another kind that day -/
def twoI (T : TX) (σ : ST) (i j d : Nat) : Bool := (toldB σ d && decide (T.dman d = i)) && anyX (elseP T σ j (kdP T σ d) (T.dday d)) T.dut 0
def pairB (T : TX) (σ : ST) (i j : Nat) : Bool := (T.know i).testBit j && anyX (twoI T σ i j) T.dut 0
theorem kd_le {T : TX} {σ : ST} (w : T.wf) (pt : ST.pt T σ) {d : Nat} (hd : d < 9) (ht : σ.out d = 1 ∨ σ.out d = 2) : kdP T σ d ≤ 9 := by
  have w3 := w.exc
  obtain ⟨e, he, q⟩ := pt d hd ht
  unfold kdP
  rw [q, nI_clamp (by omega)]
  exact w.kind e he
theorem differ2 {T : TX} {σ : ST} (w : T.wf) (pt : ST.pt T σ) {d d' : Nat} (hd : d < 9) (hd' : d' < 9) : c_X8_differ (if σ.out d = 1 ∨ σ.out d = 2 then nI (kdP T σ d) else -1) (if σ.out d' = 1 ∨ σ.out d' = 2 then nI (kdP T σ d') else -1) = some (if (σ.out d = 1 ∨ σ.out d = 2) ∧ (σ.out d' = 1 ∨ σ.out d' = 2) ∧ kdP T σ d ≠ kdP T σ d' then 1 else 0) := by
  by_cases q' : σ.out d' = 1 ∨ σ.out d' = 2
  · have k' := kd_le w pt hd' q'
    rw [if_pos q']
    by_cases q : σ.out d = 1 ∨ σ.out d = 2
    · have k := kd_le w pt hd q
      have := differ_ok (P := True) (Q := True) (k := kdP T σ d) (l := kdP T σ d') (by omega) (by omega)
      rw [if_pos trivial] at this
      rw [if_pos q, this]
      exact congrArg some (ite_cg ⟨fun z => ⟨q, q', z.2⟩, fun z => ⟨trivial, z.2.2⟩⟩)
    · rw [if_neg q, if_neg (fun z => q z.1)]
      unfold c_X8_differ; rw [if_pos rfl]
  · rw [if_neg q', if_neg (c := (σ.out d = 1 ∨ σ.out d = 2) ∧ (σ.out d' = 1 ∨ σ.out d' = 2) ∧ kdP T σ d ≠ kdP T σ d') (fun z => q' z.2.1)]
    unfold c_X8_differ
    by_cases q : (if σ.out d = 1 ∨ σ.out d = 2 then nI (kdP T σ d) else -1) = -1
    · rw [if_pos q]
    · rw [if_neg q, if_pos rfl]
def twoC (T : TX) (σ : ST) (i j d d' : Nat) : Bool := decide ((T.dman d = i ∧ T.dman d' = j) ∧ T.dday d = T.dday d' ∧ (σ.out d = 1 ∨ σ.out d = 2) ∧ (σ.out d' = 1 ∨ σ.out d' = 2) ∧ kdP T σ d ≠ kdP T σ d')
theorem twoC_eq {T : TX} {σ : ST} {i j d : Nat} : anyX (twoC T σ i j d) T.dut 0 = twoI T σ i j d := by
  apply bool_eq
  unfold twoI toldB
  rw [anyX_0, Bool.and_eq_true, Bool.and_eq_true, decide_eq_true_eq, decide_eq_true_eq, anyX_0]
  unfold twoC elseP
  simp only [decide_eq_true_eq]
  constructor
  · rintro ⟨d', h1, ⟨h2, h3⟩, h4, h5, h6, h7⟩
    exact ⟨⟨h5, h2⟩, d', h1, h6, h3, h4.symm, fun q => h7 q.symm⟩
  · rintro ⟨⟨h5, h2⟩, d', h1, h6, h3, h4, h7⟩
    exact ⟨d', h1, ⟨h2, h3⟩, h4.symm, h5, h6, fun q => h7 q.symm⟩
theorem twoThingsC {p t : Nat} {T : TX} {σ : ST} {h : PH} (w : T.wf) (pt : ST.pt T σ) (xc : TxC t T h) (x : StC p σ h) {i j : Nat} (hi : i < T.men) (hj : j < T.men) : c_X8_toldTwoThings p t (nI i) (nI j) h = some (if anyX (twoI T σ i j) T.dut 0 = true then 1 else 0) := by
  have w1 := w.men; have w2 := w.dut
  unfold c_X8_toldTwoThings
  simp only [nm_p]
  rw [for_any0 (K := some 0) (E := some 1) (twoI T σ i j) (N := T.dut) (by omega) (fun REC d hd => ?_) (fun REC => ?_)]
  · by_cases q : anyX (twoI T σ i j) T.dut 0 = true
    · rw [if_pos q, if_pos q]
    · rw [if_neg q, if_neg q]
  · unfold c_X8_toldTwoThings_L3b
    rw [xc.dut, if_neg (nI_ge hd (by omega)), ← twoC_eq]
    simp only [nm_p]
    rw [for_any0 (K := REC (nI d + 1)) (E := some 1) (twoC T σ i j d) (N := T.dut) (by omega) (fun REC' d' hd' => ?_) (fun REC' => ?_), nI_1]
    · unfold c_X8_toldTwoThings_L15b c_X8_toldTwoThings_j55 c_X8_toldTwoThings_j83
      have m1 := w.dman d hd; have m2 := w.dman d' hd'; have y1 := w.dday d hd; have y2 := w.dday d' hd'
      rw [xc.dut, if_neg (nI_ge hd' (by omega))]
      simp (disch := omega) only [nm_p, gdt, ixOK_nI, nI_clamp, nI_mul9, nI_mul7, nI_mul5, nI_mul6, nI_a4, nI_a13, nI_a22, nI_a31, nI_add, nI_1, Option.bind_some, one_ne0, if_false, if_true, xc.dman d hd, xc.dman d' hd', xc.dday d hd, xc.dday d' hd', nI_eq, kindTold_ok w pt xc x, differ2 w pt, if_0]
      unfold twoC
      by_cases q1 : T.dman d = i <;> by_cases q2 : T.dman d' = j <;> by_cases q3 : T.dday d = T.dday d' <;> by_cases q4 : (σ.out d = 1 ∨ σ.out d = 2) ∧ (σ.out d' = 1 ∨ σ.out d' = 2) ∧ kdP T σ d ≠ kdP T σ d' <;> simp [q1, q2, q3, q4]
    · unfold c_X8_toldTwoThings_L15b
      rw [xc.dut, if_pos (nI_le (by omega) (by omega))]
  · unfold c_X8_toldTwoThings_L3b
    rw [xc.dut, if_pos (nI_le (by omega) (by omega))]
theorem knowC {t : Nat} {T : TX} {h : PH} (w : T.wf) (xc : TxC t T h) {i j : Nat} (hi : i < T.men) (hj : j < T.men) : c_X9_knowEachOther t (nI i) (nI j) h = some (if (T.know i).testBit j = true then 1 else 0) := by
  have w1 := w.men
  have ki := w.know i hi
  unfold c_X9_knowEachOther
  rw [isManC w xc hi, isManC w xc hj]
  simp (disch := omega) only [nm_p, gdt, ixOK_nI, nI_clamp, nI_mul9, nI_mul7, nI_mul5, nI_mul6, nI_a4, nI_a13, nI_a22, nI_a31, nI_add, nI_1, Option.bind_some, one_ne0, if_false, if_true, xc.know i hi, b_get, if_0]
  cases (T.know i).testBit j <;> rfl
theorem areTwo_ok {T : TX} {σ : ST} {s : Nat} {h : PH} (w : T.wf) (pt : ST.pt T σ) (hs : s < 2) (l : h.1 0 18 = nI s) (xr : TxR s T h) (x : StV σ h) {i j : Nat} (hi : i < T.men) (hj : j < T.men) : c_X12_areTwo (nI i) (nI j) h = some (if pairB T σ i j = true then 1 else 0) := by
  have w1 := w.men; have w2 := w.dut; have w3 := w.exc
  have ki := w.know i hi
  unfold c_X12_areTwo pairB
  simp (disch := omega) only [nm_p, gdt, ixOK_nI, nI_clamp, nI_mul9, nI_mul7, nI_mul5, nI_mul6, nI_a4, nI_a13, nI_a22, nI_a31, nI_add, nI_1, Option.bind_some, one_ne0, if_false, if_true, l, xr.know i hi, b_get, if_0]
  by_cases qk : (T.know i).testBit j = true
  · rw [if_neg (fun z => z qk), for_any0 (K := some 0) (E := some 1) (twoI T σ i j) (N := T.dut) (by omega) (fun REC d hd => ?_) (fun REC => ?_), qk, Bool.true_and]
    · by_cases q : anyX (twoI T σ i j) T.dut 0 = true
      · rw [if_pos q, if_pos q]
      · rw [if_neg q, if_neg q]
    · unfold c_X12_areTwo_L24b twoI toldB
      have d1 := w.dman d hd; have d2 := w.dday d hd
      rw [l, live_gd hs, nI_clamp (by omega), xr.dut, if_neg (nI_ge hd (by omega)), manOf_ok w hs l xr hd, dayOf_ok w hs l xr hd]
      simp (disch := omega) only [nm_p, gdt, ixOK_nI, nI_clamp, nI_mul9, nI_mul7, nI_mul5, nI_mul6, nI_a4, nI_a13, nI_a22, nI_a31, nI_add, nI_1, Option.bind_some, one_ne0, if_false, if_true, x.told, told_neg w pt, nI_eq]
      rcases told_cases pt (show d < 9 by omega) with ⟨q, e⟩ | ⟨e, he, q, pe, te⟩
      · simp only [q, not_false_eq_true, if_true, decide_false, Bool.false_and, Bool.false_eq_true, if_false]
      · have hk1 := w.kind e he
        have kd : kdP T σ d = T.kind e := by unfold kdP; rw [pe, nI_clamp (by omega)]
        simp (disch := omega) only [nm_p, gdt, ixOK_nI, nI_clamp, nI_mul9, nI_mul7, nI_mul5, nI_mul6, nI_a4, nI_a13, nI_a22, nI_a31, nI_add, nI_1, Option.bind_some, one_ne0, if_false, if_true, q, te, not_true_eq_false, l, xr.kind e he]
        rw [isToldElse_ok w pt hs l xr x (by omega) hk1 (by omega), kd]
        simp only [Option.bind_some, if_0]
        by_cases q1 : T.dman d = i <;> by_cases q2 : anyX (elseP T σ j (T.kind e) (T.dday d)) T.dut 0 = true <;> simp [q1, q2]
    · unfold c_X12_areTwo_L24b
      rw [l, live_gd hs, nI_clamp (by omega), xr.dut, if_pos (nI_le (by omega) (by omega))]
  · rw [if_pos qk]
    have : (T.know i).testBit j = false := by simpa using qk
    rw [this]; rfl
def twG (T : TX) (σ : ST) (z : Int32) (i : Nat) (j : Nat) (x : Int32) : Int32 ⊕ Nat := if pairB T σ i j = true then (if x = z then .inr j else .inl (x + 1)) else .inl x
def twO (T : TX) (σ : ST) (z : Int32) (i : Nat) (x : Int32) : Int32 ⊕ (Nat × Nat) := Sum.elim Sum.inl (fun j => Sum.inr (i, j)) (forX (twG T σ z i) (T.men - (i + 1)) (i + 1) x)
theorem elim_elim {α β γ δ : Type} {f : α → δ} {g : γ → δ} {k : β → γ} (x : α ⊕ β) : Sum.elim f g (Sum.elim Sum.inl (fun j => Sum.inr (k j)) x) = Sum.elim f (fun j => g (k j)) x := by cases x <;> rfl
theorem pairsC {p t : Nat} {T : TX} {σ : ST} {h : PH} (w : T.wf) (pt : ST.pt T σ) (xc : TxC t T h) (x : StC p σ h) (z : Int32) : c_X8_pairs p t z h = Sum.elim (fun y => if z = -1 then some y else some (-1)) (fun q => some (10 * nI q.1 + nI q.2)) (forX (twO T σ z) T.men 0 0) := by
  have w1 := w.men
  unfold c_X8_pairs
  simp only [nm_p]
  refine (for_x0 (K := fun w15 => if z = -1 then some w15 else some (-1)) (E := fun q : Nat × Nat => some (10 * nI q.1 + nI q.2)) (N := T.men) (twO T σ z) (by omega) (fun REC i y hi => ?_) (fun REC y => ?_) _).trans rfl
  · unfold c_X8_pairs_L5b twO
    rw [xc.men, if_neg (nI_ge hi (by omega)), elim_elim]
    simp only [nm_p, nI_1]
    refine for_x (K := fun w11 => REC w11 (nI (i + 1))) (E := fun j : Nat => some (10 * nI i + nI j)) (N := T.men) (twG T σ z i) (by omega) (fun REC' j y' hj => ?_) (fun REC' y' => ?_) (i + 1) (by omega) y
    · unfold c_X8_pairs_L20b twG pairB
      rw [xc.men, if_neg (nI_ge hj (by omega)), knowC w xc hi hj, twoThingsC w pt xc x hi hj]
      simp only [nm_p, Option.bind_some, if_0, nI_1]
      by_cases q1 : (T.know i).testBit j = true <;> by_cases q2 : anyX (twoI T σ i j) T.dut 0 = true <;> by_cases q3 : y' = z <;> simp [q1, q2, q3]
    · unfold c_X8_pairs_L20b
      rw [xc.men, if_pos (nI_le (by omega) (by omega))]
  · unfold c_X8_pairs_L5b
    rw [xc.men, if_pos (nI_le (by omega) (by omega))]
theorem two_ok {n : Nat} {T : TX} {σ : ST} {s t : Nat} {Lp Lw : LawT} {hc hr : PH} (C : CL n T σ s t Lp Lw hc hr) (a1 : Int32) : ∃ (v : Int32) (hr' : PH), c_X11_two a1 hc = some v ∧ c_X12_two a1 hr = some (v, hr') ∧ KP SR hr hr' := by
  have C0 := C.cor
  have w1 := C0.twf.men
  have pt := C0.swf.planT
  unfold c_X11_two c_X12_two
  simp only [nm_p, C0.txt, gdT C0.t2]
  by_cases q : -1 ≤ a1
  · rw [if_pos q, if_pos q, pairsC C0.twf pt C0.xc C0.sc]
    obtain ⟨h3, r1, l3, x3, r3, n3, s3, L3, k3⟩ := copies2 C
    rw [r1, Option.bind_some]
    have e : lq2 (c_X12_two_L15b a1 h3 (fun w12 w13 => some ((10 * w12 + w13), h3)) (fun w14 => if a1 = -1 then some (w14, h3) else some (-1, h3))) fu 0 0 = Sum.elim (fun y => if a1 = -1 then some (y, h3) else some (-1, h3)) (fun q : Nat × Nat => some (10 * nI q.1 + nI q.2, h3)) (forX (twO T σ a1) T.men 0 0) := by
      refine (for_x0 (K := fun w15 => if a1 = -1 then some (w15, h3) else some (-1, h3)) (E := fun q : Nat × Nat => some (10 * nI q.1 + nI q.2, h3)) (N := T.men) (twO T σ a1) (by omega) (fun REC i y hi => ?_) (fun REC y => ?_) _).trans rfl
      · unfold c_X12_two_L15b twO
        rw [l3, live_gd C0.s2, nI_clamp (by have := C0.s2; omega), x3.men, if_neg (nI_ge hi (by omega)), elim_elim]
        simp only [nm_p, nI_1]
        refine for_x (K := fun w11 => REC w11 (nI (i + 1))) (E := fun j : Nat => some (10 * nI i + nI j, h3)) (N := T.men) (twG T σ a1 i) (by omega) (fun REC' j y' hj => ?_) (fun REC' y' => ?_) (i + 1) (by omega) y
        · unfold c_X12_two_L33b twG
          rw [l3, live_gd C0.s2, nI_clamp (by have := C0.s2; omega), x3.men, if_neg (nI_ge hj (by omega)), areTwo_ok C0.twf pt C0.s2 l3 x3 r3.v hi hj]
          simp only [nm_p, Option.bind_some, if_0, nI_1]
          by_cases q1 : pairB T σ i j = true <;> by_cases q3 : y' = a1 <;> simp [q1, q3]
        · unfold c_X12_two_L33b
          rw [l3, live_gd C0.s2, nI_clamp (by have := C0.s2; omega), x3.men, if_pos (nI_le (by omega) (by omega))]
      · unfold c_X12_two_L15b
        rw [l3, live_gd C0.s2, nI_clamp (by have := C0.s2; omega), x3.men, if_pos (nI_le (by omega) (by omega))]
    rw [e]
    cases forX (twO T σ a1) T.men 0 0 with
    | inl y =>
      by_cases z : a1 = -1
      · exact ⟨y, h3, by simp [z], by simp [z], k3.mono (fun q k z => SR_44 z)⟩
      · exact ⟨-1, h3, by simp [z], by simp [z], k3.mono (fun q k z => SR_44 z)⟩
    | inr q => exact ⟨10 * nI q.1 + nI q.2, h3, rfl, rfl, k3.mono (fun q k z => SR_44 z)⟩
  · rw [if_neg q, if_neg q]
    exact ⟨-1, hr, rfl, rfl, KP.rfl⟩
