/-- items of a law's code: (0, a number), (1, a variable), (2 .. 5, an operation) -/
def cst (x : Nat × Nat) : Int32 := if x.1 = 0 then nI x.2 else if x.1 = 1 then nI (10000 + x.2) else if x.1 = 2 then -43 else if x.1 = 3 then -45 else if x.1 = 4 then -42 else -47
def opI (w : Nat) : Nat × Nat := if w = 8 then (2, 0) else if w = 9 then (3, 0) else if w = 10 then (4, 0) else (5, 0)
/-- a law's code in the class -/
def CdC (q : Nat) (cs : List Int32) (h : PH) : Prop := h.1 q 1 = nI cs.length ∧ ∀ i v, cs[i]? = some v → h.1 (q + 1) i = v
def LnC (q : Nat) (h : PH) : Prop := ∃ n, n ≤ 408 ∧ h.1 q 1 = nI n
def FQ (q p k : Nat) : Prop := ¬ (p = q ∧ k = 1) ∧ ¬ p = q + 1
theorem CdC.fr {q : Nat} {cs : List Int32} {h h' : PH} (k : KP (fun p k => (p = q ∧ k = 1) ∨ p = q + 1) h h') (x : CdC q cs h) : CdC q cs h' := ⟨(k.i (Or.inl ⟨rfl, rfl⟩)).trans x.1, fun i v z => (k.i (Or.inr rfl)).trans (x.2 i v z)⟩
theorem CdC.ln {q : Nat} {cs : List Int32} {h : PH} (x : CdC q cs h) (l : cs.length ≤ 408) : LnC q h := ⟨cs.length, l, x.1⟩
theorem LnC.fr {q : Nat} {h h' : PH} (k : KP (fun p k => p = q ∧ k = 1) h h') (x : LnC q h) : LnC q h' := by
  obtain ⟨n, a, b⟩ := x
  exact ⟨n, a, (k.i ⟨rfl, rfl⟩).trans b⟩
theorem add_ok {q : Nat} {cs : List Int32} {v : Int32} {h : PH} (x : CdC q cs h) (l : cs.length < 408) : ∃ h', c_X2_add q v h = some h' ∧ CdC q (cs ++ [v]) h' ∧ KP (FQ q) h h' := by
  unfold c_X2_add
  rw [x.1, if_neg (show ¬ (408 : Int32) ≤ nI cs.length from nI_ge (b := 408) l (by omega)), gdI (k := cs.length) (by omega) (by omega), nI_clamp (n := cs.length) (by omega), nm_eq, setI_ne (by omega), x.1, nI_1, nm_eq]
  refine ⟨_, rfl, ⟨by rw [setI_eq, List.length_append]; rfl, fun i w z => ?_⟩, (KP.setI (fun z => z.2 rfl)).trans (KP.setI (fun z => z.1 ⟨rfl, rfl⟩))⟩
  rw [setI_ne (by omega)]
  by_cases e : i = cs.length
  · rw [e, List.getElem?_concat_length] at z
    rw [e, setI_eq]; exact Option.some.inj z
  · rw [setI_ne (by omega)]
    have hi : i < (cs ++ [v]).length := (List.getElem?_eq_some_iff.mp z).1
    rw [List.length_append, List.length_singleton] at hi
    rw [List.getElem?_append_left (by omega)] at z
    exact x.2 i w z
theorem add_b {q : Nat} {v : Int32} {h : PH} (x : LnC q h) : ∃ h', c_X2_add q v h = some h' ∧ LnC q h' ∧ KP (FQ q) h h' := by
  obtain ⟨n, l, a⟩ := x
  unfold c_X2_add
  by_cases z : n = 408
  · rw [a, z, if_pos (show (408 : Int32) ≤ nI 408 by decide)]; exact ⟨h, rfl, ⟨408, Nat.le_refl _, by rw [a, z]⟩, KP.rfl⟩
  · rw [a, if_neg (show ¬ (408 : Int32) ≤ nI n from nI_ge (b := 408) (by omega) (by omega)), gdI (k := n) (by omega) (by omega), nm_eq, setI_ne (by omega), a, nI_1, nm_eq]
    exact ⟨_, rfl, ⟨n + 1, by omega, setI_eq _ _ _ _⟩, (KP.setI (fun z => z.2 rfl)).trans (KP.setI (fun z => z.1 ⟨rfl, rfl⟩))⟩
/-- the reference's code from n0 on -/
def CdR (s n0 : Nat) (is : List (Nat × Nat)) (h : PH) : Prop := h.1 0 52 = nI (420 * s + n0 + is.length) ∧ ∀ i x, is[i]? = some x → h.1 38 (420 * s + n0 + i) = nI x.1 ∧ h.1 39 (420 * s + n0 + i) = nI x.2
/-- operators that wait, the last one on top -/
def StW (wl : List Nat) (h : PH) : Prop := h.1 0 56 = nI wl.length ∧ ∀ i w, wl[i]? = some w → h.1 40 i = nI w
def FEr (s n0 p k : Nat) : Prop := ¬ (p = 0 ∧ ((11 ≤ k ∧ k ≤ 14) ∨ k = 52 ∨ k = 56)) ∧ p ≠ 40 ∧ ¬ ((p = 38 ∨ p = 39) ∧ 420 * s + n0 ≤ k ∧ k < 420 * s + 420)
theorem CdR.fr {s n0 : Nat} {is : List (Nat × Nat)} {h h' : PH} (k : KP (fun p k => (p = 0 ∧ k = 52) ∨ ((p = 38 ∨ p = 39) ∧ 420 * s + n0 ≤ k ∧ k < 420 * s + n0 + is.length)) h h') (x : CdR s n0 is h) : CdR s n0 is h' := ⟨(k.i (Or.inl ⟨rfl, rfl⟩)).trans x.1, fun i w z => by
  have hi : i < is.length := (List.getElem?_eq_some_iff.mp z).1
  obtain ⟨a, b⟩ := x.2 i w z
  exact ⟨(k.i (Or.inr ⟨Or.inl rfl, by omega, by omega⟩)).trans a, (k.i (Or.inr ⟨Or.inr rfl, by omega, by omega⟩)).trans b⟩⟩
theorem StW.fr {wl : List Nat} {h h' : PH} (k : KP (fun p k => (p = 0 ∧ k = 56) ∨ p = 40) h h') (x : StW wl h) : StW wl h' := ⟨(k.i (Or.inl ⟨rfl, rfl⟩)).trans x.1, fun i w z => (k.i (Or.inr rfl)).trans (x.2 i w z)⟩
def FEm (s n p k : Nat) : Prop := ¬ (p = 0 ∧ k = 52) ∧ ¬ ((p = 38 ∨ p = 39) ∧ k = 420 * s + n)
theorem emitR {s n0 a b : Nat} {is : List (Nat × Nat)} {h : PH} (x : CdR s n0 is h) (hs : s < 2) (l : n0 + is.length < 420) : ∃ h', c_X12_emit (nI a) (nI b) h = some h' ∧ CdR s n0 (is ++ [(a, b)]) h' ∧ KP (FEm s (n0 + is.length)) h h' := by
  unfold c_X12_emit
  rw [x.1, gdI (k := 420 * s + n0 + is.length) (by omega) (by omega), nI_clamp (n := 420 * s + n0 + is.length) (by omega), nm_eq, setI_ne (by omega), x.1, gdI (k := 420 * s + n0 + is.length) (by omega) (by omega), nI_clamp (n := 420 * s + n0 + is.length) (by omega), nm_eq, setI_ne (by omega), setI_ne (by omega), x.1, nI_1, nm_eq]
  refine ⟨_, rfl, ⟨by rw [setI_eq, List.length_append]; rfl, fun i w z => ?_⟩, ((KP.setI (fun z => z.2 ⟨Or.inl rfl, by omega⟩)).trans (KP.setI (fun z => z.2 ⟨Or.inr rfl, by omega⟩))).trans (KP.setI (fun z => z.1 ⟨rfl, rfl⟩))⟩
  by_cases e : i = is.length
  · rw [e, List.getElem?_concat_length] at z
    have z := Option.some.inj z
    subst z
    rw [e]
    exact ⟨by rw [setI_ne (by omega), setI_ne (by omega), setI_eq], by rw [setI_ne (by omega), setI_eq]⟩
  · have hi : i < (is ++ [(a, b)]).length := (List.getElem?_eq_some_iff.mp z).1
    rw [List.length_append, List.length_singleton] at hi
    rw [List.getElem?_append_left (by omega)] at z
    obtain ⟨x1, x2⟩ := x.2 i w z
    exact ⟨by rw [setI_ne (by omega), setI_ne (by omega), setI_ne (by omega)]; exact x1, by rw [setI_ne (by omega), setI_ne (by omega), setI_ne (by omega)]; exact x2⟩
/-- an operator is pushed -/
theorem pushW {wl : List Nat} {w : Nat} {h : PH} (x : StW wl h) (l : wl.length < 64) (h1 h2 : PH) (e1 : h1 = setI h 40 wl.length (nI w)) (e2 : h2 = setI h1 0 56 (nI (wl.length + 1))) : StW (wl ++ [w]) h2 ∧ KP (fun p k => ¬ (p = 0 ∧ k = 56) ∧ ¬ p = 40) h h2 := by
  subst e1; subst e2
  refine ⟨⟨by rw [setI_eq, List.length_append]; rfl, fun i v z => ?_⟩, (KP.setI (fun z => z.2 rfl)).trans (KP.setI (fun z => z.1 ⟨rfl, rfl⟩))⟩
  rw [setI_ne (by omega)]
  by_cases e : i = wl.length
  · rw [e, List.getElem?_concat_length] at z
    rw [e, setI_eq]; exact congrArg nI (Option.some.inj z)
  · have hi : i < (wl ++ [w]).length := (List.getElem?_eq_some_iff.mp z).1
    rw [List.length_append, List.length_singleton] at hi
    rw [List.getElem?_append_left (by omega)] at z
    rw [setI_ne (by omega)]; exact x.2 i v z
theorem popW {wl : List Nat} {w : Nat} {h : PH} (x : StW (wl ++ [w]) h) : StW wl (setI h 0 56 (nI wl.length)) := ⟨setI_eq _ _ _ _, fun i v z => by
  have hi : i < wl.length := (List.getElem?_eq_some_iff.mp z).1
  rw [setI_ne (by omega)]
  exact x.2 i v (by rw [List.getElem?_append_left hi]; exact z)⟩
def FCo (s n0 p k : Nat) : Prop := ¬ (p = 0 ∧ (k = 52 ∨ k = 56)) ∧ ¬ ((p = 38 ∨ p = 39) ∧ 420 * s + n0 ≤ k ∧ k < 420 * s + 420)
/-- what a waiting sign must be for it to come out -/
def comes (z : Int32) (w : Nat) : Prop := w ≠ 6 ∧ (z = 0 ∨ (w ≠ 8 ∧ w ≠ 9))
theorem co_step {s n0 w : Nat} {is : List (Nat × Nat)} {wl : List Nat} {z : Int32} {h : PH} {F : Nat} (cr : CdR s n0 is h) (ww : StW (wl ++ [w]) h) (hs : s < 2) (l : n0 + is.length < 420) (hw : w < 64) (hl : wl.length < 64) (cm : comes z w) : ∃ h', lq1 (c_X12_comesOut_L0b z (fun h7 => some h7) (fun h8 => some h8)) (F + 1) h = lq1 (c_X12_comesOut_L0b z (fun h7 => some h7) (fun h8 => some h8)) F h' ∧ CdR s n0 (is ++ [opI w]) h' ∧ StW wl h' ∧ KP (FCo s n0) h h' := by
  rw [lq1_s]
  generalize lq1 (c_X12_comesOut_L0b z (fun h7 => some h7) (fun h8 => some h8)) F = REC
  have lw : (wl ++ [w]).length = wl.length + 1 := by rw [List.length_append]; rfl
  have wt : h.1 40 wl.length = nI w := ww.2 wl.length w (List.getElem?_concat_length ..)
  have w1 : h.1 0 56 = nI (wl.length + 1) := by rw [ww.1, lw]
  unfold c_X12_comesOut_L0b
  rw [w1, if_neg (show ¬ nI (wl.length + 1) ≤ 0 from nI_ge (a := 0) (b := wl.length + 1) (by omega) (by omega)), nI_pred, gdI (k := wl.length) (by omega) (by omega), nI_clamp (n := wl.length) (by omega), wt, nm_eq, if_neg (show ¬ nI w = 6 from fun y => cm.1 ((nI_lit (by omega) 6 (by omega) rfl).mp y))]
  have core : ∃ h', c_X12_comesOut_j42 z (fun h7 => some h7) (fun h8 => some h8) REC (nI w) h = REC h' ∧ CdR s n0 (is ++ [opI w]) h' ∧ StW wl h' ∧ KP (FCo s n0) h h' := by
    unfold c_X12_comesOut_j42
    rw [w1, nI_pred, nm_eq]
    have pw := popW ww
    have k0 : KP (fun p k => ¬ (p = 0 ∧ k = 56)) h (setI h 0 56 (nI wl.length)) := KP.setI (fun z => z ⟨rfl, rfl⟩)
    have cr0 : CdR s n0 is (setI h 0 56 (nI wl.length)) := cr.fr (k0.mono (fun p k y => by omega))
    generalize setI h 0 56 (nI wl.length) = h2 at pw k0 cr0
    have em : ∀ a : Nat, ∃ h', ((c_X12_emit (nI a) 0 h2).bind fun h6 => REC h6) = REC h' ∧ CdR s n0 (is ++ [(a, 0)]) h' ∧ StW wl h' ∧ KP (FCo s n0) h h' := fun a => by
      obtain ⟨h', e1, e2, e3⟩ := emitR (a := a) (b := 0) cr0 hs l
      rw [show (0 : Int32) = nI 0 from nI_0.symm, e1]
      exact ⟨h', rfl, e2, pw.fr (e3.mono (fun p k y => by unfold FEm; omega)), (k0.mono (fun p k y => by unfold FCo at y; omega)).trans (e3.mono (fun p k y => by unfold FCo at y; unfold FEm; omega))⟩
    unfold opI
    rw [ite_cg (nI_lit (show w < 2 ^ 31 by omega) 8 (by omega) (M := 8) rfl), ite_cg (nI_lit (show w < 2 ^ 31 by omega) 9 (by omega) (M := 9) rfl), ite_cg (nI_lit (show w < 2 ^ 31 by omega) 10 (by omega) (M := 10) rfl)]
    by_cases y1 : w = 8
    · rw [if_pos y1, if_pos y1]; exact em 2
    · rw [if_neg y1, if_neg y1]
      by_cases y2 : w = 9
      · rw [if_pos y2, if_pos y2]; exact em 3
      · rw [if_neg y2, if_neg y2]
        by_cases y3 : w = 10
        · rw [if_pos y3, if_pos y3]; exact em 4
        · rw [if_neg y3, if_neg y3]; exact em 5
  rcases cm.2 with y | ⟨y1, y2⟩
  · rw [if_pos y]; exact core
  · by_cases y : z = 0
    · rw [if_pos y]; exact core
    · rw [if_neg y, if_neg (show ¬ nI w = 8 from fun x => y1 ((nI_lit (by omega) 8 (by omega) rfl).mp x)), if_neg (show ¬ nI w = 9 from fun x => y2 ((nI_lit (by omega) 9 (by omega) rfl).mp x))]; exact core
/-- where nothing more comes out -/
def halt (z : Int32) (wl : List Nat) : Prop := wl = [] ∨ ∃ v w, wl = v ++ [w] ∧ (w = 6 ∨ (z ≠ 0 ∧ (w = 8 ∨ w = 9)))
theorem co_halt {wl : List Nat} {z : Int32} {h : PH} {F : Nat} (ww : StW wl h) (hl : wl.length < 64) (ht : halt z wl) : lq1 (c_X12_comesOut_L0b z (fun h7 => some h7) (fun h8 => some h8)) (F + 1) h = some h := by
  rw [lq1_s]; unfold c_X12_comesOut_L0b
  rcases ht with e | ⟨v, w, e, hw⟩
  · subst e
    rw [ww.1, if_pos (show nI ([] : List Nat).length ≤ 0 by decide)]
  · subst e
    have lw : (v ++ [w]).length = v.length + 1 := by rw [List.length_append]; rfl
    have wt : h.1 40 v.length = nI w := ww.2 v.length w (List.getElem?_concat_length ..)
    have w1 : h.1 0 56 = nI (v.length + 1) := by rw [ww.1, lw]
    rw [lw] at hl
    rw [w1, if_neg (show ¬ nI (v.length + 1) ≤ 0 from nI_ge (a := 0) (b := v.length + 1) (by omega) (by omega)), nI_pred, gdI (k := v.length) (by omega) (by omega), nI_clamp (n := v.length) (by omega), wt, nm_eq]
    rcases hw with y | ⟨y1, y2⟩
    · rw [y, if_pos (show nI 6 = (6 : Int32) from rfl)]
    · by_cases x : nI w = 6
      · rw [if_pos x]
      · rw [if_neg x, if_neg y1]
        rcases y2 with y | y
        · rw [y, if_pos (show nI 8 = (8 : Int32) from rfl)]
        · rw [y, if_neg (show ¬ nI 9 = (8 : Int32) by decide), if_pos (show nI 9 = (9 : Int32) from rfl)]
/-- what comes out of signs that wait -/
theorem co_run {s n0 : Nat} {z : Int32} (hs : s < 2) : ∀ (P : List Nat) (F : Nat) (W : List Nat) (is : List (Nat × Nat)) (h : PH), P.length < F → CdR s n0 is h → StW (W ++ P.reverse) h → n0 + is.length + P.length ≤ 420 → W.length + P.length < 64 → (∀ w ∈ P, w < 64 ∧ comes z w) → halt z W → ∃ h', lq1 (c_X12_comesOut_L0b z (fun h7 => some h7) (fun h8 => some h8)) F h = some h' ∧ CdR s n0 (is ++ P.map opI) h' ∧ StW W h' ∧ KP (FCo s n0) h h'
  | [], F, W, is, h, hF, cr, ww, l, hl, hp, ht => by
    obtain ⟨F', rfl⟩ : ∃ F', F = F' + 1 := ⟨F - 1, by have : 0 < F := hF; omega⟩
    have ww : StW W h := by rw [List.reverse_nil, List.append_nil] at ww; exact ww
    exact ⟨h, co_halt ww (by have hl : W.length + 0 < 64 := hl; omega) ht, by rw [List.map_nil, List.append_nil]; exact cr, ww, KP.rfl⟩
  | w :: P, F, W, is, h, hF, cr, ww, l, hl, hp, ht => by
    have hF : P.length + 1 < F := hF
    have l : n0 + is.length + (P.length + 1) ≤ 420 := l
    have hl : W.length + (P.length + 1) < 64 := hl
    obtain ⟨F', rfl⟩ : ∃ F', F = F' + 1 := ⟨F - 1, by omega⟩
    rw [List.reverse_cons, ← List.append_assoc] at ww
    obtain ⟨w1, w2⟩ := hp w (List.mem_cons_self ..)
    obtain ⟨h1, e1, cr1, ww1, k1⟩ := co_step (F := F') cr ww hs (by omega) w1 (by rw [List.length_append, List.length_reverse]; omega) w2
    obtain ⟨h', e2, cr2, ww2, k2⟩ := co_run hs P F' W (is ++ [opI w]) h1 (by omega) cr1 ww1 (by rw [List.length_append]; show n0 + (is.length + 1) + P.length ≤ 420; omega) (by omega) (fun x hx => hp x (List.mem_cons_of_mem _ hx)) ht
    refine ⟨h', by rw [e1, e2], ?_, ww2, k1.trans k2⟩
    rw [List.append_assoc] at cr2
    exact cr2
