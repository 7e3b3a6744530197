def FsC (p k : Nat) : Prop := (p = 229 ∧ k = 4) ∨ (230 ≤ p ∧ p ≤ 233)
def FsR (p k : Nat) : Prop := (p = 0 ∧ k = 67) ∨ (46 ≤ p ∧ p ≤ 49)
def iSaid (hc hr : PH) : Prop := ∃ k : Nat, k ≤ 20 ∧ hc.1 229 4 = nI k ∧ hr.1 0 67 = nI k ∧ ∀ i, i < k → hc.1 230 i = hr.1 46 i ∧ hc.1 231 i = hr.1 47 i ∧ hc.1 232 i = hr.1 48 i ∧ hc.1 233 i = hr.1 49 i / 365
theorem iSaid_fr {hc hr hc' hr' : PH} (h1 : KP FsC hc hc') (h2 : KP FsR hr hr') (h : iSaid hc hr) : iSaid hc' hr' := by
  obtain ⟨k, hk, a, b, e⟩ := h
  refine ⟨k, hk, ?_, ?_, fun i hi => ?_⟩
  · rw [h1.i (Or.inl ⟨rfl, rfl⟩), a]
  · rw [h2.i (Or.inl ⟨rfl, rfl⟩), b]
  · rw [h1.i (Or.inr (by omega)), h1.i (Or.inr (by omega)), h1.i (Or.inr (by omega)), h1.i (Or.inr (by omega)), h2.i (Or.inr (by omega)), h2.i (Or.inr (by omega)), h2.i (Or.inr (by omega)), h2.i (Or.inr (by omega))]
    exact e i hi
theorem X12_in (x lo hi : Int32) : c_X12_in x lo hi = some (if lo ≤ x ∧ x ≤ hi then 1 else 0) := by
  unfold c_X12_in
  by_cases a : x < lo
  · rw [if_pos a, if_neg (fun q => absurd q.1 (Int32.not_le.mpr a))]
  · rw [if_neg a]
    by_cases b : hi < x
    · rw [if_pos b, if_neg (fun q => absurd q.2 (Int32.not_le.mpr b))]
    · rw [if_neg b, if_pos ⟨Int32.not_lt.mp a, Int32.not_lt.mp b⟩]
theorem X11_isKind (x : Int32) : c_X11_isKind x = some (if 0 ≤ x ∧ x ≤ 9 then 1 else 0) := X12_in x 0 9
theorem if10 {α : Type} {P : Prop} [Decidable P] {a b : α} : (if (if P then (1 : Int32) else 0) = 0 then a else b) = if P then b else a := by
  by_cases h : P
  · rw [if_pos h, if_pos h, if_neg (by decide)]
  · rw [if_neg h, if_neg h, if_pos rfl]
theorem nI_sub1 (k : Nat) : nI (k + 1) - 1 = nI k := nI_pred k
def sayC (hc : PH) (k : Nat) (a1 a2 a3 a4 : Int32) : PH := setI (setI (setI (setI (setI hc 230 k a1) 231 k a2) 232 k a3) 233 k (a4 / 365)) 229 4 (nI (k + 1))
def sayR (hr : PH) (k : Nat) (a1 a2 a3 a4 : Int32) : PH := setI (setI (setI (setI (setI hr 46 k a1) 47 k a2) 48 k a3) 49 k a4) 0 67 (nI (k + 1))
theorem t0 : (0 : Int32).toInt = 0 := by decide
theorem t1 : (1 : Int32).toInt = 1 := by decide
theorem t9 : (9 : Int32).toInt = 9 := by decide
theorem t20 : (20 : Int32).toInt = 20 := by decide
theorem t120 : (120 : Int32).toInt = 120 := by decide
theorem t9999 : (9999 : Int32).toInt = 9999 := by decide
theorem ite_cg {α : Type} {P Q : Prop} [Decidable P] [Decidable Q] {a b : α} (h : P ↔ Q) : (if P then a else b) = if Q then a else b := by
  by_cases q : Q
  · rw [if_pos q, if_pos (h.mpr q)]
  · rw [if_neg q, if_neg (fun w => q (h.mp w))]
theorem X0_add_ok {hc : PH} {k : Nat} (a1 a2 a3 a4 : Int32) (hk : k ≤ 20) (a : hc.1 229 4 = nI k) : c_X0_add 229 a1 a2 a3 a4 hc = if k < 20 then some (nI k, sayC hc k a1 a2 a3 a4) else some (-1, hc) := by
  unfold c_X0_add
  rw [a]
  refine (ite_cg (show nI k < 20 ↔ k < 20 from nI_ltI (b := 20) (by omega) (by omega))).trans ?_
  by_cases q : k < 20
  · rw [if_pos q, if_pos q, gdI q (by omega), nI_clamp (by omega)]
    unfold nm
    have a1' : ∀ (v : Int32) (q j : Nat), 230 ≤ q → ∀ h : PH, h.1 229 4 = nI k → (setI h q j v).1 229 4 = nI k := fun v q j hq h e => (setI_ne (by omega)).trans e
    show gd (ixOK ((setI hc 230 k a1).1 229 4) 20) _ = _
    rw [a1' _ 230 k (by omega) hc a, gdI q (by omega), nI_clamp (by omega)]
    show gd (ixOK ((setI (setI hc 230 k a1) 231 k a2).1 229 4) 20) _ = _
    rw [a1' _ 231 k (by omega) _ (a1' _ 230 k (by omega) hc a), gdI q (by omega), nI_clamp (by omega)]
    show gd (ixOK ((setI (setI (setI hc 230 k a1) 231 k a2) 232 k a3).1 229 4) 20) _ = _
    rw [a1' _ 232 k (by omega) _ (a1' _ 231 k (by omega) _ (a1' _ 230 k (by omega) hc a)), gdI q (by omega), nI_clamp (by omega)]
    have e5 := a1' (a4 / 365) 233 k (by omega) _ (a1' a3 232 k (by omega) _ (a1' a2 231 k (by omega) _ (a1' a1 230 k (by omega) hc a)))
    show some ((setI (setI (setI (setI (setI hc 230 k a1) 231 k a2) 232 k a3) 233 k (a4 / 365)) 229 4 ((setI (setI (setI (setI hc 230 k a1) 231 k a2) 232 k a3) 233 k (a4 / 365)).1 229 4 + 1)).1 229 4 - 1, setI (setI (setI (setI (setI hc 230 k a1) 231 k a2) 232 k a3) 233 k (a4 / 365)) 229 4 ((setI (setI (setI (setI hc 230 k a1) 231 k a2) 232 k a3) 233 k (a4 / 365)).1 229 4 + 1)) = _
    rw [e5, nI_1, setI_eq, nI_sub1]
    rfl
  · rw [if_neg q, if_neg q]
theorem say_ok {hc hr : PH} (a1 a2 a3 a4 : Int32) (h : iSaid hc hr) : ∃ (v : Int32) (hc' hr' : PH), c_X11_say a1 a2 a3 a4 hc = some (v, hc') ∧ c_X12_say a1 a2 a3 a4 hr = some (v, hr') ∧ iSaid hc' hr' ∧ KP (fun p q => ¬ FsC p q) hc hc' ∧ KP (fun p q => ¬ FsR p q) hr hr' := by
  have h0 := h
  obtain ⟨k, hk, a, b, e⟩ := h
  have no : c_X12_say a1 a2 a3 a4 hr = some (-1, hr) → c_X11_say a1 a2 a3 a4 hc = some (-1, hc) → ∃ (v : Int32) (hc' hr' : PH), c_X11_say a1 a2 a3 a4 hc = some (v, hc') ∧ c_X12_say a1 a2 a3 a4 hr = some (v, hr') ∧ iSaid hc' hr' ∧ KP (fun p q => ¬ FsC p q) hc hc' ∧ KP (fun p q => ¬ FsR p q) hr hr' := fun x y => ⟨-1, hc, hr, y, x, h0, KP.rfl, KP.rfl⟩
  have eC : c_X11_say a1 a2 a3 a4 hc = if (0 ≤ a1 ∧ a1 ≤ 9) ∧ (0 ≤ a2 ∧ a2 ≤ 120) ∧ (a2 ≤ a3 ∧ a3 ≤ 120) ∧ (0 ≤ a4 ∧ a4 ≤ 9999) ∧ k < 20 then some (nI k, sayC hc k a1 a2 a3 a4) else some (-1, hc) := by
    unfold c_X11_say
    rw [X11_isKind, Option.bind_some, if10, X0_add_ok a1 a2 a3 a4 hk a]
    simp only [Int32.lt_iff_toInt_lt, Int32.le_iff_toInt_le, t0, t9, t120, t9999]
    by_cases q1 : 0 ≤ a1.toInt ∧ a1.toInt ≤ 9
    · rw [if_pos q1]
      by_cases q2 : a2.toInt < 0
      · rw [if_pos q2, if_neg (by omega)]
      rw [if_neg q2]
      by_cases q3 : 120 < a3.toInt
      · rw [if_pos q3, if_neg (by omega)]
      rw [if_neg q3]
      by_cases q4 : a3.toInt < a2.toInt
      · rw [if_pos q4, if_neg (by omega)]
      rw [if_neg q4]
      by_cases q5 : a4.toInt < 0
      · rw [if_pos q5, if_neg (by omega)]
      rw [if_neg q5]
      by_cases q6 : a4.toInt ≤ 9999
      · rw [if_pos q6]
        by_cases q7 : k < 20
        · rw [if_pos q7, if_pos (by omega)]; rfl
        · rw [if_neg q7, if_neg (by omega)]; rfl
      · rw [if_neg q6, if_neg (by omega)]
    · rw [if_neg q1, if_neg (by omega)]
  have eR : c_X12_say a1 a2 a3 a4 hr = if (0 ≤ a1 ∧ a1 ≤ 9) ∧ (0 ≤ a2 ∧ a2 ≤ 120) ∧ (a2 ≤ a3 ∧ a3 ≤ 120) ∧ (0 ≤ a4 ∧ a4 ≤ 9999) ∧ k < 20 then some (nI k, sayR hr k a1 a2 a3 a4) else some (-1, hr) := by
    unfold c_X12_say
    rw [X12_in, X12_in, X12_in, X12_in]
    simp only [Option.bind_some, if10]
    rw [b]
    refine (ite_cg (show nI k = 20 ↔ k = 20 from nI_eq (b := 20) (by omega) (by omega))).trans ?_
    by_cases q0 : k = 20
    · rw [if_pos q0, if_neg (by omega)]
    rw [if_neg q0]
    have q7 : k < 20 := by omega
    by_cases q1 : 0 ≤ a1 ∧ a1 ≤ 9
    · rw [if_pos q1]
      by_cases q2 : 0 ≤ a2 ∧ a2 ≤ 120
      · rw [if_pos q2]
        by_cases q3 : a2 ≤ a3 ∧ a3 ≤ 120
        · rw [if_pos q3]
          by_cases q4 : 0 ≤ a4 ∧ a4 ≤ 9999
          · rw [if_pos q4, if_pos ⟨q1, q2, q3, q4, q7⟩, gdI q7 (by omega), nI_clamp (by omega)]
            have a1' : ∀ (v : Int32) (q j : Nat), 46 ≤ q → ∀ h : PH, h.1 0 67 = nI k → (setI h q j v).1 0 67 = nI k := fun v q j hq h e => (setI_ne (by omega)).trans e
            have e1 := a1' a1 46 k (by omega) _ b
            have e2 := a1' a2 47 k (by omega) _ e1
            have e3 := a1' a3 48 k (by omega) _ e2
            have e4 := a1' a4 49 k (by omega) _ e3
            show gd (ixOK ((setI hr 46 k a1).1 0 67) 20) _ = _
            rw [e1, gdI q7 (by omega), nI_clamp (by omega)]
            show gd (ixOK ((setI (setI hr 46 k a1) 47 k a2).1 0 67) 20) _ = _
            rw [e2, gdI q7 (by omega), nI_clamp (by omega)]
            show gd (ixOK ((setI (setI (setI hr 46 k a1) 47 k a2) 48 k a3).1 0 67) 20) _ = _
            rw [e3, gdI q7 (by omega), nI_clamp (by omega)]
            show some ((setI (setI (setI (setI (setI hr 46 k a1) 47 k a2) 48 k a3) 49 k a4) 0 67 ((setI (setI (setI (setI hr 46 k a1) 47 k a2) 48 k a3) 49 k a4).1 0 67 + 1)).1 0 67 - 1, setI (setI (setI (setI (setI hr 46 k a1) 47 k a2) 48 k a3) 49 k a4) 0 67 ((setI (setI (setI (setI hr 46 k a1) 47 k a2) 48 k a3) 49 k a4).1 0 67 + 1)) = _
            rw [e4, nI_1, setI_eq, nI_sub1]
            rfl
          · rw [if_neg q4, if_neg (fun w => q4 w.2.2.2.1)]
        · rw [if_neg q3, if_neg (fun w => q3 w.2.2.1)]
      · rw [if_neg q2, if_neg (fun w => q2 w.2.1)]
    · rw [if_neg q1, if_neg (fun w => q1 w.1)]
  by_cases q : (0 ≤ a1 ∧ a1 ≤ 9) ∧ (0 ≤ a2 ∧ a2 ≤ 120) ∧ (a2 ≤ a3 ∧ a3 ≤ 120) ∧ (0 ≤ a4 ∧ a4 ≤ 9999) ∧ k < 20
  · rw [if_pos q] at eC eR
    refine ⟨_, _, _, eC, eR, ⟨k + 1, by omega, setI_eq _ _ _ _, setI_eq _ _ _ _, fun i hi => ?_⟩, ?_, ?_⟩
    · unfold sayC sayR
      simp only [setI]
      by_cases qi : i = k
      · subst qi; simp
      · have := e i (by omega)
        simp [qi, this]
    · unfold sayC
      exact ((((KP.setI (fun w => w (Or.inr (by omega)))).trans (KP.setI (fun w => w (Or.inr (by omega))))).trans (KP.setI (fun w => w (Or.inr (by omega))))).trans (KP.setI (fun w => w (Or.inr (by omega))))).trans (KP.setI (fun w => w (Or.inl ⟨rfl, rfl⟩)))
    · unfold sayR
      exact ((((KP.setI (fun w => w (Or.inr (by omega)))).trans (KP.setI (fun w => w (Or.inr (by omega))))).trans (KP.setI (fun w => w (Or.inr (by omega))))).trans (KP.setI (fun w => w (Or.inr (by omega))))).trans (KP.setI (fun w => w (Or.inl ⟨rfl, rfl⟩)))
  · rw [if_neg q] at eC eR
    exact no eR eC
def loS (hr : PH) (z : Int32) : Nat → Nat → Int32 → Int32
  | 0, _, x => x
  | n + 1, i, x => loS hr z n (i + 1) (if hr.1 46 i = z then jmax x (hr.1 47 i - hr.1 49 i / 365) else x)
def hiS (hr : PH) (z : Int32) : Nat → Nat → Int32 → Int32
  | 0, _, x => x
  | n + 1, i, x => hiS hr z n (i + 1) (if hr.1 46 i = z then jmin x (hr.1 48 i - hr.1 49 i / 365) else x)
theorem lo_loop {hc hr : PH} {k : Nat} (hk : k ≤ 20) (a : hc.1 229 4 = nI k) (e : ∀ i, i < k → hc.1 230 i = hr.1 46 i ∧ hc.1 231 i = hr.1 47 i ∧ hc.1 232 i = hr.1 48 i ∧ hc.1 233 i = hr.1 49 i / 365) (z : Int32) (j : Nat) (hj : j ≤ k) (K : Int32 → Option Int32) : ∀ (n f i : Nat) (x : Int32), i + n = j → lq2 (c_X0_leastAge_L5b 229 z (nI j) hc K) (f + n + 1) x (nI i) = K (loS hr z n i x)
  | 0, f, i, x, hi => by
    rw [lq2_s]
    unfold c_X0_leastAge_L5b
    rw [if_pos (nI_le (by omega) (by omega))]
    rfl
  | n + 1, f, i, x, hi => by
    obtain ⟨e1, e2, e3, e4⟩ := e i (by omega)
    have st : ∀ REC : Int32 → Int32 → Option Int32, c_X0_leastAge_L5b 229 z (nI j) hc K REC x (nI i) = REC (if hr.1 46 i = z then jmax x (hr.1 47 i - hr.1 49 i / 365) else x) (nI (i + 1)) := fun REC => by
      unfold c_X0_leastAge_L5b
      rw [if_neg (nI_ge (by omega) (by omega)), a, if_neg (nI_ge (by omega) (by omega)), gdI (by omega) (by omega), gdI (by omega) (by omega), gdI (by omega) (by omega), nI_clamp (by omega), e1, e2, e4]
      by_cases q : hr.1 46 i = z
      · rw [if_pos q, if_pos q, ← nI_1]; rfl
      · rw [if_neg q, if_neg q, ← nI_1]; rfl
    rw [show f + (n + 1) + 1 = (f + n + 1) + 1 from by omega, lq2_s, st]
    exact lo_loop hk a e z j hj K n f (i + 1) _ (by omega)
theorem hi_loop {hc hr : PH} {k : Nat} (hk : k ≤ 20) (a : hc.1 229 4 = nI k) (e : ∀ i, i < k → hc.1 230 i = hr.1 46 i ∧ hc.1 231 i = hr.1 47 i ∧ hc.1 232 i = hr.1 48 i ∧ hc.1 233 i = hr.1 49 i / 365) (z : Int32) (j : Nat) (hj : j ≤ k) (K : Int32 → Option Int32) : ∀ (n f i : Nat) (x : Int32), i + n = j → lq2 (c_X0_greatestAge_L6b 229 z (nI j) hc K) (f + n + 1) x (nI i) = K (hiS hr z n i x)
  | 0, f, i, x, hi => by
    rw [lq2_s]
    unfold c_X0_greatestAge_L6b
    rw [if_pos (nI_le (by omega) (by omega))]
    rfl
  | n + 1, f, i, x, hi => by
    obtain ⟨e1, e2, e3, e4⟩ := e i (by omega)
    have st : ∀ REC : Int32 → Int32 → Option Int32, c_X0_greatestAge_L6b 229 z (nI j) hc K REC x (nI i) = REC (if hr.1 46 i = z then jmin x (hr.1 48 i - hr.1 49 i / 365) else x) (nI (i + 1)) := fun REC => by
      unfold c_X0_greatestAge_L6b
      rw [if_neg (nI_ge (by omega) (by omega)), a, if_neg (nI_ge (by omega) (by omega)), gdI (by omega) (by omega), gdI (by omega) (by omega), gdI (by omega) (by omega), nI_clamp (by omega), e1, e3, e4]
      by_cases q : hr.1 46 i = z
      · rw [if_pos q, if_pos q, ← nI_1]; rfl
      · rw [if_neg q, if_neg q, ← nI_1]; rfl
    rw [show f + (n + 1) + 1 = (f + n + 1) + 1 from by omega, lq2_s, st]
    exact hi_loop hk a e z j hj K n f (i + 1) _ (by omega)
theorem span_loop (hr : PH) (z1 z3 : Int32) (j : Nat) (hj : j ≤ 20) (K : Int32 → Int32 → Option Int32) : ∀ (n f i : Nat) (x y : Int32), i + n = j → lq3 (c_X12_span_L43b z1 (nI j) z3 hr K) (f + n + 1) x y (nI i) = K (loS hr z1 n i x) (hiS hr z1 n i y)
  | 0, f, i, x, y, hi => by
    rw [lq3_s]
    unfold c_X12_span_L43b
    rw [if_pos (nI_le (by omega) (by omega))]
    rfl
  | n + 1, f, i, x, y, hi => by
    have st : ∀ REC : Int32 → Int32 → Int32 → Option Int32, c_X12_span_L43b z1 (nI j) z3 hr K REC x y (nI i) = REC (if hr.1 46 i = z1 then jmax x (hr.1 47 i - hr.1 49 i / 365) else x) (if hr.1 46 i = z1 then jmin y (hr.1 48 i - hr.1 49 i / 365) else y) (nI (i + 1)) := fun REC => by
      unfold c_X12_span_L43b c_X12_span_j103
      rw [if_neg (nI_ge (by omega) (by omega))]
      simp only [gdI (show i < 20 by omega) (show 20 < 2 ^ 31 by omega), nI_clamp (show i < 2 ^ 31 by omega), nm, nI_1]
      by_cases q : hr.1 46 i = z1
      · rw [if_pos q, if_pos q, if_pos q]
        unfold jmax jmin
        by_cases w : hr.1 47 i - hr.1 49 i / 365 ≤ x
        · rw [if_pos w, if_neg (Int32.not_lt.mpr w)]
          by_cases u : y ≤ hr.1 48 i - hr.1 49 i / 365
          · rw [if_pos u, if_neg (Int32.not_lt.mpr u)]
          · rw [if_neg u, if_pos (Int32.not_le.mp u)]
        · rw [if_neg w, if_pos (Int32.not_le.mp w)]
          by_cases u : y ≤ hr.1 48 i - hr.1 49 i / 365
          · rw [if_pos u, if_neg (Int32.not_lt.mpr u)]
          · rw [if_neg u, if_pos (Int32.not_le.mp u)]
      · rw [if_neg q, if_neg q, if_neg q]
    rw [show f + (n + 1) + 1 = (f + n + 1) + 1 from by omega, lq3_s, st]
    exact span_loop hr z1 z3 j hj K n f (i + 1) _ _ (by omega)
theorem span_ok {hc hr : PH} (a1 a2 a3 : Int32) (h : iSaid hc hr) : ∃ v : Int32, c_X11_span a1 a2 a3 hc = some v ∧ c_X12_span a1 a2 a3 hr = some v := by
  obtain ⟨k, hk, a, b, e⟩ := h
  have L : ∀ {α : Type} {f : α} {x : Option Int32} {y : Option Int32}, x = y → (∃ v, y = some v) → ∃ v, y = some v ∧ x = some v := fun h ⟨v, q⟩ => ⟨v, q, h.trans q⟩
  unfold c_X11_span c_X12_span
  rw [X11_isKind, X12_in, X12_in, X12_in]
  simp only [Option.bind_some, if10]
  by_cases q1 : 0 ≤ a1 ∧ a1 ≤ 9
  · rw [if_pos q1, if_pos q1, a, b]
    by_cases q2 : a2 < 0
    · rw [if_pos q2, if_neg (fun w => absurd w.1 (Int32.not_le.mpr q2))]
      exact ⟨_, rfl, rfl⟩
    rw [if_neg q2]
    by_cases q3 : nI k < a2
    · rw [if_pos q3, if_neg (fun w => absurd w.2 (Int32.not_le.mpr q3))]
      exact ⟨_, rfl, rfl⟩
    have w2 : 0 ≤ a2 ∧ a2 ≤ nI k := ⟨Int32.not_lt.mp q2, Int32.not_lt.mp q3⟩
    rw [if_neg q3, if_pos w2]
    by_cases q4 : a3 < 0
    · rw [if_pos q4, if_neg (fun w => absurd w.1 (Int32.not_le.mpr q4))]
      exact ⟨_, rfl, rfl⟩
    rw [if_neg q4]
    by_cases q5 : a3 ≤ 1
    · have w3 : 0 ≤ a3 ∧ a3 ≤ 1 := ⟨Int32.not_lt.mp q4, q5⟩
      rw [if_pos q5, if_pos w3]
      obtain ⟨j, hj, rfl⟩ := nI_of q2
      have hjk : j ≤ k := (nI_leI hj (by omega)).mp (Int32.not_lt.mp q3)
      have eL : c_X0_leastAge 229 a1 (nI j) hc = some (loS hr a1 j 0 0) := by
        have := lo_loop hk a e a1 j hjk (fun w => some w) j (8191 - j) 0 0 (by omega)
        rw [show 8191 - j + j + 1 = 8192 from by omega] at this
        exact this
      have eH : c_X0_greatestAge 229 a1 (nI j) hc = some (hiS hr a1 j 0 120) := by
        have := hi_loop hk a e a1 j hjk (fun w => some w) j (8191 - j) 0 120 (by omega)
        rw [show 8191 - j + j + 1 = 8192 from by omega] at this
        exact this
      rw [eL, eH]
      have eS := span_loop hr a1 a3 j (by omega) (fun w13 w14 => if w13 ≤ w14 then if a3 = 0 then some w13 else some w14 else some (-2)) j (8191 - j) 0 0 120 (by omega)
      rw [show 8191 - j + j + 1 = 8192 from by omega] at eS
      simp only [Option.bind_some, nm]
      refine L (f := ()) eS ?_
      by_cases w : loS hr a1 j 0 0 ≤ hiS hr a1 j 0 120
      · rw [if_pos w]
        by_cases u : a3 = 0
        · rw [if_pos u]; exact ⟨_, rfl⟩
        · rw [if_neg u]; exact ⟨_, rfl⟩
      · rw [if_neg w]; exact ⟨_, rfl⟩
    · rw [if_neg q5, if_neg (fun w => q5 w.2)]
      exact ⟨_, rfl, rfl⟩
  · rw [if_neg q1, if_neg q1]
    exact ⟨_, rfl, rfl⟩
