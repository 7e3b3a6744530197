def FsC (p k : Nat) : Prop := (p = 229 ∧ k = 4) ∨ (230 ≤ p ∧ p ≤ 233)
def FsR (p k : Nat) : Prop := (p = 0 ∧ k = 67) ∨ (46 ≤ p ∧ p ≤ 49)
def iSaid (hc hr : PH) : Prop := ∃ k : Nat, k ≤ 20 ∧ hc.1 229 4 = nI k ∧ hr.1 0 67 = nI k ∧ ∀ i, i < k → hc.1 230 i = hr.1 46 i ∧ hc.1 231 i = hr.1 47 i ∧ hc.1 232 i = hr.1 48 i ∧ hc.1 233 i = hr.1 49 i / 365
theorem iSaid_fr {hc hr hc' hr' : PH} (h1 : KP FsC hc hc') (h2 : KP FsR hr hr') (h : iSaid hc hr) : iSaid hc' hr' := by
  obtain ⟨k, hk, a, b, e⟩ := h
  refine ⟨k, hk, ?_, ?_, fun i hi => ?_⟩
  · rw [h1.i (Or.inl ⟨rfl, rfl⟩), a]
  · rw [h2.i (Or.inl ⟨rfl, rfl⟩), b]
  · rw [h1.i (Or.inr (by omega)), h1.i (Or.inr (by omega)), h1.i (Or.inr (by omega)), h1.i (Or.inr (by omega)), h2.i (Or.inr (by omega)), h2.i (Or.inr (by omega)), h2.i (Or.inr (by omega)), h2.i (Or.inr (by omega))]
    exact e i hi
theorem X12_in (x lo hi : Int32) : c_X12_in x lo hi = some (if lo ≤ x ∧ x ≤ hi then 1 else 0) := by
  unfold c_X12_in
  by_cases a : x < lo
  · rw [if_pos a, if_neg (fun q => absurd q.1 (Int32.not_le.mpr a))]
  · rw [if_neg a]
    by_cases b : hi < x
    · rw [if_pos b, if_neg (fun q => absurd q.2 (Int32.not_le.mpr b))]
    · rw [if_neg b, if_pos ⟨Int32.not_lt.mp a, Int32.not_lt.mp b⟩]
theorem X11_isKind (x : Int32) : c_X11_isKind x = some (if 0 ≤ x ∧ x ≤ 9 then 1 else 0) := X12_in x 0 9
theorem if10 {α : Type} {P : Prop} [Decidable P] {a b : α} : (if (if P then (1 : Int32) else 0) = 0 then a else b) = if P then b else a := by
  by_cases h : P
  · rw [if_pos h, if_pos h, if_neg (by decide)]
  · rw [if_neg h, if_neg h, if_pos rfl]
theorem nI_sub1 (k : Nat) : nI (k + 1) - 1 = nI k := nI_pred k
def sayC (hc : PH) (k : Nat) (a1 a2 a3 a4 : Int32) : PH := setI (setI (setI (setI (setI hc 230 k a1) 231 k a2) 232 k a3) 233 k (a4 / 365)) 229 4 (nI (k + 1))
def sayR (hr : PH) (k : Nat) (a1 a2 a3 a4 : Int32) : PH := setI (setI (setI (setI (setI hr 46 k a1) 47 k a2) 48 k a3) 49 k a4) 0 67 (nI (k + 1))
theorem t0 : (0 : Int32).toInt = 0 := by decide
theorem t1 : (1 : Int32).toInt = 1 := by decide
theorem t9 : (9 : Int32).toInt = 9 := by decide
theorem t20 : (20 : Int32).toInt = 20 := by decide
theorem t120 : (120 : Int32).toInt = 120 := by decide
theorem t9999 : (9999 : Int32).toInt = 9999 := by decide
theorem ite_cg {α : Type} {P Q : Prop} [Decidable P] [Decidable Q] {a b : α} (h : P ↔ Q) : (if P then a else b) = if Q then a else b := by
  by_cases q : Q
  · rw [if_pos q, if_pos (h.mpr q)]
  · rw [if_neg q, if_neg (fun w => q (h.mp w))]
theorem X0_add_ok {hc : PH} {k : Nat} (a1 a2 a3 a4 : Int32) (hk : k ≤ 20) (a : hc.1 229 4 = nI k) : c_X0_add 229 a1 a2 a3 a4 hc = if k < 20 then some (nI k, sayC hc k a1 a2 a3 a4) else some (-1, hc) := by
  unfold c_X0_add
  rw [a]
  refine (ite_cg (show nI k < 20 ↔ k < 20 from nI_ltI (b := 20) (by omega) (by omega))).trans ?_
  by_cases q : k < 20
  · rw [if_pos q, if_pos q, gdI q (by omega), nI_clamp (by omega)]
    unfold nm
    have a1' : ∀ (v : Int32) (q j : Nat), 230 ≤ q → ∀ h : PH, h.1 229 4 = nI k → (setI h q j v).1 229 4 = nI k := fun v q j hq h e => (setI_ne (by omega)).trans e
    show gd (ixOK ((setI hc 230 k a1).1 229 4) 20) _ = _
    rw [a1' _ 230 k (by omega) hc a, gdI q (by omega), nI_clamp (by omega)]
    show gd (ixOK ((setI (setI hc 230 k a1) 231 k a2).1 229 4) 20) _ = _
    rw [a1' _ 231 k (by omega) _ (a1' _ 230 k (by omega) hc a), gdI q (by omega), nI_clamp (by omega)]
    show gd (ixOK ((setI (setI (setI hc 230 k a1) 231 k a2) 232 k a3).1 229 4) 20) _ = _
    rw [a1' _ 232 k (by omega) _ (a1' _ 231 k (by omega) _ (a1' _ 230 k (by omega) hc a)), gdI q (by omega), nI_clamp (by omega)]
    have e5 := a1' (a4 / 365) 233 k (by omega) _ (a1' a3 232 k (by omega) _ (a1' a2 231 k (by omega) _ (a1' a1 230 k (by omega) hc a)))
    show some ((setI (setI (setI (setI (setI hc 230 k a1) 231 k a2) 232 k a3) 233 k (a4 / 365)) 229 4 ((setI (setI (setI (setI hc 230 k a1) 231 k a2) 232 k a3) 233 k (a4 / 365)).1 229 4 + 1)).1 229 4 - 1, setI (setI (setI (setI (setI hc 230 k a1) 231 k a2) 232 k a3) 233 k (a4 / 365)) 229 4 ((setI (setI (setI (setI hc 230 k a1) 231 k a2) 232 k a3) 233 k (a4 / 365)).1 229 4 + 1)) = _
    rw [e5, nI_1, setI_eq, nI_sub1]
    rfl
  · rw [if_neg q, if_neg q]
theorem say_ok {hc hr : PH} (a1 a2 a3 a4 : Int32) (h : iSaid hc hr) : ∃ (v : Int32) (hc' hr' : PH), c_X11_say a1 a2 a3 a4 hc = some (v, hc') ∧ c_X12_say a1 a2 a3 a4 hr = some (v, hr') ∧ iSaid hc' hr' ∧ KP (fun p q => ¬ FsC p q) hc hc' ∧ KP (fun p q => ¬ FsR p q) hr hr' := by
  have h0 := h
  obtain ⟨k, hk, a, b, e⟩ := h
  have no : c_X12_say a1 a2 a3 a4 hr = some (-1, hr) → c_X11_say a1 a2 a3 a4 hc = some (-1, hc) → ∃ (v : Int32) (hc' hr' : PH), c_X11_say a1 a2 a3 a4 hc = some (v, hc') ∧ c_X12_say a1 a2 a3 a4 hr = some (v, hr') ∧ iSaid hc' hr' ∧ KP (fun p q => ¬ FsC p q) hc hc' ∧ KP (fun p q => ¬ FsR p q) hr hr' := fun x y => ⟨-1, hc, hr, y, x, h0, KP.rfl, KP.rfl⟩
  have eC : c_X11_say a1 a2 a3 a4 hc = if (0 ≤ a1 ∧ a1 ≤ 9) ∧ (0 ≤ a2 ∧ a2 ≤ 120) ∧ (a2 ≤ a3 ∧ a3 ≤ 120) ∧ (0 ≤ a4 ∧ a4 ≤ 9999) ∧ k < 20 then some (nI k, sayC hc k a1 a2 a3 a4) else some (-1, hc) := by
    unfold c_X11_say
    rw [X11_isKind, Option.bind_some, if10, X0_add_ok a1 a2 a3 a4 hk a]
    simp only [Int32.lt_iff_toInt_lt, Int32.le_iff_toInt_le, t0, t9, t120, t9999]
    by_cases q1 : 0 ≤ a1.toInt ∧ a1.toInt ≤ 9
    · rw [if_pos q1]
      by_cases q2 : a2.toInt < 0
      · rw [if_pos q2, if_neg (by omega)]
      rw [if_neg q2]
      by_cases q3 : 120 < a3.toInt
      · rw [if_pos q3, if_neg (by omega)]
      rw [if_neg q3]
      by_cases q4 : a3.toInt < a2.toInt
      · rw [if_pos q4, if_neg (by omega)]
      rw [if_neg q4]
      by_cases q5 : a4.toInt < 0
      · rw [if_pos q5, if_neg (by omega)]
      rw [if_neg q5]
      by_cases q6 : a4.toInt ≤ 9999
      · rw [if_pos q6]
        by_cases q7 : k < 20
        · rw [if_pos q7, if_pos (by omega)]; rfl
        · rw [if_neg q7, if_neg (by omega)]; rfl
      · rw [if_neg q6, if_neg (by omega)]
    · rw [if_neg q1, if_neg (by omega)]
  have eR : c_X12_say a1 a2 a3 a4 hr = if (0 ≤ a1 ∧ a1 ≤ 9) ∧ (0 ≤ a2 ∧ a2 ≤ 120) ∧ (a2 ≤ a3 ∧ a3 ≤ 120) ∧ (0 ≤ a4 ∧ a4 ≤ 9999) ∧ k < 20 then some (nI k, sayR hr k a1 a2 a3 a4) else some (-1, hr) := by
    unfold c_X12_say
    rw [X12_in, X12_in, X12_in, X12_in]
    simp only [Option.bind_some, if10]
    rw [b]
    refine (ite_cg (show nI k = 20 ↔ k = 20 from nI_eq (b := 20) (by omega) (by omega))).trans ?_
    by_cases q0 : k = 20
    · rw [if_pos q0, if_neg (by omega)]
    rw [if_neg q0]
    have q7 : k < 20 := by omega
    by_cases q1 : 0 ≤ a1 ∧ a1 ≤ 9
    · rw [if_pos q1]
      by_cases q2 : 0 ≤ a2 ∧ a2 ≤ 120
      · rw [if_pos q2]
        by_cases q3 : a2 ≤ a3 ∧ a3 ≤ 120
        · rw [if_pos q3]
          by_cases q4 : 0 ≤ a4 ∧ a4 ≤ 9999
          · rw [if_pos q4, if_pos ⟨q1, q2, q3, q4, q7⟩, gdI q7 (by omega), nI_clamp (by omega)]
            have a1' : ∀ (v : Int32) (q j : Nat), 46 ≤ q → ∀ h : PH, h.1 0 67 = nI k → (setI h q j v).1 0 67 = nI k := fun v q j hq h e => (setI_ne (by omega)).trans e
            have e1 := a1' a1 46 k (by omega) _ b
            have e2 := a1' a2 47 k (by omega) _ e1
            have e3 := a1' a3 48 k (by omega) _ e2
            have e4 := a1' a4 49 k (by omega) _ e3
            show gd (ixOK ((setI hr 46 k a1).1 0 67) 20) _ = _
            rw [e1, gdI q7 (by omega), nI_clamp (by omega)]
            show gd (ixOK ((setI (setI hr 46 k a1) 47 k a2).1 0 67) 20) _ = _
            rw [e2, gdI q7 (by omega), nI_clamp (by omega)]
            show gd (ixOK ((setI (setI (setI hr 46 k a1) 47 k a2) 48 k a3).1 0 67) 20) _ = _
            rw [e3, gdI q7 (by omega), nI_clamp (by omega)]
            show some ((setI (setI (setI (setI (setI hr 46 k a1) 47 k a2) 48 k a3) 49 k a4) 0 67 ((setI (setI (setI (setI hr 46 k a1) 47 k a2) 48 k a3) 49 k a4).1 0 67 + 1)).1 0 67 - 1, setI (setI (setI (setI (setI hr 46 k a1) 47 k a2) 48 k a3) 49 k a4) 0 67 ((setI (setI (setI (setI hr 46 k a1) 47 k a2) 48 k a3) 49 k a4).1 0 67 + 1)) = _
            rw [e4, nI_1, setI_eq, nI_sub1]
            rfl
          · rw [if_neg q4, if_neg (fun w => q4 w.2.2.2.1)]
        · rw [if_neg q3, if_neg (fun w => q3 w.2.2.1)]
      · rw [if_neg q2, if_neg (fun w => q2 w.2.1)]
    · rw [if_neg q1, if_neg (fun w => q1 w.1)]
  by_cases q : (0 ≤ a1 ∧ a1 ≤ 9) ∧ (0 ≤ a2 ∧ a2 ≤ 120) ∧ (a2 ≤ a3 ∧ a3 ≤ 120) ∧ (0 ≤ a4 ∧ a4 ≤ 9999) ∧ k < 20
  · rw [if_pos q] at eC eR
    refine ⟨_, _, _, eC, eR, ⟨k + 1, by omega, setI_eq _ _ _ _, setI_eq _ _ _ _, fun i hi => ?_⟩, ?_, ?_⟩
    · unfold sayC sayR
      simp only [setI]
      by_cases qi : i = k
      · subst qi; simp
      · have := e i (by omega)
        simp [qi, this]
    · unfold sayC
      exact ((((KP.setI (fun w => w (Or.inr (by omega)))).trans (KP.setI (fun w => w (Or.inr (by omega))))).trans (KP.setI (fun w => w (Or.inr (by omega))))).trans (KP.setI (fun w => w (Or.inr (by omega))))).trans (KP.setI (fun w => w (Or.inl ⟨rfl, rfl⟩)))
    · unfold sayR
      exact ((((KP.setI (fun w => w (Or.inr (by omega)))).trans (KP.setI (fun w => w (Or.inr (by omega))))).trans (KP.setI (fun w => w (Or.inr (by omega))))).trans (KP.setI (fun w => w (Or.inr (by omega))))).trans (KP.setI (fun w => w (Or.inl ⟨rfl, rfl⟩)))
  · rw [if_neg q] at eC eR
    exact no eR eC
