/-- the law that always answers one number -/
theorem always_ok {p q v : Nat} {h : PH} (hv : v < 10000) (l : h.1 p 1 = nI 2) (a : h.1 (p + 1) 0 = nI v) (b : h.1 (p + 1) 1 = -1) : ExV (c_X2_answer p q h) (fun r h' => r = nI v ∧ KP (fun r _ => r ≠ p + 2) h h') := by
  unfold c_X2_answer
  refine ev_nm ?_
  refine ev_nm ?_
  refine ev_nm ?_
  obtain ⟨f, hf⟩ : ∃ f, fu = f + 1 + 1 := ⟨8190, by unfold fu; omega⟩
  rw [hf, show (0 : Int32) = nI 0 from nI_0.symm, lq4_s]
  generalize hR : lq4 (c_X2_answer_L7b p q (fun h29 => some ((nI 0 : Int32), h29)) (fun w30 h31 => if w30 ≤ nI 0 then some (nI 0, h31) else gd (ixOK (w30 - 1) 20) <| some ((h31.1 (p + 2) (w30 - 1).toNatClampNeg), h31)) (fun h32 => some (nI 0, h32)) (fun h33 => some (nI 0, h33)) (fun h34 => some (nI 0, h34))) (f + 1) = REC
  have s1 : c_X2_answer_L7b p q (fun h29 => some ((nI 0 : Int32), h29)) (fun w30 h31 => if w30 ≤ nI 0 then some (nI 0, h31) else gd (ixOK (w30 - 1) 20) <| some ((h31.1 (p + 2) (w30 - 1).toNatClampNeg), h31)) (fun h32 => some (nI 0, h32)) (fun h33 => some (nI 0, h33)) (fun h34 => some (nI 0, h34)) REC (nI 0) (nI 0) (nI 0) h = REC (nI 1) (nI 1) (nI 1) (setI h (p + 2) 0 (nI v)) := by
    unfold c_X2_answer_L7b
    rw [l, if_neg (show ¬ nI 2 ≤ nI 0 by decide), if_neg (show ¬ nI 2 ≤ nI 0 by decide), gdI (by omega) (by omega), nI_clamp (by omega), a]
    simp only [nm]
    rw [if_neg (nI_pos (by omega)), if_pos (show nI 0 < 20 by decide), if_neg (show ¬ (10000 : Int32) ≤ nI v from nI_ge (b := 10000) hv (by omega)), gdI (by omega) (by omega), nI_1]
  rw [s1, ← hR, lq4_s]
  generalize lq4 (c_X2_answer_L7b p q (fun h29 => some ((nI 0 : Int32), h29)) (fun w30 h31 => if w30 ≤ nI 0 then some (nI 0, h31) else gd (ixOK (w30 - 1) 20) <| some ((h31.1 (p + 2) (w30 - 1).toNatClampNeg), h31)) (fun h32 => some (nI 0, h32)) (fun h33 => some (nI 0, h33)) (fun h34 => some (nI 0, h34))) f = REC2
  unfold c_X2_answer_L7b
  have l' : (setI h (p + 2) 0 (nI v)).1 p 1 = nI 2 := by rw [setI_ne (by omega)]; exact l
  have b' : (setI h (p + 2) 0 (nI v)).1 (p + 1) 1 = -1 := by rw [setI_ne (by omega)]; exact b
  rw [l', if_neg (show ¬ nI 2 ≤ nI 1 by decide), if_neg (show ¬ nI 2 ≤ nI 1 by decide), gdI (by omega) (by omega), nI_clamp (by omega), b']
  rw [nm_eq, nm_eq, if_pos m1_neg, if_pos (Eq.refl _)]
  show ExV (if nI 1 ≤ nI 0 then some (nI 0, setI h (p + 2) 0 (nI v)) else gd (ixOK (nI 1 - 1) 20) (some ((setI h (p + 2) 0 (nI v)).1 (p + 2) (nI 1 - 1).toNatClampNeg, setI h (p + 2) 0 (nI v)))) _
  rw [if_neg (show ¬ nI 1 ≤ nI 0 by decide), show nI 1 - 1 = nI 0 by decide, gdI (by omega) (by omega), nI_clamp (by omega), setI_eq]
  exact ev_some ⟨rfl, KP.setI (fun z => z rfl)⟩
theorem law_def {s a2 a3 : Int32} {h : PH} {k : Nat} (hk : k < 4) (l : (2 * (h.1 0 18)) + s = nI k) (e : h.1 31 k = h.1 32 k) : c_X12_asks s a2 a3 h = some (a2, h) := by
  unfold c_X12_asks
  simp only [nm]
  rw [l, gdI hk (by omega), gdI hk (by omega), nI_clamp (by omega), if_pos e]
