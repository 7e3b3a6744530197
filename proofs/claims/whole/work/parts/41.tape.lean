def FtC (p k : Nat) : Prop := (p = 0 ∧ k = 1) ∨ p = 1
def FtR (p k : Nat) : Prop := (p = 0 ∧ k = 2) ∨ p = 1
def bv (b : Nat) : Int32 := (nI b).toInt8.toInt32
theorem bv_of (x : Int32) : ∃ b : Nat, b < 256 ∧ vp_nar .byte x = bv b := by
  refine ⟨x.toInt8.toBitVec.toNat, x.toInt8.toBitVec.isLt, ?_⟩
  rw [vp_nar_byte]
  unfold bv
  congr 1
  apply Int8.toBitVec_inj.mp
  rw [Int32.toBitVec_toInt8 (nI _), BitVec.signExtend_eq_setWidth_of_le _ (by decide)]
  apply BitVec.eq_of_toNat_eq
  rw [BitVec.toNat_setWidth]
  show _ = (x.toInt8.toBitVec.toNat % 2 ^ 32) % 2 ^ 8
  have := x.toInt8.toBitVec.isLt
  omega
/-- one byte of the tape, on both sides -/
def TB (hc hr : PH) (i : Nat) : Prop := hc.1 1 i = hr.1 1 i ∧ ∃ b : Nat, b < 256 ∧ hc.1 1 i = bv b
theorem TB.mv {a b a' b' : PH} {i : Nat} (h1 : a'.1 1 i = a.1 1 i) (h2 : b'.1 1 i = b.1 1 i) (h : TB a b i) : TB a' b' i := ⟨by rw [h1, h2]; exact h.1, by rw [h1]; exact h.2⟩
def iTape (hc hr : PH) : Prop := ∃ k : Nat, k ≤ 2000 ∧ hc.1 0 1 = nI k ∧ hr.1 0 2 = nI k ∧ ∀ i, i < k → TB hc hr i
theorem iTape_fr {hc hr hc' hr' : PH} (h1 : KP FtC hc hc') (h2 : KP FtR hr hr') (h : iTape hc hr) : iTape hc' hr' := by
  obtain ⟨k, hk, a, b, e⟩ := h
  refine ⟨k, hk, ?_, ?_, fun i hi => ?_⟩
  · rw [h1.i (Or.inl ⟨rfl, rfl⟩), a]
  · rw [h2.i (Or.inl ⟨rfl, rfl⟩), b]
  · exact (e i hi).mv (h1.i (Or.inr rfl)) (h2.i (Or.inr rfl))
theorem byte_sh1 (z : Int32) (s : Int32) (n : Nat) (hn : n ≤ 24) (h1 : (z >>> (s &&& 31)).toBitVec = z.toBitVec.sshiftRight n) (h2 : (jushr z s).toBitVec = z.toBitVec >>> n) : (jushr z s).toInt8.toInt32 = (z >>> (s &&& 31)).toInt8.toInt32 := by
  have e : (jushr z s).toInt8 = (z >>> (s &&& 31)).toInt8 := by
    apply Int8.toBitVec_inj.mp
    rw [Int32.toBitVec_toInt8, Int32.toBitVec_toInt8, h1, h2, BitVec.signExtend_eq_setWidth_of_le _ (by decide), BitVec.signExtend_eq_setWidth_of_le _ (by decide)]
    apply BitVec.eq_of_getLsbD_eq
    intro i hi
    rw [BitVec.getLsbD_setWidth, BitVec.getLsbD_setWidth, BitVec.getLsbD_ushiftRight, BitVec.getLsbD_sshiftRight]
    have : n + i < 32 := by omega
    have h32 : ¬ 32 ≤ i := by omega
    simp only [this, if_pos, h32, decide_false, Bool.not_false, Bool.true_and]
  rw [e]
theorem byte_sh (z : Int32) (j : Nat) (hj : j < 4) : (jushr z (nI (8 * j))).toInt8.toInt32 = (z >>> (nI (8 * j) &&& 31)).toInt8.toInt32 := by
  have hj : j = 0 ∨ j = 1 ∨ j = 2 ∨ j = 3 := by omega
  rcases hj with h | h | h | h <;> subst h
  · exact byte_sh1 z _ 0 (by decide) rfl rfl
  · exact byte_sh1 z _ 8 (by decide) rfl rfl
  · exact byte_sh1 z _ 16 (by decide) rfl rfl
  · exact byte_sh1 z _ 24 (by decide) rfl rfl
theorem put_loop (z : Int32) (Kc Kr : PH → Option PH) : ∀ (j f : Nat) (hc hr : PH) (k : Nat), j ≤ 4 → k + j ≤ 2000 → hc.1 0 1 = nI k → hr.1 0 2 = nI k → (∀ i, i < k → TB hc hr i) → ∃ hc' hr' : PH, lq2 (c_X11_writeWord_L3b z Kc) (f + j + 1) (nI (8 * j) - 8) hc = Kc hc' ∧ lq2 (c_X12_put_L3b z Kr) (f + j + 1) (nI (8 * j) - 8) hr = Kr hr' ∧ hc'.1 0 1 = nI (k + j) ∧ hr'.1 0 2 = nI (k + j) ∧ (∀ i, i < k + j → TB hc' hr' i) ∧ KP (fun p q => ¬ FtC p q) hc hc' ∧ KP (fun p q => ¬ FtR p q) hr hr'
  | 0, f, hc, hr, k, _, _, a, b, e => by
    refine ⟨hc, hr, ?_, ?_, a, b, e, KP.rfl, KP.rfl⟩
    · rw [lq2_s]; unfold c_X11_writeWord_L3b; rw [if_pos (by decide +kernel)]
    · rw [lq2_s]; unfold c_X12_put_L3b; rw [if_pos (by decide +kernel)]
  | j + 1, f, hc, hr, k, hj, hk, a, b, e => by
    have hx : nI (8 * (j + 1)) - 8 = nI (8 * j) := by
      have : 8 * (j + 1) = 8 * j + 8 := by omega
      rw [this, ← nI_add]
      exact Int32.add_sub_cancel _ _
    have hx2 : nI (8 * j) + (-8) = nI (8 * j) - 8 := (Int32.sub_eq_add_neg _ _).symm
    have hlt : ¬ nI (8 * j) < 0 := nI_pos (by omega)
    have h2000 : ¬ (2000 : Int32) ≤ nI k := fun q => by
      have : (2000 : Int32) = nI 2000 := rfl
      rw [this] at q
      exact nI_ge (by omega) (by omega) q
    let v := vp_nar .byte ((jushr z (nI (8 * j))).toInt8.toInt32)
    let hc1 := setI (setI hc 1 k v) 0 1 (nI (k + 1))
    let hr1 := setI (setI hr 1 k v) 0 2 (nI (k + 1))
    obtain ⟨hc', hr', r1, r2, r3, r4, r5, r6, r7⟩ := put_loop z Kc Kr j f hc1 hr1 (k + 1) (by omega) (by omega) (setI_eq _ _ _ _) (setI_eq _ _ _ _) (fun i hi => by
      show TB (setI (setI hc 1 k v) 0 1 (nI (k + 1))) (setI (setI hr 1 k v) 0 2 (nI (k + 1))) i
      by_cases q : i = k
      · subst q
        have c1 : (setI (setI hc 1 i v) 0 1 (nI (i + 1))).1 1 i = v := by rw [setI_ne (by omega), setI_eq]
        have c2 : (setI (setI hr 1 i v) 0 2 (nI (i + 1))).1 1 i = v := by rw [setI_ne (by omega), setI_eq]
        exact ⟨by rw [c1, c2], by rw [c1]; exact bv_of _⟩
      · exact (e i (by omega)).mv (by rw [setI_ne (by omega), setI_ne (by omega)]) (by rw [setI_ne (by omega), setI_ne (by omega)]))
    refine ⟨hc', hr', ?_, ?_, ?_, ?_, ?_, ?_, ?_⟩
    · rw [hx, show f + (j + 1) + 1 = (f + j + 1) + 1 from by omega, lq2_s]
      have st : ∀ REC : Int32 → PH → Option PH, c_X11_writeWord_L3b z Kc REC (nI (8 * j)) hc = REC (nI (8 * j) - 8) hc1 := fun REC => by
        unfold c_X11_writeWord_L3b
        rw [if_neg hlt, a, if_neg h2000, gdI (by omega) (by omega), nI_clamp (by omega)]
        show REC (nI (8 * j) + (-8)) (setI (setI hc 1 k v) 0 1 ((setI hc 1 k v).1 0 1 + 1)) = _
        rw [setI_ne (h := hc) (p := 1) (q := 0) (by omega), a, nI_1, hx2]
      rw [st]
      exact r1
    · rw [hx, show f + (j + 1) + 1 = (f + j + 1) + 1 from by omega, lq2_s]
      have st : ∀ REC : Int32 → PH → Option PH, c_X12_put_L3b z Kr REC (nI (8 * j)) hr = REC (nI (8 * j) - 8) hr1 := fun REC => by
        unfold c_X12_put_L3b
        rw [if_neg hlt, b, gdI (by omega) (by omega), nI_clamp (by omega), ← byte_sh z j (by omega)]
        show REC (nI (8 * j) + (-8)) (setI (setI hr 1 k v) 0 2 ((setI hr 1 k v).1 0 2 + 1)) = _
        rw [setI_ne (h := hr) (p := 1) (q := 0) (by omega), b, nI_1, hx2]
      rw [st]
      exact r2
    · rw [r3, show k + (j + 1) = k + 1 + j from by omega]
    · rw [r4, show k + (j + 1) = k + 1 + j from by omega]
    · intro i hi; exact r5 i (by omega)
    · exact ((KP.setI (fun q => q (Or.inr rfl))).trans (KP.setI (fun q => q (Or.inl ⟨rfl, rfl⟩)))).trans r6
    · exact ((KP.setI (fun q => q (Or.inr rfl))).trans (KP.setI (fun q => q (Or.inl ⟨rfl, rfl⟩)))).trans r7
theorem put_ok (z : Int32) {hc hr : PH} {k : Nat} (hk : k + 4 ≤ 2000) (a : hc.1 0 1 = nI k) (b : hr.1 0 2 = nI k) (e : ∀ i, i < k → TB hc hr i) : ∃ hc' hr' : PH, c_X11_writeWord z hc = some hc' ∧ c_X12_put z hr = some hr' ∧ hc'.1 0 1 = nI (k + 4) ∧ hr'.1 0 2 = nI (k + 4) ∧ (∀ i, i < k + 4 → TB hc' hr' i) ∧ KP (fun p q => ¬ FtC p q) hc hc' ∧ KP (fun p q => ¬ FtR p q) hr hr' :=
  put_loop z (fun h => some h) (fun h => some h) 4 8187 hc hr k (by omega) hk a b e
theorem feed_ok {hc hr : PH} (a1 a2 a3 a4 a5 : Int32) (h : iTape hc hr) : ∃ (v : Int32) (hc' hr' : PH), c_X11_feed a1 a2 a3 a4 a5 hc = some (v, hc') ∧ c_X12_feed a1 a2 a3 a4 a5 hr = some (v, hr') ∧ iTape hc' hr' ∧ KP (fun p q => ¬ FtC p q) hc hc' ∧ KP (fun p q => ¬ FtR p q) hr hr' := by
  obtain ⟨k, hk, a, b, e⟩ := h
  unfold c_X11_feed c_X12_feed
  rw [a, b]
  have hadd : nI k + 20 = nI (k + 20) := nI_add k 20
  rw [hadd]
  by_cases q : k ≤ 1980
  · rw [if_pos (show nI k ≤ 1980 from (nI_leI (a := k) (b := 1980) (by omega) (by omega)).mpr q), if_pos (show nI (k + 20) ≤ 2000 from (nI_leI (a := k + 20) (b := 2000) (by omega) (by omega)).mpr (by omega))]
    obtain ⟨c1, r1, p1, q1, a1', b1', e1, k1, l1⟩ := put_ok a1 (by omega) a b e
    obtain ⟨c2, r2, p2, q2, a2', b2', e2, k2, l2⟩ := put_ok a2 (by omega) a1' b1' e1
    obtain ⟨c3, r3, p3, q3, a3', b3', e3, k3, l3⟩ := put_ok a3 (by omega) a2' b2' e2
    obtain ⟨c4, r4, p4, q4, a4', b4', e4, k4, l4⟩ := put_ok a4 (by omega) a3' b3' e3
    obtain ⟨c5, r5, p5, q5, a5', b5', e5, k5, l5⟩ := put_ok a5 (by omega) a4' b4' e4
    refine ⟨nI (k + 4 + 4 + 4 + 4 + 4), c5, r5, ?_, ?_, ⟨_, by omega, a5', b5', e5⟩, (((k1.trans k2).trans k3).trans k4).trans k5, (((l1.trans l2).trans l3).trans l4).trans l5⟩
    · rw [p1, Option.bind_some, p2, Option.bind_some, p3, Option.bind_some, p4, Option.bind_some, p5, Option.bind_some, a5']
    · rw [q1, Option.bind_some, q2, Option.bind_some, q3, Option.bind_some, q4, Option.bind_some, q5, Option.bind_some, b5']
  · rw [if_neg (show ¬ nI k ≤ 1980 from fun w => q ((nI_leI (a := k) (b := 1980) (by omega) (by omega)).mp w)), if_neg (show ¬ nI (k + 20) ≤ 2000 from fun w => q (by have := (nI_leI (a := k + 20) (b := 2000) (by omega) (by omega)).mp w; omega))]
    exact ⟨-1, hc, hr, rfl, rfl, ⟨k, hk, a, b, e⟩, KP.rfl, KP.rfl⟩
theorem back_ok {hc hr : PH} (a1 : Int32) (h : iTape hc hr) : ∃ (v : Int32) (hc' hr' : PH), c_X11_back a1 hc = some (v, hc') ∧ c_X12_back a1 hr = some (v, hr') ∧ iTape hc' hr' ∧ KP (fun p q => ¬ FtC p q) hc hc' ∧ KP (fun p q => ¬ FtR p q) hr hr' := by
  obtain ⟨k, hk, a, b, e⟩ := h
  unfold c_X11_back c_X12_back
  rw [a, b]
  by_cases q : a1 < 0
  · rw [if_pos q, if_pos q]
    exact ⟨-1, hc, hr, rfl, rfl, ⟨k, hk, a, b, e⟩, KP.rfl, KP.rfl⟩
  rw [if_neg q, if_neg q]
  by_cases w : a1 ≤ nI k
  · rw [if_pos w, if_pos w]
    obtain ⟨j, hj, rfl⟩ := nI_of q
    have hjk : j ≤ k := (nI_leI hj (by omega)).mp w
    have hs : nI k - nI j = nI (k - j) := by
      have : k = (k - j) + j := by omega
      conv => lhs; rw [this, ← nI_add]
      exact Int32.add_sub_cancel _ _
    unfold nm
    rw [hs]
    refine ⟨nI (k - j), setI hc 0 1 (nI (k - j)), setI hr 0 2 (nI (k - j)), rfl, rfl, ⟨k - j, by omega, setI_eq _ _ _ _, setI_eq _ _ _ _, fun i hi => ?_⟩, KP.setI (fun q => q (Or.inl ⟨rfl, rfl⟩)), KP.setI (fun q => q (Or.inl ⟨rfl, rfl⟩))⟩
    exact (e i (by omega)).mv (setI_ne (by omega)) (setI_ne (by omega))
  · rw [if_neg w, if_neg w]
    exact ⟨-1, hc, hr, rfl, rfl, ⟨k, hk, a, b, e⟩, KP.rfl, KP.rfl⟩
