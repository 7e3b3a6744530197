theorem cntR {n : Nat} {T : TX} {σ : ST} {s t : Nat} {hc hr : PH} (C : Cor n T σ s t hc hr) {z : Int32} {k : Nat} (hk : k < 4) (k0 : 0 < k) (hz : z - 7 = nI k) : c_X12_count_j148 z hr = some (nI (outMask σ k)) := by
  have w2 := C.twf.dut; have s2 := C.s2
  unfold c_X12_count_j148
  simp only [nm]
  have e : lq2 (c_X12_count_L152b z hr (fun w6 => some w6)) fu 0 0 = some (forS (fun i x => if (σ.out i == k) = true then x ||| ((1 : Int32) <<< (nI i &&& 31)) else x) T.dut 0) := by
    refine for_f (K := fun w6 => some w6) _ (by omega) (fun REC i y hi => ?_) (fun REC y => ?_) 0
    · unfold c_X12_count_L152b
      have d2 := C.swf.out i (by omega)
      rw [C.live, live_gd C.s2, nI_clamp (by omega), C.xr.dut, if_neg (nI_ge hi (by omega))]
      simp (disch := omega) only [nm, gdt, ixOK_nI, nI_clamp, nI_mul9, nI_mul7, nI_mul5, nI_mul6, nI_a4, nI_a13, nI_a22, nI_a31, nI_add, nI_1, Option.bind_some, one_ne0, if_false, if_true, C.sr.out0, hz, nI_eq, beq_iff_eq]
      by_cases b : σ.out i = k <;> simp only [b, if_true, if_false]
    · unfold c_X12_count_L152b
      rw [C.live, live_gd C.s2, nI_clamp (by omega), C.xr.dut, if_pos (nI_le (by omega) (by omega))]
  rw [e, mask_for (by omega)]
  unfold outMask
  rw [mask_9 (n := T.dut) (by omega) (fun d a b => by
    rw [C.swf.out1 d a b]
    exact beq_false_of_ne (by omega))]
theorem slotsC (hc : PH) : c_X11_slotsHeld hc = some (forS (fun i x => if hc.1 216 i = 0 then x + 0 else x + 1) 3 0) := by
  unfold c_X11_slotsHeld
  simp only [nm]
  refine for_f (K := fun w6 => some w6) (N := 3) _ (by omega) (fun REC i y hi => ?_) (fun REC y => ?_) 0
  · unfold c_X11_slotsHeld_L4b
    rw [if_neg (show ¬ (3 : Int32) ≤ nI i from nI_ge (b := 3) hi (by omega))]
    simp (disch := omega) only [nm, gdt, ixOK_nI, nI_clamp, nI_1]
    by_cases q : hc.1 216 i = 0
    · rw [if_pos q, if_pos q]
    · rw [if_neg q, if_neg q]
  · unfold c_X11_slotsHeld_L4b
    rw [if_pos (show (3 : Int32) ≤ nI 3 from nI_le (a := 3) (b := 3) (by omega) (by omega))]
theorem forS3 {α : Type} (g : Nat → α → α) (x : α) : forS g 3 x = g 2 (g 1 (g 0 x)) := rfl
theorem c8 : (8 : Int32) - 7 = nI 1 := by decide +kernel
theorem c9 : (9 : Int32) - 7 = nI 2 := by decide +kernel
theorem c10 : (10 : Int32) - 7 = nI 3 := by decide +kernel
theorem place_ok {hc hr : PH} (h : hc.1 0 2 = hr.1 0 17) : ∃ v : Int32, c_X11_place hc = some v ∧ c_X12_place hr = some v := by
  unfold c_X11_place c_X12_place
  rw [h]
  exact ⟨_, rfl, rfl⟩
def FkC (p k : Nat) : Prop := (p = 234 ∧ k = 4) ∨ (235 ≤ p ∧ p ≤ 237)
def FkR (p k : Nat) : Prop := (p = 0 ∧ k = 72) ∨ (50 ≤ p ∧ p ≤ 52)
def iKnown (T : TX) (hc hr : PH) : Prop := ∃ k : Nat, k ≤ 20 ∧ hc.1 234 4 = nI k ∧ hr.1 0 72 = nI k ∧ ∀ i, i < k → ∃ e a q : Nat, e < T.exc ∧ a < T.men ∧ q ≤ 9 ∧ hc.1 235 i = nI e ∧ hc.1 236 i = nI a ∧ hc.1 237 i = nI q ∧ hr.1 50 i = nI e ∧ hr.1 51 i = nI a ∧ hr.1 52 i = nI q
theorem iKnown_fr {T : TX} {hc hr hc' hr' : PH} (h1 : KP FkC hc hc') (h2 : KP FkR hr hr') (h : iKnown T hc hr) : iKnown T hc' hr' := by
  obtain ⟨k, hk, a, b, e⟩ := h
  refine ⟨k, hk, ?_, ?_, fun i hi => ?_⟩
  · rw [h1.i (Or.inl ⟨rfl, rfl⟩), a]
  · rw [h2.i (Or.inl ⟨rfl, rfl⟩), b]
  · rw [h1.i (Or.inr (by omega)), h1.i (Or.inr (by omega)), h1.i (Or.inr (by omega)), h2.i (Or.inr (by omega)), h2.i (Or.inr (by omega)), h2.i (Or.inr (by omega))]
    exact e i hi
theorem nI_lit {k : Nat} (h : k < 2 ^ 31) (N : Nat) (hN : N < 2 ^ 31) {M : Int32} (hM : M = nI N) : nI k = M ↔ k = N := by rw [hM]; exact nI_eq h hN
theorem count_ok {n : Nat} {T : TX} {σ : ST} {s t : Nat} {hc hr : PH} (C : Cor n T σ s t hc hr) (i1 : iTape hc hr) (i2 : iSaid hc hr) (i3 : iKnown T hc hr) (i4 : hc.1 84 2 = hr.1 0 63) (i5 : ∀ i, i < 3 → hc.1 216 i = hr.1 54 i) (a1 : Int32) : ∃ v : Int32, c_X11_count a1 hc = some v ∧ c_X12_count a1 hr = some v := by
  have s2 := C.s2
  obtain ⟨k1, _, p1, q1, _⟩ := i1
  obtain ⟨k2, _, p2, q2, _⟩ := i2
  obtain ⟨k3, _, p3, q3, _⟩ := i3
  have g0 : hr.1 43 0 = nI σ.today := C.sr.today
  have g1 : hr.1 43 1 = nI σ.coins := C.sr.coins
  have g2 : hr.1 43 2 = nI σ.hours := C.sr.hours
  have g3 : hr.1 43 3 = nI σ.owned := C.sr.owned
  by_cases q15 : a1 = 15
  · subst q15
    have h1 : c_X11_count 15 hc = (c_X11_slotsHeld hc).bind fun r5 => some r5 := by
      unfold c_X11_count
      repeat rw [if_neg (by decide)]
      rw [if_pos rfl]
    have h2 : c_X12_count 15 hr = if (hr.1 54 0) = 0 then c_X12_count_j229 0 hr else c_X12_count_j229 1 hr := by
      unfold c_X12_count
      repeat rw [if_neg (by decide)]
      rw [if_pos rfl]
    rw [h1, h2, slotsC, forS3, i5 0 (by omega), i5 1 (by omega), i5 2 (by omega)]
    unfold c_X12_count_j229
    by_cases x : hr.1 54 0 = 0 <;> by_cases y : hr.1 54 1 = 0 <;> by_cases z : hr.1 54 2 = 0 <;> simp only [x, y, z, if_true, if_false, Option.bind_some] <;> exact ⟨_, rfl, by decide⟩
  unfold c_X11_count c_X12_count
  by_cases q8 : a1 = 8
  · subst q8; rw [cntR C (by omega) (by omega) c8]; exact ⟨_, by rw [C.sc.freed]; rfl, rfl⟩
  by_cases q9 : a1 = 9
  · subst q9; rw [cntR C (by omega) (by omega) c9]; exact ⟨_, by rw [C.sc.caught]; rfl, rfl⟩
  by_cases q10 : a1 = 10
  · subst q10; rw [cntR C (by omega) (by omega) c10]; exact ⟨_, by rw [C.sc.done]; rfl, rfl⟩
  by_cases u0 : a1 = 0
  · rw [if_pos u0, if_pos u0]; simp only [nm, C.txt, gdT C.t2, C.xc.men, C.live, live_gd C.s2]; rw [nI_clamp (by omega), C.xr.men]; exact ⟨_, rfl, rfl⟩
  rw [if_neg u0, if_neg u0]
  by_cases u1 : a1 = 1
  · rw [if_pos u1, if_pos u1]; simp only [nm, C.txt, gdT C.t2, C.xc.exc, C.live, live_gd C.s2]; rw [nI_clamp (by omega), C.xr.exc]; exact ⟨_, rfl, rfl⟩
  rw [if_neg u1, if_neg u1]
  by_cases u2 : a1 = 2
  · rw [if_pos u2, if_pos u2]; simp only [nm, C.txt, gdT C.t2, C.xc.dut, C.live, live_gd C.s2]; rw [nI_clamp (by omega), C.xr.dut]; exact ⟨_, rfl, rfl⟩
  rw [if_neg u2, if_neg u2]
  by_cases u3 : a1 = 3
  · rw [if_pos u3, if_pos u3]; simp only [nm, C.txt, gdT C.t2, C.xc.tst, C.live, live_gd C.s2]; rw [nI_clamp (by omega), C.xr.tst]; exact ⟨_, rfl, rfl⟩
  rw [if_neg u3, if_neg u3]
  by_cases u4 : a1 = 4
  · rw [if_pos u4, if_pos u4]; rw [C.sc.today, g0]; exact ⟨_, rfl, rfl⟩
  rw [if_neg u4, if_neg u4]
  by_cases u5 : a1 = 5
  · rw [if_pos u5, if_pos u5]; rw [C.sc.coins, g1]; exact ⟨_, rfl, rfl⟩
  rw [if_neg u5, if_neg u5]
  by_cases u6 : a1 = 6
  · rw [if_pos u6, if_pos u6]; rw [C.sc.hours, g2]; exact ⟨_, rfl, rfl⟩
  rw [if_neg u6, if_neg u6]
  by_cases u7 : a1 = 7
  · rw [if_pos u7, if_pos u7]; rw [C.sc.owned, g3]; exact ⟨_, rfl, rfl⟩
  rw [if_neg u7, if_neg u7]
  rw [if_neg q8, if_neg q8]
  rw [if_neg q9, if_neg q9]
  rw [if_neg q10, if_neg q10]
  by_cases u11 : a1 = 11
  · rw [if_pos u11, if_pos u11]; rw [p1, q1]; exact ⟨_, rfl, rfl⟩
  rw [if_neg u11, if_neg u11]
  by_cases u12 : a1 = 12
  · rw [if_pos u12, if_pos u12]; rw [i4]; exact ⟨_, rfl, rfl⟩
  rw [if_neg u12, if_neg u12]
  by_cases u13 : a1 = 13
  · rw [if_pos u13, if_pos u13]; rw [p2, q2]; exact ⟨_, rfl, rfl⟩
  rw [if_neg u13, if_neg u13]
  by_cases u14 : a1 = 14
  · rw [if_pos u14, if_pos u14]; rw [p3, q3]; exact ⟨_, rfl, rfl⟩
  rw [if_neg u14, if_neg u14]
  rw [if_neg q15, if_neg q15]
  exact ⟨_, rfl, rfl⟩
theorem X6_add_ok {hc : PH} {k : Nat} (a1 a2 a3 : Int32) (hk : k < 20) (a : hc.1 234 4 = nI k) : c_X6_add 234 a1 a2 a3 hc = some (nI k, setI (setI (setI (setI hc 235 k a1) 236 k a2) 237 k a3) 234 4 (nI (k + 1))) := by
  unfold c_X6_add
  have e1 : ∀ (v : Int32) (q j : Nat), 235 ≤ q → ∀ h : PH, h.1 234 4 = nI k → (setI h q j v).1 234 4 = nI k := fun v q j hq h e => (setI_ne (by omega)).trans e
  have b1 := e1 a1 235 k (by omega) _ a
  have b2 := e1 a2 236 k (by omega) _ b1
  have b3 := e1 a3 237 k (by omega) _ b2
  rw [a, if_pos (show nI k < 20 from (nI_ltI (b := 20) (by omega) (by omega)).mpr hk)]
  simp (disch := omega) only [nm, gdt, ixOK_nI, nI_clamp, b1, b2, b3, nI_1, setI_eq, nI_sub1]
theorem know_ok {n : Nat} {T : TX} {σ : ST} {s t : Nat} {hc hr : PH} (C : Cor n T σ s t hc hr) (i3 : iKnown T hc hr) (a1 a2 a3 : Int32) : ∃ (v : Int32) (hc' hr' : PH), c_X11_know a1 a2 a3 hc = some (v, hc') ∧ c_X12_know a1 a2 a3 hr = some (v, hr') ∧ iKnown T hc' hr' ∧ KP (fun p q => ¬ FkC p q) hc hc' ∧ KP (fun p q => ¬ FkR p q) hr hr' := by
  have w1 := C.twf.men; have w3 := C.twf.exc
  have i0 := i3
  obtain ⟨k, hk, p, q, e⟩ := i3
  unfold c_X11_know c_X12_know
  simp only [nm, C.txt, gdT C.t2]
  rw [q, X12_in]
  by_cases q20 : k = 20
  · subst q20
    rw [if_pos (show nI 20 = 20 from rfl)]
    have z : ∀ a b c : Int32, c_X6_add 234 a b c hc = some (-1, hc) := fun a b c => by
      unfold c_X6_add
      rw [p, if_neg (show ¬ nI 20 < 20 from nI_nlt (a := 20) (b := 20) (by omega) (by omega))]
    refine ⟨-1, hc, hr, ?_, rfl, i0, KP.rfl, KP.rfl⟩
    rcases isExc_cases C.twf C.s2 C.live C.xc C.xr a1 with ⟨x, _, rfl, e1, _⟩ | ⟨e1, _⟩ <;> rcases isMan_cases C.twf C.s2 C.live C.xc C.xr a2 with ⟨y, _, rfl, f1, _⟩ | ⟨f1, _⟩ <;> simp only [e1, f1, z, bind2, Option.bind_some, one_ne0, if_true, if_false, ite_self]
  rw [if_neg (show ¬ nI k = 20 from fun w => q20 ((nI_eq (b := 20) (by omega) (by omega)).mp w))]
  rcases isExc_cases C.twf C.s2 C.live C.xc C.xr a1 with ⟨x, hx, rfl, e1, e2⟩ | ⟨e1, e2⟩
  · rcases isMan_cases C.twf C.s2 C.live C.xc C.xr a2 with ⟨y, hy, rfl, f1, f2⟩ | ⟨f1, f2⟩
    · simp only [e1, e2, f1, f2, Option.bind_some, one_ne0, if_false, if10]
      by_cases u : a3 < 0
      · rw [if_pos u, if_neg (fun w => absurd w.1 (Int32.not_le.mpr u))]
        exact ⟨-1, hc, hr, rfl, rfl, i0, KP.rfl, KP.rfl⟩
      rw [if_neg u]
      by_cases v : a3 ≤ 9
      · rw [if_pos v, if_pos ⟨Int32.not_lt.mp u, v⟩, X6_add_ok _ _ _ (by omega) p]
        obtain ⟨m, hm, rfl⟩ := nI_of u
        have hm9 : m ≤ 9 := (nI_leI (b := 9) hm (by omega)).mp v
        have g1 : ∀ (v : Int32) (q j : Nat), 50 ≤ q → ∀ h : PH, h.1 0 72 = nI k → (setI h q j v).1 0 72 = nI k := fun v q j hq h e => (setI_ne (by omega)).trans e
        have b1 := g1 (nI x) 50 k (by omega) _ q
        have b2 := g1 (nI y) 51 k (by omega) _ b1
        have b3 := g1 (nI m) 52 k (by omega) _ b2
        have hk20 : k < 20 := by omega
        simp (disch := omega) only [nm, bind2, gdt, ixOK_nI, nI_clamp, q, b1, b2, b3, nI_1, setI_eq, nI_sub1, Option.bind_some]
        refine ⟨_, _, _, rfl, rfl, ⟨k + 1, by omega, setI_eq _ _ _ _, setI_eq _ _ _ _, fun i hi => ?_⟩, ?_, ?_⟩
        · by_cases qi : i = k
          · subst qi
            exact ⟨x, y, m, hx, hy, hm9, by simp [setI], by simp [setI], by simp [setI], by simp [setI], by simp [setI], by simp [setI]⟩
          · obtain ⟨x', y', m', c1, c2, c3, c4, c5, c6, c7, c8, c9⟩ := e i (by omega)
            exact ⟨x', y', m', c1, c2, c3, by simp [setI, qi, c4], by simp [setI, qi, c5], by simp [setI, qi, c6], by simp [setI, qi, c7], by simp [setI, qi, c8], by simp [setI, qi, c9]⟩
        · exact (((KP.setI (fun w => w (Or.inr (by omega)))).trans (KP.setI (fun w => w (Or.inr (by omega))))).trans (KP.setI (fun w => w (Or.inr (by omega))))).trans (KP.setI (fun w => w (Or.inl ⟨rfl, rfl⟩)))
        · exact (((KP.setI (fun w => w (Or.inr (by omega)))).trans (KP.setI (fun w => w (Or.inr (by omega))))).trans (KP.setI (fun w => w (Or.inr (by omega))))).trans (KP.setI (fun w => w (Or.inl ⟨rfl, rfl⟩)))
      · rw [if_neg v, if_neg (fun w => v w.2)]
        exact ⟨-1, hc, hr, rfl, rfl, i0, KP.rfl, KP.rfl⟩
    · simp only [e1, e2, f1, f2, Option.bind_some, one_ne0, if_false, if_true]
      exact ⟨-1, hc, hr, rfl, rfl, i0, KP.rfl, KP.rfl⟩
  · simp only [e1, e2, Option.bind_some, if_true]
    exact ⟨-1, hc, hr, rfl, rfl, i0, KP.rfl, KP.rfl⟩
theorem forget_ok {T : TX} {hc hr : PH} (i2 : iSaid hc hr) (i3 : iKnown T hc hr) : ∃ (v : Int32) (hc' hr' : PH), c_X11_forget hc = some (v, hc') ∧ c_X12_forget hr = some (v, hr') ∧ iSaid hc' hr' ∧ iKnown T hc' hr' ∧ KP (fun p q => ¬ FsC p q ∧ ¬ FkC p q) hc hc' ∧ KP (fun p q => ¬ FsR p q ∧ ¬ FkR p q) hr hr' := by
  obtain ⟨k2, _, p2, q2, _⟩ := i2
  obtain ⟨k3, _, p3, q3, _⟩ := i3
  unfold c_X11_forget c_X12_forget c_X0_clear c_X6_clear
  simp only [nm, Option.bind_some, p2, q2, p3, q3]
  refine ⟨_, _, _, rfl, rfl, ⟨0, by omega, (setI_ne (by omega)).trans (setI_eq _ _ _ _), (setI_ne (by omega)).trans (setI_eq _ _ _ _), fun i hi => absurd hi (by omega)⟩, ⟨0, by omega, setI_eq _ _ _ _, setI_eq _ _ _ _, fun i hi => absurd hi (by omega)⟩, ?_, ?_⟩
  · exact (KP.setI (fun w => w.1 (Or.inl ⟨rfl, rfl⟩))).trans (KP.setI (fun w => w.2 (Or.inl ⟨rfl, rfl⟩)))
  · exact (KP.setI (fun w => w.1 (Or.inl ⟨rfl, rfl⟩))).trans (KP.setI (fun w => w.2 (Or.inl ⟨rfl, rfl⟩)))
