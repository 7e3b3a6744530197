def mendS (T : TX) (n : Nat) (σ : ST) : ST := ST.mk (σ.today + n) σ.coins σ.hours σ.owned σ.out σ.plan (fun a => if a < T.men then min 99 (σ.trust a + n * T.mend a) else σ.trust a)
theorem jmin_nI {x : Nat} (h : x < 2 ^ 31) : jmin 99 (nI x) = nI (min 99 x) := by
  unfold jmin
  rw [ite_cg (show nI x < 99 ↔ x < 99 from nI_ltI (b := 99) h (by omega))]
  by_cases q : x < 99
  · rw [if_pos q, Nat.min_eq_right (by omega)]
  · rw [if_neg q, Nat.min_eq_left (by omega)]; rfl
theorem mendC_ok {T : TX} {σ : ST} {p t n : Nat} {h : PH} (w : T.wf) (xc : TxC t T h) (x : StC p σ h) (ht9 : ∀ a, a < 5 → σ.trust a ≤ 99) (hp : p = 78 ∨ p = 81 ∨ p = 220) (ht : t = 8 ∨ t = 43) (hn : n < 100000) : ExH (c_X1_mend 217 t p (nI n) h) (fun h' => StC p (mendS T n σ) h' ∧ KP (FGo t p) h h') := by
  have w1 := w.men
  unfold c_X1_mend
  refine ex_nm ?_
  obtain ⟨y, e, hy, ky⟩ := for_h (B := c_X1_mend_L3b 217 t p (nI n) (fun h5 => nm (setI h5 p 0 ((h5.1 p 0) + nI n)) fun h6 => some h6)) (K := fun h5 => nm (setI h5 p 0 ((h5.1 p 0) + nI n)) fun h6 => some h6) (N := T.men) (fun i y => (∀ a, a < 5 → y.1 (p + 1) a = nI (if a < i then min 99 (σ.trust a + n * T.mend a) else σ.trust a)) ∧ KP (fun q _ => q ≠ p + 1) h y) (by omega) (fun REC i y hi hp2 => by
    obtain ⟨r, k⟩ := hp2
    have cy : TxC t T y := xc.fr w (k.mono (fun q k z => by unfold FxC at z; omega))
    have m9 := w.mend i hi
    have t9 := ht9 i (by omega)
    have bd : n * T.mend i ≤ 100000 * 9 := Nat.mul_le_mul (by omega) m9
    refine ⟨setI y (p + 1) i (nI (min 99 (σ.trust i + n * T.mend i))), ?_, ⟨fun a ha => ?_, k.trans (KP.setI (fun q => q rfl))⟩⟩
    · unfold c_X1_mend_L3b
      rw [cy.men, if_neg (nI_ge hi (by omega))]
      simp (disch := omega) only [gdI, nI_clamp, r i (by omega), cy.mend i hi]
      rw [if_neg (show ¬ i < i by omega), pk_mul, nI_add, jmin_nI (by omega), nI_1]
      rfl
    · by_cases q : a = i
      · subst q; rw [setI_eq, if_pos (by omega)]
      · rw [setI_ne (by omega), r a ha]
        by_cases u : a < i
        · rw [if_pos u, if_pos (by omega)]
        · rw [if_neg u, if_neg (by omega)]) (fun REC y hp2 => by
    have cy : TxC t T y := xc.fr w (hp2.2.mono (fun q k z => by unfold FxC at z; omega))
    unfold c_X1_mend_L3b
    rw [cy.men, if_pos (nI_le (by omega) (by omega))]) h ⟨fun a ha => by rw [if_neg (by omega)]; exact x.trust a ha, KP.rfl⟩
  rw [e]
  refine ex_set (fun h6 e6 => ex_some ⟨?_, ?_⟩)
  · have rd : ∀ q k, q ≠ p + 1 → ¬ (q = p ∧ k = 0) → h6.1 q k = h.1 q k := fun q k a b => by rw [e6, setI_ne b]; exact ky.i a
    have v0 : y.1 p 0 = nI σ.today := (ky.i (by omega)).trans x.today
    apply StC.set
    · rw [e6, v0, nI_add, setI_eq]; rfl
    · rw [rd _ _ (by omega) (by omega)]; exact x.coins
    · rw [rd _ _ (by omega) (by omega)]; exact x.hours
    · rw [rd _ _ (by omega) (by omega)]; exact x.owned
    · rw [rd _ _ (by omega) (by omega)]; exact x.freed
    · rw [rd _ _ (by omega) (by omega)]; exact x.caught
    · rw [rd _ _ (by omega) (by omega)]; exact x.done
    · intro a ha; rw [e6, setI_ne (by omega)]; exact hy a ha
    · intro a ha; rw [rd _ _ (by omega) (by omega)]; exact x.plan a ha
  · rw [e6]; exact (ky.mono (fun q k z => by unfold FGo at z; omega)).trans (KP.setI (fun q => by unfold FGo at q; omega))
theorem mendR_ok {T : TX} {σ : ST} {s : Nat} {h : PH} (w : T.wf) (hs : s < 2) (l : h.1 0 18 = nI s) (xr : TxR s T h) (tr : ∀ a, a < 5 → h.1 44 (31 + a) = nI (σ.trust a)) (ht9 : ∀ a, a < 5 → σ.trust a ≤ 99) : ExH (c_X12_mendsAll h) (fun h' => (∀ a, a < 5 → h'.1 44 (31 + a) = nI ((mendS T 1 σ).trust a)) ∧ KP (fun p k => ¬ (p = 44 ∧ 31 ≤ k ∧ k < 36)) h h') := by
  have w1 := w.men
  unfold c_X12_mendsAll
  refine ex_nm ?_
  obtain ⟨y, e, hy, ky⟩ := for_h (B := c_X12_mendsAll_L2b (fun h7 => some h7)) (K := fun h5 => some h5) (N := T.men) (fun i y => (∀ a, a < 5 → y.1 44 (31 + a) = nI (if a < i then min 99 (σ.trust a + 1 * T.mend a) else σ.trust a)) ∧ KP (fun p k => ¬ (p = 44 ∧ 31 ≤ k ∧ k < 36)) h y) (by omega) (fun REC i y hi hp2 => by
    obtain ⟨r, k⟩ := hp2
    have cy : TxR s T y := xr.fr (k.mono (fun q k z => by unfold FxR at z; omega))
    have ly : y.1 0 18 = nI s := (k.i (by omega)).trans l
    have m9 := w.mend i hi
    have t9 := ht9 i (by omega)
    refine ⟨setI y 44 (31 + i) (nI (min 99 (σ.trust i + 1 * T.mend i))), ?_, ⟨fun a ha => ?_, k.trans (KP.setI (fun q => q (by omega)))⟩⟩
    · unfold c_X12_mendsAll_L2b
      rw [ly, live_gd hs, nI_clamp (n := s) (by omega), cy.men, if_neg (nI_ge hi (by omega))]
      have ri : y.1 44 (31 + i) = nI (σ.trust i) := by rw [r i (by omega), if_neg (by omega)]
      simp (disch := omega) only [nm, gdI, nI_a31, nI_mul5, nI_add, nI_clamp, ri, cy.mend i hi, nI_1]
      rw [ite_cg (show nI (σ.trust i + T.mend i) ≤ 99 ↔ σ.trust i + T.mend i ≤ 99 from nI_leI (b := 99) (by omega) (by omega)), Nat.one_mul]
      by_cases q : σ.trust i + T.mend i ≤ 99
      · rw [if_pos q, Nat.min_eq_right q]
      · rw [if_neg q, Nat.min_eq_left (by omega)]; rfl
    · by_cases q : a = i
      · subst q; rw [setI_eq, if_pos (by omega)]
      · rw [setI_ne (by omega), r a ha]
        by_cases u : a < i
        · rw [if_pos u, if_pos (by omega)]
        · rw [if_neg u, if_neg (by omega)]) (fun REC y hp2 => by
    have cy : TxR s T y := xr.fr (hp2.2.mono (fun q k z => by unfold FxR at z; omega))
    have ly : y.1 0 18 = nI s := (hp2.2.i (by omega)).trans l
    unfold c_X12_mendsAll_L2b
    rw [ly, live_gd hs, nI_clamp (n := s) (by omega), cy.men, if_pos (nI_le (by omega) (by omega))]) h ⟨fun a ha => by rw [if_neg (by omega)]; exact tr a ha, KP.rfl⟩
  rw [e]
  exact ex_some ⟨fun a ha => hy a ha, ky⟩
def stepS (T : TX) (Lp Lw : (Nat → Int32) → Int32) (seed : Int32) (d : Nat) (σ : ST) : ST := if T.dday d = σ.today then meetS T Lp Lw seed d σ else σ
def dayS (T : TX) (Lp Lw : (Nat → Int32) → Int32) (seed : Int32) (σ : ST) : ST := mendS T 1 (forS (stepS T Lp Lw seed) T.dut σ)
def goS (T : TX) (Lp Lw : (Nat → Int32) → Int32) (seed : Int32) (n : Nat) (σ : ST) : ST := forS (fun _ => dayS T Lp Lw seed) n σ
theorem meet_today (T : TX) (Lp Lw : (Nat → Int32) → Int32) (seed : Int32) (d : Nat) (σ : ST) : (meetS T Lp Lw seed d σ).today = σ.today := by
  unfold meetS
  by_cases q : σ.plan d = -2 ∨ σ.owned.testBit (σ.plan d).toNatClampNeg = false
  · rw [if_pos q]; rfl
  · rw [if_neg q]
    by_cases u : nI (passN T Lp seed σ (σ.plan d).toNatClampNeg (T.dman d) (nI (T.dhrs d)) (hdv T σ (σ.plan d).toNatClampNeg (T.dman d))) ≤ lotv seed (16 * nI σ.today + (1 + nI d))
    · rw [if_pos u]; rfl
    · rw [if_neg u]; rfl
theorem step_today (T : TX) (Lp Lw : (Nat → Int32) → Int32) (seed : Int32) (d : Nat) (σ : ST) : (stepS T Lp Lw seed d σ).today = σ.today := by
  unfold stepS
  by_cases q : T.dday d = σ.today
  · rw [if_pos q]; exact meet_today _ _ _ _ _ _
  · rw [if_neg q]
theorem for_today (T : TX) (Lp Lw : (Nat → Int32) → Int32) (seed : Int32) (σ : ST) : ∀ n, (forS (stepS T Lp Lw seed) n σ).today = σ.today
  | 0 => rfl
  | n + 1 => (step_today T Lp Lw seed n _).trans (for_today T Lp Lw seed σ n)
theorem wf_step {b : Nat} {T : TX} {σ : ST} {d : Nat} {Lp Lw : (Nat → Int32) → Int32} {seed : Int32} (sw : ST.wf b T d σ) (w : T.wf) (hd : d < T.dut) : ST.wf b T (d + 1) (stepS T Lp Lw seed d σ) := by
  unfold stepS
  by_cases q : T.dday d = σ.today
  · rw [if_pos q]; exact wf_meet sw w hd q
  · rw [if_neg q]; exact wf_skip sw q
theorem wf_for {b : Nat} {T : TX} {σ : ST} {Lp Lw : (Nat → Int32) → Int32} {seed : Int32} (sw : ST.wf b T 0 σ) (w : T.wf) : ∀ n, n ≤ T.dut → ST.wf b T n (forS (stepS T Lp Lw seed) n σ)
  | 0, _ => sw
  | n + 1, h => wf_step (wf_for sw w n (by omega)) w (by omega)
theorem wf_mend {b : Nat} {T : TX} {σ : ST} (sw : ST.wf b T T.dut σ) : ST.wf (b + 1) T 0 (mendS T 1 σ) := by
  apply ST.wf.mk
  · show σ.today + 1 ≤ b + 1; have := sw.today; omega
  · show σ.coins ≤ b + 1 + 9999; have := sw.coins; omega
  · exact sw.owned
  · exact sw.out
  · intro x hx
    show σ.out x ≠ 0 ↔ T.dday x < σ.today + 1 ∨ (T.dday x = σ.today + 1 ∧ x < 0)
    rw [sw.out0 x hx]; omega
  · exact sw.out1
  · exact sw.plan
  · exact sw.planT
  · intro a ha
    show (if a < T.men then min 99 (σ.trust a + 1 * T.mend a) else σ.trust a) ≤ 99
    by_cases q : a < T.men
    · rw [if_pos q]; exact Nat.min_le_left _ _
    · rw [if_neg q]; exact sw.trust a ha
theorem wf_day {b : Nat} {T : TX} {σ : ST} {Lp Lw : (Nat → Int32) → Int32} {seed : Int32} (sw : ST.wf b T 0 σ) (w : T.wf) : ST.wf (b + 1) T 0 (dayS T Lp Lw seed σ) := wf_mend (wf_for sw w T.dut (Nat.le_refl _))
theorem wf_go {b : Nat} {T : TX} {σ : ST} {Lp Lw : (Nat → Int32) → Int32} {seed : Int32} (sw : ST.wf b T 0 σ) (w : T.wf) : ∀ n, ST.wf (b + n) T 0 (goS T Lp Lw seed n σ)
  | 0 => sw
  | n + 1 => wf_day (wf_go sw w n) w
theorem isOver_ok {σ : ST} {p d : Nat} {h : PH} (x : StC p σ h) (hd : d < 9) (ho : σ.out d ≤ 3) : c_X8_isOver p (nI d) h = some (if σ.out d = 0 then 0 else 1) := by
  unfold c_X8_isOver c_X8_over
  have lt : (outMask σ 1 ||| outMask σ 2) ||| outMask σ 3 < 512 := Nat.or_lt_two_pow (n := 9) (told_lt σ) (out_lt σ 3)
  rw [x.freed, x.caught, x.done, b_or, b_or, Option.bind_some, b_get lt hd, if_0i, Nat.testBit_or, Nat.testBit_or, out_get hd, out_get hd, out_get hd]
  have : σ.out d = 0 ∨ σ.out d = 1 ∨ σ.out d = 2 ∨ σ.out d = 3 := by omega
  rcases this with q | q | q | q <;> rw [q] <;> decide
