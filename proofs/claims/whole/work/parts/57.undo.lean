def FuC (p k : Nat) : Prop := (p = 84 ∧ (k = 1 ∨ k = 2)) ∨ (86 ≤ p ∧ p ≤ 205)
def FuR (p k : Nat) : Prop := (p = 0 ∧ k = 63) ∨ p = 45
def iUndo (n : Nat) (T : TX) (hc hr : PH) : Prop := ∃ u w : Nat, u ≤ 40 ∧ w < 40 ∧ hc.1 84 2 = nI u ∧ hr.1 0 63 = nI u ∧ hc.1 84 1 = nI w ∧ ∀ j, j < u → ∃ σ, ST.wf (60 * n) T 0 σ ∧ StC (84 + 1 + 1 + 3 * ((w + 39 - j) % 40)) σ hc ∧ StR 45 (40 * (u - 1 - j)) σ hr
theorem iUndo_fr {n n' : Nat} {T : TX} {hc hr hc' hr' : PH} (hn : n ≤ n') (h1 : KP FuC hc hc') (h2 : KP FuR hr hr') (h : iUndo n T hc hr) : iUndo n' T hc' hr' := by
  obtain ⟨u, w, hu, hw, a, b, c, e⟩ := h
  refine ⟨u, w, hu, hw, ?_, ?_, ?_, fun j hj => ?_⟩
  · rw [h1.i (Or.inl ⟨rfl, Or.inr rfl⟩), a]
  · rw [h2.i (Or.inl ⟨rfl, rfl⟩), b]
  · rw [h1.i (Or.inl ⟨rfl, Or.inl rfl⟩), c]
  · obtain ⟨σ, s1, s2, s3⟩ := e j hj
    exact ⟨σ, wf_up (by omega) s1, s2.fr (h1.mono (fun q k z => Or.inr (by omega))), s3.fr (h2.mono (fun q k z => Or.inr z.1))⟩
theorem iUndo_none {n : Nat} {T : TX} {hc hr : PH} {w : Nat} (hw : w < 40) (a : hc.1 84 2 = 0) (b : hr.1 0 63 = 0) (c : hc.1 84 1 = nI w) : iUndo n T hc hr := ⟨0, w, by omega, hw, a, b, c, fun j hj => absurd hj (by omega)⟩
def FKc (w p k : Nat) : Prop := ¬ (p = 84 ∧ (k = 1 ∨ k = 2)) ∧ ¬ (84 + 1 + 1 + 3 * w ≤ p ∧ p ≤ 84 + 1 + 1 + 3 * w + 2)
theorem jmin40 {u : Nat} (hu : u ≤ 40) : jmin (nI (u + 1)) 40 = nI (min (u + 1) 40) := by
  unfold jmin
  rw [ite_cg (show (40 : Int32) < nI (u + 1) ↔ 40 < u + 1 from nI_ltI (a := 40) (by omega) (by omega))]
  by_cases q : 40 < u + 1
  · rw [if_pos q, Nat.min_eq_right (by omega)]; rfl
  · rw [if_neg q, Nat.min_eq_left (by omega)]
theorem keepC_ok {σ : ST} {u w : Nat} {h : PH} (hu : u ≤ 40) (hw : w < 40) (a : h.1 84 2 = nI u) (c : h.1 84 1 = nI w) (x : StC 78 σ h) : ExH (c_X5_keep 84 78 h) (fun h' => h'.1 84 1 = nI ((w + 1) % 40) ∧ h'.1 84 2 = nI (min (u + 1) 40) ∧ StC (84 + 1 + 1 + 3 * w) σ h' ∧ KP (FKc w) h h') := by
  unfold c_X5_keep
  rw [c, gdI (by omega) (by omega), nI_clamp (by omega)]
  refine ex_bind (copyC_ok (p := 84 + 1 + 1 + 3 * w) (q := 78) x (by omega)) (fun h2 ⟨x2, k2⟩ => ?_)
  have c2 : h2.1 84 1 = nI w := (k2.i (by unfold FCp; omega)).trans c
  have a2 : h2.1 84 2 = nI u := (k2.i (by unfold FCp; omega)).trans a
  have k2' : KP (FKc w) h h2 := k2.mono (fun q k z => z.2)
  rw [c2, nI_1, ite_cg (show (40 : Int32) ≤ nI (w + 1) ↔ 40 ≤ w + 1 from nI_leI (a := 40) (by omega) (by omega))]
  by_cases q : 40 ≤ w + 1
  · rw [if_pos q]
    refine ex_set (fun h3 e3 => ?_)
    have a3 : h3.1 84 2 = nI u := by rw [e3, setI_ne (by omega)]; exact a2
    rw [a3, nI_1, jmin40 hu]
    refine ex_set (fun h4 e4 => ex_some ⟨?_, by rw [e4, setI_eq], ?_, ?_⟩)
    · rw [e4, setI_ne (by omega), e3, setI_eq, show (w + 1) % 40 = 0 by omega]; rfl
    · refine x2.fr ?_
      rw [e4, e3]; exact (KP.setI (fun z => by omega)).trans (KP.setI (fun z => by omega))
    · rw [e4, e3]; exact (k2'.trans (KP.setI (fun z => z.1 ⟨rfl, Or.inl rfl⟩))).trans (KP.setI (fun z => z.1 ⟨rfl, Or.inr rfl⟩))
  · rw [if_neg q]
    refine ex_set (fun h3 e3 => ?_)
    have a3 : h3.1 84 2 = nI u := by rw [e3, setI_ne (by omega)]; exact a2
    rw [a3, nI_1, jmin40 hu]
    refine ex_set (fun h4 e4 => ex_some ⟨?_, by rw [e4, setI_eq], ?_, ?_⟩)
    · rw [e4, setI_ne (by omega), e3, setI_eq, show (w + 1) % 40 = w + 1 by omega]
    · refine x2.fr ?_
      rw [e4, e3]; exact (KP.setI (fun z => by omega)).trans (KP.setI (fun z => by omega))
    · rw [e4, e3]; exact (k2'.trans (KP.setI (fun z => z.1 ⟨rfl, Or.inl rfl⟩))).trans (KP.setI (fun z => z.1 ⟨rfl, Or.inr rfl⟩))
/-- forty ints from one row to another -/
theorem keepsRow_ok (h : PH) : ExH (c_X12_keepsRow h) (fun h' => (∀ k, k < 40 → h'.1 43 k = h.1 44 k) ∧ KP (fun p _ => p ≠ 43) h h') := by
  unfold c_X12_keepsRow
  refine ex_nm ?_
  obtain ⟨y, e, hy⟩ := for_h (B := c_X12_keepsRow_L2b (fun h4 => some h4)) (K := fun h4 => some h4) (N := 40) (fun i y => (∀ k, k < i → y.1 43 k = h.1 44 k) ∧ KP (fun p _ => p ≠ 43) h y) (by omega) (fun REC i y hi hp => by
    refine ⟨setI y 43 i (y.1 44 i), ?_, fun k hk => ?_, hp.2.trans (KP.setI (fun q => q rfl))⟩
    · unfold c_X12_keepsRow_L2b
      rw [if_neg (show ¬ (40 : Int32) ≤ nI i from nI_ge (b := 40) hi (by omega))]
      simp (disch := omega) only [nm, gdI, nI_clamp, nI_1]
    · by_cases q : k = i
      · subst q; rw [setI_eq]; exact hp.2.i (by omega)
      · rw [setI_ne (by omega)]; exact hp.1 k (by omega)) (fun REC y _ => by
    unfold c_X12_keepsRow_L2b
    rw [if_pos (show (40 : Int32) ≤ nI 40 from nI_le (a := 40) (b := 40) (by omega) (by omega))]) h ⟨fun k hk => absurd hk (by omega), KP.rfl⟩
  rw [e]
  exact ex_some hy
theorem nI_mul40 (s : Nat) : (40 : Int32) * nI s = nI (40 * s) := (Int32.ofNat_mul 40 s).symm
def FKr (p k : Nat) : Prop := p ≠ 43 ∧ p ≠ 45 ∧ ¬ (p = 0 ∧ k = 63)
theorem pushR {u : Nat} {h : PH} (hu : u < 40) (a : h.1 0 63 = nI u) (K : PH → Option PH) : ∃ y, lq2 (c_X12_keeps_L51b K) fu 0 h = K y ∧ (∀ k, k < 40 → y.1 45 (40 * u + k) = h.1 43 k) ∧ (∀ k, k < 40 * u → y.1 45 k = h.1 45 k) ∧ KP (fun p _ => p ≠ 45) h y := by
  obtain ⟨y, e, h1, h2, h3⟩ := for_h (B := c_X12_keeps_L51b K) (K := K) (N := 40) (fun i y => (∀ k, k < i → y.1 45 (40 * u + k) = h.1 43 k) ∧ (∀ k, k < 40 * u → y.1 45 k = h.1 45 k) ∧ KP (fun p _ => p ≠ 45) h y) (by omega) (fun REC i y hi hp => by
    obtain ⟨p1, p2, p3⟩ := hp
    have ay : y.1 0 63 = nI u := (p3.i (by omega)).trans a
    have ry : y.1 43 i = h.1 43 i := p3.i (by omega)
    refine ⟨setI y 45 (40 * u + i) (h.1 43 i), ?_, fun k hk => ?_, fun k hk => ?_, p3.trans (KP.setI (fun q => q rfl))⟩
    · unfold c_X12_keeps_L51b
      rw [if_neg (show ¬ (40 : Int32) ≤ nI i from nI_ge (b := 40) hi (by omega)), ay]
      simp (disch := omega) only [nm, nI_mul40, nI_add, gdI, nI_clamp, nI_1, ry]
    · by_cases q : k = i
      · subst q; rw [setI_eq]
      · rw [setI_ne (by omega)]; exact p1 k (by omega)
    · rw [setI_ne (by omega)]; exact p2 k hk) (fun REC y _ => by
    unfold c_X12_keeps_L51b
    rw [if_pos (show (40 : Int32) ≤ nI 40 from nI_le (a := 40) (b := 40) (by omega) (by omega))]) h ⟨fun k hk => absurd hk (by omega), fun k _ => rfl, KP.rfl⟩
  exact ⟨y, e, h1, h2, h3⟩
theorem shiftR {h : PH} (K : PH → Option PH) : ∃ y, lq2 (c_X12_keeps_L11b K) fu 0 h = K y ∧ (∀ k, k < 1560 → y.1 45 k = h.1 45 (k + 40)) ∧ KP (fun p _ => p ≠ 45) h y := by
  obtain ⟨y, e, h1, h2, h3⟩ := for_h (B := c_X12_keeps_L11b K) (K := K) (N := 1560) (fun i y => (∀ k, k < i → y.1 45 k = h.1 45 (k + 40)) ∧ (∀ k, i ≤ k → y.1 45 k = h.1 45 k) ∧ KP (fun p _ => p ≠ 45) h y) (by omega) (fun REC i y hi hp => by
    obtain ⟨p1, p2, p3⟩ := hp
    refine ⟨setI y 45 i (h.1 45 (i + 40)), ?_, fun k hk => ?_, fun k hk => ?_, p3.trans (KP.setI (fun q => q rfl))⟩
    · unfold c_X12_keeps_L11b
      rw [if_neg (show ¬ (1560 : Int32) ≤ nI i from nI_ge (b := 1560) hi (by omega)), show (40 : Int32) = nI 40 from rfl]
      simp (disch := omega) only [nm, nI_add, gdI, nI_clamp, nI_1]
      rw [p2 (i + 40) (by omega)]
    · by_cases q : k = i
      · subst q; rw [setI_eq]
      · rw [setI_ne (by omega)]; exact p1 k (by omega)
    · rw [setI_ne (by omega)]; exact p2 k (by omega)) (fun REC y _ => by
    unfold c_X12_keeps_L11b
    rw [if_pos (show (1560 : Int32) ≤ nI 1560 from nI_le (a := 1560) (b := 1560) (by omega) (by omega))]) h ⟨fun k hk => absurd hk (by omega), fun k _ => rfl, KP.rfl⟩
  exact ⟨y, e, h1, h3⟩
theorem keepsR_ok {u : Nat} {h : PH} (hu : u ≤ 40) (a : h.1 0 63 = nI u) : ExH (c_X12_keeps h) (fun h' => h'.1 0 63 = nI (min (u + 1) 40) ∧ (∀ k, k < 40 → h'.1 43 k = h.1 44 k) ∧ (∀ k, k < 40 → h'.1 45 (40 * (min (u + 1) 40 - 1) + k) = h.1 43 k) ∧ (∀ m k, m + 1 < min (u + 1) 40 → k < 40 → h'.1 45 (40 * m + k) = h.1 45 (40 * (if u = 40 then m + 1 else m) + k)) ∧ KP FKr h h') := by
  unfold c_X12_keeps
  rw [a, ite_cg (show nI u = 40 ↔ u = 40 from nI_eq (b := 40) (by omega) (by omega))]
  by_cases q : u = 40
  · rw [if_pos q]
    refine ex_nm ?_
    obtain ⟨y, e, h1, k1⟩ := shiftR (h := h) (fun h10 => nm (setI h10 0 63 ((h10.1 0 63) - 1)) fun h11 => nm (0 : Int32) fun v12 => lq2 (c_X12_keeps_L51b (fun h13 => nm (setI h13 0 63 ((h13.1 0 63) + 1)) fun h14 => (c_X12_keepsRow h14).bind fun h15 => some h15)) fu v12 h11)
    rw [e]
    refine ex_set (fun h11 e11 => ?_)
    refine ex_nm ?_
    have ay : y.1 0 63 = nI 40 := (k1.i (by omega)).trans (by rw [a, q])
    have a11 : h11.1 0 63 = nI 39 := by rw [e11, setI_eq, ay]; exact nI_pred 39
    obtain ⟨z, e', z1, z2, k2⟩ := pushR (u := 39) (by omega) a11 (fun h13 => nm (setI h13 0 63 ((h13.1 0 63) + 1)) fun h14 => (c_X12_keepsRow h14).bind fun h15 => some h15)
    rw [e']
    have az : z.1 0 63 = nI 39 := (k2.i (by omega)).trans a11
    rw [az, nI_1]
    refine ex_set (fun h14 e14 => ?_)
    refine ex_bind (keepsRow_ok h14) (fun h15 ⟨r15, k15⟩ => ex_some ⟨?_, fun k hk => ?_, fun k hk => ?_, fun m k hm hk => ?_, ?_⟩)
    · rw [k15.i (show (0 : Nat) ≠ 43 by omega), e14, setI_eq, q]; rfl
    · rw [r15 k hk, e14, setI_ne (by omega), k2.i (show (44 : Nat) ≠ 45 by omega), e11, setI_ne (by omega)]; exact k1.i (by omega)
    · rw [k15.i (show (45 : Nat) ≠ 43 by omega), e14, setI_ne (by omega), show min (u + 1) 40 - 1 = 39 by omega, z1 k hk, e11, setI_ne (by omega)]; exact k1.i (by omega)
    · rw [k15.i (show (45 : Nat) ≠ 43 by omega), e14, setI_ne (by omega), z2 _ (by omega), e11, setI_ne (by omega), h1 _ (by omega), if_pos q, show 40 * m + k + 40 = 40 * (m + 1) + k by omega]
    · have s1 : KP FKr y h11 := by rw [e11]; exact KP.setI (fun z => z.2.2 ⟨rfl, rfl⟩)
      have s2 : KP FKr z h14 := by rw [e14]; exact KP.setI (fun z => z.2.2 ⟨rfl, rfl⟩)
      exact ((((k1.mono (fun p k z => z.2.1)).trans s1).trans (k2.mono (fun p k z => z.2.1))).trans s2).trans (k15.mono (fun p k z => z.1))
  · rw [if_neg q]
    refine ex_nm ?_
    obtain ⟨z, e', z1, z2, k2⟩ := pushR (u := u) (by omega) a (fun h4 => nm (setI h4 0 63 ((h4.1 0 63) + 1)) fun h5 => (c_X12_keepsRow h5).bind fun h6 => some h6)
    rw [e']
    have az : z.1 0 63 = nI u := (k2.i (by omega)).trans a
    rw [az, nI_1]
    refine ex_set (fun h14 e14 => ?_)
    refine ex_bind (keepsRow_ok h14) (fun h15 ⟨r15, k15⟩ => ex_some ⟨?_, fun k hk => ?_, fun k hk => ?_, fun m k hm hk => ?_, ?_⟩)
    · rw [k15.i (show (0 : Nat) ≠ 43 by omega), e14, setI_eq, Nat.min_eq_left (by omega)]
    · rw [r15 k hk, e14, setI_ne (by omega)]; exact k2.i (by omega)
    · rw [k15.i (show (45 : Nat) ≠ 43 by omega), e14, setI_ne (by omega), show min (u + 1) 40 - 1 = u by omega, z1 k hk]
    · rw [k15.i (show (45 : Nat) ≠ 43 by omega), e14, setI_ne (by omega), z2 _ (by omega), if_neg q]
    · have s2 : KP FKr z h14 := by rw [e14]; exact KP.setI (fun z => z.2.2 ⟨rfl, rfl⟩)
      exact ((k2.mono (fun p k z => z.2.1)).trans s2).trans (k15.mono (fun p k z => z.1))
theorem iUndo_push {n : Nat} {T : TX} {σ : ST} {hc hr hc' hr' : PH} {u w : Nat} (sw : ST.wf (60 * n) T 0 σ) (sr : StR 43 0 σ hr) (hu : u ≤ 40) (hw : w < 40) (e : ∀ j, j < u → ∃ σ, ST.wf (60 * n) T 0 σ ∧ StC (84 + 1 + 1 + 3 * ((w + 39 - j) % 40)) σ hc ∧ StR 45 (40 * (u - 1 - j)) σ hr) (c1 : hc'.1 84 1 = nI ((w + 1) % 40)) (c2 : hc'.1 84 2 = nI (min (u + 1) 40)) (c3 : StC (84 + 1 + 1 + 3 * w) σ hc') (c4 : KP (FKc w) hc hc') (r1 : hr'.1 0 63 = nI (min (u + 1) 40)) (r3 : ∀ k, k < 40 → hr'.1 45 (40 * (min (u + 1) 40 - 1) + k) = hr.1 43 k) (r4 : ∀ m k, m + 1 < min (u + 1) 40 → k < 40 → hr'.1 45 (40 * m + k) = hr.1 45 (40 * (if u = 40 then m + 1 else m) + k)) : iUndo n T hc' hr' := by
  refine ⟨min (u + 1) 40, (w + 1) % 40, by omega, by omega, c2, r1, c1, fun j hj => ?_⟩
  by_cases q : j = 0
  · subst q
    refine ⟨σ, sw, ?_, ?_⟩
    · rw [show ((w + 1) % 40 + 39 - 0) % 40 = w by omega]; exact c3
    · exact sr.mv (fun k hk => by rw [Nat.zero_add]; exact r3 k hk)
  · obtain ⟨τ, t1, t2, t3⟩ := e (j - 1) (by omega)
    refine ⟨τ, t1, ?_, ?_⟩
    · rw [show ((w + 1) % 40 + 39 - j) % 40 = (w + 39 - (j - 1)) % 40 by omega]
      exact t2.fr (c4.mono (fun p k z => by unfold FKc; omega))
    · refine t3.mv (fun k hk => ?_)
      rw [r4 (min (u + 1) 40 - 1 - j) k (by omega) hk]
      by_cases z : u = 40
      · rw [if_pos z, show min (u + 1) 40 - 1 - j + 1 = u - 1 - (j - 1) by omega]
      · rw [if_neg z, show min (u + 1) 40 - 1 - j = u - 1 - (j - 1) by omega]
