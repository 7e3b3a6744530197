/-- the words, as letters -/
def WL : List (List Nat) := [[13, 1, 14], [5, 24, 3, 21, 19, 5], [4, 21, 20, 25], [11, 14, 15, 23, 19], [20, 5, 19, 20], [16, 1, 19, 19, 5, 19], [23, 5, 1, 18, 19], [18, 1, 9, 14], [3, 15, 9, 14, 19], [19, 5, 5, 4], [15, 14, 3, 5], [9, 6], [20, 8, 5, 14], [5, 12, 19, 5], [4, 1, 25], [19, 20, 18, 15, 14, 7], [23, 5, 1, 18], [20, 18, 21, 19, 20], [11, 9, 14, 4], [1, 7, 15], [23, 5, 20], [8, 15, 21, 18, 19], [8, 5, 1, 18, 4]]
def Wd2 (k : Nat) : List Nat := WL.getD k []
def vB (b : Nat) (l : List Nat) : Nat := l.foldl (fun s d => s * b + d) 0
theorem wC_ok : ∀ k, k < 23 → hX11.2.1 7 k = lN (vB 32 (Wd2 k)) := by decide +kernel
theorem wR_ok : ∀ k, k < 23 → hX12.2.1 7 k = lN (vB 27 (Wd2 k)) := by decide +kernel
theorem w_lt : ∀ k, k < 23 → vB 32 (Wd2 k) < 2 ^ 40 ∧ vB 27 (Wd2 k) < 2 ^ 40 := by decide +kernel
theorem lN_inj {a b : Nat} (ha : a < 2 ^ 63) (hb : b < 2 ^ 63) : lN a = lN b ↔ a = b := by
  constructor
  · intro h
    have h1 := congrArg (fun x : Int64 => x.toBitVec.toNat) h
    have h1 : a % 2 ^ 64 = b % 2 ^ 64 := h1
    omega
  · intro h; rw [h]
theorem setJ_eq (h : PH) (p k : Nat) (v : Int64) : (setJ h p k v).2.1 p k = v := by
  show (if p = p then (if k = k then v else h.2.1 p k) else h.2.1 p k) = v
  rw [if_pos (Eq.refl p), if_pos (Eq.refl k)]
theorem setJ_ne {h : PH} {p k q j : Nat} {v : Int64} (hn : ¬ (q = p ∧ j = k)) : (setJ h p k v).2.1 q j = h.2.1 q j := by
  show (if q = p then (if j = k then v else h.2.1 q j) else h.2.1 q j) = h.2.1 q j
  by_cases e : q = p
  · rw [if_pos e, if_neg (fun e' => hn ⟨e, e'⟩)]
  · rw [if_neg e]
/-- the kind of a name by its letters' number: a word's, or a name's -/
def kindW (v : Nat) : Nat := Option.elim (fstX (fun w => decide (vB 32 (Wd2 w) = v)) 23 0) 2 (fun w => 64 + w)
theorem kindOfC {v : Nat} {h : PH} (hw : ∀ k, k < 23 → h.2.1 7 k = hX11.2.1 7 k) (hv : v < 2 ^ 63) : c_X10_kindOf 3 (lN v) h = some (nI (kindW v)) := by
  unfold c_X10_kindOf
  have e := for_1 (B := c_X10_kindOf_L2b 3 (lN v) h (fun w3 => some (64 + w3)) (some 2)) (K := some (2 : Int32)) (E := fun j => some (64 + nI j)) (N := 23) (fun w => decide (vB 32 (Wd2 w) = v)) (by omega) (fun REC i hi => by
    have wl := (w_lt i hi).1
    have hv : h.2.1 (3 + 4) i = lN (vB 32 (Wd2 i)) := (hw i hi).trans (wC_ok i hi)
    unfold c_X10_kindOf_L2b
    rw [if_neg (show ¬ (23 : Int32) ≤ nI i from nI_ge (b := 23) hi (by omega)), gdI hi (by omega), nI_clamp (by omega), hv, ite_cg ((lg_cmp_eq _ _).trans (lN_inj (by omega) (by omega)))]
    by_cases q : vB 32 (Wd2 i) = v
    · rw [if_pos q, if_pos (decide_eq_true q)]
    · rw [if_neg q, if_neg (fun z => q (of_decide_eq_true z)), nm_eq, nI_1]) (fun REC => by
    unfold c_X10_kindOf_L2b
    rw [if_pos (show (23 : Int32) ≤ nI 23 from nI_le (a := 23) (b := 23) (by omega) (by omega))]) 0 (by omega)
  rw [nm_eq, ← nI_0, e]
  unfold kindW
  cases fstX (fun w => decide (vB 32 (Wd2 w) = v)) (23 - 0) 0 with
  | none => rfl
  | some w => show some (64 + nI w) = some (nI (64 + w)); rw [show (64 : Int32) = nI 64 from rfl, nI_add]
def tkind (K : Nat) (bs : Nat → Nat) (a : Nat) : Nat := if K ≤ a then 0 else if letB (bs a) = true then (if tend K bs a - a ≤ 8 then kindW (valF bs 32 96 (tend K bs a - a) a 0) else 1) else if digB (bs a) = true then (if tend K bs a - a ≤ 4 then 3 else 1) else if sgnB (bs a) = true then bs a else 1
def tval (K : Nat) (bs : Nat → Nat) (a : Nat) : Nat := if K ≤ a then 0 else if letB (bs a) = true then (if tend K bs a - a ≤ 8 then valF bs 32 96 (tend K bs a - a) a 0 else 0) else if digB (bs a) = true then (if tend K bs a - a ≤ 4 then valF bs 10 48 (tend K bs a - a) a 0 else 0) else 0
theorem valF_lt (bs : Nat → Nat) (base zero : Nat) (hb : 0 < base) : ∀ n i s, (∀ j, i ≤ j → j < i + n → bs j - zero < base) → valF bs base zero n i s < (s + 1) * base ^ n
  | 0, i, s, _ => by show s < (s + 1) * base ^ 0; rw [Nat.pow_zero]; omega
  | n + 1, i, s, h => by
    have h0 := h i (by omega) (by omega)
    have ih := valF_lt bs base zero hb n (i + 1) (s * base + (bs i - zero)) (fun j a b => h j (by omega) (by omega))
    show valF bs base zero n (i + 1) (s * base + (bs i - zero)) < _
    refine Nat.lt_of_lt_of_le ih ?_
    rw [Nat.pow_succ, Nat.mul_comm (base ^ n) base, ← Nat.mul_assoc]
    refine Nat.mul_le_mul_right _ ?_
    rw [Nat.succ_mul]; omega
theorem tend_let {K a : Nat} {bs : Nat → Nat} (ha : a < K) (q : letB (bs a) = true) : a < tend K bs a ∧ tend K bs a ≤ K ∧ ∀ i, a ≤ i → i < tend K bs a → letB (bs i) = true := by
  have e : tend K bs a = runF letB bs (K - a) a := by unfold tend; rw [if_neg (by omega), if_pos q]
  rw [e]
  refine ⟨?_, by have := runF_le letB bs (K - a) a; omega, fun i h1 h2 => runF_all letB bs (K - a) a i h1 h2⟩
  obtain ⟨m, hm⟩ : ∃ m, K - a = m + 1 := ⟨K - a - 1, by omega⟩
  rw [hm]
  show a < if letB (bs a) = true then runF letB bs m (a + 1) else a
  rw [if_pos q]; have := runF_ge letB bs m (a + 1); omega
theorem tend_dig {K a : Nat} {bs : Nat → Nat} (ha : a < K) (q0 : ¬ letB (bs a) = true) (q : digB (bs a) = true) : a < tend K bs a ∧ tend K bs a ≤ K ∧ ∀ i, a ≤ i → i < tend K bs a → digB (bs i) = true := by
  have e : tend K bs a = runF digB bs (K - a) a := by unfold tend; rw [if_neg (by omega), if_neg q0, if_pos q]
  rw [e]
  refine ⟨?_, by have := runF_le digB bs (K - a) a; omega, fun i h1 h2 => runF_all digB bs (K - a) a i h1 h2⟩
  obtain ⟨m, hm⟩ : ∃ m, K - a = m + 1 := ⟨K - a - 1, by omega⟩
  rw [hm]
  show a < if digB (bs a) = true then runF digB bs m (a + 1) else a
  rw [if_pos q]; have := runF_ge digB bs m (a + 1); omega
theorem tend_sgn {K a : Nat} {bs : Nat → Nat} (ha : a < K) (q0 : ¬ letB (bs a) = true) (q : ¬ digB (bs a) = true) : tend K bs a = a + 1 := by unfold tend; rw [if_neg (by omega), if_neg q0, if_neg q]
def FTk (j p k : Nat) : Prop := ¬ ((p = 4 ∨ p = 5 ∨ p = 6) ∧ k = j)
theorem putC {K a j : Nat} {bs : Nat → Nat} {h : PH} (tp : TpC K bs h) (hw : ∀ k, k < 23 → h.2.1 7 k = hX11.2.1 7 k) (ha : a ≤ K) (hj : j ≤ 400) : ExH (c_X10_put 3 1 (nI j) (nI a) (nI (tend K bs a)) h) (fun h' => h'.1 4 j = nI (tkind K bs a) ∧ h'.1 5 j = nI a ∧ h'.2.1 6 j = lN (tval K bs a) ∧ KP (FTk j) h h') := by
  have hK := tp.1
  unfold c_X10_put
  rw [gdI (k := j) (by omega) (by omega), nI_clamp (n := j) (by omega), nm_eq, gdI (k := j) (by omega) (by omega), nm_eq, gdI (k := j) (by omega) (by omega), nm_eq]
  have g1 : (setI (setJ (setI h (3 + 2) j (nI a)) (3 + 3) j 0) (3 + 1) j 0).1 5 j = nI a := by rw [setI_ne (by omega)]; exact setI_eq h 5 j (nI a)
  have g2 : (setI (setJ (setI h (3 + 2) j (nI a)) (3 + 3) j 0) (3 + 1) j 0).2.1 6 j = 0 := setJ_eq _ 6 j 0
  have g3 : (setI (setJ (setI h (3 + 2) j (nI a)) (3 + 3) j 0) (3 + 1) j 0).1 4 j = 0 := setI_eq _ 4 j 0
  have gk : KP (FTk j) h (setI (setJ (setI h (3 + 2) j (nI a)) (3 + 3) j 0) (3 + 1) j 0) := ((KP.setI (fun z => z ⟨Or.inr (Or.inl rfl), rfl⟩)).trans (KP.setJ (fun z => z ⟨Or.inr (Or.inr rfl), rfl⟩))).trans (KP.setI (fun z => z ⟨Or.inl rfl, rfl⟩))
  generalize setI (setJ (setI h (3 + 2) j (nI a)) (3 + 3) j 0) (3 + 1) j 0 = h3 at g1 g2 g3 gk
  have tp3 : TpC K bs h3 := ⟨hK, fun i hi => ⟨(tp.2 i hi).1, by rw [gk.i (by unfold FTk; omega)]; exact (tp.2 i hi).2⟩⟩
  have hw3 : ∀ k, k < 23 → h3.2.1 7 k = hX11.2.1 7 k := fun k hk => by rw [gk.j (by unfold FTk; omega)]; exact hw k hk
  unfold tkind tval
  by_cases q : K ≤ a
  · have te : tend K bs a = a := by unfold tend; rw [if_pos q]
    rw [te, if_neg (nI_nlt (Nat.le_refl a) (by omega)), if_pos q, if_pos q]
    exact ex_some ⟨g3, g1, g2, gk⟩
  rw [if_neg q, if_neg q]
  obtain ⟨b6, eb⟩ := tp3.2 a (by omega)
  have fin : ∀ (c : Int32), ExH (nm (setI h3 (3 + 1) j c) fun h8 => some h8) (fun h' => h'.1 4 j = c ∧ h'.1 5 j = nI a ∧ h'.2.1 6 j = 0 ∧ KP (FTk j) h h') := fun c => by
    refine ex_set (fun h8 e8 => ex_some ⟨by rw [e8]; exact setI_eq h3 4 j c, by rw [e8, setI_ne (by omega)]; exact g1, by rw [e8]; exact g2, by rw [e8]; exact gk.trans (KP.setI (fun z => z ⟨Or.inl rfl, rfl⟩))⟩)
  by_cases q1 : letB (bs a) = true
  · obtain ⟨t1, t2, t3⟩ := tend_let (show a < K by omega) q1
    rw [if_pos (nI_lt t1 (by omega)), gdI (k := a) (by omega) (by omega), nI_clamp (n := a) (by omega), nm_eq, eb, bv_let _ b6, Option.bind_some, if_0i, if_neg (show ¬ ¬ letB (bs a) = true from fun z => z q1), gdI (k := j) (by omega) (by omega), nm_eq, if_pos q1, if_pos q1, pk_sub (by omega), ite_cg (show (8 : Int32) < nI (tend K bs a - a) ↔ 8 < tend K bs a - a from nI_ltI (a := 8) (by omega) (by omega))]
    have k14 : KP (FTk j) h3 (setI h3 (3 + 1) j 1) := KP.setI (fun z => z ⟨Or.inl rfl, rfl⟩)
    by_cases q2 : tend K bs a - a ≤ 8
    · rw [if_neg (by omega), if_pos q2, if_pos q2]
      have tp14 : TpC K bs (setI h3 (3 + 1) j 1) := ⟨hK, fun i hi => ⟨(tp3.2 i hi).1, by rw [k14.i (by unfold FTk; omega)]; exact (tp3.2 i hi).2⟩⟩
      have jo := joinedC (base := 32) (zero := 96) (a := a) (b := tend K bs a) tp14 (by omega) t2 (by omega) (by omega) (fun i h1 h2 => by have := let_lo (t3 i h1 h2); omega)
      have vl : valF bs 32 96 (tend K bs a - a) a 0 < 2 ^ 40 := by
        have := valF_lt bs 32 96 (by omega) (tend K bs a - a) a 0 (fun i h1 h2 => by have := let_lo (t3 i h1 (by omega)); omega)
        have p : 32 ^ (tend K bs a - a) ≤ 32 ^ 8 := Nat.pow_le_pow_right (by decide) q2
        have p8 : (32 : Nat) ^ 8 = 2 ^ 40 := by decide
        omega
      rw [show (32 : Int32) = nI 32 from rfl, show (96 : Int32) = nI 96 from rfl, jo, Option.bind_some, gdI (k := j) (by omega) (by omega), nm_eq, gdI (k := j) (by omega) (by omega)]
      have v16 : (setJ (setI h3 (3 + 1) j 1) (3 + 3) j (lN (valF bs 32 96 (tend K bs a - a) a 0))).2.1 (3 + 3) j = lN (valF bs 32 96 (tend K bs a - a) a 0) := setJ_eq _ _ _ _
      have hw16 : ∀ k, k < 23 → (setJ (setI h3 (3 + 1) j 1) (3 + 3) j (lN (valF bs 32 96 (tend K bs a - a) a 0))).2.1 7 k = hX11.2.1 7 k := fun k hk => by rw [setJ_ne (by omega)]; exact hw3 k hk
      rw [v16, kindOfC hw16 (by omega), Option.bind_some, gdI (k := j) (by omega) (by omega)]
      refine ex_set (fun h18 e18 => ex_some ⟨by rw [e18]; exact setI_eq _ 4 j _, by rw [e18, setI_ne (by omega)]; exact (show (setI h3 (3 + 1) j 1).1 5 j = nI a from by rw [setI_ne (by omega)]; exact g1), by rw [e18]; exact v16, by rw [e18]; exact ((gk.trans k14).trans (KP.setJ (fun z => z ⟨Or.inr (Or.inr rfl), rfl⟩))).trans (KP.setI (fun z => z ⟨Or.inl rfl, rfl⟩))⟩)
    · rw [if_pos (by omega), if_neg q2, if_neg q2]
      exact ex_some ⟨setI_eq _ 4 j _, by rw [setI_ne (by omega)]; exact g1, g2, gk.trans k14⟩
  · rw [if_neg q1, if_neg q1]
    by_cases q2 : digB (bs a) = true
    · obtain ⟨t1, t2, t3⟩ := tend_dig (show a < K by omega) q1 q2
      rw [if_pos (nI_lt t1 (by omega)), gdI (k := a) (by omega) (by omega), nI_clamp (n := a) (by omega), nm_eq, eb, bv_let _ b6, Option.bind_some, if_0i, if_pos q1, bv_dig _ b6, Option.bind_some, if_0i, if_neg (show ¬ ¬ digB (bs a) = true from fun z => z q2), gdI (k := j) (by omega) (by omega), nm_eq, if_pos q2, if_pos q2, pk_sub (by omega), ite_cg (show (4 : Int32) < nI (tend K bs a - a) ↔ 4 < tend K bs a - a from nI_ltI (a := 4) (by omega) (by omega))]
      have k14 : KP (FTk j) h3 (setI h3 (3 + 1) j 1) := KP.setI (fun z => z ⟨Or.inl rfl, rfl⟩)
      by_cases q3 : tend K bs a - a ≤ 4
      · rw [if_neg (by omega), if_pos q3, if_pos q3]
        have tp14 : TpC K bs (setI h3 (3 + 1) j 1) := ⟨hK, fun i hi => ⟨(tp3.2 i hi).1, by rw [k14.i (by unfold FTk; omega)]; exact (tp3.2 i hi).2⟩⟩
        have jo := joinedC (base := 10) (zero := 48) (a := a) (b := tend K bs a) tp14 (by omega) t2 (by omega) (by omega) (fun i h1 h2 => by have := dig_lo (t3 i h1 h2); omega)
        rw [show (10 : Int32) = nI 10 from rfl, show (48 : Int32) = nI 48 from rfl, jo, Option.bind_some, gdI (k := j) (by omega) (by omega), nm_eq, gdI (k := j) (by omega) (by omega)]
        refine ex_set (fun h18 e18 => ex_some ⟨by rw [e18]; exact setI_eq _ 4 j _, by rw [e18, setI_ne (by omega)]; exact (show (setI h3 (3 + 1) j 1).1 5 j = nI a from by rw [setI_ne (by omega)]; exact g1), by rw [e18]; exact setJ_eq _ 6 j _, by rw [e18]; exact ((gk.trans k14).trans (KP.setJ (fun z => z ⟨Or.inr (Or.inr rfl), rfl⟩))).trans (KP.setI (fun z => z ⟨Or.inl rfl, rfl⟩))⟩)
      · rw [if_pos (by omega), if_neg q3, if_neg q3]
        exact ex_some ⟨setI_eq _ 4 j _, by rw [setI_ne (by omega)]; exact g1, g2, gk.trans k14⟩
    · rw [tend_sgn (show a < K by omega) q1 q2, if_pos (nI_lt (by omega) (by omega)), gdI (k := a) (by omega) (by omega), nI_clamp (n := a) (by omega), nm_eq, eb, bv_let _ b6, Option.bind_some, if_0i, if_pos q1, bv_dig _ b6, Option.bind_some, if_0i, if_pos q2, bv_sgn _ b6, Option.bind_some, if_0i, if_neg q2, if_neg q2]
      by_cases q3 : sgnB (bs a) = true
      · have s1 : bs a < 128 := by have := of_decide_eq_true q3; omega
        rw [if_neg (show ¬ ¬ sgnB (bs a) = true from fun z => z q3), if_pos q3, gdI (k := j) (by omega) (by omega), bv_lo _ s1]
        exact fin _
      · rw [if_pos q3, if_neg q3, gdI (k := j) (by omega) (by omega)]
        exact fin _
