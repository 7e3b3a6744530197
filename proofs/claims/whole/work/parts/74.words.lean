/-- letters as a list; words are told apart alike in base 32 and in base 27 -/
def ltr (bs : Nat → Nat) : Nat → Nat → List Nat
  | 0, _ => []
  | n + 1, i => (bs i - 96) :: ltr bs n (i + 1)
theorem valF_ltr (bs : Nat → Nat) (base : Nat) : ∀ n i s, valF bs base 96 n i s = (ltr bs n i).foldl (fun s d => s * base + d) s
  | 0, i, s => rfl
  | n + 1, i, s => valF_ltr bs base n (i + 1) (s * base + (bs i - 96))
theorem ltr_len (bs : Nat → Nat) : ∀ n i, (ltr bs n i).length = n
  | 0, i => rfl
  | n + 1, i => congrArg (· + 1) (ltr_len bs n (i + 1))
theorem ltr_ok (bs : Nat → Nat) : ∀ n i, (∀ j, i ≤ j → j < i + n → letB (bs j) = true) → ∀ d ∈ ltr bs n i, 1 ≤ d ∧ d ≤ 26
  | 0, i, _, d, hd => nomatch hd
  | n + 1, i, h, d, hd => by
    have hd : d ∈ (bs i - 96) :: ltr bs n (i + 1) := hd
    rcases List.mem_cons.mp hd with e | e
    · have := let_lo (h i (by omega) (by omega)); omega
    · exact ltr_ok bs n (i + 1) (fun j a b => h j (by omega) (by omega)) d e
def vR (b : Nat) : List Nat → Nat
  | [] => 0
  | d :: l => vR b l * b + d
theorem vR_foldr (b : Nat) : ∀ l, vR b l = l.foldr (fun d s => s * b + d) 0
  | [] => rfl
  | d :: l => by show vR b l * b + d = l.foldr (fun d s => s * b + d) 0 * b + d; rw [vR_foldr b l]
theorem vB_rev (b : Nat) (l : List Nat) : vB b l = vR b l.reverse := by
  rw [vR_foldr, List.foldr_reverse]; rfl
theorem vR_inj {b : Nat} (hb : 26 < b) : ∀ l l' : List Nat, (∀ d ∈ l, 1 ≤ d ∧ d ≤ 26) → (∀ d ∈ l', 1 ≤ d ∧ d ≤ 26) → vR b l = vR b l' → l = l'
  | [], [], _, _, _ => rfl
  | [], d :: m, _, h, e => by
    have := h d (List.mem_cons_self ..)
    have e : 0 = vR b m * b + d := e
    omega
  | d :: m, [], h, _, e => by
    have := h d (List.mem_cons_self ..)
    have e : vR b m * b + d = 0 := e
    omega
  | d :: m, d' :: m', h, h', e => by
    have q := h d (List.mem_cons_self ..)
    have q' := h' d' (List.mem_cons_self ..)
    have e : vR b m * b + d = vR b m' * b + d' := e
    have e1 : (vR b m * b + d) % b = d := by rw [Nat.mul_comm, Nat.mul_add_mod]; exact Nat.mod_eq_of_lt (by omega)
    have e2 : (vR b m' * b + d') % b = d' := by rw [Nat.mul_comm, Nat.mul_add_mod]; exact Nat.mod_eq_of_lt (by omega)
    have ed : d = d' := e1.symm.trans ((congrArg (· % b) e).trans e2)
    have e3 : vR b m = vR b m' := Nat.eq_of_mul_eq_mul_right (show 0 < b by omega) (by omega)
    rw [ed, vR_inj hb m m' (fun x hx => h x (List.mem_cons_of_mem _ hx)) (fun x hx => h' x (List.mem_cons_of_mem _ hx)) e3]
theorem vB_inj {b : Nat} (hb : 26 < b) {l l' : List Nat} (h : ∀ d ∈ l, 1 ≤ d ∧ d ≤ 26) (h' : ∀ d ∈ l', 1 ≤ d ∧ d ≤ 26) : vB b l = vB b l' ↔ l = l' := by
  constructor
  · intro e
    rw [vB_rev, vB_rev] at e
    have := vR_inj hb _ _ (fun d hd => h d (List.mem_reverse.mp hd)) (fun d hd => h' d (List.mem_reverse.mp hd)) e
    exact List.reverse_inj.mp this
  · intro e; rw [e]
theorem Wd_ok : ∀ w, w < 23 → ∀ d ∈ Wd2 w, 1 ≤ d ∧ d ≤ 26 := by decide +kernel
theorem Wd_len : ∀ w, w < 23 → (Wd2 w).length < 8 := by decide +kernel
theorem Wd_ne : ∀ w, w < 23 → ∀ v, v < 23 → vB 27 (Wd2 w) = vB 27 (Wd2 v) → w = v := by decide +kernel
theorem word_iff {bs : Nat → Nat} {n a w : Nat} (hw : w < 23) (hl : ∀ j, a ≤ j → j < a + n → letB (bs j) = true) : (vB 32 (Wd2 w) = valF bs 32 96 n a 0 ↔ Wd2 w = ltr bs n a) ∧ (vB 27 (Wd2 w) = valF bs 27 96 n a 0 ↔ Wd2 w = ltr bs n a) := by
  have h := ltr_ok bs n a hl
  rw [valF_ltr, valF_ltr]
  exact ⟨vB_inj (by omega) (Wd_ok w hw) h, vB_inj (by omega) (Wd_ok w hw) h⟩
/-- the number of the word that a run of letters is -/
def wOf (bs : Nat → Nat) (n a : Nat) : Option Nat := fstX (fun w => decide (Wd2 w = ltr bs n a)) 23 0
theorem kindW_of {bs : Nat → Nat} {n a : Nat} (hl : ∀ j, a ≤ j → j < a + n → letB (bs j) = true) : kindW (valF bs 32 96 n a 0) = Option.elim (wOf bs n a) 2 (fun w => 64 + w) := by
  have e : fstX (fun w => decide (vB 32 (Wd2 w) = valF bs 32 96 n a 0)) 23 0 = fstX (fun w => decide (Wd2 w = ltr bs n a)) 23 0 := fstX_congr 23 0 (fun w _ hw => by
    have := (word_iff (bs := bs) (n := n) (a := a) (show w < 23 by omega) hl).1
    exact decide_eq_decide.mpr this)
  unfold kindW wOf
  rw [e]
theorem wOf_8 {bs : Nat → Nat} {n a : Nat} (hn : 7 < n) : wOf bs n a = none := by
  cases e : wOf bs n a with
  | none => rfl
  | some w =>
    obtain ⟨_, h2, h3, _⟩ := fstX_some _ _ _ e
    have h3 := congrArg List.length (of_decide_eq_true h3)
    rw [ltr_len] at h3
    have := Wd_len w (by omega)
    omega
theorem wordRunR {ρ : Type} {bs : Nat → Nat} {m a : Nat} {h : PH} {z1 z3 : Int32} {K1 : Int32 → Option ρ} (hw : ∀ k, k < 23 → h.2.1 7 k = hX12.2.1 7 k) (hm : m ≤ 8) (hl : ∀ j, a ≤ j → j < a + m → letB (bs j) = true) : ∀ (n f i : Nat) (x6 : Int32), i + n = 23 → lq2 (c_X12_cut_L146b z1 z3 (lN (valF bs 27 96 m a 0)) h K1) (f + n + 1) x6 (nI i) = K1 (Option.elim (fstX (fun w => decide (Wd2 w = ltr bs m a)) n i) x6 (fun w => nI (20 + w)))
  | 0, f, i, x6, hi => by
    rw [lq2_s]; unfold c_X12_cut_L146b
    rw [if_pos (show (23 : Int32) ≤ nI i from nI_le (a := 23) (by omega) (by omega))]; rfl
  | n + 1, f, i, x6, hi => by
    rw [show f + (n + 1) + 1 = (f + n + 1) + 1 from by omega, lq2_s]
    have ih := fun x => wordRunR (z1 := z1) (z3 := z3) (K1 := K1) hw hm hl n f (i + 1) x (by omega)
    generalize lq2 (c_X12_cut_L146b z1 z3 (lN (valF bs 27 96 m a 0)) h K1) (f + n + 1) = REC at ih
    have wl := (w_lt i (by omega)).2
    have vl : valF bs 27 96 m a 0 < 2 ^ 40 := by
      have := valF_lt bs 27 96 (by omega) m a 0 (fun j h1 h2 => by have := let_lo (hl j h1 h2); omega)
      have p : 27 ^ m ≤ 27 ^ 8 := Nat.pow_le_pow_right (by decide) hm
      have p8 : (27 : Nat) ^ 8 ≤ 2 ^ 40 := by decide
      omega
    have e : fstX (fun w => decide (Wd2 w = ltr bs m a)) (n + 1) i = if decide (Wd2 i = ltr bs m a) = true then some i else fstX (fun w => decide (Wd2 w = ltr bs m a)) n (i + 1) := rfl
    have wi := (word_iff (bs := bs) (n := m) (a := a) (show i < 23 by omega) hl).2
    rw [e]
    unfold c_X12_cut_L146b
    rw [if_neg (show ¬ (23 : Int32) ≤ nI i from nI_ge (b := 23) (by omega) (by omega)), gdI (k := i) (by omega) (by omega), nI_clamp (n := i) (by omega), (hw i (by omega)).trans (wR_ok i (by omega)), ite_cg (((lg_cmp_eq _ _).trans (lN_inj (by omega) (by omega))).trans wi)]
    by_cases q : Wd2 i = ltr bs m a
    · rw [if_pos q, if_pos (decide_eq_true q), nm_eq, nm_eq, nI_1, ih]
      have : fstX (fun w => decide (Wd2 w = ltr bs m a)) n (i + 1) = none := by
        cases e2 : fstX (fun w => decide (Wd2 w = ltr bs m a)) n (i + 1) with
        | none => rfl
        | some w =>
          obtain ⟨h1, h2, h3, _⟩ := fstX_some _ _ _ e2
          have h3 : Wd2 w = ltr bs m a := of_decide_eq_true h3
          have := Wd_ne w (by omega) i (by omega) (by rw [h3, q])
          omega
      rw [this]
      show K1 (20 + nI i) = K1 (nI (20 + i))
      rw [show (20 : Int32) = nI 20 from rfl, nI_add]
    · rw [if_neg q, if_neg (fun z => q (of_decide_eq_true z)), nm_eq, nI_1, ih]
/-- the reference's signs -/
def sgK (b : Nat) : Nat := if b = 59 then 4 else if b = 61 then 5 else if b = 40 then 6 else if b = 41 then 7 else if b = 43 then 8 else if b = 45 then 9 else if b = 42 then 10 else if b = 47 then 15 else if b = 60 then 13 else 3
theorem signR {b : Nat} {x r : Int32} {h : PH} (hb : b < 256) : c_X12_sign x (nI b) r h = (c_X12_token (nI (sgK b)) x 0 (0 : Int64) h).bind fun h4 => some (1, h4) := by
  by_cases q1 : b = 59
  · subst q1; rfl
  by_cases q2 : b = 61
  · subst q2; rfl
  by_cases q3 : b = 40
  · subst q3; rfl
  by_cases q4 : b = 41
  · subst q4; rfl
  by_cases q5 : b = 43
  · subst q5; rfl
  by_cases q6 : b = 45
  · subst q6; rfl
  by_cases q7 : b = 42
  · subst q7; rfl
  by_cases q8 : b = 47
  · subst q8; rfl
  by_cases q9 : b = 60
  · subst q9; rfl
  have ne : ∀ {M : Int32} (N : Nat), N < 128 → M = nI N → b ≠ N → ¬ nI b = M := fun N h1 h2 h3 z => h3 ((nI_lit (show b < 2 ^ 31 by omega) N (by omega) h2).mp z)
  unfold c_X12_sign c_X12_sign_j43 c_X12_sign_j65 c_X12_sign_j85 sgK
  rw [if_neg (show ¬ nI b = 59 from ne 59 (by omega) rfl q1), if_neg (show ¬ nI b = 61 from ne 61 (by omega) rfl q2), if_neg (show ¬ nI b = 40 from ne 40 (by omega) rfl q3), if_neg (show ¬ nI b = 41 from ne 41 (by omega) rfl q4), nm_eq, if_neg (show ¬ nI b = 43 from ne 43 (by omega) rfl q5), if_neg (show ¬ nI b = 45 from ne 45 (by omega) rfl q6), if_neg (show ¬ nI b = 42 from ne 42 (by omega) rfl q7), if_neg (show ¬ nI b = 47 from ne 47 (by omega) rfl q8), if_neg (show ¬ nI b = 60 from ne 60 (by omega) rfl q9), if_neg q1, if_neg q2, if_neg q3, if_neg q4, if_neg q5, if_neg q6, if_neg q7, if_neg q8, if_neg q9]
  rfl
def FRj (j p k : Nat) : Prop := ¬ ((3 ≤ p ∧ p ≤ 6) ∧ k = j ∨ p = 0 ∧ k = 10)
theorem tokR {j : Nat} {k a w : Int32} {v : Int64} {h : PH} (hc : h.1 0 10 = nI j) (hj : j < 403) : ExH (c_X12_token k a w v h) (fun h' => h'.1 0 10 = nI (j + 1) ∧ h'.1 3 j = k ∧ h'.1 4 j = a ∧ h'.1 5 j = w ∧ h'.2.1 6 j = v ∧ KP (FRj j) h h') := by
  unfold c_X12_token
  rw [hc, gdI (k := j) (by omega) (by omega), nI_clamp (n := j) (by omega), nm_eq]
  have c1 : (setI h 3 j k).1 0 10 = nI j := by rw [setI_ne (by omega)]; exact hc
  rw [c1, gdI (k := j) (by omega) (by omega), nI_clamp (n := j) (by omega), nm_eq]
  have c2 : (setI (setI h 3 j k) 4 j a).1 0 10 = nI j := by rw [setI_ne (by omega)]; exact c1
  rw [c2, gdI (k := j) (by omega) (by omega), nI_clamp (n := j) (by omega), nm_eq]
  have c3 : (setI (setI (setI h 3 j k) 4 j a) 5 j w).1 0 10 = nI j := by rw [setI_ne (by omega)]; exact c2
  rw [c3, gdI (k := j) (by omega) (by omega), nI_clamp (n := j) (by omega), nm_eq]
  have c4 : (setJ (setI (setI (setI h 3 j k) 4 j a) 5 j w) 6 j v).1 0 10 = nI j := c3
  rw [c4, nI_1]
  have kp : KP (FRj j) h (setJ (setI (setI (setI h 3 j k) 4 j a) 5 j w) 6 j v) := (((KP.setI (fun z => z (Or.inl ⟨by omega, rfl⟩))).trans (KP.setI (fun z => z (Or.inl ⟨by omega, rfl⟩)))).trans (KP.setI (fun z => z (Or.inl ⟨by omega, rfl⟩)))).trans (KP.setJ (fun z => z (Or.inl ⟨by omega, rfl⟩)))
  have e1 : (setJ (setI (setI (setI h 3 j k) 4 j a) 5 j w) 6 j v).1 3 j = k := by
    show (setI (setI (setI h 3 j k) 4 j a) 5 j w).1 3 j = k
    rw [setI_ne (by omega), setI_ne (by omega), setI_eq]
  have e2 : (setJ (setI (setI (setI h 3 j k) 4 j a) 5 j w) 6 j v).1 4 j = a := by
    show (setI (setI (setI h 3 j k) 4 j a) 5 j w).1 4 j = a
    rw [setI_ne (by omega), setI_eq]
  have e3 : (setJ (setI (setI (setI h 3 j k) 4 j a) 5 j w) 6 j v).1 5 j = w := by
    show (setI (setI (setI h 3 j k) 4 j a) 5 j w).1 5 j = w
    rw [setI_eq]
  have e4 : (setJ (setI (setI (setI h 3 j k) 4 j a) 5 j w) 6 j v).2.1 6 j = v := setJ_eq _ _ _ _
  generalize setJ (setI (setI (setI h 3 j k) 4 j a) 5 j w) 6 j v = h4 at kp e1 e2 e3 e4
  refine ex_set (fun h' eh => ex_some ?_)
  rw [eh]
  exact ⟨setI_eq _ _ _ _, by rw [setI_ne (by omega)]; exact e1, by rw [setI_ne (by omega)]; exact e2, by rw [setI_ne (by omega)]; exact e3, e4, kp.trans (KP.setI (fun z => z (Or.inr ⟨rfl, rfl⟩)))⟩
