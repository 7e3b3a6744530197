/-- the tape as data: K bytes -/
def letB (b : Nat) : Bool := decide (97 ≤ b ∧ b ≤ 122)
def digB (b : Nat) : Bool := decide (48 ≤ b ∧ b ≤ 57)
def blkB (b : Nat) : Bool := decide (b = 32 ∨ b = 9 ∨ b = 10 ∨ b = 13)
def sgnB (b : Nat) : Bool := decide (b = 40 ∨ b = 41 ∨ b = 42 ∨ b = 43 ∨ b = 45 ∨ b = 47 ∨ b = 59 ∨ b = 60 ∨ b = 61)
theorem bv_let : ∀ b : Nat, b < 256 → c_X10_isLetter (bv b) = some (if letB b = true then 1 else 0) := by decide +kernel
theorem bv_dig : ∀ b : Nat, b < 256 → c_X10_isDigit (bv b) = some (if digB b = true then 1 else 0) := by decide +kernel
theorem bv_sgn : ∀ b : Nat, b < 256 → c_X10_isSign (bv b) = some (if sgnB b = true then 1 else 0) := by decide +kernel
theorem bv_32 : ∀ b : Nat, b < 256 → (bv b = 32 ↔ b = 32) ∧ (bv b = 9 ↔ b = 9) ∧ (bv b = 10 ↔ b = 10) ∧ (bv b = 13 ↔ b = 13) := by decide +kernel
theorem bv_lo : ∀ b : Nat, b < 128 → bv b = nI b := by decide +kernel
theorem bv_and : ∀ b : Nat, b < 256 → vp_nar .byte (bv b) &&& 255 = nI b := by decide +kernel
theorem let_lo {b : Nat} (h : letB b = true) : 97 ≤ b ∧ b ≤ 122 := of_decide_eq_true h
theorem dig_lo {b : Nat} (h : digB b = true) : 48 ≤ b ∧ b ≤ 57 := of_decide_eq_true h
/-- the end of a run, n places at most -/
def runF (P : Nat → Bool) (bs : Nat → Nat) : Nat → Nat → Nat
  | 0, i => i
  | n + 1, i => if P (bs i) = true then runF P bs n (i + 1) else i
theorem runF_ge (P : Nat → Bool) (bs : Nat → Nat) : ∀ n i, i ≤ runF P bs n i
  | 0, i => Nat.le_refl i
  | n + 1, i => by
    show i ≤ if P (bs i) = true then runF P bs n (i + 1) else i
    by_cases q : P (bs i) = true
    · rw [if_pos q]; have := runF_ge P bs n (i + 1); omega
    · rw [if_neg q]; exact Nat.le_refl i
theorem runF_le (P : Nat → Bool) (bs : Nat → Nat) : ∀ n i, runF P bs n i ≤ i + n
  | 0, i => Nat.le_refl i
  | n + 1, i => by
    show (if P (bs i) = true then runF P bs n (i + 1) else i) ≤ i + (n + 1)
    by_cases q : P (bs i) = true
    · rw [if_pos q]; have := runF_le P bs n (i + 1); omega
    · rw [if_neg q]; omega
theorem runF_all (P : Nat → Bool) (bs : Nat → Nat) : ∀ n i j, i ≤ j → j < runF P bs n i → P (bs j) = true
  | 0, i, j, h1, h2 => by have h2 : j < i := h2; omega
  | n + 1, i, j, h1, h2 => by
    have h2 : j < if P (bs i) = true then runF P bs n (i + 1) else i := h2
    by_cases q : P (bs i) = true
    · rw [if_pos q] at h2
      by_cases e : j = i
      · rw [e]; exact q
      · exact runF_all P bs n (i + 1) j (by omega) h2
    · rw [if_neg q] at h2; omega
theorem runF_stop (P : Nat → Bool) (bs : Nat → Nat) : ∀ n i, runF P bs n i < i + n → P (bs (runF P bs n i)) = false
  | 0, i, h => by have h : i < i + 0 := h; omega
  | n + 1, i, h => by
    have h : (if P (bs i) = true then runF P bs n (i + 1) else i) < i + (n + 1) := h
    show P (bs (if P (bs i) = true then runF P bs n (i + 1) else i)) = false
    by_cases q : P (bs i) = true
    · rw [if_pos q] at h ⊢
      exact runF_stop P bs n (i + 1) (by omega)
    · rw [if_neg q]; simpa using q
def skip (K : Nat) (bs : Nat → Nat) (i : Nat) : Nat := runF blkB bs (K - i) i
def tend (K : Nat) (bs : Nat → Nat) (a : Nat) : Nat := if K ≤ a then a else if letB (bs a) = true then runF letB bs (K - a) a else if digB (bs a) = true then runF digB bs (K - a) a else a + 1
/-- the tape of the class -/
def TpC (K : Nat) (bs : Nat → Nat) (h : PH) : Prop := K ≤ 2000 ∧ ∀ i, i < K → bs i < 256 ∧ h.1 1 i = bv (bs i)
theorem blanksC {K : Nat} {bs : Nat → Nat} {h : PH} (tp : TpC K bs h) : ∀ (n f a : Nat), a + n = K → lq1 (c_X10_behindBlanks_L2b 1 (nI K) h (fun w6 => some w6)) (f + n + 1) (nI a) = some (nI (runF blkB bs n a))
  | 0, f, a, ha => by
    have hK := tp.1
    rw [lq1_s]; unfold c_X10_behindBlanks_L2b; rw [if_pos (nI_le (by omega) (by omega))]; rfl
  | n + 1, f, a, ha => by
    have hK := tp.1
    obtain ⟨b6, e⟩ := tp.2 a (by omega)
    obtain ⟨c1, c2, c3, c4⟩ := bv_32 _ b6
    rw [show f + (n + 1) + 1 = (f + n + 1) + 1 from by omega, lq1_s]
    have ih := blanksC tp n f (a + 1) (by omega)
    generalize lq1 (c_X10_behindBlanks_L2b 1 (nI K) h (fun w6 => some w6)) (f + n + 1) = REC at ih
    show _ = some (nI (if blkB (bs a) = true then runF blkB bs n (a + 1) else a))
    unfold c_X10_behindBlanks_L2b
    rw [if_neg (nI_ge (show a < K by omega) (by omega)), gdI (k := a) (by omega) (by omega), nI_clamp (by omega), e, ite_cg c1]
    have hb : blkB (bs a) = true ↔ (bs a = 32 ∨ bs a = 9 ∨ bs a = 10 ∨ bs a = 13) := decide_eq_true_iff
    by_cases q1 : bs a = 32
    · rw [if_pos q1, nm_eq, nI_1, ih, if_pos (hb.mpr (by omega))]
    rw [if_neg q1, gdI (k := a) (by omega) (by omega), ite_cg c2]
    by_cases q2 : bs a = 9
    · rw [if_pos q2, nm_eq, nI_1, ih, if_pos (hb.mpr (by omega))]
    rw [if_neg q2, gdI (k := a) (by omega) (by omega), ite_cg c3]
    by_cases q3 : bs a = 10
    · rw [if_pos q3, nm_eq, nI_1, ih, if_pos (hb.mpr (by omega))]
    rw [if_neg q3, gdI (k := a) (by omega) (by omega), ite_cg c4]
    by_cases q4 : bs a = 13
    · rw [if_pos q4, nm_eq, nI_1, ih, if_pos (hb.mpr (by omega))]
    rw [if_neg q4, if_neg (fun z => by have := hb.mp z; omega)]
theorem behindC {K a : Nat} {bs : Nat → Nat} {h : PH} (tp : TpC K bs h) (ha : a ≤ K) : c_X10_behindBlanks 1 (nI K) (nI a) h = some (nI (skip K bs a)) := by
  have hK := tp.1
  unfold c_X10_behindBlanks
  have := blanksC tp (K - a) (8191 - (K - a)) a (by omega)
  rw [← fu_n (show K - a ≤ 8000 by omega)] at this
  rw [nm_eq, this]; rfl
theorem letRunC {K : Nat} {bs : Nat → Nat} {h : PH} (tp : TpC K bs h) : ∀ (n f a : Nat), a + n = K → lq1 (c_X10_endOfRun_L16b 1 (nI K) h (fun w6 => some w6)) (f + n + 1) (nI a) = some (nI (runF letB bs n a))
  | 0, f, a, ha => by
    have hK := tp.1
    rw [lq1_s]; unfold c_X10_endOfRun_L16b; rw [if_pos (nI_le (by omega) (by omega))]; rfl
  | n + 1, f, a, ha => by
    have hK := tp.1
    obtain ⟨b6, e⟩ := tp.2 a (by omega)
    rw [show f + (n + 1) + 1 = (f + n + 1) + 1 from by omega, lq1_s]
    have ih := letRunC tp n f (a + 1) (by omega)
    generalize lq1 (c_X10_endOfRun_L16b 1 (nI K) h (fun w6 => some w6)) (f + n + 1) = REC at ih
    show _ = some (nI (if letB (bs a) = true then runF letB bs n (a + 1) else a))
    unfold c_X10_endOfRun_L16b
    rw [if_neg (nI_ge (show a < K by omega) (by omega)), gdI (k := a) (by omega) (by omega), nI_clamp (by omega), e, bv_let _ b6, Option.bind_some, if_0i]
    by_cases q : letB (bs a) = true
    · rw [if_neg (show ¬ ¬ letB (bs a) = true from fun z => z q), if_pos q, nm_eq, nI_1, ih]
    · rw [if_pos q, if_neg q]
theorem digRunC {K : Nat} {bs : Nat → Nat} {h : PH} (tp : TpC K bs h) : ∀ (n f a : Nat), a + n = K → lq1 (c_X10_endOfRun_L50b 1 (nI K) h (fun w6 => some w6)) (f + n + 1) (nI a) = some (nI (runF digB bs n a))
  | 0, f, a, ha => by
    have hK := tp.1
    rw [lq1_s]; unfold c_X10_endOfRun_L50b; rw [if_pos (nI_le (by omega) (by omega))]; rfl
  | n + 1, f, a, ha => by
    have hK := tp.1
    obtain ⟨b6, e⟩ := tp.2 a (by omega)
    rw [show f + (n + 1) + 1 = (f + n + 1) + 1 from by omega, lq1_s]
    have ih := digRunC tp n f (a + 1) (by omega)
    generalize lq1 (c_X10_endOfRun_L50b 1 (nI K) h (fun w6 => some w6)) (f + n + 1) = REC at ih
    show _ = some (nI (if digB (bs a) = true then runF digB bs n (a + 1) else a))
    unfold c_X10_endOfRun_L50b
    rw [if_neg (nI_ge (show a < K by omega) (by omega)), gdI (k := a) (by omega) (by omega), nI_clamp (by omega), e, bv_dig _ b6, Option.bind_some, if_0i]
    by_cases q : digB (bs a) = true
    · rw [if_neg (show ¬ ¬ digB (bs a) = true from fun z => z q), if_pos q, nm_eq, nI_1, ih]
    · rw [if_pos q, if_neg q]
theorem endC {K a : Nat} {bs : Nat → Nat} {h : PH} (tp : TpC K bs h) (ha : a ≤ K) : c_X10_endOfRun 1 (nI K) (nI a) h = some (nI (tend K bs a)) := by
  have hK := tp.1
  have l1 := letRunC tp (K - a) (8191 - (K - a)) a (by omega)
  have l2 := digRunC tp (K - a) (8191 - (K - a)) a (by omega)
  rw [← fu_n (show K - a ≤ 8000 by omega)] at l1 l2
  unfold c_X10_endOfRun c_X10_endOfRun_j36 tend
  rw [nm_eq, ite_cg (nI_leI (a := K) (b := a) (by omega) (by omega))]
  by_cases q : K ≤ a
  · rw [if_pos q, if_pos q, if_pos (nI_le q (by omega)), if_pos (nI_le q (by omega))]
  · obtain ⟨b6, e⟩ := tp.2 a (by omega)
    rw [if_neg q, if_neg q, gdI (k := a) (by omega) (by omega), nI_clamp (by omega), e, bv_let _ b6, Option.bind_some, if_0i]
    by_cases q1 : letB (bs a) = true
    · rw [if_neg (show ¬ ¬ letB (bs a) = true from fun z => z q1), if_pos q1, l1]
    · rw [if_pos q1, if_neg q1, if_neg (nI_ge (show a < K by omega) (by omega)), gdI (k := a) (by omega) (by omega), bv_dig _ b6, Option.bind_some, if_0i]
      by_cases q2 : digB (bs a) = true
      · rw [if_neg (show ¬ ¬ digB (bs a) = true from fun z => z q2), if_pos q2, l2]
      · rw [if_pos q2, if_neg q2, if_neg (nI_ge (show a < K by omega) (by omega)), nm_eq, nI_1]
/-- numbers of digits and of letters -/
def valF (bs : Nat → Nat) (base zero : Nat) : Nat → Nat → Nat → Nat
  | 0, _, s => s
  | n + 1, i, s => valF bs base zero n (i + 1) (s * base + (bs i - zero))
theorem joinedC {K : Nat} {bs : Nat → Nat} {h : PH} {base zero a b : Nat} (tp : TpC K bs h) (hab : a ≤ b) (hbK : b ≤ K) (hb : base < 100) (hz : zero < 100) (hv : ∀ i, a ≤ i → i < b → zero ≤ bs i ∧ bs i < 128) : c_X10_joined 1 (nI a) (nI b) (nI base) (nI zero) h = some (lN (valF bs base zero (b - a) a 0)) := by
  have hK := tp.1
  have run : ∀ (n f i s : Nat), i + n = b → a ≤ i → lq2 (c_X10_joined_L6b 1 (nI b) (nI base) (nI zero) h (fun w5 => some w5)) (f + n + 1) (lN s) (nI i) = some (lN (valF bs base zero n i s)) := by
    intro n
    induction n with
    | zero =>
      intro f i s hi hai
      rw [lq2_s]; unfold c_X10_joined_L6b; rw [if_pos (nI_le (by omega) (by omega))]; rfl
    | succ n ih =>
      intro f i s hi hai
      obtain ⟨b6, e⟩ := tp.2 i (by omega)
      obtain ⟨z1, z2⟩ := hv i hai (by omega)
      rw [show f + (n + 1) + 1 = (f + n + 1) + 1 from by omega, lq2_s]
      have ih := ih f (i + 1) (s * base + (bs i - zero)) (by omega) (by omega)
      generalize lq2 (c_X10_joined_L6b 1 (nI b) (nI base) (nI zero) h (fun w5 => some w5)) (f + n + 1) = REC at ih
      unfold c_X10_joined_L6b
      rw [if_neg (nI_ge (show i < b by omega) (by omega)), gdI (k := i) (by omega) (by omega), nI_clamp (by omega), e, bv_lo _ z2, pk_sub z1, nI_l (n := base) (by omega), nI_l (n := bs i - zero) (by omega), lN_mul, lN_add, nm_eq, nm_eq, nI_1, ih]
      rfl
  unfold c_X10_joined
  have := run (b - a) (8191 - (b - a)) a 0 (by omega) (Nat.le_refl a)
  rw [← fu_n (show b - a ≤ 8000 by omega)] at this
  rw [nm_eq, nm_eq]
  exact this
