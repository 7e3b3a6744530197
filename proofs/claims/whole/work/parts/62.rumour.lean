def frG (T : TX) (m : Nat) (i x : Nat) : Nat := if m.testBit i = true then x ||| T.know i else x
/-- who has it after a round -/
def hrN (T : TX) (m : Nat) : Nat := forS (frG T m) T.men m
theorem fr_or (T : TX) (m a c : Nat) : ∀ n, forS (frG T m) n (a ||| c) = a ||| forS (frG T m) n c
  | 0 => rfl
  | n + 1 => by
    show frG T m n (forS (frG T m) n (a ||| c)) = a ||| frG T m n (forS (frG T m) n c)
    rw [fr_or T m a c n]
    unfold frG
    by_cases q : m.testBit n = true
    · rw [if_pos q, if_pos q, Nat.or_assoc]
    · rw [if_neg q, if_neg q]
theorem fr_lt {T : TX} (w : T.wf) (m : Nat) : ∀ (n x : Nat), n ≤ T.men → x < 32 → forS (frG T m) n x < 32
  | 0, x, _, h => h
  | n + 1, x, hn, h => by
    have ih := fr_lt w m n x (by omega) h
    show frG T m n (forS (frG T m) n x) < 32
    unfold frG
    by_cases q : m.testBit n = true
    · rw [if_pos q]; exact Nat.or_lt_two_pow (n := 5) ih (w.know n (by omega))
    · rw [if_neg q]; exact ih
theorem hr_eq (T : TX) (m : Nat) : hrN T m = m ||| forS (frG T m) T.men 0 := by
  unfold hrN
  have := fr_or T m m 0 T.men
  rwa [Nat.or_zero] at this
theorem hr_lt {T : TX} (w : T.wf) {m : Nat} (h : m < 32) : hrN T m < 32 := fr_lt w m T.men m (Nat.le_refl _) h
theorem frC {t : Nat} {T : TX} {h : PH} (w : T.wf) (xc : TxC t T h) {m : Nat} (hm : m < 32) : c_X9_friendsOf t (nI m) h = some (nI (forS (frG T m) T.men 0)) := by
  have w1 := w.men
  unfold c_X9_friendsOf
  simp only [nm_p]
  obtain ⟨y, e, hy⟩ := for_r (B := c_X9_friendsOf_L4b t (nI m) h (fun w8 => some w8)) (K := fun w8 => some w8) (N := T.men) (fun i y => y = nI (forS (frG T m) i 0)) (by omega) (fun REC i y hi hp => by
    refine ⟨nI (frG T m i (forS (frG T m) i 0)), ?_, rfl⟩
    generalize forS (frG T m) i 0 = u at hp
    unfold c_X9_friendsOf_L4b frG
    rw [xc.men, if_neg (nI_ge hi (by omega)), hp]
    simp (disch := omega) only [nm_p, gdt, ixOK_nI, nI_clamp, nI_mul9, nI_mul7, nI_mul5, nI_mul6, nI_a4, nI_a13, nI_a22, nI_a31, nI_add, nI_1, Option.bind_some, one_ne0, if_false, if_true, b_get, if_0, xc.know i hi, b_or, Int32.or_zero]
    by_cases q : m.testBit i = true
    · rw [if_neg (fun z => z q), if_pos q]
    · rw [if_pos q, if_neg q]) (fun REC y _ => by
    unfold c_X9_friendsOf_L4b
    rw [xc.men, if_pos (nI_le (by omega) (by omega))]) 0 nI_0.symm
  rw [e, hy]
def ruG (T : TX) (_i : Nat) (x : Nat × Nat) : Nat × Nat := (hrN T x.1, if hrN T x.1 = x.1 then x.2 else x.2 + 1)
theorem ru_lt {T : TX} (w : T.wf) {x : Nat × Nat} (h : x.1 < 32) : ∀ n, (forS (ruG T) n x).1 < 32
  | 0 => h
  | n + 1 => hr_lt w (ru_lt w h n)
theorem ru_n (T : TX) (x : Nat × Nat) : ∀ n, (forS (ruG T) n x).2 ≤ x.2 + n
  | 0 => Nat.le_refl _
  | n + 1 => by
    have := ru_n T x n
    show (if hrN T (forS (ruG T) n x).1 = (forS (ruG T) n x).1 then (forS (ruG T) n x).2 else (forS (ruG T) n x).2 + 1) ≤ x.2 + (n + 1)
    by_cases q : hrN T (forS (ruG T) n x).1 = (forS (ruG T) n x).1
    · rw [if_pos q]; omega
    · rw [if_neg q]; omega
theorem rumC {t : Nat} {T : TX} {h : PH} (w : T.wf) (xc : TxC t T h) (z : Int32) (N : Nat) (hN : N ≤ 9) {m : Nat} (hm : m < 32) (K : Int32 → Int32 → Option Int32) : lq3 (c_X9_rumourFrom_L22b t z (nI N) h K) fu (nI m) 0 0 = K (nI (forS (ruG T) N (m, 0)).1) (nI (forS (ruG T) N (m, 0)).2) := by
  rw [lq3_l]
  obtain ⟨y, e, hy⟩ := for_r (B := fun REC (t' : Int32 × Int32) i => c_X9_rumourFrom_L22b t z (nI N) h K (fun a c i => REC (a, c) i) t'.1 t'.2 i) (K := fun x => K x.1 x.2) (N := N) (fun i y => y = (nI (forS (ruG T) i (m, 0)).1, nI (forS (ruG T) i (m, 0)).2)) (by omega) (fun REC i y hi hp => by
    have l1 := ru_lt w (x := (m, 0)) hm i
    refine ⟨_, ?_, rfl⟩
    show _ = REC (nI (ruG T i (forS (ruG T) i (m, 0))).1, nI (ruG T i (forS (ruG T) i (m, 0))).2) _
    rw [hp]
    generalize forS (ruG T) i (m, 0) = x at l1
    have l2 := hr_lt w l1
    unfold c_X9_rumourFrom_L22b ruG
    rw [if_neg (nI_ge hi (by omega)), frC w xc l1]
    simp (disch := omega) only [nm_p, Option.bind_some, b_or, ← hr_eq, nI_eq, nI_1, Int32.add_zero]
    by_cases q : hrN T x.1 = x.1
    · rw [if_pos q, if_pos q]
    · rw [if_neg q, if_neg q]) (fun REC y _ => by
    unfold c_X9_rumourFrom_L22b
    rw [if_pos (nI_le (by omega) (by omega))]) (nI m, 0) (by rw [show forS (ruG T) 0 (m, 0) = (m, 0) from rfl, nI_0])
  rw [e, hy]
theorem hrR {T : TX} {s : Nat} {h : PH} (w : T.wf) (hs : s < 2) (l : h.1 0 18 = nI s) (xr : TxR s T h) {m : Nat} (hm : m < 32) (z x4 : Int32) {ρ : Type} (K : Int32 → Option ρ) : lq2 (c_X12_rumour_L47b z (nI m) x4 h K) fu (nI m) 0 = K (nI (hrN T m)) := by
  have w1 := w.men
  obtain ⟨y, e, hy⟩ := for_r (B := c_X12_rumour_L47b z (nI m) x4 h K) (K := K) (N := T.men) (fun i y => y = nI (forS (frG T m) i m)) (by omega) (fun REC i y hi hp => by
    refine ⟨nI (frG T m i (forS (frG T m) i m)), ?_, rfl⟩
    generalize forS (frG T m) i m = u at hp
    unfold c_X12_rumour_L47b frG
    rw [l, live_gd hs, nI_clamp (by omega), xr.men, if_neg (nI_ge hi (by omega)), hp]
    simp (disch := omega) only [nm_p, gdt, ixOK_nI, nI_clamp, nI_mul9, nI_mul7, nI_mul5, nI_mul6, nI_a4, nI_a13, nI_a22, nI_a31, nI_add, nI_1, Option.bind_some, one_ne0, if_false, if_true, b_get, if_1, xr.know i hi, b_or]
    by_cases q : m.testBit i = true
    · rw [if_pos q, if_pos q]
    · rw [if_neg q, if_neg q]) (fun REC y _ => by
    unfold c_X12_rumour_L47b
    rw [l, live_gd hs, nI_clamp (by omega), xr.men, if_pos (nI_le (by omega) (by omega))]) (nI m) rfl
  rw [e, hy]; rfl
theorem cnt_mono {f g : Nat → Bool} : ∀ {n : Nat}, (∀ d, d < n → f d = true → g d = true) → cntB f n ≤ cntB g n
  | 0, _ => Nat.le_refl 0
  | n + 1, h => by
    have ih := cnt_mono (f := f) (g := g) (n := n) (fun d hd => h d (by omega))
    show cntB f n + (if f n then 1 else 0) ≤ cntB g n + if g n then 1 else 0
    have hn := h n (by omega)
    cases e : f n
    · simp only [Bool.false_eq_true, if_false]; omega
    · rw [hn e]; simp only [if_true]; omega
theorem cnt_lt {f g : Nat → Bool} {j : Nat} : ∀ {n : Nat}, (∀ d, d < n → f d = true → g d = true) → j < n → f j = false → g j = true → cntB f n < cntB g n
  | 0, _, h, _, _ => absurd h (by omega)
  | n + 1, h, hj, hf, hg => by
    show cntB f n + (if f n then 1 else 0) < cntB g n + if g n then 1 else 0
    by_cases q : j = n
    · subst q
      have le : cntB f j ≤ cntB g j := cnt_mono (fun d hd => h d (by omega))
      rw [hf, hg]; simp; omega
    · have := cnt_lt (f := f) (g := g) (j := j) (n := n) (fun d hd => h d (by omega)) (by omega) hf hg
      have hn := h n (by omega)
      cases e : f n
      · simp; omega
      · rw [hn e]; simp; omega
def cn5 (m : Nat) : Nat := cntB (fun d => m.testBit d) 5
theorem hr_sub {T : TX} {m d : Nat} (h : m.testBit d = true) : (hrN T m).testBit d = true := by rw [hr_eq, Nat.testBit_or, h, Bool.true_or]
theorem hr_more {T : TX} (w : T.wf) {m : Nat} (hm : m < 32) (h : ¬ hrN T m = m) : cn5 m < cn5 (hrN T m) := by
  have l := hr_lt w hm
  by_cases q : ∃ j, j < 5 ∧ m.testBit j = false ∧ (hrN T m).testBit j = true
  · obtain ⟨j, hj, h1, h2⟩ := q
    exact cnt_lt (fun d _ z => hr_sub z) hj h1 h2
  · refine absurd (Nat.eq_of_testBit_eq (fun j => ?_)) h
    by_cases hj : j < 5
    · cases e : m.testBit j
      · cases e2 : (hrN T m).testBit j
        · rfl
        · exact absurd ⟨j, hj, e, e2⟩ q
      · exact hr_sub e
    · have hp : 32 ≤ 2 ^ j := Nat.pow_le_pow_right (n := 2) (i := 5) (j := j) (by decide) (by omega)
      rw [Nat.testBit_lt_two_pow (by omega), Nat.testBit_lt_two_pow (by omega)]
theorem ru_fix {T : TX} {m c : Nat} (h : hrN T m = m) : ∀ n, forS (ruG T) n (m, c) = (m, c)
  | 0 => rfl
  | n + 1 => by
    show ruG T n (forS (ruG T) n (m, c)) = (m, c)
    rw [ru_fix h n]
    unfold ruG
    rw [if_pos h, h]
theorem ru_shift (T : TX) : ∀ (n : Nat) (x : Nat × Nat), forS (ruG T) (n + 1) x = forS (ruG T) n (ruG T 0 x)
  | 0, _ => rfl
  | n + 1, x => by
    show ruG T (n + 1) (forS (ruG T) (n + 1) x) = ruG T n (forS (ruG T) n (ruG T 0 x))
    rw [ru_shift T n x]; rfl
/-- the reference's rounds: at most n of them, and no further than anybody hears it -/
theorem rumR {T : TX} {s : Nat} {h : PH} (w : T.wf) (hs : s < 2) (l : h.1 0 18 = nI s) (xr : TxR s T h) (z : Int32) (K : Int32 → Int32 → Option Int32) : ∀ (n f m c : Nat), m < 32 → c + n ≤ 40 → (z = nI (c + n) ∨ (z = -1 ∧ 6 ≤ n + cn5 m)) → lq3 (c_X12_rumour_L30b z h K) (f + n + 1 + 1) (nI m) (nI c) 1 = K (nI (forS (ruG T) n (m, c)).1) (nI (forS (ruG T) n (m, c)).2)
  | 0, f, m, c, hm, hc, hz => by
    rw [lq3_s]
    unfold c_X12_rumour_L30b
    rw [if_neg (show ¬ (1 : Int32) = 0 by decide)]
    rcases hz with hz | ⟨_, h6⟩
    · rw [if_pos (by rw [hz]; rfl)]; rfl
    · have := cnt_le (fun d => m.testBit d) 5
      unfold cn5 at h6; omega
  | n + 1, f, m, c, hm, hc, hz => by
    have lt := hr_lt w hm
    rw [show f + (n + 1) + 1 + 1 = (f + n + 1 + 1) + 1 from by omega, lq3_s]
    have nz : ¬ nI c = z := by
      rcases hz with hz | ⟨hz, _⟩
      · rw [hz]; exact fun q => by have := (nI_eq (by omega) (by omega)).mp q; omega
      · rw [hz]; exact nI_nem1 (by omega)
    have st : ∀ REC : Int32 → Int32 → Int32 → Option Int32, c_X12_rumour_L30b z h K REC (nI m) (nI c) 1 = if hrN T m = m then REC (nI m) (nI c) 0 else REC (nI (hrN T m)) (nI (c + 1)) 1 := fun REC => by
      unfold c_X12_rumour_L30b
      rw [if_neg (show ¬ (1 : Int32) = 0 by decide), if_neg nz]
      simp only [nm_p]
      rw [hrR w hs l xr hm]
      rw [ite_cg (nI_eq (a := hrN T m) (b := m) (by omega) (by omega))]
      by_cases q : hrN T m = m
      · rw [if_pos q, if_pos q, if_pos trivial, q]
      · rw [if_neg q, if_neg q, if_neg (show ¬ (1 : Int32) = 0 by decide), nI_1]
    rw [st]
    by_cases q : hrN T m = m
    · rw [if_pos q, ru_fix q, lq3_s]
      unfold c_X12_rumour_L30b
      rw [if_pos rfl]
    · rw [if_neg q, ru_shift]
      have e : ruG T 0 (m, c) = (hrN T m, c + 1) := by
        unfold ruG
        show (hrN T m, if hrN T m = m then c else c + 1) = _
        rw [if_neg q]
      rw [e]
      refine rumR w hs l xr z K n f (hrN T m) (c + 1) lt (by omega) ?_
      have mo := hr_more w hm q
      rcases hz with hz | ⟨hz, h1⟩
      · exact Or.inl (by rw [hz, show c + 1 + n = c + (n + 1) by omega])
      · exact Or.inr ⟨hz, by omega⟩
theorem cn5_one : ∀ a : Nat, a < 5 → cn5 (2 ^ a) = 1 := by decide
theorem rumour_ok {n : Nat} {T : TX} {σ : ST} {s t : Nat} {Lp Lw : LawT} {hc hr : PH} (C : CL n T σ s t Lp Lw hc hr) (a1 a2 : Int32) : ∃ v : Int32, c_X11_rumour a1 a2 hc = some v ∧ c_X12_rumour a1 a2 hr = some v := by
  have C0 := C.cor
  have w1 := C0.twf.men
  unfold c_X11_rumour c_X12_rumour
  simp only [nm_p, C0.txt, gdT C0.t2]
  rcases isMan_cases C0.twf C0.s2 C0.live C0.xc C0.xr a1 with ⟨a, ha, rfl, e1, e2⟩ | ⟨e1, e2⟩
  · rw [e1, e2, X12_in]
    simp only [Option.bind_some, one_ne0, if_false, if10]
    have m32 : 2 ^ a < 32 := Nat.pow_lt_pow_right (a := 2) (n := 5) (by decide) (by omega)
    by_cases q1 : a2 < -1
    · rw [if_pos q1, if_neg (fun z => absurd z.1 (Int32.not_le.mpr q1))]; exact ⟨-1, rfl, rfl⟩
    rw [if_neg q1]
    by_cases q2 : a2 ≤ 9
    · rw [if_pos q2, if_pos ⟨Int32.not_lt.mp q1, q2⟩]
      unfold c_X9_rumourFrom
      simp only [nm_p]
      rw [b_shl (by omega)]
      by_cases q3 : a2 = -1
      · subst q3
        rw [if_pos rfl, show (5 : Int32) = nI 5 from rfl, rumC C0.twf C0.xc _ 5 (by omega) m32]
        have := rumR C0.twf C0.s2 C0.live C0.xr (-1) (fun w20 w21 => if (-1 : Int32) = -1 then some w21 else some w20) 5 8185 (2 ^ a) 0 m32 (by omega) (Or.inr ⟨rfl, by rw [cn5_one a (by omega)]; exact Nat.le_refl 6⟩)
        rw [show (8185 + 5 + 1 + 1 : Nat) = fu from rfl, nI_0] at this
        rw [this]
        exact ⟨_, rfl, rfl⟩
      · obtain ⟨N, hN, rfl⟩ := nI_of (show ¬ a2 < 0 from fun z => q3 (by
          have h1 := Int32.lt_iff_toInt_lt.mp z
          have h2 : ¬ a2.toInt < (-1 : Int32).toInt := fun y => q1 (Int32.lt_iff_toInt_lt.mpr y)
          have c1 : (-1 : Int32).toInt = -1 := by decide
          have c0 : (0 : Int32).toInt = 0 := by decide
          exact Int32.toInt_inj.mp (by omega)))
        have hN9 : N ≤ 9 := (nI_leI (b := 9) hN (by omega)).mp q2
        rw [if_neg q3, rumC C0.twf C0.xc _ N hN9 m32]
        have := rumR C0.twf C0.s2 C0.live C0.xr (nI N) (fun w20 w21 => if nI N = -1 then some w21 else some w20) N (8190 - N) (2 ^ a) 0 m32 (by omega) (Or.inl (by rw [Nat.zero_add]))
        rw [show (8190 - N + N + 1 + 1 : Nat) = fu from by unfold fu; omega, nI_0] at this
        rw [this, if_neg q3]
        exact ⟨_, rfl, rfl⟩
    · rw [if_neg q2, if_neg (fun z => q2 z.2)]; exact ⟨-1, rfl, rfl⟩
  · rw [e1, e2]
    exact ⟨-1, rfl, rfl⟩
