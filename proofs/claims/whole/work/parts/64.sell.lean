def dig (row n k : Nat) : Nat := row / 7 ^ (n - 1 - k) % 7
theorem dig_lt (row n k : Nat) : dig row n k < 7 := Nat.mod_lt _ (by decide)
theorem p7 {k : Nat} (h : k ≤ 3) : 7 ^ k ≤ 343 := Nat.pow_le_pow_right (n := 7) (i := k) (j := 3) (by decide) h
theorem p7_pos (k : Nat) : 0 < 7 ^ k := Nat.pow_pos (by decide)
theorem sev_ok {k : Nat} (hk : k ≤ 3) : c_X12_sevens (nI k) = some (nI (7 ^ k)) := by
  unfold c_X12_sevens
  simp only [nm_p]
  obtain ⟨y, e, hy⟩ := for_r (B := c_X12_sevens_L4b (nI k) (fun w5 => some w5)) (K := fun w5 => some w5) (N := k) (fun i y => y = nI (7 ^ i)) (by omega) (fun REC i y hi hp => by
    refine ⟨nI (7 ^ (i + 1)), ?_, rfl⟩
    unfold c_X12_sevens_L4b
    rw [if_neg (nI_ge hi (by omega)), hp, show (7 : Int32) = nI 7 from rfl, pk_mul, Nat.pow_succ]
    simp only [nm_p, nI_1]) (fun REC y _ => by
    unfold c_X12_sevens_L4b
    rw [if_pos (nI_le (by omega) (by omega))]) 1 rfl
  rw [e, hy]
theorem jrem_nI {a d : Nat} (ha : a < 2 ^ 31) (h0 : 0 < d) (hd : d < 2 ^ 31) : jrem (nI a) (nI d) = nI (a % d) := pk_rem ha h0 hd
theorem sub1k {n k : Nat} (h : k < n) : nI n - 1 - nI k = nI (n - 1 - k) := by
  have : nI n - 1 = nI (n - 1) := by
    have := nI_pred (n - 1)
    rwa [show n - 1 + 1 = n by omega] at this
  rw [this, pk_sub (by omega)]
theorem askOf_ok {row n k : Nat} (hr : row < 100000) (hn : n ≤ 3) (hk : k < n) : c_X12_askOf (nI row) (nI n) (nI k) = some (nI (dig row n k)) := by
  have p := p7 (show n - 1 - k ≤ 3 by omega); have p0 := p7_pos (n - 1 - k)
  unfold c_X12_askOf dig
  rw [sub1k hk, sev_ok (by omega), Option.bind_some, if_neg (nI_ne0 p0 (by omega)), pk_div (by omega) p0 (by omega), show (7 : Int32) = nI 7 from rfl, jrem_nI (Nat.lt_of_le_of_lt (Nat.div_le_self _ _) (by omega)) (by omega) (by omega)]
def gnG (f : Nat → Nat) (k j : Nat) (x : Int32) : Int32 ⊕ Unit := if f j < f k then .inr () else if f j = f k then .inl (x + 1) else .inl x
theorem gn_pos {f : Nat → Nat} {k : Nat} : ∀ (n i s : Nat) (x : Int32), forX (gnG f k) n i (nI s) = .inl x → ∃ c, x = nI c ∧ s ≤ c ∧ c ≤ s + n ∧ (i ≤ k → k < i + n → s < c)
  | 0, i, s, x, h => by
    have : nI s = x := by simpa [forX] using h
    exact ⟨s, this.symm, by omega, by omega, fun a b => by omega⟩
  | n + 1, i, s, x, h => by
    have h : Sum.elim (fun y => forX (gnG f k) n (i + 1) y) Sum.inr (gnG f k i (nI s)) = .inl x := h
    unfold gnG at h
    by_cases q1 : f i < f k
    · rw [if_pos q1] at h; simp at h
    · rw [if_neg q1] at h
      by_cases q2 : f i = f k
      · rw [if_pos q2, nI_1] at h
        obtain ⟨c, a1, a2, a3, a4⟩ := gn_pos n (i + 1) (s + 1) x h
        exact ⟨c, a1, by omega, by omega, fun _ _ => by omega⟩
      · rw [if_neg q2] at h
        obtain ⟨c, a1, a2, a3, a4⟩ := gn_pos n (i + 1) s x h
        refine ⟨c, a1, by omega, by omega, fun b1 b2 => ?_⟩
        by_cases e : i = k
        · subst e; exact absurd rfl q2
        · exact a4 (by omega) (by omega)
def gainV (f : Nat → Nat) (n c b k : Nat) : Int32 := Sum.elim (fun x => nI b / x * (nI (f k) - nI c)) (fun _ => 0) (forX (gnG f k) n 0 0)
theorem gain_cong {f g : Nat → Nat} {n c b k : Nat} (hk : k < n) (h : ∀ j, j < n → f j = g j) : gainV f n c b k = gainV g n c b k := by
  unfold gainV
  rw [h k hk, forX_congr (g := gnG f k) (g' := gnG g k) n 0 0 (fun j y _ hj => by unfold gnG; rw [h j (by omega), h k hk])]
theorem gainR {row n c b k : Nat} (hr : row < 100000) (hn : n ≤ 3) (hk : k < n) : c_X12_gainOf (nI row) (nI n) (nI k) (nI c) (nI b) = some (gainV (dig row n) n c b k) := by
  have dk := dig_lt row n k
  unfold c_X12_gainOf gainV
  rw [askOf_ok hr hn hk, Option.bind_some]
  simp only [nm_p]
  rw [show (0 : Int32) = nI 0 from nI_0.symm]
  refine (for_x (K := fun w10 => if w10 = nI 0 then none else some (nI b / w10 * (nI (dig row n k) - nI c))) (E := fun _ => some (nI 0)) (N := n) (gnG (dig row n) k) (by omega) (fun REC j y hj => ?_) (fun REC y => ?_) 0 (by omega) (nI 0)).trans ?_
  · unfold c_X12_gainOf_L14b gnG
    have dj := dig_lt row n j
    rw [if_neg (nI_ge hj (by omega)), askOf_ok hr hn hj, Option.bind_some]
    simp (disch := omega) only [nm_p, nI_1, nI_leI, nI_eq]
    by_cases q1 : dig row n j < dig row n k
    · rw [if_neg (by omega), if_pos q1]; rfl
    · rw [if_pos (by omega), if_neg q1]
      by_cases q2 : dig row n j = dig row n k
      · rw [if_pos q2, if_pos q2]; rfl
      · rw [if_neg q2, if_neg q2]; rfl
  · unfold c_X12_gainOf_L14b
    rw [if_pos (nI_le (by omega) (by omega))]
  · show Sum.elim _ _ (forX (gnG (dig row n) k) n 0 (nI 0)) = _
    cases e : forX (gnG (dig row n) k) n 0 (nI 0) with
    | inl x =>
      obtain ⟨c', a1, a2, a3, a4⟩ := gn_pos n 0 0 x e
      have := a4 (by omega) (by omega)
      show (if x = nI 0 then none else _) = some _
      rw [a1, if_neg (fun z => by have := (nI_eq (by omega) (by omega)).mp z; omega)]; rfl
    | inr u => rfl
theorem gainC {f : Nat → Nat} {n c b k : Nat} {h : PH} (hn : n ≤ 3) (hk : k < n) (hf : ∀ j, j < n → h.1 228 j = nI (f j)) (hl : ∀ j, j < n → f j < 7) : c_X3_gain 227 (nI n) (nI c) (nI b) (nI k) h = some (gainV f n c b k) := by
  unfold c_X3_gain gainV
  simp only [nm_p]
  rw [show (0 : Int32) = nI 0 from nI_0.symm]
  refine (for_x (K := fun w7 => c_X3_gain_j74 227 (nI c) (nI b) (nI k) w7 h) (E := fun _ => some (nI 0)) (N := n) (gnG f k) (by omega) (fun REC j y hj => ?_) (fun REC y => ?_) 0 (by omega) (nI 0)).trans ?_
  · unfold c_X3_gain_L6b gnG
    have lj := hl j hj; have lk := hl k hk
    have f1 : h.1 (227 + 1) j = nI (f j) := hf j hj
    have f2 : h.1 (227 + 1) k = nI (f k) := hf k hk
    rw [if_neg (nI_ge hj (by omega)), if_neg (show ¬ (3 : Int32) ≤ nI j from nI_ge (b := 3) (by omega) (by omega)), gdI (k := j) (by omega) (by omega), gdI (k := k) (by omega) (by omega), gdI (k := j) (by omega) (by omega), gdI (k := k) (by omega) (by omega), nI_clamp (n := j) (by omega), nI_clamp (n := k) (by omega), f1, f2, ite_cg (nI_leI (a := f k) (b := f j) (by omega) (by omega))]
    by_cases q1 : f j < f k
    · rw [if_neg (by omega), if_pos q1]; rfl
    · rw [if_pos (by omega), if_neg q1, ite_cg (nI_eq (a := f j) (b := f k) (by omega) (by omega))]
      by_cases q2 : f j = f k
      · rw [if_pos q2, if_pos q2]; simp only [nm_p, nI_1]; rfl
      · rw [if_neg q2, if_neg q2]; simp only [nm_p, nI_1, Int32.add_zero]; rfl
  · unfold c_X3_gain_L6b
    rw [if_pos (nI_le (by omega) (by omega))]
  · show Sum.elim _ _ (forX (gnG f k) n 0 (nI 0)) = _
    cases e : forX (gnG f k) n 0 (nI 0) with
    | inl x =>
      obtain ⟨c', a1, a2, a3, a4⟩ := gn_pos n 0 0 x e
      have := a4 (by omega) (by omega)
      show c_X3_gain_j74 227 (nI c) (nI b) (nI k) x h = some _
      unfold c_X3_gain_j74
      have f2 : h.1 (227 + 1) k = nI (f k) := hf k hk
      rw [a1, if_neg (show ¬ nI c' ≤ 0 from nI_nle (by omega) (by omega)), if_neg (nI_ne0 (by omega) (by omega)), gdI (k := k) (by omega) (by omega), nI_clamp (by omega), f2]; rfl
    | inr u => rfl
def betB (f : Nat → Nat) (n c b k x : Nat) : Bool := decide (gainV f n c b k < gainV (updN f k x) n c b k)
def restB (f : Nat → Nat) (n m c b : Nat) : Bool := !anyX (fun k => anyX (betB f n c b k) (m + 1) 0) n 0
def F228 (p _k : Nat) : Prop := p ≠ 228
theorem restC {f : Nat → Nat} {n m c b : Nat} {h : PH} (hn : n ≤ 3) (hm : m ≤ 6) (hf : ∀ j, j < n → h.1 228 j = nI (f j)) (hl : ∀ j, j < n → f j < 7) : ExV (c_X3_isRest 227 (nI n) (nI m) (nI c) (nI b) h) (fun v h' => v = (if restB f n m c b = true then 1 else 0) ∧ KP F228 h h') := by
  unfold c_X3_isRest
  refine ev_nm ?_
  -- sellers one by one; the prices come back
  have run : ∀ (d k g : Nat) (h' : PH), k + d = n → (∀ j, j < n → h'.1 228 j = nI (f j)) → KP F228 h h' → ∃ h2, lq2 (c_X3_isRest_L3b 227 (nI n) (nI m) (nI c) (nI b) (fun h19 => some ((0 : Int32), h19)) (fun h20 => some ((1 : Int32), h20))) (g + d + 1) (nI k) h' = some (if anyX (fun k => anyX (betB f n c b k) (m + 1) 0) n k = true then 0 else 1, h2) ∧ KP F228 h h2 := by
    intro d
    induction d with
    | zero =>
      intro k g h' hk hf' kf
      refine ⟨h', ?_, kf⟩
      rw [lq2_s, if_neg (fun z => by obtain ⟨j, a, b, _⟩ := anyX_iff.mp z; omega)]
      unfold c_X3_isRest_L3b
      rw [if_pos (nI_le (by omega) (by omega))]
    | succ d ih =>
      intro k g h' hk hf' kf
      have hkn : k < n := by omega
      rw [show g + (d + 1) + 1 = (g + d + 1) + 1 from by omega, lq2_s]
      generalize hR : lq2 (c_X3_isRest_L3b 227 (nI n) (nI m) (nI c) (nI b) (fun h19 => some ((0 : Int32), h19)) (fun h20 => some ((1 : Int32), h20))) (g + d + 1) = REC
      unfold c_X3_isRest_L3b
      have f2 : h'.1 (227 + 1) k = nI (f k) := hf' k hkn
      rw [if_neg (nI_ge hkn (by omega)), if_neg (show ¬ (3 : Int32) ≤ nI k from nI_ge (b := 3) (by omega) (by omega)), gdI (k := k) (by omega) (by omega), gainC hn hkn hf' hl]
      simp only [nm_p, Option.bind_some]
      rw [nI_clamp (by omega), f2, lq3_m]
      obtain ⟨⟨y, hy⟩, e, p1, p2, p3⟩ := for_r (B := fun REC' (t : Int32 × PH) i => c_X3_isRest_L46b 227 (nI n) (nI m) (nI c) (nI b) (nI k) (nI (f k)) (gainV f n c b k) (fun w15 h16 => gd (ixOK (nI k) 3) (if w15 = 0 then REC (nI k + 1) (setI h16 (227 + 1) k (nI (f k))) else some ((0 : Int32), setI h16 (227 + 1) k (nI (f k))))) (fun a i c => REC' (a, c) i) t.1 i t.2) (K := fun x => gd (ixOK (nI k) 3) (if x.1 = 0 then REC (nI k + 1) (setI x.2 (227 + 1) k (nI (f k))) else some ((0 : Int32), setI x.2 (227 + 1) k (nI (f k))))) (N := m + 1) (fun i x => x.1 = (if anyX (betB f n c b k) i 0 = true then 1 else 0) ∧ (∀ j, j < n → j ≠ k → x.2.1 228 j = nI (f j)) ∧ KP F228 h x.2) (by omega) (fun REC' i x hi hp => by
        obtain ⟨x1, x2⟩ := x
        obtain ⟨p1, p2, p3⟩ := hp
        have p1 : x1 = (if anyX (betB f n c b k) i 0 = true then 1 else 0) := p1
        have p2 : ∀ j, j < n → j ≠ k → x2.1 228 j = nI (f j) := p2
        have p3 : KP F228 h x2 := p3
        have hs : ∀ j, j < n → (setI x2 228 k (nI i)).1 228 j = nI (updN f k i j) := fun j hj => by
          by_cases q : j = k
          · subst q; rw [setI_eq, upd_eq]
          · rw [setI_ne (by omega), upd_ne q]; exact p2 j hj q
        have hu : ∀ j, j < n → updN f k i j < 7 := fun j hj => by
          by_cases q : j = k
          · subst q; rw [upd_eq]; omega
          · rw [upd_ne q]; exact hl j hj
        have kn : KP F228 h (setI x2 228 k (nI i)) := p3.trans (KP.setI (fun z => z rfl))
        have up : (anyX (betB f n c b k) (i + 1) 0 = true) ↔ (anyX (betB f n c b k) i 0 = true ∨ betB f n c b k i = true) := by
          rw [anyX_0, anyX_0]
          constructor
          · rintro ⟨d, a, b⟩
            by_cases e : d = i
            · subst e; exact Or.inr b
            · exact Or.inl ⟨d, by omega, b⟩
          · rintro (⟨d, a, b⟩ | b)
            · exact ⟨d, by omega, b⟩
            · exact ⟨i, by omega, b⟩
        refine ⟨(if anyX (betB f n c b k) (i + 1) 0 = true then 1 else 0, setI x2 228 k (nI i)), ?_, rfl, fun j hj hjk => ?_, kn⟩
        · unfold c_X3_isRest_L46b
          rw [if_neg (show ¬ nI m < nI i from nI_nlt (by omega) (by omega)), gdI (k := k) (by omega) (by omega)]
          simp only [nm_p]
          rw [nI_clamp (by omega), p1, if_0i, gainC (k := k) hn hkn hs hu, nI_1]
          by_cases q1 : anyX (betB f n c b k) i 0 = true
          · rw [if_neg (fun z => z q1), if_pos (up.mpr (Or.inl q1))]
          · rw [if_pos q1, Option.bind_some]
            by_cases q2 : betB f n c b k i = true
            · have lt : gainV f n c b k < gainV (updN f k i) n c b k := of_decide_eq_true q2
              rw [if_neg (Int32.not_le.mpr lt), if_pos (up.mpr (Or.inr q2))]
            · have nlt : ¬ gainV f n c b k < gainV (updN f k i) n c b k := fun z => q2 (decide_eq_true z)
              rw [if_pos (Int32.not_lt.mp nlt), if_neg (fun z => by rcases up.mp z with z | z; exact q1 z; exact q2 z)]
        · show (setI x2 228 k (nI i)).1 228 j = nI (f j)
          rw [setI_ne (by omega)]; exact p2 j hj hjk) (fun REC' x _ => by
        unfold c_X3_isRest_L46b
        rw [if_pos (show nI m < nI (m + 1) from nI_lt (by omega) (by omega))]) (0, h') ⟨by rw [if_neg (fun z => by obtain ⟨d, a, _⟩ := anyX_0.mp z; omega)], fun j hj _ => hf' j hj, kf⟩
      rw [e]
      have p1 : y = (if anyX (betB f n c b k) (m + 1) 0 = true then 1 else 0) := p1
      have p2 : ∀ j, j < n → j ≠ k → hy.1 228 j = nI (f j) := p2
      have p3 : KP F228 h hy := p3
      rw [gdI (k := k) (by omega) (by omega), p1, if_0i, nI_1]
      have kb : KP F228 h (setI hy (227 + 1) k (nI (f k))) := p3.trans (KP.setI (fun z => z rfl))
      have fb : ∀ j, j < n → (setI hy (227 + 1) k (nI (f k))).1 228 j = nI (f j) := fun j hj => by
        by_cases q : j = k
        · subst q; rw [setI_eq]
        · rw [setI_ne (by omega)]; exact p2 j hj q
      have up : (anyX (fun k => anyX (betB f n c b k) (m + 1) 0) n k = true) ↔ (anyX (betB f n c b k) (m + 1) 0 = true ∨ anyX (fun k => anyX (betB f n c b k) (m + 1) 0) n (k + 1) = true) := by
        rw [anyX_iff (i := k), anyX_iff (i := k + 1)]
        constructor
        · rintro ⟨d, a, b, c⟩
          by_cases e : d = k
          · subst e; exact Or.inl c
          · exact Or.inr ⟨d, by omega, b, c⟩
        · rintro (c | ⟨d, a, b, c⟩)
          · exact ⟨k, by omega, hkn, c⟩
          · exact ⟨d, by omega, b, c⟩
      by_cases q : anyX (betB f n c b k) (m + 1) 0 = true
      · rw [if_neg (fun z => z q)]
        exact ⟨_, by rw [if_pos (up.mpr (Or.inl q))], kb⟩
      · rw [if_pos q, ← hR]
        obtain ⟨h2, e2, k2⟩ := ih (k + 1) g _ (by omega) fb kb
        refine ⟨h2, ?_, k2⟩
        rw [e2]
        have : (anyX (fun k => anyX (betB f n c b k) (m + 1) 0) n (k + 1) = true) ↔ (anyX (fun k => anyX (betB f n c b k) (m + 1) 0) n k = true) := ⟨fun z => up.mpr (Or.inr z), fun z => by rcases up.mp z with z | z; exact absurd z q; exact z⟩
        rw [ite_cg this]
  obtain ⟨h2, e2, k2⟩ := run n 0 (8191 - n) h (by omega) hf KP.rfl
  rw [← fu_n (show n ≤ 8000 by omega), nI_0] at e2
  rw [e2]
  refine ev_some ⟨?_, k2⟩
  unfold restB
  cases anyX (fun k => anyX (betB f n c b k) (m + 1) 0) n 0 <;> rfl
