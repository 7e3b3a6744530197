def rowSet (row n k x : Nat) : Nat := row - dig row n k * 7 ^ (n - 1 - k) + x * 7 ^ (n - 1 - k)
theorem dig_le (row n k : Nat) : dig row n k * 7 ^ (n - 1 - k) ≤ row := by
  unfold dig
  refine Nat.le_trans (Nat.mul_le_mul_right _ (Nat.mod_le _ _)) ?_
  exact Nat.div_mul_le_self _ _
theorem rs2 : ∀ row, row < 49 → ∀ k, k < 2 → ∀ x, x < 7 → ∀ j, j < 2 → dig (rowSet row 2 k x) 2 j = updN (dig row 2) k x j := by decide +kernel
theorem rs3 : ∀ row, row < 343 → ∀ k, k < 3 → ∀ x, x < 7 → ∀ j, j < 3 → dig (rowSet row 3 k x) 3 j = updN (dig row 3) k x j := by decide +kernel
theorem rs_dig {row n k x j : Nat} (hn : n = 2 ∨ n = 3) (hr : row < 7 ^ n) (hk : k < n) (hx : x < 7) (hj : j < n) : dig (rowSet row n k x) n j = updN (dig row n) k x j := by
  rcases hn with h | h
  · subst h; exact rs2 row hr k hk x hx j hj
  · subst h; exact rs3 row hr k hk x hx j hj
theorem sub_mulI (a d x p : Nat) (h : d * p ≤ a) : nI a + (nI x - nI d) * nI p = nI (a - d * p + x * p) := by
  have e : nI a = nI (a - d * p) + nI (d * p) := by rw [nI_add, show a - d * p + d * p = a by omega]
  rw [e, Int32.sub_mul, pk_mul, pk_mul, ← nI_add, Int32.add_assoc]
  congr 1
  rw [Int32.add_comm, Int32.sub_add_cancel]
theorem atRestR {row n m c b : Nat} (hn : n = 2 ∨ n = 3) (hr : row < 7 ^ n) (hm : m ≤ 6) : c_X12_isAtRest (nI row) (nI n) (nI m) (nI c) (nI b) = some (if restB (dig row n) n m c b = true then 1 else 0) := by
  have hn3 : n ≤ 3 := by omega
  have p := p7 hn3
  unfold c_X12_isAtRest restB
  simp only [nm_p]
  rw [for_any0 (K := some 1) (E := some 0) (fun k => anyX (betB (dig row n) n c b k) (m + 1) 0) (N := n) (by omega) (fun REC k hk => ?_) (fun REC => ?_)]
  · cases anyX (fun k => anyX (betB (dig row n) n c b k) (m + 1) 0) n 0 <;> rfl
  · unfold c_X12_isAtRest_L3b
    rw [if_neg (nI_ge hk (by omega)), askOf_ok (by omega) hn3 hk, Option.bind_some]
    simp only [nm_p]
    rw [show (0 : Int32) = nI 0 from nI_0.symm]
    refine (for_any (K := REC (nI k + 1)) (E := some (nI 0)) (betB (dig row n) n c b k) (N := m + 1) (by omega) (fun REC' x hx => ?_) (fun REC' => ?_) 0 (by omega)).trans (by rw [nI_1])
    · unfold c_X12_isAtRest_L21b
      have dl := dig_le row n k
      have d7 := dig_lt row n k
      have p0 := p7 (show n - 1 - k ≤ 3 by omega)
      have xb : x * 7 ^ (n - 1 - k) ≤ 6 * 343 := Nat.mul_le_mul (by omega) p0
      have rb : rowSet row n k x < 100000 := by unfold rowSet; omega
      rw [if_neg (show ¬ nI m < nI x from nI_nlt (by omega) (by omega)), sub1k hk, sev_ok (by omega), Option.bind_some, sub_mulI _ _ _ _ dl]
      show ((c_X12_gainOf (nI (rowSet row n k x)) (nI n) (nI k) (nI c) (nI b)).bind fun r6 => _) = _
      rw [gainR rb hn3 hk, gainR (by omega) hn3 hk, Option.bind_some, Option.bind_some, gain_cong (g := updN (dig row n) k x) hk (fun j hj => rs_dig hn hr hk (by omega) hj)]
      unfold betB
      simp only [nm_p, nI_1]
      by_cases q : gainV (dig row n) n c b k < gainV (updN (dig row n) k x) n c b k
      · rw [if_neg (Int32.not_le.mpr q), if_pos (decide_eq_true q)]
      · rw [if_pos (Int32.not_lt.mp q), if_neg (fun z => q (of_decide_eq_true z))]
    · unfold c_X12_isAtRest_L21b
      rw [if_pos (show nI m < nI (m + 1) from nI_lt (by omega) (by omega))]
  · unfold c_X12_isAtRest_L3b
    rw [if_pos (nI_le (by omega) (by omega))]
def askB (row n m : Nat) : Bool := !anyX (fun k => decide (m < dig row n k)) n 0
theorem askR {row n m : Nat} (hn : n ≤ 3) (hr : row < 100000) (hm : m ≤ 6) : c_X12_areAsking (nI row) (nI n) (nI m) = some (if askB row n m = true then 1 else 0) := by
  unfold c_X12_areAsking askB
  simp only [nm_p]
  rw [for_any0 (K := some 1) (E := some 0) (fun k => decide (m < dig row n k)) (N := n) (by omega) (fun REC k hk => ?_) (fun REC => ?_)]
  · cases anyX (fun k => decide (m < dig row n k)) n 0 <;> rfl
  · unfold c_X12_areAsking_L2b
    have d7 := dig_lt row n k
    rw [if_neg (nI_ge hk (by omega)), askOf_ok hr hn hk, Option.bind_some, ite_cg (nI_leI (a := dig row n k) (b := m) (by omega) (by omega))]
    simp only [nm_p, nI_1]
    by_cases q : m < dig row n k
    · rw [if_neg (by omega), if_pos (decide_eq_true q)]
    · rw [if_pos (by omega), if_neg (fun z => q (of_decide_eq_true z))]
  · unfold c_X12_areAsking_L2b
    rw [if_pos (nI_le (by omega) (by omega))]
theorem m1_nI (k : Nat) : nI (k + 1) + (-1) = nI k := pk_m1 k
theorem dig_next (r n j : Nat) (h : j < n) : r / 7 / 7 ^ (n - 1 - j) % 7 = r / 7 ^ (n + 1 - 1 - j) % 7 := by
  rw [Nat.div_div_eq_div_mul, show n + 1 - 1 - j = (n - 1 - j) + 1 by omega, Nat.pow_succ, Nat.mul_comm]
/-- the class's digits, from the last one on -/
theorem ask_run {m : Nat} (hm : m ≤ 6) (z : Int32) (K : Int32 → PH → Option (Int32 × PH)) : ∀ (k f r : Nat) (ok : Bool) (h : PH), k ≤ 3 → r < 100000 → ∃ h', lq4 (c_X3_ask_L19b 227 (nI m) K) (f + k + 1) (nI r) (if ok = true then 1 else 0) (nI k + (-1)) h = K (if (ok && !anyX (fun j => decide (m < r / 7 ^ (k - 1 - j) % 7)) k 0) = true then 1 else 0) h' ∧ (∀ j, j < k → h'.1 228 j = nI (r / 7 ^ (k - 1 - j) % 7)) ∧ (∀ j, k ≤ j → h'.1 228 j = h.1 228 j) ∧ KP F228 h h'
  | 0, f, r, ok, h, _, _ => by
    refine ⟨h, ?_, fun j hj => absurd hj (by omega), fun j _ => rfl, KP.rfl⟩
    rw [lq4_s]
    unfold c_X3_ask_L19b
    rw [if_pos (show nI 0 + (-1) < 0 by decide)]
    have : anyX (fun j => decide (m < r / 7 ^ (0 - 1 - j) % 7)) 0 0 = false := by
      apply Bool.eq_false_iff.mpr
      intro y; obtain ⟨d, a, _⟩ := anyX_0.mp y; omega
    rw [this]; cases ok <;> rfl
  | k + 1, f, r, ok, h, hk, hr => by
    have hs : setI h 228 k (nI (r % 7)) = setI h 228 k (nI (r % 7)) := rfl
    obtain ⟨h', e, p1, p2, p3⟩ := ask_run hm z K k f (r / 7) (ok && !decide (m < r % 7)) (setI h 228 k (nI (r % 7))) (by omega) (Nat.lt_of_le_of_lt (Nat.div_le_self _ _) hr)
    refine ⟨h', ?_, fun j hj => ?_, fun j hj => ?_, (KP.setI (fun y => y rfl)).trans p3⟩
    · rw [show f + (k + 1) + 1 = (f + k + 1) + 1 from by omega, lq4_s]
      have st : ∀ REC : Int32 → Int32 → Int32 → PH → Option (Int32 × PH), c_X3_ask_L19b 227 (nI m) K REC (nI r) (if ok = true then 1 else 0) (nI (k + 1) + (-1)) h = REC (nI (r / 7)) (if (ok && !decide (m < r % 7)) = true then 1 else 0) (nI k + (-1)) (setI h 228 k (nI (r % 7))) := fun REC => by
        unfold c_X3_ask_L19b
        have m7 : r % 7 < 7 := Nat.mod_lt _ (by decide)
        rw [m1_nI, if_neg (nI_pos (by omega)), gdI (k := k) (by omega) (by omega), show (7 : Int32) = nI 7 from rfl, jrem_nI (by omega) (by omega) (by omega), pk_div (by omega) (by omega) (by omega), nI_clamp (by omega)]
        simp only [nm_p]
        rw [gdI (k := k) (by omega) (by omega), setI_eq, if_0i, ite_cg (nI_ltI (a := m) (b := r % 7) (by omega) (by omega))]
        cases ok
        · rfl
        · by_cases q : m < r % 7
          · rw [if_pos q]; simp [q]
          · rw [if_neg q]; simp [q]
      rw [st, e]
      have up : (anyX (fun j => decide (m < r / 7 ^ (k + 1 - 1 - j) % 7)) (k + 1) 0) = (decide (m < r % 7) || anyX (fun j => decide (m < r / 7 / 7 ^ (k - 1 - j) % 7)) k 0) := by
        apply bool_eq
        rw [Bool.or_eq_true, anyX_0, anyX_0]
        simp only [decide_eq_true_eq]
        constructor
        · rintro ⟨d, a, b⟩
          by_cases q : d = k
          · subst q
            rw [show d + 1 - 1 - d = 0 by omega, Nat.pow_zero, Nat.div_one] at b
            exact Or.inl b
          · exact Or.inr ⟨d, by omega, by rw [dig_next _ _ _ (by omega)]; exact b⟩
        · rintro (b | ⟨d, a, b⟩)
          · exact ⟨k, by omega, by rw [show k + 1 - 1 - k = 0 by omega, Nat.pow_zero, Nat.div_one]; exact b⟩
          · exact ⟨d, by omega, by rw [dig_next _ _ _ a] at b; exact b⟩
      rw [up, Bool.not_or, ← Bool.and_assoc]
    · by_cases q : j = k
      · subst q
        rw [p2 j (by omega), setI_eq, show j + 1 - 1 - j = 0 by omega, Nat.pow_zero, Nat.div_one]
      · rw [p1 j (by omega), dig_next _ _ _ (by omega)]
    · rw [p2 j (by omega), setI_ne (by omega)]
theorem askC {row n m : Nat} {h : PH} (hn : n = 2 ∨ n = 3) (hr : row < 100000) (hm : m ≤ 6) : ExV (c_X3_ask 227 (nI n) (nI m) (nI row) h) (fun v h' => v = (if askB row n m = true then 1 else 0) ∧ (∀ j, j < n → h'.1 228 j = nI (dig row n j)) ∧ KP F228 h h') := by
  unfold c_X3_ask
  have jm : jmin (nI n) 3 - 1 = nI n + (-1) := by
    rcases hn with q | q <;> subst q <;> decide
  refine ev_nm ?_
  refine ev_nm ?_
  refine ev_nm ?_
  rw [jm]
  obtain ⟨h', e, p1, p2, p3⟩ := ask_run hm 0 (fun w12 h13 => gd (zOK w12) <| some (w12, h13)) n (8191 - n) row true h (by omega) hr
  rw [← fu_n (show n ≤ 8000 by omega), if_pos rfl, Bool.true_and] at e
  have hA : anyX (fun j => decide (m < row / 7 ^ (n - 1 - j) % 7)) n 0 = anyX (fun j => decide (m < dig row n j)) n 0 := rfl
  rw [hA] at e
  rw [e]
  unfold askB
  show ExV (gd (zOK (if (!anyX (fun j => decide (m < dig row n j)) n 0) = true then 1 else 0)) _) _
  cases anyX (fun j => decide (m < dig row n j)) n 0
  · exact ev_some ⟨rfl, p1, p3⟩
  · exact ev_some ⟨rfl, p1, p3⟩
theorem seller_run {n m c b : Nat} {hc : PH} (hn : n = 2 ∨ n = 3) (hm : m ≤ 6) (z : Int32) : ∃ (v : Int32) (hc' : PH), lq3 (c_X3_rests_L21b 227 (nI n) (nI m) (nI c) (nI b) z (nI (7 ^ n)) (fun w12 h13 => some (w12, h13)) (fun w14 h15 => if z = (-1) then some (w14, h15) else some ((-1), h15))) fu 0 0 hc = some (v, hc') ∧ lq2 (c_X12_sellers_L54b (nI n) (nI m) (nI c) (nI b) z (fun w14 => some w14) (fun w15 => if z = (-1) then some w15 else some (-1))) fu 0 0 = some v ∧ KP F228 hc hc' := by
  have hn3 : n ≤ 3 := by omega
  have p := p7 hn3
  rw [lq3_m]
  have L := lock (B := fun REC (t : Int32 × PH) i => c_X3_rests_L21b 227 (nI n) (nI m) (nI c) (nI b) z (nI (7 ^ n)) (fun w12 h13 => some (w12, h13)) (fun w14 h15 => if z = (-1) then some (w14, h15) else some ((-1), h15)) (fun a i c => REC (a, c) i) t.1 i t.2) (B' := c_X12_sellers_L54b (nI n) (nI m) (nI c) (nI b) z (fun w14 => some w14) (fun w15 => if z = (-1) then some w15 else some (-1))) (K := fun x => if z = (-1) then some (x.1, x.2) else some ((-1 : Int32), x.2)) (K' := fun w15 => if z = (-1) then some w15 else some (-1 : Int32)) (N := 7 ^ n) (fun _ x y => x.1 = y ∧ KP F228 hc x.2) (fun o o' => ∃ v h', o = some (v, h') ∧ o' = some v ∧ KP F228 hc h') (by omega) (fun REC REC' i x y hi hp => by
    obtain ⟨x1, x2⟩ := x
    obtain ⟨p1, p2⟩ := hp
    have p1 : x1 = y := p1
    have p2 : KP F228 hc x2 := p2
    subst p1
    obtain ⟨va, ha, a1, a2, a3, a4⟩ := askC (h := x2) hn (show i < 100000 by omega) hm
    have dl : ∀ j, j < n → dig i n j < 7 := fun j _ => dig_lt i n j
    obtain ⟨vb, hb, b1, b2, b3⟩ := restC (f := dig i n) (c := c) (b := b) hn3 hm a3 dl
    unfold c_X3_rests_L21b c_X12_sellers_L54b
    rw [if_neg (nI_ge hi (by omega)), sev_ok hn3, Option.bind_some, if_neg (nI_ge hi (by omega)), a1, askR hn3 (by omega) hm, a2, atRestR hn hi hm]
    simp only [bind2, Option.bind_some, nm, nI_1, if_0]
    by_cases q1 : askB i n m = true
    · rw [if_neg (show ¬ ¬ askB i n m = true from fun z => z q1), if_neg (show ¬ ¬ askB i n m = true from fun z => z q1), b1, b2]
      simp only [Option.bind_some, if_0]
      by_cases q2 : restB (dig i n) n m c b = true
      · rw [if_neg (show ¬ ¬ restB (dig i n) n m c b = true from fun z => z q2), if_neg (show ¬ ¬ restB (dig i n) n m c b = true from fun z => z q2)]
        by_cases q3 : x1 = z
        · rw [if_pos q3, if_pos q3]; exact Or.inr ⟨_, _, rfl, rfl, (p2.trans a4).trans b3⟩
        · rw [if_neg q3, if_neg q3]; exact Or.inl ⟨(x1 + 1, hb), x1 + 1, rfl, rfl, rfl, (p2.trans a4).trans b3⟩
      · rw [if_pos q2, if_pos q2]; exact Or.inl ⟨(x1, hb), x1, rfl, rfl, rfl, (p2.trans a4).trans b3⟩
    · rw [if_pos q1, if_pos q1]; exact Or.inl ⟨(x1, ha), x1, rfl, rfl, rfl, p2.trans a4⟩) (fun REC REC' x y _ => by
    unfold c_X3_rests_L21b c_X12_sellers_L54b
    rw [if_pos (nI_le (by omega) (by omega)), sev_ok hn3, Option.bind_some, if_pos (nI_le (by omega) (by omega))]
    exact ⟨rfl, rfl⟩) 0 (Nat.zero_le _) (0, hc) 0 ⟨rfl, KP.rfl⟩
  rw [nI_0] at L
  rcases L with ⟨x', y', e1, e2, q1, q2⟩ | ⟨v, h', e1, e2, q⟩
  · rw [e1, e2, q1]
    by_cases q3 : z = -1
    · rw [if_pos q3, if_pos q3]; exact ⟨_, _, rfl, rfl, q2⟩
    · rw [if_neg q3, if_neg q3]; exact ⟨_, _, rfl, rfl, q2⟩
  · exact ⟨v, h', e1, e2, q⟩
theorem sellers_ok (hc : PH) (a1 a2 a3 a4 a5 : Int32) : ∃ (v : Int32) (hc' : PH), c_X11_sellers a1 a2 a3 a4 a5 hc = some (v, hc') ∧ c_X12_sellers a1 a2 a3 a4 a5 = some v ∧ KP F228 hc hc' := by
  unfold c_X11_sellers c_X12_sellers c_X11_sellers_j48
  rw [X12_in, X12_in, X12_in, X12_in]
  simp only [Option.bind_some, if10]
  by_cases q1 : 2 ≤ a1 ∧ a1 ≤ 3
  · rw [if_pos q1, if_neg (Int32.not_lt.mpr q1.1), if_neg (Int32.not_lt.mpr q1.2)]
    by_cases q2 : 0 ≤ a2 ∧ a2 ≤ 6
    · rw [if_pos q2, if_neg (Int32.not_lt.mpr q2.1), if_neg (Int32.not_lt.mpr q2.2)]
      by_cases q3 : 0 ≤ a3 ∧ a3 ≤ 9
      · rw [if_pos q3, if_neg (Int32.not_lt.mpr q3.1), if_neg (Int32.not_lt.mpr q3.2)]
        by_cases q4 : 0 ≤ a4 ∧ a4 ≤ 99
        · rw [if_pos q4, if_neg (Int32.not_lt.mpr q4.1), if_neg (Int32.not_lt.mpr q4.2)]
          by_cases q5 : -1 ≤ a5
          · rw [if_pos q5, if_pos q5]
            obtain ⟨n, hn, rfl⟩ := nI_of (Int32.not_lt.mpr (Int32.le_trans (show (0 : Int32) ≤ 2 by decide) q1.1))
            have n2 : 2 ≤ n := (nI_leI (a := 2) (by omega) hn).mp q1.1
            have n3 : n ≤ 3 := (nI_leI (b := 3) hn (by omega)).mp q1.2
            obtain ⟨m, hm, rfl⟩ := nI_of (Int32.not_lt.mpr q2.1)
            have m6 : m ≤ 6 := (nI_leI (b := 6) hm (by omega)).mp q2.2
            obtain ⟨c, hcc, rfl⟩ := nI_of (Int32.not_lt.mpr q3.1)
            obtain ⟨b, hb, rfl⟩ := nI_of (Int32.not_lt.mpr q4.1)
            have hn23 : n = 2 ∨ n = 3 := by omega
            obtain ⟨v, hc', e1, e2, k⟩ := seller_run (n := n) (m := m) (c := c) (b := b) (hc := hc) hn23 m6 a5
            unfold c_X3_rests
            simp only [nm_p]
            rw [e2]
            refine ⟨v, hc', ?_, rfl, k⟩
            rcases hn23 with q | q
            · subst q
              rw [if_pos (show nI 2 = 2 from rfl), show (49 : Int32) = nI (7 ^ 2) from rfl, e1]; rfl
            · subst q
              rw [if_neg (show ¬ nI 3 = 2 by decide), show (343 : Int32) = nI (7 ^ 3) from rfl, e1]; rfl
          · rw [if_neg q5, if_neg q5]; exact ⟨-1, hc, rfl, rfl, KP.rfl⟩
        · rw [if_neg q4]
          refine ⟨-1, hc, ?_, rfl, KP.rfl⟩
          by_cases u : a4 < 0
          · rw [if_pos u]
          · rw [if_neg u, if_pos (Int32.not_le.mp (fun z => q4 ⟨Int32.not_lt.mp u, z⟩))]
      · rw [if_neg q3]
        refine ⟨-1, hc, ?_, rfl, KP.rfl⟩
        by_cases u : a3 < 0
        · rw [if_pos u]
        · rw [if_neg u, if_pos (Int32.not_le.mp (fun z => q3 ⟨Int32.not_lt.mp u, z⟩))]
    · rw [if_neg q2]
      refine ⟨-1, hc, ?_, rfl, KP.rfl⟩
      by_cases u : a2 < 0
      · rw [if_pos u]
      · rw [if_neg u, if_pos (Int32.not_le.mp (fun z => q2 ⟨Int32.not_lt.mp u, z⟩))]
  · rw [if_neg q1]
    refine ⟨-1, hc, ?_, rfl, KP.rfl⟩
    by_cases u : a1 < 2
    · rw [if_pos u]
    · rw [if_neg u, if_pos (Int32.not_le.mp (fun z => q1 ⟨Int32.not_lt.mp u, z⟩))]
