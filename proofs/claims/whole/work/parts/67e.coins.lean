theorem for_rx_i {α ρ : Type} {B : (α → Int32 → Option ρ) → α → Int32 → Option ρ} {K : α → Option ρ} {N : Nat} (P : Nat → α → Prop) (Q : Option ρ → Prop) (hs : ∀ (REC : α → Int32 → Option ρ) (i : Nat) (x : α), i < N → P i x → (∃ y, B REC x (nI i) = REC y (nI (i + 1)) ∧ P (i + 1) y) ∨ Q (B REC x (nI i))) (he : ∀ (REC : α → Int32 → Option ρ) (x : α), P N x → B REC x (nI N) = K x) : ∀ (n i f : Nat) (x : α), i + n = N → P i x → (∃ y, lq2 B (f + n + 1) x (nI i) = K y ∧ P N y) ∨ Q (lq2 B (f + n + 1) x (nI i))
  | 0, i, f, x, hi, hp => by
    have : i = N := by omega
    subst this
    exact Or.inl ⟨x, by rw [lq2_s]; exact he _ x hp, hp⟩
  | n + 1, i, f, x, hi, hp => by
    rw [show f + (n + 1) + 1 = (f + n + 1) + 1 from by omega, lq2_s]
    rcases hs (lq2 B (f + n + 1)) i x (by omega) hp with ⟨y, e, hp'⟩ | h
    · rw [e]; exact for_rx_i P Q hs he n (i + 1) f y (by omega) hp'
    · exact Or.inr h
theorem for_rx {α ρ : Type} {B : (α → Int32 → Option ρ) → α → Int32 → Option ρ} {K : α → Option ρ} {N : Nat} (P : Nat → α → Prop) (Q : Option ρ → Prop) (hN : N ≤ 8000) (hs : ∀ (REC : α → Int32 → Option ρ) (i : Nat) (x : α), i < N → P i x → (∃ y, B REC x (nI i) = REC y (nI (i + 1)) ∧ P (i + 1) y) ∨ Q (B REC x (nI i))) (he : ∀ (REC : α → Int32 → Option ρ) (x : α), P N x → B REC x (nI N) = K x) (x : α) (hp : P 0 x) : (∃ y, lq2 B fu x 0 = K y ∧ P N y) ∨ Q (lq2 B fu x 0) := by
  rw [show lq2 B fu x 0 = lq2 B ((8191 - N) + N + 1) x (nI 0) from by rw [← fu_n hN, nI_0]]
  exact for_rx_i P Q hs he N 0 (8191 - N) x (by omega) hp
theorem forX_inr {α β : Type} {g : Nat → α → α ⊕ β} {i : Nat} {x : α} {b : β} {m : Nat} (h : forX g m i x = .inr b) : ∀ k, forX g (m + k) i x = .inr b
  | 0 => h
  | k + 1 => by
    rw [show m + (k + 1) = (m + k) + 1 by omega, forX_snoc, forX_inr h k]; rfl
def digE (E r n k : Nat) : Nat := r / E ^ (n - 1 - k) % E
theorem digE_next (E r n j : Nat) (h : j < n) : r / E / E ^ (n - 1 - j) % E = r / E ^ (n + 1 - 1 - j) % E := by
  rw [Nat.div_div_eq_div_mul, show n + 1 - 1 - j = (n - 1 - j) + 1 by omega, Nat.pow_succ, Nat.mul_comm]
theorem choose_run {T : TX} {t : Nat} (w : T.wf) (ht : t = 8 ∨ t = 43) (he : 0 < T.exc) (K : PH → Option PH) : ∀ (k f r : Nat) (h : PH), k ≤ 3 → r < 100000 → TxC t T h → ∃ h', lq3 (c_X7_choose_L10b 219 t K) (f + k + 1) (nI r) (nI k + (-1)) h = K h' ∧ (∀ j, j < k → h'.1 225 j = nI (r / T.exc ^ (k - 1 - j) % T.exc)) ∧ (∀ j, k ≤ j → h'.1 225 j = h.1 225 j) ∧ KP (fun p _ => p ≠ 225) h h'
  | 0, f, r, h, _, _, _ => by
    refine ⟨h, ?_, fun j hj => absurd hj (by omega), fun j _ => rfl, KP.rfl⟩
    rw [lq3_s]
    unfold c_X7_choose_L10b
    rw [if_pos (show nI 0 + (-1) < 0 by decide)]
  | k + 1, f, r, h, hk, hr, xc => by
    have w3 := w.exc
    have kh : KP (fun p _ => p ≠ 225) h (setI h 225 k (nI (r % T.exc))) := KP.setI (fun z => z rfl)
    have x2 : TxC t T (setI h 225 k (nI (r % T.exc))) := xc.fr w (kh.mono (fun p k z => by unfold FxC at z; omega))
    obtain ⟨h', e, p1, p2, p3⟩ := choose_run w ht he K k f (r / T.exc) (setI h 225 k (nI (r % T.exc))) (by omega) (Nat.lt_of_le_of_lt (Nat.div_le_self _ _) hr) x2
    refine ⟨h', ?_, fun j hj => ?_, fun j hj => ?_, kh.trans p3⟩
    · rw [show f + (k + 1) + 1 = (f + k + 1) + 1 from by omega, lq3_s, ← e]
      generalize lq3 (c_X7_choose_L10b 219 t K) (f + k + 1) = REC
      unfold c_X7_choose_L10b c_X7_choose_j38
      rw [m1_nI, if_neg (nI_pos (by omega)), xc.exc, if_neg (nI_nle he (by omega)), if_neg (nI_ne0 he (by omega)), jrem_nI (by omega) he (by omega), gdI (k := k) (by omega) (by omega), nI_clamp (n := k) (by omega), nm_eq]
      show (if (setI h 225 k (nI (r % T.exc))).1 t 1 ≤ 0 then _ else _) = _
      rw [x2.exc, if_neg (nI_nle he (by omega)), if_neg (nI_ne0 he (by omega)), pk_div (by omega) he (by omega), nm_eq, nm_eq]
    · by_cases q : j = k
      · subst q
        rw [p2 j (by omega), setI_eq, show j + 1 - 1 - j = 0 by omega, Nat.pow_zero, Nat.div_one]
      · rw [p1 j (by omega), digE_next _ _ _ _ (by omega)]
    · rw [p2 j (by omega), setI_ne (by omega)]
theorem choose_ok {T : TX} {t n r : Nat} {h : PH} (w : T.wf) (ht : t = 8 ∨ t = 43) (he : 0 < T.exc) (hn : n ≤ 3) (hr : r < 100000) (xc : TxC t T h) (hs : h.1 219 5 = nI n) : ExH (c_X7_choose 219 t (nI r) h) (fun h' => (∀ j, j < n → h'.1 225 j = nI (digE T.exc r n j)) ∧ KP (fun p _ => p ≠ 225) h h') := by
  unfold c_X7_choose
  refine ex_nm ?_
  refine ex_nm ?_
  obtain ⟨h', e, p1, _, p3⟩ := choose_run w ht he (fun h8 => some h8) n (8191 - n) r h hn hr xc
  rw [← fu_n (show n ≤ 8000 by omega)] at e
  rw [hs, show nI n - 1 = nI n + (-1) from Int32.sub_eq_add_neg _ _, e]
  exact ex_some ⟨p1, p3⟩
/-- the cost: what is used, what it comes to; none where one for once is used twice, or there is no such one -/
def kG (T : TX) (σ : ST) (eK : Nat → Nat) (k : Nat) (st : Nat × Nat) : (Nat × Nat) ⊕ Unit :=
  if T.exc ≤ eK k then .inr () else if st.1.testBit (eK k) = true then (if T.once (eK k) = 0 then .inl st else .inr ()) else .inl (st.1 ||| 2 ^ eK k, if σ.owned.testBit (eK k) = true then st.2 else st.2 + T.price (eK k))
def coinV (T : TX) (σ : ST) (eK : Nat → Nat) (n : Nat) : (Nat × Nat) ⊕ Unit := forX (kG T σ eK) n 0 (0, 0)
theorem or128 {u e : Nat} (hu : u < 128) (he : e < 7) : u ||| 2 ^ e < 128 := Nat.or_lt_two_pow (n := 7) hu (Nat.pow_lt_pow_right (a := 2) (n := 7) (by decide) he)
theorem coin_bd {T : TX} {σ : ST} {eK : Nat → Nat} (w : T.wf) : ∀ (n : Nat) (st : Nat × Nat), forX (kG T σ eK) n 0 (0, 0) = .inl st → st.1 < 128 ∧ st.2 ≤ 99 * n
  | 0, st, h => by
    have : ((0, 0) : Nat × Nat) = st := by simpa [forX] using h
    rw [← this]; exact ⟨by show 0 < 128; omega, Nat.le_refl _⟩
  | n + 1, st, h => by
    have w3 := w.exc
    rw [forX_snoc, Nat.zero_add] at h
    cases e : forX (kG T σ eK) n 0 (0, 0) with
    | inr b => rw [e] at h; simp at h
    | inl y =>
      rw [e] at h
      obtain ⟨i1, i2⟩ := coin_bd w n y e
      have h : kG T σ eK n y = .inl st := h
      unfold kG at h
      by_cases q1 : T.exc ≤ eK n
      · rw [if_pos q1] at h; simp at h
      · rw [if_neg q1] at h
        by_cases q2 : y.1.testBit (eK n) = true
        · rw [if_pos q2] at h
          by_cases q3 : T.once (eK n) = 0
          · rw [if_pos q3] at h
            have : y = st := by simpa using h
            rw [← this]; exact ⟨i1, by omega⟩
          · rw [if_neg q3] at h; simp at h
        · rw [if_neg q2] at h
          have h : (y.1 ||| 2 ^ eK n, if σ.owned.testBit (eK n) = true then y.2 else y.2 + T.price (eK n)) = st := by simpa using h
          rw [← h]
          have pp := w.price (eK n) (by omega)
          refine ⟨or128 i1 (by omega), ?_⟩
          show (if σ.owned.testBit (eK n) = true then y.2 else y.2 + T.price (eK n)) ≤ 99 * (n + 1)
          by_cases q4 : σ.owned.testBit (eK n) = true
          · rw [if_pos q4]; omega
          · rw [if_neg q4]; omega
theorem coinsC {T : TX} {σ : ST} {eK : Nat → Nat} {t n : Nat} {h : PH} (w : T.wf) (xc : TxC t T h) (x : StC 78 σ h) (ow : σ.owned < 128) (hn : n ≤ 3) (hs : h.1 219 5 = nI n) (hk : ∀ k, k < n → h.1 225 k = nI (eK k)) (hv : ∀ k, k < n → eK k < T.exc) : ∃ c : Nat, c ≤ 300 ∧ c_X7_coinsFor 219 t 78 h = some (nI c) ∧ ∀ st, coinV T σ eK n = .inl st → c = st.2 := by
  have w3 := w.exc
  unfold c_X7_coinsFor
  rw [nm_eq, nm_eq, nm_eq, lq3_l, x.owned]
  obtain ⟨⟨x1, x2⟩, e, c, m, p1, p2, p3, p4, p5⟩ := for_r (B := fun REC (t' : Int32 × Int32) i => c_X7_coinsFor_L11b 219 t 78 h (fun w12 => some w12) (fun a c i => REC (a, c) i) t'.1 t'.2 i) (K := fun x => some x.1) (N := n) (fun i x => ∃ c m, m < 128 ∧ c ≤ 99 * i ∧ x.1 = nI c ∧ x.2 = nI m ∧ ∀ st, forX (kG T σ eK) i 0 (0, 0) = .inl st → c = st.2 ∧ m = σ.owned ||| st.1) (by omega) (fun REC i x hi hp => by
    obtain ⟨y1, y2⟩ := x
    obtain ⟨c, m, p1, p2, p3, p4, p5⟩ := hp
    have p3 : y1 = nI c := p3
    have p4 : y2 = nI m := p4
    subst p3; subst p4
    have hki : h.1 (219 + 6) i = nI (eK i) := hk i hi
    have hvi := hv i hi
    have pr := w.price (eK i) hvi
    unfold c_X7_coinsFor_L11b
    rw [hs, if_neg (nI_ge hi (by omega)), gdI (k := i) (by omega) (by omega), nI_clamp (n := i) (by omega), hki, nm_eq, b_get (by omega) (by omega), if_0i]
    by_cases q : m.testBit (eK i) = true
    · rw [if_neg (show ¬ ¬ m.testBit (eK i) = true from fun z => z q), nm_eq, nm_eq, nm_eq, b_shl (by omega), b_or, nI_1, Int32.add_zero]
      refine ⟨(nI c, nI (m ||| 2 ^ eK i)), rfl, c, m ||| 2 ^ eK i, or128 p1 (by omega), by omega, rfl, rfl, fun st hst => ?_⟩
      rw [forX_snoc, Nat.zero_add] at hst
      cases e : forX (kG T σ eK) i 0 (0, 0) with
      | inr b => rw [e] at hst; simp at hst
      | inl y =>
        rw [e] at hst
        obtain ⟨r1, r2⟩ := p5 y e
        have hst : kG T σ eK i y = .inl st := hst
        unfold kG at hst
        rw [if_neg (by omega)] at hst
        rw [r2, Nat.testBit_or, Bool.or_eq_true] at q
        by_cases q2 : y.1.testBit (eK i) = true
        · rw [if_pos q2] at hst
          by_cases q3 : T.once (eK i) = 0
          · rw [if_pos q3] at hst
            have : y = st := by simpa using hst
            rw [← this]
            refine ⟨r1, ?_⟩
            rw [r2, Nat.or_assoc]
            congr 1
            apply Nat.eq_of_testBit_eq
            intro j
            rw [Nat.testBit_or, Nat.testBit_two_pow]
            by_cases z : eK i = j
            · rw [← z, q2]; rfl
            · simp [z]
          · rw [if_neg q3] at hst; simp at hst
        · rw [if_neg q2] at hst
          have q4 : σ.owned.testBit (eK i) = true := by rcases q with q | q; exact q; exact absurd q q2
          rw [if_pos q4] at hst
          have : (y.1 ||| 2 ^ eK i, y.2) = st := by simpa using hst
          rw [← this]
          exact ⟨r1, by rw [r2, Nat.or_assoc]⟩
    · rw [if_pos q, gdI (k := eK i) (by omega) (by omega), nI_clamp (n := eK i) (by omega), xc.price (eK i) hvi, nm_eq, nm_eq, nm_eq, b_shl (by omega), b_or, nI_1, nI_add]
      refine ⟨(nI (c + T.price (eK i)), nI (m ||| 2 ^ eK i)), rfl, c + T.price (eK i), m ||| 2 ^ eK i, or128 p1 (by omega), by omega, rfl, rfl, fun st hst => ?_⟩
      rw [forX_snoc, Nat.zero_add] at hst
      cases e : forX (kG T σ eK) i 0 (0, 0) with
      | inr b => rw [e] at hst; simp at hst
      | inl y =>
        rw [e] at hst
        obtain ⟨r1, r2⟩ := p5 y e
        have hst : kG T σ eK i y = .inl st := hst
        unfold kG at hst
        rw [if_neg (by omega)] at hst
        have q2 : ¬ y.1.testBit (eK i) = true := fun z => q (by rw [r2, Nat.testBit_or, z, Bool.or_true])
        have q4 : ¬ σ.owned.testBit (eK i) = true := fun z => q (by rw [r2, Nat.testBit_or, z, Bool.true_or])
        rw [if_neg q2, if_neg q4] at hst
        have : (y.1 ||| 2 ^ eK i, y.2 + T.price (eK i)) = st := by simpa using hst
        rw [← this]
        exact ⟨by rw [r1], by rw [r2, Nat.or_assoc]⟩) (fun REC x _ => by
    unfold c_X7_coinsFor_L11b
    rw [hs, if_pos (nI_le (by omega) (by omega))]) (0, nI σ.owned) ⟨0, σ.owned, ow, by omega, nI_0.symm, rfl, fun st hst => by
      have : ((0, 0) : Nat × Nat) = st := by simpa [forX] using hst
      rw [← this]; exact ⟨rfl, (Nat.or_zero _).symm⟩⟩
  have p3 : x1 = nI c := p3
  refine ⟨c, by omega, by rw [e, p3], fun st hst => (p5 st hst).1⟩
theorem onceC2 {T : TX} {σ : ST} {eK : Nat → Nat} {t n : Nat} {h : PH} (w : T.wf) (xc : TxC t T h) (hn : n ≤ 3) (hs : h.1 219 5 = nI n) (hk : ∀ k, k < n → h.1 225 k = nI (eK k)) (hv : ∀ k, k < n → eK k < T.exc) : ((∃ st, coinV T σ eK n = .inl st) ∧ c_X7_usesOnceAgain 219 t h = some 0) ∨ (coinV T σ eK n = .inr () ∧ c_X7_usesOnceAgain 219 t h = some 1) := by
  have w3 := w.exc
  unfold c_X7_usesOnceAgain
  rw [nm_eq, nm_eq]
  have L := for_rx (B := c_X7_usesOnceAgain_L4b 219 t h (some (1 : Int32)) (some 0)) (K := fun _ => some (0 : Int32)) (N := n) (fun i x => ∃ st, forX (kG T σ eK) i 0 (0, 0) = .inl st ∧ x = nI st.1) (fun o => o = some 1 ∧ coinV T σ eK n = .inr ()) (by omega) (fun REC i x hi hp => by
    obtain ⟨st, p1, p2⟩ := hp
    subst p2
    have bd := (coin_bd w i st p1).1
    have hki : h.1 (219 + 6) i = nI (eK i) := hk i hi
    have hvi := hv i hi
    have on := w.once (eK i) hvi
    have sn : forX (kG T σ eK) (i + 1) 0 (0, 0) = kG T σ eK i st := by rw [forX_snoc, p1, Nat.zero_add]; rfl
    unfold c_X7_usesOnceAgain_L4b
    rw [hs, if_neg (nI_ge hi (by omega)), gdI (k := i) (by omega) (by omega), nI_clamp (n := i) (by omega), hki, nm_eq, b_get (by omega) (by omega), if_0i]
    by_cases q : st.1.testBit (eK i) = true
    · have oo : st.1 ||| 2 ^ eK i = st.1 := by
        apply Nat.eq_of_testBit_eq
        intro j
        rw [Nat.testBit_or, Nat.testBit_two_pow]
        by_cases z : eK i = j
        · rw [← z, q]; rfl
        · simp [z]
      rw [if_neg (show ¬ ¬ st.1.testBit (eK i) = true from fun z => z q), gdI (k := eK i) (by omega) (by omega), nI_clamp (n := eK i) (by omega), xc.once (eK i) hvi, ite_cg (show nI (T.once (eK i)) = 0 ↔ T.once (eK i) = 0 from nI_eq (b := 0) (by omega) (by omega))]
      by_cases q3 : T.once (eK i) = 0
      · rw [if_pos q3, nm_eq, nm_eq, b_shl (by omega), b_or, oo, nI_1]
        refine Or.inl ⟨nI st.1, rfl, st, ?_, rfl⟩
        rw [sn]; unfold kG; rw [if_neg (by omega), if_pos q, if_pos q3]
      · rw [if_neg q3]
        refine Or.inr ⟨rfl, ?_⟩
        have : forX (kG T σ eK) (i + 1) 0 (0, 0) = .inr () := by rw [sn]; unfold kG; rw [if_neg (by omega), if_pos q, if_neg q3]
        have := forX_inr this (n - (i + 1))
        rwa [show i + 1 + (n - (i + 1)) = n by omega] at this
    · rw [if_pos q, nm_eq, nm_eq, b_shl (by omega), b_or, nI_1]
      refine Or.inl ⟨nI (st.1 ||| 2 ^ eK i), rfl, (st.1 ||| 2 ^ eK i, if σ.owned.testBit (eK i) = true then st.2 else st.2 + T.price (eK i)), ?_, rfl⟩
      rw [sn]; unfold kG; rw [if_neg (by omega), if_neg q]) (fun REC x _ => by
    unfold c_X7_usesOnceAgain_L4b
    rw [hs, if_pos (nI_le (by omega) (by omega))]) 0 ⟨(0, 0), rfl, nI_0.symm⟩
  rcases L with ⟨y, e, st, p1, _⟩ | ⟨e, p⟩
  · exact Or.inl ⟨⟨st, p1⟩, e⟩
  · exact Or.inr ⟨p, e⟩
