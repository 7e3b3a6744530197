theorem isExcR {T : TX} {s e : Nat} {h : PH} (w : T.wf) (hs : s < 2) (l : h.1 0 18 = nI s) (xr : TxR s T h) (he : e < 1000) : c_X12_isExcuse (nI e) h = some (if e < T.exc then 1 else 0) := by
  have w3 := w.exc
  unfold c_X12_isExcuse
  rw [l, live_gd hs, nI_clamp (by omega), xr.exc]
  by_cases q : e < T.exc
  · rw [if_pos q]; exact isR_lt _ (by omega) e q
  · rw [if_neg q]; exact isR_no _ (by omega) _ (Or.inr ⟨nI_pos (by omega), nI_le (by omega) (by omega)⟩)
theorem coinsR {T : TX} {σ : ST} {s S row n : Nat} {h : PH} (w : T.wf) (hs : s < 2) (l : h.1 0 18 = nI s) (xr : TxR s T h) (xn : StR 43 0 σ h) (ow : σ.owned < 128) (hS : S < 512) (hn : cn9 S = n) (hd : rk S T.dut = n) (n3 : n ≤ 3) (hr : row < 100000) : c_X12_coinsBy (nI S) (nI row) h = some (Sum.elim (fun st => nI st.2) (fun _ => -1) (coinV T σ (dig row n) n)) := by
  have w2 := w.dut; have w3 := w.exc
  unfold c_X12_coinsBy
  rw [nm_eq, nm_eq, nm_eq, lq3_l]
  have L := for_rx (B := fun REC (t' : Int32 × Int32) i => c_X12_coinsBy_L8b (nI S) (nI row) h (some (-1 : Int32)) (some (-1)) (fun w13 => some w13) (fun a c i => REC (a, c) i) t'.1 t'.2 i) (K := fun x => some x.2) (N := T.dut) (fun i x => ∃ st, forX (kG T σ (dig row n)) (rk S i) 0 (0, 0) = .inl st ∧ x = (nI st.1, nI st.2)) (fun o => o = some (-1) ∧ coinV T σ (dig row n) n = .inr ()) (by omega) (fun REC i x hi hp => by
    obtain ⟨st, p1, p2⟩ := hp
    subst p2
    unfold c_X12_coinsBy_L8b
    rw [l, live_gd hs, nI_clamp (n := s) (by omega), xr.dut, if_neg (nI_ge hi (by omega)), b_get hS (by omega), if_0i]
    by_cases q : S.testBit i = true
    · have bd := (coin_bd w (rk S i) st p1).1
      have d7 := dig_lt row n (rk S i)
      have rs : rk S (i + 1) = rk S i + 1 := by rw [rk_s, if_pos q]
      have sn : forX (kG T σ (dig row n)) (rk S (i + 1)) 0 (0, 0) = kG T σ (dig row n) (rk S i) st := by rw [rs, forX_snoc, p1, Nat.zero_add]; rfl
      have bad : kG T σ (dig row n) (rk S i) st = .inr () → coinV T σ (dig row n) n = .inr () := fun hz => by
        rw [hz] at sn
        have le := rk_mono (S := S) (show i + 1 ≤ T.dut by omega)
        have := forX_inr sn (n - rk S (i + 1))
        rwa [show rk S (i + 1) + (n - rk S (i + 1)) = n by omega] at this
      rw [if_neg (show ¬ ¬ S.testBit i = true from fun z => z q), excuseIn_ok hS (by omega) hn n3 q hr, Option.bind_some, nm_eq, isExcR w hs l xr (by omega), Option.bind_some]
      unfold kG at sn bad
      generalize hx : dig row n (rk S i) = ek at d7 sn bad
      by_cases q1 : T.exc ≤ ek
      · rw [if_neg (show ¬ ek < T.exc by omega), if_pos rfl]
        rw [if_pos q1] at bad
        exact Or.inr ⟨rfl, bad rfl⟩
      · rw [if_neg q1] at sn bad
        have on := w.once ek (by omega)
        have o20 : h.1 20 (7 * s + ek) = nI (T.once ek) := xr.once ek (by omega)
        rw [if_pos (show ek < T.exc by omega), if_neg (show ¬ (1 : Int32) = 0 by decide), b_get (by omega) (by omega), if_1i]
        unfold c_X12_coinsBy_j70 c_X12_coinsBy_j97 c_X12_coinsBy_j131
        by_cases q2 : st.1.testBit ek = true
        · have oo : st.1 ||| 2 ^ ek = st.1 := by
            apply Nat.eq_of_testBit_eq
            intro j
            rw [Nat.testBit_or, Nat.testBit_two_pow]
            by_cases z : ek = j
            · rw [← z, q2]; rfl
            · simp [z]
          rw [if_pos q2] at sn bad
          rw [if_pos q2, nm_eq, if_neg (show ¬ (1 : Int32) = 0 by decide), l, nI_mul7, nI_add, gdI (k := 7 * s + ek) (by omega) (by omega), nI_clamp (n := 7 * s + ek) (by omega), o20, ite_cg (show nI (T.once ek) = 0 ↔ T.once ek = 0 from nI_eq (b := 0) (by omega) (by omega))]
          by_cases q3 : T.once ek = 0
          · rw [if_pos q3] at sn
            rw [if_pos q3, if_neg (show ¬ (1 : Int32) = 0 by decide), nm_eq, nm_eq, b_shl (by omega), b_or, oo, nI_1]
            exact Or.inl ⟨(nI st.1, nI st.2), rfl, st, sn, rfl⟩
          · rw [if_neg q3] at bad
            rw [if_neg q3]
            exact Or.inr ⟨rfl, bad rfl⟩
        · rw [if_neg q2] at sn
          have p16 : h.1 16 (7 * s + ek) = nI (T.price ek) := xr.price ek (by omega)
          rw [if_neg q2, nm_eq, if_pos rfl, if_pos rfl, hasR xn ow (by omega), Option.bind_some, if_0i, nm_eq, nm_eq, l, nI_mul7, nI_add, gdI (k := 7 * s + ek) (by omega) (by omega), nI_clamp (n := 7 * s + ek) (by omega), p16, nm_eq, nm_eq, nm_eq, nI_add, b_shl (by omega), b_or, nI_1]
          by_cases q4 : σ.owned.testBit ek = true
          · rw [if_pos q4] at sn
            rw [if_neg (show ¬ ¬ σ.owned.testBit ek = true from fun z => z q4)]
            exact Or.inl ⟨(nI (st.1 ||| 2 ^ ek), nI st.2), rfl, (st.1 ||| 2 ^ ek, st.2), sn, rfl⟩
          · rw [if_neg q4] at sn
            rw [if_pos q4]
            exact Or.inl ⟨(nI (st.1 ||| 2 ^ ek), nI (st.2 + T.price ek)), rfl, (st.1 ||| 2 ^ ek, st.2 + T.price ek), sn, rfl⟩
    · rw [if_pos q, nm_eq, nI_1]
      refine Or.inl ⟨(nI st.1, nI st.2), rfl, st, ?_, rfl⟩
      rw [rk_s, if_neg q]; exact p1) (fun REC x _ => by
    unfold c_X12_coinsBy_L8b
    rw [l, live_gd hs, nI_clamp (n := s) (by omega), xr.dut, if_pos (nI_le (by omega) (by omega))]) (0, 0) ⟨(0, 0), rfl, rfl⟩
  rcases L with ⟨y, e, st, p1, p2⟩ | ⟨e, p⟩
  · rw [e, p2]
    rw [hd] at p1
    unfold coinV
    rw [p1]; rfl
  · rw [e, p]; rfl
def conv (E n r : Nat) : Nat := forS (fun k x => x * 7 + digE E r n k) n 0
def validB (E n R : Nat) : Bool := (List.range n).all (fun k => decide (dig R n k < E))
theorem conv_dig0 : ∀ E, E < 8 → ∀ n, n < 4 → ∀ r, r < E ^ n → ∀ k, k < n → dig (conv E n r) n k = digE E r n k := by decide +kernel
theorem conv_lt0 : ∀ E, E < 8 → ∀ n, n < 4 → ∀ r, r < E ^ n → conv E n r < 7 ^ n := by decide +kernel
theorem conv_all0 : ∀ E, E < 8 → ∀ n, n < 4 → (List.range (7 ^ n)).filter (validB E n) = (List.range (E ^ n)).map (conv E n) := by decide +kernel
theorem forS_fold {α : Type} (g : Nat → α → α) (x : α) : ∀ n, forS g n x = (List.range n).foldl (fun x i => g i x) x
  | 0 => rfl
  | n + 1 => by
    rw [List.range_succ, List.foldl_append, ← forS_fold g x n]; rfl
theorem fold_filter {α : Type} (g : Nat → α → α) (P : Nat → Bool) : ∀ (l : List Nat) (x : α), (∀ R, R ∈ l → P R = false → ∀ x, g R x = x) → l.foldl (fun x i => g i x) x = (l.filter P).foldl (fun x i => g i x) x
  | [], _, _ => rfl
  | R :: l, x, h => by
    have ih := fun y => fold_filter g P l y (fun R hR => h R (List.mem_cons_of_mem _ hR))
    cases e : P R
    · rw [List.filter_cons_of_neg (by simp [e]), List.foldl_cons, h R List.mem_cons_self e, ih]
    · rw [List.filter_cons_of_pos e, List.foldl_cons, List.foldl_cons, ih]
theorem coin_valid {T : TX} {σ : ST} {eK : Nat → Nat} : ∀ (n : Nat) (st : Nat × Nat), forX (kG T σ eK) n 0 (0, 0) = .inl st → ∀ k, k < n → eK k < T.exc
  | 0, _, _, k, hk => absurd hk (by omega)
  | n + 1, st, h, k, hk => by
    rw [forX_snoc, Nat.zero_add] at h
    cases e : forX (kG T σ eK) n 0 (0, 0) with
    | inr b => rw [e] at h; simp at h
    | inl y =>
      by_cases q : k = n
      · subst q
        rw [e] at h
        have h : kG T σ eK k y = .inl st := h
        unfold kG at h
        by_cases q1 : T.exc ≤ eK k
        · rw [if_pos q1] at h; simp at h
        · omega
      · exact coin_valid n y e k (by omega)
def rowG (T : TX) (σ : ST) (Lp Lw : LawT) (p : Int32) (S n : Nat) (L : List Nat) (R : Nat) (x : Int32 × Nat) : Int32 × Nat :=
  Sum.elim (fun st => if (x.1 = -2 ∨ nI st.2 < x.1) ∧ seqP T Lp Lw p (fun d => dig R n (rk S d)) L σ = true then (nI st.2, R) else x) (fun _ => x) (coinV T σ (dig R n) n)
theorem row_skip {T : TX} {σ : ST} {Lp Lw : LawT} {p : Int32} {S n : Nat} {L : List Nat} {R : Nat} (h : validB T.exc n R = false) (x : Int32 × Nat) : rowG T σ Lp Lw p S n L R x = x := by
  unfold rowG
  cases e : coinV T σ (dig R n) n with
  | inr b => rfl
  | inl st =>
    have := coin_valid n st e
    have hv : validB T.exc n R = true := by
      unfold validB
      rw [List.all_eq_true]
      intro k hk
      exact decide_eq_true (this k (List.mem_range.mp hk))
    rw [hv] at h; exact absurd h (by decide)
theorem rows_eq {T : TX} {σ : ST} {Lp Lw : LawT} {p : Int32} {S n : Nat} {L : List Nat} (w : T.wf) (hn : n ≤ 3) (x : Int32 × Nat) : forS (rowG T σ Lp Lw p S n L) (7 ^ n) x = forS (fun r => rowG T σ Lp Lw p S n L (conv T.exc n r)) (T.exc ^ n) x := by
  have w3 := w.exc
  rw [forS_fold, forS_fold, fold_filter _ (validB T.exc n) _ _ (fun R _ h x => row_skip h x), conv_all0 T.exc (by omega) n (by omega), List.foldl_map]
theorem row_cases {T : TX} {σ : ST} {Lp Lw : LawT} {p : Int32} {S n : Nat} {L : List Nat} (w : T.wf) (hn : n ≤ 3) {R : Nat} {x : Int32 × Nat} (hR : R < 7 ^ n) (h : x.1 = -2 ∨ ∃ m, m ≤ 300 ∧ x.1 = nI m ∧ x.2 < 7 ^ n) : (rowG T σ Lp Lw p S n L R x).1 = -2 ∨ ∃ m, m ≤ 300 ∧ (rowG T σ Lp Lw p S n L R x).1 = nI m ∧ (rowG T σ Lp Lw p S n L R x).2 < 7 ^ n := by
  unfold rowG
  cases e : coinV T σ (dig R n) n with
  | inr b => exact h
  | inl st =>
    have bd := (coin_bd w n st e).2
    simp only [Sum.elim_inl]
    by_cases q : (x.1 = -2 ∨ nI st.2 < x.1) ∧ seqP T Lp Lw p (fun d => dig R n (rk S d)) L σ = true
    · rw [if_pos q]
      exact Or.inr ⟨st.2, by omega, rfl, hR⟩
    · rw [if_neg q]; exact h
