theorem Bt_nil {R : Nat} (h : Bt R []) : R = 0 := by
  apply Nat.eq_of_testBit_eq
  intro i
  rw [Nat.zero_testBit]
  by_cases q : i < 9
  · cases e : R.testBit i
    · rfl
    · exact absurd ((h.2 i q).mp e) (by simp)
  · have hp : 512 ≤ 2 ^ i := Nat.pow_le_pow_right (n := 2) (i := 9) (j := i) (by decide) (by omega)
    exact Nat.testBit_lt_two_pow (by have := h.1; omega)
theorem passing_run {T : TX} {s : Nat} {Lp Lw : LawT} {S row p : Int32} {eD : Nat → Nat} (w : T.wf) (hs : s < 2) (cp : LawF Lp) (cw : LawF Lw) : ∀ (D f : Nat) (l : List Nat) (τ : ST) (h : PH) (R : Nat), (l ≠ [] → τ.today + D = 100) → Bt R l → l.Pairwise (Lex T) → (∀ d, d ∈ l → d < T.dut ∧ eD d < T.exc ∧ τ.today ≤ T.dday d ∧ c_X12_excuseIn S row (nI d) = some (nI (eD d))) → RB T s Lp Lw h → StV τ h → ST.pt T τ → (∀ a, a < 5 → τ.trust a ≤ 99) → τ.today < 100000 → ∃ h', lq2 (c_X12_isPassing_L7b S row p (fun h24 => some ((0 : Int32), h24)) (fun h25 => some ((1 : Int32), h25))) (f + D + 1) (nI R) h = some (if seqP T Lp Lw p eD l τ = true then 1 else 0, h') ∧ KP FRg h h'
  | D, f, [], τ, h, R, hD, hR, hL, hB, rb, x, pt, tr, hd => by
    refine ⟨h, ?_, KP.rfl⟩
    rw [lq2_s, Bt_nil hR]
    unfold c_X12_isPassing_L7b
    rw [if_pos nI_0]
    rfl
  | 0, f, d :: l, τ, h, R, hD, hR, hL, hB, rb, x, pt, tr, hd => by
    have := hD (by simp)
    obtain ⟨b1, _, b3, _⟩ := hB d List.mem_cons_self
    have := w.dday d b1
    omega
  | D + 1, f, d :: l, τ, h, R, hD, hR, hL, hB, rb, x, pt, tr, hd => by
    have w1 := w.men; have w2 := w.dut
    have hD1 := hD (by simp)
    obtain ⟨b1, _, _, _⟩ := hB d List.mem_cons_self
    have hR0 : ¬ R = 0 := fun z => by
      have := (hR.2 d (by omega)).mpr List.mem_cons_self
      rw [z, Nat.zero_testBit] at this
      exact absurd this (by decide)
    have hRlt := hR.1
    rw [show f + (D + 1) + 1 = (f + D + 1) + 1 from by omega, lq2_s]
    generalize hREC : lq2 (c_X12_isPassing_L7b S row p (fun h24 => some ((0 : Int32), h24)) (fun h25 => some ((1 : Int32), h25))) (f + D + 1) = REC
    unfold c_X12_isPassing_L7b
    rw [if_neg (nI_ne0 (by omega) (by omega)), nm_eq, seq_day w (d :: l) τ tr (fun d' hd' => (hB d' hd').2.2.1)]
    have run := inner_run (S := S) (row := row) (p := p) (eD := eD) w hs cp cw (fun h19 => some ((0 : Int32), h19)) (fun w20 h21 => (c_X12_mendsAll h21).bind fun h22 => nm (setI h22 44 0 ((h22.1 44 0) + 1)) fun h23 => REC w20 h23) T.dut 0 (8191 - T.dut) (d :: l) τ h R (by omega) hR hL (fun d' hd' => by
      obtain ⟨c1, c2, c3, c4⟩ := hB d' hd'
      exact ⟨c1, c2, c3, fun _ => by omega, c4⟩) rb x pt tr hd
    rw [← fu_n (show T.dut ≤ 8000 by omega), nI_0] at run
    rcases run with ⟨e, h', e2, k⟩ | ⟨l', τ', R', h', e, e2, r1, r2, k⟩
    · rw [e, e2]
      exact ⟨h', rfl, k⟩
    · obtain ⟨p1, p2, p3, p4, p5⟩ := day_props (d :: l) τ l' τ' e hL (fun d' hd' => ⟨(hB d' hd').2.2.1, (hB d' hd').2.1⟩) tr pt
      rw [e, e2]
      have rb' := rb.fr k
      obtain ⟨h9, e9, r9, k9⟩ := mendR_ok w hs rb'.1 rb'.2.1 r2.trust p4
      rw [e9, Option.bind_some, nm_eq]
      have v0 : h9.1 44 0 = nI τ'.today := (k9.i (by omega)).trans r2.today
      rw [v0, nI_1]
      have kk : KP FRg h (setI h9 44 0 (nI (τ'.today + 1))) := (k.trans (k9.mono (fun q k z => by unfold FRg at z; omega))).trans (KP.setI (fun z => z.2.2.1 rfl))
      have vv : StV (mendS T 1 τ') (setI h9 44 0 (nI (τ'.today + 1))) := by
        apply StV.mk
        · rw [setI_eq]; rfl
        · intro y hy; rw [setI_ne (by omega), k9.i (by omega)]; exact r2.told y hy
        · intro b hb5; rw [setI_ne (by omega)]; exact r9 b hb5
      obtain ⟨h2, f1, f2⟩ := passing_run (p := p) (S := S) (row := row) (eD := eD) w hs cp cw D f l' (mendS T 1 τ') _ R' (fun _ => by show τ'.today + 1 + D = 100; omega) r1 p2 (fun d' hd' => by
        obtain ⟨q1, q2⟩ := p3 d' hd'
        obtain ⟨c1, c2, c3, c4⟩ := hB d' q1
        exact ⟨c1, c2, by show τ'.today + 1 ≤ T.dday d'; omega, c4⟩) (rb.fr kk) vv p5 (mend_trust p4) (by show τ'.today + 1 < 100000; omega)
      rw [hREC] at f1
      exact ⟨h2, f1, kk.trans f2⟩
def rk (S d : Nat) : Nat := cntB (fun x => S.testBit x) d
theorem rk_s (S d : Nat) : rk S (d + 1) = rk S d + if S.testBit d then 1 else 0 := rfl
theorem rk_mono {S : Nat} : ∀ {a b : Nat}, a ≤ b → rk S a ≤ rk S b
  | a, 0, h => by rw [show a = 0 by omega]; exact Nat.le_refl _
  | a, b + 1, h => by
    by_cases q : a = b + 1
    · rw [q]; exact Nat.le_refl _
    · exact Nat.le_trans (rk_mono (show a ≤ b by omega)) (by rw [rk_s]; omega)
theorem rk_lt {S d b : Nat} (hb : S.testBit d = true) (h : d < b) : rk S d < rk S b := by
  have := rk_mono (S := S) (show d + 1 ≤ b by omega)
  rw [rk_s, hb] at this
  simp only [if_true] at this
  omega
theorem low0 : ∀ m : Nat, m < 512 → ∀ d : Nat, d < 9 → nI m &&& (((1 : Int32) <<< (nI d &&& 31)) - 1) = nI (m % 2 ^ d) := by decide +kernel
theorem rk_low {S d : Nat} (hd : d < 9) : cntB (fun x => (S % 2 ^ d).testBit x) 9 = rk S d := by
  unfold rk
  rw [cnt_9 (n := d) (by omega) (fun x a b => ?_), cnt_congr (g := fun x => S.testBit x) (fun x hx => ?_)]
  · rw [Nat.testBit_mod_two_pow]; simp [hx]
  · rw [Nat.testBit_mod_two_pow]
    have : ¬ x < d := by omega
    simp [this]
theorem excuseIn_ok {S row d n : Nat} (hS : S < 512) (hd : d < 9) (hn : cn9 S = n) (n3 : n ≤ 3) (hb : S.testBit d = true) (hr : row < 100000) : c_X12_excuseIn (nI S) (nI row) (nI d) = some (nI (dig row n (rk S d))) := by
  have lt : rk S d < n := by rw [← hn]; exact rk_lt hb hd
  have m5 : S % 2 ^ d < 512 := Nat.lt_of_le_of_lt (Nat.mod_le _ _) hS
  unfold c_X12_excuseIn
  rw [low0 S hS d hd, bits_ok m5, Option.bind_some, rk_low hd, nm_eq, bits_ok hS, Option.bind_some]
  show (c_X12_sevens (nI (cn9 S) - 1 - nI (rk S d))).bind _ = _
  have p := p7 (show n - 1 - rk S d ≤ 3 by omega); have p0 := p7_pos (n - 1 - rk S d)
  rw [hn, sub1k lt, sev_ok (by omega), Option.bind_some, if_neg (nI_ne0 p0 (by omega)), pk_div (by omega) p0 (by omega), show (7 : Int32) = nI 7 from rfl, jrem_nI (Nat.lt_of_le_of_lt (Nat.div_le_self _ _) (by omega)) (by omega) (by omega)]
  rfl
