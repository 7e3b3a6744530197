def SetB (T : TX) (S : Nat) (n : Nat) : Prop := (S < 2 ^ T.dut) ∧ (S < 512) ∧ (cn9 S = n) ∧ (n ≤ 3) ∧ (0 < n) ∧ (rk S T.dut = n) ∧ (∀ x, S.testBit x = true → x < T.dut)
theorem SetB.lt {T : TX} {S : Nat} {n : Nat} (w : SetB T S n) : S < 2 ^ T.dut := w.1
theorem SetB.lt5 {T : TX} {S : Nat} {n : Nat} (w : SetB T S n) : S < 512 := w.2.1
theorem SetB.cn {T : TX} {S : Nat} {n : Nat} (w : SetB T S n) : cn9 S = n := w.2.2.1
theorem SetB.n3 {T : TX} {S : Nat} {n : Nat} (w : SetB T S n) : n ≤ 3 := w.2.2.2.1
theorem SetB.n1 {T : TX} {S : Nat} {n : Nat} (w : SetB T S n) : 0 < n := w.2.2.2.2.1
theorem SetB.rkn {T : TX} {S : Nat} {n : Nat} (w : SetB T S n) : rk S T.dut = n := w.2.2.2.2.2.1
theorem SetB.bit {T : TX} {S : Nat} {n : Nat} (w : SetB T S n) : ∀ x, S.testBit x = true → x < T.dut := w.2.2.2.2.2.2
theorem SetB.mk {T : TX} {S : Nat} {n : Nat} (h0 : S < 2 ^ T.dut) (h1 : S < 512) (h2 : cn9 S = n) (h3 : n ≤ 3) (h4 : 0 < n) (h5 : rk S T.dut = n) (h6 : ∀ x, S.testBit x = true → x < T.dut) : SetB T S n := ⟨h0, h1, h2, h3, h4, h5, h6⟩
theorem cn9_pos {S : Nat} (h : S < 512) (h0 : 0 < S) : 0 < cn9 S := by
  by_cases q : cn9 S = 0
  · have hb : ∀ x, x < 9 → S.testBit x = false := fun x hx => by
      cases e : S.testBit x
      · rfl
      · have := rk_lt (S := S) e hx
        have : rk S 9 = cn9 S := rfl
        omega
    have : S = 0 := by
      apply Nat.eq_of_testBit_eq
      intro i
      rw [Nat.zero_testBit]
      by_cases hi : i < 9
      · exact hb i hi
      · have hp : 512 ≤ 2 ^ i := Nat.pow_le_pow_right (n := 2) (i := 9) (j := i) (by decide) (by omega)
        exact Nat.testBit_lt_two_pow (by omega)
    omega
  · omega
theorem shl9 : ∀ d : Nat, d < 10 → ((1 : Int32) <<< (nI d &&& 31)) = nI (2 ^ d) := by decide +kernel
theorem set_cases {m : Nat} {T : TX} {σ : ST} {s t : Nat} {Lp Lw : LawT} {hc hr : PH} (C : CL m T σ s t Lp Lw hc hr) (a1 a2 : Int32) : (∃ S n, a1 = nI S ∧ SetB T S n ∧ c_X11_isShopping a1 a2 hc = some 1 ∧ c_X12_isSet a1 a2 hr = some 1) ∨ (c_X11_isShopping a1 a2 hc = some 0 ∧ c_X12_isSet a1 a2 hr = some 0) := by
  have C0 := C.cor
  have w2 := C0.twf.dut
  have p512 : 2 ^ T.dut ≤ 512 := Nat.pow_le_pow_right (n := 2) (i := T.dut) (j := 9) (by decide) w2
  have p0 : 0 < 2 ^ T.dut := Nat.pow_pos (by decide)
  unfold c_X11_isShopping c_X12_isSet
  rw [nm_eq, C0.txt, gdT C0.t2, C0.xc.dut, C0.live, live_gd C0.s2, nI_clamp (n := s) (by have := C0.s2; omega), C0.xr.dut, shl9 T.dut (by omega), X12_in, X12_in, isPercent_eq, Option.bind_some, if10]
  by_cases q1 : a1 ≤ 0
  · rw [if_pos q1, if_neg (fun z => by
      have h1 := Int32.le_iff_toInt_le.mp z.1
      have h2 := Int32.le_iff_toInt_le.mp q1
      have c1 : (1 : Int32).toInt = 1 := by decide
      have c0 : (0 : Int32).toInt = 0 := by decide
      omega)]
    exact Or.inr ⟨rfl, rfl⟩
  · rw [if_neg q1]
    obtain ⟨S, hS, rfl⟩ := nI_of (show ¬ a1 < 0 from fun z => q1 (Int32.le_of_lt z))
    have hS1 : 1 ≤ S := by
      by_cases z : S = 0
      · subst z; exact absurd (show nI 0 ≤ 0 by decide) q1
      · omega
    have pm : nI (2 ^ T.dut) - 1 = nI (2 ^ T.dut - 1) := by
      have := nI_pred (2 ^ T.dut - 1)
      rwa [show 2 ^ T.dut - 1 + 1 = 2 ^ T.dut by omega] at this
    rw [pm, ite_cg (nI_leI (a := 2 ^ T.dut) (b := S) (by omega) hS), ite_cg (show (1 ≤ nI S ∧ nI S ≤ nI (2 ^ T.dut - 1)) ↔ S < 2 ^ T.dut from ⟨fun z => by have := (nI_leI hS (by omega)).mp z.2; omega, fun z => ⟨nI_le (a := 1) hS1 (by omega), nI_le (by omega) (by omega)⟩⟩)]
    by_cases q2 : S < 2 ^ T.dut
    · rw [if_neg (by omega), if_pos q2, bc (by omega), bits_ok (by omega), Option.bind_some, Option.bind_some]
      show (∃ S' n, nI S = nI S' ∧ SetB T S' n ∧ (if 3 < nI (cn9 S) then _ else _) = _ ∧ (if 4 ≤ nI (cn9 S) then _ else _) = _) ∨ ((if 3 < nI (cn9 S) then _ else _) = _ ∧ (if 4 ≤ nI (cn9 S) then _ else _) = _)
      have c9 := cn9_le S
      rw [ite_cg (show (3 : Int32) < nI (cn9 S) ↔ 3 < cn9 S from nI_ltI (a := 3) (by omega) (by omega)), ite_cg (show (4 : Int32) ≤ nI (cn9 S) ↔ 4 ≤ cn9 S from nI_leI (a := 4) (by omega) (by omega))]
      by_cases q3 : 3 < cn9 S
      · rw [if_pos q3, if_pos (show 4 ≤ cn9 S by omega)]; exact Or.inr ⟨rfl, rfl⟩
      · rw [if_neg q3, if_neg (show ¬ 4 ≤ cn9 S by omega)]
        by_cases q4 : 0 ≤ a2 ∧ a2 ≤ 100
        · rw [if_pos q4]
          refine Or.inl ⟨S, cn9 S, rfl, SetB.mk q2 (by omega) rfl (by omega) (cn9_pos (by omega) (by omega)) ?_ (fun x hx => ?_), rfl, rfl⟩
          · refine (cnt_9 (n := T.dut) w2 (fun d a _ => ?_)).symm
            exact Nat.testBit_lt_two_pow (Nat.lt_of_lt_of_le q2 (Nat.pow_le_pow_right (by decide) a))
          · by_cases z : x < T.dut
            · exact z
            · have : S.testBit x = false := Nat.testBit_lt_two_pow (Nat.lt_of_lt_of_le q2 (Nat.pow_le_pow_right (by decide) (by omega)))
              rw [this] at hx; exact absurd hx (by decide)
        · rw [if_neg q4]; exact Or.inr ⟨rfl, rfl⟩
    · rw [if_pos (by omega), if_neg q2]; exact Or.inr ⟨rfl, rfl⟩
theorem no_come {m : Nat} {T : TX} {σ : ST} {s t S n x : Nat} {Lp Lw : LawT} {p : Int32} {hc hr : PH} (C : CL m T σ s t Lp Lw hc hr) (o : SetB T S n) (hb : S.testBit x = true) (ho : σ.out x ≠ 0) : ExV (c_X7_find 219 217 t 78 (nI S) p hc) (fun v h' => v = 0 ∧ KP (SC t) hc h') ∧ ExH (c_X12_fillsBuy (nI S) p hr) (fun h' => h'.1 0 65 = -2 ∧ h'.1 0 66 = -2 ∧ KP SR hr h') := by
  have C0 := C.cor
  have w2 := C0.twf.dut
  have xd := o.bit x hb
  have t2 := C0.t2
  constructor
  · unfold c_X7_find
    refine ev_set (fun h1 e1 => ?_)
    have k1 : KP (SC t) hc h1 := by rw [e1]; exact KP.setI (fun z => by unfold SC at z; omega)
    have C1 := C.fr (Nat.le_refl m) k1 KP.rfl
    have ov : c_X8_over 78 h1 = some (nI ((outMask σ 1 ||| outMask σ 2) ||| outMask σ 3)) := by
      unfold c_X8_over
      rw [C1.cor.sc.freed, C1.cor.sc.caught, C1.cor.sc.done, b_or, b_or]
    have lt : (outMask σ 1 ||| outMask σ 2) ||| outMask σ 3 < 512 := Nat.or_lt_two_pow (n := 9) (told_lt σ) (out_lt σ 3)
    have nz : ¬ nI (S &&& ((outMask σ 1 ||| outMask σ 2) ||| outMask σ 3)) = 0 := fun z => by
      have al : S &&& ((outMask σ 1 ||| outMask σ 2) ||| outMask σ 3) < 512 := Nat.lt_of_le_of_lt Nat.and_le_left o.lt5
      have z := (nI_eq (b := 0) (by omega) (by omega)).mp z
      have b1 : (S &&& ((outMask σ 1 ||| outMask σ 2) ||| outMask σ 3)).testBit x = true := by
        have o3 := C0.swf.out x (by omega)
        rw [Nat.testBit_and, hb, Nat.testBit_or, Nat.testBit_or, out_get (by omega), out_get (by omega), out_get (by omega)]
        have : σ.out x = 1 ∨ σ.out x = 2 ∨ σ.out x = 3 := by omega
        rcases this with q | q | q <;> rw [q] <;> decide
      rw [z, Nat.zero_testBit] at b1
      exact absurd b1 (by decide)
    rw [ov, Option.bind_some, b_and, if_neg nz]
    exact ev_some ⟨rfl, k1⟩
  · unfold c_X12_fillsBuy
    refine ex_set (fun h1 e1 => ?_)
    refine ex_set (fun h2 e2 => ?_)
    have k2 : KP SR hr h2 := by rw [e2, e1]; exact (KP.setI (fun z => by unfold SR at z; omega)).trans (KP.setI (fun z => by unfold SR at z; omega))
    have C2 := C.fr (Nat.le_refl m) KP.rfl k2
    have come : c_X12_areToCome (nI S) h2 = some 0 := by
      unfold c_X12_areToCome
      rw [nm_eq, for_any0 (K := some 1) (E := some 0) (fun d => S.testBit d && decide (σ.out d ≠ 0)) (N := T.dut) (by omega) (fun REC d hd => ?_) (fun REC => ?_)]
      · rw [if_pos (anyX_0.mpr ⟨x, xd, by rw [hb]; simp [ho]⟩)]
      · unfold c_X12_areToCome_L2b
        have o3 := C0.swf.out d (by omega)
        have g13 : h2.1 43 (13 + d) = nI (σ.out d) := C2.cor.sr.out0 (by omega)
        rw [C2.cor.live, live_gd C0.s2, nI_clamp (n := s) (by have := C0.s2; omega), C2.cor.xr.dut, if_neg (nI_ge hd (by omega)), b_get o.lt5 (by omega), if_1i, nI_a13, gdI (k := 13 + d) (by omega) (by omega), nI_clamp (n := 13 + d) (by omega), g13, ite_cg (show nI (σ.out d) = 0 ↔ σ.out d = 0 from nI_eq (b := 0) (by omega) (by omega)), nm_eq, nI_1]
        by_cases q1 : S.testBit d = true
        · rw [if_pos q1]
          by_cases q2 : σ.out d = 0
          · rw [if_pos q2, if_neg (by simp [q2])]
          · rw [if_neg q2, if_pos (by simp [q1, q2])]
        · rw [if_neg q1, if_neg (by simp [q1])]
      · unfold c_X12_areToCome_L2b
        rw [C2.cor.live, live_gd C0.s2, nI_clamp (n := s) (by have := C0.s2; omega), C2.cor.xr.dut, if_pos (nI_le (by omega) (by omega))]
    rw [come, Option.bind_some, if_pos rfl]
    exact ex_some ⟨by rw [e2, setI_ne (by omega), e1, setI_eq], by rw [e2, setI_eq], k2⟩
/-- both sides, whether each of the set is yet to come or not -/
theorem buy_both {m : Nat} {T : TX} {σ : ST} {s t S n : Nat} {Lp Lw : LawT} {hc hr : PH} (C : CL m T σ s t Lp Lw hc hr) (hm : m < 600) (o : SetB T S n) (p : Int32) : ∃ (f : Int32 × Nat) (v : Int32) (hc' hr' : PH), c_X7_find 219 217 t 78 (nI S) p hc = some (v, hc') ∧ c_X12_fillsBuy (nI S) p hr = some hr' ∧ v = (if f.1 = -2 then 0 else 1) ∧ (f.1 ≠ -2 → hc'.1 219 5 = nI n ∧ hc'.1 219 6 = f.1 ∧ ∀ k, k < n → hc'.1 226 k = nI (dig f.2 n k)) ∧ hr'.1 0 65 = f.1 ∧ (f.1 = -2 → hr'.1 0 66 = -2) ∧ (f.1 ≠ -2 → hr'.1 0 66 = nI f.2 ∧ f.2 < 7 ^ n) ∧ KP (SC t) hc hc' ∧ KP SR hr hr' := by
  by_cases q : ∃ x, S.testBit x = true ∧ σ.out x ≠ 0
  · obtain ⟨x, hb, ho⟩ := q
    obtain ⟨⟨v, hc', e1, e2, k1⟩, hr', e3, e4, e5, k2⟩ := no_come (p := p) C o hb ho
    exact ⟨(-2, 0), v, hc', hr', e1, e3, by rw [e2, if_pos rfl], fun z => absurd rfl z, e4, fun _ => e5, fun z => absurd rfl z, k1, k2⟩
  · have o2 : SetOK T σ S n := SetOK.mk o.lt o.lt5 o.cn o.n3 o.n1 o.rkn o.bit (fun x hb => by
      by_cases z : σ.out x = 0
      · exact z
      · exact absurd ⟨x, hb, z⟩ q)
    obtain ⟨v, hc', e1, e2, e3, e4, e5, k1⟩ := findC (p := p) C hm o2
    obtain ⟨hr', f1, f2, f3, f4, k2⟩ := buyR (p := p) C hm o2
    have eq : forS (rowG T σ Lp Lw p S n (Ls T S T.dut)) (7 ^ n) (-2, 0) = foldC T σ Lp Lw p S n (T.exc ^ n) := rows_eq C.cor.twf o.n3 _
    have fc := fold_cases (σ := σ) (Lp := Lp) (Lw := Lw) (p := p) (S := S) (L := Ls T S T.dut) C.cor.twf o.n3 (fun r => r) (7 ^ n) (fun j hj => hj)
    have fc : (forS (rowG T σ Lp Lw p S n (Ls T S T.dut)) (7 ^ n) (-2, 0)).1 = -2 ∨ ∃ m, m ≤ 300 ∧ (forS (rowG T σ Lp Lw p S n (Ls T S T.dut)) (7 ^ n) (-2, 0)).1 = nI m ∧ (forS (rowG T σ Lp Lw p S n (Ls T S T.dut)) (7 ^ n) (-2, 0)).2 < 7 ^ n := fc
    rw [eq] at f2 f3 f4 fc
    refine ⟨foldC T σ Lp Lw p S n (T.exc ^ n), v, hc', hr', e1, f1, e2, fun z => ⟨e3, e4, e5 z⟩, f2, f3, fun z => ⟨f4 z, ?_⟩, k1, k2⟩
    rcases fc with y | ⟨_, _, _, y⟩
    · exact absurd y z
    · exact y
theorem cheapest_ok {n : Nat} {T : TX} {σ : ST} {s t : Nat} {Lp Lw : LawT} {hc hr : PH} (C : CL n T σ s t Lp Lw hc hr) (hn : n < 600) (a1 a2 : Int32) : ∃ (v : Int32) (hc' hr' : PH), c_X11_cheapest a1 a2 hc = some (v, hc') ∧ c_X12_cheapest a1 a2 hr = some (v, hr') ∧ KP (SC t) hc hc' ∧ KP SR hr hr' := by
  have C0 := C.cor
  unfold c_X11_cheapest c_X12_cheapest
  rcases set_cases C a1 a2 with ⟨S, k, rfl, o, e1, e2⟩ | ⟨e1, e2⟩
  · obtain ⟨f, v, hc', hr', g1, g2, g3, g4, g5, _, _, k1, k2⟩ := buy_both C hn o a2
    rw [e1, e2, Option.bind_some, Option.bind_some, if_neg (show ¬ (1 : Int32) = 0 by decide), if_neg (show ¬ (1 : Int32) = 0 by decide), nm_eq, C0.txt, gdT C0.t2, g1, g2, Option.bind_some, g5]
    show ∃ v' hc'' hr'', (if v = 0 then some (-2, hc') else some (hc'.1 219 6, hc')) = _ ∧ _
    rw [g3]
    by_cases q : f.1 = -2
    · rw [if_pos q, if_pos rfl, q]; exact ⟨-2, hc', hr', rfl, rfl, k1, k2⟩
    · rw [if_neg q, if_neg (show ¬ (1 : Int32) = 0 by decide), (g4 q).2.1]; exact ⟨f.1, hc', hr', rfl, rfl, k1, k2⟩
  · rw [e1, e2]
    exact ⟨-1, hc, hr, rfl, rfl, KP.rfl, KP.rfl⟩
theorem cheapestAt_ok {n : Nat} {T : TX} {σ : ST} {s t : Nat} {Lp Lw : LawT} {hc hr : PH} (C : CL n T σ s t Lp Lw hc hr) (hn : n < 600) (a1 a2 a3 : Int32) : ∃ (v : Int32) (hc' hr' : PH), c_X11_cheapestAt a1 a2 a3 hc = some (v, hc') ∧ c_X12_cheapestAt a1 a2 a3 hr = some (v, hr') ∧ KP (SC t) hc hc' ∧ KP SR hr hr' := by
  have C0 := C.cor
  unfold c_X11_cheapestAt c_X12_cheapestAt
  rcases set_cases C a1 a2 with ⟨S, k, rfl, o, e1, e2⟩ | ⟨e1, e2⟩
  · have k3 := o.n3; have k0 := o.n1
    have hbc : c_J6_bitCount_0f7a4 (nI S) = some (nI k) := by
      rw [bc o.lt5]; show some (nI (cn9 S)) = _; rw [o.cn]
    have hbi : c_X12_bits (nI S) = some (nI k) := by
      rw [bits_ok o.lt5]; show some (nI (cn9 S)) = _; rw [o.cn]
    have km : nI k - 1 = nI (k - 1) := by
      have := nI_pred (k - 1)
      rwa [show k - 1 + 1 = k by omega] at this
    rw [e1, e2, Option.bind_some, Option.bind_some, if_neg (show ¬ (1 : Int32) = 0 by decide), if_neg (show ¬ (1 : Int32) = 0 by decide), hbc, hbi, Option.bind_some, Option.bind_some, X12_in, Option.bind_some, if10, km]
    by_cases q1 : a3 < 0
    · rw [if_pos q1, if_neg (fun z => absurd z.1 (Int32.not_le.mpr q1))]; exact ⟨-1, hc, hr, rfl, rfl, KP.rfl, KP.rfl⟩
    rw [if_neg q1]
    obtain ⟨i, hi, rfl⟩ := nI_of q1
    rw [ite_cg (nI_ltI (a := i) (b := k) hi (by omega)), ite_cg (show (0 ≤ nI i ∧ nI i ≤ nI (k - 1)) ↔ i < k from ⟨fun z => by have := (nI_leI hi (by omega)).mp z.2; omega, fun z => ⟨nI_pos' hi, nI_le (by omega) (by omega)⟩⟩)]
    by_cases q2 : i < k
    · obtain ⟨f, v, hc', hr', g1, g2, g3, g4, g5, g6, g7, k1, k2⟩ := buy_both C hn o a2
      rw [if_pos q2, if_pos q2, nm_eq, C0.txt, gdT C0.t2, g1, g2, Option.bind_some, Option.bind_some]
      show ∃ v' hc'' hr'', (if v = 0 then some (-2, hc') else (c_X7_bestAt 219 (nI i) hc').bind fun r6 => some (r6, hc')) = _ ∧ _
      rw [g3]
      by_cases q : f.1 = -2
      · rw [if_pos q, if_pos rfl, g6 q, if_neg (show ¬ (0 : Int32) ≤ -2 by decide)]; exact ⟨-2, hc', hr', rfl, rfl, k1, k2⟩
      · obtain ⟨b1, b2, b3⟩ := g4 q
        obtain ⟨b4, b5⟩ := g7 q
        have p := p7 k3
        have pp := p7 (show k - 1 - i ≤ 3 by omega); have p0 := p7_pos (k - 1 - i)
        have b3 : hc'.1 (219 + 7) i = nI (dig f.2 k i) := b3 i q2
        rw [if_neg q, if_neg (show ¬ (1 : Int32) = 0 by decide), b4, if_pos (nI_pos' (by omega)), sub1k q2, sev_ok (by omega), Option.bind_some, if_neg (nI_ne0 p0 (by omega)), pk_div (by omega) p0 (by omega), show (7 : Int32) = nI 7 from rfl, jrem_nI (Nat.lt_of_le_of_lt (Nat.div_le_self _ _) (by omega)) (by omega) (by omega)]
        unfold c_X7_bestAt
        rw [if_neg (nI_pos (by omega)), b1, if_neg (nI_ge q2 (by omega)), gdI (k := i) (by omega) (by omega), nI_clamp (n := i) (by omega), b3, Option.bind_some]
        exact ⟨nI (dig f.2 k i), hc', hr', rfl, rfl, k1, k2⟩
    · rw [if_neg q2, if_neg q2]; exact ⟨-1, hc, hr, rfl, rfl, KP.rfl, KP.rfl⟩
  · rw [e1, e2]
    exact ⟨-1, hc, hr, rfl, rfl, KP.rfl, KP.rfl⟩
