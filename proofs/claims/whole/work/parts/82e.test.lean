theorem or_e128 {m e : Nat} (hm : m < 128) (he : e < 7) : m ||| 2 ^ e < 128 := by
  have p1 : 2 ^ e < 2 ^ 7 := Nat.pow_lt_pow_right (by omega) (by omega)
  exact Nat.or_lt_two_pow (n := 7) hm p1
/-- one more excuse of a test, on both sides -/
theorem test_mid {ρ τ : Type} {K N p : Nat} {bs : Nat → Nat} {hc9 hr6 : PH} {v v' : Int32} {m1 m2 lim : Nat} (pt : PT K bs N hc9 hr6) (rs : RS K bs N (p + 1) hc9 hr6) (hp : p < N) (hl : lim ≤ 7) (h1 : m1 < 128) (h2 : m2 < 128) (hv : v = -1 ∨ ∃ n, n < lim ∧ v = nI n) (hv' : v' = -1 ∨ ∃ n, n < lim ∧ v' = nI n) (hru : RU K bs p hc9 hr6 ∨ (v = -1 ∧ v' = -1)) (hs : hc9.1 2 5 = 0 → m1 = m2 ∧ ∃ n, n < lim ∧ v = nI n ∧ v' = nI n) (K1 : Int32 → PH → Option ρ) (R1 : Int32 → Int32 → PH → Option ρ) (R2 : Int32 → PH → Option τ) (x : Int32) : ∃ hcF hrF n1 n2, n1 < 128 ∧ n2 < 128 ∧ (if v = -1 then c_X4_tellTest_j81 2 K1 R1 (nI m1) x v hc9 else if ((nI m1 >>> (v &&& 31)) &&& 1) = 0 then c_X4_tellTest_j81 2 K1 R1 (nI m1) x v hc9 else (c_X4_complain 2 3 (nI (tS K bs p)) hc9).bind fun h17 => c_X4_tellTest_j81 2 K1 R1 (nI m1) x v h17) = R1 (nI n1) (x + 1) hcF ∧ (if 0 ≤ v' then if ((nI m2 >>> (v' &&& 31)) &&& 1) = 1 then (c_X12_wrong 3 (nI p) hr6).bind fun h11 => nm (nI m2 ||| ((1 : Int32) <<< (v' &&& 31))) fun v12 => R2 v12 h11 else nm (nI m2 ||| ((1 : Int32) <<< (v' &&& 31))) fun v10 => R2 v10 hr6 else R2 (nI m2) hr6) = R2 (nI n2) hrF ∧ KP (fun p k => ¬ (p = 2 ∧ (k = 5 ∨ k = 6))) hc9 hcF ∧ KP (fun p k => ¬ (p = 0 ∧ (k = 15 ∨ k = 16))) hr6 hrF ∧ RS K bs N (p + 1) hcF hrF ∧ (hcF.1 2 5 = 0 → hc9.1 2 5 = 0 ∧ n1 = n2) := by
  have hN := pt.2.1.1
  have ck := cmpC_k (nI 3) (nI (tS K bs p)) hc9
  have rk := cmpR_k (nI 3) (nI (tS K bs p)) hr6
  -- the class
  have eC : ∃ (bC : Bool) (n1 : Nat), n1 < 128 ∧ (if v = -1 then c_X4_tellTest_j81 2 K1 R1 (nI m1) x v hc9 else if ((nI m1 >>> (v &&& 31)) &&& 1) = 0 then c_X4_tellTest_j81 2 K1 R1 (nI m1) x v hc9 else (c_X4_complain 2 3 (nI (tS K bs p)) hc9).bind fun h17 => c_X4_tellTest_j81 2 K1 R1 (nI m1) x v h17) = R1 (nI n1) (x + 1) (if bC = true then cmpC (nI 3) (nI (tS K bs p)) hc9 else hc9) ∧ (v = -1 → bC = false ∧ n1 = m1) ∧ ∀ n, n < lim → v = nI n → bC = m1.testBit n ∧ n1 = m1 ||| 2 ^ n := by
    rcases hv with e | ⟨n, hn, e⟩
    · refine ⟨false, m1, h1, ?_, fun _ => ⟨rfl, rfl⟩, fun n hn z => absurd (z.symm.trans e) (m1_ne n (by omega))⟩
      unfold c_X4_tellTest_j81
      rw [if_pos e, if_pos e, nm_eq, nm_eq, if_neg (show ¬ false = true by decide), show (nI m1 ||| 0) = nI m1 from by rw [← nI_0, b_or, Nat.or_zero]]
    · refine ⟨m1.testBit n, m1 ||| 2 ^ n, or_e128 h1 (by omega), ?_, fun z => absurd (e.symm.trans z) (m1_ne n (by omega)), fun j hj z => by
        have := (nI_eq (a := n) (b := j) (by omega) (by omega)).mp (e.symm.trans z)
        rw [this]; exact ⟨rfl, rfl⟩⟩
      unfold c_X4_tellTest_j81
      rw [e, if_neg (m1_ne n (by omega)), if_neg (m1_ne n (by omega)), b_get (by omega) (by omega), b_shl (by omega), b_or, nm_eq, nm_eq, show (3 : Int32) = nI 3 from rfl, complC, Option.bind_some, if_neg (m1_ne n (by omega)), nm_eq, nm_eq]
      cases m1.testBit n with
      | true => rw [if_pos rfl, if_neg (show ¬ (1 : Int32) = 0 by decide), if_pos rfl]
      | false => rw [if_neg (show ¬ false = true by decide), if_pos (Eq.refl (0 : Int32)), if_neg (show ¬ false = true by decide)]
  obtain ⟨bC, n1, l1, eC, cC1, cC2⟩ := eC
  have kcF : KP (fun p k => ¬ (p = 2 ∧ (k = 5 ∨ k = 6))) hc9 (if bC = true then cmpC (nI 3) (nI (tS K bs p)) hc9 else hc9) := by
    by_cases z : bC = true
    · rw [if_pos z]; exact ck
    · rw [if_neg z]; exact KP.rfl
  have fin : ∀ (bR : Bool) (n2 : Nat), n2 < 128 → (if 0 ≤ v' then if ((nI m2 >>> (v' &&& 31)) &&& 1) = 1 then (c_X12_wrong 3 (nI p) hr6).bind fun h11 => nm (nI m2 ||| ((1 : Int32) <<< (v' &&& 31))) fun v12 => R2 v12 h11 else nm (nI m2 ||| ((1 : Int32) <<< (v' &&& 31))) fun v10 => R2 v10 hr6 else R2 (nI m2) hr6) = R2 (nI n2) (if bR = true then cmpR (nI 3) (nI (tS K bs p)) hr6 else hr6) → RU K bs (p + 1) (if bC = true then cmpC (nI 3) (nI (tS K bs p)) hc9 else hc9) (if bR = true then cmpR (nI 3) (nI (tS K bs p)) hr6 else hr6) → ((if bC = true then cmpC (nI 3) (nI (tS K bs p)) hc9 else hc9).1 2 5 = 0 → hc9.1 2 5 = 0 ∧ n1 = n2) → ∃ hcF hrF n1 n2, n1 < 128 ∧ n2 < 128 ∧ (if v = -1 then c_X4_tellTest_j81 2 K1 R1 (nI m1) x v hc9 else if ((nI m1 >>> (v &&& 31)) &&& 1) = 0 then c_X4_tellTest_j81 2 K1 R1 (nI m1) x v hc9 else (c_X4_complain 2 3 (nI (tS K bs p)) hc9).bind fun h17 => c_X4_tellTest_j81 2 K1 R1 (nI m1) x v h17) = R1 (nI n1) (x + 1) hcF ∧ (if 0 ≤ v' then if ((nI m2 >>> (v' &&& 31)) &&& 1) = 1 then (c_X12_wrong 3 (nI p) hr6).bind fun h11 => nm (nI m2 ||| ((1 : Int32) <<< (v' &&& 31))) fun v12 => R2 v12 h11 else nm (nI m2 ||| ((1 : Int32) <<< (v' &&& 31))) fun v10 => R2 v10 hr6 else R2 (nI m2) hr6) = R2 (nI n2) hrF ∧ KP (fun p k => ¬ (p = 2 ∧ (k = 5 ∨ k = 6))) hc9 hcF ∧ KP (fun p k => ¬ (p = 0 ∧ (k = 15 ∨ k = 16))) hr6 hrF ∧ RS K bs N (p + 1) hcF hrF ∧ (hcF.1 2 5 = 0 → hc9.1 2 5 = 0 ∧ n1 = n2) := fun bR n2 a1 a2 a3 a4 => by
    have krF : KP (fun p k => ¬ (p = 0 ∧ (k = 15 ∨ k = 16))) hr6 (if bR = true then cmpR (nI 3) (nI (tS K bs p)) hr6 else hr6) := by
      by_cases z : bR = true
      · rw [if_pos z]; exact rk
      · rw [if_neg z]; exact KP.rfl
    exact ⟨_, _, n1, n2, l1, a1, eC, a2, kcF, krF, ⟨(kcF.i (by omega)).trans rs.1, (krF.i (by omega)).trans rs.2.1, (kcF.i (by omega)).trans rs.2.2.1, (krF.i (by omega)).trans rs.2.2.2.1, rs.2.2.2.2.1, a3⟩, a4⟩
  rcases hru with ru | ⟨x1, x2⟩
  · have wr := wrongC (f := 3) pt.2.1 pt.1 hp (pt.2.2 p hp).2 rs.2.1 ru
    have eR : ∃ (bR : Bool) (n2 : Nat), n2 < 128 ∧ (if 0 ≤ v' then if ((nI m2 >>> (v' &&& 31)) &&& 1) = 1 then (c_X12_wrong 3 (nI p) hr6).bind fun h11 => nm (nI m2 ||| ((1 : Int32) <<< (v' &&& 31))) fun v12 => R2 v12 h11 else nm (nI m2 ||| ((1 : Int32) <<< (v' &&& 31))) fun v10 => R2 v10 hr6 else R2 (nI m2) hr6) = R2 (nI n2) (if bR = true then cmpR (nI 3) (nI (tS K bs p)) hr6 else hr6) ∧ ∀ n, n < lim → v' = nI n → bR = m2.testBit n ∧ n2 = m2 ||| 2 ^ n := by
      rcases hv' with e | ⟨n, hn, e⟩
      · refine ⟨false, m2, h2, ?_, fun n hn z => absurd (z.symm.trans e) (m1_ne n (by omega))⟩
        rw [if_neg (show ¬ (0 : Int32) ≤ v' by rw [e]; decide), if_neg (show ¬ false = true by decide)]
      · refine ⟨m2.testBit n, m2 ||| 2 ^ n, or_e128 h2 (by omega), ?_, fun j hj z => by
          have := (nI_eq (a := n) (b := j) (by omega) (by omega)).mp (e.symm.trans z)
          rw [this]; exact ⟨rfl, rfl⟩⟩
        rw [e, if_pos (nI_pos' (by omega)), b_get (by omega) (by omega), b_shl (by omega), b_or, show (3 : Int32) = nI 3 from rfl, wr, Option.bind_some, nm_eq, nm_eq]
        cases m2.testBit n with
        | true => rw [if_pos rfl, if_pos (Eq.refl (1 : Int32)), if_pos rfl]
        | false => rw [if_neg (show ¬ false = true by decide), if_neg (show ¬ (0 : Int32) = 1 by decide), if_neg (show ¬ false = true by decide)]
    obtain ⟨bR, n2, l2, eR, cR⟩ := eR
    by_cases u : hc9.1 2 5 = 0
    · obtain ⟨em, n, hn, y1, y2⟩ := hs u
      obtain ⟨z1, z2⟩ := cC2 n hn y1
      obtain ⟨z3, z4⟩ := cR n hn y2
      have bb : bC = bR := by rw [z1, z3, em]
      refine fin bR n2 l2 eR ?_ (fun _ => ⟨u, by rw [z2, z4, em]⟩)
      rw [bb]
      by_cases z : bR = true
      · rw [if_pos z, if_pos z]; exact RU_cmp (by omega) (by omega) ru
      · rw [if_neg z, if_neg z]; exact ru.le (by omega)
    · refine fin bR n2 l2 eR ?_ (fun z => ?_)
      · rw [cmpC_no u, cmpR_no (RU_nz ru u)]
        have i1 : (if bC = true then hc9 else hc9) = hc9 := by by_cases z : bC = true <;> simp [z]
        have i2 : (if bR = true then hr6 else hr6) = hr6 := by by_cases z : bR = true <;> simp [z]
        rw [i1, i2]; exact ru.le (by omega)
      · rw [cmpC_no u] at z
        have i1 : (if bC = true then hc9 else hc9) = hc9 := by by_cases z : bC = true <;> simp [z]
        rw [i1] at z; exact absurd z u
  · obtain ⟨z1, z2⟩ := cC1 x1
    refine fin false m2 h2 ?_ ?_ (fun z => ?_)
    · rw [if_neg (show ¬ (0 : Int32) ≤ v' by rw [x2]; decide), if_neg (show ¬ false = true by decide)]
    · rw [z1, if_neg (show ¬ false = true by decide), if_neg (show ¬ false = true by decide)]; exact rs.2.2.2.2.2
    · rw [z1, if_neg (show ¬ false = true by decide)] at z
      obtain ⟨em, n, hn, y1, _⟩ := hs z
      exact absurd (y1.symm.trans x1) (m1_ne n (by omega))
theorem testLoop {ρ τ : Type} {K N t c m e c2 m2' e2 : Nat} {bs : Nat → Nat} {L L2 : Nat → List Nat} {so nu so2 nu2 : Nat → Nat} {z : Int32} {K1 : Int32 → PH → Option ρ} {K2 : Int32 → PH → Option τ} (nw : NW c L so nu m e) (nw2 : NW c2 L2 so2 nu2 m2' e2) (ht : t = 8 ∨ t = 43) (he : e ≤ 7) (he2 : e2 = e) : ∀ (n F G q j m1 m2 : Nat) (hc hr : PH), n + 2 ≤ F → n + 2 ≤ G → N ≤ q + n → j ≤ q → PT K bs N hc hr → WP K bs N q hc hr → NC t c L so nu hc → NR c2 L2 so2 nu2 hr → hc.2.2 2 1 = t → m1 < 128 → m2 < 128 → (hr.1 0 13 = 0 → hc.1 2 5 = 0 → m1 = m2) → (hc.1 2 5 = 0 → hr.1 0 13 = 0 → ∀ l, tvC L so nu c 1 l = tvR L2 so2 nu2 c2 1 l) → ∃ hc' hr' q' n1 n2, lq3 (c_X4_tellTest_L32b 2 K1) F (nI m1) (nI j) hc = K1 (nI n1) hc' ∧ lq2 (c_X12_tellTest_L7b z K2) G (nI m2) hr = K2 (nI n2) hr' ∧ KP GC hc hc' ∧ KP GR hr hr' ∧ PT K bs N hc' hr' ∧ q ≤ q' ∧ WP K bs N q' hc' hr' ∧ n1 < 128 ∧ n2 < 128 ∧ (hr'.1 0 13 = 0 → hr.1 0 13 = 0 ∧ (hc'.1 2 5 = 0 → hc.1 2 5 = 0 ∧ n1 = n2)) := by
  intro n
  induction n with
  | zero =>
    intro F G q j m1 m2 hc hr hF hG hq hj pt w nc nr ho h1 h2 hs hd
    rcases w with rs | bk
    · exact absurd rs.2.2.2.2.1 (by omega)
    · obtain ⟨F', rfl⟩ : ∃ F', F = F' + 1 := ⟨F - 1, by omega⟩
      obtain ⟨G', rfl⟩ : ∃ G', G = G' + 1 := ⟨G - 1, by omega⟩
      refine ⟨hc, hr, q, m1, m2, ?_, ?_, KP.rfl, KP.rfl, pt, Nat.le_refl _, Or.inr bk, h1, h2, fun z => absurd z bk.nr⟩
      · rw [lq3_s]; unfold c_X4_tellTest_L32b
        rw [bk.kind, Option.bind_some, if_neg (show ¬ (1 : Int32) = 2 by decide)]
        by_cases y : (400 : Int32) < nI j
        · rw [if_pos y]
        · rw [if_neg y]
      · rw [lq2_s]; unfold c_X12_tellTest_L7b
        rw [if_neg bk.nr]
  | succ n ih =>
    intro F G q j m1 m2 hc hr hF hG hq hj pt w nc nr ho h1 h2 hs hd
    have hN := pt.2.1.1
    obtain ⟨F', rfl⟩ : ∃ F', F = F' + 1 := ⟨F - 1, by omega⟩
    obtain ⟨G', rfl⟩ : ∃ G', G = G' + 1 := ⟨G - 1, by omega⟩
    rw [lq3_s, lq2_s]
    rcases w with rs | bk
    · have h5 := rs.2.2.2.2.1
      have kl : tK K bs q < 128 := tkind_lt K bs (tS K bs q)
      by_cases tk : tK K bs q = 2
      · obtain ⟨v, hc9, v', hr6, e1, e2', kc9, kr6, pt9, w9, vv, vv', f9⟩ := known2g (s := 1) (lim := e) pt (Or.inl rs) nc nr nw nw2 (fun z => hd z rs.2.1) ht ho (by omega) (fun i hi z => (nw.2 i hi).2.2.2.2 z) (fun i hi z => by have := (nw2.2 i hi).2.2.2.2 z; omega) (by omega) (a1 := 65) (a2 := 1) rfl rfl
        have ih1 := fun m1 m2 hc hr => ih F' G' (q + 1) (j + 1) m1 m2 hc hr (by omega) (by omega) (by omega) (by omega)
        generalize lq3 (c_X4_tellTest_L32b 2 K1) F' = REC at ih1
        generalize lq2 (c_X12_tellTest_L7b z K2) G' = REC2 at ih1
        unfold c_X4_tellTest_L32b c_X12_tellTest_L7b
        rw [if_neg (show ¬ (400 : Int32) < nI j from Int32.not_lt.mpr (nI_le (b := 400) (by omega) (by omega))), rs.kind pt, Option.bind_some, tk, if_pos (show nI 2 = (2 : Int32) from rfl), rs.placeC pt, Option.bind_some, nm_eq (nI (tS K bs q)), e1, b2_some, nm_eq v, if_pos rs.2.1, rs.is pt (k := 2) (by omega) rfl (c := 1) rfl, Option.bind_some, tk, if_pos (Eq.refl 2), if_neg (show ¬ (1 : Int32) = 0 by decide), rs.2.2.2.1, nm_eq (nI q), e2', b2_some, nm_eq v']
        have nc9 : NC t c L so nu hc9 := nc.fr (kc9.mono (fun p k z => by unfold FNc at z; unfold GC; omega))
        have nr6 : NR c2 L2 so2 nu2 hr6 := nr.fr (kr6.mono (fun p k z => by unfold FNr at z; unfold GR; omega))
        have ho9 : hc9.2.2 2 1 = t := (kc9.r (by unfold GC; omega)).trans ho
        rcases w9 with rs9 | bk
        · obtain ⟨_, _, ru9, y9⟩ := f9 rs9.2.1
          rw [rs9.2.1, if_neg (show ¬ (0 : Int32) < 0 by decide)]
          obtain ⟨hcF, hrF, n1, n2, l1, l2, eF, eG, kcF, krF, rsF, sF⟩ := test_mid (m1 := m1) (m2 := m2) (lim := e) pt9 rs9 h5 he h1 h2 vv vv' ru9 (fun z => ⟨hs rs.2.1 (y9 z).1, (y9 z).2⟩) K1 REC REC2 (nI j)
          rw [eF, eG, nI_1]
          have kcG : KP GC hc9 hcF := kcF.mono (fun p k z => by unfold GC at z; omega)
          have krG : KP GR hr6 hrF := krF.mono (fun p k z => by unfold GR at z; omega)
          obtain ⟨hc', hr', q', k1, k2, g1, g2, g3, g4, g5, g6, g7, g8, g9, g10⟩ := ih1 n1 n2 hcF hrF (pt9.fr2 (kcF.mono (fun p k z => by omega)) (krF.mono (fun p k z => by omega))) (Or.inl rsF) (nc9.fr (kcF.mono (fun p k z => by unfold FNc at z; omega))) (nr6.fr (krF.mono (fun p k z => by unfold FNr at z; omega))) ((kcF.r (by omega)).trans ho9) l1 l2 (fun _ z => (sF z).2) (fun z _ => hd (y9 (sF z).1).1 rs.2.1)
          refine ⟨hc', hr', q', k1, k2, g1, g2, (kc9.trans kcG).trans g3, (kr6.trans krG).trans g4, g5, by omega, g7, g8, g9, fun z => ⟨rs.2.1, fun y => ?_⟩⟩
          obtain ⟨_, x2⟩ := g10 z
          obtain ⟨x3, x4⟩ := x2 y
          exact ⟨(y9 (sF x3).1).1, x4⟩
        · rw [if_pos bk.gt]
          have ck := cmpC_k (nI 3) (nI (tS K bs q)) hc9
          have hcX : ∃ (m1' : Nat) (hX : PH), m1' < 128 ∧ (if v = -1 then c_X4_tellTest_j81 2 K1 REC (nI m1) (nI j) v hc9 else if ((nI m1 >>> (v &&& 31)) &&& 1) = 0 then c_X4_tellTest_j81 2 K1 REC (nI m1) (nI j) v hc9 else (c_X4_complain 2 3 (nI (tS K bs q)) hc9).bind fun h17 => c_X4_tellTest_j81 2 K1 REC (nI m1) (nI j) v h17) = REC (nI m1') (nI (j + 1)) hX ∧ KP (fun p k => ¬ (p = 2 ∧ (k = 5 ∨ k = 6))) hc9 hX := by
            unfold c_X4_tellTest_j81
            rcases vv with vm | ⟨n', hn', vm⟩
            · refine ⟨m1, hc9, h1, ?_, KP.rfl⟩
              rw [if_pos vm, if_pos vm, nm_eq, nm_eq, show (nI m1 ||| 0) = nI m1 from by rw [← nI_0, b_or, Nat.or_zero], nI_1]
            · rw [vm, if_neg (m1_ne n' (by omega)), if_neg (m1_ne n' (by omega)), b_shl (by omega), b_or, nm_eq, nm_eq, show (3 : Int32) = nI 3 from rfl, complC, Option.bind_some, if_neg (m1_ne n' (by omega)), nm_eq, nm_eq, nI_1]
              by_cases y : ((nI m1 >>> (nI n' &&& 31)) &&& 1) = 0
              · rw [if_pos y]; exact ⟨_, hc9, or_e128 h1 (by omega), rfl, KP.rfl⟩
              · rw [if_neg y]; exact ⟨_, _, or_e128 h1 (by omega), rfl, ck⟩
          obtain ⟨m1', hX, l1, eX, kX⟩ := hcX
          rw [eX]
          have bkX : BK hX hr6 := by
            obtain ⟨b, q', x1, x2, x3, x4, x5, x6, x7⟩ := bk
            exact ⟨b, q', x1, x2, x3, (kX.i (by omega)).trans x4, x5, (kX.i (by omega)).trans x6, (kX.i (by omega)).trans x7⟩
          obtain ⟨hc', hr', q', k1, k2, g1, g2, g3, g4, g5, g6, g7, g8, g9, g10⟩ := ih1 m1' m2 hX hr6 (pt9.fr2 (kX.mono (fun p k z => by omega)) KP.rfl) (Or.inr bkX) (nc9.fr (kX.mono (fun p k z => by unfold FNc at z; omega))) nr6 ((kX.r (by omega)).trans ho9) l1 h2 (fun z => absurd z bk.nr) (fun _ z => absurd z bk.nr)
          exact ⟨hc', hr', q', k1, k2, g1, g2, (kc9.trans (kX.mono (fun p k z => by unfold GC at z; omega))).trans g3, kr6.trans g4, g5, by omega, g7, g8, g9, fun z => absurd (g10 z).1 bk.nr⟩
      · unfold c_X4_tellTest_L32b c_X12_tellTest_L7b
        rw [if_neg (show ¬ (400 : Int32) < nI j from Int32.not_lt.mpr (nI_le (b := 400) (by omega) (by omega))), rs.kind pt, Option.bind_some, if_neg (show ¬ nI (tK K bs q) = 2 from fun z => tk ((nI_lit (by omega) 2 (by omega) rfl).mp z)), if_pos rs.2.1, rs.is pt (k := 2) (by omega) rfl (c := 1) rfl, Option.bind_some, if_neg tk, if_pos (Eq.refl (0 : Int32))]
        exact ⟨hc, hr, q, m1, m2, rfl, rfl, KP.rfl, KP.rfl, pt, Nat.le_refl _, Or.inl rs, h1, h2, fun _ => ⟨rs.2.1, fun z => ⟨z, hs rs.2.1 z⟩⟩⟩
    · refine ⟨hc, hr, q, m1, m2, ?_, ?_, KP.rfl, KP.rfl, pt, Nat.le_refl _, Or.inr bk, h1, h2, fun z => absurd z bk.nr⟩
      · unfold c_X4_tellTest_L32b
        rw [bk.kind, Option.bind_some, if_neg (show ¬ (1 : Int32) = 2 by decide)]
        by_cases y : (400 : Int32) < nI j
        · rw [if_pos y]
        · rw [if_neg y]
      · unfold c_X12_tellTest_L7b
        rw [if_neg bk.nr]
theorem addTstC {t m : Nat} {v : Int32} {h : PH} (ht : t = 8 ∨ t = 43) (hm : m < 6) (a : h.1 t 3 = nI m) : ∃ h', c_X9_addTest t v h = some h' ∧ h'.1 t 3 = nI (m + 1) ∧ h'.1 (t + 31) m = v ∧ KP (fun p k => ¬ (p = t ∧ k = 3) ∧ ¬ (p = t + 31 ∧ k = m)) h h' := by
  unfold c_X9_addTest
  have r1 : ∀ (g : PH) (j : Nat) (v : Int32), (setI g (t + 31) j v).1 t 3 = g.1 t 3 := fun g j v => setI_ne (by omega)
  rw [a, if_neg (show ¬ (6 : Int32) ≤ nI m from nI_ge (b := 6) hm (by omega)), gdI (k := m) (by omega) (by omega), nI_clamp (n := m) (by omega), nm_eq, r1, a, nI_1, nm_eq]
  exact ⟨_, rfl, setI_eq _ _ _ _, by rw [setI_ne (by omega), setI_eq], (KP.setI (fun z => z.2 ⟨rfl, rfl⟩)).trans (KP.setI (fun z => z.1 ⟨rfl, rfl⟩))⟩
theorem tst2 {K N p t s : Nat} {bs : Nat → Nat} {hc hr : PH} (pt : PT K bs N hc hr) (rs : RS K bs N p hc hr) (bd : BD t s p hc hr) (ht : t = 8 ∨ t = 43) (hs : s < 2) (q : tK K bs p = 68) : OUT K bs N t s p hc hr ((c_X4_tellTest 2 hc).bind fun h12 => c_X4_accept 2 59 h12) (c_X12_tellOne hr) := by
  obtain ⟨T, c, L, so, nu, b, k, al, sd⟩ := bd
  have hN := pt.2.1.1; have h5 := rs.2.2.2.2.1
  have b1 := al.men; have b2 := al.exc; have b3 := al.dut; have b4 := al.tst; have bc := al.cc
  unfold c_X4_tellTest c_X12_tellOne
  rw [(rs.kindR pt).1, (rs.kindR pt (α := PH) (o := none)).2, q, if_neg (show ¬ nI (kM 68) = (20 : Int32) by decide), if_neg (show ¬ nI (kM 68) = (21 : Int32) by decide), if_neg (show ¬ nI (kM 68) = (22 : Int32) by decide), if_neg (show ¬ nI (kM 68) = (23 : Int32) by decide), if_pos (show nI (kM 68) = (24 : Int32) from rfl), al.side, live_gd hs, nI_clamp (n := s) (by omega), al.rt, nm_eq, al.oth, gdT ht, al.ct]
  obtain ⟨hc1, hr1, e1, e2, kc1, kr1, pt1, h1⟩ := open2 (wd := 68) (most := 6) pt rs (by omega) (by omega) q al.tst (by omega) (a1 := 68) (a3 := 6) rfl rfl
  rw [e1, e2, Option.bind_some, Option.bind_some]
  have ho1 : hc1.2.2 2 1 = t := (kc1.r (by unfold GC; omega)).trans al.oth
  rw [nm_eq, ho1, gdT ht]
  have brkL : ∀ (h : PH) (g : PH) (K1 : Int32 → PH → Option PH), BK h g → lq3 (c_X4_tellTest_L32b 2 K1) fu 0 0 h = K1 0 h := fun h g K1 bk => by
    obtain ⟨f, hf⟩ : ∃ f, fu = f + 1 := ⟨8191, by unfold fu; omega⟩
    rw [hf, lq3_s]; unfold c_X4_tellTest_L32b
    rw [if_neg (show ¬ (400 : Int32) < 0 by decide), bk.kind, Option.bind_some, if_neg (show ¬ (1 : Int32) = 2 by decide)]
  rcases h1 with bk | ⟨rs1, lt, s51⟩
  · rw [bk.nn, Option.bind_some, nm_eq (0 : Int32), nm_eq (0 : Int32), brkL hc1 hr1 _ bk, if_neg bk.nc, Option.bind_some, bk.acc, if_neg bk.nr]
    exact ⟨_, _, rfl, rfl, kc1.mono (fun _ _ z => GC_fp z), kr1.mono (fun _ _ z => GR_fp z), pt1, Or.inl bk⟩
  have m1 : hc1.1 t 3 = nI T.tst := (kc1.i (by unfold GC; omega)).trans al.ct
  rw [m1, if_pos rs1.2.1]
  unfold c_X12_tellTest
  have nr1 : NR c L so nu hr1 := al.nr.fr (kr1.mono (fun p k z => by unfold FNr at z; unfold GR; omega))
  obtain ⟨hc4, v4, hr3, e3, e4, kc4, kr3, pt4, w4, f4⟩ := name2 (s := 4) (k := T.tst) pt1 (Or.inl rs1) (al.nc.fr (kc1.mono (fun p k z => by unfold FNc at z; unfold GC; omega))) nr1 al.nw ht ho1 (by omega) (a1 := 68) (a2 := nI T.tst) rfl rfl
  rw [e3, e4, Option.bind_some, b2_some, nm_eq v4, nm_eq (0 : Int32), nm_eq (0 : Int32), nm_eq (0 : Int32)]
  have kC4 : KP (GC2 t) hc hc4 := (kc1.mono (fun _ _ z => z.1)).trans kc4
  have kR3 : KP GR hr hr3 := kr1.trans kr3
  rcases w4 with rs4 | bk
  · obtain ⟨_, _, v4e, lp4, ol, nc4, d4⟩ := f4 rs4.2.1
    have nr3 : NR c L so nu hr3 := nr1.fr (kr3.mono (fun p k z => by unfold FNr at z; unfold GR; omega))
    have nw4 := al.nw.up (s := 4) (k := T.tst) (m' := T.men) (e' := T.exc) (by omega) ol (by omega) (by omega) (fun z => absurd z (by omega)) (fun z => absurd z (by omega)) (Nat.le_refl _) (Nat.le_refl _)
    have tl := fun (K1 : Int32 → PH → Option PH) (K2 : Int32 → PH → Option PH) => testLoop (K := K) (bs := bs) (N := N) (K1 := K1) (K2 := K2) (z := v4) nw4 al.nw ht b2 rfl 401 fu fu (p + 1 + 1) 0 0 0 hc4 hr3 (by unfold fu; omega) (by unfold fu; omega) (by omega) (by omega) pt4 (Or.inl rs4) nc4 nr3 ((kC4.r (by unfold GC2 GC FNc; omega)).trans al.oth) (by omega) (by omega) (fun _ _ => rfl) (fun z _ => by
      obtain ⟨y1, dn⟩ := d4 z
      obtain ⟨Lp, Lw, S⟩ := sd (s51.symm.trans y1)
      exact tv_up (by omega) (by omega) (S.dis.up dn))
    rw [nI_0] at tl
    obtain ⟨hc9, hr10, q', n1, n2, g1, g2, kc9, kr9, pt10, g6, w10, l1, l2, f10⟩ := tl (fun w18 h19 => if (h19.1 2 3) = 0 then nm (h19.2.2 2 1) fun t20 => gd (tOK t20) <| (c_X9_addTest t20 w18 h19).bind fun h21 => some h21 else some h19) (fun w13 h14 => c_X12_tellTest_j75 v4 w13 h14)
    rw [g1, g2]
    unfold c_X12_tellTest_j75
    have kC9 : KP (GC2 t) hc hc9 := kC4.trans (kc9.mono (fun _ _ z => z.1))
    have kR10 : KP GR hr hr10 := kR3.trans kr9
    rcases w10 with rs10 | bk
    · have ho9 : hc9.2.2 2 1 = t := (kC9.r (by unfold GC2 GC FNc; omega)).trans al.oth
      have m9 : hc9.1 t 3 = nI T.tst := (kC9.i (by unfold GC2 GC FNc; omega)).trans al.ct
      obtain ⟨hc12, e12, c0, c1, k12⟩ := addTstC (v := nI n1) ht lt m9
      rw [if_pos rs10.1, nm_eq (hc9.2.2 2 1), ho9, gdT ht, e12, Option.bind_some]
      have pt12 := pt10.fr2 (k12.mono (fun p k z => by omega)) KP.rfl
      have w12 : WP K bs N q' hc12 hr10 := Or.inl (rs10.fr (k12.mono (fun p k z => by unfold FWc at z; omega)) KP.rfl)
      obtain ⟨hc13, hr11, e13, e11, kc13, kr11, pt13, w13, f13⟩ := acc3 (k := 59) pt12 w12 (by omega) (by omega) rfl (c := 59) (c' := 4) rfl rfl
      show OUT K bs N t s p hc hr (c_X4_accept 2 59 hc12) _
      rw [e13, e11, Option.bind_some]
      have kC13 : KP (fun p k => GC2 t p k ∧ ¬ (p = t ∧ k = 3) ∧ ¬ (p = t + 31 ∧ k = T.tst)) hc hc13 := ((kC9.mono (fun _ _ z => z.1)).trans (k12.mono (fun _ _ z => z.2))).trans (kc13.mono (fun _ _ z => z.1.1))
      have kR11 : KP GR hr hr11 := kR10.trans kr11
      have fpC : KP (FPc t) hc hc13 := kC13.mono (fun p k z => by unfold FPc at z; unfold GC2 GC FNc; omega)
      rcases w13 with rs13 | bk
      · have sd11 : hr11.1 0 19 = nI s := (kR11.i (by unfold GR; omega)).trans al.side
        have rm11 : hr11.1 26 s = nI T.tst := (kR11.i (by unfold GR; omega)).trans al.rt
        obtain ⟨z10, t13, s13⟩ := f13 rs13.2.1
        obtain ⟨z3, g10⟩ := f10 z10
        rw [rs13.2.1, if_pos (show (0 : Int32) ≤ 0 by decide), sd11, live_gd hs, nI_clamp (n := s) (by omega), rm11, nI_mul6, nI_add, gdI (k := 6 * s + T.tst) (by omega) (by omega), nI_clamp (n := 6 * s + T.tst) (by omega)]
        obtain ⟨hr16, e16⟩ : ∃ x, x = setI hr11 27 (6 * s + T.tst) (nI n2) := ⟨_, rfl⟩
        rw [← e16, nm_eq hr16]
        have k16 : KP (fun p k => ¬ (p = 27 ∧ k = 6 * s + T.tst)) hr11 hr16 := by rw [e16]; exact KP.setI (fun z => z ⟨rfl, rfl⟩)
        have sd16 : hr16.1 0 19 = nI s := (k16.i (by omega)).trans sd11
        have rm16 : hr16.1 26 s = nI T.tst := (k16.i (by omega)).trans rm11
        have nr16 : NR c L so nu hr16 := (al.nr.fr (kR11.mono (fun p k z => by unfold FNr at z; unfold GR; omega))).fr (k16.mono (fun p k z => by unfold FNr at z; omega))
        have lp16 : hr16.2.1 6 (p + 1) = lN (vB 27 (LT K bs (p + 1))) := (((k16.j (by omega)).trans (kr11.j (by unfold GR; omega))).trans (kr9.j (by unfold GR; omega))).trans lp4
        obtain ⟨hr12, e14, nr12, k14⟩ := notesR (s := 4) (k := T.tst) nr16 (by omega) (by omega) lp16
        rw [sd16, live_gd hs, nI_clamp (n := s) (by omega), rm16, v4e, show c_X12_notes (nI (p + 1)) 2 (nI T.tst) hr16 = some hr12 from e14, Option.bind_some, nm_eq]
        have sd12 : hr12.1 0 19 = nI s := (k14.i (by unfold FNr; omega)).trans sd16
        have rm12 : hr12.1 26 s = nI T.tst := (k14.i (by unfold FNr; omega)).trans rm16
        rw [sd12, live_gd hs, live_gd hs, nI_clamp (n := s) (by omega), rm12, nI_1, nm_eq]
        obtain ⟨hr14, e15⟩ : ∃ x, x = setI hr12 26 s (nI (T.tst + 1)) := ⟨_, rfl⟩
        rw [← e15]
        have k15 : KP (fun p k => ¬ (p = 26 ∧ k = s)) hr12 hr14 := by rw [e15]; exact KP.setI (fun z => z ⟨rfl, rfl⟩)
        have k11_14 : KP (fun p k => ¬ FNr p k ∧ ¬ (p = 26 ∧ k = s) ∧ ¬ (p = 27 ∧ k = 6 * s + T.tst)) hr11 hr14 := ((k16.mono (fun _ _ z => z.2.2)).trans (k14.mono (fun _ _ z => z.1))).trans (k15.mono (fun _ _ z => z.2.1))
        have kR14 : KP (fun p k => GR p k ∧ ¬ FNr p k ∧ ¬ (p = 26 ∧ k = s) ∧ ¬ (p = 27 ∧ k = 6 * s + T.tst)) hr hr14 := (kR11.mono (fun _ _ z => z.1)).trans (k11_14.mono (fun _ _ z => z.2))
        have nc13 : NC t (c + 1) (upN L c (LT K bs (p + 1))) (upN so c 4) (upN nu c T.tst) hc13 := nc4.fr (((kc9.mono (fun p k z => by unfold FNc at z; unfold GC; omega)).trans (k12.mono (fun p k z => by unfold FNc at z; omega))).trans (kc13.mono (fun p k z => by unfold FNc at z; unfold GC; omega)))
        have i27 : hr14.1 27 (6 * s + T.tst) = nI n2 := by
          rw [(k15.i (by omega)), (k14.i (by unfold FNr; omega)), e16, setI_eq]
        have j0 : hc13.1 t 3 = nI (T.tst + 1) := (kc13.i (by unfold GC; omega)).trans c0
        have j1 : hc13.1 (t + 31) T.tst = nI n1 := (kc13.i (by unfold GC; omega)).trans c1
        have i11 : hr14.1 26 s = nI (T.tst + 1) := by rw [e15, setI_eq]
        refine ⟨_, _, rfl, rfl, fpC, kR14.mono (fun p k z => by unfold FPr FxRs at z; unfold GR FNr; omega), pt13.fr2 KP.rfl (k11_14.mono (fun p k z => by unfold FNr; omega)), Or.inr ⟨q' + 1, by omega, rs13.fr KP.rfl (k11_14.mono (fun p k z => by unfold FWr at z; unfold FNr; omega)), T.aTst n1, c + 1, upN L c (LT K bs (p + 1)), upN so c 4, upN nu c T.tst, b, k, ?_, ?_⟩⟩
        · refine AL.mk b1 b2 b3 lt al.kno (show c + 1 = T.men + T.exc + T.dut + (T.tst + 1) by omega) ((kC13.i (by unfold GC2 GC FNc; omega)).trans al.cm) ((kC13.i (by unfold GC2 GC FNc; omega)).trans al.ce) ((kC13.i (by unfold GC2 GC FNc; omega)).trans al.cd) j0 ((kC13.i (by unfold GC2 GC FNc; omega)).trans al.ck) ((kR14.i (by unfold GR FNr; omega)).trans al.rm) ((kR14.i (by unfold GR FNr; omega)).trans al.re) ((kR14.i (by unfold GR FNr; omega)).trans al.rd) i11 ((kR14.i (by unfold GR FNr; omega)).trans al.rk) nc13 (nr12.fr (k15.mono (fun p k z => by unfold FNr at z; omega))) nw4 ((kR14.i (by unfold GR FNr; omega)).trans al.side) ((kC13.r (by unfold GC2 GC FNc; omega)).trans al.oth) ((kR14.i (by unfold GR FNr; omega)).trans al.opn) ((kR14.i (by unfold GR FNr; omega)).trans al.br) ((kR14.i (by unfold GR FNr; omega)).trans al.co) (by have := al.b4; omega) (by have := al.kp; omega)
        · intro z
          have y9 : hc9.1 2 5 = 0 := (k12.i (by omega)).symm.trans (s13.symm.trans z)
          obtain ⟨y4, en⟩ := g10 y9
          obtain ⟨y1, dn⟩ := d4 y4
          obtain ⟨Lp, Lw, S⟩ := sd (s51.symm.trans y1)
          refine ⟨Lp, Lw, SD.mk (TX.aTst_wf S.wf lt l1) (TxC.aTst S.xc S.wf lt (kC13.mono (fun p k z => by unfold KcT at z; unfold GC2 GC FNc; omega)) j0 j1) (TxR.aTst S.xr S.wf lt (kR14.mono (fun p k z => by unfold KrT at z; unfold GR FNr; omega)) i11 (by rw [i27, en])) (S.dis.up dn) ?_ (S.lcp.fr (kC13.mono (fun p k z => by unfold GC2 GC FNc; omega))) (S.lcw.fr (kC13.mono (fun p k z => by unfold GC2 GC FNc; omega))) (S.lrp.fr (Nat.le_refl _) (Nat.le_refl _) (kR14.mono (fun p k z => by unfold FLr at z; unfold GR FNr; omega))) (S.lrw.fr (Nat.le_refl _) (Nat.le_refl _) (kR14.mono (fun p k z => by unfold FLr at z; unfold GR FNr; omega))) S.cp S.cw⟩
          intro i hi hi5
          exact (kR14.i (by unfold GR FNr; omega)).trans (S.kn i hi hi5)
      · rw [if_neg bk.nl]
        exact ⟨_, _, rfl, rfl, fpC, kR11.mono (fun p k z => by unfold FPr FxRs at z; unfold GR; omega), pt13, Or.inl bk⟩
    · rw [if_neg bk.nc, Option.bind_some, bk.acc, bk.must, Option.bind_some, if_neg bk.nl]
      exact ⟨_, _, rfl, rfl, kC9.mono (fun _ _ z => GC2_fp ht z), kR10.mono (fun p k z => by unfold FPr FxRs at z; unfold GR; omega), pt10, Or.inl bk⟩
  · obtain ⟨f, hf⟩ : ∃ f, fu = f + 1 := ⟨8191, by unfold fu; omega⟩
    have eR : lq2 (c_X12_tellTest_L7b v4 (fun w13 h14 => c_X12_tellTest_j75 v4 w13 h14)) fu 0 hr3 = some hr3 := by
      rw [hf, lq2_s]; unfold c_X12_tellTest_L7b
      rw [if_neg bk.nr]; unfold c_X12_tellTest_j75
      show ((c_X12_must 4 hr3).bind _) = some hr3
      rw [bk.must, Option.bind_some, if_neg bk.nl]
    rw [brkL hc4 hr3 _ bk, if_neg bk.nc, Option.bind_some, bk.acc, eR]
    exact ⟨_, _, rfl, rfl, kC4.mono (fun _ _ z => GC2_fp ht z), kR3.mono (fun p k z => by unfold FPr FxRs at z; unfold GR; omega), pt4, Or.inl bk⟩
