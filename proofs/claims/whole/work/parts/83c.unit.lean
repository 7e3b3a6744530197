theorem kinds_lo : ∀ k, k < 128 → validK k = true → (k < 78 → kM k < 34) ∧ (78 ≤ k → k < 87 ∧ kM k = k - 44) := by decide +kernel
theorem FEc_wc {q p k : Nat} (z : FEc q p k) : ¬ (p = 2 ∧ 2 ≤ k ∧ k ≤ 4) := z.1
/-- goes2, with finer frames -/
theorem goes3 {K N p k q : Nat} {bs : Nat → Nat} {hc hr : PH} (pt : PT K bs N hc hr) (rs : RS K bs N p hc hr) (hk : k < 128) (hk1 : 1 < k) (tk : tK K bs p = k) {c : Int32} (e : c = nI k) : ∃ hc' hr', c_X4_accept 2 c hc = some hc' ∧ c_X12_goesOn hr = some hr' ∧ KP (fun p k => ¬ (p = 2 ∧ 2 ≤ k ∧ k ≤ 4)) hc hc' ∧ KP (fun p k => ¬ (p = 0 ∧ (k = 11 ∨ k = 13 ∨ k = 14))) hr hr' ∧ PT K bs N hc' hr' ∧ (RS K bs N (p + 1) hc' hr' ∨ BK hc' hr') := by
  have hN := pt.2.1.1; have h5 := rs.2.2.2.2.1
  obtain ⟨tc, tr⟩ := pt.2.2 p h5
  obtain ⟨hc', hr', a, b, k1, k2, pt', _, _, h⟩ := goes2 pt rs hk hk1 tk e
  refine ⟨hc', hr', a, b, ?_, ?_, pt', h⟩
  · rw [e, acceptC rs.1 rs.2.2.1 (by omega) hk tc] at a
    have a := (Option.some.inj a).symm
    rw [a]
    by_cases z : tK K bs p = k ∧ p < 400
    · rw [if_pos z]; exact KP.setI (by omega)
    · rw [if_neg z]; exact (KP.setI (by omega)).trans (KP.setI (by omega))
  · rw [goesR rs.2.1 rs.2.2.2.1 (by omega) tr] at b
    have b := (Option.some.inj b).symm
    rw [b]
    by_cases z : p < 400
    · rw [if_pos z]; exact KP.setI (by omega)
    · rw [if_neg z]; exact (KP.setI (by omega)).trans (KP.setI (by omega))
/-- what becomes of a unit -/
def UO (K : Nat) (bs : Nat → Nat) (N q : Nat) (cs : List Int32) (s n0 : Nat) (is : List (Nat × Nat)) (wl : List Nat) (d p m : Nat) (hc hr : PH) (o : Option PH) (hc' : PH) : Prop := KP (FEc q) hc hc' ∧ ((∃ F' f' p' hr' U, o = exB F' f' hr' ∧ p < p' ∧ p + U.length ≤ p' ∧ CF K bs N q (cs ++ U.map cst) s n0 (is ++ U) wl d p' hc' hr' ∧ 402 ≤ F' + p' ∧ 402 ≤ f' + p' ∧ KP (FEr s n0) hr hr' ∧ OKh U m) ∨ BX K bs N q s n0 hr hc' o)
theorem unit_leaf {K N q s n0 d p m k : Nat} {bs : Nat → Nat} {cs : List Int32} {is : List (Nat × Nat)} {wl : List Nat} {hc hr hcA hrA : PH} {x : Nat × Nat} {F : Nat} (hq : 9 ≤ q) (hs : s < 2) (c : CF K bs N q cs s n0 is wl d p hc hr) (hk : k < 128) (hk1 : 1 < k) (tk : tK K bs p = k) (hx : okI x) (hx2 : x.1 < 2) (hm : 1 ≤ m) (ca : CdC q (cs ++ [cst x]) hcA) (ka : KP (FQ q) hc hcA) (ra : CdR s n0 (is ++ [x]) hrA) (kr : KP (FEm s (n0 + is.length)) hr hrA) (hF : 402 ≤ F + p) : ∃ hc' h6, c_X4_accept 2 (nI k) hcA = some hc' ∧ c_X12_goesOn hrA = some h6 ∧ UO K bs N q cs s n0 is wl d p m hc hr (if (h6.1 0 13) ≤ 0 then exB F fu h6 else some h6) hc' := by
  have hN := c.pt.2.1.1; have h5 := c.rs.2.2.2.2.1; have cb := c.cb; have cl := c.cl
  have ptA := c.pt.fr2 (ka.mono (fun p k z => by unfold FQ; omega)) (kr.mono (fun p k z => by unfold FEm; omega))
  have rsA := c.rs.fr (ka.mono (fun p k z => by unfold FWc at z; unfold FQ; omega)) (kr.mono (fun p k z => by unfold FWr at z; unfold FEm; omega))
  obtain ⟨hc', h6, a, b, k1, k2, pt', h⟩ := goes3 (q := q) ptA rsA hk hk1 tk rfl
  have kc : KP (FEc q) hc hc' := (ka.mono (fun _ _ z => z.2)).trans (k1.mono (fun _ _ z => z.1))
  have kR : KP (FEr s n0) hr h6 := (kr.mono (fun p k z => by unfold FEr at z; unfold FEm; omega)).trans (k2.mono (fun p k z => by unfold FEr at z; omega))
  refine ⟨hc', h6, a, b, kc, ?_⟩
  rcases h with rs' | bk
  · rw [rs'.2.1, if_pos (show (0 : Int32) ≤ 0 by decide)]
    refine Or.inl ⟨F, fu, p + 1, h6, [x], rfl, by omega, Nat.le_refl _, CF.mk pt' rs' (ca.fr (k1.mono (fun p k z => by omega))) (by rw [List.length_append]; show cs.length + 1 ≤ p + 1; omega) (ra.fr (k2.mono (fun p k z => by omega))) (by rw [List.length_append]; show n0 + (is.length + 1) + wl.length ≤ p + 1; omega) (c.ww.fr ((kr.mono (fun p k z => by unfold FEm; omega)).trans (k2.mono (fun p k z => by omega)))) c.wb (((k2.i (by omega)).trans (kr.i (by unfold FEm; omega))).trans c.op), by omega, by unfold fu; omega, kR, (OKh.one hx hx2).mono hm⟩
  · rw [if_neg bk.nl]
    exact Or.inr ⟨h6, rfl, bk, (ca.ln (by rw [List.length_append]; show cs.length + 1 ≤ 408; omega)).fr (k1.mono (fun p k z => by omega)), pt', kR⟩
theorem cst0 (n : Nat) : cst (0, n) = nI n := rfl
theorem cst1 (n : Nat) : cst (1, n) = nI (10000 + n) := rfl
/-- a unit that is no bracket -/
theorem unit_flat {K N q s n0 d p m : Nat} {bs : Nat → Nat} {cs : List Int32} {is : List (Nat × Nat)} {wl : List Nat} {hc hr : PH} {rc : Nat → Int32 → PH → Option PH} {F f : Nat} (hq : 9 ≤ q) (hs : s < 2) (c : CF K bs N q cs s n0 is wl d p hc hr) (hm : 1 ≤ m) (hF : 402 ≤ F + p) (hf : 402 ≤ f + p) (ho : tK K bs p ≠ 40) : ∃ hc', c_X4_unit 2 q rc (nI d) hc = some hc' ∧ UO K bs N q cs s n0 is wl d p m hc hr (exA F f hr) hc' := by
  have hN := c.pt.2.1.1; have h5 := c.rs.2.2.2.2.1; have cb := c.cb; have cl := c.cl
  obtain ⟨tc, tr⟩ := c.pt.2.2 p h5
  obtain ⟨f', rfl⟩ : ∃ f', f = f' + 1 := ⟨f - 1, by omega⟩
  have kl : tK K bs p < 128 := tkind_lt K bs (tS K bs p)
  obtain ⟨kv1, kv2⟩ := kinds_lo _ kl (tkind_ok K bs (tS K bs p))
  have kv1 : tK K bs p < 78 → kM (tK K bs p) < 34 := kv1
  have kv2 : 78 ≤ tK K bs p → tK K bs p < 87 ∧ kM (tK K bs p) = tK K bs p - 44 := kv2
  have cons : ∀ (e : Option PH) (h6 hc' : PH), e = some h6 → UO K bs N q cs s n0 is wl d p m hc hr (if (h6.1 0 13) ≤ 0 then exB F fu h6 else some h6) hc' → UO K bs N q cs s n0 is wl d p m hc hr (e.bind fun h11 => if (h11.1 0 13) ≤ 0 then exB F fu h11 else some h11) hc' := fun e h6 hc' ee u => by rw [ee]; exact u
  rw [exA_s, c.rs.is c.pt (k := 40) (by omega) rfl (c := 6) rfl, Option.bind_some, if_neg ho, if_pos (Eq.refl (0 : Int32))]
  unfold c_X4_unit
  rw [c.rs.kind c.pt, Option.bind_some, nm_eq, if_neg (show ¬ nI (tK K bs p) = 40 from fun z => ho ((nI_lit (by omega) 40 (by omega) rfl).mp z))]
  unfold c_X4_unit_j25
  rw [if_neg (show ¬ nI (tK K bs p) = 40 from fun z => ho ((nI_lit (by omega) 40 (by omega) rfl).mp z)), ite_cg (show nI (tK K bs p) < 78 ↔ tK K bs p < 78 from nI_ltI (b := 78) (by omega) (by omega)), c.rs.2.2.1, gdI (k := p) (by omega) (by omega), nI_clamp (n := p) (by omega), show hc.2.1 (2 + 1 + 3) p = lN (tval K bs (tS K bs p)) from tc.2.2, lN_i]
  by_cases q3 : tK K bs p = 3
  · have v4 := tok3 q3
    generalize hn : tval K bs (tS K bs p) = n at v4
    rw [if_pos (show tK K bs p < 78 by omega)]
    obtain ⟨hcA, ea, ca, ka⟩ := add_ok (v := nI n) c.cc (by omega)
    obtain ⟨hrA, er, ra, kr⟩ := emitR (a := 0) (b := n) c.cr hs (by omega)
    obtain ⟨hc', h6, a, b, u⟩ := unit_leaf (x := (0, n)) (m := m) hq hs c (k := 3) (by omega) (by omega) q3 ⟨by omega, fun _ => v4, fun z => absurd z (show ¬ (0 : Nat) = 1 by omega)⟩ (show (0 : Nat) < 2 by omega) hm ca ka ra kr hF
    rw [ea, Option.bind_some, show c_X4_accept 2 3 hcA = some hc' from a]
    refine ⟨hc', rfl, cons _ h6 hc' ?_ u⟩
    unfold c_X12_unit
    rw [c.rs.is c.pt (k := 3) (by omega) rfl (c := 2) rfl, Option.bind_some, if_pos q3, if_neg (show ¬ (1 : Int32) = 0 by decide), c.rs.2.2.2.1, gdI (k := p) (by omega) (by omega), nI_clamp (n := p) (by omega), tr.2.2.1 q3, hn, show c_X12_emit 0 (nI n) hr = some hrA from er, Option.bind_some, b]; rfl
  · by_cases q78 : tK K bs p < 78
    · rw [if_pos q78]
      obtain ⟨hcA, ea, la, ka⟩ := add_b (v := nI (tval K bs (tS K bs p))) (c.cc.ln (by omega))
      have ptA := c.pt.fr2 (ka.mono (fun p k z => by unfold FQ; omega)) (KP.rfl (h := hr))
      have rsA := c.rs.fr (ka.mono (fun p k z => by unfold FWc at z; unfold FQ; omega)) (KP.rfl (h := hr))
      obtain ⟨tcA, _⟩ := ptA.2.2 p h5
      have acc := acceptC (k := 3) rsA.1 rsA.2.2.1 (by omega) (by omega) tcA
      rw [if_neg (show ¬ (tK K bs p = 3 ∧ p < 400) from fun z => q3 z.1), show brk K bs p 3 = 1 from if_neg q3] at acc
      have bk : BK (setI (setI hcA 2 3 (nI 1)) 2 4 (nI (tS K bs p))) (setI (setI hr 0 13 (nI 1)) 0 14 (nI (tS K bs p))) := BK.mk1 (N := N) 1 (by omega) (by omega) (by omega) rsA.2.2.1
      rw [ea, Option.bind_some, show c_X4_accept 2 3 hcA = _ from acc]
      have k1 : KP (fun p k => ¬ (p = 2 ∧ 2 ≤ k ∧ k ≤ 4)) hcA (setI (setI hcA 2 3 (nI 1)) 2 4 (nI (tS K bs p))) := (KP.setI (by omega)).trans (KP.setI (by omega))
      have k2 : KP (fun p k => ¬ (p = 0 ∧ (k = 11 ∨ k = 13 ∨ k = 14))) hr (setI (setI hr 0 13 (nI 1)) 0 14 (nI (tS K bs p))) := (KP.setI (by omega)).trans (KP.setI (by omega))
      have eu : c_X12_unit hr = some (setI (setI hr 0 13 (nI 1)) 0 14 (nI (tS K bs p))) := by
        have l34 := kv1 q78
        unfold c_X12_unit
        rw [c.rs.is c.pt (k := 3) (by omega) rfl (c := 2) rfl, Option.bind_some, if_neg q3, if_pos (Eq.refl (0 : Int32)), if_pos c.rs.2.1, (c.rs.kindR c.pt).1, (c.rs.kindR c.pt (α := PH) (o := none)).2, if_pos (show nI (kM (tK K bs p)) < 34 from nI_lt (b := 34) l34 (by omega)), show (1 : Int32) = nI 1 from rfl, failRS c.pt c.rs]; rfl
      refine ⟨_, rfl, cons _ _ _ eu ⟨(ka.mono (fun _ _ z => z.2)).trans (k1.mono (fun _ _ z => z.1)), Or.inr ?_⟩⟩
      rw [if_neg bk.nl]
      exact ⟨_, rfl, bk, la.fr (k1.mono (fun p k z => by omega)), ptA.fr2 (k1.mono (fun p k z => by omega)) (k2.mono (fun p k z => by omega)), k2.mono (fun p k z => by unfold FEr at z; omega)⟩
    · rw [if_neg q78]
      obtain ⟨l87, ek⟩ := kv2 (by omega)
      have ev : (10000 : Int32) + nI (tK K bs p) - 78 = nI (10000 + (tK K bs p - 78)) := by
        rw [show (10000 : Int32) = nI 10000 from rfl, nI_add, show (78 : Int32) = nI 78 from rfl, pk_sub (by omega), show 10000 + tK K bs p - 78 = 10000 + (tK K bs p - 78) by omega]
      obtain ⟨hcA, ea, ca, ka⟩ := add_ok (v := nI (10000 + (tK K bs p - 78))) c.cc (by omega)
      obtain ⟨hrA, er, ra, kr⟩ := emitR (a := 1) (b := tK K bs p - 78) c.cr hs (by omega)
      obtain ⟨hc', h6, a, b, u⟩ := unit_leaf (x := (1, tK K bs p - 78)) (m := m) hq hs c (k := tK K bs p) kl (by omega) rfl ⟨by omega, fun z => absurd z (by show ¬ (1 : Nat) = 0; omega), fun _ => by show tK K bs p - 78 < 9; omega⟩ (by show (1 : Nat) < 2; omega) hm ca ka ra kr hF
      rw [ev, ea, Option.bind_some, a]
      refine ⟨hc', rfl, cons _ h6 hc' ?_ u⟩
      unfold c_X12_unit
      rw [c.rs.is c.pt (k := 3) (by omega) rfl (c := 2) rfl, Option.bind_some, if_neg q3, if_pos (Eq.refl (0 : Int32)), if_pos c.rs.2.1, (c.rs.kindR c.pt).1, (c.rs.kindR c.pt).1, (c.rs.kindR c.pt).1, (c.rs.kindR c.pt (α := PH) (o := none)).2, ek, if_neg (show ¬ nI (tK K bs p - 44) < 34 from fun z => by have := (nI_ltI (b := 34) (by omega) (by omega)).mp z; omega), if_neg (show ¬ (42 : Int32) < nI (tK K bs p - 44) from fun z => by have := (nI_ltI (a := 42) (by omega) (by omega)).mp z; omega), show nI (tK K bs p - 44) - 34 = nI (tK K bs p - 78) from by rw [show (34 : Int32) = nI 34 from rfl, pk_sub (by omega), show tK K bs p - 44 - 34 = tK K bs p - 78 by omega], show c_X12_emit 1 (nI (tK K bs p - 78)) hr = some hrA from er, Option.bind_some, b]; rfl
/-- which sign stands there -/
theorem j145_op {K N p σ : Nat} {bs : Nat → Nat} {hc hr : PH} (pt : PT K bs N hc hr) (rs : RS K bs N p hc hr) (tk : tK K bs p = σ) {z : Int32} (hz : (z = 1 ∧ (σ = 42 ∨ σ = 47)) ∨ (z = 0 ∧ (σ = 43 ∨ σ = 45))) (R : Int32 → PH → Option PH) : c_X12_expression_j145 0 (fun h29 => some h29) exK2 (fun h34 => some h34) R hr = c_X12_expression_j234 0 (fun h29 => some h29) exK2 (fun h34 => some h34) R 1 z hr := by
  have i8 := rs.is pt (k := 43) (by omega) rfl (c := 8) rfl
  have i9 := rs.is pt (k := 45) (by omega) rfl (c := 9) rfl
  have i10 := rs.is pt (k := 42) (by omega) rfl (c := 10) rfl
  have i15 := rs.is pt (k := 47) (by omega) rfl (c := 15) rfl
  rw [tk] at i8 i9 i10 i15
  unfold c_X12_expression_j145 c_X12_expression_j186
  rcases hz with ⟨e, y⟩ | ⟨e, y⟩
  · rcases y with y | y
    · subst y; subst e
      have i8 : c_X12_is 8 hr = some 0 := i8
      have i9 : c_X12_is 9 hr = some 0 := i9
      have i10 : c_X12_is 10 hr = some 1 := i10
      rw [i8, Option.bind_some, if_pos (Eq.refl (0 : Int32)), i9, Option.bind_some, if_pos (Eq.refl (0 : Int32)), i10, Option.bind_some, if_neg (show ¬ (1 : Int32) = 0 by decide), nm_eq, if_neg (show ¬ (1 : Int32) = 0 by decide), Option.bind_some, if_neg (show ¬ (1 : Int32) = 0 by decide)]
    · subst y; subst e
      have i8 : c_X12_is 8 hr = some 0 := i8
      have i9 : c_X12_is 9 hr = some 0 := i9
      have i10 : c_X12_is 10 hr = some 0 := i10
      have i15 : c_X12_is 15 hr = some 1 := i15
      rw [i8, Option.bind_some, if_pos (Eq.refl (0 : Int32)), i9, Option.bind_some, if_pos (Eq.refl (0 : Int32)), i10, Option.bind_some, if_pos (Eq.refl (0 : Int32)), i15, Option.bind_some, if_neg (show ¬ (1 : Int32) = 0 by decide), nm_eq, if_neg (show ¬ (1 : Int32) = 0 by decide), Option.bind_some, if_pos (Eq.refl (0 : Int32)), Option.bind_some, if_neg (show ¬ (1 : Int32) = 0 by decide)]
  · rcases y with y | y
    · subst y; subst e
      have i8 : c_X12_is 8 hr = some 1 := i8
      have i10 : c_X12_is 10 hr = some 0 := i10
      have i15 : c_X12_is 15 hr = some 0 := i15
      rw [i8, Option.bind_some, if_neg (show ¬ (1 : Int32) = 0 by decide), nm_eq, if_neg (show ¬ (1 : Int32) = 0 by decide), i10, Option.bind_some, if_pos (Eq.refl (0 : Int32)), i15, Option.bind_some, if_pos (Eq.refl (0 : Int32))]
    · subst y; subst e
      have i8 : c_X12_is 8 hr = some 0 := i8
      have i9 : c_X12_is 9 hr = some 1 := i9
      have i10 : c_X12_is 10 hr = some 0 := i10
      have i15 : c_X12_is 15 hr = some 0 := i15
      rw [i8, Option.bind_some, if_pos (Eq.refl (0 : Int32)), i9, Option.bind_some, if_neg (show ¬ (1 : Int32) = 0 by decide), nm_eq, if_neg (show ¬ (1 : Int32) = 0 by decide), i10, Option.bind_some, if_pos (Eq.refl (0 : Int32)), i15, Option.bind_some, if_pos (Eq.refl (0 : Int32))]
theorem kM_op {σ : Nat} (h : σ = 42 ∨ σ = 47 ∨ σ = 43 ∨ σ = 45) : kM σ < 64 ∧ kM σ ≠ 6 := by
  rcases h with h | h | h | h <;> subst h <;> decide
/-- an operation's sign is pushed; others come out ahead of it -/
theorem exB_push {K N q s n0 d p σ F f : Nat} {bs : Nat → Nat} {cs : List Int32} {is : List (Nat × Nat)} {W M : List Nat} {hc hr : PH} {z : Int32} (hq : 9 ≤ q) (hs : s < 2) (c : CF K bs N q cs s n0 is (W ++ M.reverse) d p hc hr) (tk : tK K bs p = σ) (hz : (z = 1 ∧ (σ = 42 ∨ σ = 47)) ∨ (z = 0 ∧ (σ = 43 ∨ σ = 45))) (hM : ∀ w ∈ M, w < 64 ∧ comes z w) (hW : halt z W) (hl : W.length + M.length < 60) : ∃ hc1 hr1, c_X4_accept 2 (nI σ) hc = some hc1 ∧ exB F (f + 1) hr = exO F 1 hr1 ∧ KP (FEc q) hc hc1 ∧ KP (FEr s n0) hr hr1 ∧ PT K bs N hc1 hr1 ∧ LnC q hc1 ∧ (CF K bs N q cs s n0 (is ++ M.map opI) (W ++ [kM σ]) d (p + 1) hc1 hr1 ∨ BK hc1 hr1) := by
  have hN := c.pt.2.1.1; have h5 := c.rs.2.2.2.2.1; have cb := c.cb; have cl := c.cl
  have hσ : σ = 42 ∨ σ = 47 ∨ σ = 43 ∨ σ = 45 := by omega
  rw [List.length_append, List.length_reverse] at cb
  obtain ⟨ko1, ko2⟩ := kM_op hσ
  rw [exB_s, c.rs.is c.pt (k := 41) (by omega) rfl (c := 7) rfl, Option.bind_some, if_neg (show ¬ tK K bs p = 41 by omega), if_pos (Eq.refl (0 : Int32)), j145_op c.pt c.rs tk hz]
  unfold c_X12_expression_j234
  obtain ⟨h21, e1, cr1, ww1, k1⟩ := co_run (z := z) hs M fu W is hr (by unfold fu; omega) c.cr c.ww (by omega) (by omega) hM hW
  rw [show c_X12_comesOut z hr = some h21 from e1, Option.bind_some]
  have t1 : h21.1 0 11 = nI p := (k1.i (by unfold FCo; omega)).trans c.rs.2.2.2.1
  have kd : h21.1 3 p = nI (kM σ) := by rw [(k1.i (by unfold FCo; omega)), (c.pt.2.2 p h5).2.1, tk]
  rw [t1, gdI (k := p) (by omega) (by omega), nI_clamp (n := p) (by omega), kd, ww1.1, gdI (k := W.length) (by omega) (by omega), nI_clamp (n := W.length) (by omega)]
  obtain ⟨h22, e22⟩ : ∃ x, x = setI h21 40 W.length (nI (kM σ)) := ⟨_, rfl⟩
  have v22 : h22.1 0 56 = nI W.length := by rw [e22, setI_ne (by omega)]; exact ww1.1
  obtain ⟨h23, e23⟩ : ∃ x, x = setI h22 0 56 (nI (W.length + 1)) := ⟨_, rfl⟩
  obtain ⟨ww3, k3⟩ := pushW ww1 (by omega) h22 h23 e22 e23
  rw [← e22, nm_eq h22, v22, nI_1, ← e23, nm_eq h23]
  have k13 : KP (fun p k => FCo s n0 p k ∧ p ≠ 40) hr h23 := (k1.mono (fun _ _ z => z.1)).trans (k3.mono (fun p k z => by unfold FCo at z; omega))
  have pt3 := c.pt.fr2 (KP.rfl (h := hc)) (k13.mono (fun p k z => by unfold FCo; omega))
  have rs3 := c.rs.fr (KP.rfl (h := hc)) (k13.mono (fun p k z => by unfold FWr at z; unfold FCo; omega))
  obtain ⟨hc1, hr1, a, b, kc, kr, pt1, h⟩ := goes3 (q := q) pt3 rs3 (k := σ) (by omega) (by omega) tk rfl
  rw [b, Option.bind_some]
  refine ⟨hc1, hr1, a, rfl, kc.mono (fun _ _ z => z.1), (k13.mono (fun p k z => by unfold FEr at z; unfold FCo; omega)).trans (kr.mono (fun p k z => by unfold FEr at z; omega)), pt1, (c.cc.ln (by omega)).fr (kc.mono (fun p k z => by omega)), ?_⟩
  rcases h with rs' | bk
  · refine Or.inl (CF.mk pt1 rs' (c.cc.fr (kc.mono (fun p k z => by omega))) (by omega) ((cr1.fr (k3.mono (fun p k z => by omega))).fr (kr.mono (fun p k z => by omega))) ?_ (ww3.fr (kr.mono (fun p k z => by omega))) (fun w hw => ?_) (((kr.i (by omega)).trans (k13.i (by unfold FCo; omega))).trans c.op))
    · rw [List.length_append, List.length_append, List.length_map]
      show n0 + (is.length + M.length) + (W.length + 1) ≤ p + 1
      omega
    · rcases List.mem_append.mp hw with y | y
      · exact c.wb w (List.mem_append_left _ y)
      · rw [List.mem_singleton.mp y]; exact ko1
  · exact Or.inr bk
