def AP (M : List Nat) : Prop := M = [] ∨ ∃ w, M = [w] ∧ (w = 10 ∨ w = 15)
def AS (M : List Nat) : Prop := ∃ M1 M2, M = M1 ++ M2 ∧ AP M1 ∧ (M2 = [] ∨ ∃ w, M2 = [w] ∧ (w = 8 ∨ w = 9))
def TPk (k : Nat) : Prop := k ≠ 42 ∧ k ≠ 47
def TSk (k : Nat) : Prop := TPk k ∧ k ≠ 43 ∧ k ≠ 45
/-- what becomes of a product or a sum: signs M wait on the reference's side that the class has told already -/
def PO (K : Nat) (bs : Nat → Nat) (N q : Nat) (cs : List Int32) (s n0 : Nat) (is : List (Nat × Nat)) (wl : List Nat) (d p m : Nat) (A : List Nat → Prop) (T : Nat → Prop) (hc hr : PH) (o : Option PH) (hc' : PH) : Prop := KP (FEc q) hc hc' ∧ ((∃ F' f' p' hr' U0 M, o = exB F' f' hr' ∧ p < p' ∧ p + U0.length + M.length ≤ p' ∧ CF K bs N q (cs ++ (U0 ++ M.map opI).map cst) s n0 (is ++ U0) (wl ++ M.reverse) d p' hc' hr' ∧ 402 ≤ F' + p' ∧ 402 ≤ f' + p' ∧ KP (FEr s n0) hr hr' ∧ OKh (U0 ++ M.map opI) m ∧ A M ∧ T (tK K bs p')) ∨ BX K bs N q s n0 hr hc' o)
theorem BX.from {K N q s n0 : Nat} {bs : Nat → Nat} {hr hr1 hc' : PH} {o : Option PH} (k : KP (FEr s n0) hr hr1) (x : BX K bs N q s n0 hr1 hc' o) : BX K bs N q s n0 hr hc' o := by
  obtain ⟨h, e, b, l, t, k2⟩ := x
  exact ⟨h, e, b, l, t, k.trans k2⟩
theorem PO.from {K N q s n0 d p m : Nat} {bs : Nat → Nat} {cs : List Int32} {is : List (Nat × Nat)} {wl : List Nat} {A : List Nat → Prop} {T : Nat → Prop} {hc hr hc1 hr1 hc' : PH} {o : Option PH} (kc : KP (FEc q) hc hc1) (kr : KP (FEr s n0) hr hr1) (x : PO K bs N q cs s n0 is wl d p m A T hc1 hr1 o hc') : PO K bs N q cs s n0 is wl d p m A T hc hr o hc' := by
  obtain ⟨k, x⟩ := x
  refine ⟨kc.trans k, ?_⟩
  rcases x with ⟨F', f', p', hr', U0, M, a1, a2, a3, a4, a5, a6, a7, a8⟩ | x
  · exact Or.inl ⟨F', f', p', hr', U0, M, a1, a2, a3, a4, a5, a6, kr.trans a7, a8⟩
  · exact Or.inr (x.from kr)
theorem FQ_ec {q p k : Nat} (z : FEc q p k) : FQ q p k := z.2
theorem AP.in {M : List Nat} (a : AP M) : ∀ w ∈ M, w = 10 ∨ w = 15 := fun w hw => by
  rcases a with e | ⟨v, e, h⟩
  · subst e; exact nomatch hw
  · subst e; rw [List.mem_singleton.mp hw]; exact h
theorem AP.len {M : List Nat} (a : AP M) : M.length ≤ 1 := by
  rcases a with e | ⟨v, e, h⟩
  · subst e; exact Nat.zero_le _
  · subst e; exact Nat.le_refl _
theorem AP.cm {M : List Nat} (a : AP M) : ∀ w ∈ M, w < 64 ∧ comes 1 w := fun w hw => by
  rcases a.in w hw with e | e <;> subst e <;> exact ⟨by omega, by omega, Or.inr ⟨by omega, by omega⟩⟩
theorem AS.cm {M : List Nat} (a : AS M) : (∀ w ∈ M, w < 64 ∧ comes 0 w) ∧ M.length ≤ 2 := by
  obtain ⟨M1, M2, e, a1, a2⟩ := a
  subst e
  refine ⟨fun w hw => ?_, ?_⟩
  · rcases List.mem_append.mp hw with y | y
    · rcases a1.in w y with e | e <;> subst e <;> exact ⟨by omega, by omega, Or.inl rfl⟩
    · rcases a2 with e | ⟨v, e, h⟩
      · subst e; exact nomatch y
      · subst e
        rw [List.mem_singleton.mp y]
        rcases h with e | e <;> subst e <;> exact ⟨by omega, by omega, Or.inl rfl⟩
  · have := a1.len
    rw [List.length_append]
    rcases a2 with e | ⟨v, e, h⟩
    · subst e; show M1.length + 0 ≤ 2; omega
    · subst e; show M1.length + 1 ≤ 2; omega
theorem halt01 {wl : List Nat} (h : halt 0 wl) : halt 1 wl := by
  rcases h with h | ⟨v, w, e, h⟩
  · exact Or.inl h
  · rcases h with h | ⟨h, _⟩
    · exact Or.inr ⟨v, w, e, Or.inl h⟩
    · exact absurd rfl h
theorem halt1_op {wl : List Nat} {w : Nat} (h : w = 8 ∨ w = 9) : halt 1 (wl ++ [w]) := Or.inr ⟨wl, w, rfl, Or.inr ⟨by decide, h⟩⟩
theorem halt0_open {wl : List Nat} : halt 0 (wl ++ [6]) := Or.inr ⟨wl, 6, rfl, Or.inl rfl⟩
/-- the two sides agree on units, from any place; on products; on sums -/
def UH (K : Nat) (bs : Nat → Nat) (N q s n0 : Nat) (rc : Nat → Int32 → PH → Option PH) (d m B : Nat) : Prop := ∀ (cs : List Int32) (is : List (Nat × Nat)) (wl : List Nat) (p : Nat) (hc hr : PH) (F f : Nat), CF K bs N q cs s n0 is wl d p hc hr → wl.length ≤ B → 402 ≤ F + p → 402 ≤ f + p → ∃ hc', c_X4_unit 2 q rc (nI d) hc = some hc' ∧ UO K bs N q cs s n0 is wl d p m hc hr (exA F f hr) hc'
def PH2 (K : Nat) (bs : Nat → Nat) (N q s n0 : Nat) (rc : Nat → Int32 → PH → Option PH) (d m B : Nat) : Prop := ∀ (cs : List Int32) (is : List (Nat × Nat)) (wl : List Nat) (p : Nat) (hc hr : PH) (F f : Nat), CF K bs N q cs s n0 is wl d p hc hr → wl.length ≤ B → halt 1 wl → 402 ≤ F + p → 402 ≤ f + p → ∃ hc', c_X4_product 2 q rc (nI d) hc = some hc' ∧ PO K bs N q cs s n0 is wl d p m AP TPk hc hr (exA F f hr) hc'
def SH (K : Nat) (bs : Nat → Nat) (N q s n0 : Nat) (rc : Nat → Int32 → PH → Option PH) (d m B : Nat) : Prop := ∀ (cs : List Int32) (is : List (Nat × Nat)) (wl : List Nat) (p : Nat) (hc hr : PH) (F f : Nat), CF K bs N q cs s n0 is wl d p hc hr → wl.length ≤ B → halt 0 wl → 402 ≤ F + p → 402 ≤ f + p → ∃ hc', rc q (nI d) hc = some hc' ∧ PO K bs N q cs s n0 is wl d p m AS TSk hc hr (exA F f hr) hc'
def RBk (q : Nat) (rc : Nat → Int32 → PH → Option PH) : Prop := ∀ (a : Int32) (hc hr : PH), BK hc hr → LnC q hc → ∃ hc', rc q a hc = some hc' ∧ LnC q hc' ∧ KP (FQ q) hc hc' ∧ BK hc' hr
theorem prodC_b {q G : Nat} {rc : Nat → Int32 → PH → Option PH} {a x v : Int32} {hc hr : PH} (hq : 9 ≤ q) (bk : BK hc hr) (ln : LnC q hc) : ∃ hc', ((c_X2_add q v hc).bind fun h8 => nm (x + 1) fun v9 => lq2 (c_X4_product_L8b 2 q rc a (fun h11 => some h11)) (G + 1) v9 h8) = some hc' ∧ LnC q hc' ∧ KP (FQ q) hc hc' ∧ BK hc' hr := by
  obtain ⟨h', e, l, k⟩ := add_b (v := v) ln
  have bk' := bk.frq hq k
  exact ⟨h', by rw [e, Option.bind_some, nm_eq, prodL_b bk'], l, k, bk'⟩
theorem sumC_b {q G : Nat} {rc : Nat → Int32 → PH → Option PH} {a x v : Int32} {hc hr : PH} (hq : 9 ≤ q) (bk : BK hc hr) (ln : LnC q hc) : ∃ hc', ((c_X2_add q v hc).bind fun h8 => nm (x + 1) fun v9 => lq2 (c_X4_sum_L8b 2 q rc a (fun h11 => some h11)) (G + 1) v9 h8) = some hc' ∧ LnC q hc' ∧ KP (FQ q) hc hc' ∧ BK hc' hr := by
  obtain ⟨h', e, l, k⟩ := add_b (v := v) ln
  have bk' := bk.frq hq k
  exact ⟨h', by rw [e, Option.bind_some, nm_eq, sumL_b bk'], l, k, bk'⟩
theorem PT.frq {K N q : Nat} {bs : Nat → Nat} {hc hr hc' : PH} (hq : 9 ≤ q) (pt : PT K bs N hc hr) (k : KP (FQ q) hc hc') : PT K bs N hc' hr := pt.fr2 (k.mono (fun p k z => by unfold FQ; omega)) KP.rfl
theorem RS.frq {K N q p : Nat} {bs : Nat → Nat} {hc hr hc' : PH} (hq : 9 ≤ q) (rs : RS K bs N p hc hr) (k : KP (FQ q) hc hc') : RS K bs N p hc' hr := rs.fr (k.mono (fun p k z => by unfold FWc at z; unfold FQ; omega)) KP.rfl
/-- an operation is told by the class behind its second part -/
theorem CF.addop {K N q s n0 d p : Nat} {bs : Nat → Nat} {cs : List Int32} {is : List (Nat × Nat)} {wl : List Nat} {hc hr : PH} {v : Int32} (hq : 9 ≤ q) (c : CF K bs N q cs s n0 is wl d p hc hr) (l : cs.length + 1 ≤ p) : ∃ hc', c_X2_add q v hc = some hc' ∧ KP (FQ q) hc hc' ∧ CF K bs N q (cs ++ [v]) s n0 is wl d p hc' hr := by
  have hN := c.pt.2.1.1; have h5 := c.rs.2.2.2.2.1
  obtain ⟨h', e, cc, k⟩ := add_ok (v := v) c.cc (by omega)
  exact ⟨h', e, k, CF.mk (c.pt.frq hq k) (c.rs.frq hq k) cc (by rw [List.length_append]; exact l) c.cr c.cb c.ww c.wb c.op⟩
theorem prodL {K N q s n0 d m : Nat} {bs : Nat → Nat} {rc : Nat → Int32 → PH → Option PH} (hq : 9 ≤ q) (hs : s < 2) (hd : d ≤ 6) (hU : UH K bs N q s n0 rc d m (3 * d + 2)) {cs : List Int32} {is : List (Nat × Nat)} {wl : List Nat} {p0 : Nat} (hwl : wl.length ≤ 3 * d + 1) (hh : halt 1 wl) : ∀ (G x p1 F f : Nat) (U0 : List (Nat × Nat)) (M : List Nat) (hc1 hr1 : PH), 402 ≤ G + x → x ≤ p1 → p0 < p1 → p0 + U0.length + M.length ≤ p1 → CF K bs N q (cs ++ (U0 ++ M.map opI).map cst) s n0 (is ++ U0) (wl ++ M.reverse) d p1 hc1 hr1 → 402 ≤ F + p1 → 402 ≤ f + p1 → OKh (U0 ++ M.map opI) (m + 1) → AP M → ∃ hc', lq2 (c_X4_product_L8b 2 q rc (nI d) (fun h11 => some h11)) G (nI x) hc1 = some hc' ∧ PO K bs N q cs s n0 is wl d p0 (m + 1) AP TPk hc1 hr1 (exB F f hr1) hc' := by
  intro G
  induction G with
  | zero => intro x p1 F f U0 M hc1 hr1 g1 g2 _ _ c; have hN := c.pt.2.1.1; have h5 := c.rs.2.2.2.2.1; omega
  | succ G ih =>
  intro x p1 F f U0 M hc1 hr1 g1 g2 g3 g4 c gF gf ok am
  have hN := c.pt.2.1.1; have h5 := c.rs.2.2.2.2.1
  rw [lq2_s]
  unfold c_X4_product_L8b
  rw [if_neg (show ¬ (400 : Int32) < nI x from fun z => by have := (nI_ltI (a := 400) (by omega) (by omega)).mp z; omega), c.rs.kind c.pt, Option.bind_some]
  have step : ∀ σ, tK K bs p1 = σ → (σ = 42 ∨ σ = 47) → ∃ hc', c_X4_product_j33 2 q rc (nI d) (fun h11 => some h11) (lq2 (c_X4_product_L8b 2 q rc (nI d) (fun h11 => some h11)) G) (nI x) hc1 = some hc' ∧ PO K bs N q cs s n0 is wl d p0 (m + 1) AP TPk hc1 hr1 (exB F f hr1) hc' := fun σ tk hσ => by
    obtain ⟨f0, rfl⟩ : ∃ f0, f = f0 + 1 := ⟨f - 1, by omega⟩
    obtain ⟨F0, rfl⟩ : ∃ F0, F = F0 + 1 := ⟨F - 1, by omega⟩
    obtain ⟨G0, rfl⟩ : ∃ G0, G = G0 + 1 := ⟨G - 1, by omega⟩
    have ml := am.len
    have kσ : kM σ = 10 ∨ kM σ = 15 := by rcases hσ with e | e <;> subst e <;> decide
    have vσ : -nI σ = cst (opI (kM σ)) := by rcases hσ with e | e <;> subst e <;> decide
    obtain ⟨hc2, hr2, ea, eb, kc, kr, pt2, ln2, h⟩ := exB_push (F := F0 + 1) (f := f0) hq hs c tk (z := 1) (Or.inl ⟨rfl, hσ⟩) am.cm hh (by omega)
    unfold c_X4_product_j33
    rw [c.rs.kind c.pt, Option.bind_some, nm_eq, tk, ea, Option.bind_some, eb, exO_s]
    rcases h with c2 | bk
    · rw [if_pos c2.rs.2.1]
      obtain ⟨hc3, eu, ku, uo⟩ := hU _ _ _ _ _ _ F0 fu c2 (by rw [List.length_append]; show wl.length + 1 ≤ 3 * d + 2; omega) (by omega) (by unfold fu; omega)
      rw [eu, Option.bind_some]
      rcases uo with ⟨F3, f3, p3, hr3, U3, eo, hp3, hl3, c3, hF3, hf3, kr3, ok3⟩ | bx
      · have c3l := c.cl
        obtain ⟨hc4, e4, k4, c4⟩ := c3.addop (v := -nI σ) hq (by
          rw [List.length_append, List.length_map]; omega)
        rw [e4, Option.bind_some, nI_1, nm_eq, eo]
        have el : cs ++ (U0 ++ M.map opI).map cst ++ U3.map cst ++ [-nI σ] = cs ++ ((U0 ++ M.map opI ++ U3) ++ [kM σ].map opI).map cst := by
          rw [vσ]; simp only [List.map_append, List.map_cons, List.map_nil, List.append_assoc]
        have ei : is ++ U0 ++ M.map opI ++ U3 = is ++ (U0 ++ M.map opI ++ U3) := by simp only [List.append_assoc]
        have ew : wl ++ [kM σ] = wl ++ [kM σ].reverse := rfl
        rw [el, ei, ew] at c4
        obtain ⟨hc5, e5, po⟩ := ih (x + 1) p3 F3 f3 (U0 ++ M.map opI ++ U3) [kM σ] hc4 hr3 (by omega) (by omega) (by omega) (by
          rw [List.length_append, List.length_append, List.length_map]; show p0 + (U0.length + M.length + U3.length) + 1 ≤ p3; omega) c4 hF3 hf3 (OKh.op ok ok3 (Nat.le_refl _)) (Or.inr ⟨kM σ, rfl, kσ⟩)
        exact ⟨hc5, e5, po.from ((kc.trans ku).trans (k4.mono (fun _ _ z => z.2))) (kr.trans kr3)⟩
      · obtain ⟨hr3, eo, bk3, ln3, pt3, kr3⟩ := bx
        obtain ⟨hc4, e4, l4, k4, bk4⟩ := prodC_b (rc := rc) (a := nI d) (x := nI x) (v := -nI σ) (G := G0) hq bk3 ln3
        rw [e4, eo]
        exact ⟨hc4, rfl, (kc.trans ku).trans (k4.mono (fun _ _ z => z.2)), Or.inr ⟨hr3, rfl, bk4, l4, pt3.frq hq k4, kr.trans kr3⟩⟩
    · rw [if_neg bk.nr]
      obtain ⟨hc3, e3, l3, k3, bk3⟩ := unit_b (rc := rc) (a := nI d) hq bk ln2
      obtain ⟨hc4, e4, l4, k4, bk4⟩ := prodC_b (rc := rc) (a := nI d) (x := nI x) (v := -nI σ) (G := G0) hq bk3 l3
      rw [e3, Option.bind_some, e4]
      exact ⟨hc4, rfl, (kc.trans (k3.mono (fun _ _ z => z.2))).trans (k4.mono (fun _ _ z => z.2)), Or.inr ⟨hr2, rfl, bk4, l4, (pt2.frq hq k3).frq hq k4, kr⟩⟩
  by_cases q42 : tK K bs p1 = 42
  · rw [if_pos (show nI (tK K bs p1) = 42 by rw [q42]; rfl)]
    exact step 42 q42 (Or.inl rfl)
  · have kl : tK K bs p1 < 128 := tkind_lt K bs (tS K bs p1)
    rw [if_neg (show ¬ nI (tK K bs p1) = 42 from fun z => q42 ((nI_lit (by omega) 42 (by omega) rfl).mp z)), Option.bind_some]
    by_cases q47 : tK K bs p1 = 47
    · rw [if_pos (show nI (tK K bs p1) = 47 by rw [q47]; rfl)]
      exact step 47 q47 (Or.inr rfl)
    · rw [if_neg (show ¬ nI (tK K bs p1) = 47 from fun z => q47 ((nI_lit (by omega) 47 (by omega) rfl).mp z))]
      exact ⟨hc1, rfl, KP.rfl, Or.inl ⟨F, f, p1, hr1, U0, M, rfl, g3, g4, c, gF, gf, KP.rfl, ok, am, q42, q47⟩⟩
theorem prod_ok {K N q s n0 d m : Nat} {bs : Nat → Nat} {rc : Nat → Int32 → PH → Option PH} (hq : 9 ≤ q) (hs : s < 2) (hd : d ≤ 6) (hU : UH K bs N q s n0 rc d m (3 * d + 2)) : PH2 K bs N q s n0 rc d (m + 1) (3 * d + 1) := by
  intro cs is wl p hc hr F f c hB hh gF gf
  have hN := c.pt.2.1.1; have h5 := c.rs.2.2.2.2.1
  unfold c_X4_product
  obtain ⟨hc1, e1, k1, uo⟩ := hU _ _ _ _ _ _ F f c (by omega) gF gf
  rw [e1, Option.bind_some, nm_eq]
  rcases uo with ⟨F3, f3, p3, hr3, U3, eo, hp3, hl3, c3, hF3, hf3, kr3, ok3⟩ | bx
  · rw [eo, show (0 : Int32) = nI 0 from nI_0.symm]
    obtain ⟨hc5, e5, po⟩ := prodL hq hs hd hU hB hh fu 0 p3 F3 f3 U3 [] hc1 hr3 (by unfold fu; omega) (by omega) hp3 hl3 (by
      rw [List.map_nil, List.append_nil, List.reverse_nil, List.append_nil]; exact c3) hF3 hf3 (by rw [List.map_nil, List.append_nil]; exact ok3.mono (by omega)) (Or.inl rfl)
    exact ⟨hc5, e5, po.from k1 kr3⟩
  · obtain ⟨hr3, eo, bk3, ln3, pt3, kr3⟩ := bx
    obtain ⟨g, hg⟩ : ∃ g, fu = g + 1 := ⟨8191, by unfold fu; omega⟩
    rw [hg, prodL_b bk3]
    exact ⟨hc1, rfl, k1, Or.inr ⟨hr3, eo, bk3, ln3, pt3, kr3⟩⟩
theorem sumL {K N q s n0 d m : Nat} {bs : Nat → Nat} {rc : Nat → Int32 → PH → Option PH} (hq : 9 ≤ q) (hs : s < 2) (hd : d ≤ 6) (hP : PH2 K bs N q s n0 rc d m (3 * d + 1)) {cs : List Int32} {is : List (Nat × Nat)} {wl : List Nat} {p0 : Nat} (hwl : wl.length ≤ 3 * d) (hh : halt 0 wl) : ∀ (G x p1 F f : Nat) (U0 : List (Nat × Nat)) (M : List Nat) (hc1 hr1 : PH), 402 ≤ G + x → x ≤ p1 → p0 < p1 → p0 + U0.length + M.length ≤ p1 → CF K bs N q (cs ++ (U0 ++ M.map opI).map cst) s n0 (is ++ U0) (wl ++ M.reverse) d p1 hc1 hr1 → 402 ≤ F + p1 → 402 ≤ f + p1 → OKh (U0 ++ M.map opI) (m + 1) → AS M → TPk (tK K bs p1) → ∃ hc', lq2 (c_X4_sum_L8b 2 q rc (nI d) (fun h11 => some h11)) G (nI x) hc1 = some hc' ∧ PO K bs N q cs s n0 is wl d p0 (m + 1) AS TSk hc1 hr1 (exB F f hr1) hc' := by
  intro G
  induction G with
  | zero => intro x p1 F f U0 M hc1 hr1 g1 g2 _ _ c; have hN := c.pt.2.1.1; have h5 := c.rs.2.2.2.2.1; omega
  | succ G ih =>
  intro x p1 F f U0 M hc1 hr1 g1 g2 g3 g4 c gF gf ok am tp
  have hN := c.pt.2.1.1; have h5 := c.rs.2.2.2.2.1
  rw [lq2_s]
  unfold c_X4_sum_L8b
  rw [if_neg (show ¬ (400 : Int32) < nI x from fun z => by have := (nI_ltI (a := 400) (by omega) (by omega)).mp z; omega), c.rs.kind c.pt, Option.bind_some]
  have step : ∀ σ, tK K bs p1 = σ → (σ = 43 ∨ σ = 45) → ∃ hc', c_X4_sum_j33 2 q rc (nI d) (fun h11 => some h11) (lq2 (c_X4_sum_L8b 2 q rc (nI d) (fun h11 => some h11)) G) (nI x) hc1 = some hc' ∧ PO K bs N q cs s n0 is wl d p0 (m + 1) AS TSk hc1 hr1 (exB F f hr1) hc' := fun σ tk hσ => by
    obtain ⟨f0, rfl⟩ : ∃ f0, f = f0 + 1 := ⟨f - 1, by omega⟩
    obtain ⟨F0, rfl⟩ : ∃ F0, F = F0 + 1 := ⟨F - 1, by omega⟩
    obtain ⟨G0, rfl⟩ : ∃ G0, G = G0 + 1 := ⟨G - 1, by omega⟩
    obtain ⟨mc, ml⟩ := am.cm
    have kσ : kM σ = 8 ∨ kM σ = 9 := by rcases hσ with e | e <;> subst e <;> decide
    have vσ : -nI σ = cst (opI (kM σ)) := by rcases hσ with e | e <;> subst e <;> decide
    obtain ⟨hc2, hr2, ea, eb, kc, kr, pt2, ln2, h⟩ := exB_push (F := F0 + 1) (f := f0) hq hs c tk (z := 0) (Or.inr ⟨rfl, hσ⟩) mc hh (by omega)
    unfold c_X4_sum_j33
    rw [c.rs.kind c.pt, Option.bind_some, nm_eq, tk, ea, Option.bind_some, eb, exO_s]
    rcases h with c2 | bk
    · rw [if_pos c2.rs.2.1]
      obtain ⟨hc3, eu, ku, uo⟩ := hP _ _ _ _ _ _ F0 fu c2 (by rw [List.length_append]; show wl.length + 1 ≤ 3 * d + 1; omega) (halt1_op kσ) (by omega) (by unfold fu; omega)
      rw [eu, Option.bind_some]
      rcases uo with ⟨F3, f3, p3, hr3, U3, M3, eo, hp3, hl3, c3, hF3, hf3, kr3, ok3, am3, tp3⟩ | bx
      · have c3l := c.cl
        obtain ⟨hc4, e4, k4, c4⟩ := c3.addop (v := -nI σ) hq (by
          simp only [List.length_append, List.length_map] at c3l ⊢; omega)
        rw [e4, Option.bind_some, nI_1, nm_eq, eo]
        have el : cs ++ (U0 ++ M.map opI).map cst ++ (U3 ++ M3.map opI).map cst ++ [-nI σ] = cs ++ ((U0 ++ M.map opI ++ U3) ++ (M3 ++ [kM σ]).map opI).map cst := by
          rw [vσ]; simp only [List.map_append, List.map_cons, List.map_nil, List.append_assoc]
        have ei : is ++ U0 ++ M.map opI ++ U3 = is ++ (U0 ++ M.map opI ++ U3) := by simp only [List.append_assoc]
        have ew : wl ++ [kM σ] ++ M3.reverse = wl ++ (M3 ++ [kM σ]).reverse := by
          rw [List.reverse_append, List.append_assoc]; rfl
        rw [el, ei, ew] at c4
        have oko : OKh (U0 ++ M.map opI ++ U3 ++ (M3 ++ [kM σ]).map opI) (m + 1) := by
          have := OKh.op (w := kM σ) ok ok3 (Nat.le_refl _)
          rw [List.map_append]
          simp only [List.append_assoc, List.map_cons, List.map_nil] at this ⊢
          exact this
        obtain ⟨hc5, e5, po⟩ := ih (x + 1) p3 F3 f3 (U0 ++ M.map opI ++ U3) (M3 ++ [kM σ]) hc4 hr3 (by omega) (by omega) (by omega) (by
          rw [List.length_append, List.length_append, List.length_map, List.length_append]; show p0 + (U0.length + M.length + U3.length) + (M3.length + 1) ≤ p3; omega) c4 hF3 hf3 oko ⟨M3, [kM σ], rfl, am3, Or.inr ⟨kM σ, rfl, kσ⟩⟩ tp3
        exact ⟨hc5, e5, po.from ((kc.trans ku).trans (k4.mono (fun _ _ z => z.2))) (kr.trans kr3)⟩
      · obtain ⟨hr3, eo, bk3, ln3, pt3, kr3⟩ := bx
        obtain ⟨hc4, e4, l4, k4, bk4⟩ := sumC_b (rc := rc) (a := nI d) (x := nI x) (v := -nI σ) (G := G0) hq bk3 ln3
        rw [e4, eo]
        exact ⟨hc4, rfl, (kc.trans ku).trans (k4.mono (fun _ _ z => z.2)), Or.inr ⟨hr3, rfl, bk4, l4, pt3.frq hq k4, kr.trans kr3⟩⟩
    · rw [if_neg bk.nr]
      obtain ⟨hc3, e3, l3, k3, bk3⟩ := prod_b (rc := rc) (a := nI d) hq bk ln2
      obtain ⟨hc4, e4, l4, k4, bk4⟩ := sumC_b (rc := rc) (a := nI d) (x := nI x) (v := -nI σ) (G := G0) hq bk3 l3
      rw [e3, Option.bind_some, e4]
      exact ⟨hc4, rfl, (kc.trans (k3.mono (fun _ _ z => z.2))).trans (k4.mono (fun _ _ z => z.2)), Or.inr ⟨hr2, rfl, bk4, l4, (pt2.frq hq k3).frq hq k4, kr⟩⟩
  by_cases q43 : tK K bs p1 = 43
  · rw [if_pos (show nI (tK K bs p1) = 43 by rw [q43]; rfl)]
    exact step 43 q43 (Or.inl rfl)
  · have kl : tK K bs p1 < 128 := tkind_lt K bs (tS K bs p1)
    rw [if_neg (show ¬ nI (tK K bs p1) = 43 from fun z => q43 ((nI_lit (by omega) 43 (by omega) rfl).mp z)), Option.bind_some]
    by_cases q45 : tK K bs p1 = 45
    · rw [if_pos (show nI (tK K bs p1) = 45 by rw [q45]; rfl)]
      exact step 45 q45 (Or.inr rfl)
    · rw [if_neg (show ¬ nI (tK K bs p1) = 45 from fun z => q45 ((nI_lit (by omega) 45 (by omega) rfl).mp z))]
      exact ⟨hc1, rfl, KP.rfl, Or.inl ⟨F, f, p1, hr1, U0, M, rfl, g3, g4, c, gF, gf, KP.rfl, ok, am, tp, q43, q45⟩⟩
theorem sumB_ok {K N q s n0 d m : Nat} {bs : Nat → Nat} {rc : Nat → Int32 → PH → Option PH} (hq : 9 ≤ q) (hs : s < 2) (hd : d ≤ 6) (hP : PH2 K bs N q s n0 rc d m (3 * d + 1)) : SH K bs N q s n0 (fun q a h => c_X4_sumB 2 q rc a h) d (m + 1) (3 * d) := by
  intro cs is wl p hc hr F f c hB hh gF gf
  have hN := c.pt.2.1.1; have h5 := c.rs.2.2.2.2.1
  show ∃ hc', c_X4_sumB 2 q rc (nI d) hc = some hc' ∧ _
  unfold c_X4_sumB
  obtain ⟨hc1, e1, k1, uo⟩ := hP _ _ _ _ _ _ F f c (by omega) (halt01 hh) gF gf
  rw [e1, Option.bind_some, nm_eq]
  rcases uo with ⟨F3, f3, p3, hr3, U3, M3, eo, hp3, hl3, c3, hF3, hf3, kr3, ok3, am3, tp3⟩ | bx
  · rw [eo, show (0 : Int32) = nI 0 from nI_0.symm]
    obtain ⟨hc5, e5, po⟩ := sumL hq hs hd hP hB hh fu 0 p3 F3 f3 U3 M3 hc1 hr3 (by unfold fu; omega) (by omega) hp3 hl3 c3 hF3 hf3 (ok3.mono (by omega)) ⟨M3, [], (List.append_nil _).symm, am3, Or.inl rfl⟩ tp3
    exact ⟨hc5, e5, po.from k1 kr3⟩
  · obtain ⟨hr3, eo, bk3, ln3, pt3, kr3⟩ := bx
    obtain ⟨g, hg⟩ : ∃ g, fu = g + 1 := ⟨8191, by unfold fu; omega⟩
    rw [hg, sumL_b bk3]
    exact ⟨hc1, rfl, k1, Or.inr ⟨hr3, eo, bk3, ln3, pt3, kr3⟩⟩
