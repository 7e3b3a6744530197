theorem co_split (z : Int32) : ∀ l : List Nat, ∃ W P : List Nat, l.reverse = W ++ P.reverse ∧ halt z W ∧ (∀ w ∈ P, comes z w) ∧ (∀ w ∈ P, w ∈ l)
  | [] => ⟨[], [], rfl, Or.inl rfl, (fun w h => nomatch h), (fun w h => nomatch h)⟩
  | w :: l => by
    by_cases q : comes z w
    · obtain ⟨W, P, e, h1, h2, h3⟩ := co_split z l
      refine ⟨W, w :: P, ?_, h1, fun x hx => ?_, fun x hx => ?_⟩
      · rw [List.reverse_cons, List.reverse_cons, e, List.append_assoc]
      · rcases List.mem_cons.mp hx with y | y
        · rw [y]; exact q
        · exact h2 x y
      · rcases List.mem_cons.mp hx with y | y
        · rw [y]; exact List.mem_cons_self ..
        · exact List.mem_cons_of_mem _ (h3 x y)
    · refine ⟨(w :: l).reverse, [], by rw [List.reverse_nil, List.append_nil], Or.inr ⟨l.reverse, w, List.reverse_cons, ?_⟩, (fun w h => nomatch h), (fun w h => nomatch h)⟩
      unfold comes at q
      by_cases y : w = 6
      · exact Or.inl y
      · refine Or.inr ⟨fun x => q ⟨y, Or.inl x⟩, ?_⟩
        by_cases x : w = 8
        · exact Or.inl x
        · by_cases u : w = 9
          · exact Or.inr u
          · exact absurd ⟨y, Or.inr ⟨x, u⟩⟩ q
theorem cm_any {s n0 : Nat} {z : Int32} {wl : List Nat} {is : List (Nat × Nat)} {h : PH} (hs : s < 2) (cr : CdR s n0 is h) (ww : StW wl h) (wb : ∀ w ∈ wl, w < 64) (l : n0 + is.length + wl.length ≤ 420) (hl : wl.length < 64) : ∃ h', c_X12_comesOut z h = some h' ∧ KP (FCo s n0) h h' := by
  obtain ⟨W, P, e, h1, h2, h3⟩ := co_split z wl.reverse
  rw [List.reverse_reverse] at e
  have le : wl.length = W.length + P.length := by rw [e, List.length_append, List.length_reverse]
  obtain ⟨h', e1, _, _, k⟩ := co_run (z := z) hs P fu W is h (by unfold fu; omega) cr (by rw [← e]; exact ww) (by omega) (by omega) (fun w hw => ⟨wb w (List.mem_reverse.mp (h3 w hw)), h2 w hw⟩) h1
  exact ⟨h', e1, k⟩
/-- the stack's height after some items; it must stay below B -/
def htX (B : Nat) : List (Nat × Nat) → Nat → Option Nat
  | [], h => some h
  | x :: l, h => if x.1 < 2 then (if h < B then htX B l (h + 1) else none) else if 2 ≤ h then htX B l (h - 1) else none
theorem htX_app (B : Nat) (l' : List (Nat × Nat)) : ∀ (l : List (Nat × Nat)) (h : Nat), htX B (l ++ l') h = (htX B l h).bind (htX B l')
  | [], h => rfl
  | x :: l, h => by
    show (if x.1 < 2 then (if h < B then htX B (l ++ l') (h + 1) else none) else if 2 ≤ h then htX B (l ++ l') (h - 1) else none) = Option.bind (if x.1 < 2 then (if h < B then htX B l (h + 1) else none) else if 2 ≤ h then htX B l (h - 1) else none) (htX B l')
    by_cases q : x.1 < 2
    · rw [if_pos q, if_pos q]
      by_cases r : h < B
      · rw [if_pos r, if_pos r]; exact htX_app B l' l (h + 1)
      · rw [if_neg r, if_neg r]; rfl
    · rw [if_neg q, if_neg q]
      by_cases r : 2 ≤ h
      · rw [if_pos r, if_pos r]; exact htX_app B l' l (h - 1)
      · rw [if_neg r, if_neg r]; rfl
def okI (x : Nat × Nat) : Prop := x.1 ≤ 5 ∧ (x.1 = 0 → x.2 < 10000) ∧ (x.1 = 1 → x.2 < 9)
def OKh (l : List (Nat × Nat)) (m : Nat) : Prop := (∀ x ∈ l, okI x) ∧ ∀ h B, h + m ≤ B → htX B l h = some (h + 1)
theorem OKh.mono {l : List (Nat × Nat)} {m m' : Nat} (x : OKh l m) (h : m ≤ m') : OKh l m' := ⟨x.1, fun a b c => x.2 a b (by omega)⟩
theorem OKh.one {x : Nat × Nat} (h : okI x) (h2 : x.1 < 2) : OKh [x] 1 := ⟨fun y hy => by rw [List.mem_singleton.mp hy]; exact h, fun a b c => by
  show (if x.1 < 2 then (if a < b then htX b [] (a + 1) else none) else _) = some (a + 1)
  rw [if_pos h2, if_pos (by omega)]; rfl⟩
theorem OKh.op {l l' : List (Nat × Nat)} {m m' : Nat} {w : Nat} (x : OKh l m) (y : OKh l' m') (h : m' + 1 ≤ m) : OKh (l ++ l' ++ [opI w]) m := by
  have ow : (opI w).1 = 2 ∨ (opI w).1 = 3 ∨ (opI w).1 = 4 ∨ (opI w).1 = 5 := by
    unfold opI
    by_cases a : w = 8
    · rw [if_pos a]; exact Or.inl rfl
    · rw [if_neg a]
      by_cases a : w = 9
      · rw [if_pos a]; exact Or.inr (Or.inl rfl)
      · rw [if_neg a]
        by_cases a : w = 10
        · rw [if_pos a]; exact Or.inr (Or.inr (Or.inl rfl))
        · rw [if_neg a]; exact Or.inr (Or.inr (Or.inr rfl))
  refine ⟨fun z hz => ?_, fun a b c => ?_⟩
  · rcases List.mem_append.mp hz with z1 | z1
    · rcases List.mem_append.mp z1 with z2 | z2
      · exact x.1 z z2
      · exact y.1 z z2
    · rw [List.mem_singleton.mp z1]; exact ⟨by omega, fun e => absurd e (by omega), fun e => absurd e (by omega)⟩
  · rw [htX_app, htX_app, x.2 a b c]
    show (htX b l' (a + 1)).bind (htX b [opI w]) = some (a + 1)
    rw [y.2 (a + 1) b (by omega)]
    show (if (opI w).1 < 2 then _ else if 2 ≤ a + 1 + 1 then htX b [] (a + 1 + 1 - 1) else none) = some (a + 1)
    rw [if_neg (by omega), if_pos (by omega)]; rfl
/-- the reference's walk over an expression, cut where it stands -/
def exK2 (h30 : PH) : Option PH := if (h30.1 0 12) ≤ 0 then (c_X12_comesOut 0 h30).bind fun h31 => some h31 else (c_X12_fail 1 h30).bind fun h32 => (c_X12_comesOut 0 h32).bind fun h33 => some h33
def exO (F : Nat) (x : Int32) (h : PH) : Option PH := lq2 (c_X12_expression_L12b 0 (fun h29 => some h29) exK2 (fun h34 => some h34)) F x h
def exB (F f : Nat) (h : PH) : Option PH := lq1 (c_X12_expression_L96b 0 (fun h17 => c_X12_expression_j145 0 (fun h29 => some h29) exK2 (fun h34 => some h34) (exO F) h17)) f h
def exA (F f : Nat) (h : PH) : Option PH := lq1 (c_X12_expression_L23b 0 (fun h10 => (c_X12_unit h10).bind fun h11 => if (h11.1 0 13) ≤ 0 then exB F fu h11 else some h11)) f h
theorem exO_s (F : Nat) (h : PH) : exO (F + 1) 1 h = if h.1 0 13 = 0 then exA F fu h else some h := by
  unfold exO
  rw [lq2_s]
  show c_X12_expression_L12b 0 (fun h29 => some h29) exK2 (fun h34 => some h34) (exO F) 1 h = _
  unfold c_X12_expression_L12b
  rw [if_neg (show ¬ (1 : Int32) = 0 by decide)]
  rfl
theorem exA_s (F f : Nat) (h : PH) : exA F (f + 1) h = (c_X12_is 6 h).bind fun r4 => if r4 = 0 then ((c_X12_unit h).bind fun h11 => if (h11.1 0 13) ≤ 0 then exB F fu h11 else some h11) else if (h.1 0 12) = 6 then (c_X12_fail 2 h).bind fun h9 => nm (setI h9 0 12 ((h9.1 0 12) + 1)) fun h5 => (c_X12_goesOn h5).bind fun h6 => gd (ixOK (h6.1 0 56) 64) <| nm (setI h6 40 (h6.1 0 56).toNatClampNeg 6) fun h7 => nm (setI h7 0 56 ((h7.1 0 56) + 1)) fun h8 => exA F f h8 else nm (setI h 0 12 ((h.1 0 12) + 1)) fun h5 => (c_X12_goesOn h5).bind fun h6 => gd (ixOK (h6.1 0 56) 64) <| nm (setI h6 40 (h6.1 0 56).toNatClampNeg 6) fun h7 => nm (setI h7 0 56 ((h7.1 0 56) + 1)) fun h8 => exA F f h8 := rfl
theorem exB_s (F f : Nat) (h : PH) : exB F (f + 1) h = (c_X12_is 7 h).bind fun r12 => if r12 = 0 then c_X12_expression_j145 0 (fun h29 => some h29) exK2 (fun h34 => some h34) (exO F) h else if (h.1 0 12) ≤ 0 then c_X12_expression_j145 0 (fun h29 => some h29) exK2 (fun h34 => some h34) (exO F) h else (c_X12_comesOut 0 h).bind fun h13 => nm (setI h13 0 56 ((h13.1 0 56) - 1)) fun h14 => nm (setI h14 0 12 ((h14.1 0 12) - 1)) fun h15 => (c_X12_goesOn h15).bind fun h16 => exB F f h16 := rfl
theorem exA_brk {F f : Nat} {hc hr : PH} (bk : BK hc hr) : exA F (f + 1) hr = some hr := by
  rw [exA_s, bk.is, Option.bind_some, if_pos (Eq.refl (0 : Int32))]
  unfold c_X12_unit
  rw [bk.is, Option.bind_some, if_pos (Eq.refl (0 : Int32)), if_neg bk.nr, bk.fail]
  show (if hr.1 0 13 ≤ 0 then exB F fu hr else some hr) = some hr
  rw [if_neg bk.nl]
theorem FCo_er {s n0 p k : Nat} (z : FEr s n0 p k) : FCo s n0 p k := by unfold FEr at z; unfold FCo; omega
theorem exB_brk {F f s n0 : Nat} {is : List (Nat × Nat)} {wl : List Nat} {hc hr : PH} (hs : s < 2) (bk : BK hc hr) (cr : CdR s n0 is hr) (ww : StW wl hr) (wb : ∀ w ∈ wl, w < 64) (l : n0 + is.length + wl.length ≤ 420) (hl : wl.length < 64) : ∃ hr', exB F (f + 1) hr = some hr' ∧ BK hc hr' ∧ KP (FCo s n0) hr hr' := by
  obtain ⟨h', e, k⟩ := cm_any (z := 0) hs cr ww wb l hl
  refine ⟨h', ?_, bk.fr KP.rfl (k.mono (fun p k z => by unfold FWr at z; unfold FCo; omega)), k⟩
  rw [exB_s, bk.is, Option.bind_some, if_pos (Eq.refl (0 : Int32))]
  unfold c_X12_expression_j145 c_X12_expression_j186
  rw [bk.is, Option.bind_some, if_pos (Eq.refl (0 : Int32)), bk.is, Option.bind_some, if_pos (Eq.refl (0 : Int32)), bk.is, Option.bind_some, if_pos (Eq.refl (0 : Int32)), bk.is, Option.bind_some, if_pos (Eq.refl (0 : Int32)), nm_eq, if_pos (Eq.refl (0 : Int32))]
  unfold exK2
  rw [bk.fail, e]
  by_cases z : hr.1 0 12 ≤ 0
  · rw [if_pos z]; rfl
  · rw [if_neg z, Option.bind_some, e]; rfl
/-- within an expression, on both sides -/
abbrev Its : Type := List (Nat × Nat)
def CF (K : Nat) (bs : Nat → Nat) (N q : Nat) (cs : List Int32) (s n0 : Nat) (is : Its) (wl : List Nat) (d p : Nat) (hc hr : PH) : Prop := (PT K bs N hc hr) ∧ (RS K bs N p hc hr) ∧ (CdC q cs hc) ∧ (cs.length ≤ p) ∧ (CdR s n0 is hr) ∧ (n0 + is.length + wl.length ≤ p) ∧ (StW wl hr) ∧ (∀ w ∈ wl, w < 64) ∧ (hr.1 0 12 = nI d)
theorem CF.pt {K : Nat} {bs : Nat → Nat} {N q : Nat} {cs : List Int32} {s n0 : Nat} {is : Its} {wl : List Nat} {d p : Nat} {hc hr : PH} (w : CF K bs N q cs s n0 is wl d p hc hr) : PT K bs N hc hr := w.1
theorem CF.rs {K : Nat} {bs : Nat → Nat} {N q : Nat} {cs : List Int32} {s n0 : Nat} {is : Its} {wl : List Nat} {d p : Nat} {hc hr : PH} (w : CF K bs N q cs s n0 is wl d p hc hr) : RS K bs N p hc hr := w.2.1
theorem CF.cc {K : Nat} {bs : Nat → Nat} {N q : Nat} {cs : List Int32} {s n0 : Nat} {is : Its} {wl : List Nat} {d p : Nat} {hc hr : PH} (w : CF K bs N q cs s n0 is wl d p hc hr) : CdC q cs hc := w.2.2.1
theorem CF.cl {K : Nat} {bs : Nat → Nat} {N q : Nat} {cs : List Int32} {s n0 : Nat} {is : Its} {wl : List Nat} {d p : Nat} {hc hr : PH} (w : CF K bs N q cs s n0 is wl d p hc hr) : cs.length ≤ p := w.2.2.2.1
theorem CF.cr {K : Nat} {bs : Nat → Nat} {N q : Nat} {cs : List Int32} {s n0 : Nat} {is : Its} {wl : List Nat} {d p : Nat} {hc hr : PH} (w : CF K bs N q cs s n0 is wl d p hc hr) : CdR s n0 is hr := w.2.2.2.2.1
theorem CF.cb {K : Nat} {bs : Nat → Nat} {N q : Nat} {cs : List Int32} {s n0 : Nat} {is : Its} {wl : List Nat} {d p : Nat} {hc hr : PH} (w : CF K bs N q cs s n0 is wl d p hc hr) : n0 + is.length + wl.length ≤ p := w.2.2.2.2.2.1
theorem CF.ww {K : Nat} {bs : Nat → Nat} {N q : Nat} {cs : List Int32} {s n0 : Nat} {is : Its} {wl : List Nat} {d p : Nat} {hc hr : PH} (w : CF K bs N q cs s n0 is wl d p hc hr) : StW wl hr := w.2.2.2.2.2.2.1
theorem CF.wb {K : Nat} {bs : Nat → Nat} {N q : Nat} {cs : List Int32} {s n0 : Nat} {is : Its} {wl : List Nat} {d p : Nat} {hc hr : PH} (w : CF K bs N q cs s n0 is wl d p hc hr) : ∀ w ∈ wl, w < 64 := w.2.2.2.2.2.2.2.1
theorem CF.op {K : Nat} {bs : Nat → Nat} {N q : Nat} {cs : List Int32} {s n0 : Nat} {is : Its} {wl : List Nat} {d p : Nat} {hc hr : PH} (w : CF K bs N q cs s n0 is wl d p hc hr) : hr.1 0 12 = nI d := w.2.2.2.2.2.2.2.2
theorem CF.mk {K : Nat} {bs : Nat → Nat} {N q : Nat} {cs : List Int32} {s n0 : Nat} {is : Its} {wl : List Nat} {d p : Nat} {hc hr : PH} (h0 : PT K bs N hc hr) (h1 : RS K bs N p hc hr) (h2 : CdC q cs hc) (h3 : cs.length ≤ p) (h4 : CdR s n0 is hr) (h5 : n0 + is.length + wl.length ≤ p) (h6 : StW wl hr) (h7 : ∀ w ∈ wl, w < 64) (h8 : hr.1 0 12 = nI d) : CF K bs N q cs s n0 is wl d p hc hr := ⟨h0, h1, h2, h3, h4, h5, h6, h7, h8⟩
def FEc (q p k : Nat) : Prop := ¬ (p = 2 ∧ 2 ≤ k ∧ k ≤ 4) ∧ FQ q p k
/-- broken within an expression -/
def BX (K : Nat) (bs : Nat → Nat) (N q s n0 : Nat) (hr : PH) (hc' : PH) (o : Option PH) : Prop := ∃ hr', o = some hr' ∧ BK hc' hr' ∧ LnC q hc' ∧ PT K bs N hc' hr' ∧ KP (FEr s n0) hr hr'
theorem BK.frq {q : Nat} {hc hr hc' : PH} (hq : 9 ≤ q) (bk : BK hc hr) (k : KP (FQ q) hc hc') : BK hc' hr := bk.fr (k.mono (fun p k z => by unfold FWc at z; unfold FQ; omega)) KP.rfl
theorem unit_b {q : Nat} {rc : Nat → Int32 → PH → Option PH} {a : Int32} {hc hr : PH} (hq : 9 ≤ q) (bk : BK hc hr) (ln : LnC q hc) : ∃ hc', c_X4_unit 2 q rc a hc = some hc' ∧ LnC q hc' ∧ KP (FQ q) hc hc' ∧ BK hc' hr := by
  obtain ⟨h', e, l, k⟩ := add_b (v := (hc.2.1 (2 + 1 + 3) (hc.1 2 2).toNatClampNeg).toInt32) ln
  have bk' := bk.frq hq k
  refine ⟨h', ?_, l, k, bk'⟩
  unfold c_X4_unit
  rw [bk.kind, Option.bind_some, nm_eq, if_neg (show ¬ (1 : Int32) = 40 by decide)]
  unfold c_X4_unit_j25
  rw [if_neg (show ¬ (1 : Int32) = 40 by decide), if_pos (show (1 : Int32) < 78 by decide), bk.gd, e, Option.bind_some, bk'.acc]; rfl
theorem prodL_b {q : Nat} {rc : Nat → Int32 → PH → Option PH} {a x : Int32} {F : Nat} {hc hr : PH} (bk : BK hc hr) : lq2 (c_X4_product_L8b 2 q rc a (fun h11 => some h11)) (F + 1) x hc = some hc := by
  rw [lq2_s]; unfold c_X4_product_L8b
  rw [bk.kind, Option.bind_some, if_neg (show ¬ (1 : Int32) = 42 by decide), Option.bind_some, if_neg (show ¬ (1 : Int32) = 47 by decide)]
  by_cases z : 400 < x
  · rw [if_pos z]
  · rw [if_neg z]
theorem sumL_b {q : Nat} {rc : Nat → Int32 → PH → Option PH} {a x : Int32} {F : Nat} {hc hr : PH} (bk : BK hc hr) : lq2 (c_X4_sum_L8b 2 q rc a (fun h11 => some h11)) (F + 1) x hc = some hc := by
  rw [lq2_s]; unfold c_X4_sum_L8b
  rw [bk.kind, Option.bind_some, if_neg (show ¬ (1 : Int32) = 43 by decide), Option.bind_some, if_neg (show ¬ (1 : Int32) = 45 by decide)]
  by_cases z : 400 < x
  · rw [if_pos z]
  · rw [if_neg z]
theorem prod_b {q : Nat} {rc : Nat → Int32 → PH → Option PH} {a : Int32} {hc hr : PH} (hq : 9 ≤ q) (bk : BK hc hr) (ln : LnC q hc) : ∃ hc', c_X4_product 2 q rc a hc = some hc' ∧ LnC q hc' ∧ KP (FQ q) hc hc' ∧ BK hc' hr := by
  obtain ⟨h', e, l, k, bk'⟩ := unit_b (rc := rc) (a := a) hq bk ln
  refine ⟨h', ?_, l, k, bk'⟩
  obtain ⟨f, hf⟩ : ∃ f, fu = f + 1 := ⟨8191, by unfold fu; omega⟩
  unfold c_X4_product
  rw [e, Option.bind_some, nm_eq, hf, prodL_b bk']
theorem sumB_b {q : Nat} {rc : Nat → Int32 → PH → Option PH} {a : Int32} {hc hr : PH} (hq : 9 ≤ q) (bk : BK hc hr) (ln : LnC q hc) : ∃ hc', c_X4_sumB 2 q rc a hc = some hc' ∧ LnC q hc' ∧ KP (FQ q) hc hc' ∧ BK hc' hr := by
  obtain ⟨h', e, l, k, bk'⟩ := prod_b (rc := rc) (a := a) hq bk ln
  refine ⟨h', ?_, l, k, bk'⟩
  obtain ⟨f, hf⟩ : ∃ f, fu = f + 1 := ⟨8191, by unfold fu; omega⟩
  unfold c_X4_sumB
  rw [e, Option.bind_some, nm_eq, hf, sumL_b bk']
theorem sum_b {q : Nat} {a : Int32} {hc hr : PH} (hq : 9 ≤ q) (bk : BK hc hr) (ln : LnC q hc) : ∃ hc', c_X4_sum 2 q a hc = some hc' ∧ LnC q hc' ∧ KP (FQ q) hc hc' ∧ BK hc' hr := sumB_b (rc := c_X4_sumN 2 7) hq bk ln
