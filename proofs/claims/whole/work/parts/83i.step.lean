/-- within a law's statement -/
def LwS (K : Nat) (bs : Nat → Nat) (N q s n0 : Nat) (cs : List Int32) (is : Its) (p : Nat) (hc hr : PH) : Prop := (PT K bs N hc hr) ∧ (RS K bs N p hc hr) ∧ (CdC q cs hc) ∧ (cs.length ≤ p) ∧ (CdR s n0 is hr) ∧ (n0 + is.length ≤ p) ∧ (hr.1 0 12 = 0)
theorem LwS.pt {K : Nat} {bs : Nat → Nat} {N q s n0 : Nat} {cs : List Int32} {is : Its} {p : Nat} {hc hr : PH} (w : LwS K bs N q s n0 cs is p hc hr) : PT K bs N hc hr := w.1
theorem LwS.rs {K : Nat} {bs : Nat → Nat} {N q s n0 : Nat} {cs : List Int32} {is : Its} {p : Nat} {hc hr : PH} (w : LwS K bs N q s n0 cs is p hc hr) : RS K bs N p hc hr := w.2.1
theorem LwS.cc {K : Nat} {bs : Nat → Nat} {N q s n0 : Nat} {cs : List Int32} {is : Its} {p : Nat} {hc hr : PH} (w : LwS K bs N q s n0 cs is p hc hr) : CdC q cs hc := w.2.2.1
theorem LwS.cl {K : Nat} {bs : Nat → Nat} {N q s n0 : Nat} {cs : List Int32} {is : Its} {p : Nat} {hc hr : PH} (w : LwS K bs N q s n0 cs is p hc hr) : cs.length ≤ p := w.2.2.2.1
theorem LwS.cr {K : Nat} {bs : Nat → Nat} {N q s n0 : Nat} {cs : List Int32} {is : Its} {p : Nat} {hc hr : PH} (w : LwS K bs N q s n0 cs is p hc hr) : CdR s n0 is hr := w.2.2.2.2.1
theorem LwS.cb {K : Nat} {bs : Nat → Nat} {N q s n0 : Nat} {cs : List Int32} {is : Its} {p : Nat} {hc hr : PH} (w : LwS K bs N q s n0 cs is p hc hr) : n0 + is.length ≤ p := w.2.2.2.2.2.1
theorem LwS.op {K : Nat} {bs : Nat → Nat} {N q s n0 : Nat} {cs : List Int32} {is : Its} {p : Nat} {hc hr : PH} (w : LwS K bs N q s n0 cs is p hc hr) : hr.1 0 12 = 0 := w.2.2.2.2.2.2
theorem LwS.mk {K : Nat} {bs : Nat → Nat} {N q s n0 : Nat} {cs : List Int32} {is : Its} {p : Nat} {hc hr : PH} (h0 : PT K bs N hc hr) (h1 : RS K bs N p hc hr) (h2 : CdC q cs hc) (h3 : cs.length ≤ p) (h4 : CdR s n0 is hr) (h5 : n0 + is.length ≤ p) (h6 : hr.1 0 12 = 0) : LwS K bs N q s n0 cs is p hc hr := ⟨h0, h1, h2, h3, h4, h5, h6⟩
def LwB (K : Nat) (bs : Nat → Nat) (N q : Nat) (hc hr : PH) : Prop := PT K bs N hc hr ∧ BK hc hr ∧ LnC q hc
def WwS (K : Nat) (bs : Nat → Nat) (N q s n0 : Nat) (Gd : List Int32 → Its → Nat → Prop) (hc hr : PH) : Prop := (∃ cs is p, Gd cs is p ∧ LwS K bs N q s n0 cs is p hc hr) ∨ LwB K bs N q hc hr
theorem WwS.mono {K N q s n0 : Nat} {bs : Nat → Nat} {Gd Gd' : List Int32 → Its → Nat → Prop} {hc hr : PH} (w : WwS K bs N q s n0 Gd hc hr) (h : ∀ cs is p, Gd cs is p → Gd' cs is p) : WwS K bs N q s n0 Gd' hc hr := by
  rcases w with ⟨cs, is, p, g, l⟩ | l
  · exact Or.inl ⟨cs, is, p, h cs is p g, l⟩
  · exact Or.inr l
def FLw (p k : Nat) : Prop := ¬ (31 ≤ p ∧ p ≤ 37) ∧ ¬ (p = 0 ∧ k = 46)
theorem LwS.frr {K N q s n0 p : Nat} {bs : Nat → Nat} {cs : List Int32} {is : Its} {hc hr hr' : PH} (l : LwS K bs N q s n0 cs is p hc hr) (k : KP FLw hr hr') : LwS K bs N q s n0 cs is p hc hr' := LwS.mk (l.pt.fr2 KP.rfl (k.mono (fun p k z => by unfold FLw; omega))) (l.rs.fr KP.rfl (k.mono (fun p k z => by unfold FWr at z; unfold FLw; omega))) l.cc l.cl (l.cr.fr (k.mono (fun p k z => by unfold FLw; omega))) l.cb ((k.i (by unfold FLw; omega)).trans l.op)
theorem WwS.frr {K N q s n0 : Nat} {bs : Nat → Nat} {Gd : List Int32 → Its → Nat → Prop} {hc hr hr' : PH} (w : WwS K bs N q s n0 Gd hc hr) (k : KP FLw hr hr') : WwS K bs N q s n0 Gd hc hr' := by
  rcases w with ⟨cs, is, p, g, l⟩ | l
  · exact Or.inl ⟨cs, is, p, g, l.frr k⟩
  · exact Or.inr ⟨l.1.fr2 KP.rfl (k.mono (fun p k z => by unfold FLw; omega)), l.2.1.fr KP.rfl (k.mono (fun p k z => by unfold FWr at z; unfold FLw; omega)), l.2.2⟩
/-- a row is told -/
theorem WwS.row {K N q s n0 a B : Nat} {bs : Nat → Nat} {Gd : List Int32 → Its → Nat → Prop} {hc hr hr' : PH} (w : WwS K bs N q s n0 Gd hc hr) (ha : 33 ≤ a ∧ a ≤ 37) (e : hr' = setI hr a B (hr.1 0 52)) : WwS K bs N q s n0 (fun cs is p => Gd cs is p ∧ hr'.1 a B = nI (420 * s + n0 + is.length)) hc hr' := by
  have k : KP FLw hr hr' := by rw [e]; exact KP.setI (fun z => z.1 ⟨by omega, by omega⟩)
  rcases w with ⟨cs, is, p, g, l⟩ | l
  · exact Or.inl ⟨cs, is, p, ⟨g, by rw [e, setI_eq]; exact l.cr.1⟩, l.frr k⟩
  · exact Or.inr ⟨l.1.fr2 KP.rfl (k.mono (fun p k z => by unfold FLw; omega)), l.2.1.fr KP.rfl (k.mono (fun p k z => by unfold FWr at z; unfold FLw; omega)), l.2.2⟩
theorem LwS.lim {K N q s n0 p : Nat} {bs : Nat → Nat} {cs : List Int32} {is : Its} {hc hr : PH} (l : LwS K bs N q s n0 cs is p hc hr) : p ≤ 400 := by
  have := l.pt.2.1.1; have := l.rs.2.2.2.2.1; omega
theorem accS {K N q s n0 k : Nat} {bs : Nat → Nat} {Gd : List Int32 → Its → Nat → Prop} {hc hr : PH} (hq : 9 ≤ q) (w : WwS K bs N q s n0 Gd hc hr) (hk : k < 128) (hk1 : 1 < k) (hv : validK k = true) {c c' : Int32} (e : c = nI k) (e' : c' = nI (kM k)) : ∃ hc' hr', c_X4_accept 2 c hc = some hc' ∧ c_X12_must c' hr = some hr' ∧ KP (FEc q) hc hc' ∧ KP (fun p k => ¬ (p = 0 ∧ (k = 11 ∨ k = 13 ∨ k = 14))) hr hr' ∧ WwS K bs N q s n0 (fun cs is p => ∃ p0, Gd cs is p0 ∧ p = p0 + 1) hc' hr' := by
  rcases w with ⟨cs, is, p, g, l⟩ | ⟨pt, bk, ln⟩
  · obtain ⟨hc', hr', a, b, kc, kr, pt', h⟩ := acc2 l.pt l.rs hk hk1 hv
    have pl := l.lim; have cl := l.cl; have cb := l.cb
    have kc2 : KP (FEc q) hc hc' := kc.mono (fun p k z => z.1)
    have kr2 : KP (fun p k => ¬ (p = 0 ∧ (k = 11 ∨ k = 13 ∨ k = 14))) hr hr' := kr.mono (fun p k z => z)
    have cc' : CdC q cs hc' := l.cc.fr (kc.mono (fun p k z => by unfold FAc; omega))
    refine ⟨hc', hr', by rw [e]; exact a, by rw [e']; exact b, kc2, kr2, ?_⟩
    rcases h with ⟨_, rs'⟩ | rk
    · exact Or.inl ⟨cs, is, p + 1, ⟨p, g, rfl⟩, LwS.mk pt' rs' cc' (by omega) (l.cr.fr (kr2.mono (fun p k z => by omega))) (by omega) ((kr2.i (by omega)).trans l.op)⟩
    · exact Or.inr ⟨pt', rk.bk pt', cc'.ln (by omega)⟩
  · exact ⟨hc, hr, bk.acc, bk.must, KP.rfl, KP.rfl, Or.inr ⟨pt, bk, ln⟩⟩
def Gsum (Gd : List Int32 → Its → Nat → Prop) : List Int32 → Its → Nat → Prop := fun cs is p => ∃ cs0 is0 p0 U, Gd cs0 is0 p0 ∧ OKh U 15 ∧ p0 < p ∧ p0 + U.length ≤ p ∧ cs = cs0 ++ U.map cst ∧ is = is0 ++ U
theorem sumS0 {K N q s n0 p : Nat} {bs : Nat → Nat} {cs : List Int32} {is : Its} {Gd : List Int32 → Its → Nat → Prop} {hc hr : PH} (hq : 9 ≤ q) (hs : s < 2) (g : Gd cs is p) (l : LwS K bs N q s n0 cs is p hc hr) : ∃ hc' hr', c_X4_sum 2 q 0 hc = some hc' ∧ c_X12_expression hr = some hr' ∧ KP (FEc q) hc hc' ∧ KP (FEr s n0) hr hr' ∧ WwS K bs N q s n0 (Gsum Gd) hc' hr' := by
  obtain ⟨hc', hr', a, b, kc, kr, pt', ln', h⟩ := expr_ok hq hs l.pt l.rs l.cc l.cl l.cr l.cb l.op
  refine ⟨hc', hr', a, b, kc, kr, ?_⟩
  rcases h with bk | ⟨U, p', h1, h2, rs', cc', cr', op', ok⟩
  · exact Or.inr ⟨pt', bk, ln'⟩
  · have cl := l.cl; have cb := l.cb
    exact Or.inl ⟨_, _, p', ⟨cs, is, p, U, g, ok, h1, h2, rfl, rfl⟩, LwS.mk pt' rs' cc' (by rw [List.length_append, List.length_map]; omega) cr' (by rw [List.length_append]; omega) op'⟩
theorem sumS {K N q s n0 : Nat} {bs : Nat → Nat} {Gd : List Int32 → Its → Nat → Prop} {hc hr : PH} (hq : 9 ≤ q) (hs : s < 2) (w : WwS K bs N q s n0 Gd hc hr) : ∃ hc' hr', c_X4_sum 2 q 0 hc = some hc' ∧ c_X12_expression hr = some hr' ∧ KP (FEc q) hc hc' ∧ KP (FEr s n0) hr hr' ∧ WwS K bs N q s n0 (Gsum Gd) hc' hr' := by
  rcases w with ⟨cs, is, p, g, l⟩ | ⟨pt, bk, ln⟩
  · exact sumS0 hq hs g l
  · obtain ⟨hc', hr', a, b, kc, kr, ln', bk'⟩ := expr_b hq bk ln
    exact ⟨hc', hr', a, b, kc.mono (fun _ _ z => z.2), kr.mono (fun p k z => by unfold FEr at z; omega), Or.inr ⟨(pt.frq hq kc).fr2 KP.rfl (kr.mono (fun p k z => by omega)), bk', ln'⟩⟩
/-- the reference walks an expression only where the text isn't broken -/
theorem sumS2 {K N q s n0 : Nat} {bs : Nat → Nat} {Gd : List Int32 → Its → Nat → Prop} {hc hr : PH} (hq : 9 ≤ q) (hs : s < 2) (w : WwS K bs N q s n0 Gd hc hr) : ∃ hc' hr', c_X4_sum 2 q 0 hc = some hc' ∧ (∀ (α : Type) (R : PH → Option α), (if hr.1 0 13 = 0 then (c_X12_expression hr).bind R else R hr) = R hr') ∧ KP (FEc q) hc hc' ∧ KP (FEr s n0) hr hr' ∧ WwS K bs N q s n0 (Gsum Gd) hc' hr' := by
  rcases w with ⟨cs, is, p, g, l⟩ | ⟨pt, bk, ln⟩
  · obtain ⟨hc', hr', a, b, kc, kr, w⟩ := sumS0 hq hs g l
    exact ⟨hc', hr', a, fun α R => by rw [if_pos l.rs.2.1, b]; rfl, kc, kr, w⟩
  · obtain ⟨hc', a, ln', kc, bk'⟩ := sum_b (a := 0) hq bk ln
    exact ⟨hc', hr, a, fun α R => if_neg bk.nr, kc.mono (fun _ _ z => z.2), KP.rfl, Or.inr ⟨pt.frq hq kc, bk', ln'⟩⟩
def FTm (s n0 B p k : Nat) : Prop := FEr s n0 p k ∧ ¬ ((p = 36 ∨ p = 37) ∧ k = B) ∧ ¬ (p = 0 ∧ k = 46)
theorem termS {K N q s n0 B : Nat} {bs : Nat → Nat} {Gd : List Int32 → Its → Nat → Prop} {hc hr : PH} (hq : 9 ≤ q) (hs : s < 2) (w : WwS K bs N q s n0 Gd hc hr) (b46 : hr.1 0 46 = nI B) (hB : B < 260) : ∃ hc' hr', c_X4_sum 2 q 0 hc = some hc' ∧ c_X12_term hr = some hr' ∧ KP (FEc q) hc hc' ∧ KP (FTm s n0 B) hr hr' ∧ hr'.1 0 46 = nI (B + 1) ∧ WwS K bs N q s n0 (fun cs is p => ∃ cs0 is0 p0 U, (Gd cs0 is0 p0 ∧ OKh U 15 ∧ p0 < p ∧ p0 + U.length ≤ p ∧ cs = cs0 ++ U.map cst ∧ is = is0 ++ U) ∧ hr'.1 36 B = nI (420 * s + n0 + is0.length) ∧ hr'.1 37 B = nI (420 * s + n0 + is.length)) hc' hr' := by
  obtain ⟨h1, e1⟩ : ∃ x, x = setI hr 36 B (hr.1 0 52) := ⟨_, rfl⟩
  have w1 := w.row (a := 36) (by omega) e1
  have k1 : KP (fun p k => ¬ (p = 36 ∧ k = B)) hr h1 := by rw [e1]; exact KP.setI (fun z => z ⟨rfl, rfl⟩)
  have b1 : h1.1 0 46 = nI B := (k1.i (by omega)).trans b46
  obtain ⟨hc', h4, a, b, kc, kr, w4⟩ := sumS2 hq hs w1
  have b4 : h4.1 0 46 = nI B := (kr.i (by unfold FEr; omega)).trans b1
  obtain ⟨h5, e5⟩ : ∃ x, x = setI h4 37 B (h4.1 0 52) := ⟨_, rfl⟩
  have w5 := w4.row (a := 37) (by omega) e5
  have k5 : KP (fun p k => ¬ (p = 37 ∧ k = B)) h4 h5 := by rw [e5]; exact KP.setI (fun z => z ⟨rfl, rfl⟩)
  have b5 : h5.1 0 46 = nI B := (k5.i (by omega)).trans b4
  obtain ⟨h6, e6⟩ : ∃ x, x = setI h5 0 46 (nI (B + 1)) := ⟨_, rfl⟩
  have k6 : KP (fun p k => ¬ (p = 0 ∧ k = 46)) h5 h6 := by rw [e6]; exact KP.setI (fun z => z ⟨rfl, rfl⟩)
  have w6 := w5.frr (k6.mono (fun p k z => z.2))
  have k16 : KP (fun p k => FEr s n0 p k ∧ ¬ (p = 37 ∧ k = B) ∧ ¬ (p = 0 ∧ k = 46)) h1 h6 := ((kr.mono (fun _ _ z => z.1)).trans (k5.mono (fun _ _ z => z.2.1))).trans (k6.mono (fun _ _ z => z.2.2))
  refine ⟨hc', h6, a, ?_, kc, ((k1.mono (fun p k z => by unfold FTm at z; omega)).trans (k16.mono (fun p k z => ⟨z.1, by have := z.2.1; omega, z.2.2⟩))), by rw [e6, setI_eq], ?_⟩
  · unfold c_X12_term
    rw [b46, gdI (k := B) hB (by omega), nI_clamp (n := B) (by omega), ← e1, nm_eq h1]
    refine (b PH (fun h4 => gd (ixOK (h4.1 0 46) 260) <| nm (setI h4 37 (h4.1 0 46).toNatClampNeg (h4.1 0 52)) fun h5 => nm (setI h5 0 46 ((h5.1 0 46) + 1)) fun h6 => some h6)).trans ?_
    rw [b4, gdI (k := B) hB (by omega), nI_clamp (n := B) (by omega), ← e5, nm_eq h5, b5, nI_1, ← e6]
    rfl
  · refine w6.mono (fun cs is p g => ?_)
    obtain ⟨⟨cs0, is0, p0, U, ⟨g0, r36⟩, g1, g2, g3, g4, g5⟩, r37⟩ := g
    exact ⟨cs0, is0, p0, U, ⟨g0, g1, g2, g3, g4, g5⟩, (k16.i (by unfold FEr; omega)).trans r36, (k6.i (by omega)).trans r37⟩
theorem addS {K N q s n0 : Nat} {bs : Nat → Nat} {Gd : List Int32 → Its → Nat → Prop} {hc hr : PH} (hq : 9 ≤ q) (w : WwS K bs N q s n0 Gd hc hr) (hl : ∀ cs is p, Gd cs is p → cs.length + 1 ≤ p) (v : Int32) : ∃ hc', c_X2_add q v hc = some hc' ∧ KP (FEc q) hc hc' ∧ WwS K bs N q s n0 (fun cs is p => ∃ cs1, Gd cs1 is p ∧ cs = cs1 ++ [v]) hc' hr := by
  rcases w with ⟨cs, is, p, g, l⟩ | ⟨pt, bk, ln⟩
  · have pl := l.lim; have := hl cs is p g
    obtain ⟨hc', e, cc', k⟩ := add_ok (v := v) l.cc (by omega)
    exact ⟨hc', e, k.mono (fun _ _ z => z.2), Or.inl ⟨_, is, p, ⟨cs, g, rfl⟩, LwS.mk (l.pt.frq hq k) (l.rs.frq hq k) cc' (by rw [List.length_append]; exact this) l.cr l.cb l.op⟩⟩
  · obtain ⟨hc', e, ln', k⟩ := add_b (v := v) ln
    exact ⟨hc', e, k.mono (fun _ _ z => z.2), Or.inr ⟨pt.frq hq k, bk.frq hq k, ln'⟩⟩
theorem unlS {K N q s n0 : Nat} {bs : Nat → Nat} {Gd : List Int32 → Its → Nat → Prop} {hc hr : PH} (hq : 9 ≤ q) (w : WwS K bs N q s n0 Gd hc hr) (hl : ∀ cs is p, Gd cs is p → cs.length + 2 ≤ p) : ∃ v hc', c_X2_addUnlessLess q hc = some (v, hc') ∧ KP (FEc q) hc hc' ∧ WwS K bs N q s n0 (fun cs is p => ∃ cs1, Gd cs1 is p ∧ cs = cs1 ++ [-2] ++ [0] ∧ v = nI (cs1.length + 1)) hc' hr := by
  obtain ⟨hc1, e1, k1, w1⟩ := addS hq w (fun cs is p g => by have := hl cs is p g; omega) (-2)
  obtain ⟨hc2, e2, k2, w2⟩ := addS hq w1 (fun cs is p g => by
    obtain ⟨cs1, g1, e⟩ := g
    have := hl cs1 is p g1
    rw [e, List.length_append]; show cs1.length + 1 + 1 ≤ p; omega) 0
  unfold c_X2_addUnlessLess
  rw [e1, Option.bind_some, e2, Option.bind_some]
  refine ⟨_, hc2, rfl, k1.trans k2, ?_⟩
  rcases w2 with ⟨cs, is, p, ⟨cs2, ⟨cs1, g, e3⟩, e4⟩, l⟩ | l
  · refine Or.inl ⟨cs, is, p, ⟨cs1, g, by rw [e4, e3], ?_⟩, l⟩
    rw [l.cc.1, e4, e3, List.length_append, List.length_append]
    exact nI_pred _
  · exact Or.inr l
theorem set_mid (y x : Int32) (Q : List Int32) : ∀ P : List Int32, (P ++ y :: Q).set P.length x = P ++ x :: Q
  | [] => rfl
  | a :: P => congrArg (a :: ·) (set_mid y x Q P)
theorem landS {K N q s n0 : Nat} {bs : Nat → Nat} {Gd : List Int32 → Its → Nat → Prop} {hc hr : PH} {v : Int32} {W : List Int32 → Int32 → List Int32 → Its → Nat → Prop} (hq : 9 ≤ q) (w : WwS K bs N q s n0 Gd hc hr) (hl : ∀ cs is p, Gd cs is p → ∃ P y Q, W P y Q is p ∧ cs = P ++ y :: Q ∧ v = nI P.length) : ∃ hc', c_X2_landHere q v hc = some hc' ∧ KP (FEc q) hc hc' ∧ WwS K bs N q s n0 (fun cs is p => ∃ P y Q, W P y Q is p ∧ cs = P ++ nI (P ++ y :: Q).length :: Q) hc' hr := by
  have kS : ∀ (h : PH) (j : Nat) (x : Int32), KP (FQ q) h (setI h (q + 1) j x) := fun h j x => KP.setI (fun z => z.2 rfl)
  unfold c_X2_landHere
  rcases w with ⟨cs, is, p, g, l⟩ | ⟨pt, bk, ln⟩
  · have pl := l.lim; have cl := l.cl
    obtain ⟨P, y, Q, w0, e1, e2⟩ := hl cs is p g
    have lc : cs.length = P.length + (Q.length + 1) := by rw [e1, List.length_append]; rfl
    rw [e2, if_neg (nI_pos (by omega)), l.cc.1, if_neg (nI_ge (a := P.length) (b := cs.length) (by omega) (by omega)), gdI (k := P.length) (by omega) (by omega), nI_clamp (n := P.length) (by omega), nm_eq]
    have k := kS hc P.length (nI cs.length)
    have cc' : CdC q (P ++ nI (P ++ y :: Q).length :: Q) (setI hc (q + 1) P.length (nI cs.length)) := by
      refine ⟨?_, fun i x z => ?_⟩
      · rw [setI_ne (by omega), l.cc.1, lc, List.length_append]; rfl
      · by_cases u : i = P.length
        · rw [u, List.getElem?_append_right (Nat.le_refl _), Nat.sub_self, List.getElem?_cons_zero] at z
          rw [u, setI_eq, ← Option.some.inj z, e1]
        · rw [setI_ne (by omega)]
          refine l.cc.2 i x ?_
          rw [e1]
          by_cases u2 : i < P.length
          · rw [List.getElem?_append_left u2] at z ⊢; exact z
          · obtain ⟨j, hj⟩ : ∃ j, i - P.length = j + 1 := ⟨i - P.length - 1, by omega⟩
            rw [List.getElem?_append_right (by omega), hj, List.getElem?_cons_succ] at z ⊢; exact z
    refine ⟨_, rfl, k.mono (fun _ _ z => z.2), Or.inl ⟨_, is, p, ⟨P, y, Q, w0, rfl⟩, LwS.mk (l.pt.frq hq k) (l.rs.frq hq k) cc' ?_ l.cr l.cb l.op⟩⟩
    rw [List.length_append]; show P.length + (Q.length + 1) ≤ p; omega
  · obtain ⟨n, hn, e⟩ := ln
    by_cases z : v < 0
    · rw [if_pos z]; exact ⟨hc, rfl, KP.rfl, Or.inr ⟨pt, bk, n, hn, e⟩⟩
    · obtain ⟨j, hj, rfl⟩ := nI_of z
      rw [if_neg z, e]
      by_cases u : n ≤ j
      · rw [if_pos (nI_le u hj)]; exact ⟨hc, rfl, KP.rfl, Or.inr ⟨pt, bk, n, hn, e⟩⟩
      · rw [if_neg (nI_ge (a := j) (b := n) (by omega) (by omega)), gdI (k := j) (by omega) (by omega), nI_clamp (n := j) (by omega), nm_eq]
        have k := kS hc j (nI n)
        exact ⟨_, rfl, k.mono (fun _ _ z => z.2), Or.inr ⟨pt.frq hq k, bk.frq hq k, n, hn, by rw [setI_ne (by omega)]; exact e⟩⟩
