def brCl (q : Nat) (REC : Int32 → PH → Option PH) (x3 : Int32) (h : PH) : Option PH :=
  (c_X4_open 2 75 x3 4 h).bind fun h6 => (c_X4_sum 2 q 0 h6).bind fun h7 => (c_X4_accept 2 60 h7).bind fun h8 => (c_X4_sum 2 q 0 h8).bind fun h9 => (c_X4_accept 2 76 h9).bind fun h10 => bind2 (c_X2_addUnlessLess q h10) fun r11 h12 => nm r11 fun v13 => (c_X4_sum 2 q 0 h12).bind fun h14 => (c_X2_add q (-1) h14).bind fun h15 => (c_X4_accept 2 77 h15).bind fun h16 => (c_X2_landHere q v13 h16).bind fun h17 => nm (x3 + 1) fun v18 => REC v18 h17
theorem L17_eq (q : Nat) (K1 : PH → Option PH) (REC : Int32 → PH → Option PH) (x3 : Int32) (h : PH) : c_X4_tellLaw_L17b 2 q K1 REC x3 h = if 4 < x3 then K1 h else (c_X4_kind 2 h).bind fun r5 => if r5 = 75 then brCl q REC x3 h else K1 h := rfl
def FBr (s n0 B p k : Nat) : Prop := FEr s n0 p k ∧ ¬ ((33 ≤ p ∧ p ≤ 37) ∧ k = B) ∧ ¬ (p = 0 ∧ k = 46)
def Gbr (s n0 B : Nat) (cs0 : List Int32) (is0 : Its) (p0 : Nat) (hr : PH) : List Int32 → Its → Nat → Prop := fun cs is p => ∃ x : Br, brOK x ∧ cs = cs0 ++ brC cs0.length x ∧ is = is0 ++ (x.1 ++ (x.2.1 ++ x.2.2)) ∧ p0 + 4 + brL x ≤ p ∧ hr.1 33 B = 1 ∧ hr.1 34 B = nI (420 * s + n0 + is0.length) ∧ hr.1 35 B = nI (420 * s + n0 + is0.length + x.1.length) ∧ hr.1 36 B = nI (420 * s + n0 + is0.length + x.1.length + x.2.1.length) ∧ hr.1 37 B = nI (420 * s + n0 + is0.length + brL x)
theorem brStep {K N q s n0 j B p0 : Nat} {bs : Nat → Nat} {cs0 : List Int32} {is0 : Its} {hc hr : PH} {z1 z2 : Int32} {K1 K2 : PH → Option PH} (hq : 9 ≤ q) (hs : s < 2) (hj : j < 4) (l : LwS K bs N q s n0 cs0 is0 p0 hc hr) (tk : tK K bs p0 = 75) (b46 : hr.1 0 46 = nI B) (hB : B < 260) (R1 R2 : Int32 → PH → Option PH) : ∃ hc' hr', brCl q R1 (nI j) hc = R1 (nI (j + 1)) hc' ∧ c_X12_tellLaw_j38 z1 z2 K1 K2 R2 (nI j) hr = R2 (nI (j + 1)) hr' ∧ KP (FEc q) hc hc' ∧ KP (FBr s n0 B) hr hr' ∧ hr'.1 0 46 = nI (B + 1) ∧ WwS K bs N q s n0 (Gbr s n0 B cs0 is0 p0 hr') hc' hr' := by
  have pl := l.lim; have cl := l.cl; have cb := l.cb
  obtain ⟨hc1, hr1, a1, b1, kc1, kr1, pt1, h1⟩ := goes3 (q := q) l.pt l.rs (k := 75) (by omega) (by omega) tk rfl
  have o1 : c_X4_open 2 75 (nI j) 4 hc = some hc1 := by
    unfold c_X4_open
    rw [if_pos (show nI j < 4 from nI_lt (b := 4) hj (by omega)), show c_X4_accept 2 75 hc = some hc1 from a1]; rfl
  have cc1 : CdC q cs0 hc1 := l.cc.fr (kc1.mono (fun p k z => by omega))
  have w1 : WwS K bs N q s n0 (fun cs is p => cs = cs0 ∧ is = is0 ∧ p = p0 + 1) hc1 hr1 := by
    rcases h1 with rs | bk
    · exact Or.inl ⟨cs0, is0, p0 + 1, ⟨rfl, rfl, rfl⟩, LwS.mk pt1 rs cc1 (by omega) (l.cr.fr (kr1.mono (fun p k z => by omega))) (by omega) ((kr1.i (by omega)).trans l.op)⟩
    · exact Or.inr ⟨pt1, bk, cc1.ln (by omega)⟩
  have b1' : hr1.1 0 46 = nI B := (kr1.i (by omega)).trans b46
  obtain ⟨h7, e7⟩ : ∃ x, x = setI hr1 33 B (1 : Int32) := ⟨_, rfl⟩
  have k7 : KP (fun p k => ¬ (p = 33 ∧ k = B)) hr1 h7 := by rw [e7]; exact KP.setI (fun z => z ⟨rfl, rfl⟩)
  have w7 := w1.frr (k7.mono (fun p k z => by unfold FLw at z; omega))
  have b7 : h7.1 0 46 = nI B := (k7.i (by omega)).trans b1'
  obtain ⟨h8, e8⟩ : ∃ x, x = setI h7 34 B (h7.1 0 52) := ⟨_, rfl⟩
  have k8 : KP (fun p k => ¬ (p = 34 ∧ k = B)) h7 h8 := by rw [e8]; exact KP.setI (fun z => z ⟨rfl, rfl⟩)
  have w8 := w7.row (a := 34) (by omega) e8
  have b8 : h8.1 0 46 = nI B := (k8.i (by omega)).trans b7
  obtain ⟨hc2, h9, a2, b2, kc2, kr2, w9⟩ := sumS hq hs w8
  obtain ⟨hc3, h10, a3, b3, kc3, kr3, w10⟩ := accS hq w9 (k := 60) (by omega) (by omega) rfl (c := 60) (c' := 13) rfl rfl
  have b10 : h10.1 0 46 = nI B := (kr3.i (by omega)).trans ((kr2.i (by unfold FEr; omega)).trans b8)
  obtain ⟨h11, e11⟩ : ∃ x, x = setI h10 35 B (h10.1 0 52) := ⟨_, rfl⟩
  have k11 : KP (fun p k => ¬ (p = 35 ∧ k = B)) h10 h11 := by rw [e11]; exact KP.setI (fun z => z ⟨rfl, rfl⟩)
  have w11 := w10.row (a := 35) (by omega) e11
  have b11 : h11.1 0 46 = nI B := (k11.i (by omega)).trans b10
  obtain ⟨hc4, h15, a4, b4, kc4, kr4, w15⟩ := sumS2 hq hs w11
  obtain ⟨hc5, h16, a5, b5, kc5, kr5, w16⟩ := accS hq w15 (k := 76) (by omega) (by omega) rfl (c := 76) (c' := 32) rfl rfl
  have b16 : h16.1 0 46 = nI B := (kr5.i (by omega)).trans ((kr4.i (by unfold FEr; omega)).trans b11)
  have w16' : WwS K bs N q s n0 (fun cs is p => ∃ A C : Its, OKh A 15 ∧ OKh C 15 ∧ p0 + 3 + A.length + C.length ≤ p ∧ cs = cs0 ++ A.map cst ++ C.map cst ∧ is = is0 ++ A ++ C ∧ h8.1 34 B = nI (420 * s + n0 + is0.length) ∧ h11.1 35 B = nI (420 * s + n0 + (is0.length + A.length))) hc5 h16 := w16.mono (fun cs is p g => by
    obtain ⟨p5, ⟨cs4, is4, p4, C, ⟨⟨p3, ⟨cs2, is2, p2, A, ⟨⟨e1, e2, e3⟩, r34⟩, okA, hA1, hA2, e4, e5⟩, e6⟩, r35⟩, okC, hC1, hC2, e7, e8⟩, e9⟩ := g
    refine ⟨A, C, okA, okC, by omega, by rw [e7, e4, e1], by rw [e8, e5, e2], by rw [r34, e2], by rw [r35, e5, e2, List.length_append]⟩)
  obtain ⟨v, hc6, a6, kc6, w17⟩ := unlS hq w16' (fun cs is p g => by
    obtain ⟨A, C, _, _, g3, g4, _⟩ := g
    rw [g4, List.length_append, List.length_append, List.length_map, List.length_map]; omega)
  obtain ⟨hc7, h17, a7, b7', kc7, kr7, b17, w18⟩ := termS hq hs w17 b16 hB
  have w18' : WwS K bs N q s n0 (fun cs is p => ∃ A C D : Its, OKh A 15 ∧ OKh C 15 ∧ OKh D 15 ∧ p0 + 3 + A.length + C.length + D.length ≤ p ∧ cs = cs0 ++ A.map cst ++ C.map cst ++ [-2] ++ [0] ++ D.map cst ∧ v = nI (cs0 ++ A.map cst ++ C.map cst ++ [-2]).length ∧ is = is0 ++ A ++ C ++ D ∧ h8.1 34 B = nI (420 * s + n0 + is0.length) ∧ h11.1 35 B = nI (420 * s + n0 + (is0.length + A.length)) ∧ h17.1 36 B = nI (420 * s + n0 + (is0.length + A.length + C.length)) ∧ h17.1 37 B = nI (420 * s + n0 + (is0.length + A.length + C.length + D.length))) hc7 h17 := w18.mono (fun cs is p g => by
    obtain ⟨cs2, is2, p2, D, ⟨⟨cs1, ⟨A, C, okA, okC, g3, g4, g5, r34, r35⟩, ev1, ev2⟩, okD, d1, d2, d3, d4⟩, r36, r37⟩ := g
    refine ⟨A, C, D, okA, okC, okD, by omega, by rw [d3, ev1, g4], by rw [ev2, g4]; exact congrArg nI (List.length_append (as := cs0 ++ A.map cst ++ C.map cst) (bs := [-2])).symm, by rw [d4, g5], r34, r35, by rw [r36, g5, List.length_append, List.length_append], by rw [r37, d4, g5, List.length_append, List.length_append, List.length_append]⟩)
  obtain ⟨hc8, a8, kc8, w19⟩ := addS hq w18' (fun cs is p g => by
    obtain ⟨A, C, D, _, _, _, g3, g4, _⟩ := g
    rw [g4]; simp only [List.length_append, List.length_map, List.length_cons, List.length_nil]; omega) (-1)
  obtain ⟨hc9, h18, a9, b9, kc9, kr9, w20⟩ := accS hq w19 (k := 77) (by omega) (by omega) rfl (c := 77) (c' := 33) rfl rfl
  obtain ⟨hc10, a10, kc10, w21⟩ := landS (v := v) (W := fun P y Q is p => ∃ A C D : Its, OKh A 15 ∧ OKh C 15 ∧ OKh D 15 ∧ p0 + 4 + A.length + C.length + D.length ≤ p ∧ P = cs0 ++ A.map cst ++ C.map cst ++ [-2] ∧ Q = D.map cst ++ [-1] ∧ is = is0 ++ A ++ C ++ D ∧ h8.1 34 B = nI (420 * s + n0 + is0.length) ∧ h11.1 35 B = nI (420 * s + n0 + (is0.length + A.length)) ∧ h17.1 36 B = nI (420 * s + n0 + (is0.length + A.length + C.length)) ∧ h17.1 37 B = nI (420 * s + n0 + (is0.length + A.length + C.length + D.length))) hq w20 (fun cs is p g => by
    obtain ⟨p9, ⟨cs9, ⟨A, C, D, okA, okC, okD, g3, g4, g5, g6, r34, r35, r36, r37⟩, e9⟩, ep⟩ := g
    refine ⟨cs0 ++ A.map cst ++ C.map cst ++ [-2], 0, D.map cst ++ [-1], ⟨A, C, D, okA, okC, okD, by omega, rfl, rfl, g6, r34, r35, r36, r37⟩, ?_, g5⟩
    rw [e9, g4]; simp only [List.append_assoc, List.cons_append, List.nil_append])
  have kE : KP (fun p k => FEr s n0 p k ∧ ¬ ((33 ≤ p ∧ p ≤ 37) ∧ k = B) ∧ ¬ (p = 0 ∧ k = 46)) hr h18 := ((((((((kr1.mono (fun p k z => by have := z.1; unfold FEr at this; omega)).trans (k7.mono (fun p k z => by omega))).trans (k8.mono (fun p k z => by omega))).trans (kr2.mono (fun _ _ z => z.1))).trans (kr3.mono (fun p k z => by have := z.1; unfold FEr at this; omega))).trans (k11.mono (fun p k z => by omega))).trans (kr4.mono (fun _ _ z => z.1))).trans (kr5.mono (fun p k z => by have := z.1; unfold FEr at this; omega))).trans ((kr7.mono (fun p k z => ⟨z.1, by omega, z.2.2⟩)).trans (kr9.mono (fun p k z => by have := z.1; unfold FEr at this; omega)))
  have k8F : KP (fun p k => 33 ≤ p ∧ p ≤ 34) h8 h18 := ((((((kr2.mono (fun p k z => by unfold FEr; omega)).trans (kr3.mono (fun p k z => by omega))).trans (k11.mono (fun p k z => by omega))).trans (kr4.mono (fun p k z => by unfold FEr; omega))).trans (kr5.mono (fun p k z => by omega))).trans (kr7.mono (fun p k z => by unfold FTm FEr; omega))).trans (kr9.mono (fun p k z => by omega))
  have k11F : KP (fun p k => p = 35) h11 h18 := (((kr4.mono (fun p k z => by unfold FEr; omega)).trans (kr5.mono (fun p k z => by omega))).trans (kr7.mono (fun p k z => by unfold FTm FEr; omega))).trans (kr9.mono (fun p k z => by omega))
  refine ⟨hc10, h18, ?_, ?_, ((((((((kc1.mono (fun _ _ z => z.1)).trans kc2).trans kc3).trans kc4).trans kc5).trans kc6).trans kc7).trans kc8).trans (kc9.trans kc10), kE.mono (fun p k z => z), (kr9.i (by omega)).trans b17, ?_⟩
  · unfold brCl
    rw [o1, Option.bind_some, a2, Option.bind_some, a3, Option.bind_some, a4, Option.bind_some, a5, Option.bind_some, a6, b2_some, nm_eq, a7, Option.bind_some, a8, Option.bind_some, a9, Option.bind_some, a10, Option.bind_some, nI_1, nm_eq]
  · unfold c_X12_tellLaw_j38
    rw [l.rs.2.1, if_pos (show (0 : Int32) ≤ 0 by decide), nI_1, nm_eq, b1, Option.bind_some, b1', gdI (k := B) hB (by omega), nI_clamp (n := B) (by omega), nar1, ← e7, nm_eq h7, b7, gdI (k := B) hB (by omega), nI_clamp (n := B) (by omega), ← e8, nm_eq h8, b2, Option.bind_some, b3, Option.bind_some, b10, gdI (k := B) hB (by omega), nI_clamp (n := B) (by omega), ← e11, nm_eq h11]
    refine (b4 PH (fun h15 => (c_X12_must 32 h15).bind fun h16 => (c_X12_term h16).bind fun h17 => (c_X12_must 33 h17).bind fun h18 => R2 (nI (j + 1)) h18)).trans ?_
    rw [b5, Option.bind_some, b7', Option.bind_some, b9, Option.bind_some]
  · refine w21.mono (fun cs is p g => ?_)
    obtain ⟨P, y, Q, ⟨A, C, D, okA, okC, okD, g3, g4, g5, g6, r34, r35, r36, r37⟩, ec⟩ := g
    have lb : brL (A, C, D) = A.length + C.length + D.length := rfl
    refine ⟨(A, C, D), ⟨okA, okC, okD⟩, ?_, by rw [g6]; simp only [List.append_assoc], by omega, ?_, ?_, ?_, ?_, ?_⟩
    · have ln : (P ++ y :: Q).length = cs0.length + brL (A, C, D) + 3 := by
        rw [g4, g5, lb]; simp only [List.length_append, List.length_map, List.length_cons, List.length_nil]; omega
      rw [ec, ln, g4, g5]
      unfold brC
      simp only [List.append_assoc, List.cons_append, List.nil_append]
    · rw [k8F.i (by omega), k8.i (by omega), e7, setI_eq]
    · rw [k8F.i (by omega)]; exact r34
    · rw [k11F.i rfl, r35]; exact congrArg nI (by show _ = 420 * s + n0 + is0.length + A.length; omega)
    · rw [kr9.i (by omega), r36]; exact congrArg nI (by show _ = 420 * s + n0 + is0.length + A.length + C.length; omega)
    · rw [kr9.i (by omega), r37, lb]; congr 1; omega
