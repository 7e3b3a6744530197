theorem forX_snoc {α β : Type} {g : Nat → α → α ⊕ β} : ∀ (n i : Nat) (x : α), forX g (n + 1) i x = Sum.elim (g (i + n)) Sum.inr (forX g n i x)
  | 0, i, x => by
    show Sum.elim (fun y => forX g 0 (i + 1) y) Sum.inr (g i x) = g (i + 0) x
    rw [Nat.add_zero]
    cases g i x <;> rfl
  | n + 1, i, x => by
    show Sum.elim (fun y => forX g (n + 1) (i + 1) y) Sum.inr (g i x) = Sum.elim (g (i + (n + 1))) Sum.inr (Sum.elim (fun y => forX g n (i + 1) y) Sum.inr (g i x))
    cases g i x with
    | inl y =>
      show forX g (n + 1) (i + 1) y = Sum.elim (g (i + (n + 1))) Sum.inr (forX g n (i + 1) y)
      rw [forX_snoc n (i + 1) y, show i + 1 + n = i + (n + 1) by omega]
    | inr b => rfl
def subs (l q : Nat) : Int32 := forS (fun i x => x * (nI l - nI i) / nI (i + 1)) q 1
theorem subs0 : ∀ l, l < 10 → ∀ q, q < 10 → l < q → subs l q = 0 := by decide +kernel
theorem subsC {l q : Nat} (hq : q ≤ 9) : c_X6_subsets (nI l) (nI q) = some (subs l q) := by
  unfold c_X6_subsets subs
  simp only [nm_p]
  refine for_f (K := fun w5 => some w5) (N := q) _ (by omega) (fun REC i y hi => ?_) (fun REC y => ?_) 1
  · unfold c_X6_subsets_L4b
    rw [if_neg (nI_ge hi (by omega)), nI_1, if_neg (nI_ne0 (by omega) (by omega)), nm_eq, nm_eq]
  · unfold c_X6_subsets_L4b
    rw [if_pos (nI_le (by omega) (by omega))]
theorem subsR {l q : Nat} (hq : q ≤ 9) : c_X12_chosen (nI l) (nI q) = some (subs l q) := by
  unfold c_X12_chosen subs
  simp only [nm_p]
  refine for_f (K := fun w5 => some w5) (N := q) _ (by omega) (fun REC i y hi => ?_) (fun REC y => ?_) 1
  · unfold c_X12_chosen_L4b
    rw [if_neg (nI_ge hi (by omega)), nI_1, if_neg (nI_ne0 (by omega) (by omega)), nm_eq, nm_eq]
  · unfold c_X12_chosen_L4b
    rw [if_pos (nI_le (by omega) (by omega))]
def ofC (T : TX) (a : Nat) : Nat := cntB (fun d => T.dman d == a) T.dut
theorem ofC_le {T : TX} (w : T.wf) (a : Nat) : ofC T a ≤ 9 := Nat.le_trans (cnt_le _ _) w.dut
theorem dutiesC {t : Nat} {T : TX} {h : PH} (w : T.wf) (xc : TxC t T h) {a : Nat} (ha : a < 1000) : c_X6_dutiesOf t (nI a) h = some (nI (ofC T a)) := by
  have w1 := w.men; have w2 := w.dut
  unfold c_X6_dutiesOf ofC
  simp only [nm_p]
  rw [← cnt_for]
  refine for_f (K := fun w8 => some w8) _ (by omega) (fun REC i y hi => ?_) (fun REC y => ?_) 0
  · unfold c_X6_dutiesOf_L4b
    have d1 := w.dman i hi
    rw [xc.dut, if_neg (nI_ge hi (by omega)), gdI (k := i) (by omega) (by omega), nI_clamp (by omega), xc.dman i hi, ite_cg (nI_eq (a := T.dman i) (b := a) (by omega) (by omega))]
    simp only [nm_p, nI_1, Int32.add_zero, beq_iff_eq]
    by_cases q : T.dman i = a
    · rw [if_pos q, if_pos q]
    · rw [if_neg q, if_neg q]
  · unfold c_X6_dutiesOf_L4b
    rw [xc.dut, if_pos (nI_le (by omega) (by omega))]
theorem dutiesR {T : TX} {s : Nat} {h : PH} (w : T.wf) (hs : s < 2) (l : h.1 0 18 = nI s) (xr : TxR s T h) {a : Nat} (ha : a < 1000) {ρ : Type} (K : Int32 → Option ρ) : lq2 (c_X12_fits_L123b (nI a) h K) fu 0 0 = K (nI (ofC T a)) := by
  have w1 := w.men; have w2 := w.dut
  unfold ofC
  rw [← cnt_for]
  refine for_f (K := K) _ (by omega) (fun REC i y hi => ?_) (fun REC y => ?_) 0
  · unfold c_X12_fits_L123b
    have d1 := w.dman i hi
    rw [l, live_gd hs, nI_clamp (by omega), xr.dut, if_neg (nI_ge hi (by omega)), manOf_ok w hs l xr hi, Option.bind_some, ite_cg (nI_eq (a := T.dman i) (b := a) (by omega) (by omega))]
    simp only [nm_p, nI_1, beq_iff_eq]
    by_cases q : T.dman i = a
    · rw [if_pos q, if_pos q]
    · rw [if_neg q, if_neg q]
  · unfold c_X12_fits_L123b
    rw [l, live_gd hs, nI_clamp (by omega), xr.dut, if_pos (nI_le (by omega) (by omega))]
/-- what is known of each: -1, or a number -/
def DueOK (D : Nat → Int32) : Prop := ∀ j, j < 7 → D j = -1 ∨ ∃ q, q ≤ 9 ∧ D j = nI q
def wG (D : Nat → Int32) (j : Nat) (x : Nat × Int32 × Int32) : (Nat × Int32 × Int32) ⊕ Unit := if D j = -1 then .inl (x.1, x.2.1, x.2.2 + 1) else if (D j).toNatClampNeg ≤ x.1 then .inl (x.1 - (D j).toNatClampNeg, x.2.1 * subs x.1 (D j).toNatClampNeg, x.2.2) else .inr ()
theorem wG_le {D : Nat → Int32} {l0 : Nat} : ∀ (n : Nat) (x : Nat × Int32 × Int32), forX (wG D) n 0 (l0, 1, 1) = .inl x → x.1 ≤ l0
  | 0, x, h => by
    have : (l0, (1 : Int32), (1 : Int32)) = x := by simpa [forX] using h
    rw [← this]; exact Nat.le_refl _
  | n + 1, x, h => by
    rw [forX_snoc, Nat.zero_add] at h
    cases e : forX (wG D) n 0 (l0, 1, 1) with
    | inl y =>
      rw [e] at h
      have ih := wG_le n y e
      have h : wG D n y = .inl x := h
      unfold wG at h
      by_cases q1 : D n = -1
      · rw [if_pos q1] at h
        have : (y.1, y.2.1, y.2.2 + 1) = x := by simpa using h
        rw [← this]; exact ih
      · rw [if_neg q1] at h
        by_cases q2 : (D n).toNatClampNeg ≤ y.1
        · rw [if_pos q2] at h
          have : (y.1 - (D n).toNatClampNeg, y.2.1 * subs y.1 (D n).toNatClampNeg, y.2.2) = x := by simpa using h
          rw [← this]; show y.1 - (D n).toNatClampNeg ≤ l0; omega
        · rw [if_neg q2] at h; simp at h
    | inr b => rw [e] at h; simp at h
def powS (w c : Int32) (l : Nat) : Int32 := forS (fun _ x => x * c) l w
theorem pow0 (c : Int32) : ∀ l, powS 0 c l = 0
  | 0 => rfl
  | l + 1 => by show powS 0 c l * c = 0; rw [pow0 c l, Int32.zero_mul]
def waysV (D : Nat → Int32) (T : TX) (a : Nat) : Int32 := Sum.elim (fun x => powS x.2.1 x.2.2 x.1) (fun _ => 0) (forX (wG D) T.exc 0 (ofC T a, 1, 1))
theorem waysR {T : TX} {s : Nat} {h : PH} {D : Nat → Int32} (w : T.wf) (hs : s < 2) (l : h.1 0 18 = nI s) (xr : TxR s T h) {a : Nat} (hD : DueOK D) (hd : ∀ j, j < 7 → h.1 53 j = D j) : lq4 (c_X12_fits_L165b h (some ((0 : Int32), h)) (fun w32 w33 w34 => nm (0 : Int32) fun v35 => lq2 (c_X12_fits_L243b w32 w34 h (fun w38 => some (w38, h))) fu w33 v35)) fu (nI (ofC T a)) 1 1 0 = some (waysV D T a, h) := by
  have w3 := w.exc
  have c9 := ofC_le w a
  rw [lq4_l]
  -- the first three, as a triple with a number ahead
  have main : ∀ (n i g : Nat) (x : Nat × Int32 × Int32), i + n = T.exc → x.1 ≤ 9 → lq2 (fun REC (t : Int32 × Int32 × Int32) i => c_X12_fits_L165b h (some ((0 : Int32), h)) (fun w32 w33 w34 => nm (0 : Int32) fun v35 => lq2 (c_X12_fits_L243b w32 w34 h (fun w38 => some (w38, h))) fu w33 v35) (fun a c d i => REC (a, c, d) i) t.1 t.2.1 t.2.2 i) (g + n + 1) (nI x.1, x.2.1, x.2.2) (nI i) = some (Sum.elim (fun x => powS x.2.1 x.2.2 x.1) (fun _ => 0) (forX (wG D) n i x), h) := by
    intro n
    induction n with
    | zero =>
      intro i g x hi hx
      have : i = T.exc := by omega
      subst this
      rw [lq2_s]
      unfold c_X12_fits_L165b
      rw [l, live_gd hs, nI_clamp (by omega), xr.exc, if_pos (nI_le (by omega) (by omega))]
      simp only [nm_p]
      show lq2 _ fu x.2.1 0 = some (powS x.2.1 x.2.2 x.1, h)
      unfold powS
      refine for_f (K := fun w38 => some (w38, h)) (N := x.1) _ (by omega) (fun REC i y hi => ?_) (fun REC y => ?_) x.2.1
      · unfold c_X12_fits_L243b
        rw [if_neg (nI_ge hi (by omega))]; simp only [nm_p, nI_1]
      · unfold c_X12_fits_L243b
        rw [if_pos (nI_le (by omega) (by omega))]
    | succ n ih =>
      intro i g x hi hx
      have hi7 : i < 7 := by omega
      rw [show g + (n + 1) + 1 = (g + n + 1) + 1 from by omega, lq2_s]
      generalize hR : lq2 (fun REC (t : Int32 × Int32 × Int32) i => c_X12_fits_L165b h (some ((0 : Int32), h)) (fun w32 w33 w34 => nm (0 : Int32) fun v35 => lq2 (c_X12_fits_L243b w32 w34 h (fun w38 => some (w38, h))) fu w33 v35) (fun a c d i => REC (a, c, d) i) t.1 t.2.1 t.2.2 i) (g + n + 1) = REC
      unfold c_X12_fits_L165b
      rw [l, live_gd hs, nI_clamp (n := s) (by omega), xr.exc, if_neg (nI_ge (show i < T.exc by omega) (by omega)), nI_clamp (n := i) (by omega), hd i hi7]
      simp only [gdI hi7 (show 7 < 2 ^ 31 by omega), nm]
      show _ = some (Sum.elim _ _ (Sum.elim (fun y => forX (wG D) n (i + 1) y) Sum.inr (wG D i x)), h)
      unfold wG
      rcases hD i hi7 with q | ⟨q, hq, e⟩
      · rw [q, if_neg (show ¬ (0 : Int32) ≤ -1 by decide), if_pos rfl, nI_1, ← hR]
        exact ih (i + 1) g (x.1, x.2.1, x.2.2 + 1) (by omega) hx
      · rw [e, if_pos (nI_pos' (by omega)), if_neg (c := nI q = -1) (nI_nem1 (by omega)), nI_clamp (by omega), ite_cg (nI_leI (a := q) (b := x.1) (by omega) (by omega))]
        by_cases u : q ≤ x.1
        · rw [if_pos u, if_pos u, subsR hq, Option.bind_some, pk_sub u, nI_1, ← hR]
          exact ih (i + 1) g (x.1 - q, x.2.1 * subs x.1 q, x.2.2) (by omega) (by show x.1 - q ≤ 9; omega)
        · rw [if_neg u, if_neg u]; rfl
  have := main T.exc 0 (8191 - T.exc) (ofC T a, 1, 1) (by omega) c9
  rw [← fu_n (show T.exc ≤ 8000 by omega), nI_0] at this
  exact this
theorem waysC {T : TX} {t : Nat} {h : PH} {D : Nat → Int32} (w : T.wf) (xc : TxC t T h) {a : Nat} (hD : DueOK D) (hd : ∀ j, j < 7 → h.1 238 j = D j) : lq4 (c_X6_ways_L27b 234 t h (fun w14 w15 w16 => nm (0 : Int32) fun v17 => lq2 (c_X6_ways_L95b 234 t w14 w15 h (fun w20 => some (w20, h))) fu w16 v17)) fu (nI (ofC T a)) 1 1 0 = some (waysV D T a, h) := by
  have w3 := w.exc
  have c9 := ofC_le w a
  have fin : ∀ (l : Nat) (c v : Int32), l ≤ 9 → lq2 (c_X6_ways_L95b 234 t (nI l) c h (fun w20 => some (w20, h))) fu v 0 = some (powS v c l, h) := fun l c v hl => by
    unfold powS
    refine for_f (K := fun w38 => some (w38, h)) (N := l) _ (by omega) (fun REC i y hi => ?_) (fun REC y => ?_) v
    · unfold c_X6_ways_L95b
      rw [if_neg (nI_ge hi (by omega))]; simp only [nm_p, nI_1]
    · unfold c_X6_ways_L95b
      rw [if_pos (nI_le (by omega) (by omega))]
  rw [lq4_l]
  obtain ⟨⟨x1, x2, x3⟩, e, l, hl, p1, p2⟩ := for_r (B := fun REC (t' : Int32 × Int32 × Int32) i => c_X6_ways_L27b 234 t h (fun w14 w15 w16 => nm (0 : Int32) fun v17 => lq2 (c_X6_ways_L95b 234 t w14 w15 h (fun w20 => some (w20, h))) fu w16 v17) (fun a c d i => REC (a, c, d) i) t'.1 t'.2.1 t'.2.2 i) (K := fun x => lq2 (c_X6_ways_L95b 234 t x.1 x.2.1 h (fun w20 => some (w20, h))) fu x.2.2 0) (N := T.exc) (fun j x => ∃ l, l ≤ 9 ∧ x.1 = nI l ∧ ((∃ v c, forX (wG D) j 0 (ofC T a, 1, 1) = .inl (l, v, c) ∧ x.2.1 = c ∧ x.2.2 = v) ∨ (forX (wG D) j 0 (ofC T a, 1, 1) = .inr () ∧ x.2.2 = 0))) (by omega) (fun REC i x hi hp => by
    obtain ⟨y1, y2, y3⟩ := x
    obtain ⟨l, hl, p1, p2⟩ := hp
    have p1 : y1 = nI l := p1
    subst p1
    have hi7 : i < 7 := by omega
    unfold c_X6_ways_L27b
    rw [xc.exc, if_neg (nI_ge hi (by omega)), nI_clamp (n := i) (by omega)]
    have d0 : h.1 (234 + 4) i = D i := hd i hi7
    rw [d0]
    simp only [gdI hi7 (show 7 < 2 ^ 31 by omega), nm, nI_1]
    rw [forX_snoc, Nat.zero_add]
    rcases hD i hi7 with q | ⟨q, hq, e⟩
    · rw [if_pos q]
      refine ⟨(nI l, y2 + 1, y3), rfl, l, hl, rfl, ?_⟩
      rcases p2 with ⟨v, c, e1, e2, e3⟩ | ⟨e1, e2⟩
      · refine Or.inl ⟨v, c + 1, ?_, ?_, e3⟩
        · rw [e1]; show wG D i (l, v, c) = _; unfold wG; rw [if_pos q]
        · have e2 : y2 = c := e2
          rw [e2]
      · exact Or.inr ⟨by rw [e1]; rfl, e2⟩
    · rw [e, if_neg (c := nI q = -1) (nI_nem1 (by omega)), subsC hq, Option.bind_some, jmax_sub (by omega) (by omega)]
      refine ⟨(nI (l - q), y2, y3 * subs l q), rfl, l - q, by omega, rfl, ?_⟩
      rcases p2 with ⟨v, c, e1, e2, e3⟩ | ⟨e1, e2⟩
      · have e3 : y3 = v := e3
        rw [e1]
        by_cases u : q ≤ l
        · refine Or.inl ⟨v * subs l q, c, ?_, e2, by rw [e3]⟩
          show wG D i (l, v, c) = _
          unfold wG
          rw [e, if_neg (c := nI q = -1) (nI_nem1 (by omega)), nI_clamp (by omega), if_pos u]
        · refine Or.inr ⟨?_, ?_⟩
          · show wG D i (l, v, c) = _
            unfold wG
            rw [e, if_neg (c := nI q = -1) (nI_nem1 (by omega)), nI_clamp (by omega), if_neg u]
          · show y3 * subs l q = 0
            rw [subs0 l (by omega) q (by omega) (by omega), Int32.mul_zero]
      · refine Or.inr ⟨by rw [e1]; rfl, ?_⟩
        have e2 : y3 = 0 := e2
        show y3 * subs l q = 0
        rw [e2, Int32.zero_mul]) (fun REC x _ => by
    unfold c_X6_ways_L27b
    rw [xc.exc, if_pos (nI_le (by omega) (by omega))]
    simp only [nm_p]) (nI (ofC T a), 1, 1) ⟨ofC T a, c9, rfl, Or.inl ⟨1, 1, rfl, rfl, rfl⟩⟩
  rw [e]
  have p1 : x1 = nI l := p1
  show lq2 (c_X6_ways_L95b 234 t x1 x2 h (fun w20 => some (w20, h))) fu x3 0 = _
  rw [p1, fin l x2 x3 hl]
  unfold waysV
  rcases p2 with ⟨v, c, e1, e2, e3⟩ | ⟨e1, e2⟩
  · have e2 : x2 = c := e2
    have e3 : x3 = v := e3
    rw [e1, e2, e3]; rfl
  · have e2 : x3 = 0 := e2
    rw [e1, e2, pow0]; rfl
theorem fits_ok {n : Nat} {T : TX} {σ : ST} {s t : Nat} {Lp Lw : LawT} {hc hr : PH} (C : CL n T σ s t Lp Lw hc hr) (i3 : iKnown T hc hr) (a1 a2 : Int32) : ∃ (v : Int32) (hc' hr' : PH), c_X11_fits a1 a2 hc = some (v, hc') ∧ c_X12_fits a1 a2 hr = some (v, hr') ∧ KP (SC t) hc hc' ∧ KP SR hr hr' := by
  have C0 := C.cor
  have w1 := C0.twf.men; have w3 := C0.twf.exc; have t2 := C0.t2
  obtain ⟨k, hk, pc, pr, rec⟩ := i3
  unfold c_X11_fits c_X12_fits
  simp only [nm_p, C0.txt, gdT C0.t2]
  rcases isMan_cases C0.twf C0.s2 C0.live C0.xc C0.xr a1 with ⟨a, ha, rfl, e1, e2⟩ | ⟨e1, e2⟩
  · rw [e1, e2, pc, pr, X12_in]
    simp only [Option.bind_some, one_ne0, if_false, if10]
    by_cases q1 : a2 < 0
    · rw [if_pos q1, if_neg (fun z => absurd z.1 (Int32.not_le.mpr q1))]; exact ⟨-1, hc, hr, rfl, rfl, KP.rfl, KP.rfl⟩
    rw [if_neg q1]
    by_cases q2 : a2 ≤ nI k
    · rw [if_pos q2, if_pos ⟨Int32.not_lt.mp q1, q2⟩]
      obtain ⟨m, hm, rfl⟩ := nI_of q1
      have mk : m ≤ k := (nI_leI hm (by omega)).mp q2
      unfold c_X6_ways c_X6_collect
      simp only [nm_p]
      obtain ⟨h1, x1, x2, x3⟩ := for_h (B := c_X6_collect_L2b 234 (nI a) (nI m) (fun h4 => lq2 (c_X6_collect_L23b 234 (nI a) (nI m) (fun h14 => some ((0 : Int32), h14)) (fun h15 => some ((1 : Int32), h15))) fu 0 h4)) (K := fun h4 => lq2 (c_X6_collect_L23b 234 (nI a) (nI m) (fun h14 => some ((0 : Int32), h14)) (fun h15 => some ((1 : Int32), h15))) fu 0 h4) (N := 7) (fun i y => (∀ j, j < i → y.1 238 j = -1) ∧ KP (fun p _ => p ≠ 238) hc y) (by omega) (fun REC i y hi hp => by
        refine ⟨setI y 238 i (-1), ?_, fun j hj => ?_, hp.2.trans (KP.setI (fun q => q rfl))⟩
        · unfold c_X6_collect_L2b
          rw [if_neg (show ¬ (7 : Int32) ≤ nI i from nI_ge (b := 7) hi (by omega)), gdI (k := i) (by omega) (by omega), nI_clamp (by omega)]
          simp only [nm_p, nI_1]
        · by_cases q : j = i
          · subst q; rw [setI_eq]
          · rw [setI_ne (by omega)]; exact hp.1 j (by omega)) (fun REC y _ => by
        unfold c_X6_collect_L2b
        rw [if_pos (show (7 : Int32) ≤ nI 7 from nI_le (a := 7) (b := 7) (by omega) (by omega))]) hc ⟨fun j hj => absurd hj (by omega), KP.rfl⟩
      rw [x1]
      obtain ⟨g1, y1, y2, y3⟩ := for_h (B := c_X12_fits_L24b (nI a) (nI m) (fun h6 => lq2 (c_X12_fits_L45b (nI a) (nI m) (fun h14 => some ((0 : Int32), h14)) (fun h15 => lq2 (c_X12_fits_L123b (nI a) h15 (fun w22 => lq4 (c_X12_fits_L165b h15 (some ((0 : Int32), h15)) (fun w32 w33 w34 => lq2 (c_X12_fits_L243b w32 w34 h15 (fun w38 => some (w38, h15))) fu w33 0)) fu w22 1 1 0)) fu 0 0)) fu 0 h6)) (K := fun h6 => lq2 (c_X12_fits_L45b (nI a) (nI m) (fun h14 => some ((0 : Int32), h14)) (fun h15 => lq2 (c_X12_fits_L123b (nI a) h15 (fun w22 => lq4 (c_X12_fits_L165b h15 (some ((0 : Int32), h15)) (fun w32 w33 w34 => lq2 (c_X12_fits_L243b w32 w34 h15 (fun w38 => some (w38, h15))) fu w33 0)) fu w22 1 1 0)) fu 0 0)) fu 0 h6) (N := 7) (fun i y => (∀ j, j < i → y.1 53 j = -1) ∧ KP (fun p _ => p ≠ 53) hr y) (by omega) (fun REC i y hi hp => by
        refine ⟨setI y 53 i (-1), ?_, fun j hj => ?_, hp.2.trans (KP.setI (fun q => q rfl))⟩
        · unfold c_X12_fits_L24b
          rw [if_neg (show ¬ (7 : Int32) ≤ nI i from nI_ge (b := 7) hi (by omega)), gdI (k := i) (by omega) (by omega), nI_clamp (by omega)]
          simp only [nm_p, nI_1]
        · by_cases q : j = i
          · subst q; rw [setI_eq]
          · rw [setI_ne (by omega)]; exact hp.1 j (by omega)) (fun REC y _ => by
        unfold c_X12_fits_L24b
        rw [if_pos (show (7 : Int32) ≤ nI 7 from nI_le (a := 7) (b := 7) (by omega) (by omega))]) hr ⟨fun j hj => absurd hj (by omega), KP.rfl⟩
      rw [y1, lq2_sw, lq2_sw (B := c_X12_fits_L45b _ _ _ _)]
      have L := lock (B := fun REC (x : PH) i => c_X6_collect_L23b 234 (nI a) (nI m) (fun h14 => some ((0 : Int32), h14)) (fun h15 => some ((1 : Int32), h15)) (fun i x => REC x i) i x) (B' := fun REC (x : PH) i => c_X12_fits_L45b (nI a) (nI m) (fun h14 => some ((0 : Int32), h14)) (fun h15 => lq2 (c_X12_fits_L123b (nI a) h15 (fun w22 => lq4 (c_X12_fits_L165b h15 (some ((0 : Int32), h15)) (fun w32 w33 w34 => lq2 (c_X12_fits_L243b w32 w34 h15 (fun w38 => some (w38, h15))) fu w33 0)) fu w22 1 1 0)) fu 0 0) (fun i x => REC x i) i x) (K := fun h15 => some ((1 : Int32), h15)) (K' := fun h15 => lq2 (c_X12_fits_L123b (nI a) h15 (fun w22 => lq4 (c_X12_fits_L165b h15 (some ((0 : Int32), h15)) (fun w32 w33 w34 => lq2 (c_X12_fits_L243b w32 w34 h15 (fun w38 => some (w38, h15))) fu w33 0)) fu w22 1 1 0)) fu 0 0) (N := m) (fun _ x y => (∀ j, j < 7 → x.1 238 j = y.1 53 j) ∧ DueOK (y.1 53) ∧ KP (fun p _ => p ≠ 238) hc x ∧ KP (fun p _ => p ≠ 53) hr y) (fun o o' => ∃ h' g', o = some (0, h') ∧ o' = some (0, g') ∧ KP (fun p _ => p ≠ 238) hc h' ∧ KP (fun p _ => p ≠ 53) hr g') (by omega) (fun REC REC' i x y hi hp => by
        obtain ⟨r1, r2, r3, r4⟩ := hp
        obtain ⟨e, b, q, he, hb, hq, c1, c2, c3, d1, d2, d3⟩ := rec i (by omega)
        have px : x.1 234 4 = nI k := (r3.i (by omega)).trans pc
        have c1 : x.1 (234 + 1) i = nI e := (r3.i (by omega)).trans c1
        have c2 : x.1 (234 + 2) i = nI b := (r3.i (by omega)).trans c2
        have c3 : x.1 (234 + 3) i = nI q := (r3.i (by omega)).trans c3
        have d1 : y.1 50 i = nI e := (r4.i (by omega)).trans d1
        have d2 : y.1 51 i = nI b := (r4.i (by omega)).trans d2
        have d3 : y.1 52 i = nI q := (r4.i (by omega)).trans d3
        have re : x.1 (234 + 4) e = y.1 53 e := r1 e (by omega)
        unfold c_X6_collect_L23b c_X12_fits_L45b
        rw [if_neg (nI_ge hi (by omega)), px, if_neg (show ¬ nI k ≤ nI i from nI_ge (by omega) (by omega)), if_neg (nI_ge hi (by omega))]
        simp only [gdI (show i < 20 by omega) (show 20 < 2 ^ 31 by omega), nI_clamp (show i < 2 ^ 31 by omega), nm, c1, c2, c3, d1, d2, d3]
        rw [ite_cg (nI_eq (a := b) (b := a) (by omega) (by omega)), ite_cg (nI_eq (a := b) (b := a) (by omega) (by omega))]
        by_cases z : b = a
        · rw [if_pos z, if_pos z, if_neg (nI_pos (by omega)), if_neg (show ¬ (7 : Int32) ≤ nI e from nI_ge (b := 7) (by omega) (by omega))]
          simp only [gdI (show e < 7 by omega) (show 7 < 2 ^ 31 by omega), nI_clamp (show e < 2 ^ 31 by omega), re, nI_1]
          have put : ∃ x' y', REC (setI x (234 + 4) e (nI q)) (nI (i + 1)) = REC x' (nI (i + 1)) ∧ REC' (setI y 53 e (nI q)) (nI (i + 1)) = REC' y' (nI (i + 1)) ∧ (∀ j, j < 7 → x'.1 238 j = y'.1 53 j) ∧ DueOK (y'.1 53) ∧ KP (fun p _ => p ≠ 238) hc x' ∧ KP (fun p _ => p ≠ 53) hr y' := by
            refine ⟨_, _, rfl, rfl, fun j hj => ?_, fun j hj => ?_, r3.trans (KP.setI (fun q => q rfl)), r4.trans (KP.setI (fun q => q rfl))⟩
            · by_cases u : j = e
              · subst u; rw [setI_eq, setI_eq]
              · rw [setI_ne (by omega), setI_ne (by omega)]; exact r1 j hj
            · by_cases u : j = e
              · subst u; rw [setI_eq]; exact Or.inr ⟨q, hq, rfl⟩
              · rw [setI_ne (by omega)]; exact r2 j hj
          rcases r2 e (by omega) with u | ⟨q', hq', u⟩
          · rw [u, if_pos rfl, if_pos m1_neg]; exact Or.inl put
          · rw [u, if_neg (c := nI q' = -1) (nI_nem1 (by omega)), if_neg (nI_pos (by omega))]
            by_cases v : nI q' = nI q
            · rw [if_pos v, if_pos v]; exact Or.inl put
            · rw [if_neg v, if_neg v]; exact Or.inr ⟨x, y, rfl, rfl, r3, r4⟩
        · rw [if_neg z, if_neg z]; simp only [nI_1]
          exact Or.inl ⟨x, y, rfl, rfl, r1, r2, r3, r4⟩) (fun REC REC' x y _ => by
        unfold c_X6_collect_L23b c_X12_fits_L45b
        rw [if_pos (nI_le (by omega) (by omega)), if_pos (nI_le (by omega) (by omega))]
        exact ⟨rfl, rfl⟩) 0 (by omega) h1 g1 ⟨fun j hj => by rw [x2 j hj, y2 j hj], fun j hj => Or.inl (y2 j hj), x3, y3⟩
      rw [nI_0] at L
      rcases L with ⟨x', y', f1, f2, r1, r2, r3, r4⟩ | ⟨h', g', f1, f2, r3, r4⟩
      · rw [f1, f2]
        simp only [bind2, Option.bind_some, one_ne0, if_false]
        have cx : TxC t T x' := C0.xc.fr C0.twf (r3.mono (fun p k z => by unfold FxC at z; omega))
        have rx : TxR s T y' := C0.xr.fr (r4.mono (fun p k z => by unfold FxR at z; omega))
        have rl : y'.1 0 18 = nI s := (r4.i (by omega)).trans C0.live
        rw [dutiesC C0.twf cx (by omega), Option.bind_some, dutiesR C0.twf C0.s2 rl rx (by omega)]
        have A := waysC (a := a) C0.twf cx r2 r1
        have B := waysR (a := a) C0.twf C0.s2 rl rx r2 (fun j hj => rfl)
        simp only [nm_p] at A B
        rw [A, B]
        exact ⟨_, x', y', rfl, rfl, r3.mono (fun p k z => by unfold SC at z; omega), r4.mono (fun p k z => by unfold SR at z; omega)⟩
      · rw [f1, f2]
        simp only [bind2, Option.bind_some, if_true]
        exact ⟨0, h', g', rfl, rfl, r3.mono (fun p k z => by unfold SC at z; omega), r4.mono (fun p k z => by unfold SR at z; omega)⟩
    · rw [if_neg q2, if_neg (fun z => q2 z.2)]; exact ⟨-1, hc, hr, rfl, rfl, KP.rfl, KP.rfl⟩
  · rw [e1, e2]
    exact ⟨-1, hc, hr, rfl, rfl, KP.rfl, KP.rfl⟩
