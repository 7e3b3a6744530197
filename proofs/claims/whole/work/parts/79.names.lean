/-- a name's letters -/
def okL (l : List Nat) : Prop := (∀ d ∈ l, 1 ≤ d ∧ d ≤ 26) ∧ vB 32 l < 2 ^ 63 ∧ vB 27 l < 2 ^ 63
def LT (K : Nat) (bs : Nat → Nat) (p : Nat) : List Nat := ltr bs (tend K bs (tS K bs p) - tS K bs p) (tS K bs p)
theorem LT_ok {K p : Nat} {bs : Nat → Nat} {hc hr : PH} (h : tK K bs p = 2) (tc : TokC K bs hc p) (tr : TokR K bs hr p) : okL (LT K bs p) ∧ hc.2.1 6 p = lN (vB 32 (LT K bs p)) ∧ hr.2.1 6 p = lN (vB 27 (LT K bs p)) := by
  obtain ⟨a1, a2, a3⟩ := tok2 h
  have c3 := tc.2.2
  have r3 := tr.2.2.2 a1 a2 a3
  unfold LT
  generalize tS K bs p = a at *
  obtain ⟨t1, t2, t3⟩ := tend_let a1 a2
  have e32 : valF bs 32 96 (tend K bs a - a) a 0 = vB 32 (ltr bs (tend K bs a - a) a) := valF_ltr bs 32 _ a 0
  have e27 : valF bs 27 96 (tend K bs a - a) a 0 = vB 27 (ltr bs (tend K bs a - a) a) := valF_ltr bs 27 _ a 0
  have tv : tval K bs a = valF bs 32 96 (tend K bs a - a) a 0 := by
    unfold tval
    rw [if_neg (show ¬ K ≤ a by omega), if_pos a2, if_pos a3]
  have b32 := valF_lt bs 32 96 (by omega) (tend K bs a - a) a 0 (fun j j1 j2 => by have := let_lo (t3 j j1 (by omega)); omega)
  have b27 := valF_lt bs 27 96 (by omega) (tend K bs a - a) a 0 (fun j j1 j2 => by have := let_lo (t3 j j1 (by omega)); omega)
  have p32 : 32 ^ (tend K bs a - a) ≤ 32 ^ 8 := Nat.pow_le_pow_right (by omega) a3
  have p27 : 27 ^ (tend K bs a - a) ≤ 27 ^ 8 := Nat.pow_le_pow_right (by omega) a3
  rw [tv, e32] at c3
  rw [e27] at r3
  rw [e32] at b32
  rw [e27] at b27
  exact ⟨⟨ltr_ok bs _ a (fun j j1 j2 => t3 j j1 (by omega)), by omega, by omega⟩, c3, r3⟩
/-- the names told so far: the class's, the reference's -/
def NC (t c : Nat) (L : Nat → List Nat) (so nu : Nat → Nat) (h : PH) : Prop := h.1 t 17 = nI c ∧ ∀ i, i < c → h.2.1 (t + 32) i = lN (vB 32 (L i)) ∧ h.1 (t + 33) i = nI (64 + so i) ∧ h.1 (t + 34) i = nI (nu i)
def NR (c : Nat) (L : Nat → List Nat) (so nu : Nat → Nat) (h : PH) : Prop := h.1 0 20 = nI c ∧ ∀ i, i < c → h.2.1 8 i = lN (vB 27 (L i)) ∧ h.1 9 i = nI (min (so i) 2) ∧ h.1 10 i = nI (nu i)
def NW (c : Nat) (L : Nat → List Nat) (so nu : Nat → Nat) (m e : Nat) : Prop := c ≤ 27 ∧ ∀ i, i < c → okL (L i) ∧ so i < 5 ∧ nu i < 100 ∧ (so i = 0 → nu i < m) ∧ (so i = 1 → nu i < e)
def DIS (c : Nat) (L : Nat → List Nat) : Prop := ∀ i j, i < c → j < c → L i = L j → i = j
def FNc (t p k : Nat) : Prop := (p = t ∧ k = 17) ∨ (t + 32 ≤ p ∧ p ≤ t + 34)
def FNr (p k : Nat) : Prop := (p = 0 ∧ k = 20) ∨ (8 ≤ p ∧ p ≤ 10)
theorem NC.fr {t c : Nat} {L : Nat → List Nat} {so nu : Nat → Nat} {h h' : PH} (k : KP (FNc t) h h') (x : NC t c L so nu h) : NC t c L so nu h' := ⟨(k.i (Or.inl ⟨rfl, rfl⟩)).trans x.1, fun i hi => by
  obtain ⟨a, b, d⟩ := x.2 i hi
  exact ⟨(k.j (Or.inr ⟨by omega, by omega⟩)).trans a, (k.i (Or.inr ⟨by omega, by omega⟩)).trans b, (k.i (Or.inr ⟨by omega, by omega⟩)).trans d⟩⟩
theorem NR.fr {c : Nat} {L : Nat → List Nat} {so nu : Nat → Nat} {h h' : PH} (k : KP FNr h h') (x : NR c L so nu h) : NR c L so nu h' := ⟨(k.i (Or.inl ⟨rfl, rfl⟩)).trans x.1, fun i hi => by
  obtain ⟨a, b, d⟩ := x.2 i hi
  exact ⟨(k.j (Or.inr ⟨by omega, by omega⟩)).trans a, (k.i (Or.inr ⟨by omega, by omega⟩)).trans b, (k.i (Or.inr ⟨by omega, by omega⟩)).trans d⟩⟩
def fnd (L : Nat → List Nat) (c : Nat) (l : List Nat) : Option Nat := fstX (fun i => decide (L i = l)) c 0
theorem fndC {t c m e : Nat} {L : Nat → List Nat} {so nu : Nat → Nat} {h : PH} {l : List Nat} (nc : NC t c L so nu h) (nw : NW c L so nu m e) (ol : okL l) : c_X9_findName t (lN (vB 32 l)) h = some (Option.elim (fnd L c l) (-1) nI) := by
  have hc := nw.1
  unfold c_X9_findName
  have ee := for_1 (B := c_X9_findName_L2b t (lN (vB 32 l)) h (fun w3 => some w3) (some (-1))) (K := some (-1 : Int32)) (E := fun j => some (nI j)) (N := c) (fun i => decide (L i = l)) (by omega) (fun REC i hi => by
    have ok := (nw.2 i hi).1
    unfold c_X9_findName_L2b
    rw [nc.1, if_neg (nI_ge hi (by omega)), gdI (by omega) (by omega), nI_clamp (by omega), (nc.2 i hi).1, ite_cg ((lg_cmp_eq _ _).trans ((lN_inj ok.2.1 ol.2.1).trans (vB_inj (by omega) ok.1 ol.1)))]
    by_cases q : L i = l
    · rw [if_pos q, if_pos (decide_eq_true q)]
    · rw [if_neg q, if_neg (fun z => q (of_decide_eq_true z)), nm_eq, nI_1]) (fun REC => by
    unfold c_X9_findName_L2b
    rw [nc.1, if_pos (nI_le (by omega) (by omega))]) 0 (by omega)
  rw [nm_eq, ← nI_0, ee, Nat.sub_zero]
  unfold fnd
  cases fstX (fun i => decide (L i = l)) c 0 with
  | none => rfl
  | some i => rfl
def tvC (L : Nat → List Nat) (so nu : Nat → Nat) (c s : Nat) (l : List Nat) : Int32 := Option.elim (fnd L c l) (-1) (fun i => if so i = s then nI (nu i) else -1)
theorem tvC_ok {t c m e s : Nat} {L : Nat → List Nat} {so nu : Nat → Nat} {h : PH} {l : List Nat} (nc : NC t c L so nu h) (nw : NW c L so nu m e) (ol : okL l) (hs : s < 2) : ((c_X9_findName t (lN (vB 32 l)) h).bind fun r7 => c_X9_numberOf t r7 (nI (64 + s)) h) = some (tvC L so nu c s l) := by
  have hc := nw.1
  rw [fndC nc nw ol, Option.bind_some]
  unfold tvC c_X9_numberOf
  cases q : fnd L c l with
  | none => show (if (-1 : Int32) < 0 then some (-1 : Int32) else _) = some (-1); rw [if_pos (by decide)]
  | some i =>
    obtain ⟨_, i2, _, _⟩ := fstX_some _ _ _ q
    have hi : i < c := by omega
    have so5 := (nw.2 i hi).2.1
    rw [show Option.elim (some i) (-1) nI = nI i from rfl]
    show _ = some (if so i = s then nI (nu i) else -1)
    rw [if_neg (nI_pos (by omega)), nc.1, if_neg (nI_ge hi (by omega)), gdI (k := i) (by omega) (by omega), gdI (k := i) (by omega) (by omega), nI_clamp (n := i) (by omega), (nc.2 i hi).2.1, (nc.2 i hi).2.2, ite_cg (show nI (64 + so i) = nI (64 + s) ↔ so i = s from (nI_eq (by omega) (by omega)).trans (by omega))]
    by_cases z : so i = s
    · rw [if_pos z, if_pos z]
    · rw [if_neg z, if_neg z]
def fndR (L : Nat → List Nat) (so : Nat → Nat) (c s : Nat) (l : List Nat) : Option Nat := fstX (fun i => decide (L i = l ∧ min (so i) 2 = s)) c 0
def tvR (L : Nat → List Nat) (so nu : Nat → Nat) (c s : Nat) (l : List Nat) : Int32 := Option.elim (fndR L so c s l) (-1) (fun i => nI (nu i))
theorem tv_eq {c s : Nat} {L : Nat → List Nat} {so nu : Nat → Nat} {l : List Nat} (hs : s < 2) (d : DIS c L) : tvC L so nu c s l = tvR L so nu c s l := by
  unfold tvC tvR
  cases q : fnd L c l with
  | none =>
    have n1 := (fstX_none c 0).mp q
    have : fndR L so c s l = none := (fstX_none c 0).mpr (fun j a b => by
      have := of_decide_eq_false (n1 j a b)
      exact decide_eq_false (fun z => this z.1))
    rw [this]; rfl
  | some i =>
    obtain ⟨_, i2, i3, _⟩ := fstX_some _ _ _ q
    have i3 := of_decide_eq_true i3
    show (if so i = s then nI (nu i) else -1) = _
    cases q' : fndR L so c s l with
    | none =>
      have n1 := (fstX_none c 0).mp q' i (by omega) i2
      have n1 := of_decide_eq_false n1
      rw [if_neg (fun z => n1 ⟨i3, by omega⟩)]; rfl
    | some j =>
      obtain ⟨_, j2, j3, _⟩ := fstX_some _ _ _ q'
      have j3 := of_decide_eq_true j3
      have ij : i = j := d i j (by omega) (by omega) (i3.trans j3.1.symm)
      rw [ij, if_pos (by omega)]; rfl
theorem tvC_v {c s lim : Nat} {L : Nat → List Nat} {so nu : Nat → Nat} (hl : ∀ i, i < c → so i = s → nu i < lim) (l : List Nat) : tvC L so nu c s l = -1 ∨ ∃ n, n < lim ∧ tvC L so nu c s l = nI n := by
  unfold tvC
  cases q : fnd L c l with
  | none => exact Or.inl rfl
  | some i =>
    obtain ⟨_, i2, _, _⟩ := fstX_some _ _ _ q
    show (if so i = s then nI (nu i) else -1) = -1 ∨ ∃ n, n < lim ∧ (if so i = s then nI (nu i) else -1) = nI n
    by_cases z : so i = s
    · rw [if_pos z]; exact Or.inr ⟨nu i, hl i (by omega) z, rfl⟩
    · rw [if_neg z]; exact Or.inl rfl
theorem tvR_v {c s lim : Nat} {L : Nat → List Nat} {so nu : Nat → Nat} (hs : s < 2) (hl : ∀ i, i < c → so i = s → nu i < lim) (l : List Nat) : tvR L so nu c s l = -1 ∨ ∃ n, n < lim ∧ tvR L so nu c s l = nI n := by
  unfold tvR
  cases q : fndR L so c s l with
  | none => exact Or.inl rfl
  | some i =>
    obtain ⟨_, i2, i3, _⟩ := fstX_some _ _ _ q
    have i3 := of_decide_eq_true i3
    exact Or.inr ⟨nu i, hl i (by omega) (by omega), rfl⟩
theorem cmpC_no {f v : Int32} {h : PH} (q : ¬ h.1 2 5 = 0) : cmpC f v h = h := if_neg q
theorem cmpR_no {f v : Int32} {h : PH} (q : ¬ h.1 0 15 = 0) : cmpR f v h = h := if_neg q
theorem RU_nz {K p : Nat} {bs : Nat → Nat} {hc hr : PH} (h : RU K bs p hc hr) (q : ¬ hc.1 2 5 = 0) : ¬ hr.1 0 15 = 0 := by
  rcases h with h | ⟨u, r, u1, u2, u3, u4, u5, _⟩
  · exact absurd h.1 q
  · rw [u5]; exact nI_nz u1 (by omega)
/-- the name looked up in the reference -/
theorem knownR {ρ : Type} {c m e s q : Nat} {L : Nat → List Nat} {so nu : Nat → Nat} {h : PH} {l : List Nat} (nr : NR c L so nu h) (nw : NW c L so nu m e) (ol : okL l) (hs : s < 2) (hq : q < 403) (hl : h.2.1 6 q = lN (vB 27 l)) (K1 : Int32 → Option ρ) (K2 : Option ρ) : lq1 (c_X12_known_L21b (nI s) (nI q) h K1 K2) fu 0 = Option.elim (fndR L so c s l) K2 (fun i => K1 (nI i)) := by
  have hc := nw.1
  have ee := for_1 (B := c_X12_known_L21b (nI s) (nI q) h K1 K2) (K := K2) (E := fun j => K1 (nI j)) (N := c) (fun i => decide (L i = l ∧ min (so i) 2 = s)) (by omega) (fun REC i hi => by
    have ok := (nw.2 i hi).1
    have so5 := (nw.2 i hi).2.1
    unfold c_X12_known_L21b
    rw [nr.1, if_neg (nI_ge hi (by omega)), gdI (k := i) (by omega) (by omega), gdI (k := q) (by omega) (by omega), gdI (k := i) (by omega) (by omega), nI_clamp (n := i) (by omega), nI_clamp (n := q) (by omega), (nr.2 i hi).1, hl, (nr.2 i hi).2.1, ite_cg ((lg_cmp_eq _ _).trans ((lN_inj ok.2.2 ol.2.2).trans (vB_inj (by omega) ok.1 ol.1))), ite_cg (nI_eq (a := min (so i) 2) (b := s) (by omega) (by omega))]
    by_cases q : L i = l
    · rw [if_pos q]
      by_cases z : min (so i) 2 = s
      · rw [if_pos z, if_pos (decide_eq_true ⟨q, z⟩)]
      · rw [if_neg z, if_neg (fun y => z (of_decide_eq_true y).2), nm_eq, nI_1]
    · rw [if_neg q, if_neg (fun y => q (of_decide_eq_true y).1), nm_eq, nI_1]) (fun REC => by
    unfold c_X12_known_L21b
    rw [nr.1, if_pos (nI_le (by omega) (by omega))]) 0 (by omega)
  rw [← nI_0, ee, Nat.sub_zero]; rfl
theorem m1_ne (n : Nat) (h : n < 2 ^ 31) : ¬ nI n = -1 := nI_nem1 h
theorem known2 {K N p t c m e s lim : Nat} {bs : Nat → Nat} {L : Nat → List Nat} {so nu : Nat → Nat} {hc hr : PH} (pt : PT K bs N hc hr) (w : WP K bs N p hc hr) (nc : NC t c L so nu hc) (nr : NR c L so nu hr) (nw : NW c L so nu m e) (hd : hc.1 2 5 = 0 → DIS c L) (ht : t = 8 ∨ t = 43) (ho : hc.2.2 2 1 = t) (hs : s < 2) (hlim : ∀ i, i < c → so i = s → nu i < lim) (hl9 : lim < 100) {a1 a2 : Int32} (e1 : a1 = nI (64 + s)) (e2 : a2 = nI s) : ∃ v hc' v' hr', c_X4_toldName 2 a1 hc = some (v, hc') ∧ c_X12_known a2 hr = some (v', hr') ∧ KP GC hc hc' ∧ KP GR hr hr' ∧ PT K bs N hc' hr' ∧ WP K bs N (p + 1) hc' hr' ∧ (v = -1 ∨ ∃ n, n < lim ∧ v = nI n) ∧ (v' = -1 ∨ ∃ n, n < lim ∧ v' = nI n) ∧ (hr'.1 0 13 = 0 → hr.1 0 13 = 0 ∧ tK K bs p = 2 ∧ (RU K bs p hc' hr' ∨ (v = -1 ∧ v' = -1)) ∧ (hc'.1 2 5 = 0 → hc.1 2 5 = 0 ∧ ∃ n, n < lim ∧ v = nI n ∧ v' = nI n)) := by
  subst e1; subst e2
  have hN := pt.2.1.1
  unfold c_X4_toldName c_X12_known
  rcases w with rs | bk
  · have h5 := rs.2.2.2.2.1
    obtain ⟨hc1, hr1, a, b, kc, kr, pt1, h⟩ := acc2 (k := 2) pt rs (by omega) (by omega) rfl
    have kc1 : KP GC hc hc1 := kc.mono (fun p k z => by unfold GC at z; unfold FAc; omega)
    have kr1 : KP GR hr hr1 := kr.mono (fun p k z => by unfold GR at z; unfold FAr; omega)
    rw [rs.placeC pt, Option.bind_some, nm_eq, rs.2.2.1, gdI (k := p) (by omega) (by omega), nI_clamp (n := p) (by omega), nm_eq, nm_eq, show c_X4_accept 2 2 hc = some hc1 from a, Option.bind_some, show c_X12_must 1 hr = some hr1 from b, Option.bind_some, rs.2.2.2.1]
    rcases h with ⟨q, h⟩ | h
    · obtain ⟨tc, tr⟩ := pt.2.2 p h5
      obtain ⟨ol, lc, lr⟩ := LT_ok q tc tr
      generalize LT K bs p = l at ol lc lr
      have nc1 : NC t c L so nu hc1 := nc.fr (kc.mono (fun p k z => by unfold FNc at z; unfold FAc; omega))
      have nr1 : NR c L so nu hr1 := nr.fr (kr.mono (fun p k z => by unfold FNr at z; unfold FAr; omega))
      have lr1 : hr1.2.1 6 p = lN (vB 27 l) := (kr.j (by unfold FAr; omega)).trans lr
      have ho1 : hc1.2.2 2 1 = t := (kc.r (by unfold FAc; omega)).trans ho
      have vc := tvC_v (L := L) hlim l
      have vr := tvR_v (L := L) hs hlim l
      have ru1 : RU K bs p hc1 hr1 := by
        have := rs.2.2.2.2.2
        unfold RU at this ⊢
        rw [kc.i (p := 2) (k := 5) (by unfold FAc; omega), kc.i (p := 2) (k := 6) (by unfold FAc; omega), kr.i (p := 0) (k := 15) (by unfold FAr; omega), kr.i (p := 0) (k := 16) (by unfold FAr; omega)]; exact this
      have s5 : hc1.1 2 5 = hc.1 2 5 := kc.i (by unfold FAc; omega)
      have wr := wrongC (f := 4) pt.2.1 pt.1 h5 (pt1.2.2 p h5).2 h.2.1 ru1
      have ck := cmpC_k (nI 4) (nI (tS K bs p)) hc1
      have rk := cmpR_k (nI 4) (nI (tS K bs p)) hr1
      have eC : (if hc1.1 2 3 = 0 then nm (hc1.2.2 2 1) fun t5 => gd (tOK t5) <| nm (hc1.2.2 2 1) fun t6 => gd (tOK t6) <| (c_X9_findName t6 (hc.2.1 (2 + 1 + 3) p) hc1).bind fun r7 => (c_X9_numberOf t5 r7 (nI (64 + s)) hc1).bind fun r8 => nm r8 fun v9 => if v9 = -1 then (c_X4_complain 2 4 (nI (tS K bs p)) hc1).bind fun h10 => some (v9, h10) else some (v9, hc1) else some (-1, hc1)) = some (tvC L so nu c s l, if tvC L so nu c s l = -1 then cmpC (nI 4) (nI (tS K bs p)) hc1 else hc1) := by
        have tv := tvC_ok (s := s) nc1 nw ol hs
        rw [if_pos h.1, nm_eq, nm_eq, ho1, gdT ht, gdT ht, show hc.2.1 (2 + 1 + 3) p = lN (vB 32 l) from lc]
        have bb : ∀ (F : Int32 → Option (Int32 × PH)), ((c_X9_findName t (lN (vB 32 l)) hc1).bind fun r7 => (c_X9_numberOf t r7 (nI (64 + s)) hc1).bind F) = F (tvC L so nu c s l) := fun F => by
          rw [← Option.bind_assoc, tv]; rfl
        rw [bb, nm_eq, show (4 : Int32) = nI 4 from rfl, complC]
        by_cases z : tvC L so nu c s l = -1
        · rw [if_pos z, if_pos z]; rfl
        · rw [if_neg z, if_neg z]
      have eR : (if hr1.1 0 13 ≤ 0 then nm (0 : Int32) fun v3 => lq1 (c_X12_known_L21b (nI s) (nI p) hr1 (fun w6 => gd (ixOK w6 27) <| some ((hr1.1 10 w6.toNatClampNeg), hr1)) ((c_X12_wrong 4 (nI p) hr1).bind fun h7 => some ((-1), h7))) fu v3 else some (-1, hr1)) = some (tvR L so nu c s l, if tvR L so nu c s l = -1 then cmpR (nI 4) (nI (tS K bs p)) hr1 else hr1) := by
        rw [h.2.1, if_pos (show (0 : Int32) ≤ 0 by decide), nm_eq, knownR nr1 nw ol hs (by omega) lr1]
        unfold tvR
        cases z : fndR L so c s l with
        | none =>
          show ((c_X12_wrong 4 (nI p) hr1).bind fun h7 => some ((-1 : Int32), h7)) = some (-1, if (-1 : Int32) = -1 then _ else _)
          rw [show (4 : Int32) = nI 4 from rfl, wr, if_pos (Eq.refl _)]; rfl
        | some i =>
          obtain ⟨_, i2, _, _⟩ := fstX_some _ _ _ z
          have hi : i < c := by omega
          have c27 := nw.1
          have n9 := (nw.2 i hi).2.2.1
          show (gd (ixOK (nI i) 27) <| some ((hr1.1 10 (nI i).toNatClampNeg), hr1)) = some (nI (nu i), if nI (nu i) = -1 then _ else hr1)
          rw [gdI (by omega) (by omega), nI_clamp (by omega), (nr1.2 i hi).2.2, if_neg (m1_ne _ (by omega))]
      have eR : (if hr1.1 0 13 ≤ 0 then nm (0 : Int32) fun v3 => lq1 (c_X12_known_L21b (nI s) (nI p) hr1 (fun w6 => gd (ixOK w6 27) <| some ((hr1.1 10 w6.toNatClampNeg), hr1)) ((c_X12_wrong 4 (nI p) hr1).bind fun h7 => some ((-1), h7))) fu v3 else some (-1, hr1)) = some (tvR L so nu c s l, if tvR L so nu c s l = -1 then cmpR (nI 4) (nI (tS K bs p)) hr1 else hr1) := eR
      have teq : hc1.1 2 5 = 0 → tvC L so nu c s l = tvR L so nu c s l := fun z => tv_eq hs (hd (s5.symm.trans z))
      generalize tvC L so nu c s l = vC at vc eC teq
      generalize tvR L so nu c s l = vR at vr eR teq
      have ruF : ∀ q, q = p ∨ q = p + 1 → (q = p → ¬ (vC = -1 ∧ vR = -1)) → RU K bs q (if vC = -1 then cmpC (nI 4) (nI (tS K bs p)) hc1 else hc1) (if vR = -1 then cmpR (nI 4) (nI (tS K bs p)) hr1 else hr1) := fun q hq hn => by
        have le : RU K bs q hc1 hr1 := ru1.le (by omega)
        by_cases u : hc1.1 2 5 = 0
        · have te := teq u
          by_cases z : vC = -1
          · rw [if_pos z, if_pos (te.symm.trans z)]
            have : q = p + 1 := by
              rcases hq with hq | hq
              · exact absurd ⟨z, te.symm.trans z⟩ (hn hq)
              · exact hq
            rw [this]; exact RU_cmp (by omega) (by omega) ru1
          · rw [if_neg z, if_neg (fun y => z (te.trans y))]; exact le
        · rw [cmpC_no u, cmpR_no (RU_nz ru1 u)]
          have i1 : (if vC = -1 then hc1 else hc1) = hc1 := by by_cases z : vC = -1 <;> simp [z]
          have i2 : (if vR = -1 then hr1 else hr1) = hr1 := by by_cases z : vR = -1 <;> simp [z]
          rw [i1, i2]; exact le
      have kcF : KP (fun p k => ¬ (p = 2 ∧ (k = 5 ∨ k = 6))) hc1 (if vC = -1 then cmpC (nI 4) (nI (tS K bs p)) hc1 else hc1) := by
        by_cases z : vC = -1
        · rw [if_pos z]; exact ck
        · rw [if_neg z]; exact KP.rfl
      have krF : KP (fun p k => ¬ (p = 0 ∧ (k = 15 ∨ k = 16))) hr1 (if vR = -1 then cmpR (nI 4) (nI (tS K bs p)) hr1 else hr1) := by
        by_cases z : vR = -1
        · rw [if_pos z]; exact rk
        · rw [if_neg z]; exact KP.rfl
      refine ⟨vC, _, vR, _, eC, eR, kc1.trans (kcF.mono (fun p k z => by unfold GC at z; omega)), kr1.trans (krF.mono (fun p k z => by unfold GR at z; omega)), pt1.fr2 (kcF.mono (fun p k z => by omega)) (krF.mono (fun p k z => by omega)), Or.inl ⟨(kcF.i (by omega)).trans h.1, (krF.i (by omega)).trans h.2.1, (kcF.i (by omega)).trans h.2.2.1, (krF.i (by omega)).trans h.2.2.2.1, h.2.2.2.2.1, ruF (p + 1) (Or.inr rfl) (fun z => absurd z (by omega))⟩, vc, vr, fun _ => ⟨rs.2.1, q, ?_, ?_⟩⟩
      · by_cases z : vC = -1 ∧ vR = -1
        · exact Or.inr z
        · exact Or.inl (ruF p (Or.inl rfl) (fun _ => z))
      · intro z
        by_cases y : vC = -1
        · rw [if_pos y] at z; exact absurd z (cmpC_n (by omega) (by omega))
        · rw [if_neg y] at z
          rcases vc with vc | ⟨n, n1, n2⟩
          · exact absurd vc y
          · exact ⟨s5.symm.trans z, n, n1, n2, (teq z).symm.trans n2⟩
    · have bk := h.bk pt1
      rw [if_neg bk.nc, if_neg bk.nl]
      exact ⟨_, _, _, _, rfl, rfl, kc1, kr1, pt1, Or.inr bk, Or.inl rfl, Or.inl rfl, fun z => absurd z bk.nr⟩
  · rw [bk.placeC, Option.bind_some, nm_eq, bk.gd, nm_eq, nm_eq, bk.acc, Option.bind_some, if_neg bk.nc, bk.must, Option.bind_some, if_neg bk.nl]
    exact ⟨_, _, _, _, rfl, rfl, KP.rfl, KP.rfl, pt, Or.inr bk, Or.inl rfl, Or.inl rfl, fun z => absurd z bk.nr⟩
