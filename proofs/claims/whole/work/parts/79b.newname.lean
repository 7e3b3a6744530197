def upN {α : Type} (f : Nat → α) (k : Nat) (x : α) : Nat → α := fun i => if i = k then x else f i
theorem upN_eq {α : Type} (f : Nat → α) (k : Nat) (x : α) : upN f k x k = x := if_pos rfl
theorem upN_ne {α : Type} {f : Nat → α} {k i : Nat} {x : α} (h : ¬ i = k) : upN f k x i = f i := if_neg h
def GC2 (t p k : Nat) : Prop := GC p k ∧ ¬ FNc t p k
/-- a name is added to the class's -/
theorem addN_ok {t c k s : Nat} {L : Nat → List Nat} {so nu : Nat → Nat} {h : PH} {l : List Nat} (nc : NC t c L so nu h) (hc : c < 27) : ∃ h', c_X9_addName t (lN (vB 32 l)) (nI (64 + s)) (nI k) h = some h' ∧ NC t (c + 1) (upN L c l) (upN so c s) (upN nu c k) h' ∧ KP (fun p k => ¬ FNc t p k) h h' := by
  unfold c_X9_addName
  rw [nc.1, if_neg (show ¬ (27 : Int32) ≤ nI c from nI_ge (b := 27) hc (by omega)), gdI (k := c) (by omega) (by omega), nI_clamp (n := c) (by omega), nm_eq]
  have e1 : (setJ h (t + 32) c (lN (vB 32 l))).1 t 17 = nI c := nc.1
  rw [e1, gdI (k := c) (by omega) (by omega), nI_clamp (n := c) (by omega), nm_eq]
  have e2 : (setI (setJ h (t + 32) c (lN (vB 32 l))) (t + 33) c (nI (64 + s))).1 t 17 = nI c := by rw [setI_ne (by omega)]; exact nc.1
  rw [e2, gdI (k := c) (by omega) (by omega), nI_clamp (n := c) (by omega), nm_eq]
  have e3 : (setI (setI (setJ h (t + 32) c (lN (vB 32 l))) (t + 33) c (nI (64 + s))) (t + 34) c (nI k)).1 t 17 = nI c := by rw [setI_ne (by omega)]; exact e2
  rw [e3, nI_1, nm_eq]
  refine ⟨_, rfl, ⟨setI_eq _ _ _ _, fun i hi => ?_⟩, ((KP.setJ (fun z => z (Or.inr ⟨by omega, by omega⟩))).trans (KP.setI (fun z => z (Or.inr ⟨by omega, by omega⟩)))).trans ((KP.setI (fun z => z (Or.inr ⟨by omega, by omega⟩))).trans (KP.setI (fun z => z (Or.inl ⟨rfl, rfl⟩))))⟩
  by_cases q : i = c
  · subst q
    rw [upN_eq, upN_eq, upN_eq]
    exact ⟨setJ_eq _ _ _ _, by rw [setI_ne (by omega), setI_ne (by omega), setI_eq], by rw [setI_ne (by omega), setI_eq]⟩
  · obtain ⟨x1, x2, x3⟩ := nc.2 i (by omega)
    rw [upN_ne q, upN_ne q, upN_ne q]
    refine ⟨?_, ?_, ?_⟩
    · show (setJ h (t + 32) c (lN (vB 32 l))).2.1 (t + 32) i = _
      rw [setJ_ne (by omega)]; exact x1
    · rw [setI_ne (by omega), setI_ne (by omega), setI_ne (by omega)]; exact x2
    · rw [setI_ne (by omega), setI_ne (by omega), setI_ne (by omega)]; exact x3
theorem notesR {c q k s : Nat} {L : Nat → List Nat} {so nu : Nat → Nat} {h : PH} {l : List Nat} (nr : NR c L so nu h) (hc : c < 27) (hq : q < 403) (hl : h.2.1 6 q = lN (vB 27 l)) : ∃ h', c_X12_notes (nI q) (nI (min s 2)) (nI k) h = some h' ∧ NR (c + 1) (upN L c l) (upN so c s) (upN nu c k) h' ∧ KP (fun p k => ¬ FNr p k) h h' := by
  unfold c_X12_notes
  rw [gdI (k := q) (by omega) (by omega), nr.1, gdI (k := c) (by omega) (by omega), nI_clamp (n := c) (by omega), nI_clamp (n := q) (by omega), hl, nm_eq]
  have e1 : (setJ h 8 c (lN (vB 27 l))).1 0 20 = nI c := nr.1
  rw [e1, gdI (k := c) (by omega) (by omega), nI_clamp (n := c) (by omega), nm_eq]
  have e2 : (setI (setJ h 8 c (lN (vB 27 l))) 9 c (nI (min s 2))).1 0 20 = nI c := by rw [setI_ne (by omega)]; exact nr.1
  rw [e2, gdI (k := c) (by omega) (by omega), nI_clamp (n := c) (by omega), nm_eq]
  have e3 : (setI (setI (setJ h 8 c (lN (vB 27 l))) 9 c (nI (min s 2))) 10 c (nI k)).1 0 20 = nI c := by rw [setI_ne (by omega)]; exact e2
  rw [e3, nI_1, nm_eq]
  refine ⟨_, rfl, ⟨setI_eq _ _ _ _, fun i hi => ?_⟩, ((KP.setJ (fun z => z (Or.inr ⟨by omega, by omega⟩))).trans (KP.setI (fun z => z (Or.inr ⟨by omega, by omega⟩)))).trans ((KP.setI (fun z => z (Or.inr ⟨by omega, by omega⟩))).trans (KP.setI (fun z => z (Or.inl ⟨rfl, rfl⟩))))⟩
  by_cases z : i = c
  · subst z
    rw [upN_eq, upN_eq, upN_eq]
    exact ⟨setJ_eq _ _ _ _, by rw [setI_ne (by omega), setI_ne (by omega), setI_eq], by rw [setI_ne (by omega), setI_eq]⟩
  · obtain ⟨x1, x2, x3⟩ := nr.2 i (by omega)
    rw [upN_ne z, upN_ne z, upN_ne z]
    refine ⟨?_, ?_, ?_⟩
    · show (setJ h 8 c (lN (vB 27 l))).2.1 8 i = _
      rw [setJ_ne (by omega)]; exact x1
    · rw [setI_ne (by omega), setI_ne (by omega), setI_ne (by omega)]; exact x2
    · rw [setI_ne (by omega), setI_ne (by omega), setI_ne (by omega)]; exact x3
/-- the reference's walk over the names told: a complaint if one is the same -/
theorem namedR {K N p c m e : Nat} {bs : Nat → Nat} {L : Nat → List Nat} {so nu : Nat → Nat} {hc h : PH} {l : List Nat} (ht : tEnd K bs N) (hK : K ≤ 2000) (hp : p < N) (tr : TokR K bs h p) (hb : h.1 0 13 = 0) (ru : RU K bs p hc h) (nr : NR c L so nu h) (nw : NW c L so nu m e) (ol : okL l) (hl : h.2.1 6 p = lN (vB 27 l)) (K1 : PH → Option (Int32 × PH)) : lq2 (c_X12_named_L12b (nI p) K1) fu 0 h = K1 (if fnd L c l = none then h else cmpR (nI 3) (nI (tS K bs p)) h) := by
  have hN := ht.1
  have c27 := nw.1
  have ck := cmpR_k (nI 3) (nI (tS K bs p)) h
  have w1 := wrongC (f := 3) ht hK hp tr hb ru
  have w2 : c_X12_wrong (nI 3) (nI p) (cmpR (nI 3) (nI (tS K bs p)) h) = some (cmpR (nI 3) (nI (tS K bs p)) h) := by
    have tr' : TokR K bs (cmpR (nI 3) (nI (tS K bs p)) h) p := ⟨(ck.i (by omega)).trans tr.1, (ck.i (by omega)).trans tr.2.1, fun z => (ck.i (by omega)).trans (tr.2.2.1 z), fun z1 z2 z3 => (ck.j (by omega)).trans (tr.2.2.2 z1 z2 z3)⟩
    rw [wrongR (by omega) tr' ((ck.i (by omega)).trans hb)]
    have lK := tS_le K bs p
    rcases ru with ⟨u1, u2, u9⟩ | ⟨u, r, u1, u2, u3, u4, u5, u6, u7⟩
    · unfold cmpR
      rw [if_pos u2]
      have v1 : (setI (setI h 0 15 (nI 3)) 0 16 (nI (tS K bs p))).1 0 15 = nI 3 := by rw [setI_ne (by omega), setI_eq]
      rw [v1, setI_eq, if_neg (show ¬ nI 3 = 0 by decide), if_neg (show ¬ nI (tS K bs p) < nI (tS K bs p) from Int32.lt_irrefl), if_pos (Eq.refl _), if_neg (show ¬ nI 3 < nI 3 from Int32.lt_irrefl)]
    · have l := tS_mono ht r p u3 hp
      rw [cmpR_no (by rw [u5]; exact nI_nz u1 (by omega)), u5, u7, if_neg (nI_nz u1 (by omega)), if_pos (nI_lt l (by omega))]
  obtain ⟨y, ey, hy⟩ := for_h (B := c_X12_named_L12b (nI p) K1) (K := K1) (N := c) (fun i y => ((∀ j, j < i → ¬ L j = l) ∧ y = h) ∨ ((∃ j, j < i ∧ L j = l) ∧ y = cmpR (nI 3) (nI (tS K bs p)) h)) (by omega) (fun REC i y hi hy => by
    have ok := (nw.2 i hi).1
    have body : ∀ y : PH, y.1 0 20 = nI c → y.1 0 13 = 0 → y.2.1 8 i = lN (vB 27 (L i)) → y.2.1 6 p = lN (vB 27 l) → c_X12_named_L12b (nI p) K1 REC (nI i) y = if L i = l then ((c_X12_wrong 3 (nI p) y).bind fun h5 => REC (nI (i + 1)) h5) else REC (nI (i + 1)) y := fun y a1 a2 a3 a4 => by
      unfold c_X12_named_L12b
      rw [a1, if_neg (nI_ge hi (by omega)), if_pos a2, gdI (k := i) (by omega) (by omega), gdI (k := p) (by omega) (by omega), nI_clamp (n := i) (by omega), nI_clamp (n := p) (by omega), a3, a4, nI_1, ite_cg ((lg_cmp_eq _ _).trans ((lN_inj ok.2.2 ol.2.2).trans (vB_inj (by omega) ok.1 ol.1)))]
      rfl
    rcases hy with ⟨h1, h2⟩ | ⟨h1, h2⟩
    · subst h2
      rw [body y nr.1 hb (nr.2 i hi).1 hl]
      by_cases q : L i = l
      · rw [if_pos q, show (3 : Int32) = nI 3 from rfl, w1]
        exact ⟨_, rfl, Or.inr ⟨⟨i, by omega, q⟩, rfl⟩⟩
      · rw [if_neg q]
        exact ⟨_, rfl, Or.inl ⟨fun j hj => by
          by_cases z : j = i
          · rw [z]; exact q
          · exact h1 j (by omega), rfl⟩⟩
    · subst h2
      rw [body _ ((ck.i (by omega)).trans nr.1) ((ck.i (by omega)).trans hb) ((ck.j (by omega)).trans (nr.2 i hi).1) ((ck.j (by omega)).trans hl)]
      obtain ⟨j, j1, j2⟩ := h1
      by_cases q : L i = l
      · rw [if_pos q, show (3 : Int32) = nI 3 from rfl, w2]
        exact ⟨_, rfl, Or.inr ⟨⟨j, by omega, j2⟩, rfl⟩⟩
      · rw [if_neg q]
        exact ⟨_, rfl, Or.inr ⟨⟨j, by omega, j2⟩, rfl⟩⟩) (fun REC y hy => by
    have a1 : y.1 0 20 = nI c := by
      rcases hy with ⟨_, h2⟩ | ⟨_, h2⟩
      · rw [h2]; exact nr.1
      · rw [h2]; exact (ck.i (by omega)).trans nr.1
    unfold c_X12_named_L12b
    rw [a1, if_pos (nI_le (by omega) (by omega))]) h (Or.inl ⟨fun j hj => absurd hj (by omega), rfl⟩)
  rw [ey]
  rcases hy with ⟨h1, h2⟩ | ⟨⟨j, j1, j2⟩, h2⟩
  · have : fnd L c l = none := (fstX_none c 0).mpr (fun j _ b => decide_eq_false (h1 j (by omega)))
    rw [if_pos this, h2]
  · have : ¬ fnd L c l = none := fun z => by
      have := of_decide_eq_false ((fstX_none c 0).mp z j (by omega) (by omega))
      exact this j2
    rw [if_neg this, h2]
theorem name2 {K N p t c m e s k : Nat} {bs : Nat → Nat} {L : Nat → List Nat} {so nu : Nat → Nat} {hc hr : PH} (pt : PT K bs N hc hr) (w : WP K bs N p hc hr) (nc : NC t c L so nu hc) (nr : NR c L so nu hr) (nw : NW c L so nu m e) (ht : t = 8 ∨ t = 43) (ho : hc.2.2 2 1 = t) (hc27 : c < 27) {a1 a2 : Int32} (e1 : a1 = nI (64 + s)) (e2 : a2 = nI k) : ∃ hc' v' hr', c_X4_newName 2 a1 a2 hc = some hc' ∧ c_X12_named hr = some (v', hr') ∧ KP (GC2 t) hc hc' ∧ KP GR hr hr' ∧ PT K bs N hc' hr' ∧ WP K bs N (p + 1) hc' hr' ∧ (hr'.1 0 13 = 0 → hr.1 0 13 = 0 ∧ tK K bs p = 2 ∧ v' = nI p ∧ hr'.2.1 6 p = lN (vB 27 (LT K bs p)) ∧ okL (LT K bs p) ∧ NC t (c + 1) (upN L c (LT K bs p)) (upN so c s) (upN nu c k) hc' ∧ (hc'.1 2 5 = 0 → hc.1 2 5 = 0 ∧ ∀ i, i < c → ¬ L i = LT K bs p)) := by
  subst e1; subst e2
  have hN := pt.2.1.1
  unfold c_X4_newName c_X12_named
  rcases w with rs | bk
  · have h5 := rs.2.2.2.2.1
    obtain ⟨hc1, hr1, a, b, kc, kr, pt1, h⟩ := acc2 (k := 2) pt rs (by omega) (by omega) rfl
    have kc1 : KP GC hc hc1 := kc.mono (fun p k z => by unfold GC at z; unfold FAc; omega)
    have kr1 : KP GR hr hr1 := kr.mono (fun p k z => by unfold GR at z; unfold FAr; omega)
    rw [rs.placeC pt, Option.bind_some, nm_eq, rs.2.2.1, gdI (k := p) (by omega) (by omega), nI_clamp (n := p) (by omega), nm_eq, nm_eq, show c_X4_accept 2 2 hc = some hc1 from a, Option.bind_some, show c_X12_must 1 hr = some hr1 from b, Option.bind_some, rs.2.2.2.1, nm_eq (0 : Int32)]
    rcases h with ⟨q, h⟩ | h
    · obtain ⟨tc, tr⟩ := pt.2.2 p h5
      obtain ⟨ol, lc, lr⟩ := LT_ok q tc tr
      generalize LT K bs p = l at ol lc lr
      have nc1 : NC t c L so nu hc1 := nc.fr (kc.mono (fun p k z => by unfold FNc at z; unfold FAc; omega))
      have nr1 : NR c L so nu hr1 := nr.fr (kr.mono (fun p k z => by unfold FNr at z; unfold FAr; omega))
      have lr1 : hr1.2.1 6 p = lN (vB 27 l) := (kr.j (by unfold FAr; omega)).trans lr
      have ho1 : hc1.2.2 2 1 = t := (kc.r (by unfold FAc; omega)).trans ho
      have ru1 : RU K bs p hc1 hr1 := by
        have := rs.2.2.2.2.2
        unfold RU at this ⊢
        rw [kc.i (p := 2) (k := 5) (by unfold FAc; omega), kc.i (p := 2) (k := 6) (by unfold FAc; omega), kr.i (p := 0) (k := 15) (by unfold FAr; omega), kr.i (p := 0) (k := 16) (by unfold FAr; omega)]; exact this
      have s5 : hc1.1 2 5 = hc.1 2 5 := kc.i (by unfold FAc; omega)
      have rk := cmpR_k (nI 3) (nI (tS K bs p)) hr1
      have ck := cmpC_k (nI 3) (nI (tS K bs p)) hc1
      rw [namedR pt.2.1 pt.1 h5 (pt1.2.2 p h5).2 h.2.1 ru1 nr1 nw ol lr1, if_pos h.1, nm_eq, ho1, gdT ht, show hc.2.1 (2 + 1 + 3) p = lN (vB 32 l) from lc, fndC nc1 nw ol, Option.bind_some]
      cases z : fnd L c l with
      | none =>
        have nf := (fstX_none c 0).mp z
        show ∃ hc' v' hr', (if (-1 : Int32) = -1 then _ else _) = some hc' ∧ some (nI p, if (none : Option Nat) = none then hr1 else _) = some (v', hr') ∧ _
        rw [if_pos (Eq.refl (-1 : Int32)), if_pos (Eq.refl (none : Option Nat)), nm_eq, gdT ht]
        obtain ⟨h', ea, nc', ka⟩ := addN_ok (s := s) (k := k) (l := l) nc1 hc27
        rw [ea]
        have kf : KP (GC2 t) hc h' := (kc1.mono (fun p k z => z.1)).trans (ka.mono (fun p k z => z.2))
        have ka2 : KP FWc hc1 h' := ka.mono (fun p k z => by unfold FWc at z; unfold FNc; omega)
        exact ⟨h', _, hr1, rfl, rfl, kf, kr1, pt1.fr2 (ka.mono (fun p k z => by unfold FNc; omega)) KP.rfl, Or.inl (h.fr ka2 KP.rfl), fun _ => ⟨rs.2.1, q, rfl, lr1, ol, nc', fun y => ⟨s5.symm.trans ((ka2.i ⟨rfl, by omega, by omega⟩).symm.trans y), fun i hi => of_decide_eq_false (nf i (by omega) (by omega))⟩⟩⟩
      | some j =>
        obtain ⟨_, j2, _, _⟩ := fstX_some _ _ _ z
        show ∃ hc' v' hr', (if nI j = -1 then _ else _) = some hc' ∧ some (nI p, if (some j : Option Nat) = none then hr1 else _) = some (v', hr') ∧ _
        rw [if_neg (m1_ne j (by omega)), if_neg (show ¬ (some j : Option Nat) = none from fun y => nomatch y), show (3 : Int32) = nI 3 from rfl, complC, Option.bind_some, nm_eq, (ck.r (by omega) : (cmpC (nI 3) (nI (tS K bs p)) hc1).2.2 2 1 = _), ho1, gdT ht]
        have nc2 : NC t c L so nu (cmpC (nI 3) (nI (tS K bs p)) hc1) := nc1.fr (ck.mono (fun p k z => by unfold FNc at z; omega))
        obtain ⟨h', ea, nc', ka⟩ := addN_ok (s := s) (k := k) (l := l) nc2 hc27
        rw [ea]
        have k12 : KP GC hc (cmpC (nI 3) (nI (tS K bs p)) hc1) := kc1.trans (ck.mono (fun p k z => by unfold GC at z; omega))
        have kf : KP (GC2 t) hc h' := (k12.mono (fun p k z => z.1)).trans (ka.mono (fun p k z => z.2))
        have ka2 : KP FWc (cmpC (nI 3) (nI (tS K bs p)) hc1) h' := ka.mono (fun p k z => by unfold FWc at z; unfold FNc; omega)
        have rs2 : RS K bs N (p + 1) (cmpC (nI 3) (nI (tS K bs p)) hc1) (cmpR (nI 3) (nI (tS K bs p)) hr1) := ⟨(ck.i (by omega)).trans h.1, (rk.i (by omega)).trans h.2.1, (ck.i (by omega)).trans h.2.2.1, (rk.i (by omega)).trans h.2.2.2.1, h.2.2.2.2.1, RU_cmp (by omega) (by omega) ru1⟩
        refine ⟨h', _, _, rfl, rfl, kf, kr1.trans (rk.mono (fun p k z => by unfold GR at z; omega)), (pt1.fr2 (ck.mono (fun p k z => by omega)) (rk.mono (fun p k z => by omega))).fr2 (ka.mono (fun p k z => by unfold FNc; omega)) KP.rfl, Or.inl (rs2.fr ka2 KP.rfl), fun _ => ⟨rs.2.1, q, rfl, (rk.j (by omega)).trans lr1, ol, nc', fun y => ?_⟩⟩
        have y := (ka2.i (p := 2) (k := 5) ⟨rfl, by omega, by omega⟩).symm.trans y
        exact absurd y (cmpC_n (by omega) (by omega))
    · have bk := h.bk pt1
      rw [if_neg bk.nc]
      obtain ⟨f, hf⟩ : ∃ f, fu = f + 1 := ⟨8191, by unfold fu; omega⟩
      rw [hf, lq2_s]
      unfold c_X12_named_L12b
      rw [if_neg bk.nr]
      by_cases z : hr1.1 0 20 ≤ 0
      · rw [if_pos z]
        exact ⟨_, _, _, rfl, rfl, kc1.mono (fun p k z => z.1), kr1, pt1, Or.inr bk, fun z => absurd z bk.nr⟩
      · rw [if_neg z]
        exact ⟨_, _, _, rfl, rfl, kc1.mono (fun p k z => z.1), kr1, pt1, Or.inr bk, fun z => absurd z bk.nr⟩
  · rw [bk.placeC, Option.bind_some, nm_eq, bk.gd, nm_eq, nm_eq, bk.acc, Option.bind_some, if_neg bk.nc, bk.must, Option.bind_some, nm_eq (0 : Int32)]
    obtain ⟨f, hf⟩ : ∃ f, fu = f + 1 := ⟨8191, by unfold fu; omega⟩
    rw [hf, lq2_s]
    unfold c_X12_named_L12b
    rw [if_neg bk.nr]
    by_cases z : hr.1 0 20 ≤ 0
    · rw [if_pos z]
      exact ⟨_, _, _, rfl, rfl, KP.rfl, KP.rfl, pt, Or.inr bk, fun z => absurd z bk.nr⟩
    · rw [if_neg z]
      exact ⟨_, _, _, rfl, rfl, KP.rfl, KP.rfl, pt, Or.inr bk, fun z => absurd z bk.nr⟩
