theorem fstX_first {P : Nat → Bool} {n k : Nat} (hk : k < n) (h : P k = true) (hl : ∀ j, j < k → P j = false) : fstX P n 0 = some k := by
  cases e : fstX P n 0 with
  | none => have := (fstX_none n 0).mp e k (by omega) (by omega); rw [h] at this; exact absurd this (by decide)
  | some j =>
    obtain ⟨_, j2, j3, j4⟩ := fstX_some _ _ _ e
    by_cases q : j = k
    · rw [q]
    · by_cases l : j < k
      · have := hl j l; rw [j3] at this; exact absurd this (by decide)
      · have := j4 k (by omega) (by omega); rw [h] at this; exact absurd this (by decide)
/-- a name just told, of no sort that is looked up, changes nothing -/
theorem tv_up {c s s' k : Nat} {L : Nat → List Nat} {so nu : Nat → Nat} {l0 : List Nat} (hs : s < 2) (hs' : 2 ≤ s') (d : DIS (c + 1) (upN L c l0)) (l : List Nat) : tvC (upN L c l0) (upN so c s') (upN nu c k) (c + 1) s l = tvR L so nu c s l := by
  rw [tv_eq hs d]
  have eq : ∀ i, i < c → (decide (upN L c l0 i = l ∧ min (upN so c s' i) 2 = s)) = decide (L i = l ∧ min (so i) 2 = s) := fun i hi => by
    rw [upN_ne (show ¬ i = c by omega), upN_ne (show ¬ i = c by omega)]
  unfold tvR
  cases q : fndR L so c s l with
  | none =>
    have n1 := (fstX_none c 0).mp q
    have : fndR (upN L c l0) (upN so c s') (c + 1) s l = none := (fstX_none (c + 1) 0).mpr (fun j a b => by
      by_cases z : j = c
      · rw [z, upN_eq, upN_eq]; exact decide_eq_false (fun y => by have := y.2; omega)
      · rw [eq j (by omega)]; exact n1 j a (by omega))
    rw [this]; rfl
  | some i =>
    obtain ⟨_, i2, i3, i4⟩ := fstX_some _ _ _ q
    have : fndR (upN L c l0) (upN so c s') (c + 1) s l = some i := fstX_first (by omega) ((eq i (by omega)).trans i3) (fun j hj => (eq j (by omega)).trans (i4 j (by omega) hj))
    rw [this]
    show nI (upN nu c k i) = nI (nu i)
    rw [upN_ne (by omega)]
theorem known2g {K N p t c m e s lim c2 m2 e2 : Nat} {bs : Nat → Nat} {L L2 : Nat → List Nat} {so nu so2 nu2 : Nat → Nat} {hc hr : PH} (pt : PT K bs N hc hr) (w : WP K bs N p hc hr) (nc : NC t c L so nu hc) (nr : NR c2 L2 so2 nu2 hr) (nw : NW c L so nu m e) (nw2 : NW c2 L2 so2 nu2 m2 e2) (hd : hc.1 2 5 = 0 → ∀ l, tvC L so nu c s l = tvR L2 so2 nu2 c2 s l) (ht : t = 8 ∨ t = 43) (ho : hc.2.2 2 1 = t) (hs : s < 2) (hlim : ∀ i, i < c → so i = s → nu i < lim) (hlim2 : ∀ i, i < c2 → so2 i = s → nu2 i < lim) (hl9 : lim < 100) {a1 a2 : Int32} (e1 : a1 = nI (64 + s)) (e2x : a2 = nI s) : ∃ v hc' v' hr', c_X4_toldName 2 a1 hc = some (v, hc') ∧ c_X12_known a2 hr = some (v', hr') ∧ KP GC hc hc' ∧ KP GR hr hr' ∧ PT K bs N hc' hr' ∧ WP K bs N (p + 1) hc' hr' ∧ (v = -1 ∨ ∃ n, n < lim ∧ v = nI n) ∧ (v' = -1 ∨ ∃ n, n < lim ∧ v' = nI n) ∧ (hr'.1 0 13 = 0 → hr.1 0 13 = 0 ∧ tK K bs p = 2 ∧ (RU K bs p hc' hr' ∨ (v = -1 ∧ v' = -1)) ∧ (hc'.1 2 5 = 0 → hc.1 2 5 = 0 ∧ ∃ n, n < lim ∧ v = nI n ∧ v' = nI n)) := by
  subst e1; subst e2x
  have hN := pt.2.1.1
  unfold c_X4_toldName c_X12_known
  rcases w with rs | bk
  · have h5 := rs.2.2.2.2.1
    obtain ⟨hc1, hr1, a, b, kc, kr, pt1, h⟩ := acc2 (k := 2) pt rs (by omega) (by omega) rfl
    have kc1 : KP GC hc hc1 := kc.mono (fun p k z => by unfold GC at z; unfold FAc; omega)
    have kr1 : KP GR hr hr1 := kr.mono (fun p k z => by unfold GR at z; unfold FAr; omega)
    rw [rs.placeC pt, Option.bind_some, nm_eq, rs.2.2.1, gdI (k := p) (by omega) (by omega), nI_clamp (n := p) (by omega), nm_eq, nm_eq, show c_X4_accept 2 2 hc = some hc1 from a, Option.bind_some, show c_X12_must 1 hr = some hr1 from b, Option.bind_some, rs.2.2.2.1]
    rcases h with ⟨q, h⟩ | h
    · obtain ⟨tc, tr⟩ := pt.2.2 p h5
      obtain ⟨ol, lc, lr⟩ := LT_ok q tc tr
      generalize LT K bs p = l at ol lc lr
      have nc1 : NC t c L so nu hc1 := nc.fr (kc.mono (fun p k z => by unfold FNc at z; unfold FAc; omega))
      have nr1 : NR c2 L2 so2 nu2 hr1 := nr.fr (kr.mono (fun p k z => by unfold FNr at z; unfold FAr; omega))
      have lr1 : hr1.2.1 6 p = lN (vB 27 l) := (kr.j (by unfold FAr; omega)).trans lr
      have ho1 : hc1.2.2 2 1 = t := (kc.r (by unfold FAc; omega)).trans ho
      have vc := tvC_v (L := L) hlim l
      have vr := tvR_v (L := L2) hs hlim2 l
      have ru1 : RU K bs p hc1 hr1 := by
        have := rs.2.2.2.2.2
        unfold RU at this ⊢
        rw [kc.i (p := 2) (k := 5) (by unfold FAc; omega), kc.i (p := 2) (k := 6) (by unfold FAc; omega), kr.i (p := 0) (k := 15) (by unfold FAr; omega), kr.i (p := 0) (k := 16) (by unfold FAr; omega)]; exact this
      have s5 : hc1.1 2 5 = hc.1 2 5 := kc.i (by unfold FAc; omega)
      have wr := wrongC (f := 4) pt.2.1 pt.1 h5 (pt1.2.2 p h5).2 h.2.1 ru1
      have ck := cmpC_k (nI 4) (nI (tS K bs p)) hc1
      have rk := cmpR_k (nI 4) (nI (tS K bs p)) hr1
      have eC : (if hc1.1 2 3 = 0 then nm (hc1.2.2 2 1) fun t5 => gd (tOK t5) <| nm (hc1.2.2 2 1) fun t6 => gd (tOK t6) <| (c_X9_findName t6 (hc.2.1 (2 + 1 + 3) p) hc1).bind fun r7 => (c_X9_numberOf t5 r7 (nI (64 + s)) hc1).bind fun r8 => nm r8 fun v9 => if v9 = -1 then (c_X4_complain 2 4 (nI (tS K bs p)) hc1).bind fun h10 => some (v9, h10) else some (v9, hc1) else some (-1, hc1)) = some (tvC L so nu c s l, if tvC L so nu c s l = -1 then cmpC (nI 4) (nI (tS K bs p)) hc1 else hc1) := by
        have tv := tvC_ok (s := s) nc1 nw ol hs
        rw [if_pos h.1, nm_eq, nm_eq, ho1, gdT ht, gdT ht, show hc.2.1 (2 + 1 + 3) p = lN (vB 32 l) from lc]
        have bb : ∀ (F : Int32 → Option (Int32 × PH)), ((c_X9_findName t (lN (vB 32 l)) hc1).bind fun r7 => (c_X9_numberOf t r7 (nI (64 + s)) hc1).bind F) = F (tvC L so nu c s l) := fun F => by
          rw [← Option.bind_assoc, tv]; rfl
        rw [bb, nm_eq, show (4 : Int32) = nI 4 from rfl, complC]
        by_cases z : tvC L so nu c s l = -1
        · rw [if_pos z, if_pos z]; rfl
        · rw [if_neg z, if_neg z]
      have eR : (if hr1.1 0 13 ≤ 0 then nm (0 : Int32) fun v3 => lq1 (c_X12_known_L21b (nI s) (nI p) hr1 (fun w6 => gd (ixOK w6 27) <| some ((hr1.1 10 w6.toNatClampNeg), hr1)) ((c_X12_wrong 4 (nI p) hr1).bind fun h7 => some ((-1), h7))) fu v3 else some (-1, hr1)) = some (tvR L2 so2 nu2 c2 s l, if tvR L2 so2 nu2 c2 s l = -1 then cmpR (nI 4) (nI (tS K bs p)) hr1 else hr1) := by
        rw [h.2.1, if_pos (show (0 : Int32) ≤ 0 by decide), nm_eq, knownR nr1 nw2 ol hs (by omega) lr1]
        unfold tvR
        cases z : fndR L2 so2 c2 s l with
        | none =>
          show ((c_X12_wrong 4 (nI p) hr1).bind fun h7 => some ((-1 : Int32), h7)) = some (-1, if (-1 : Int32) = -1 then _ else _)
          rw [show (4 : Int32) = nI 4 from rfl, wr, if_pos (Eq.refl _)]; rfl
        | some i =>
          obtain ⟨_, i2, _, _⟩ := fstX_some _ _ _ z
          have hi : i < c2 := by omega
          have c27 := nw2.1
          have n9 := (nw2.2 i hi).2.2.1
          show (gd (ixOK (nI i) 27) <| some ((hr1.1 10 (nI i).toNatClampNeg), hr1)) = some (nI (nu2 i), if nI (nu2 i) = -1 then _ else hr1)
          rw [gdI (by omega) (by omega), nI_clamp (by omega), (nr1.2 i hi).2.2, if_neg (m1_ne _ (by omega))]
      have eR : (if hr1.1 0 13 ≤ 0 then nm (0 : Int32) fun v3 => lq1 (c_X12_known_L21b (nI s) (nI p) hr1 (fun w6 => gd (ixOK w6 27) <| some ((hr1.1 10 w6.toNatClampNeg), hr1)) ((c_X12_wrong 4 (nI p) hr1).bind fun h7 => some ((-1), h7))) fu v3 else some (-1, hr1)) = some (tvR L2 so2 nu2 c2 s l, if tvR L2 so2 nu2 c2 s l = -1 then cmpR (nI 4) (nI (tS K bs p)) hr1 else hr1) := eR
      have teq : hc1.1 2 5 = 0 → tvC L so nu c s l = tvR L2 so2 nu2 c2 s l := fun z => hd (s5.symm.trans z) l
      generalize tvC L so nu c s l = vC at vc eC teq
      generalize tvR L2 so2 nu2 c2 s l = vR at vr eR teq
      have ruF : ∀ q, q = p ∨ q = p + 1 → (q = p → ¬ (vC = -1 ∧ vR = -1)) → RU K bs q (if vC = -1 then cmpC (nI 4) (nI (tS K bs p)) hc1 else hc1) (if vR = -1 then cmpR (nI 4) (nI (tS K bs p)) hr1 else hr1) := fun q hq hn => by
        have le : RU K bs q hc1 hr1 := ru1.le (by omega)
        by_cases u : hc1.1 2 5 = 0
        · have te := teq u
          by_cases z : vC = -1
          · rw [if_pos z, if_pos (te.symm.trans z)]
            have : q = p + 1 := by
              rcases hq with hq | hq
              · exact absurd ⟨z, te.symm.trans z⟩ (hn hq)
              · exact hq
            rw [this]; exact RU_cmp (by omega) (by omega) ru1
          · rw [if_neg z, if_neg (fun y => z (te.trans y))]; exact le
        · rw [cmpC_no u, cmpR_no (RU_nz ru1 u)]
          have i1 : (if vC = -1 then hc1 else hc1) = hc1 := by by_cases z : vC = -1 <;> simp [z]
          have i2 : (if vR = -1 then hr1 else hr1) = hr1 := by by_cases z : vR = -1 <;> simp [z]
          rw [i1, i2]; exact le
      have kcF : KP (fun p k => ¬ (p = 2 ∧ (k = 5 ∨ k = 6))) hc1 (if vC = -1 then cmpC (nI 4) (nI (tS K bs p)) hc1 else hc1) := by
        by_cases z : vC = -1
        · rw [if_pos z]; exact ck
        · rw [if_neg z]; exact KP.rfl
      have krF : KP (fun p k => ¬ (p = 0 ∧ (k = 15 ∨ k = 16))) hr1 (if vR = -1 then cmpR (nI 4) (nI (tS K bs p)) hr1 else hr1) := by
        by_cases z : vR = -1
        · rw [if_pos z]; exact rk
        · rw [if_neg z]; exact KP.rfl
      refine ⟨vC, _, vR, _, eC, eR, kc1.trans (kcF.mono (fun p k z => by unfold GC at z; omega)), kr1.trans (krF.mono (fun p k z => by unfold GR at z; omega)), pt1.fr2 (kcF.mono (fun p k z => by omega)) (krF.mono (fun p k z => by omega)), Or.inl ⟨(kcF.i (by omega)).trans h.1, (krF.i (by omega)).trans h.2.1, (kcF.i (by omega)).trans h.2.2.1, (krF.i (by omega)).trans h.2.2.2.1, h.2.2.2.2.1, ruF (p + 1) (Or.inr rfl) (fun z => absurd z (by omega))⟩, vc, vr, fun _ => ⟨rs.2.1, q, ?_, ?_⟩⟩
      · by_cases z : vC = -1 ∧ vR = -1
        · exact Or.inr z
        · exact Or.inl (ruF p (Or.inl rfl) (fun _ => z))
      · intro z
        by_cases y : vC = -1
        · rw [if_pos y] at z; exact absurd z (cmpC_n (by omega) (by omega))
        · rw [if_neg y] at z
          rcases vc with vc | ⟨n, n1, n2⟩
          · exact absurd vc y
          · exact ⟨s5.symm.trans z, n, n1, n2, (teq z).symm.trans n2⟩
    · have bk := h.bk pt1
      rw [if_neg bk.nc, if_neg bk.nl]
      exact ⟨_, _, _, _, rfl, rfl, kc1, kr1, pt1, Or.inr bk, Or.inl rfl, Or.inl rfl, fun z => absurd z bk.nr⟩
  · rw [bk.placeC, Option.bind_some, nm_eq, bk.gd, nm_eq, nm_eq, bk.acc, Option.bind_some, if_neg bk.nc, bk.must, Option.bind_some, if_neg bk.nl]
    exact ⟨_, _, _, _, rfl, rfl, KP.rfl, KP.rfl, pt, Or.inr bk, Or.inl rfl, Or.inl rfl, fun z => absurd z bk.nr⟩
theorem BK.known {hc hr : PH} {a1 : Int32} (h : BK hc hr) : c_X12_known a1 hr = some (-1, hr) := by
  unfold c_X12_known
  rw [nm_eq, h.must, Option.bind_some, if_neg h.nl]
