theorem rot_ok {t m a o : Nat} {h : PH} (ht : t = 8 ∨ t = 43) (a0 : h.1 t 0 = nI m) (hm : m ≤ 5) (ha : a < m) (ho : o < m) {x : Int32} (e4 : h.1 t 4 = x) : ∃ h', c_X9_addKnows t (nI a) (nI o) h = some h' ∧ h'.1 t 4 = x + 1 ∧ (∀ i, i < m → h'.1 (t + 7 + 1 + i) 2 = if i = o then (if o = a then (h.1 (t + 7 + 1 + a) 2 ||| nI (2 ^ o)) else h.1 (t + 7 + 1 + o) 2) ||| nI (2 ^ a) else if i = a then h.1 (t + 7 + 1 + a) 2 ||| nI (2 ^ o) else h.1 (t + 7 + 1 + i) 2) ∧ KP (fun p k => ¬ (p = t ∧ k = 4) ∧ ¬ (t + 8 ≤ p ∧ p ≤ t + 12 ∧ k = 2)) h h' := by
  unfold c_X9_addKnows c_X9_isMan
  rw [if_neg (nI_pos (by omega)), a0, if_neg (nI_ge ha (by omega)), Option.bind_some, if_neg (show ¬ (1 : Int32) = 0 by decide), if_neg (nI_pos (by omega)), if_neg (nI_ge ho (by omega)), Option.bind_some, if_neg (show ¬ (1 : Int32) = 0 by decide), gdI (k := a) (by omega) (by omega), nI_clamp (n := a) (by omega), b_shl (by omega), nm_eq, gdI (k := o) (by omega) (by omega), nI_clamp (n := o) (by omega), b_shl (by omega), nm_eq, nm_eq]
  refine ⟨_, rfl, ?_, fun i hi => ?_, ((KP.setI (fun z => z.2 ⟨by omega, by omega, rfl⟩)).trans (KP.setI (fun z => z.2 ⟨by omega, by omega, rfl⟩))).trans (KP.setI (fun z => z.1 ⟨rfl, rfl⟩))⟩
  · rw [setI_eq, setI_ne (by omega), setI_ne (by omega), e4]
  · rw [setI_ne (by omega)]
    by_cases q : i = o
    · subst q
      rw [setI_eq, if_pos rfl]
      by_cases r : i = a
      · subst r; rw [setI_eq, if_pos rfl]
      · rw [setI_ne (by omega), if_neg r]
    · rw [if_neg q, setI_ne (by omega)]
      by_cases r : i = a
      · subst r; rw [setI_eq, if_pos rfl]
      · rw [setI_ne (by omega), if_neg r]
/-- the masks after two men are told to know each other -/
def kno2 (f : Nat → Nat) (a o i : Nat) : Nat := if i = o then (if o = a then f a ||| 2 ^ o else f o) ||| 2 ^ a else if i = a then f a ||| 2 ^ o else f i
theorem kno2_lt {f : Nat → Nat} {a o i m : Nat} (hm : m ≤ 5) (ha : a < m) (ho : o < m) (hi : i < m) (h : ∀ i, i < m → f i < 32) : kno2 f a o i < 32 := by
  have p1 : 2 ^ o < 2 ^ 5 := Nat.pow_lt_pow_right (by omega) (by omega)
  have p2 : 2 ^ a < 2 ^ 5 := Nat.pow_lt_pow_right (by omega) (by omega)
  unfold kno2
  have o1 : f a ||| 2 ^ o < 2 ^ 5 := Nat.or_lt_two_pow (h a ha) p1
  by_cases q : i = o
  · rw [if_pos q]
    by_cases r : o = a
    · rw [if_pos r]; exact Nat.or_lt_two_pow o1 p2
    · rw [if_neg r]; exact Nat.or_lt_two_pow (h o ho) p2
  · rw [if_neg q]
    by_cases r : i = a
    · rw [if_pos r]; exact o1
    · rw [if_neg r]; exact h i hi
theorem kno2_I {f : Nat → Nat} {g : Nat → Int32} {a o i m : Nat} (ha : a < m) (ho : o < m) (hi : i < m) (h : ∀ i, i < m → g i = nI (f i)) : (if i = o then (if o = a then (g a ||| nI (2 ^ o)) else g o) ||| nI (2 ^ a) else if i = a then g a ||| nI (2 ^ o) else g i) = nI (kno2 f a o i) := by
  unfold kno2
  by_cases q : i = o
  · rw [if_pos q, if_pos q]
    by_cases r : o = a
    · rw [if_pos r, if_pos r, h a ha, b_or, b_or]
    · rw [if_neg r, if_neg r, h o ho, b_or]
  · rw [if_neg q, if_neg q]
    by_cases r : i = a
    · rw [if_pos r, if_pos r, h a ha, b_or]
    · rw [if_neg r, if_neg r, h i hi]
/-- the class's part behind two names, in any case -/
theorem addKnoC {t m : Nat} {v1 v2 : Int32} {h : PH} (ht : t = 8 ∨ t = 43) (a0 : h.1 t 0 = nI m) (hm : m ≤ 5) (hv1 : v1 = -1 ∨ ∃ n, n < m ∧ v1 = nI n) (hv2 : v2 = -1 ∨ ∃ n, n < m ∧ v2 = nI n) : ∃ h', c_X9_addKnows t v1 v2 h = some h' ∧ h'.1 t 4 = h.1 t 4 + 1 ∧ (∀ a o, a < m → o < m → v1 = nI a → v2 = nI o → ∀ i, i < m → h'.1 (t + 7 + 1 + i) 2 = if i = o then (if o = a then (h.1 (t + 7 + 1 + a) 2 ||| nI (2 ^ o)) else h.1 (t + 7 + 1 + o) 2) ||| nI (2 ^ a) else if i = a then h.1 (t + 7 + 1 + a) 2 ||| nI (2 ^ o) else h.1 (t + 7 + 1 + i) 2) ∧ KP (fun p k => ¬ (p = t ∧ k = 4) ∧ ¬ (t + 8 ≤ p ∧ p ≤ t + 12 ∧ k = 2)) h h' := by
  have no : ∃ h', some (setI h t 4 (h.1 t 4 + 1)) = some h' ∧ h'.1 t 4 = h.1 t 4 + 1 ∧ KP (fun p k => ¬ (p = t ∧ k = 4) ∧ ¬ (t + 8 ≤ p ∧ p ≤ t + 12 ∧ k = 2)) h h' := ⟨_, rfl, setI_eq _ _ _ _, KP.setI (fun z => z.1 ⟨rfl, rfl⟩)⟩
  rcases hv1 with e | ⟨a, ha, e⟩
  · obtain ⟨h', n1, n2, n3⟩ := no
    subst e
    refine ⟨h', ?_, n2, fun a o ha _ z => absurd z.symm (m1_ne a (by omega)), n3⟩
    unfold c_X9_addKnows c_X9_isMan
    rw [if_pos (show (-1 : Int32) < 0 by decide), Option.bind_some, if_pos (Eq.refl (0 : Int32)), nm_eq]; exact n1
  · subst e
    rcases hv2 with e | ⟨o, ho, e⟩
    · obtain ⟨h', n1, n2, n3⟩ := no
      subst e
      refine ⟨h', ?_, n2, fun a o _ ho _ z => absurd z.symm (m1_ne o (by omega)), n3⟩
      unfold c_X9_addKnows c_X9_isMan
      rw [if_neg (nI_pos (by omega)), a0, if_neg (nI_ge ha (by omega)), Option.bind_some, if_neg (show ¬ (1 : Int32) = 0 by decide), if_pos (show (-1 : Int32) < 0 by decide), Option.bind_some, if_pos (Eq.refl (0 : Int32)), nm_eq]; exact n1
    · subst e
      obtain ⟨h', n1, n2, n3, n4⟩ := rot_ok ht a0 hm ha ho rfl
      refine ⟨h', n1, n2, fun a' o' ha' ho' z1 z2 i hi => ?_, n4⟩
      have i1 := (nI_eq (by omega) (by omega)).mp z1
      have i2 := (nI_eq (by omega) (by omega)).mp z2
      rw [← i1, ← i2]; exact n3 i hi
/-- the reference's part behind the two names -/
theorem j39_ok {K N p s m : Nat} {bs : Nat → Nat} {v1 v2 : Int32} {hc hr : PH} (pt : PT K bs N hc hr) (w : WP K bs N p hc hr) (hs : s < 2) (sd : hr.1 0 19 = nI s) (hm : m ≤ 5) (hv1 : v1 = -1 ∨ ∃ n, n < m ∧ v1 = nI n) (hv2 : v2 = -1 ∨ ∃ n, n < m ∧ v2 = nI n) : ∃ hc' hr', c_X4_accept 2 59 hc = some hc' ∧ c_X12_tellKnows_j39 v1 v2 hr = some hr' ∧ KP GC hc hc' ∧ KP (fun p k => GR p k ∧ ¬ (p = 25 ∧ k = s) ∧ ¬ (p = 14 ∧ 5 * s ≤ k ∧ k < 5 * s + 5)) hr hr' ∧ PT K bs N hc' hr' ∧ WP K bs N (p + 1) hc' hr' ∧ (hr'.1 0 13 = 0 → hr.1 0 13 = 0 ∧ tK K bs p = 59 ∧ hc'.1 2 5 = hc.1 2 5 ∧ hr'.1 25 s = hr.1 25 s + 1 ∧ (∀ i, m ≤ i → i < 5 → hr'.1 14 (5 * s + i) = hr.1 14 (5 * s + i)) ∧ ∀ a o, a < m → o < m → v1 = nI a → v2 = nI o → ∀ i, i < m → hr'.1 14 (5 * s + i) = if i = o then (if o = a then (hr.1 14 (5 * s + a) ||| nI (2 ^ o)) else hr.1 14 (5 * s + o)) ||| nI (2 ^ a) else if i = a then hr.1 14 (5 * s + a) ||| nI (2 ^ o) else hr.1 14 (5 * s + i)) := by
  obtain ⟨hc', hr1, a, b, kc, kr, pt1, w1, f1⟩ := acc3 (k := 59) pt w (by omega) (by omega) rfl (c := 59) (c' := 4) rfl rfl
  unfold c_X12_tellKnows_j39
  rw [a, b, Option.bind_some]
  rcases w1 with rs1 | bk
  · obtain ⟨z0, t0, s0⟩ := f1 rs1.2.1
    have sd1 : hr1.1 0 19 = nI s := (kr.i (by unfold GR; omega)).trans sd
    rw [rs1.2.1, if_pos (show (0 : Int32) ≤ 0 by decide), sd1, nm_eq, live_gd hs, live_gd hs, nI_clamp (n := s) (by omega), nm_eq]
    have c25 : hr1.1 25 s = hr.1 25 s := kr.i (by unfold GR; omega)
    have c14 : ∀ j, hr1.1 14 j = hr.1 14 j := fun j => kr.i (by unfold GR; omega)
    rw [c25]
    obtain ⟨h10, e10⟩ : ∃ x, x = setI hr1 25 s (hr.1 25 s + 1) := ⟨_, rfl⟩
    rw [← e10]
    have k10 : KP (fun p k => ¬ (p = 25 ∧ k = s)) hr1 h10 := by rw [e10]; exact KP.setI (fun z => z ⟨rfl, rfl⟩)
    have v25 : h10.1 25 s = hr.1 25 s + 1 := by rw [e10, setI_eq]
    have rsF : ∀ h', KP (fun p k => ¬ (p = 25 ∧ k = s) ∧ p ≠ 14) hr1 h' → RS K bs N (p + 1) hc' h' := fun h' k => rs1.fr KP.rfl (k.mono (fun p k z => by unfold FWr at z; omega))
    have ptF : ∀ h', KP (fun p k => ¬ (p = 25 ∧ k = s) ∧ p ≠ 14) hr1 h' → PT K bs N hc' h' := fun h' k => pt1.fr2 KP.rfl (k.mono (fun p k z => by omega))
    rcases hv1 with e | ⟨a, ha, e⟩
    · rw [e, if_pos (show (-1 : Int32) < 0 by decide)]
      refine ⟨_, _, rfl, rfl, kc, (kr.mono (fun _ _ z => z.1)).trans (k10.mono (fun p k z => by omega)), ptF _ (k10.mono (fun _ _ z => z.1)), Or.inl (rsF _ (k10.mono (fun _ _ z => z.1))), fun _ => ⟨z0, t0, s0, v25, fun i _ _ => (k10.i (by omega)).trans (c14 _), fun a o ha _ z => absurd z.symm (m1_ne a (by omega))⟩⟩
    · rw [e, if_neg (nI_pos (by omega))]
      rcases hv2 with e2 | ⟨o, ho, e2⟩
      · rw [e2, if_neg (show ¬ (0 : Int32) ≤ -1 by decide)]
        refine ⟨_, _, rfl, rfl, kc, (kr.mono (fun _ _ z => z.1)).trans (k10.mono (fun p k z => by omega)), ptF _ (k10.mono (fun _ _ z => z.1)), Or.inl (rsF _ (k10.mono (fun _ _ z => z.1))), fun _ => ⟨z0, t0, s0, v25, fun i _ _ => (k10.i (by omega)).trans (c14 _), fun a o _ ho _ z => absurd z.symm (m1_ne o (by omega))⟩⟩
      · have sd10 : h10.1 0 19 = nI s := (k10.i (by omega)).trans sd1
        rw [e2, if_pos (nI_pos' (by omega)), sd10, nI_mul5, nI_add, nm_eq, gdI (k := 5 * s + a) (by omega) (by omega), gdI (k := 5 * s + a) (by omega) (by omega), nI_clamp (n := 5 * s + a) (by omega), b_shl (by omega)]
        obtain ⟨h12, e12⟩ : ∃ x, x = setI h10 14 (5 * s + a) (h10.1 14 (5 * s + a) ||| nI (2 ^ o)) := ⟨_, rfl⟩
        rw [← e12, nm_eq h12]
        have k12 : KP (fun p _ => p ≠ 14) h10 h12 := by rw [e12]; exact KP.setI (fun z => z rfl)
        have sd12 : h12.1 0 19 = nI s := (k12.i (by omega)).trans sd10
        rw [sd12, nI_mul5, nI_add, nm_eq, gdI (k := 5 * s + o) (by omega) (by omega), gdI (k := 5 * s + o) (by omega) (by omega), nI_clamp (n := 5 * s + o) (by omega), b_shl (by omega)]
        obtain ⟨h14, e14⟩ : ∃ x, x = setI h12 14 (5 * s + o) (h12.1 14 (5 * s + o) ||| nI (2 ^ a)) := ⟨_, rfl⟩
        rw [← e14, nm_eq h14]
        have k14 : KP (fun p _ => p ≠ 14) h12 h14 := by rw [e14]; exact KP.setI (fun z => z rfl)
        have kk : KP (fun p k => ¬ (p = 25 ∧ k = s) ∧ p ≠ 14) hr1 h14 := ((k10.mono (fun _ _ z => z.1)).trans (k12.mono (fun _ _ z => z.2))).trans (k14.mono (fun _ _ z => z.2))
        have k10_14 : KP (fun p k => ¬ (p = 14 ∧ 5 * s ≤ k ∧ k < 5 * s + 5)) h10 h14 := by rw [e14, e12]; exact (KP.setI (fun z => z ⟨rfl, by omega, by omega⟩)).trans (KP.setI (fun z => z ⟨rfl, by omega, by omega⟩))
        have d14 : ∀ j, h10.1 14 j = hr.1 14 j := fun j => (k10.i (by omega)).trans (c14 j)
        refine ⟨_, _, rfl, rfl, kc, (kr.mono (fun _ _ z => z.1)).trans ((k10.mono (fun p k z => by omega)).trans (k10_14.mono (fun p k z => by omega))), ptF _ kk, Or.inl (rsF _ kk), fun _ => ⟨z0, t0, s0, ((k14.i (by omega)).trans (k12.i (by omega))).trans v25, fun i hi hi5 => ?_, fun a' o' ha' ho' z1 z2 i hi => ?_⟩⟩
        · rw [e14, setI_ne (by omega), e12, setI_ne (by omega)]; exact d14 _
        · have i1 := (nI_eq (by omega) (by omega)).mp z1
          have i2 := (nI_eq (by omega) (by omega)).mp z2
          rw [← i1, ← i2, e14]
          by_cases q : i = o
          · subst q
            rw [setI_eq, if_pos rfl, e12]
            by_cases r : i = a
            · subst r; rw [setI_eq, if_pos rfl, d14]
            · rw [setI_ne (by omega), if_neg r, d14]
          · rw [if_neg q, setI_ne (by omega), e12]
            by_cases r : i = a
            · subst r; rw [setI_eq, if_pos rfl, d14]
            · rw [setI_ne (by omega), if_neg r, d14]
  · rw [if_neg bk.nl]
    exact ⟨_, _, rfl, rfl, kc, kr.mono (fun _ _ z => z.1), pt1, Or.inr bk, fun z => absurd z bk.nr⟩
theorem kno_mid {K N p lim : Nat} {t : Nat} {bs : Nat → Nat} {hc9 hr6 : PH} {v5 v10 r1 r5 : Int32} (pt : PT K bs N hc9 hr6) (rs : RS K bs N (p + 1) hc9 hr6) (ht : t = 8 ∨ t = 43) (ho : hc9.2.2 2 1 = t) (hp : p < N) (hl : lim < 100) (hv1 : r1 = -1 ∨ ∃ n, n < lim ∧ r1 = nI n) (h2 : RU K bs p hc9 hr6 ∨ (v10 = -1 ∧ r5 = -1)) (hs : hc9.1 2 5 = 0 → ∃ n1 n2, n1 < lim ∧ n2 < lim ∧ v5 = nI n1 ∧ r1 = nI n1 ∧ v10 = nI n2 ∧ r5 = nI n2) : ∃ hcF hrF, (if v5 = v10 then if v5 = -1 then nm (hc9.2.2 2 1) fun t13 => gd (tOK t13) <| (c_X9_addKnows t13 v5 v10 hc9).bind fun h14 => some h14 else (c_X4_complain 2 3 (nI (tS K bs p)) hc9).bind fun h15 => nm (h15.2.2 2 1) fun t16 => gd (tOK t16) <| (c_X9_addKnows t16 v5 v10 h15).bind fun h17 => some h17 else nm (hc9.2.2 2 1) fun t11 => gd (tOK t11) <| (c_X9_addKnows t11 v5 v10 hc9).bind fun h12 => some h12) = c_X9_addKnows t v5 v10 hcF ∧ (if r1 < 0 then c_X12_tellKnows_j39 r1 r5 hr6 else if r1 = r5 then (c_X12_wrong 3 (nI p) hr6).bind fun h15 => c_X12_tellKnows_j39 r1 r5 h15 else c_X12_tellKnows_j39 r1 r5 hr6) = c_X12_tellKnows_j39 r1 r5 hrF ∧ KP (fun p k => ¬ (p = 2 ∧ (k = 5 ∨ k = 6))) hc9 hcF ∧ KP (fun p k => ¬ (p = 0 ∧ (k = 15 ∨ k = 16))) hr6 hrF ∧ RS K bs N (p + 1) hcF hrF ∧ (hcF.1 2 5 = 0 → hc9.1 2 5 = 0) := by
  have hN := pt.2.1.1
  have bs' : ∀ o : Option PH, (o.bind fun h => some h) = o := fun o => by cases o <;> rfl
  have ck := cmpC_k (nI 3) (nI (tS K bs p)) hc9
  have rk := cmpR_k (nI 3) (nI (tS K bs p)) hr6
  have eC : (if v5 = v10 then if v5 = -1 then nm (hc9.2.2 2 1) fun t13 => gd (tOK t13) <| (c_X9_addKnows t13 v5 v10 hc9).bind fun h14 => some h14 else (c_X4_complain 2 3 (nI (tS K bs p)) hc9).bind fun h15 => nm (h15.2.2 2 1) fun t16 => gd (tOK t16) <| (c_X9_addKnows t16 v5 v10 h15).bind fun h17 => some h17 else nm (hc9.2.2 2 1) fun t11 => gd (tOK t11) <| (c_X9_addKnows t11 v5 v10 hc9).bind fun h12 => some h12) = c_X9_addKnows t v5 v10 (if v5 = v10 ∧ ¬ v5 = -1 then cmpC (nI 3) (nI (tS K bs p)) hc9 else hc9) := by
    rw [nm_eq, ho, gdT ht, bs', show (3 : Int32) = nI 3 from rfl, complC, Option.bind_some, nm_eq, (ck.r (by omega) : (cmpC (nI 3) (nI (tS K bs p)) hc9).2.2 2 1 = _), ho, gdT ht, bs']
    by_cases q : v5 = v10
    · rw [if_pos q]
      by_cases r : v5 = -1
      · rw [if_pos r, if_neg (fun z => z.2 r)]
      · rw [if_neg r, if_pos ⟨q, r⟩]
    · rw [if_neg q, if_neg (fun z => q z.1)]
  rcases h2 with ru | ⟨x1, x2⟩
  · have wr := wrongC (f := 3) pt.2.1 pt.1 hp (pt.2.2 p hp).2 rs.2.1 ru
    have eR : (if r1 < 0 then c_X12_tellKnows_j39 r1 r5 hr6 else if r1 = r5 then (c_X12_wrong 3 (nI p) hr6).bind fun h15 => c_X12_tellKnows_j39 r1 r5 h15 else c_X12_tellKnows_j39 r1 r5 hr6) = c_X12_tellKnows_j39 r1 r5 (if ¬ r1 < 0 ∧ r1 = r5 then cmpR (nI 3) (nI (tS K bs p)) hr6 else hr6) := by
      rw [show (3 : Int32) = nI 3 from rfl, wr, Option.bind_some]
      by_cases q : r1 < 0
      · rw [if_pos q, if_neg (fun z => z.1 q)]
      · rw [if_neg q]
        by_cases r : r1 = r5
        · rw [if_pos r, if_pos ⟨q, r⟩]
        · rw [if_neg r, if_neg (fun z => r z.2)]
    have kcF : KP (fun p k => ¬ (p = 2 ∧ (k = 5 ∨ k = 6))) hc9 (if v5 = v10 ∧ ¬ v5 = -1 then cmpC (nI 3) (nI (tS K bs p)) hc9 else hc9) := by
      by_cases z : v5 = v10 ∧ ¬ v5 = -1
      · rw [if_pos z]; exact ck
      · rw [if_neg z]; exact KP.rfl
    have krF : KP (fun p k => ¬ (p = 0 ∧ (k = 15 ∨ k = 16))) hr6 (if ¬ r1 < 0 ∧ r1 = r5 then cmpR (nI 3) (nI (tS K bs p)) hr6 else hr6) := by
      by_cases z : ¬ r1 < 0 ∧ r1 = r5
      · rw [if_pos z]; exact rk
      · rw [if_neg z]; exact KP.rfl
    have ruF : RU K bs (p + 1) (if v5 = v10 ∧ ¬ v5 = -1 then cmpC (nI 3) (nI (tS K bs p)) hc9 else hc9) (if ¬ r1 < 0 ∧ r1 = r5 then cmpR (nI 3) (nI (tS K bs p)) hr6 else hr6) ∧ ((if v5 = v10 ∧ ¬ v5 = -1 then cmpC (nI 3) (nI (tS K bs p)) hc9 else hc9).1 2 5 = 0 → hc9.1 2 5 = 0) := by
      by_cases u : hc9.1 2 5 = 0
      · refine ⟨?_, fun _ => u⟩
        obtain ⟨n1, n2, l1, l2, i1, i2, i3, i4⟩ := hs u
        by_cases z : n1 = n2
        · have a1 : v5 = v10 ∧ ¬ v5 = -1 := ⟨by rw [i1, i3, z], by rw [i1]; exact m1_ne _ (by omega)⟩
          have a2 : ¬ r1 < 0 ∧ r1 = r5 := ⟨by rw [i2]; exact nI_pos (by omega), by rw [i2, i4, z]⟩
          rw [if_pos a1, if_pos a2]; exact RU_cmp (by omega) (by omega) ru
        · have a1 : ¬ (v5 = v10 ∧ ¬ v5 = -1) := fun y => z ((nI_eq (by omega) (by omega)).mp (i1.symm.trans (y.1.trans i3)))
          have a2 : ¬ (¬ r1 < 0 ∧ r1 = r5) := fun y => z ((nI_eq (by omega) (by omega)).mp (i2.symm.trans (y.2.trans i4)))
          rw [if_neg a1, if_neg a2]; exact ru.le (by omega)
      · rw [cmpC_no u, cmpR_no (RU_nz ru u)]
        have i1 : (if v5 = v10 ∧ ¬ v5 = -1 then hc9 else hc9) = hc9 := by by_cases z : v5 = v10 ∧ ¬ v5 = -1 <;> simp [z]
        have i2 : (if ¬ r1 < 0 ∧ r1 = r5 then hr6 else hr6) = hr6 := by by_cases z : ¬ r1 < 0 ∧ r1 = r5 <;> simp [z]
        rw [i1, i2]; exact ⟨ru.le (by omega), fun z => z⟩
    exact ⟨_, _, eC, eR, kcF, krF, ⟨(kcF.i (by omega)).trans rs.1, (krF.i (by omega)).trans rs.2.1, (kcF.i (by omega)).trans rs.2.2.1, (krF.i (by omega)).trans rs.2.2.2.1, rs.2.2.2.2.1, ruF.1⟩, ruF.2⟩
  · have a1 : ¬ (v5 = v10 ∧ ¬ v5 = -1) := fun y => y.2 (y.1.trans x1)
    rw [if_neg a1] at eC
    refine ⟨_, hr6, eC, ?_, KP.rfl, KP.rfl, rs, fun z => z⟩
    by_cases q : r1 < 0
    · rw [if_pos q]
    · rw [if_neg q, if_neg (fun y => q (by rw [y, x2]; decide))]
theorem kno3 {K N p t s : Nat} {bs : Nat → Nat} {hc hr : PH} (pt : PT K bs N hc hr) (rs : RS K bs N p hc hr) (bd : BD t s p hc hr) (ht : t = 8 ∨ t = 43) (hs : s < 2) (q : tK K bs p = 67) : OUT K bs N t s p hc hr ((c_X4_tellKnows 2 hc).bind fun h12 => c_X4_accept 2 59 h12) (c_X12_tellOne hr) := by
  obtain ⟨T, c, L, so, nu, b, k, al, sd⟩ := bd
  have hN := pt.2.1.1; have h5 := rs.2.2.2.2.1
  have b1 := al.men; have b2 := al.exc; have b3 := al.dut; have b4 := al.tst; have bc := al.cc
  unfold c_X4_tellKnows c_X12_tellOne
  rw [(rs.kindR pt).1, (rs.kindR pt (α := PH) (o := none)).2, q, if_neg (show ¬ nI (kM 67) = (20 : Int32) by decide), if_neg (show ¬ nI (kM 67) = (21 : Int32) by decide), if_neg (show ¬ nI (kM 67) = (22 : Int32) by decide), if_pos (show nI (kM 67) = (23 : Int32) from rfl), al.side, live_gd hs, nI_clamp (n := s) (by omega), al.rk, nm_eq, al.oth, gdT ht, al.ck]
  obtain ⟨hc1, hr1, e1, e2, kc1, kr1, pt1, h1⟩ := open2 (wd := 67) (most := 8) pt rs (by omega) (by omega) q al.kno (by omega) (a1 := 67) (a3 := 8) rfl rfl
  rw [e1, e2, Option.bind_some, Option.bind_some]
  have ho1 : hc1.2.2 2 1 = t := (kc1.r (by unfold GC; omega)).trans al.oth
  rcases h1 with bk | ⟨rs1, lt, s51⟩
  · rw [bk.told, b2_some, nm_eq, bk.placeC, Option.bind_some, nm_eq, bk.told, b2_some, nm_eq, if_neg bk.nc, Option.bind_some, bk.acc, if_neg bk.nr]
    exact ⟨_, _, rfl, rfl, kc1.mono (fun _ _ z => GC_fp z), kr1.mono (fun _ _ z => GR_fp z), pt1, Or.inl bk⟩
  rw [if_pos rs1.2.1]
  unfold c_X12_tellKnows
  have nc1 : NC t c L so nu hc1 := al.nc.fr (kc1.mono (fun p k z => by unfold FNc at z; unfold GC; omega))
  have nr1 : NR c L so nu hr1 := al.nr.fr (kr1.mono (fun p k z => by unfold FNr at z; unfold GR; omega))
  obtain ⟨v5, hc4, r1, hr2, e3, e4, kc4, kr2, pt4, w4, vv5, vr1, f4⟩ := known2 (s := 0) (lim := T.men) pt1 (Or.inl rs1) nc1 nr1 al.nw (fun z => by
    obtain ⟨Lp, Lw, S⟩ := sd (s51.symm.trans z)
    exact S.dis) ht ho1 (by omega) (fun i hi z => (al.nw.2 i hi).2.2.2.1 z) (by omega) (a1 := 64) (a2 := 0) rfl rfl
  rw [e3, e4, b2_some, b2_some, nm_eq v5, nm_eq r1, nm_eq (hr2.1 0 11)]
  have kC4 : KP GC hc hc4 := kc1.trans kc4
  have kR2 : KP GR hr hr2 := kr1.trans kr2
  rcases w4 with rs4 | bk
  · have p4 := rs4.2.2.2.2.1
    have ho4 : hc4.2.2 2 1 = t := (kC4.r (by unfold GC; omega)).trans al.oth
    obtain ⟨v10, hc9, r5, hr6, e5, e6, kc9, kr6, pt9, w9, vv10, vr5, f9⟩ := known2 (s := 0) (lim := T.men) pt4 (Or.inl rs4) (nc1.fr (kc4.mono (fun p k z => by unfold FNc at z; unfold GC; omega))) (nr1.fr (kr2.mono (fun p k z => by unfold FNr at z; unfold GR; omega))) al.nw (fun z => by
      obtain ⟨_, _, _, y⟩ := f4 rs4.2.1
      obtain ⟨Lp, Lw, S⟩ := sd (s51.symm.trans (y z).1)
      exact S.dis) ht ho4 (by omega) (fun i hi z => (al.nw.2 i hi).2.2.2.1 z) (by omega) (a1 := 64) (a2 := 0) rfl rfl
    rw [rs4.placeC pt4, Option.bind_some, nm_eq (nI (tS K bs (p + 1 + 1))), e5, e6, b2_some, b2_some, nm_eq v10, nm_eq r5, rs4.2.2.2.1]
    have kC9 : KP GC hc hc9 := kC4.trans kc9
    have kR6 : KP GR hr hr6 := kR2.trans kr6
    rcases w9 with rs9 | bk
    · obtain ⟨_, t4, _, y4⟩ := f4 rs4.2.1
      obtain ⟨_, t9, ru9, y9⟩ := f9 rs9.2.1
      have ho9 : hc9.2.2 2 1 = t := (kC9.r (by unfold GC; omega)).trans al.oth
      obtain ⟨hcF, hrF, eF, eG, kcF, krF, rsF, sF⟩ := kno_mid (v5 := v5) (v10 := v10) (r1 := r1) (r5 := r5) (lim := T.men) pt9 rs9 ht ho9 p4 (by omega) vr1 ru9 (fun z => by
        obtain ⟨y1, n2, y2, y3, y5⟩ := y9 z
        obtain ⟨_, n1, x2, x3, x4⟩ := y4 y1
        exact ⟨n1, n2, x2, y2, x3, x4, y3, y5⟩)
      rw [if_pos rs9.1, if_pos rs9.2.1, eF, eG]
      have ptF := pt9.fr2 (kcF.mono (fun p k z => by omega)) (krF.mono (fun p k z => by omega))
      have kCF : KP GC hc hcF := kC9.trans (kcF.mono (fun p k z => by unfold GC at z; omega))
      have kRF : KP GR hr hrF := kR6.trans (krF.mono (fun p k z => by unfold GR at z; omega))
      have a0 : hcF.1 t 0 = nI T.men := (kCF.i (by unfold GC; omega)).trans al.cm
      obtain ⟨hc12, e12, c4, ck12, k12⟩ := addKnoC ht a0 b1 vv5 vv10
      rw [e12, Option.bind_some]
      have pt12 := ptF.fr2 (k12.mono (fun p k z => by omega)) KP.rfl
      have w12 : WP K bs N (p + 1 + 1 + 1) hc12 hrF := Or.inl (rsF.fr (k12.mono (fun p k z => by unfold FWc at z; omega)) KP.rfl)
      obtain ⟨hc13, hr14, e13, e14, kc13, kr14, pt13, w13, f13⟩ := j39_ok (m := T.men) pt12 w12 hs ((kRF.i (by unfold GR; omega)).trans al.side) b1 vr1 vr5
      rw [e13, e14]
      have kC13 : KP (fun p k => GC p k ∧ ¬ (p = t ∧ k = 4) ∧ ¬ (t + 8 ≤ p ∧ p ≤ t + 12 ∧ k = 2)) hc hc13 := ((kCF.mono (fun _ _ z => z.1)).trans (k12.mono (fun _ _ z => z.2))).trans (kc13.mono (fun _ _ z => z.1))
      have kR14 : KP (fun p k => GR p k ∧ ¬ (p = 25 ∧ k = s) ∧ ¬ (p = 14 ∧ 5 * s ≤ k ∧ k < 5 * s + 5)) hr hr14 := (kRF.mono (fun _ _ z => z.1)).trans kr14
      refine ⟨_, _, rfl, rfl, kC13.mono (fun p k z => by unfold FPc at z; unfold GC; omega), kR14.mono (fun p k z => by unfold FPr FxRs at z; unfold GR; omega), pt13, ?_⟩
      rcases w13 with rs13 | bk
      · obtain ⟨_, t13, s13, v25, kn14, vk14⟩ := f13 rs13.2.1
        have j4 : hc13.1 t 4 = nI (T.kno + 1) := by
          rw [(kc13.i (by unfold GC; omega)), c4, (kCF.i (by unfold GC; omega)), al.ck, nI_1]
        have i25 : hr14.1 25 s = nI (T.kno + 1) := by
          rw [v25, (kRF.i (by unfold GR; omega)), al.rk, nI_1]
        refine Or.inr ⟨p + 1 + 1 + 1 + 1, by omega, rs13, ?_⟩
        have ALX : ∀ f, AL t s (p + 1 + 1 + 1 + 1) (T.aKno f) c L so nu b k hc13 hr14 := fun f => AL.mk b1 b2 b3 b4 lt bc ((kC13.i (by unfold GC; omega)).trans al.cm) ((kC13.i (by unfold GC; omega)).trans al.ce) ((kC13.i (by unfold GC; omega)).trans al.cd) ((kC13.i (by unfold GC; omega)).trans al.ct) j4 ((kR14.i (by unfold GR; omega)).trans al.rm) ((kR14.i (by unfold GR; omega)).trans al.re) ((kR14.i (by unfold GR; omega)).trans al.rd) ((kR14.i (by unfold GR; omega)).trans al.rt) i25 (al.nc.fr (kC13.mono (fun p k z => by unfold FNc at z; unfold GC; omega))) (al.nr.fr (kR14.mono (fun p k z => by unfold FNr at z; unfold GR; omega))) al.nw ((kR14.i (by unfold GR; omega)).trans al.side) ((kC13.r (by unfold GC; omega)).trans al.oth) ((kR14.i (by unfold GR; omega)).trans al.opn) ((kR14.i (by unfold GR; omega)).trans al.br) ((kR14.i (by unfold GR; omega)).trans al.co) (by have := al.b4; omega) (by have := al.kp; omega)
        by_cases z : hc13.1 2 5 = 0
        · have zF : hcF.1 2 5 = 0 := (k12.i (by omega)).symm.trans (s13.symm.trans z)
          obtain ⟨y1, n2, l2, i3, i4⟩ := y9 (sF zF)
          obtain ⟨y0, n1, l1, i1, i2⟩ := y4 y1
          obtain ⟨Lp, Lw, S⟩ := sd (s51.symm.trans y0)
          refine ⟨T.aKno (kno2 T.know n1 n2), c, L, so, nu, b, k, ALX _, fun _ => ⟨Lp, Lw, SD.mk (TX.aKno_wf S.wf (by omega) (fun i hi => kno2_lt b1 l1 l2 hi S.wf.know)) (TxC.aKno S.xc S.wf (kC13.mono (fun p k z => by unfold GC; omega)) j4 (fun i hi => ?_)) (TxR.aKno S.xr S.wf (kR14.mono (fun p k z => by unfold GR; omega)) i25 (fun i hi => ?_)) S.dis (fun i hi hi5 => ?_) (S.lcp.fr (kC13.mono (fun p k z => by unfold GC; omega))) (S.lcw.fr (kC13.mono (fun p k z => by unfold GC; omega))) (S.lrp.fr (Nat.le_refl _) (Nat.le_refl _) (kR14.mono (fun p k z => by unfold FLr at z; unfold GR; omega))) (S.lrw.fr (Nat.le_refl _) (Nat.le_refl _) (kR14.mono (fun p k z => by unfold FLr at z; unfold GR; omega))) S.cp S.cw⟩⟩
          · rw [(kc13.i (by unfold GC; omega)), ck12 n1 n2 l1 l2 i1 i3 i hi]
            exact kno2_I (g := fun i => hcF.1 (t + 7 + 1 + i) 2) l1 l2 hi (fun j hj => (kCF.i (by unfold GC; omega)).trans (S.xc.know j hj))
          · rw [vk14 n1 n2 l1 l2 i2 i4 i hi]
            exact kno2_I (g := fun i => hrF.1 14 (5 * s + i)) l1 l2 hi (fun j hj => (kRF.i (by unfold GR; omega)).trans (S.xr.know j hj))
          · have hi : T.men ≤ i := hi
            rw [kn14 i hi hi5, (kRF.i (by unfold GR; omega))]; exact S.kn i hi hi5
        · exact ⟨T.aKno T.know, c, L, so, nu, b, k, ALX _, fun x => absurd x z⟩
      · exact Or.inl bk
    · obtain ⟨hc13, hr14, e13, e14, kc13, kr14, pt13, w13, f13⟩ := j39_ok (m := T.men) (p := p) pt9 (Or.inr bk) hs ((kR6.i (by unfold GR; omega)).trans al.side) b1 vr1 vr5
      rw [if_neg bk.nc, if_neg bk.nr, Option.bind_some, e13, e14]
      have bk2 : BK hc13 hr14 := by
        rcases w13 with x | x
        · exact absurd (f13 x.2.1).1 bk.nr
        · exact x
      exact ⟨_, _, rfl, rfl, (kC9.trans kc13).mono (fun _ _ z => GC_fp z), ((kR6.mono (fun _ _ z => z.1)).trans kr14).mono (fun p k z => by unfold FPr FxRs at z; unfold GR; omega), pt13, Or.inl bk2⟩
  · obtain ⟨hc13, hr14, e13, e14, kc13, kr14, pt13, w13, f13⟩ := j39_ok (m := T.men) (p := p) pt4 (Or.inr bk) hs ((kR2.i (by unfold GR; omega)).trans al.side) b1 vr1 (v2 := -1) (Or.inl rfl)
    rw [bk.placeC, Option.bind_some, nm_eq (hc4.1 (2 + 1 + 2) (hc4.1 2 2).toNatClampNeg), bk.told, b2_some, nm_eq (-1 : Int32), if_neg bk.nc, Option.bind_some, bk.known, b2_some, nm_eq (-1 : Int32), if_neg bk.nr, e13, e14]
    have bk2 : BK hc13 hr14 := by
      rcases w13 with x | x
      · exact absurd (f13 x.2.1).1 bk.nr
      · exact x
    exact ⟨_, _, rfl, rfl, (kC4.trans kc13).mono (fun _ _ z => GC_fp z), ((kR2.mono (fun _ _ z => z.1)).trans kr14).mono (fun p k z => by unfold FPr FxRs at z; unfold GR; omega), pt13, Or.inl bk2⟩
