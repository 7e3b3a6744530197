/-- broken alike -/
def BK (hc hr : PH) : Prop := ∃ b q : Nat, 0 < b ∧ b < 3 ∧ q < 401 ∧ hc.1 2 3 = nI b ∧ hr.1 0 13 = nI b ∧ hc.1 2 2 = nI q ∧ hc.1 2 4 = hr.1 0 14
/-- at token p, or broken -/
def WP (K : Nat) (bs : Nat → Nat) (N p : Nat) (hc hr : PH) : Prop := RS K bs N p hc hr ∨ BK hc hr
def FWc (p k : Nat) : Prop := p = 2 ∧ 2 ≤ k ∧ k ≤ 6
def FWr (p k : Nat) : Prop := p = 0 ∧ (k = 11 ∨ (13 ≤ k ∧ k ≤ 16))
/-- what walks over tokens leave as it is -/
def GC (p k : Nat) : Prop := ¬ (p = 2 ∧ 2 ≤ k ∧ k ≤ 6)
def GR (p k : Nat) : Prop := ¬ (p = 0 ∧ (k = 11 ∨ (13 ≤ k ∧ k ≤ 16)))
theorem RK.bk {K N : Nat} {bs : Nat → Nat} {hc hr : PH} (pt : PT K bs N hc hr) (h : RK K bs N hc hr) : BK hc hr := by
  obtain ⟨b, p, h1, h2, h3, h4, h5, h6, _, h7, h8⟩ := h
  have := pt.2.1.1
  exact ⟨b, p, h1, h2, by omega, h4, h5, h6, h7.trans h8.symm⟩
theorem RU.fr {K p : Nat} {bs : Nat → Nat} {hc hr hc' hr' : PH} (h : RU K bs p hc hr) (kc : KP FWc hc hc') (kr : KP FWr hr hr') : RU K bs p hc' hr' := by
  unfold RU at h ⊢
  rw [kc.i (p := 2) (k := 5) ⟨rfl, by omega, by omega⟩, kc.i (p := 2) (k := 6) ⟨rfl, by omega, by omega⟩, kr.i (p := 0) (k := 15) ⟨rfl, by omega⟩, kr.i (p := 0) (k := 16) ⟨rfl, by omega⟩]
  exact h
theorem RS.fr {K N p : Nat} {bs : Nat → Nat} {hc hr hc' hr' : PH} (h : RS K bs N p hc hr) (kc : KP FWc hc hc') (kr : KP FWr hr hr') : RS K bs N p hc' hr' := by
  obtain ⟨h1, h2, h3, h4, h5, h6⟩ := h
  exact ⟨(kc.i ⟨rfl, by omega, by omega⟩).trans h1, (kr.i ⟨rfl, by omega⟩).trans h2, (kc.i ⟨rfl, by omega, by omega⟩).trans h3, (kr.i ⟨rfl, by omega⟩).trans h4, h5, h6.fr kc kr⟩
theorem BK.fr {hc hr hc' hr' : PH} (h : BK hc hr) (kc : KP FWc hc hc') (kr : KP FWr hr hr') : BK hc' hr' := by
  obtain ⟨b, q, h1, h2, h3, h4, h5, h6, h7⟩ := h
  exact ⟨b, q, h1, h2, h3, (kc.i ⟨rfl, by omega, by omega⟩).trans h4, (kr.i ⟨rfl, by omega⟩).trans h5, (kc.i ⟨rfl, by omega, by omega⟩).trans h6, (kc.i ⟨rfl, by omega, by omega⟩).trans (h7.trans (kr.i ⟨rfl, by omega⟩).symm)⟩
theorem WP.fr {K N p : Nat} {bs : Nat → Nat} {hc hr hc' hr' : PH} (h : WP K bs N p hc hr) (kc : KP FWc hc hc') (kr : KP FWr hr hr') : WP K bs N p hc' hr' := by
  rcases h with h | h
  · exact Or.inl (h.fr kc kr)
  · exact Or.inr (h.fr kc kr)
theorem RS.f0 {K N p : Nat} {bs : Nat → Nat} {hc hr : PH} (h : RS K bs N p hc hr) : hr.1 0 13 = 0 := h.2.1
theorem RS.b0 {K N p : Nat} {bs : Nat → Nat} {hc hr : PH} (h : RS K bs N p hc hr) : hc.1 2 3 = 0 := h.1
theorem BK.nr {hc hr : PH} (h : BK hc hr) : ¬ hr.1 0 13 = 0 := by
  obtain ⟨b, q, h1, h2, h3, h4, h5, _⟩ := h
  rw [h5]; exact nI_nz h1 (by omega)
theorem BK.nc {hc hr : PH} (h : BK hc hr) : ¬ hc.1 2 3 = 0 := by
  obtain ⟨b, q, h1, h2, h3, h4, h5, _⟩ := h
  rw [h4]; exact nI_nz h1 (by omega)
theorem BK.nl {hc hr : PH} (h : BK hc hr) : ¬ hr.1 0 13 ≤ 0 := by
  obtain ⟨b, q, h1, h2, h3, h4, h5, _⟩ := h
  rw [h5]; exact nI_ge (b := b) (a := 0) h1 (by omega)
theorem BK.gt {hc hr : PH} (h : BK hc hr) : 0 < hr.1 0 13 := by
  obtain ⟨b, q, h1, h2, h3, h4, h5, _⟩ := h
  rw [h5]; exact nI_lt (a := 0) (b := b) h1 (by omega)
theorem BK.must {hc hr : PH} {c : Int32} (h : BK hc hr) : c_X12_must c hr = some hr := by
  obtain ⟨b, q, h1, h2, h3, h4, h5, _⟩ := h
  exact mustR_b h5 h1 (by omega)
theorem BK.fail {hc hr : PH} {c : Int32} (h : BK hc hr) : c_X12_fail c hr = some hr := by
  obtain ⟨b, q, h1, h2, h3, h4, h5, _⟩ := h
  exact failR_b h5 h1 (by omega)
theorem BK.acc {hc hr : PH} {c : Int32} (h : BK hc hr) : c_X4_accept 2 c hc = some hc := acceptC_b h.nc
theorem BK.gd {hc hr : PH} {α : Type} {o : Option α} (h : BK hc hr) : gd (ixOK (hc.1 2 2) 401) o = o := by
  obtain ⟨b, q, h1, h2, h3, h4, h5, h6, _⟩ := h
  rw [h6]; exact gdI h3 (by omega)
theorem BK.kind {hc hr : PH} (h : BK hc hr) : c_X4_kind 2 hc = some 1 := by
  unfold c_X4_kind; rw [if_neg h.nc]
theorem BK.is {hc hr : PH} {c : Int32} (h : BK hc hr) : c_X12_is c hr = some 0 := isR_b h.nr
theorem RS.kind {K N p : Nat} {bs : Nat → Nat} {hc hr : PH} (pt : PT K bs N hc hr) (h : RS K bs N p hc hr) : c_X4_kind 2 hc = some (nI (tK K bs p)) := by
  have hN := pt.2.1.1; have h5 := h.2.2.2.2.1
  unfold c_X4_kind
  rw [if_pos h.1, h.2.2.1, gdI (k := p) (by omega) (by omega), nI_clamp (n := p) (by omega), show hc.1 (2 + 1 + 1) p = nI (tK K bs p) from (pt.2.2 p h5).1.1]
theorem RS.is {K N p : Nat} {bs : Nat → Nat} {hc hr : PH} (pt : PT K bs N hc hr) (h : RS K bs N p hc hr) {k : Nat} (hk : k < 128) (hv : validK k = true) {c : Int32} (hc' : c = nI (kM k)) : c_X12_is c hr = some (if tK K bs p = k then 1 else 0) := by
  have hN := pt.2.1.1; have h5 := h.2.2.2.2.1
  rw [hc']; exact isR h.2.1 h.2.2.2.1 (by omega) hk hv (pt.2.2 p h5).2
theorem RS.kindR {K N p : Nat} {bs : Nat → Nat} {hc hr : PH} (pt : PT K bs N hc hr) (h : RS K bs N p hc hr) : ∀ {α : Type} {o : Option α}, gd (ixOK (hr.1 0 11) 403) o = o ∧ hr.1 3 (hr.1 0 11).toNatClampNeg = nI (kM (tK K bs p)) := by
  intro α o
  have hN := pt.2.1.1; have h5 := h.2.2.2.2.1
  rw [h.2.2.2.1, nI_clamp (n := p) (by omega)]
  exact ⟨gdI (by omega) (by omega), (pt.2.2 p h5).2.1⟩
theorem RS.placeC {K N p : Nat} {bs : Nat → Nat} {hc hr : PH} (pt : PT K bs N hc hr) (h : RS K bs N p hc hr) : c_X4_placeHere 2 hc = some (nI (tS K bs p)) := by
  have hN := pt.2.1.1; have h5 := h.2.2.2.2.1
  unfold c_X4_placeHere
  rw [h.2.2.1, gdI (k := p) (by omega) (by omega), nI_clamp (n := p) (by omega), show hc.1 (2 + 1 + 2) p = nI (tS K bs p) from (pt.2.2 p h5).1.2.1]
theorem BK.placeC {hc hr : PH} (h : BK hc hr) : c_X4_placeHere 2 hc = some (hc.1 (2 + 1 + 2) (hc.1 2 2).toNatClampNeg) := by
  unfold c_X4_placeHere; exact h.gd
/-- complaints, as functions -/
def cmpC (f v : Int32) (h : PH) : PH := if h.1 2 5 = 0 then setI (setI h 2 5 f) 2 6 v else h
def cmpR (f v : Int32) (h : PH) : PH := if h.1 0 15 = 0 then setI (setI h 0 15 f) 0 16 v else h
theorem complC (f v : Int32) (h : PH) : c_X4_complain 2 f v h = some (cmpC f v h) := by
  unfold c_X4_complain cmpC
  by_cases q : h.1 2 5 = 0
  · rw [if_pos q, if_pos q]; rfl
  · rw [if_neg q, if_neg q]
theorem cmpC_k (f v : Int32) (h : PH) : KP (fun p k => ¬ (p = 2 ∧ (k = 5 ∨ k = 6))) h (cmpC f v h) := by
  unfold cmpC
  by_cases q : h.1 2 5 = 0
  · rw [if_pos q]; exact (KP.setI (fun z => z ⟨rfl, Or.inl rfl⟩)).trans (KP.setI (fun z => z ⟨rfl, Or.inr rfl⟩))
  · rw [if_neg q]; exact KP.rfl
theorem cmpR_k (f v : Int32) (h : PH) : KP (fun p k => ¬ (p = 0 ∧ (k = 15 ∨ k = 16))) h (cmpR f v h) := by
  unfold cmpR
  by_cases q : h.1 0 15 = 0
  · rw [if_pos q]; exact (KP.setI (fun z => z ⟨rfl, Or.inl rfl⟩)).trans (KP.setI (fun z => z ⟨rfl, Or.inr rfl⟩))
  · rw [if_neg q]; exact KP.rfl
theorem cmpC_n {f : Nat} {v : Int32} {h : PH} (hf : 0 < f) (hf2 : f < 100) : ¬ (cmpC (nI f) v h).1 2 5 = 0 := by
  unfold cmpC
  by_cases q : h.1 2 5 = 0
  · rw [if_pos q, setI_ne (by omega), setI_eq]; exact nI_nz hf (by omega)
  · rw [if_neg q]; exact q
theorem wrongC {K N q f : Nat} {bs : Nat → Nat} {hc hr : PH} (ht : tEnd K bs N) (hK : K ≤ 2000) (hq : q < N) (tr : TokR K bs hr q) (hb : hr.1 0 13 = 0) (ru : RU K bs q hc hr) : c_X12_wrong (nI f) (nI q) hr = some (cmpR (nI f) (nI (tS K bs q)) hr) := by
  have hN := ht.1
  rw [wrongR (by omega) tr hb]
  unfold cmpR
  rcases ru with ⟨u1, u2, u9⟩ | ⟨u, r, u1, u2, u3, u4, u5, u6, u7⟩
  · rw [if_pos u2, if_pos u2]
  · have l := tS_mono ht r q u3 hq
    have lK := tS_le K bs q
    rw [u5, u7, if_neg (nI_nz u1 (by omega)), if_neg (nI_nz u1 (by omega)), if_pos (nI_lt l (by omega))]
theorem RU_cmp {K q f : Nat} {bs : Nat → Nat} {hc hr : PH} (hf : 0 < f) (hf2 : f < 100) (ru : RU K bs q hc hr) : RU K bs (q + 1) (cmpC (nI f) (nI (tS K bs q)) hc) (cmpR (nI f) (nI (tS K bs q)) hr) := by
  unfold cmpC cmpR
  rcases ru with ⟨u1, u2, u9⟩ | ⟨u, r, u1, u2, u3, u4, u5, u6, u7⟩
  · rw [if_pos u1, if_pos u2]
    exact Or.inr ⟨f, q, hf, hf2, by omega, by rw [setI_ne (by omega), setI_eq], by rw [setI_ne (by omega), setI_eq], setI_eq _ _ _ _, setI_eq _ _ _ _⟩
  · rw [if_neg (by rw [u4]; exact nI_nz u1 (by omega)), if_neg (by rw [u5]; exact nI_nz u1 (by omega))]
    exact Or.inr ⟨u, r, u1, u2, by omega, u4, u5, u6, u7⟩
theorem RU0 {K p q : Nat} {bs : Nat → Nat} {hc hr : PH} (h : RU K bs p hc hr) (z : hc.1 2 5 = 0) : RU K bs q hc hr := by
  rcases h with h | ⟨u, r, u1, u2, u3, u4, _⟩
  · exact Or.inl h
  · exact absurd (u4.symm.trans z) (nI_nz u1 (by omega))
theorem sgn_ge {k : Nat} (h : sgnB k = true) : 40 ≤ k := by have := of_decide_eq_true h; omega
theorem kW_23 (v : Nat) : kindW v ≠ 3 := by
  unfold kindW
  cases fstX (fun w => decide (vB 32 (Wd2 w) = v)) 23 0 with
  | none => show (2 : Nat) ≠ 3; omega
  | some w => show 64 + w ≠ 3; omega
theorem tok3 {K p : Nat} {bs : Nat → Nat} (h : tK K bs p = 3) : tval K bs (tS K bs p) < 10000 := by
  unfold tK tkind at h
  unfold tval
  generalize tS K bs p = a at h
  by_cases q : K ≤ a
  · rw [if_pos q]; omega
  rw [if_neg q] at h ⊢
  by_cases q1 : letB (bs a) = true
  · rw [if_pos q1] at h
    by_cases q2 : tend K bs a - a ≤ 8
    · rw [if_pos q2] at h; exact absurd h (kW_23 _)
    · rw [if_neg q2] at h; omega
  rw [if_neg q1] at h ⊢
  by_cases q2 : digB (bs a) = true
  · rw [if_pos q2] at h ⊢
    by_cases q3 : tend K bs a - a ≤ 4
    · rw [if_pos q3]
      obtain ⟨t1, t2, t3⟩ := tend_dig (show a < K by omega) q1 q2
      have v := valF_lt bs 10 48 (by omega) (tend K bs a - a) a 0 (fun j j1 j2 => by have := dig_lo (t3 j j1 (by omega)); omega)
      have p4 : 10 ^ (tend K bs a - a) ≤ 10 ^ 4 := Nat.pow_le_pow_right (by omega) q3
      omega
    · rw [if_neg q3] at h; omega
  rw [if_neg q2]; omega
theorem tok2 {K p : Nat} {bs : Nat → Nat} (h : tK K bs p = 2) : tS K bs p < K ∧ letB (bs (tS K bs p)) = true ∧ tend K bs (tS K bs p) - tS K bs p ≤ 8 := by
  unfold tK tkind at h
  generalize tS K bs p = a at h ⊢
  by_cases q : K ≤ a
  · rw [if_pos q] at h; omega
  rw [if_neg q] at h
  by_cases q1 : letB (bs a) = true
  · rw [if_pos q1] at h
    by_cases q2 : tend K bs a - a ≤ 8
    · exact ⟨by omega, q1, q2⟩
    · rw [if_neg q2] at h; omega
  rw [if_neg q1] at h
  by_cases q2 : digB (bs a) = true
  · rw [if_pos q2] at h
    by_cases q3 : tend K bs a - a ≤ 4
    · rw [if_pos q3] at h; omega
    · rw [if_neg q3] at h; omega
  rw [if_neg q2] at h
  by_cases q3 : sgnB (bs a) = true
  · rw [if_pos q3] at h; have := sgn_ge q3; omega
  · rw [if_neg q3] at h; omega
/-- accept beside must, at a token or broken -/
theorem acc3 {K N p k : Nat} {bs : Nat → Nat} {hc hr : PH} (pt : PT K bs N hc hr) (w : WP K bs N p hc hr) (hk : k < 128) (hk1 : 1 < k) (hv : validK k = true) {c c' : Int32} (e : c = nI k) (e' : c' = nI (kM k)) : ∃ hc' hr', c_X4_accept 2 c hc = some hc' ∧ c_X12_must c' hr = some hr' ∧ KP GC hc hc' ∧ KP GR hr hr' ∧ PT K bs N hc' hr' ∧ WP K bs N (p + 1) hc' hr' ∧ (hr'.1 0 13 = 0 → hr.1 0 13 = 0 ∧ tK K bs p = k ∧ hc'.1 2 5 = hc.1 2 5) := by
  rcases w with rs | bk
  · obtain ⟨hc', hr', a, b, kc, kr, pt', h⟩ := acc2 pt rs hk hk1 hv
    refine ⟨hc', hr', by rw [e]; exact a, by rw [e']; exact b, kc.mono (fun p k z => by unfold GC at z; unfold FAc; omega), kr.mono (fun p k z => by unfold GR at z; unfold FAr; omega), pt', ?_⟩
    rcases h with ⟨q, h⟩ | h
    · exact ⟨Or.inl h, fun _ => ⟨rs.f0, q, kc.i (by unfold FAc; omega)⟩⟩
    · have bk := h.bk pt'
      exact ⟨Or.inr bk, fun z => absurd z bk.nr⟩
  · exact ⟨hc, hr, bk.acc, bk.must, KP.rfl, KP.rfl, pt, Or.inr bk, fun z => absurd z bk.nr⟩
theorem PT.fr2 {K N : Nat} {bs : Nat → Nat} {hc hr hc' hr' : PH} (h : PT K bs N hc hr) (kc : KP (fun p _ => 4 ≤ p ∧ p ≤ 6) hc hc') (kr : KP (fun p _ => 3 ≤ p ∧ p ≤ 6) hr hr') : PT K bs N hc' hr' := h.fr kc kr (fun _ _ a b => ⟨a, b⟩) (fun _ _ a b => ⟨a, b⟩)
theorem num2 {K N p lo hi : Nat} {bs : Nat → Nat} {hc hr : PH} (pt : PT K bs N hc hr) (w : WP K bs N p hc hr) (hl : lo < 10000) (hh : hi < 10000) {a1 a2 : Int32} (e1 : a1 = nI lo) (e2 : a2 = nI hi) : ∃ v hc' v' hr', c_X4_number 2 a1 a2 hc = some (v, hc') ∧ c_X12_bounded a1 a2 hr = some (v', hr') ∧ KP GC hc hc' ∧ KP GR hr hr' ∧ PT K bs N hc' hr' ∧ WP K bs N (p + 1) hc' hr' ∧ (hr'.1 0 13 = 0 → hr.1 0 13 = 0 ∧ tK K bs p = 3 ∧ ∃ n, n < 10000 ∧ v = nI n ∧ v' = nI n ∧ (hc'.1 2 5 = 0 → hc.1 2 5 = 0 ∧ lo ≤ n ∧ n ≤ hi)) := by
  subst e1; subst e2
  have hN := pt.2.1.1
  rcases w with rs | bk
  · have h5 := rs.2.2.2.2.1
    obtain ⟨tc, tr⟩ := pt.2.2 p h5
    unfold c_X4_number c_X12_bounded
    rw [rs.placeC pt, Option.bind_some, nm_eq, rs.2.2.1, gdI (k := p) (by omega) (by omega), nI_clamp (n := p) (by omega), nm_eq, show hc.2.1 (2 + 1 + 3) p = lN (tval K bs (tS K bs p)) from tc.2.2, lN_i, if_neg (show ¬ (0 : Int32) < hr.1 0 13 by rw [rs.f0]; decide), rs.is pt (k := 3) (by omega) rfl (c := 2) rfl, Option.bind_some, if_0i, show (3 : Int32) = nI 3 from rfl, acceptC rs.1 rs.2.2.1 (by omega) (by omega) tc, Option.bind_some]
    by_cases q : tK K bs p = 3
    · have v4 := tok3 q
      generalize hn : tval K bs (tS K bs p) = n at v4
      rw [if_neg (show ¬ ¬ tK K bs p = 3 from fun z => z q), rs.2.2.2.1, gdI (k := p) (by omega) (by omega), nI_clamp (n := p) (by omega), tr.2.2.1 q, hn, nm_eq, ite_cg (nI_ltI (a := n) (b := lo) (by omega) (by omega)), ite_cg (nI_ltI (a := n) (b := lo) (by omega) (by omega)), ite_cg (nI_leI (a := n) (b := hi) (by omega) (by omega)), ite_cg (nI_leI (a := n) (b := hi) (by omega) (by omega))]
      have wr := wrongC (f := 5) pt.2.1 pt.1 h5 tr rs.2.1 rs.2.2.2.2.2
      have c1 := cmpR_k (nI 5) (nI (tS K bs p)) hr
      have gm : c_X12_goesOn (cmpR (nI 5) (nI (tS K bs p)) hr) = some (if p < 400 then setI (cmpR (nI 5) (nI (tS K bs p)) hr) 0 11 (nI (p + 1)) else setI (setI (cmpR (nI 5) (nI (tS K bs p)) hr) 0 13 2) 0 14 (nI (tS K bs p))) := goesR (K := K) (bs := bs) ((c1.i (by omega)).trans rs.2.1) ((c1.i (by omega)).trans rs.2.2.2.1) (by omega) ⟨(c1.i (by omega)).trans tr.1, (c1.i (by omega)).trans tr.2.1, fun z => (c1.i (by omega)).trans (tr.2.2.1 z), fun z1 z2 z3 => (c1.j (by omega)).trans (tr.2.2.2 z1 z2 z3)⟩
      have g0 := goesR rs.2.1 rs.2.2.2.1 (by omega) tr
      by_cases p4 : p < 400
      · rw [if_pos (show tK K bs p = 3 ∧ p < 400 from ⟨q, p4⟩)]
        rw [if_pos p4] at gm g0
        have nx := tEnd_next pt.2.1 h5 (by omega) p4
        have sb : (setI hc 2 2 (nI (p + 1))).1 2 3 = 0 := by rw [setI_ne (by omega)]; exact rs.1
        have wrc : ∀ (hr1 : PH), KP (fun a b => ¬ (a = 0 ∧ (b = 15 ∨ b = 16))) hr hr1 → KP GR hr (setI hr1 0 11 (nI (p + 1))) := fun hr1 k => (k.mono (fun a b z => by unfold GR at z; omega)).trans (KP.setI (by unfold GR; omega))
        have kc0 : KP GC hc (setI hc 2 2 (nI (p + 1))) := KP.setI (by unfold GC; omega)
        have ru0 : RU K bs p (setI hc 2 2 (nI (p + 1))) hr := by
          have := rs.2.2.2.2.2
          unfold RU at this ⊢
          rw [setI_ne (by omega), setI_ne (by omega)]; exact this
        have bad : ∃ v hc' v' hr', (bind (c_X4_complain 2 5 (nI (tS K bs p)) (setI hc 2 2 (nI (p + 1)))) fun h5 => some (nI n, h5)) = some (v, hc') ∧ ((c_X12_wrong 5 (nI p) hr).bind fun h4 => (c_X12_goesOn h4).bind fun h5 => some (nI n, h5)) = some (v', hr') ∧ KP GC hc hc' ∧ KP GR hr hr' ∧ PT K bs N hc' hr' ∧ WP K bs N (p + 1) hc' hr' ∧ (hr'.1 0 13 = 0 → hr.1 0 13 = 0 ∧ tK K bs p = 3 ∧ ∃ n', n' < 10000 ∧ v = nI n' ∧ v' = nI n' ∧ (hc'.1 2 5 = 0 → hc.1 2 5 = 0 ∧ lo ≤ n' ∧ n' ≤ hi)) := by
          have c2 := cmpC_k (nI 5) (nI (tS K bs p)) (setI hc 2 2 (nI (p + 1)))
          have kc : KP GC hc (cmpC (nI 5) (nI (tS K bs p)) (setI hc 2 2 (nI (p + 1)))) := kc0.trans (c2.mono (fun a b z => by unfold GC at z; omega))
          have kr := wrc _ c1
          refine ⟨nI n, cmpC (nI 5) (nI (tS K bs p)) (setI hc 2 2 (nI (p + 1))), nI n, setI (cmpR (nI 5) (nI (tS K bs p)) hr) 0 11 (nI (p + 1)), ?_, ?_, kc, kr, pt.fr kc kr (fun a b _ _ => by unfold GC; omega) (fun a b _ _ => by unfold GR; omega), Or.inl ⟨(c2.i (by omega)).trans sb, by rw [setI_ne (by omega)]; exact (c1.i (by omega)).trans rs.2.1, (c2.i (by omega)).trans (setI_eq _ _ _ _), setI_eq _ _ _ _, nx, ?_⟩, fun _ => ⟨rs.2.1, q, n, v4, rfl, rfl, fun z => absurd z (cmpC_n (by omega) (by omega))⟩⟩
          · rw [show (5 : Int32) = nI 5 from rfl, complC]; rfl
          · rw [show (5 : Int32) = nI 5 from rfl, wr, Option.bind_some, gm]; rfl
          · have := RU_cmp (f := 5) (by omega) (by omega) ru0
            unfold RU at this ⊢
            rw [setI_ne (by omega), setI_ne (by omega)]; exact this
        rw [if_pos sb]
        by_cases l1 : n < lo
        · rw [if_pos l1, if_pos l1]; exact bad
        · rw [if_neg l1, if_neg l1]
          by_cases l2 : n ≤ hi
          · rw [if_pos l2, if_pos l2, g0, Option.bind_some]
            have kr := wrc hr KP.rfl
            refine ⟨_, _, _, _, rfl, rfl, kc0, kr, pt.fr kc0 kr (fun a b _ _ => by unfold GC; omega) (fun a b _ _ => by unfold GR; omega), Or.inl ⟨sb, by rw [setI_ne (by omega)]; exact rs.2.1, setI_eq _ _ _ _, setI_eq _ _ _ _, nx, ?_⟩, fun _ => ⟨rs.2.1, q, n, v4, rfl, rfl, fun z => ⟨by rw [setI_ne (by omega)] at z; exact z, by omega, l2⟩⟩⟩
            have := ru0.le (show p ≤ p + 1 by omega)
            unfold RU at this ⊢
            rw [setI_ne (by omega), setI_ne (by omega)] at this ⊢; rw [setI_ne (by omega), setI_ne (by omega)]; exact this
          · rw [if_neg l2, if_neg l2]; exact bad
      · rw [if_neg (show ¬ (tK K bs p = 3 ∧ p < 400) from fun z => p4 z.2)]
        rw [if_neg p4] at gm g0
        have e4 : brk K bs p 3 = 2 := if_pos q
        have sb : ¬ (setI (setI hc 2 3 (nI (brk K bs p 3))) 2 4 (nI (tS K bs p))).1 2 3 = 0 := by rw [setI_ne (by omega), setI_eq, e4]; exact nI_nz (by omega) (by omega)
        rw [if_neg sb, e4]
        have kc : KP GC hc (setI (setI hc 2 3 (nI 2)) 2 4 (nI (tS K bs p))) := (KP.setI (by unfold GC; omega)).trans (KP.setI (by unfold GC; omega))
        have fin : ∀ (hr1 : PH), KP GR hr hr1 → ∃ v hc' v' hr', some (nI n, setI (setI hc 2 3 (nI 2)) 2 4 (nI (tS K bs p))) = some (v, hc') ∧ some (nI n, setI (setI hr1 0 13 2) 0 14 (nI (tS K bs p))) = some (v', hr') ∧ KP GC hc hc' ∧ KP GR hr hr' ∧ PT K bs N hc' hr' ∧ WP K bs N (p + 1) hc' hr' ∧ (hr'.1 0 13 = 0 → hr.1 0 13 = 0 ∧ tK K bs p = 3 ∧ ∃ n', n' < 10000 ∧ v = nI n' ∧ v' = nI n' ∧ (hc'.1 2 5 = 0 → hc.1 2 5 = 0 ∧ lo ≤ n' ∧ n' ≤ hi)) := fun hr1 k1 => by
          have kr : KP GR hr (setI (setI hr1 0 13 2) 0 14 (nI (tS K bs p))) := (k1.trans (KP.setI (by unfold GR; omega))).trans (KP.setI (by unfold GR; omega))
          have bk : BK (setI (setI hc 2 3 (nI 2)) 2 4 (nI (tS K bs p))) (setI (setI hr1 0 13 2) 0 14 (nI (tS K bs p))) := ⟨2, p, by omega, by omega, by omega, by rw [setI_ne (by omega), setI_eq], by rw [setI_ne (by omega), setI_eq]; rfl, by rw [setI_ne (by omega), setI_ne (by omega)]; exact rs.2.2.1, by rw [setI_eq, setI_eq]⟩
          exact ⟨_, _, _, _, rfl, rfl, kc, kr, pt.fr kc kr (fun a b _ _ => by unfold GC; omega) (fun a b _ _ => by unfold GR; omega), Or.inr bk, fun z => absurd z bk.nr⟩
        have f1 := fin _ (c1.mono (fun a b z => by unfold GR at z; omega))
        have f0 := fin hr KP.rfl
        by_cases l1 : n < lo
        · rw [if_pos l1, show (5 : Int32) = nI 5 from rfl, wr, Option.bind_some, gm]; exact f1
        · rw [if_neg l1]
          by_cases l2 : n ≤ hi
          · rw [if_pos l2, g0]; exact f0
          · rw [if_neg l2, show (5 : Int32) = nI 5 from rfl, wr, Option.bind_some, gm]; exact f1
    · have e4 : brk K bs p 3 = 1 := if_neg q
      rw [if_pos q, if_neg (show ¬ (tK K bs p = 3 ∧ p < 400) from fun z => q z.1), failR rs.2.1 rs.2.2.2.1 (by omega) tr, Option.bind_some, e4]
      have sb : ¬ (setI (setI hc 2 3 (nI 1)) 2 4 (nI (tS K bs p))).1 2 3 = 0 := by rw [setI_ne (by omega), setI_eq]; exact nI_nz (by omega) (by omega)
      rw [if_neg sb]
      have kc : KP GC hc (setI (setI hc 2 3 (nI 1)) 2 4 (nI (tS K bs p))) := (KP.setI (by unfold GC; omega)).trans (KP.setI (by unfold GC; omega))
      have kr : KP GR hr (setI (setI hr 0 13 1) 0 14 (nI (tS K bs p))) := (KP.setI (by unfold GR; omega)).trans (KP.setI (by unfold GR; omega))
      have bk : BK (setI (setI hc 2 3 (nI 1)) 2 4 (nI (tS K bs p))) (setI (setI hr 0 13 1) 0 14 (nI (tS K bs p))) := ⟨1, p, by omega, by omega, by omega, by rw [setI_ne (by omega), setI_eq], by rw [setI_ne (by omega), setI_eq]; rfl, by rw [setI_ne (by omega), setI_ne (by omega)]; exact rs.2.2.1, by rw [setI_eq, setI_eq]⟩
      exact ⟨_, _, _, _, rfl, rfl, kc, kr, pt.fr kc kr (fun a b _ _ => by unfold GC; omega) (fun a b _ _ => by unfold GR; omega), Or.inr bk, fun z => absurd z bk.nr⟩
  · unfold c_X4_number c_X12_bounded
    rw [bk.placeC, Option.bind_some, nm_eq, bk.gd, nm_eq, bk.acc, Option.bind_some, if_neg bk.nc, if_pos bk.gt, bk.fail]
    exact ⟨_, _, _, _, rfl, rfl, KP.rfl, KP.rfl, pt, Or.inr bk, fun z => absurd z bk.nr⟩
