/-- the tokens lie in both heaps -/
def PT (K : Nat) (bs : Nat → Nat) (N : Nat) (hc hr : PH) : Prop := K ≤ 2000 ∧ tEnd K bs N ∧ ∀ i, i < N → TokC K bs hc i ∧ TokR K bs hr i
/-- not broken, at token p -/
def RS (K : Nat) (bs : Nat → Nat) (N p : Nat) (hc hr : PH) : Prop := hc.1 2 3 = 0 ∧ hr.1 0 13 = 0 ∧ hc.1 2 2 = nI p ∧ hr.1 0 11 = nI p ∧ p < N ∧ RU K bs p hc hr
/-- broken alike -/
def RK (K : Nat) (bs : Nat → Nat) (N : Nat) (hc hr : PH) : Prop := ∃ b p, 0 < b ∧ b < 3 ∧ p < N ∧ hc.1 2 3 = nI b ∧ hr.1 0 13 = nI b ∧ hc.1 2 2 = nI p ∧ hr.1 0 11 = nI p ∧ hc.1 2 4 = nI (tS K bs p) ∧ hr.1 0 14 = nI (tS K bs p)
def FAc (p k : Nat) : Prop := ¬ (p = 2 ∧ 2 ≤ k ∧ k ≤ 4)
def FAr (p k : Nat) : Prop := ¬ (p = 0 ∧ (k = 11 ∨ k = 13 ∨ k = 14))
theorem PT.fr {K N : Nat} {bs : Nat → Nat} {hc hr hc' hr' : PH} {Fc Fr : Nat → Nat → Prop} (h : PT K bs N hc hr) (kc : KP Fc hc hc') (kr : KP Fr hr hr') (f1 : ∀ p k, 4 ≤ p → p ≤ 6 → Fc p k) (f2 : ∀ p k, 3 ≤ p → p ≤ 6 → Fr p k) : PT K bs N hc' hr' := by
  refine ⟨h.1, h.2.1, fun i hi => ?_⟩
  obtain ⟨⟨c1, c2, c3⟩, r1, r2, r3, r4⟩ := h.2.2 i hi
  exact ⟨⟨by rw [kc.i (f1 _ _ (by omega) (by omega))]; exact c1, by rw [kc.i (f1 _ _ (by omega) (by omega))]; exact c2, by rw [kc.j (f1 _ _ (by omega) (by omega))]; exact c3⟩, by rw [kr.i (f2 _ _ (by omega) (by omega))]; exact r1, by rw [kr.i (f2 _ _ (by omega) (by omega))]; exact r2, fun z => by rw [kr.i (f2 _ _ (by omega) (by omega))]; exact r3 z, fun z1 z2 z3 => by rw [kr.j (f2 _ _ (by omega) (by omega))]; exact r4 z1 z2 z3⟩
theorem acc2 {K N p k : Nat} {bs : Nat → Nat} {hc hr : PH} (pt : PT K bs N hc hr) (rs : RS K bs N p hc hr) (hk : k < 128) (hk1 : 1 < k) (hv : validK k = true) : ∃ hc' hr', c_X4_accept 2 (nI k) hc = some hc' ∧ c_X12_must (nI (kM k)) hr = some hr' ∧ KP FAc hc hc' ∧ KP FAr hr hr' ∧ PT K bs N hc' hr' ∧ (tK K bs p = k ∧ RS K bs N (p + 1) hc' hr' ∨ RK K bs N hc' hr') := by
  obtain ⟨s1, s2, s3, s4, s5, s6⟩ := rs
  have hN := pt.2.1.1
  obtain ⟨tc, tr⟩ := pt.2.2 p s5
  rw [acceptC s1 s3 (by omega) hk tc, mustR s2 s4 (by omega) hk hv tr]
  by_cases q : tK K bs p = k ∧ p < 400
  · rw [if_pos q, if_pos q]
    have k1 : KP FAc hc (setI hc 2 2 (nI (p + 1))) := KP.setI (fun z => z ⟨rfl, by omega, by omega⟩)
    have k2 : KP FAr hr (setI hr 0 11 (nI (p + 1))) := KP.setI (fun z => z ⟨rfl, Or.inl rfl⟩)
    refine ⟨_, _, rfl, rfl, k1, k2, pt.fr k1 k2 (fun a b _ _ => by unfold FAc; omega) (fun a b _ _ => by unfold FAr; omega), Or.inl ⟨q.1, ?_⟩⟩
    refine ⟨by rw [setI_ne (by omega)]; exact s1, by rw [setI_ne (by omega)]; exact s2, setI_eq _ _ _ _, setI_eq _ _ _ _, tEnd_next pt.2.1 s5 (by omega) q.2, ?_⟩
    have := s6.le (show p ≤ p + 1 by omega)
    unfold RU at this ⊢
    rw [setI_ne (by omega), setI_ne (by omega), setI_ne (by omega), setI_ne (by omega)]
    exact this
  · rw [if_neg q, if_neg q]
    have k1 : KP FAc hc (setI (setI hc 2 3 (nI (brk K bs p k))) 2 4 (nI (tS K bs p))) := (KP.setI (fun z => z ⟨rfl, by omega, by omega⟩)).trans (KP.setI (fun z => z ⟨rfl, by omega, by omega⟩))
    have k2 : KP FAr hr (setI (setI hr 0 13 (nI (brk K bs p k))) 0 14 (nI (tS K bs p))) := (KP.setI (fun z => z ⟨rfl, Or.inr (Or.inl rfl)⟩)).trans (KP.setI (fun z => z ⟨rfl, Or.inr (Or.inr rfl)⟩))
    refine ⟨_, _, rfl, rfl, k1, k2, pt.fr k1 k2 (fun a b _ _ => by unfold FAc; omega) (fun a b _ _ => by unfold FAr; omega), Or.inr ⟨brk K bs p k, p, ?_, ?_, s5, ?_, ?_, ?_, ?_, setI_eq _ _ _ _, setI_eq _ _ _ _⟩⟩
    · unfold brk; by_cases e : tK K bs p = k
      · rw [if_pos e]; omega
      · rw [if_neg e]; omega
    · unfold brk; by_cases e : tK K bs p = k
      · rw [if_pos e]; omega
      · rw [if_neg e]; omega
    · rw [setI_ne (by omega), setI_eq]
    · rw [setI_ne (by omega), setI_eq]
    · rw [setI_ne (by omega), setI_ne (by omega)]; exact s3
    · rw [setI_ne (by omega), setI_ne (by omega)]; exact s4
theorem acc2_b {K N : Nat} {k k' : Int32} {bs : Nat → Nat} {hc hr : PH} (rk : RK K bs N hc hr) : c_X4_accept 2 k hc = some hc ∧ c_X12_must k' hr = some hr := by
  obtain ⟨b, p, b1, b2, _, c1, c2, _⟩ := rk
  exact ⟨acceptC_b (by rw [c1]; exact nI_nz b1 (by omega)), mustR_b c2 b1 (by omega)⟩
