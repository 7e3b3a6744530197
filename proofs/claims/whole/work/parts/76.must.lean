def validK (k : Nat) : Bool := decide (k ≤ 3) || sgnB k || (decide (64 ≤ k) && decide (k < 87))
theorem kM_inj : ∀ a, a < 128 → ∀ b, b < 128 → validK a = true → validK b = true → (kM a = kM b ↔ a = b) := by decide +kernel
theorem kM_lt : ∀ a, a < 128 → kM a < 128 := by decide +kernel
theorem tkind_ok (K : Nat) (bs : Nat → Nat) (a : Nat) : validK (tkind K bs a) = true := by
  unfold tkind
  by_cases q : K ≤ a
  · rw [if_pos q]; rfl
  rw [if_neg q]
  by_cases q1 : letB (bs a) = true
  · rw [if_pos q1]
    by_cases q2 : tend K bs a - a ≤ 8
    · rw [if_pos q2]
      unfold kindW
      cases e : fstX (fun w => decide (vB 32 (Wd2 w) = valF bs 32 96 (tend K bs a - a) a 0)) 23 0 with
      | none => rfl
      | some w =>
        have wl := (fstX_some _ _ _ e).2.1
        have : ∀ w, w < 23 → validK (64 + w) = true := by decide
        exact this w (by omega)
    · rw [if_neg q2]; rfl
  rw [if_neg q1]
  by_cases q2 : digB (bs a) = true
  · rw [if_pos q2]
    by_cases q3 : tend K bs a - a ≤ 4
    · rw [if_pos q3]; rfl
    · rw [if_neg q3]; rfl
  rw [if_neg q2]
  by_cases q3 : sgnB (bs a) = true
  · rw [if_pos q3]; unfold validK; rw [q3]; simp
  · rw [if_neg q3]; rfl
/-- what a token that is not the one asked for breaks the text with -/
def brk (K : Nat) (bs : Nat → Nat) (p k : Nat) : Nat := if tK K bs p = k then 2 else 1
theorem acceptC {K p k : Nat} {bs : Nat → Nat} {h : PH} (hb : h.1 2 3 = 0) (ha : h.1 2 2 = nI p) (hp : p < 401) (hk : k < 128) (ht : TokC K bs h p) : c_X4_accept 2 (nI k) h = some (if tK K bs p = k ∧ p < 400 then setI h 2 2 (nI (p + 1)) else setI (setI h 2 3 (nI (brk K bs p k))) 2 4 (nI (tS K bs p))) := by
  have kl := tkind_lt K bs (tS K bs p)
  have j45 : c_X4_accept_j45 2 (nI k) h = some (setI (setI h 2 3 (nI (brk K bs p k))) 2 4 (nI (tS K bs p))) := by
    unfold c_X4_accept_j45 brk
    rw [ha, gdI (k := p) hp (by omega), nI_clamp (n := p) (by omega), show h.1 (2 + 1 + 1) p = nI (tK K bs p) from ht.1, ite_cg (show nI (tK K bs p) = nI k ↔ tK K bs p = k from nI_eq (by unfold tK; omega) (by omega))]
    have go : ∀ c : Int32, (nm (setI h 2 3 c) fun h3 => gd (ixOK (h3.1 2 2) 401) <| nm (setI h3 2 4 (h3.1 (2 + 1 + 2) (h3.1 2 2).toNatClampNeg)) fun h4 => some h4) = some (setI (setI h 2 3 c) 2 4 (nI (tS K bs p))) := fun c => by
      rw [nm_eq, setI_ne (by omega), ha, gdI (k := p) hp (by omega), nI_clamp (n := p) (by omega), setI_ne (by omega), show h.1 (2 + 1 + 2) p = nI (tS K bs p) from ht.2.1]; rfl
    by_cases q : tK K bs p = k
    · rw [if_pos q, if_pos q]; exact go 2
    · rw [if_neg q, if_neg q]; exact go 1
  unfold c_X4_accept
  rw [if_pos hb, ha, gdI (k := p) hp (by omega), nI_clamp (n := p) (by omega), show h.1 (2 + 1 + 1) p = nI (tK K bs p) from ht.1, ite_cg (show nI (tK K bs p) = nI k ↔ tK K bs p = k from nI_eq (by unfold tK; omega) (by omega)), ite_cg (show (400 : Int32) ≤ nI p ↔ 400 ≤ p from nI_leI (a := 400) (by omega) (by omega)), j45, nI_1]
  by_cases q : tK K bs p = k
  · rw [if_pos q]
    by_cases q4 : 400 ≤ p
    · rw [if_pos q4, if_neg (show ¬ (tK K bs p = k ∧ p < 400) by omega)]
    · rw [if_neg q4, if_pos (show tK K bs p = k ∧ p < 400 by omega)]; rfl
  · rw [if_neg q, if_neg (show ¬ (tK K bs p = k ∧ p < 400) by omega)]
theorem acceptC_b {k : Int32} {h : PH} (hb : ¬ h.1 2 3 = 0) : c_X4_accept 2 k h = some h := by
  unfold c_X4_accept; rw [if_neg hb]
theorem isR {K p k : Nat} {bs : Nat → Nat} {h : PH} (hb : h.1 0 13 = 0) (ha : h.1 0 11 = nI p) (hp : p < 401) (hk : k < 128) (hv : validK k = true) (ht : TokR K bs h p) : c_X12_is (nI (kM k)) h = some (if tK K bs p = k then 1 else 0) := by
  have kl := tkind_lt K bs (tS K bs p)
  have kv := tkind_ok K bs (tS K bs p)
  have l1 := kM_lt _ kl
  have l2 := kM_lt _ hk
  unfold c_X12_is
  rw [if_pos hb, ha, gdI (k := p) (by omega) (by omega), nI_clamp (n := p) (by omega), ht.1, ite_cg (show nI (kM (tK K bs p)) = nI (kM k) ↔ tK K bs p = k from (nI_eq (show kM (tK K bs p) < 2 ^ 31 by unfold tK; omega) (by omega)).trans (kM_inj _ kl _ hk kv hv))]
  by_cases q : tK K bs p = k
  · rw [if_pos q, if_pos q]
  · rw [if_neg q, if_neg q]
theorem isR_b {k : Int32} {h : PH} (hb : ¬ h.1 0 13 = 0) : c_X12_is k h = some 0 := by
  unfold c_X12_is; rw [if_neg hb]
theorem failR {K p : Nat} {bs : Nat → Nat} {c : Int32} {h : PH} (hb : h.1 0 13 = 0) (ha : h.1 0 11 = nI p) (hp : p < 401) (ht : TokR K bs h p) : c_X12_fail c h = some (setI (setI h 0 13 c) 0 14 (nI (tS K bs p))) := by
  unfold c_X12_fail
  rw [hb, if_pos (show (0 : Int32) ≤ 0 by decide), nm_eq, setI_ne (by omega), ha, gdI (k := p) (by omega) (by omega), nI_clamp (n := p) (by omega), setI_ne (by omega), ht.2.1]; rfl
theorem failR_b {c : Int32} {b : Nat} {h : PH} (hb : h.1 0 13 = nI b) (h1 : 0 < b) (h2 : b < 100) : c_X12_fail c h = some h := by
  unfold c_X12_fail
  rw [hb, if_neg (show ¬ nI b ≤ 0 from nI_ge (b := b) (a := 0) h1 (by omega))]
theorem goesR {K p : Nat} {bs : Nat → Nat} {h : PH} (hb : h.1 0 13 = 0) (ha : h.1 0 11 = nI p) (hp : p < 401) (ht : TokR K bs h p) : c_X12_goesOn h = some (if p < 400 then setI h 0 11 (nI (p + 1)) else setI (setI h 0 13 2) 0 14 (nI (tS K bs p))) := by
  unfold c_X12_goesOn
  rw [ha, ite_cg (show nI p = 400 ↔ p = 400 from nI_lit (by omega) 400 (by omega) rfl), nI_1]
  by_cases q : p = 400
  · rw [if_pos q, if_neg (show ¬ p < 400 by omega), failR hb ha hp ht]; rfl
  · rw [if_neg q, if_pos (show p < 400 by omega)]; rfl
theorem mustR {K p k : Nat} {bs : Nat → Nat} {h : PH} (hb : h.1 0 13 = 0) (ha : h.1 0 11 = nI p) (hp : p < 401) (hk : k < 128) (hv : validK k = true) (ht : TokR K bs h p) : c_X12_must (nI (kM k)) h = some (if tK K bs p = k ∧ p < 400 then setI h 0 11 (nI (p + 1)) else setI (setI h 0 13 (nI (brk K bs p k))) 0 14 (nI (tS K bs p))) := by
  unfold c_X12_must brk
  rw [isR hb ha hp hk hv ht, Option.bind_some, if_0i]
  by_cases q : tK K bs p = k
  · rw [if_neg (show ¬ ¬ tK K bs p = k from fun z => z q), goesR hb ha hp ht, if_pos q]
    by_cases q4 : p < 400
    · rw [if_pos q4, if_pos ⟨q, q4⟩]; rfl
    · rw [if_neg q4, if_neg (fun z => q4 z.2)]; rfl
  · rw [if_pos q, if_neg (fun z => q z.1), if_neg q, failR hb ha hp ht]; rfl
theorem mustR_b {c : Int32} {b : Nat} {h : PH} (hb : h.1 0 13 = nI b) (h1 : 0 < b) (h2 : b < 100) : c_X12_must c h = some h := by
  unfold c_X12_must
  rw [isR_b (by rw [hb]; intro z; have := (nI_lit (show b < 2 ^ 31 by omega) 0 (by omega) rfl).mp z; omega), Option.bind_some, if_pos (Eq.refl (0 : Int32)), failR_b hb h1 h2]; rfl
