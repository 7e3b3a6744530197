theorem tEnd_le {K N N' : Nat} {bs : Nat → Nat} (ht : tEnd K bs N) (hr : rEnd K bs N') : N ≤ N' := by
  obtain ⟨h1, h2, h3⟩ := hr
  rcases h2 with h2 | ⟨h4, h5⟩
  · have := ht.1; omega
  · by_cases q : N ≤ N'
    · exact q
    · have := ht.2.1 (N' - 1) (by omega); omega
theorem tEnd_next {K N p : Nat} {bs : Nat → Nat} (ht : tEnd K bs N) (hp : p < N) (h1 : 1 < tK K bs p) (h4 : p < 400) : p + 1 < N := by
  rcases ht.2.2 with ⟨e, _⟩ | ⟨e, e2⟩
  · omega
  · by_cases q : p = N - 1
    · rw [← q] at e2; omega
    · omega
theorem tEnd_pos {K N : Nat} {bs : Nat → Nat} (ht : tEnd K bs N) : 0 < N := by
  rcases ht.2.2 with ⟨e, _⟩ | ⟨e, _⟩ <;> omega
theorem tK_in {K i : Nat} {bs : Nat → Nat} : tK K bs i ≠ 0 ↔ tS K bs i < K := by
  constructor
  · intro h
    by_cases q : K ≤ tS K bs i
    · exact absurd (by unfold tK tkind; rw [if_pos q]) h
    · omega
  · intro h z
    unfold tK tkind at z
    rw [if_neg (show ¬ K ≤ tS K bs i by omega)] at z
    by_cases q1 : letB (bs (tS K bs i)) = true
    · rw [if_pos q1] at z
      by_cases q2 : tend K bs (tS K bs i) - tS K bs i ≤ 8
      · rw [if_pos q2] at z; have := (kindW_lt (valF bs 32 96 (tend K bs (tS K bs i) - tS K bs i) (tS K bs i) 0)).1; omega
      · rw [if_neg q2] at z; omega
    rw [if_neg q1] at z
    by_cases q2 : digB (bs (tS K bs i)) = true
    · rw [if_pos q2] at z
      by_cases q3 : tend K bs (tS K bs i) - tS K bs i ≤ 4
      · rw [if_pos q3] at z; omega
      · rw [if_neg q3] at z; omega
    rw [if_neg q2] at z
    by_cases q3 : sgnB (bs (tS K bs i)) = true
    · rw [if_pos q3] at z; have := of_decide_eq_true q3; omega
    · rw [if_neg q3] at z; omega
theorem tS_le (K : Nat) (bs : Nat → Nat) (i : Nat) : tS K bs i ≤ K := (skip_le (tX_le K bs i)).2
theorem tS_next {K i : Nat} {bs : Nat → Nat} (h : tK K bs i ≠ 0) : tS K bs i < tS K bs (i + 1) := by
  have l := tK_in.mp h
  have t := (tend_le (K := K) (bs := bs) (tS_le K bs i)).2.2 l
  have s := (skip_le (bs := bs) (tX_le K bs (i + 1))).1
  have e : tX K bs (i + 1) = tend K bs (tS K bs i) := rfl
  have e2 : tS K bs (i + 1) = skip K bs (tX K bs (i + 1)) := rfl
  omega
theorem tS_mono {K N : Nat} {bs : Nat → Nat} (ht : tEnd K bs N) (i : Nat) : ∀ j, i < j → j < N → tS K bs i < tS K bs j
  | 0, h, _ => by omega
  | j + 1, h, hj => by
    have n := tS_next (K := K) (bs := bs) (i := j) (by have := ht.2.1 j hj; omega)
    by_cases q : i = j
    · rw [q]; exact n
    · have := tS_mono ht i j (by omega) (by omega); omega
/-- the complaints kept: of a token before p, alike on both sides -/
def RU (K : Nat) (bs : Nat → Nat) (p : Nat) (hc hr : PH) : Prop := (hc.1 2 5 = 0 ∧ hr.1 0 15 = 0 ∧ hc.1 2 6 = -1) ∨ ∃ u q, 0 < u ∧ u < 100 ∧ q < p ∧ hc.1 2 5 = nI u ∧ hr.1 0 15 = nI u ∧ hc.1 2 6 = nI (tS K bs q) ∧ hr.1 0 16 = nI (tS K bs q)
theorem RU.le {K p p' : Nat} {bs : Nat → Nat} {hc hr : PH} (h : RU K bs p hc hr) (hp : p ≤ p') : RU K bs p' hc hr := by
  rcases h with h | ⟨u, q, h1, h2, h3, h4⟩
  · exact Or.inl h
  · exact Or.inr ⟨u, q, h1, h2, by omega, h4⟩
def FUc (p k : Nat) : Prop := ¬ (p = 2 ∧ (k = 5 ∨ k = 6))
def FUr (p k : Nat) : Prop := ¬ (p = 0 ∧ (k = 15 ∨ k = 16))
theorem nI_nz {u : Nat} (h1 : 0 < u) (h2 : u < 2 ^ 31) : ¬ nI u = 0 := fun z => by have := (nI_lit h2 0 (by omega) rfl).mp z; omega
theorem wrongR {K q : Nat} {bs : Nat → Nat} {f : Int32} {hr : PH} (hq : q < 401) (tr : TokR K bs hr q) (hb : hr.1 0 13 = 0) : c_X12_wrong f (nI q) hr = if hr.1 0 15 = 0 then some (setI (setI hr 0 15 f) 0 16 (nI (tS K bs q))) else if hr.1 0 16 < nI (tS K bs q) then some hr else if nI (tS K bs q) = hr.1 0 16 then (if f < hr.1 0 15 then some (setI (setI hr 0 15 f) 0 16 (nI (tS K bs q))) else some hr) else some (setI (setI hr 0 15 f) 0 16 (nI (tS K bs q))) := by
  unfold c_X12_wrong
  rw [gdI (k := q) (by omega) (by omega), nI_clamp (n := q) (by omega), tr.2.1, nm_eq, hb, if_neg (show ¬ (0 : Int32) < 0 by decide)]
  rfl
theorem wrong2 {K N q f : Nat} {bs : Nat → Nat} {hc hr : PH} (ht : tEnd K bs N) (hK : K ≤ 2000) (hq : q < N) (tr : TokR K bs hr q) (hb : hr.1 0 13 = 0) (hf : 0 < f) (hf2 : f < 100) (ru : RU K bs q hc hr) : ∃ hc' hr', c_X4_complain 2 (nI f) (nI (tS K bs q)) hc = some hc' ∧ c_X12_wrong (nI f) (nI q) hr = some hr' ∧ RU K bs (q + 1) hc' hr' ∧ ¬ hc'.1 2 5 = 0 ∧ KP FUc hc hc' ∧ KP FUr hr hr' := by
  have hN := ht.1
  rw [wrongR (by omega) tr hb]
  unfold c_X4_complain
  rcases ru with ⟨u1, u2, u9⟩ | ⟨u, r, u1, u2, u3, u4, u5, u6, u7⟩
  · rw [if_pos u1, if_pos u2]
    have a1 : (setI (setI hc 2 5 (nI f)) 2 6 (nI (tS K bs q))).1 2 5 = nI f := by rw [setI_ne (by omega), setI_eq]
    have a2 : (setI (setI hr 0 15 (nI f)) 0 16 (nI (tS K bs q))).1 0 15 = nI f := by rw [setI_ne (by omega), setI_eq]
    exact ⟨_, _, rfl, rfl, Or.inr ⟨f, q, hf, hf2, by omega, a1, a2, setI_eq _ _ _ _, setI_eq _ _ _ _⟩, by rw [a1]; exact nI_nz hf (by omega), (KP.setI (fun z => z ⟨rfl, Or.inl rfl⟩)).trans (KP.setI (fun z => z ⟨rfl, Or.inr rfl⟩)), (KP.setI (fun z => z ⟨rfl, Or.inl rfl⟩)).trans (KP.setI (fun z => z ⟨rfl, Or.inr rfl⟩))⟩
  · have l := tS_mono ht r q u3 hq
    have lK := tS_le K bs q
    rw [u4, u5, u7, if_neg (nI_nz u1 (by omega)), if_neg (nI_nz u1 (by omega)), if_pos (nI_lt l (by omega))]
    exact ⟨hc, hr, rfl, rfl, Or.inr ⟨u, r, u1, u2, by omega, u4, u5, u6, u7⟩, by rw [u4]; exact nI_nz u1 (by omega), KP.rfl, KP.rfl⟩
