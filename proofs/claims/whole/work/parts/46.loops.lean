theorem fu_n {n : Nat} (h : n ≤ 8000) : fu = (8191 - n) + n + 1 := by show 8192 = _; omega
theorem nI0 : (0 : Int32) = nI 0 := by decide +kernel
/-- a loop over an index last, by a relation kept -/
theorem for_vi {α ρ : Type} {B : (α → Int32 → Option ρ) → α → Int32 → Option ρ} {K : α → Option ρ} {N : Nat} (P : Nat → α → Prop) (hs : ∀ (REC : α → Int32 → Option ρ) (i : Nat) (x : α), i < N → P i x → ∃ y, B REC x (nI i) = REC y (nI (i + 1)) ∧ P (i + 1) y) (he : ∀ (REC : α → Int32 → Option ρ) (x : α), P N x → B REC x (nI N) = K x) : ∀ (n i f : Nat) (x : α), i + n = N → P i x → ∃ y, lq2 B (f + n + 1) x (nI i) = K y ∧ P N y
  | 0, i, f, x, hi, hp => by
    have : i = N := by omega
    subst this
    exact ⟨x, by rw [lq2_s]; exact he _ x hp, hp⟩
  | n + 1, i, f, x, hi, hp => by
    obtain ⟨y, e, hp'⟩ := hs (lq2 B (f + n + 1)) i x (by omega) hp
    obtain ⟨z, e', hz⟩ := for_vi P hs he n (i + 1) f y (by omega) hp'
    exact ⟨z, by rw [show f + (n + 1) + 1 = (f + n + 1) + 1 from by omega, lq2_s, e, e'], hz⟩
theorem for_iv {α ρ : Type} {B : (Int32 → α → Option ρ) → Int32 → α → Option ρ} {K : α → Option ρ} {N : Nat} (P : Nat → α → Prop) (hs : ∀ (REC : Int32 → α → Option ρ) (i : Nat) (x : α), i < N → P i x → ∃ y, B REC (nI i) x = REC (nI (i + 1)) y ∧ P (i + 1) y) (he : ∀ (REC : Int32 → α → Option ρ) (x : α), P N x → B REC (nI N) x = K x) : ∀ (n i f : Nat) (x : α), i + n = N → P i x → ∃ y, lq2 B (f + n + 1) (nI i) x = K y ∧ P N y
  | 0, i, f, x, hi, hp => by
    have : i = N := by omega
    subst this
    exact ⟨x, by rw [lq2_s]; exact he _ x hp, hp⟩
  | n + 1, i, f, x, hi, hp => by
    obtain ⟨y, e, hp'⟩ := hs (lq2 B (f + n + 1)) i x (by omega) hp
    obtain ⟨z, e', hz⟩ := for_iv P hs he n (i + 1) f y (by omega) hp'
    exact ⟨z, by rw [show f + (n + 1) + 1 = (f + n + 1) + 1 from by omega, lq2_s, e, e'], hz⟩
def forS {α : Type} (g : Nat → α → α) : Nat → α → α
  | 0, x => x
  | n + 1, x => g n (forS g n x)
/-- from nought, to a fold -/
theorem for_f {α ρ : Type} {B : (α → Int32 → Option ρ) → α → Int32 → Option ρ} {K : α → Option ρ} {N : Nat} (g : Nat → α → α) (hN : N ≤ 8000) (hs : ∀ (REC : α → Int32 → Option ρ) (i : Nat) (x : α), i < N → B REC x (nI i) = REC (g i x) (nI (i + 1))) (he : ∀ (REC : α → Int32 → Option ρ) (x : α), B REC x (nI N) = K x) (x : α) : lq2 B fu x 0 = K (forS g N x) := by
  obtain ⟨y, e, hy⟩ := for_vi (B := B) (K := K) (N := N) (fun i z => z = forS g i x) (fun REC i z hi hz => ⟨g i z, hs REC i z hi, by rw [hz]; rfl⟩) (fun REC z _ => he REC z) N 0 (8191 - N) x (by omega) rfl
  rw [fu_n hN, nI0, e, hy]
theorem for_r {α ρ : Type} {B : (α → Int32 → Option ρ) → α → Int32 → Option ρ} {K : α → Option ρ} {N : Nat} (P : Nat → α → Prop) (hN : N ≤ 8000) (hs : ∀ (REC : α → Int32 → Option ρ) (i : Nat) (x : α), i < N → P i x → ∃ y, B REC x (nI i) = REC y (nI (i + 1)) ∧ P (i + 1) y) (he : ∀ (REC : α → Int32 → Option ρ) (x : α), P N x → B REC x (nI N) = K x) (x : α) (hp : P 0 x) : ∃ y, lq2 B fu x 0 = K y ∧ P N y := by
  rw [fu_n hN, nI0]
  exact for_vi P hs he N 0 (8191 - N) x (by omega) hp
theorem for_h {α ρ : Type} {B : (Int32 → α → Option ρ) → Int32 → α → Option ρ} {K : α → Option ρ} {N : Nat} (P : Nat → α → Prop) (hN : N ≤ 8000) (hs : ∀ (REC : Int32 → α → Option ρ) (i : Nat) (x : α), i < N → P i x → ∃ y, B REC (nI i) x = REC (nI (i + 1)) y ∧ P (i + 1) y) (he : ∀ (REC : Int32 → α → Option ρ) (x : α), P N x → B REC (nI N) x = K x) (x : α) (hp : P 0 x) : ∃ y, lq2 B fu 0 x = K y ∧ P N y := by
  rw [fu_n hN, nI0]
  exact for_iv P hs he N 0 (8191 - N) x (by omega) hp
theorem b_andz0 : ∀ m : Nat, m < 512 → ∀ d : Nat, d < 9 → decide (nI m &&& nI (2 ^ d) = 0) = !(m.testBit d) := by decide +kernel
theorem b_andz {m d : Nat} (hm : m < 512) (hd : d < 9) : nI m &&& nI (2 ^ d) = 0 ↔ m.testBit d = false := by
  have := b_andz0 m hm d hd
  constructor
  · intro h; rw [decide_eq_true h] at this; simpa using this.symm
  · intro h; rw [h] at this; exact of_decide_eq_true this
theorem nI_a4 (d : Nat) : (4 : Int32) + nI d = nI (4 + d) := nI_add 4 d
theorem nI_a13 (d : Nat) : (13 : Int32) + nI d = nI (13 + d) := nI_add 13 d
theorem nI_a22 (d : Nat) : (22 : Int32) + nI d = nI (22 + d) := nI_add 22 d
theorem nI_a31 (d : Nat) : (31 : Int32) + nI d = nI (31 + d) := nI_add 31 d
theorem ite_some {α : Type} {P : Prop} [Decidable P] {a b : α} : (if P then some a else some b) = some (if P then a else b) := by
  by_cases h : P
  · rw [if_pos h, if_pos h]
  · rw [if_neg h, if_neg h]
