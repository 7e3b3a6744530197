/-- a walk that may end early -/
def forX {α β : Type} (g : Nat → α → α ⊕ β) : Nat → Nat → α → α ⊕ β
  | 0, _, x => .inl x
  | n + 1, i, x => Sum.elim (fun y => forX g n (i + 1) y) Sum.inr (g i x)
theorem forX_eq {α β ρ : Type} {B : (α → Int32 → Option ρ) → α → Int32 → Option ρ} {K : α → Option ρ} {E : β → Option ρ} {N : Nat} (g : Nat → α → α ⊕ β) (hs : ∀ (REC : α → Int32 → Option ρ) (i : Nat) (x : α), i < N → B REC x (nI i) = Sum.elim (fun y => REC y (nI (i + 1))) E (g i x)) (he : ∀ (REC : α → Int32 → Option ρ) (x : α), B REC x (nI N) = K x) : ∀ (n i f : Nat) (x : α), i + n = N → lq2 B (f + n + 1) x (nI i) = Sum.elim K E (forX g n i x)
  | 0, i, f, x, hi => by
    have : i = N := by omega
    subst this
    rw [lq2_s]; exact he _ x
  | n + 1, i, f, x, hi => by
    rw [show f + (n + 1) + 1 = (f + n + 1) + 1 from by omega, lq2_s, hs _ i x (by omega)]
    show _ = Sum.elim K E (Sum.elim (fun y => forX g n (i + 1) y) Sum.inr (g i x))
    cases g i x with
    | inl y => exact forX_eq g hs he n (i + 1) f y (by omega)
    | inr b => rfl
theorem for_x {α β ρ : Type} {B : (α → Int32 → Option ρ) → α → Int32 → Option ρ} {K : α → Option ρ} {E : β → Option ρ} {N : Nat} (g : Nat → α → α ⊕ β) (hN : N ≤ 8000) (hs : ∀ (REC : α → Int32 → Option ρ) (i : Nat) (x : α), i < N → B REC x (nI i) = Sum.elim (fun y => REC y (nI (i + 1))) E (g i x)) (he : ∀ (REC : α → Int32 → Option ρ) (x : α), B REC x (nI N) = K x) (i : Nat) (hi : i ≤ N) (x : α) : lq2 B fu x (nI i) = Sum.elim K E (forX g (N - i) i x) := by
  rw [show fu = (8191 - (N - i)) + (N - i) + 1 from fu_n (by omega)]
  exact forX_eq g hs he (N - i) i _ x (by omega)
theorem forX_congr {α β : Type} {g g' : Nat → α → α ⊕ β} : ∀ (n i : Nat) (x : α), (∀ j y, i ≤ j → j < i + n → g j y = g' j y) → forX g n i x = forX g' n i x
  | 0, _, _, _ => rfl
  | n + 1, i, x, h => by
    show Sum.elim (fun y => forX g n (i + 1) y) Sum.inr (g i x) = Sum.elim (fun y => forX g' n (i + 1) y) Sum.inr (g' i x)
    rw [h i x (by omega) (by omega)]
    cases g' i x with
    | inl y => exact forX_congr n (i + 1) y (fun j y hj hj' => h j y (by omega) (by omega))
    | inr b => rfl
/-- the first index of which P holds -/
def fstX (P : Nat → Bool) : Nat → Nat → Option Nat
  | 0, _ => none
  | n + 1, i => if P i = true then some i else fstX P n (i + 1)
theorem fstX_eq {ρ : Type} {B : (Int32 → Option ρ) → Int32 → Option ρ} {K : Option ρ} {E : Nat → Option ρ} {N : Nat} (P : Nat → Bool) (hs : ∀ (REC : Int32 → Option ρ) (i : Nat), i < N → B REC (nI i) = if P i = true then E i else REC (nI (i + 1))) (he : ∀ (REC : Int32 → Option ρ), B REC (nI N) = K) : ∀ (n i f : Nat), i + n = N → lq1 B (f + n + 1) (nI i) = Option.elim (fstX P n i) K E
  | 0, i, f, hi => by
    have : i = N := by omega
    subst this
    rw [lq1_s]; exact he _
  | n + 1, i, f, hi => by
    rw [show f + (n + 1) + 1 = (f + n + 1) + 1 from by omega, lq1_s, hs _ i (by omega)]
    show _ = Option.elim (if P i = true then some i else fstX P n (i + 1)) K E
    by_cases q : P i = true
    · rw [if_pos q, if_pos q]; rfl
    · rw [if_neg q, if_neg q]; exact fstX_eq P hs he n (i + 1) f (by omega)
theorem for_1 {ρ : Type} {B : (Int32 → Option ρ) → Int32 → Option ρ} {K : Option ρ} {E : Nat → Option ρ} {N : Nat} (P : Nat → Bool) (hN : N ≤ 8000) (hs : ∀ (REC : Int32 → Option ρ) (i : Nat), i < N → B REC (nI i) = if P i = true then E i else REC (nI (i + 1))) (he : ∀ (REC : Int32 → Option ρ), B REC (nI N) = K) (i : Nat) (hi : i ≤ N) : lq1 B fu (nI i) = Option.elim (fstX P (N - i) i) K E := by
  rw [show fu = (8191 - (N - i)) + (N - i) + 1 from fu_n (by omega)]
  exact fstX_eq P hs he (N - i) i _ (by omega)
theorem fstX_congr {P P' : Nat → Bool} : ∀ (n i : Nat), (∀ j, i ≤ j → j < i + n → P j = P' j) → fstX P n i = fstX P' n i
  | 0, _, _ => rfl
  | n + 1, i, h => by
    show (if P i = true then some i else fstX P n (i + 1)) = if P' i = true then some i else fstX P' n (i + 1)
    rw [h i (by omega) (by omega), fstX_congr n (i + 1) (fun j hj hj' => h j (by omega) (by omega))]
theorem fstX_none {P : Nat → Bool} : ∀ (n i : Nat), (fstX P n i = none ↔ ∀ j, i ≤ j → j < i + n → P j = false)
  | 0, i => ⟨fun _ j hj hj' => absurd hj' (by omega), fun _ => rfl⟩
  | n + 1, i => by
    show (if P i = true then some i else fstX P n (i + 1)) = none ↔ _
    by_cases q : P i = true
    · rw [if_pos q]
      exact ⟨fun h => absurd h (by simp), fun h => by have := h i (by omega) (by omega); rw [q] at this; exact absurd this (by decide)⟩
    · rw [if_neg q, fstX_none n (i + 1)]
      constructor
      · intro h j hj hj'
        by_cases e : j = i
        · subst e; simpa using q
        · exact h j (by omega) (by omega)
      · intro h j hj hj'; exact h j (by omega) (by omega)
theorem fstX_some {P : Nat → Bool} : ∀ (n i k : Nat), fstX P n i = some k → i ≤ k ∧ k < i + n ∧ P k = true ∧ ∀ j, i ≤ j → j < k → P j = false
  | 0, i, k, h => absurd h (by simp [fstX])
  | n + 1, i, k, h => by
    have h : (if P i = true then some i else fstX P n (i + 1)) = some k := h
    by_cases q : P i = true
    · rw [if_pos q] at h
      have : i = k := by simpa using h
      subst this
      exact ⟨by omega, by omega, q, fun j a b => absurd b (by omega)⟩
    · rw [if_neg q] at h
      obtain ⟨a, b, c, d⟩ := fstX_some n (i + 1) k h
      refine ⟨by omega, by omega, c, fun j hj hj' => ?_⟩
      by_cases e : j = i
      · subst e; simpa using q
      · exact d j (by omega) hj'
/-- whether P holds of one below N, from i on -/
def anyX (P : Nat → Bool) (N i : Nat) : Bool := (fstX P (N - i) i).isSome
theorem anyX_iff {P : Nat → Bool} {N i : Nat} : anyX P N i = true ↔ ∃ j, i ≤ j ∧ j < N ∧ P j = true := by
  unfold anyX
  cases e : fstX P (N - i) i with
  | none =>
    have := (fstX_none (N - i) i).mp e
    constructor
    · intro h; simp at h
    · intro ⟨j, a, b, c⟩; have := this j a (by omega); rw [c] at this; exact absurd this (by decide)
  | some k =>
    obtain ⟨a, b, c, _⟩ := fstX_some _ _ _ e
    exact ⟨fun _ => ⟨k, a, by omega, c⟩, fun _ => rfl⟩
theorem elim_any {ρ : Type} {P : Nat → Bool} {N i : Nat} {K E : Option ρ} : Option.elim (fstX P (N - i) i) K (fun _ => E) = if anyX P N i = true then E else K := by
  unfold anyX
  cases fstX P (N - i) i with
  | none => rfl
  | some k => rfl
theorem for_any {ρ : Type} {B : (Int32 → Option ρ) → Int32 → Option ρ} {K E : Option ρ} {N : Nat} (P : Nat → Bool) (hN : N ≤ 8000) (hs : ∀ (REC : Int32 → Option ρ) (i : Nat), i < N → B REC (nI i) = if P i = true then E else REC (nI (i + 1))) (he : ∀ (REC : Int32 → Option ρ), B REC (nI N) = K) (i : Nat) (hi : i ≤ N) : lq1 B fu (nI i) = if anyX P N i = true then E else K := by
  rw [for_1 (E := fun _ => E) P hN hs he i hi, elim_any]
theorem anyX_congr {P P' : Nat → Bool} {N i : Nat} (h : ∀ j, i ≤ j → j < N → P j = P' j) : anyX P N i = anyX P' N i := by
  unfold anyX
  rw [fstX_congr (N - i) i (fun j a b => h j a (by omega))]
theorem or_add {a i : Nat} (h : a < 2 ^ i) : a ||| 2 ^ i = a + 2 ^ i := by
  have := Nat.two_pow_add_eq_or_of_lt h 1
  rw [Nat.mul_one] at this
  rw [Nat.or_comm, ← this, Nat.add_comm]
theorem mask_step {f : Nat → Bool} {i : Nat} (hi : i < 9) : (if f i = true then nI (maskOf f i) ||| ((1 : Int32) <<< (nI i &&& 31)) else nI (maskOf f i)) = nI (maskOf f (i + 1)) := by
  have l := mask_lt f i
  show _ = nI (maskOf f i + if f i then 2 ^ i else 0)
  by_cases q : f i = true
  · rw [if_pos q, if_pos q, b_shl hi, b_or, or_add l]
  · rw [if_neg q, if_neg q]; rfl
theorem mask_for {f : Nat → Bool} : ∀ {N : Nat}, N ≤ 9 → forS (fun i x => if f i = true then x ||| ((1 : Int32) <<< (nI i &&& 31)) else x) N 0 = nI (maskOf f N)
  | 0, _ => nI_0.symm
  | n + 1, h => by
    show (if f n = true then forS _ n 0 ||| _ else forS _ n 0) = _
    rw [mask_for (N := n) (by omega)]
    exact mask_step (by omega)
theorem mask_up {f : Nat → Bool} {n : Nat} : ∀ (k : Nat), (∀ d, n ≤ d → d < n + k → f d = false) → maskOf f (n + k) = maskOf f n
  | 0, _ => rfl
  | k + 1, h => by
    show maskOf f (n + k) + (if f (n + k) then 2 ^ (n + k) else 0) = _
    rw [mask_up k (fun d a b => h d a (by omega)), h (n + k) (by omega) (by omega)]
    rfl
theorem mask_9 {f : Nat → Bool} {n : Nat} (hn : n ≤ 9) (h : ∀ d, n ≤ d → d < 9 → f d = false) : maskOf f 9 = maskOf f n := by
  have := mask_up (f := f) (n := n) (9 - n) (fun d a b => h d a (by omega))
  rwa [show n + (9 - n) = 9 from by omega] at this
theorem for_any0 {ρ : Type} {B : (Int32 → Option ρ) → Int32 → Option ρ} {K E : Option ρ} {N : Nat} (P : Nat → Bool) (hN : N ≤ 8000) (hs : ∀ (REC : Int32 → Option ρ) (i : Nat), i < N → B REC (nI i) = if P i = true then E else REC (nI (i + 1))) (he : ∀ (REC : Int32 → Option ρ), B REC (nI N) = K) : lq1 B fu 0 = if anyX P N 0 = true then E else K := by
  have := for_any P hN hs he 0 (by omega)
  rwa [nI_0] at this
theorem for_x0 {α β ρ : Type} {B : (α → Int32 → Option ρ) → α → Int32 → Option ρ} {K : α → Option ρ} {E : β → Option ρ} {N : Nat} (g : Nat → α → α ⊕ β) (hN : N ≤ 8000) (hs : ∀ (REC : α → Int32 → Option ρ) (i : Nat) (x : α), i < N → B REC x (nI i) = Sum.elim (fun y => REC y (nI (i + 1))) E (g i x)) (he : ∀ (REC : α → Int32 → Option ρ) (x : α), B REC x (nI N) = K x) (x : α) : lq2 B fu x 0 = Sum.elim K E (forX g N 0 x) := by
  have := for_x g hN hs he 0 (by omega) x
  rwa [nI_0, Nat.sub_zero] at this
