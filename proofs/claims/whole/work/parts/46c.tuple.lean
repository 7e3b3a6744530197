theorem lq2_sw {A ρ : Type} {B : (Int32 → A → Option ρ) → Int32 → A → Option ρ} : ∀ (n : Nat) (i : Int32) (x : A), lq2 B n i x = lq2 (fun REC x i => B (fun i x => REC x i) i x) n x i
  | 0, _, _ => rfl
  | n + 1, i, x => by
    rw [lq2_s, lq2_s]
    have : lq2 B n = fun i x => lq2 (fun REC x i => B (fun i x => REC x i) i x) n x i := funext fun i => funext fun x => lq2_sw n i x
    rw [this]
/-- index last, two ahead -/
theorem lq3_l {A C I ρ : Type} {B : (A → C → I → Option ρ) → A → C → I → Option ρ} : ∀ (n : Nat) (a : A) (c : C) (i : I), lq3 B n a c i = lq2 (fun REC (t : A × C) i => B (fun a c i => REC (a, c) i) t.1 t.2 i) n (a, c) i
  | 0, _, _, _ => rfl
  | n + 1, a, c, i => by
    rw [lq3_s, lq2_s]
    have : lq3 B n = fun a c i => lq2 (fun REC (t : A × C) i => B (fun a c i => REC (a, c) i) t.1 t.2 i) n (a, c) i := funext fun a => funext fun c => funext fun i => lq3_l n a c i
    rw [this]
/-- index in the middle -/
theorem lq3_m {A C I ρ : Type} {B : (A → I → C → Option ρ) → A → I → C → Option ρ} : ∀ (n : Nat) (a : A) (i : I) (c : C), lq3 B n a i c = lq2 (fun REC (t : A × C) i => B (fun a i c => REC (a, c) i) t.1 i t.2) n (a, c) i
  | 0, _, _, _ => rfl
  | n + 1, a, i, c => by
    rw [lq3_s, lq2_s]
    have : lq3 B n = fun a i c => lq2 (fun REC (t : A × C) i => B (fun a i c => REC (a, c) i) t.1 i t.2) n (a, c) i := funext fun a => funext fun i => funext fun c => lq3_m n a i c
    rw [this]
/-- index last, three ahead -/
theorem lq4_l {A C D I ρ : Type} {B : (A → C → D → I → Option ρ) → A → C → D → I → Option ρ} : ∀ (n : Nat) (a : A) (c : C) (d : D) (i : I), lq4 B n a c d i = lq2 (fun REC (t : A × C × D) i => B (fun a c d i => REC (a, c, d) i) t.1 t.2.1 t.2.2 i) n (a, c, d) i
  | 0, _, _, _, _ => rfl
  | n + 1, a, c, d, i => by
    rw [lq4_s, lq2_s]
    have : lq4 B n = fun a c d i => lq2 (fun REC (t : A × C × D) i => B (fun a c d i => REC (a, c, d) i) t.1 t.2.1 t.2.2 i) n (a, c, d) i := funext fun a => funext fun c => funext fun d => funext fun i => lq4_l n a c d i
    rw [this]
theorem lock_i {α β ρ τ : Type} {B : (α → Int32 → Option ρ) → α → Int32 → Option ρ} {B' : (β → Int32 → Option τ) → β → Int32 → Option τ} {K : α → Option ρ} {K' : β → Option τ} {N : Nat} (P : Nat → α → β → Prop) (Q : Option ρ → Option τ → Prop) (hs : ∀ (REC : α → Int32 → Option ρ) (REC' : β → Int32 → Option τ) (i : Nat) (x : α) (y : β), i < N → P i x y → (∃ x' y', B REC x (nI i) = REC x' (nI (i + 1)) ∧ B' REC' y (nI i) = REC' y' (nI (i + 1)) ∧ P (i + 1) x' y') ∨ Q (B REC x (nI i)) (B' REC' y (nI i))) (he : ∀ (REC : α → Int32 → Option ρ) (REC' : β → Int32 → Option τ) (x : α) (y : β), P N x y → B REC x (nI N) = K x ∧ B' REC' y (nI N) = K' y) : ∀ (n i f : Nat) (x : α) (y : β), i + n = N → P i x y → (∃ x' y', lq2 B (f + n + 1) x (nI i) = K x' ∧ lq2 B' (f + n + 1) y (nI i) = K' y' ∧ P N x' y') ∨ Q (lq2 B (f + n + 1) x (nI i)) (lq2 B' (f + n + 1) y (nI i))
  | 0, i, f, x, y, hi, hp => by
    have : i = N := by omega
    subst this
    rw [lq2_s, lq2_s]
    obtain ⟨a, b⟩ := he (lq2 B (f + 0)) (lq2 B' (f + 0)) x y hp
    exact Or.inl ⟨x, y, a, b, hp⟩
  | n + 1, i, f, x, y, hi, hp => by
    rw [show f + (n + 1) + 1 = (f + n + 1) + 1 from by omega, lq2_s, lq2_s]
    rcases hs (lq2 B (f + n + 1)) (lq2 B' (f + n + 1)) i x y (by omega) hp with ⟨x', y', a, b, c⟩ | h
    · rw [a, b]; exact lock_i P Q hs he n (i + 1) f x' y' (by omega) c
    · exact Or.inr h
/-- two walks side by side -/
theorem lock {α β ρ τ : Type} {B : (α → Int32 → Option ρ) → α → Int32 → Option ρ} {B' : (β → Int32 → Option τ) → β → Int32 → Option τ} {K : α → Option ρ} {K' : β → Option τ} {N : Nat} (P : Nat → α → β → Prop) (Q : Option ρ → Option τ → Prop) (hN : N ≤ 8000) (hs : ∀ (REC : α → Int32 → Option ρ) (REC' : β → Int32 → Option τ) (i : Nat) (x : α) (y : β), i < N → P i x y → (∃ x' y', B REC x (nI i) = REC x' (nI (i + 1)) ∧ B' REC' y (nI i) = REC' y' (nI (i + 1)) ∧ P (i + 1) x' y') ∨ Q (B REC x (nI i)) (B' REC' y (nI i))) (he : ∀ (REC : α → Int32 → Option ρ) (REC' : β → Int32 → Option τ) (x : α) (y : β), P N x y → B REC x (nI N) = K x ∧ B' REC' y (nI N) = K' y) (i : Nat) (hi : i ≤ N) (x : α) (y : β) (hp : P i x y) : (∃ x' y', lq2 B fu x (nI i) = K x' ∧ lq2 B' fu y (nI i) = K' y' ∧ P N x' y') ∨ Q (lq2 B fu x (nI i)) (lq2 B' fu y (nI i)) := by
  rw [show fu = (8191 - (N - i)) + (N - i) + 1 from fu_n (by omega)]
  exact lock_i P Q hs he (N - i) i _ x y (by omega) hp
