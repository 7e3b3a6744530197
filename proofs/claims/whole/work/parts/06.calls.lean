/-- two answers by name -/
def bind2 {α β γ : Type} (o : Option (α × β)) (f : α → β → Option γ) : Option γ := o.bind fun t => f t.1 t.2
def jmax (x y : Int32) : Int32 := if x < y then y else x
def jmin (x y : Int32) : Int32 := if y < x then y else x
def lq1 {A1 ρ : Type} (body : (A1 → Option ρ) → A1 → Option ρ) : Nat → A1 → Option ρ
  | 0, _ => none
  | n + 1, a1 => body (lq1 body n) a1
theorem lq1_i {A1 ρ : Type} {body : (A1 → Option ρ) → A1 → Option ρ} {t : ρ} (P : A1 → Prop) (hs : ∀ (rec : A1 → Option ρ) (a1 : A1), (∀ (b1 : A1), rec b1 = some t → P b1) → body rec a1 = some t → P a1) : ∀ (n : Nat) (a1 : A1), lq1 body n a1 = some t → P a1
  | 0, _, h => by cases h
  | n + 1, a1, h => hs (lq1 body n) a1 (fun b1 q => lq1_i P hs n b1 q) h
theorem lq1_s {A1 ρ : Type} {body : (A1 → Option ρ) → A1 → Option ρ} (n : Nat) (a1 : A1) : lq1 body (n + 1) a1 = body (lq1 body n) a1 := rfl
def lq2 {A1 A2 ρ : Type} (body : (A1 → A2 → Option ρ) → A1 → A2 → Option ρ) : Nat → A1 → A2 → Option ρ
  | 0, _, _ => none
  | n + 1, a1, a2 => body (lq2 body n) a1 a2
theorem lq2_i {A1 A2 ρ : Type} {body : (A1 → A2 → Option ρ) → A1 → A2 → Option ρ} {t : ρ} (P : A1 → A2 → Prop) (hs : ∀ (rec : A1 → A2 → Option ρ) (a1 : A1) (a2 : A2), (∀ (b1 : A1) (b2 : A2), rec b1 b2 = some t → P b1 b2) → body rec a1 a2 = some t → P a1 a2) : ∀ (n : Nat) (a1 : A1) (a2 : A2), lq2 body n a1 a2 = some t → P a1 a2
  | 0, _, _, h => by cases h
  | n + 1, a1, a2, h => hs (lq2 body n) a1 a2 (fun b1 b2 q => lq2_i P hs n b1 b2 q) h
theorem lq2_s {A1 A2 ρ : Type} {body : (A1 → A2 → Option ρ) → A1 → A2 → Option ρ} (n : Nat) (a1 : A1) (a2 : A2) : lq2 body (n + 1) a1 a2 = body (lq2 body n) a1 a2 := rfl
def lq3 {A1 A2 A3 ρ : Type} (body : (A1 → A2 → A3 → Option ρ) → A1 → A2 → A3 → Option ρ) : Nat → A1 → A2 → A3 → Option ρ
  | 0, _, _, _ => none
  | n + 1, a1, a2, a3 => body (lq3 body n) a1 a2 a3
theorem lq3_i {A1 A2 A3 ρ : Type} {body : (A1 → A2 → A3 → Option ρ) → A1 → A2 → A3 → Option ρ} {t : ρ} (P : A1 → A2 → A3 → Prop) (hs : ∀ (rec : A1 → A2 → A3 → Option ρ) (a1 : A1) (a2 : A2) (a3 : A3), (∀ (b1 : A1) (b2 : A2) (b3 : A3), rec b1 b2 b3 = some t → P b1 b2 b3) → body rec a1 a2 a3 = some t → P a1 a2 a3) : ∀ (n : Nat) (a1 : A1) (a2 : A2) (a3 : A3), lq3 body n a1 a2 a3 = some t → P a1 a2 a3
  | 0, _, _, _, h => by cases h
  | n + 1, a1, a2, a3, h => hs (lq3 body n) a1 a2 a3 (fun b1 b2 b3 q => lq3_i P hs n b1 b2 b3 q) h
theorem lq3_s {A1 A2 A3 ρ : Type} {body : (A1 → A2 → A3 → Option ρ) → A1 → A2 → A3 → Option ρ} (n : Nat) (a1 : A1) (a2 : A2) (a3 : A3) : lq3 body (n + 1) a1 a2 a3 = body (lq3 body n) a1 a2 a3 := rfl
def lq4 {A1 A2 A3 A4 ρ : Type} (body : (A1 → A2 → A3 → A4 → Option ρ) → A1 → A2 → A3 → A4 → Option ρ) : Nat → A1 → A2 → A3 → A4 → Option ρ
  | 0, _, _, _, _ => none
  | n + 1, a1, a2, a3, a4 => body (lq4 body n) a1 a2 a3 a4
theorem lq4_i {A1 A2 A3 A4 ρ : Type} {body : (A1 → A2 → A3 → A4 → Option ρ) → A1 → A2 → A3 → A4 → Option ρ} {t : ρ} (P : A1 → A2 → A3 → A4 → Prop) (hs : ∀ (rec : A1 → A2 → A3 → A4 → Option ρ) (a1 : A1) (a2 : A2) (a3 : A3) (a4 : A4), (∀ (b1 : A1) (b2 : A2) (b3 : A3) (b4 : A4), rec b1 b2 b3 b4 = some t → P b1 b2 b3 b4) → body rec a1 a2 a3 a4 = some t → P a1 a2 a3 a4) : ∀ (n : Nat) (a1 : A1) (a2 : A2) (a3 : A3) (a4 : A4), lq4 body n a1 a2 a3 a4 = some t → P a1 a2 a3 a4
  | 0, _, _, _, _, h => by cases h
  | n + 1, a1, a2, a3, a4, h => hs (lq4 body n) a1 a2 a3 a4 (fun b1 b2 b3 b4 q => lq4_i P hs n b1 b2 b3 b4 q) h
theorem lq4_s {A1 A2 A3 A4 ρ : Type} {body : (A1 → A2 → A3 → A4 → Option ρ) → A1 → A2 → A3 → A4 → Option ρ} (n : Nat) (a1 : A1) (a2 : A2) (a3 : A3) (a4 : A4) : lq4 body (n + 1) a1 a2 a3 a4 = body (lq4 body n) a1 a2 a3 a4 := rfl
def lq5 {A1 A2 A3 A4 A5 ρ : Type} (body : (A1 → A2 → A3 → A4 → A5 → Option ρ) → A1 → A2 → A3 → A4 → A5 → Option ρ) : Nat → A1 → A2 → A3 → A4 → A5 → Option ρ
  | 0, _, _, _, _, _ => none
  | n + 1, a1, a2, a3, a4, a5 => body (lq5 body n) a1 a2 a3 a4 a5
theorem lq5_i {A1 A2 A3 A4 A5 ρ : Type} {body : (A1 → A2 → A3 → A4 → A5 → Option ρ) → A1 → A2 → A3 → A4 → A5 → Option ρ} {t : ρ} (P : A1 → A2 → A3 → A4 → A5 → Prop) (hs : ∀ (rec : A1 → A2 → A3 → A4 → A5 → Option ρ) (a1 : A1) (a2 : A2) (a3 : A3) (a4 : A4) (a5 : A5), (∀ (b1 : A1) (b2 : A2) (b3 : A3) (b4 : A4) (b5 : A5), rec b1 b2 b3 b4 b5 = some t → P b1 b2 b3 b4 b5) → body rec a1 a2 a3 a4 a5 = some t → P a1 a2 a3 a4 a5) : ∀ (n : Nat) (a1 : A1) (a2 : A2) (a3 : A3) (a4 : A4) (a5 : A5), lq5 body n a1 a2 a3 a4 a5 = some t → P a1 a2 a3 a4 a5
  | 0, _, _, _, _, _, h => by cases h
  | n + 1, a1, a2, a3, a4, a5, h => hs (lq5 body n) a1 a2 a3 a4 a5 (fun b1 b2 b3 b4 b5 q => lq5_i P hs n b1 b2 b3 b4 b5 q) h
theorem lq5_s {A1 A2 A3 A4 A5 ρ : Type} {body : (A1 → A2 → A3 → A4 → A5 → Option ρ) → A1 → A2 → A3 → A4 → A5 → Option ρ} (n : Nat) (a1 : A1) (a2 : A2) (a3 : A3) (a4 : A4) (a5 : A5) : lq5 body (n + 1) a1 a2 a3 a4 a5 = body (lq5 body n) a1 a2 a3 a4 a5 := rfl
def lq6 {A1 A2 A3 A4 A5 A6 ρ : Type} (body : (A1 → A2 → A3 → A4 → A5 → A6 → Option ρ) → A1 → A2 → A3 → A4 → A5 → A6 → Option ρ) : Nat → A1 → A2 → A3 → A4 → A5 → A6 → Option ρ
  | 0, _, _, _, _, _, _ => none
  | n + 1, a1, a2, a3, a4, a5, a6 => body (lq6 body n) a1 a2 a3 a4 a5 a6
theorem lq6_i {A1 A2 A3 A4 A5 A6 ρ : Type} {body : (A1 → A2 → A3 → A4 → A5 → A6 → Option ρ) → A1 → A2 → A3 → A4 → A5 → A6 → Option ρ} {t : ρ} (P : A1 → A2 → A3 → A4 → A5 → A6 → Prop) (hs : ∀ (rec : A1 → A2 → A3 → A4 → A5 → A6 → Option ρ) (a1 : A1) (a2 : A2) (a3 : A3) (a4 : A4) (a5 : A5) (a6 : A6), (∀ (b1 : A1) (b2 : A2) (b3 : A3) (b4 : A4) (b5 : A5) (b6 : A6), rec b1 b2 b3 b4 b5 b6 = some t → P b1 b2 b3 b4 b5 b6) → body rec a1 a2 a3 a4 a5 a6 = some t → P a1 a2 a3 a4 a5 a6) : ∀ (n : Nat) (a1 : A1) (a2 : A2) (a3 : A3) (a4 : A4) (a5 : A5) (a6 : A6), lq6 body n a1 a2 a3 a4 a5 a6 = some t → P a1 a2 a3 a4 a5 a6
  | 0, _, _, _, _, _, _, h => by cases h
  | n + 1, a1, a2, a3, a4, a5, a6, h => hs (lq6 body n) a1 a2 a3 a4 a5 a6 (fun b1 b2 b3 b4 b5 b6 q => lq6_i P hs n b1 b2 b3 b4 b5 b6 q) h
theorem lq6_s {A1 A2 A3 A4 A5 A6 ρ : Type} {body : (A1 → A2 → A3 → A4 → A5 → A6 → Option ρ) → A1 → A2 → A3 → A4 → A5 → A6 → Option ρ} (n : Nat) (a1 : A1) (a2 : A2) (a3 : A3) (a4 : A4) (a5 : A5) (a6 : A6) : lq6 body (n + 1) a1 a2 a3 a4 a5 a6 = body (lq6 body n) a1 a2 a3 a4 a5 a6 := rfl
def lq7 {A1 A2 A3 A4 A5 A6 A7 ρ : Type} (body : (A1 → A2 → A3 → A4 → A5 → A6 → A7 → Option ρ) → A1 → A2 → A3 → A4 → A5 → A6 → A7 → Option ρ) : Nat → A1 → A2 → A3 → A4 → A5 → A6 → A7 → Option ρ
  | 0, _, _, _, _, _, _, _ => none
  | n + 1, a1, a2, a3, a4, a5, a6, a7 => body (lq7 body n) a1 a2 a3 a4 a5 a6 a7
theorem lq7_i {A1 A2 A3 A4 A5 A6 A7 ρ : Type} {body : (A1 → A2 → A3 → A4 → A5 → A6 → A7 → Option ρ) → A1 → A2 → A3 → A4 → A5 → A6 → A7 → Option ρ} {t : ρ} (P : A1 → A2 → A3 → A4 → A5 → A6 → A7 → Prop) (hs : ∀ (rec : A1 → A2 → A3 → A4 → A5 → A6 → A7 → Option ρ) (a1 : A1) (a2 : A2) (a3 : A3) (a4 : A4) (a5 : A5) (a6 : A6) (a7 : A7), (∀ (b1 : A1) (b2 : A2) (b3 : A3) (b4 : A4) (b5 : A5) (b6 : A6) (b7 : A7), rec b1 b2 b3 b4 b5 b6 b7 = some t → P b1 b2 b3 b4 b5 b6 b7) → body rec a1 a2 a3 a4 a5 a6 a7 = some t → P a1 a2 a3 a4 a5 a6 a7) : ∀ (n : Nat) (a1 : A1) (a2 : A2) (a3 : A3) (a4 : A4) (a5 : A5) (a6 : A6) (a7 : A7), lq7 body n a1 a2 a3 a4 a5 a6 a7 = some t → P a1 a2 a3 a4 a5 a6 a7
  | 0, _, _, _, _, _, _, _, h => by cases h
  | n + 1, a1, a2, a3, a4, a5, a6, a7, h => hs (lq7 body n) a1 a2 a3 a4 a5 a6 a7 (fun b1 b2 b3 b4 b5 b6 b7 q => lq7_i P hs n b1 b2 b3 b4 b5 b6 b7 q) h
theorem lq7_s {A1 A2 A3 A4 A5 A6 A7 ρ : Type} {body : (A1 → A2 → A3 → A4 → A5 → A6 → A7 → Option ρ) → A1 → A2 → A3 → A4 → A5 → A6 → A7 → Option ρ} (n : Nat) (a1 : A1) (a2 : A2) (a3 : A3) (a4 : A4) (a5 : A5) (a6 : A6) (a7 : A7) : lq7 body (n + 1) a1 a2 a3 a4 a5 a6 a7 = body (lq7 body n) a1 a2 a3 a4 a5 a6 a7 := rfl
def lq8 {A1 A2 A3 A4 A5 A6 A7 A8 ρ : Type} (body : (A1 → A2 → A3 → A4 → A5 → A6 → A7 → A8 → Option ρ) → A1 → A2 → A3 → A4 → A5 → A6 → A7 → A8 → Option ρ) : Nat → A1 → A2 → A3 → A4 → A5 → A6 → A7 → A8 → Option ρ
  | 0, _, _, _, _, _, _, _, _ => none
  | n + 1, a1, a2, a3, a4, a5, a6, a7, a8 => body (lq8 body n) a1 a2 a3 a4 a5 a6 a7 a8
theorem lq8_i {A1 A2 A3 A4 A5 A6 A7 A8 ρ : Type} {body : (A1 → A2 → A3 → A4 → A5 → A6 → A7 → A8 → Option ρ) → A1 → A2 → A3 → A4 → A5 → A6 → A7 → A8 → Option ρ} {t : ρ} (P : A1 → A2 → A3 → A4 → A5 → A6 → A7 → A8 → Prop) (hs : ∀ (rec : A1 → A2 → A3 → A4 → A5 → A6 → A7 → A8 → Option ρ) (a1 : A1) (a2 : A2) (a3 : A3) (a4 : A4) (a5 : A5) (a6 : A6) (a7 : A7) (a8 : A8), (∀ (b1 : A1) (b2 : A2) (b3 : A3) (b4 : A4) (b5 : A5) (b6 : A6) (b7 : A7) (b8 : A8), rec b1 b2 b3 b4 b5 b6 b7 b8 = some t → P b1 b2 b3 b4 b5 b6 b7 b8) → body rec a1 a2 a3 a4 a5 a6 a7 a8 = some t → P a1 a2 a3 a4 a5 a6 a7 a8) : ∀ (n : Nat) (a1 : A1) (a2 : A2) (a3 : A3) (a4 : A4) (a5 : A5) (a6 : A6) (a7 : A7) (a8 : A8), lq8 body n a1 a2 a3 a4 a5 a6 a7 a8 = some t → P a1 a2 a3 a4 a5 a6 a7 a8
  | 0, _, _, _, _, _, _, _, _, h => by cases h
  | n + 1, a1, a2, a3, a4, a5, a6, a7, a8, h => hs (lq8 body n) a1 a2 a3 a4 a5 a6 a7 a8 (fun b1 b2 b3 b4 b5 b6 b7 b8 q => lq8_i P hs n b1 b2 b3 b4 b5 b6 b7 b8 q) h
theorem lq8_s {A1 A2 A3 A4 A5 A6 A7 A8 ρ : Type} {body : (A1 → A2 → A3 → A4 → A5 → A6 → A7 → A8 → Option ρ) → A1 → A2 → A3 → A4 → A5 → A6 → A7 → A8 → Option ρ} (n : Nat) (a1 : A1) (a2 : A2) (a3 : A3) (a4 : A4) (a5 : A5) (a6 : A6) (a7 : A7) (a8 : A8) : lq8 body (n + 1) a1 a2 a3 a4 a5 a6 a7 a8 = body (lq8 body n) a1 a2 a3 a4 a5 a6 a7 a8 := rfl
def lq9 {A1 A2 A3 A4 A5 A6 A7 A8 A9 ρ : Type} (body : (A1 → A2 → A3 → A4 → A5 → A6 → A7 → A8 → A9 → Option ρ) → A1 → A2 → A3 → A4 → A5 → A6 → A7 → A8 → A9 → Option ρ) : Nat → A1 → A2 → A3 → A4 → A5 → A6 → A7 → A8 → A9 → Option ρ
  | 0, _, _, _, _, _, _, _, _, _ => none
  | n + 1, a1, a2, a3, a4, a5, a6, a7, a8, a9 => body (lq9 body n) a1 a2 a3 a4 a5 a6 a7 a8 a9
theorem lq9_i {A1 A2 A3 A4 A5 A6 A7 A8 A9 ρ : Type} {body : (A1 → A2 → A3 → A4 → A5 → A6 → A7 → A8 → A9 → Option ρ) → A1 → A2 → A3 → A4 → A5 → A6 → A7 → A8 → A9 → Option ρ} {t : ρ} (P : A1 → A2 → A3 → A4 → A5 → A6 → A7 → A8 → A9 → Prop) (hs : ∀ (rec : A1 → A2 → A3 → A4 → A5 → A6 → A7 → A8 → A9 → Option ρ) (a1 : A1) (a2 : A2) (a3 : A3) (a4 : A4) (a5 : A5) (a6 : A6) (a7 : A7) (a8 : A8) (a9 : A9), (∀ (b1 : A1) (b2 : A2) (b3 : A3) (b4 : A4) (b5 : A5) (b6 : A6) (b7 : A7) (b8 : A8) (b9 : A9), rec b1 b2 b3 b4 b5 b6 b7 b8 b9 = some t → P b1 b2 b3 b4 b5 b6 b7 b8 b9) → body rec a1 a2 a3 a4 a5 a6 a7 a8 a9 = some t → P a1 a2 a3 a4 a5 a6 a7 a8 a9) : ∀ (n : Nat) (a1 : A1) (a2 : A2) (a3 : A3) (a4 : A4) (a5 : A5) (a6 : A6) (a7 : A7) (a8 : A8) (a9 : A9), lq9 body n a1 a2 a3 a4 a5 a6 a7 a8 a9 = some t → P a1 a2 a3 a4 a5 a6 a7 a8 a9
  | 0, _, _, _, _, _, _, _, _, _, h => by cases h
  | n + 1, a1, a2, a3, a4, a5, a6, a7, a8, a9, h => hs (lq9 body n) a1 a2 a3 a4 a5 a6 a7 a8 a9 (fun b1 b2 b3 b4 b5 b6 b7 b8 b9 q => lq9_i P hs n b1 b2 b3 b4 b5 b6 b7 b8 b9 q) h
theorem lq9_s {A1 A2 A3 A4 A5 A6 A7 A8 A9 ρ : Type} {body : (A1 → A2 → A3 → A4 → A5 → A6 → A7 → A8 → A9 → Option ρ) → A1 → A2 → A3 → A4 → A5 → A6 → A7 → A8 → A9 → Option ρ} (n : Nat) (a1 : A1) (a2 : A2) (a3 : A3) (a4 : A4) (a5 : A5) (a6 : A6) (a7 : A7) (a8 : A8) (a9 : A9) : lq9 body (n + 1) a1 a2 a3 a4 a5 a6 a7 a8 a9 = body (lq9 body n) a1 a2 a3 a4 a5 a6 a7 a8 a9 := rfl
def lq10 {A1 A2 A3 A4 A5 A6 A7 A8 A9 A10 ρ : Type} (body : (A1 → A2 → A3 → A4 → A5 → A6 → A7 → A8 → A9 → A10 → Option ρ) → A1 → A2 → A3 → A4 → A5 → A6 → A7 → A8 → A9 → A10 → Option ρ) : Nat → A1 → A2 → A3 → A4 → A5 → A6 → A7 → A8 → A9 → A10 → Option ρ
  | 0, _, _, _, _, _, _, _, _, _, _ => none
  | n + 1, a1, a2, a3, a4, a5, a6, a7, a8, a9, a10 => body (lq10 body n) a1 a2 a3 a4 a5 a6 a7 a8 a9 a10
theorem lq10_i {A1 A2 A3 A4 A5 A6 A7 A8 A9 A10 ρ : Type} {body : (A1 → A2 → A3 → A4 → A5 → A6 → A7 → A8 → A9 → A10 → Option ρ) → A1 → A2 → A3 → A4 → A5 → A6 → A7 → A8 → A9 → A10 → Option ρ} {t : ρ} (P : A1 → A2 → A3 → A4 → A5 → A6 → A7 → A8 → A9 → A10 → Prop) (hs : ∀ (rec : A1 → A2 → A3 → A4 → A5 → A6 → A7 → A8 → A9 → A10 → Option ρ) (a1 : A1) (a2 : A2) (a3 : A3) (a4 : A4) (a5 : A5) (a6 : A6) (a7 : A7) (a8 : A8) (a9 : A9) (a10 : A10), (∀ (b1 : A1) (b2 : A2) (b3 : A3) (b4 : A4) (b5 : A5) (b6 : A6) (b7 : A7) (b8 : A8) (b9 : A9) (b10 : A10), rec b1 b2 b3 b4 b5 b6 b7 b8 b9 b10 = some t → P b1 b2 b3 b4 b5 b6 b7 b8 b9 b10) → body rec a1 a2 a3 a4 a5 a6 a7 a8 a9 a10 = some t → P a1 a2 a3 a4 a5 a6 a7 a8 a9 a10) : ∀ (n : Nat) (a1 : A1) (a2 : A2) (a3 : A3) (a4 : A4) (a5 : A5) (a6 : A6) (a7 : A7) (a8 : A8) (a9 : A9) (a10 : A10), lq10 body n a1 a2 a3 a4 a5 a6 a7 a8 a9 a10 = some t → P a1 a2 a3 a4 a5 a6 a7 a8 a9 a10
  | 0, _, _, _, _, _, _, _, _, _, _, h => by cases h
  | n + 1, a1, a2, a3, a4, a5, a6, a7, a8, a9, a10, h => hs (lq10 body n) a1 a2 a3 a4 a5 a6 a7 a8 a9 a10 (fun b1 b2 b3 b4 b5 b6 b7 b8 b9 b10 q => lq10_i P hs n b1 b2 b3 b4 b5 b6 b7 b8 b9 b10 q) h
theorem lq10_s {A1 A2 A3 A4 A5 A6 A7 A8 A9 A10 ρ : Type} {body : (A1 → A2 → A3 → A4 → A5 → A6 → A7 → A8 → A9 → A10 → Option ρ) → A1 → A2 → A3 → A4 → A5 → A6 → A7 → A8 → A9 → A10 → Option ρ} (n : Nat) (a1 : A1) (a2 : A2) (a3 : A3) (a4 : A4) (a5 : A5) (a6 : A6) (a7 : A7) (a8 : A8) (a9 : A9) (a10 : A10) : lq10 body (n + 1) a1 a2 a3 a4 a5 a6 a7 a8 a9 a10 = body (lq10 body n) a1 a2 a3 a4 a5 a6 a7 a8 a9 a10 := rfl
def fu : Nat := 8192
theorem fu_ge {n : Nat} (h : n ≤ 8000) : ∃ k, fu = k + n ∧ 192 ≤ k := ⟨fu - n, by show 8192 = 8192 - n + n; omega, by show 192 ≤ 8192 - n; omega⟩
section XC
variable {p : Program} {l : Launch} {e : Env} {R : Room} {s : State} {m : MethodId} {args : Array Value} {below : List Frame} {meth : Method} {c : Code} {H : Heap} {locs : List Loc} {Q : State → Prop}
variable {cc : ByteArray} {nL pc : Nat} {own : String} {ls : Array Slot} {rest : List Value} {D : va_G} {G : GG} {A : Nat → Prop} {H0 : Heap} {ad : Nat → Nat} {lay : List KK} {X : va_W} {h : PH} {α : Type} {r0 : α}
theorem x_cond {b : Bool} {B : Option α} (hf : (if b = true then B else none) = some r0) : b = true ∧ B = some r0 := by
  by_cases q : b = true
  · rw [if_pos q] at hf; exact ⟨q, hf⟩
  · rw [if_neg q] at hf; cases hf
theorem x_nmr {a : Nat} {B : Nat → Option α} (hf : nm a B = some r0) (kk : ∀ q : Nat, B q = some r0 → W p l e R s m args below meth c H locs 0 0 Q (F0 m pc ls (.ref (ad q) :: rest))) : W p l e R s m args below meth c H locs 0 0 Q (F0 m pc ls (.ref (ad a) :: rest)) := kk a hf
theorem x_nml {x : Int64} {B : Int64 → Option α} (hf : nm x B = some r0) (kk : ∀ v : Int64, B v = some r0 → W p l e R s m args below meth c H locs 0 0 Q (F0 m pc ls (.long v :: rest))) : W p l e R s m args below meth c H locs 0 0 Q (F0 m pc ls (.long x :: rest)) := kk x hf
theorem x_nmi2 {x : Int32} {v1 : Value} {B : Int32 → Option α} (hf : nm x B = some r0) (kk : ∀ v : Int32, B v = some r0 → W p l e R s m args below meth c H locs 0 0 Q (F0 m pc ls (v1 :: .int v :: rest))) : W p l e R s m args below meth c H locs 0 0 Q (F0 m pc ls (v1 :: .int x :: rest)) := kk x hf
theorem x_iremK (hM : CallFix p m c cc nL s args lw_g own) {x y : Int32} (hy : ¬ y = 0) (hdg : decode cc pc = .ok (.irem, 1)) (kk : W p l e R s m args below meth c H locs 0 0 Q (F0 m (pc + 1) ls (.int (jrem x y) :: rest))) : W p l e R s m args below meth c H locs 0 0 Q (F0 m pc ls (.int y :: .int x :: rest)) := lv_irem hM.1 hM.2.1 hdg hy kk
theorem x_iushr (hM : CallFix p m c cc nL s args lw_g own) {x y : Int32} (hdg : decode cc pc = .ok (.iushr, 1)) (kk : W p l e R s m args below meth c H locs 0 0 Q (F0 m (pc + 1) ls (.int (jushr x y) :: rest))) : W p l e R s m args below meth c H locs 0 0 Q (F0 m pc ls (.int y :: .int x :: rest)) := lv_iushr hM.1 hM.2.1 hdg rfl kk
/-- a jump in a table: x is the k-th number of it -/
theorem x_tabIn (hM : CallFix p m c cc nL s args lw_g own) {dflt lo hi : Int} {offs : Array Int} {len : Nat} {x v : Int32} {off : Int} {tgt : Nat} (hx : x = v) (hdg : decode cc pc = .ok (.tableswitch dflt lo hi offs, len)) (h1 : ¬ v.toInt < lo) (h2 : ¬ hi < v.toInt) (ho : offs[(v.toInt - lo).toNat]? = some off) (ht : (pc : Int) + off = (tgt : Int))
    (k : W p l e R s m args below meth c H locs 0 0 Q (F0 m tgt ls rest)) : W p l e R s m args below meth c H locs 0 0 Q (F0 m pc ls (.int x :: rest)) := by
  subst hx
  exact lv_tableIn hM.1 hM.2.1 hdg h1 h2 ho ht k
theorem x_sw {x v : Int32} {B1 B2 : Option α} {T : Prop} (hf : (if x = v then B1 else B2) = some r0) (k1 : x = v → B1 = some r0 → T) (k2 : x.toInt ≠ v.toInt → B2 = some r0 → T) : T := by
  by_cases q : x = v
  · rw [if_pos q] at hf; exact k1 q hf
  · rw [if_neg q] at hf; exact k2 (fun z => q (Int32.toInt_inj.mp z)) hf
theorem wd_free (hw : Wd D G A H0 ad lay X h s H locs) : ∀ q, va_A (encA ad G h 0 lay ++ X) H.size q → A q := by
  intro q hq
  rcases hq with ⟨k, e, hk⟩ | hq
  · exact hw.2.2.1.2 k (q, e) hk
  · exact hw.2.2.2.2 q (Nat.le_trans hw.2.2.2.1.1 hq)
theorem wd_back (hw : Wd D G A H0 ad lay X h s H locs) {h' : PH} {t : State} {H1 : Heap} {locs1 : List Loc} (ht : t.heap = H1) (hvm : s.vm.Alike t.vm) (hB : Bw D G ad lay X H.size h h' t) (hS : va_S A H0 H1 locs1) : Wd D G A H0 ad lay X h' s H1 locs1 := by
  obtain ⟨hP1, hK1, hD1⟩ := hB
  rw [ht] at hP1
  exact ⟨va_K.moved hvm.symm hK1, hP1, hD1.weaken (fun k q _ hq => wd_free hw q.1 hq), hS, hw.2.2.2.2⟩
theorem wd_pre (hw : Wd D G A H0 ad lay X h s H locs) {as : List Value} {v : Array Value} (hv : v = as.toArray) : ∀ U : State, U.heap = H → s.WarmedH U.vm → va_Pc as (Pw D G ad lay X h H.size) v U := fun U hU hW => ⟨hv, by rw [hU], by rw [hU]; exact hw.2.1, va_K.moved hW.alike hw.1, hw.2.2.1.weaken (fun _ _ _ _ => trivial)⟩
theorem x_callVI (hM : CallFix p m c cc nL s args lw_g own) (hw : Wd D G A H0 ad lay X h s H locs) {y : MethodName} {b : ByteArray} {n' fr lo na idx : Nat} {ret : Option FieldType} {F : PH → Option (Int32 × PH)} {as : (Nat → Nat) → List Value} (hC : CtI l y b n' ret fr lo lay F as) (As : List Value) {Cn : String} {Tn : u_T} {Nn ci q0 : Nat} {Kc : KK} {fs : List Value} (hrecv : lay[q0]? = some Kc) (hfs : Kc ad G (h.1 q0) (h.2.1 q0) (h.2.2 q0) q0 = .inr (ci, fs)) (hc : vwCl[ci]? = some (Cn, Tn, Nn)) (has : as ad = .ref (ad q0) :: As) (hg : GoodIn lw_g (wsV own idx Cn y (.code y b n' ret :: lw_g))) (hd : y.cls = Cn ∧ y.cls ≠ "java/lang/invoke/MethodHandle" ∧ y.cls ≠ "java/lang/invoke/VarHandle" ∧ (parseMethodDescriptor y.desc).map (fun d => d.parameters.length) = some na) (hlen : As.length = na) (hR : fr + 1 ≤ R.frames ∧ 8 + (n' + 11) + lo ≤ R.locals) {st : List Value} (hst : st = As.reverse ++ .ref (ad q0) :: rest) (hroom : (rest.map fun v => v.category).sum ≤ 8) (hl : ls.size = nL) {Kf : Int32 → PH → Option α} (hf : bind2 (F h) Kf = some r0) (hdg : decode cc pc = .ok (.invokevirtual idx, 3)) (kk : ∀ (v : Int32) (h' : PH) (H1 : Heap) (locs1 : List Loc), Kf v h' = some r0 → Wd D G A H0 ad lay X h' s H1 locs1 → W p l e R s m args below meth c H1 locs1 0 0 Q (F0 m (pc + 3) ls (.int v :: rest))) : W p l e R s m args below meth c H locs 0 0 Q (F0 m pc ls st) := by
  obtain ⟨t, hF, hK⟩ := x_bind hf
  subst hst
  refine va_calli (va_runV (As := As) (rest := rest) (cells := 0) (slots := 0) (mc := 0) (ms := 0) hM (hC D G ad X h t H.size hF) (cwV na hM.2.2.2.2 hg rfl rfl rfl hd hR) ⟨pw_blind, va_recv hw.1 hw.2.1 hc (enc_at hrecv hfs), wd_pre hw (by rw [has])⟩ rfl hlen hl rfl (lv_room hroom) hdg ⟨Nat.zero_le _, Nat.zero_le _⟩) hw.2.2.2.1 (fun q _ hq => wd_free hw q hq) (wd_free hw) (fun r u t1 H1 locs1 ht hvm hq hB hz1 hk1 hS => ?_)
  have hq : (r, u) = t := hq
  subst hq
  exact kk r u H1 locs1 hK (wd_back hw ht hvm hB hS)
theorem x_callVIr (hM : CallFix p m c cc nL s args lw_g own) (hw : Wd D G A H0 ad lay X h s H locs) {y : MethodName} {b : ByteArray} {n' fr lo na idx : Nat} {ret : Option FieldType} {F : PH → Option Int32} {as : (Nat → Nat) → List Value} (hC : CtI l y b n' ret fr lo lay (rd F) as) (As : List Value) {Cn : String} {Tn : u_T} {Nn ci q0 : Nat} {Kc : KK} {fs : List Value} (hrecv : lay[q0]? = some Kc) (hfs : Kc ad G (h.1 q0) (h.2.1 q0) (h.2.2 q0) q0 = .inr (ci, fs)) (hc : vwCl[ci]? = some (Cn, Tn, Nn)) (has : as ad = .ref (ad q0) :: As) (hg : GoodIn lw_g (wsV own idx Cn y (.code y b n' ret :: lw_g))) (hd : y.cls = Cn ∧ y.cls ≠ "java/lang/invoke/MethodHandle" ∧ y.cls ≠ "java/lang/invoke/VarHandle" ∧ (parseMethodDescriptor y.desc).map (fun d => d.parameters.length) = some na) (hlen : As.length = na) (hR : fr + 1 ≤ R.frames ∧ 8 + (n' + 11) + lo ≤ R.locals) {st : List Value} (hst : st = As.reverse ++ .ref (ad q0) :: rest) (hroom : (rest.map fun v => v.category).sum ≤ 8) (hl : ls.size = nL) {Kf : Int32 → Option α} (hf : (F h).bind Kf = some r0) (hdg : decode cc pc = .ok (.invokevirtual idx, 3)) (kk : ∀ (v : Int32) (H1 : Heap) (locs1 : List Loc), Kf v = some r0 → Wd D G A H0 ad lay X h s H1 locs1 → W p l e R s m args below meth c H1 locs1 0 0 Q (F0 m (pc + 3) ls (.int v :: rest))) : W p l e R s m args below meth c H locs 0 0 Q (F0 m pc ls st) := by
  obtain ⟨t, hF, hK⟩ := x_bind hf
  have hF' : rd F h = some (t, h) := by simp [rd, hF]
  subst hst
  refine va_calli (va_runV (As := As) (rest := rest) (cells := 0) (slots := 0) (mc := 0) (ms := 0) hM (hC D G ad X h (t, h) H.size hF') (cwV na hM.2.2.2.2 hg rfl rfl rfl hd hR) ⟨pw_blind, va_recv hw.1 hw.2.1 hc (enc_at hrecv hfs), wd_pre hw (by rw [has])⟩ rfl hlen hl rfl (lv_room hroom) hdg ⟨Nat.zero_le _, Nat.zero_le _⟩) hw.2.2.2.1 (fun q _ hq => wd_free hw q hq) (wd_free hw) (fun r u t1 H1 locs1 ht hvm hq hB hz1 hk1 hS => ?_)
  have hq : (r, u) = (t, h) := hq
  cases hq
  exact kk t H1 locs1 hK (wd_back hw ht hvm hB hS)
theorem x_callSI (hM : CallFix p m c cc nL s args lw_g own) (hw : Wd D G A H0 ad lay X h s H locs) {y : MethodName} {b : ByteArray} {n' fr lo na idx : Nat} {ret : Option FieldType} {F : PH → Option (Int32 × PH)} {as : (Nat → Nat) → List Value} (hC : CtI l y b n' ret fr lo lay F as) (As : List Value) (has : as ad = As) (hg : GoodIn lw_g (va_wsS own idx y (.code y b n' ret :: lw_g))) (hd : y.cls ≠ "java/lang/invoke/MethodHandle" ∧ y.cls ≠ "java/lang/invoke/VarHandle" ∧ (parseMethodDescriptor y.desc).map (fun d => d.parameters.length) = some na) (hlen : As.length = na) (hR : fr + 1 ≤ R.frames ∧ 8 + (n' + 11) + lo ≤ R.locals) {st : List Value} (hst : st = As.reverse ++ rest) (hroom : (rest.map fun v => v.category).sum ≤ 8) (hl : ls.size = nL) {Kf : Int32 → PH → Option α} (hf : bind2 (F h) Kf = some r0) (hdg : decode cc pc = .ok (.invokestatic idx, 3)) (kk : ∀ (v : Int32) (h' : PH) (H1 : Heap) (locs1 : List Loc), Kf v h' = some r0 → Wd D G A H0 ad lay X h' s H1 locs1 → W p l e R s m args below meth c H1 locs1 0 0 Q (F0 m (pc + 3) ls (.int v :: rest))) : W p l e R s m args below meth c H locs 0 0 Q (F0 m pc ls st) := by
  obtain ⟨t, hF, hK⟩ := x_bind hf
  subst hst
  refine va_calli (va_runS (As := As) (rest := rest) (cells := 0) (slots := 0) (mc := 0) (ms := 0) hM (hC D G ad X h t H.size hF) (va_cwS na hM.2.2.2.2 hg rfl rfl rfl hd hR) ⟨pw_blind, wd_pre hw (by rw [has])⟩ rfl hlen hl rfl (lv_room hroom) hdg ⟨Nat.zero_le _, Nat.zero_le _⟩) hw.2.2.2.1 (fun q _ hq => wd_free hw q hq) (wd_free hw) (fun r u t1 H1 locs1 ht hvm hq hB hz1 hk1 hS => ?_)
  have hq : (r, u) = t := hq
  subst hq
  exact kk r u H1 locs1 hK (wd_back hw ht hvm hB hS)
theorem x_callSIr (hM : CallFix p m c cc nL s args lw_g own) (hw : Wd D G A H0 ad lay X h s H locs) {y : MethodName} {b : ByteArray} {n' fr lo na idx : Nat} {ret : Option FieldType} {F : PH → Option Int32} {as : (Nat → Nat) → List Value} (hC : CtI l y b n' ret fr lo lay (rd F) as) (As : List Value) (has : as ad = As) (hg : GoodIn lw_g (va_wsS own idx y (.code y b n' ret :: lw_g))) (hd : y.cls ≠ "java/lang/invoke/MethodHandle" ∧ y.cls ≠ "java/lang/invoke/VarHandle" ∧ (parseMethodDescriptor y.desc).map (fun d => d.parameters.length) = some na) (hlen : As.length = na) (hR : fr + 1 ≤ R.frames ∧ 8 + (n' + 11) + lo ≤ R.locals) {st : List Value} (hst : st = As.reverse ++ rest) (hroom : (rest.map fun v => v.category).sum ≤ 8) (hl : ls.size = nL) {Kf : Int32 → Option α} (hf : (F h).bind Kf = some r0) (hdg : decode cc pc = .ok (.invokestatic idx, 3)) (kk : ∀ (v : Int32) (H1 : Heap) (locs1 : List Loc), Kf v = some r0 → Wd D G A H0 ad lay X h s H1 locs1 → W p l e R s m args below meth c H1 locs1 0 0 Q (F0 m (pc + 3) ls (.int v :: rest))) : W p l e R s m args below meth c H locs 0 0 Q (F0 m pc ls st) := by
  obtain ⟨t, hF, hK⟩ := x_bind hf
  have hF' : rd F h = some (t, h) := by simp [rd, hF]
  subst hst
  refine va_calli (va_runS (As := As) (rest := rest) (cells := 0) (slots := 0) (mc := 0) (ms := 0) hM (hC D G ad X h (t, h) H.size hF') (va_cwS na hM.2.2.2.2 hg rfl rfl rfl hd hR) ⟨pw_blind, wd_pre hw (by rw [has])⟩ rfl hlen hl rfl (lv_room hroom) hdg ⟨Nat.zero_le _, Nat.zero_le _⟩) hw.2.2.2.1 (fun q _ hq => wd_free hw q hq) (wd_free hw) (fun r u t1 H1 locs1 ht hvm hq hB hz1 hk1 hS => ?_)
  have hq : (r, u) = (t, h) := hq
  cases hq
  exact kk t H1 locs1 hK (wd_back hw ht hvm hB hS)
theorem x_callVL (hM : CallFix p m c cc nL s args lw_g own) (hw : Wd D G A H0 ad lay X h s H locs) {y : MethodName} {b : ByteArray} {n' fr lo na idx : Nat} {ret : Option FieldType} {F : PH → Option (Int64 × PH)} {as : (Nat → Nat) → List Value} (hC : CtL l y b n' ret fr lo lay F as) (As : List Value) {Cn : String} {Tn : u_T} {Nn ci q0 : Nat} {Kc : KK} {fs : List Value} (hrecv : lay[q0]? = some Kc) (hfs : Kc ad G (h.1 q0) (h.2.1 q0) (h.2.2 q0) q0 = .inr (ci, fs)) (hc : vwCl[ci]? = some (Cn, Tn, Nn)) (has : as ad = .ref (ad q0) :: As) (hg : GoodIn lw_g (wsV own idx Cn y (.code y b n' ret :: lw_g))) (hd : y.cls = Cn ∧ y.cls ≠ "java/lang/invoke/MethodHandle" ∧ y.cls ≠ "java/lang/invoke/VarHandle" ∧ (parseMethodDescriptor y.desc).map (fun d => d.parameters.length) = some na) (hlen : As.length = na) (hR : fr + 1 ≤ R.frames ∧ 8 + (n' + 11) + lo ≤ R.locals) {st : List Value} (hst : st = As.reverse ++ .ref (ad q0) :: rest) (hroom : (rest.map fun v => v.category).sum ≤ 8) (hl : ls.size = nL) {Kf : Int64 → PH → Option α} (hf : bind2 (F h) Kf = some r0) (hdg : decode cc pc = .ok (.invokevirtual idx, 3)) (kk : ∀ (v : Int64) (h' : PH) (H1 : Heap) (locs1 : List Loc), Kf v h' = some r0 → Wd D G A H0 ad lay X h' s H1 locs1 → W p l e R s m args below meth c H1 locs1 0 0 Q (F0 m (pc + 3) ls (.long v :: rest))) : W p l e R s m args below meth c H locs 0 0 Q (F0 m pc ls st) := by
  obtain ⟨t, hF, hK⟩ := x_bind hf
  subst hst
  refine va_calll (va_runV (As := As) (rest := rest) (cells := 0) (slots := 0) (mc := 0) (ms := 0) hM (hC D G ad X h t H.size hF) (cwV na hM.2.2.2.2 hg rfl rfl rfl hd hR) ⟨pw_blind, va_recv hw.1 hw.2.1 hc (enc_at hrecv hfs), wd_pre hw (by rw [has])⟩ rfl hlen hl rfl (lv_room hroom) hdg ⟨Nat.zero_le _, Nat.zero_le _⟩) hw.2.2.2.1 (fun q _ hq => wd_free hw q hq) (wd_free hw) (fun r u t1 H1 locs1 ht hvm hq hB hz1 hk1 hS => ?_)
  have hq : (r, u) = t := hq
  subst hq
  exact kk r u H1 locs1 hK (wd_back hw ht hvm hB hS)
theorem x_callVLr (hM : CallFix p m c cc nL s args lw_g own) (hw : Wd D G A H0 ad lay X h s H locs) {y : MethodName} {b : ByteArray} {n' fr lo na idx : Nat} {ret : Option FieldType} {F : PH → Option Int64} {as : (Nat → Nat) → List Value} (hC : CtL l y b n' ret fr lo lay (rd F) as) (As : List Value) {Cn : String} {Tn : u_T} {Nn ci q0 : Nat} {Kc : KK} {fs : List Value} (hrecv : lay[q0]? = some Kc) (hfs : Kc ad G (h.1 q0) (h.2.1 q0) (h.2.2 q0) q0 = .inr (ci, fs)) (hc : vwCl[ci]? = some (Cn, Tn, Nn)) (has : as ad = .ref (ad q0) :: As) (hg : GoodIn lw_g (wsV own idx Cn y (.code y b n' ret :: lw_g))) (hd : y.cls = Cn ∧ y.cls ≠ "java/lang/invoke/MethodHandle" ∧ y.cls ≠ "java/lang/invoke/VarHandle" ∧ (parseMethodDescriptor y.desc).map (fun d => d.parameters.length) = some na) (hlen : As.length = na) (hR : fr + 1 ≤ R.frames ∧ 8 + (n' + 11) + lo ≤ R.locals) {st : List Value} (hst : st = As.reverse ++ .ref (ad q0) :: rest) (hroom : (rest.map fun v => v.category).sum ≤ 8) (hl : ls.size = nL) {Kf : Int64 → Option α} (hf : (F h).bind Kf = some r0) (hdg : decode cc pc = .ok (.invokevirtual idx, 3)) (kk : ∀ (v : Int64) (H1 : Heap) (locs1 : List Loc), Kf v = some r0 → Wd D G A H0 ad lay X h s H1 locs1 → W p l e R s m args below meth c H1 locs1 0 0 Q (F0 m (pc + 3) ls (.long v :: rest))) : W p l e R s m args below meth c H locs 0 0 Q (F0 m pc ls st) := by
  obtain ⟨t, hF, hK⟩ := x_bind hf
  have hF' : rd F h = some (t, h) := by simp [rd, hF]
  subst hst
  refine va_calll (va_runV (As := As) (rest := rest) (cells := 0) (slots := 0) (mc := 0) (ms := 0) hM (hC D G ad X h (t, h) H.size hF') (cwV na hM.2.2.2.2 hg rfl rfl rfl hd hR) ⟨pw_blind, va_recv hw.1 hw.2.1 hc (enc_at hrecv hfs), wd_pre hw (by rw [has])⟩ rfl hlen hl rfl (lv_room hroom) hdg ⟨Nat.zero_le _, Nat.zero_le _⟩) hw.2.2.2.1 (fun q _ hq => wd_free hw q hq) (wd_free hw) (fun r u t1 H1 locs1 ht hvm hq hB hz1 hk1 hS => ?_)
  have hq : (r, u) = (t, h) := hq
  cases hq
  exact kk t H1 locs1 hK (wd_back hw ht hvm hB hS)
theorem x_callSL (hM : CallFix p m c cc nL s args lw_g own) (hw : Wd D G A H0 ad lay X h s H locs) {y : MethodName} {b : ByteArray} {n' fr lo na idx : Nat} {ret : Option FieldType} {F : PH → Option (Int64 × PH)} {as : (Nat → Nat) → List Value} (hC : CtL l y b n' ret fr lo lay F as) (As : List Value) (has : as ad = As) (hg : GoodIn lw_g (va_wsS own idx y (.code y b n' ret :: lw_g))) (hd : y.cls ≠ "java/lang/invoke/MethodHandle" ∧ y.cls ≠ "java/lang/invoke/VarHandle" ∧ (parseMethodDescriptor y.desc).map (fun d => d.parameters.length) = some na) (hlen : As.length = na) (hR : fr + 1 ≤ R.frames ∧ 8 + (n' + 11) + lo ≤ R.locals) {st : List Value} (hst : st = As.reverse ++ rest) (hroom : (rest.map fun v => v.category).sum ≤ 8) (hl : ls.size = nL) {Kf : Int64 → PH → Option α} (hf : bind2 (F h) Kf = some r0) (hdg : decode cc pc = .ok (.invokestatic idx, 3)) (kk : ∀ (v : Int64) (h' : PH) (H1 : Heap) (locs1 : List Loc), Kf v h' = some r0 → Wd D G A H0 ad lay X h' s H1 locs1 → W p l e R s m args below meth c H1 locs1 0 0 Q (F0 m (pc + 3) ls (.long v :: rest))) : W p l e R s m args below meth c H locs 0 0 Q (F0 m pc ls st) := by
  obtain ⟨t, hF, hK⟩ := x_bind hf
  subst hst
  refine va_calll (va_runS (As := As) (rest := rest) (cells := 0) (slots := 0) (mc := 0) (ms := 0) hM (hC D G ad X h t H.size hF) (va_cwS na hM.2.2.2.2 hg rfl rfl rfl hd hR) ⟨pw_blind, wd_pre hw (by rw [has])⟩ rfl hlen hl rfl (lv_room hroom) hdg ⟨Nat.zero_le _, Nat.zero_le _⟩) hw.2.2.2.1 (fun q _ hq => wd_free hw q hq) (wd_free hw) (fun r u t1 H1 locs1 ht hvm hq hB hz1 hk1 hS => ?_)
  have hq : (r, u) = t := hq
  subst hq
  exact kk r u H1 locs1 hK (wd_back hw ht hvm hB hS)
theorem x_callSLr (hM : CallFix p m c cc nL s args lw_g own) (hw : Wd D G A H0 ad lay X h s H locs) {y : MethodName} {b : ByteArray} {n' fr lo na idx : Nat} {ret : Option FieldType} {F : PH → Option Int64} {as : (Nat → Nat) → List Value} (hC : CtL l y b n' ret fr lo lay (rd F) as) (As : List Value) (has : as ad = As) (hg : GoodIn lw_g (va_wsS own idx y (.code y b n' ret :: lw_g))) (hd : y.cls ≠ "java/lang/invoke/MethodHandle" ∧ y.cls ≠ "java/lang/invoke/VarHandle" ∧ (parseMethodDescriptor y.desc).map (fun d => d.parameters.length) = some na) (hlen : As.length = na) (hR : fr + 1 ≤ R.frames ∧ 8 + (n' + 11) + lo ≤ R.locals) {st : List Value} (hst : st = As.reverse ++ rest) (hroom : (rest.map fun v => v.category).sum ≤ 8) (hl : ls.size = nL) {Kf : Int64 → Option α} (hf : (F h).bind Kf = some r0) (hdg : decode cc pc = .ok (.invokestatic idx, 3)) (kk : ∀ (v : Int64) (H1 : Heap) (locs1 : List Loc), Kf v = some r0 → Wd D G A H0 ad lay X h s H1 locs1 → W p l e R s m args below meth c H1 locs1 0 0 Q (F0 m (pc + 3) ls (.long v :: rest))) : W p l e R s m args below meth c H locs 0 0 Q (F0 m pc ls st) := by
  obtain ⟨t, hF, hK⟩ := x_bind hf
  have hF' : rd F h = some (t, h) := by simp [rd, hF]
  subst hst
  refine va_calll (va_runS (As := As) (rest := rest) (cells := 0) (slots := 0) (mc := 0) (ms := 0) hM (hC D G ad X h (t, h) H.size hF') (va_cwS na hM.2.2.2.2 hg rfl rfl rfl hd hR) ⟨pw_blind, wd_pre hw (by rw [has])⟩ rfl hlen hl rfl (lv_room hroom) hdg ⟨Nat.zero_le _, Nat.zero_le _⟩) hw.2.2.2.1 (fun q _ hq => wd_free hw q hq) (wd_free hw) (fun r u t1 H1 locs1 ht hvm hq hB hz1 hk1 hS => ?_)
  have hq : (r, u) = (t, h) := hq
  cases hq
  exact kk t H1 locs1 hK (wd_back hw ht hvm hB hS)
theorem x_callVV (hM : CallFix p m c cc nL s args lw_g own) (hw : Wd D G A H0 ad lay X h s H locs) {y : MethodName} {b : ByteArray} {n' fr lo na idx : Nat} {ret : Option FieldType} {F : PH → Option (PH)} {as : (Nat → Nat) → List Value} (hC : CtV l y b n' ret fr lo lay F as) (As : List Value) {Cn : String} {Tn : u_T} {Nn ci q0 : Nat} {Kc : KK} {fs : List Value} (hrecv : lay[q0]? = some Kc) (hfs : Kc ad G (h.1 q0) (h.2.1 q0) (h.2.2 q0) q0 = .inr (ci, fs)) (hc : vwCl[ci]? = some (Cn, Tn, Nn)) (has : as ad = .ref (ad q0) :: As) (hg : GoodIn lw_g (wsV own idx Cn y (.code y b n' ret :: lw_g))) (hd : y.cls = Cn ∧ y.cls ≠ "java/lang/invoke/MethodHandle" ∧ y.cls ≠ "java/lang/invoke/VarHandle" ∧ (parseMethodDescriptor y.desc).map (fun d => d.parameters.length) = some na) (hlen : As.length = na) (hR : fr + 1 ≤ R.frames ∧ 8 + (n' + 11) + lo ≤ R.locals) {st : List Value} (hst : st = As.reverse ++ .ref (ad q0) :: rest) (hroom : (rest.map fun v => v.category).sum ≤ 8) (hl : ls.size = nL) {Kf : PH → Option α} (hf : (F h).bind Kf = some r0) (hdg : decode cc pc = .ok (.invokevirtual idx, 3)) (kk : ∀ (h' : PH) (H1 : Heap) (locs1 : List Loc), Kf h' = some r0 → Wd D G A H0 ad lay X h' s H1 locs1 → W p l e R s m args below meth c H1 locs1 0 0 Q (F0 m (pc + 3) ls (rest))) : W p l e R s m args below meth c H locs 0 0 Q (F0 m pc ls st) := by
  obtain ⟨t, hF, hK⟩ := x_bind hf
  subst hst
  refine va_callv (va_runV (As := As) (rest := rest) (cells := 0) (slots := 0) (mc := 0) (ms := 0) hM (hC D G ad X h t H.size hF) (cwV na hM.2.2.2.2 hg rfl rfl rfl hd hR) ⟨pw_blind, va_recv hw.1 hw.2.1 hc (enc_at hrecv hfs), wd_pre hw (by rw [has])⟩ rfl hlen hl rfl (lv_room hroom) hdg ⟨Nat.zero_le _, Nat.zero_le _⟩) hw.2.2.2.1 (fun q _ hq => wd_free hw q hq) (wd_free hw) (fun  u t1 H1 locs1 ht hvm hq hB hz1 hk1 hS => ?_)
  have hq : u = t := hq
  subst hq
  exact kk u H1 locs1 hK (wd_back hw ht hvm hB hS)
theorem x_callSV (hM : CallFix p m c cc nL s args lw_g own) (hw : Wd D G A H0 ad lay X h s H locs) {y : MethodName} {b : ByteArray} {n' fr lo na idx : Nat} {ret : Option FieldType} {F : PH → Option (PH)} {as : (Nat → Nat) → List Value} (hC : CtV l y b n' ret fr lo lay F as) (As : List Value) (has : as ad = As) (hg : GoodIn lw_g (va_wsS own idx y (.code y b n' ret :: lw_g))) (hd : y.cls ≠ "java/lang/invoke/MethodHandle" ∧ y.cls ≠ "java/lang/invoke/VarHandle" ∧ (parseMethodDescriptor y.desc).map (fun d => d.parameters.length) = some na) (hlen : As.length = na) (hR : fr + 1 ≤ R.frames ∧ 8 + (n' + 11) + lo ≤ R.locals) {st : List Value} (hst : st = As.reverse ++ rest) (hroom : (rest.map fun v => v.category).sum ≤ 8) (hl : ls.size = nL) {Kf : PH → Option α} (hf : (F h).bind Kf = some r0) (hdg : decode cc pc = .ok (.invokestatic idx, 3)) (kk : ∀ (h' : PH) (H1 : Heap) (locs1 : List Loc), Kf h' = some r0 → Wd D G A H0 ad lay X h' s H1 locs1 → W p l e R s m args below meth c H1 locs1 0 0 Q (F0 m (pc + 3) ls (rest))) : W p l e R s m args below meth c H locs 0 0 Q (F0 m pc ls st) := by
  obtain ⟨t, hF, hK⟩ := x_bind hf
  subst hst
  refine va_callv (va_runS (As := As) (rest := rest) (cells := 0) (slots := 0) (mc := 0) (ms := 0) hM (hC D G ad X h t H.size hF) (va_cwS na hM.2.2.2.2 hg rfl rfl rfl hd hR) ⟨pw_blind, wd_pre hw (by rw [has])⟩ rfl hlen hl rfl (lv_room hroom) hdg ⟨Nat.zero_le _, Nat.zero_le _⟩) hw.2.2.2.1 (fun q _ hq => wd_free hw q hq) (wd_free hw) (fun  u t1 H1 locs1 ht hvm hq hB hz1 hk1 hS => ?_)
  have hq : u = t := hq
  subst hq
  exact kk u H1 locs1 hK (wd_back hw ht hvm hB hS)
theorem x_mmax (hM : CallFix p m c cc nL s args lw_g own) {idx : Nat} (hl : ls.size = nL) (hlink : Cond.methodLink own idx Lib.Math.max.name ∈ lw_g) (h2 : Cond.static Lib.Math.max.name ∈ lw_g) (h3 : Cond.initialized "java/lang/Math" ∈ lw_g) (h4 : Cond.code Lib.Math.max.name Lib.Math.max.code 2 (some .int) ∈ lw_g) (hframes : 1 ≤ R.frames) (hlocals : (rest.map fun v => v.category).sum + 13 ≤ R.locals) {x y : Int32} (hdg : decode cc pc = .ok (.invokestatic idx, 3)) (kk : W p l e R s m args below meth c H locs 0 0 Q (F0 m (pc + 3) ls (.int (jmax x y) :: rest))) : W p l e R s m args below meth c H locs 0 0 Q (F0 m pc ls (.int y :: .int x :: rest)) :=
  va_mmax hM.1 hM.2.1 (hM.2.2.1.trans hl.symm) hM.2.2.2.1 (hM.2.2.2.2 _ hlink) (hM.2.2.2.2 _ h2) (hM.2.2.2.2 _ h3) (hM.2.2.2.2 _ h4) hframes hlocals (Nat.zero_le _) (Nat.zero_le _) hdg kk
theorem x_mmin (hM : CallFix p m c cc nL s args lw_g own) {idx : Nat} (hl : ls.size = nL) (hlink : Cond.methodLink own idx Lib.Math.min.name ∈ lw_g) (h2 : Cond.static Lib.Math.min.name ∈ lw_g) (h3 : Cond.initialized "java/lang/Math" ∈ lw_g) (h4 : Cond.code Lib.Math.min.name Lib.Math.min.code 2 (some .int) ∈ lw_g) (hframes : 1 ≤ R.frames) (hlocals : (rest.map fun v => v.category).sum + 13 ≤ R.locals) {x y : Int32} (hdg : decode cc pc = .ok (.invokestatic idx, 3)) (kk : W p l e R s m args below meth c H locs 0 0 Q (F0 m (pc + 3) ls (.int (jmin x y) :: rest))) : W p l e R s m args below meth c H locs 0 0 Q (F0 m pc ls (.int y :: .int x :: rest)) :=
  va_mmin hM.1 hM.2.1 (hM.2.2.1.trans hl.symm) hM.2.2.2.1 (hM.2.2.2.2 _ hlink) (hM.2.2.2.2 _ h2) (hM.2.2.2.2 _ h3) (hM.2.2.2.2 _ h4) hframes hlocals (Nat.zero_le _) (Nat.zero_le _) hdg kk
theorem x_ialdK (hM : CallFix p m c cc nL s args lw_g own) (hw : Wd D G A H0 ad lay X h s H locs) {p0 n : Nat} (hk : lay[p0]? = some (kI n)) {i : Int32} (k : Nat) (hi : ixOK i n = true) (hik : i.toNatClampNeg = k) (hdg : decode cc pc = .ok (.iaload, 1)) (kk : W p l e R s m args below meth c H locs 0 0 Q (F0 m (pc + 1) ls (.int (h.1 p0 k) :: rest))) : W p l e R s m args below meth c H locs 0 0 Q (F0 m pc ls (.int i :: .ref (ad p0) :: rest)) := by
  subst hik
  exact va_iald hM.1 hM.2.1 hw.1 hw.2.1 p0 1 (enc_at hk rfl) rfl (ixOK_in hi) hdg kk
theorem x_baldK (hM : CallFix p m c cc nL s args lw_g own) (hw : Wd D G A H0 ad lay X h s H locs) {p0 n : Nat} (hk : lay[p0]? = some (kB n)) {i : Int32} (k : Nat) (hi : ixOK i n = true) (hik : i.toNatClampNeg = k) (hdg : decode cc pc = .ok (.baload, 1)) (kk : W p l e R s m args below meth c H locs 0 0 Q (F0 m (pc + 1) ls (.int (h.1 p0 k) :: rest))) : W p l e R s m args below meth c H locs 0 0 Q (F0 m pc ls (.int i :: .ref (ad p0) :: rest)) := by
  subst hik
  exact va_bald hM.1 hM.2.1 hw.1 hw.2.1 p0 0 (enc_at hk rfl) rfl (ixOK_in hi) hdg kk
theorem x_zaldK (hM : CallFix p m c cc nL s args lw_g own) (hw : Wd D G A H0 ad lay X h s H locs) {p0 n : Nat} (hk : lay[p0]? = some (kZ n)) {i : Int32} (k : Nat) (hi : ixOK i n = true) (hik : i.toNatClampNeg = k) (hdg : decode cc pc = .ok (.baload, 1)) (kk : W p l e R s m args below meth c H locs 0 0 Q (F0 m (pc + 1) ls (.int (h.1 p0 k) :: rest))) : W p l e R s m args below meth c H locs 0 0 Q (F0 m pc ls (.int i :: .ref (ad p0) :: rest)) := by
  subst hik
  exact va_zald hM.1 hM.2.1 hw.1 hw.2.1 p0 3 (enc_at hk rfl) rfl (ixOK_in hi) hdg kk
theorem x_iastK (hM : CallFix p m c cc nL s args lw_g own) (hw : Wd D G A H0 ad lay X h s H locs) {p0 n : Nat} (hk : lay[p0]? = some (kI n)) {i x : Int32} (k : Nat) (hi : ixOK i n = true) (hik : i.toNatClampNeg = k) {B : PH → Option α} (hf : nm (setI h p0 k x) B = some r0) (hdg : decode cc pc = .ok (.iastore, 1)) (kk : ∀ (h' : PH) (H1 : Heap) (locs1 : List Loc), B h' = some r0 → Wd D G A H0 ad lay X h' s H1 locs1 → W p l e R s m args below meth c H1 locs1 0 0 Q (F0 m (pc + 1) ls rest)) : W p l e R s m args below meth c H locs 0 0 Q (F0 m pc ls (.int x :: .int i :: .ref (ad p0) :: rest)) := by
  subst hik
  exact x_iast hM hw hk (B := B) (by rw [if_pos hi]; exact hf) hdg kk
theorem x_zastK (hM : CallFix p m c cc nL s args lw_g own) (hw : Wd D G A H0 ad lay X h s H locs) {p0 n : Nat} (hk : lay[p0]? = some (kZ n)) {i x : Int32} (k : Nat) (hi : ixOK i n = true) (hik : i.toNatClampNeg = k) {B : PH → Option α} (hf : nm (setI h p0 k (vp_nar .boolean x)) B = some r0) (hdg : decode cc pc = .ok (.bastore, 1)) (kk : ∀ (h' : PH) (H1 : Heap) (locs1 : List Loc), B h' = some r0 → Wd D G A H0 ad lay X h' s H1 locs1 → W p l e R s m args below meth c H1 locs1 0 0 Q (F0 m (pc + 1) ls rest)) : W p l e R s m args below meth c H locs 0 0 Q (F0 m pc ls (.int x :: .int i :: .ref (ad p0) :: rest)) := by
  subst hik
  exact x_zast hM hw hk (B := B) (by rw [if_pos hi]; exact hf) hdg kk
theorem x_bastK (hM : CallFix p m c cc nL s args lw_g own) (hw : Wd D G A H0 ad lay X h s H locs) {p0 n : Nat} (hk : lay[p0]? = some (kB n)) {i x : Int32} (k : Nat) (hi : ixOK i n = true) (hik : i.toNatClampNeg = k) {B : PH → Option α} (hf : nm (setI h p0 k (vp_nar .byte x)) B = some r0) (hdg : decode cc pc = .ok (.bastore, 1)) (kk : ∀ (h' : PH) (H1 : Heap) (locs1 : List Loc), B h' = some r0 → Wd D G A H0 ad lay X h' s H1 locs1 → W p l e R s m args below meth c H1 locs1 0 0 Q (F0 m (pc + 1) ls rest)) : W p l e R s m args below meth c H locs 0 0 Q (F0 m pc ls (.int x :: .int i :: .ref (ad p0) :: rest)) := by
  subst hik
  exact x_bast hM hw hk (B := B) (by rw [if_pos hi]; exact hf) hdg kk
theorem x_lastK (hM : CallFix p m c cc nL s args lw_g own) (hw : Wd D G A H0 ad lay X h s H locs) {p0 n : Nat} (hk : lay[p0]? = some (kJ n)) {i : Int32} {x : Int64} (k : Nat) (hi : ixOK i n = true) (hik : i.toNatClampNeg = k) {B : PH → Option α} (hf : nm (setJ h p0 k x) B = some r0) (hdg : decode cc pc = .ok (.lastore, 1)) (kk : ∀ (h' : PH) (H1 : Heap) (locs1 : List Loc), B h' = some r0 → Wd D G A H0 ad lay X h' s H1 locs1 → W p l e R s m args below meth c H1 locs1 0 0 Q (F0 m (pc + 1) ls rest)) : W p l e R s m args below meth c H locs 0 0 Q (F0 m pc ls (.long x :: .int i :: .ref (ad p0) :: rest)) := by
  subst hik
  exact x_last hM hw hk (B := B) (by rw [if_pos hi]; exact hf) hdg kk
end XC
theorem ic_m1 : Int32.ofInt (-1) = (-1 : Int32) := by decide
theorem ic_0 : Int32.ofInt (0) = (0 : Int32) := by decide
theorem ic_1 : Int32.ofInt (1) = (1 : Int32) := by decide
theorem ic_2 : Int32.ofInt (2) = (2 : Int32) := by decide
theorem ic_3 : Int32.ofInt (3) = (3 : Int32) := by decide
theorem ic_4 : Int32.ofInt (4) = (4 : Int32) := by decide
theorem ic_5 : Int32.ofInt (5) = (5 : Int32) := by decide
theorem ic_b {n : Int} {v : Int32} (h : (Int8.ofInt n).toInt32 = v) : (Int8.ofInt n).toInt32 = v := h
/-- a test that must hold -/
abbrev gd {α : Type} (b : Bool) (o : Option α) : Option α := if b = true then o else none
theorem rd_some {α : Type} {f : PH → Option α} {h : PH} {r : α × PH} (hf : rd f h = some r) : ∃ v, f h = some v ∧ r = (v, h) := by
  unfold rd at hf
  cases q : f h with
  | none => rw [q] at hf; cases hf
  | some v => rw [q] at hf; cases hf; exact ⟨v, rfl, rfl⟩
theorem rec_room {a b fr lo : Nat} (h1 : a + 1 ≤ fr) (h2 : b ≤ lo) : a + 1 ≤ (rmN fr lo).frames ∧ b ≤ (rmN fr lo).locals := ⟨h1, h2⟩
theorem sw_ne {x v : Int32} (h : x.toInt ≠ v.toInt) {k : Int} (hk : v.toInt = k) : x.toInt ≠ k := by rw [← hk]; exact h
