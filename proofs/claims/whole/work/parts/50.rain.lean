def mixv (x y : Int32) : Int32 := (((x ^^^ y) * 1103515245) + 12345) ^^^ (jushr (((x ^^^ y) * 1103515245) + 12345) 15)
def lotv (seed y : Int32) : Int32 := jrem (jushr (mixv (mixv seed 61) y) 1) 100
theorem mixv_eq (x y : Int32) : mixv x y = (((x ^^^ y) * 1103515245) + 12345) ^^^ (jushr (((x ^^^ y) * 1103515245) + 12345) 15) := rfl
theorem lotv_eq (seed y : Int32) : lotv seed y = jrem (jushr (mixv (mixv seed 61) y) 1) 100 := rfl
theorem nm_eq {α β : Type} (x : α) (B : α → Option β) : nm x B = B x := rfl
theorem nm_p {α β : Type} (x : α) (B : α → Option β) : nm x B = B x := Eq.trans (nm_eq x B) rfl
theorem lot_s0 {ρ : Type} (a1 : Int32) (K1 : Int32 → Option ρ) (REC : Int32 → Int32 → Option ρ) (x : Int32) : c_X1_lot_L4b a1 K1 REC x 0 = REC (mixv x 61) (0 + 1) := by
  unfold c_X1_lot_L4b c_X1_lot_j19
  rw [if_neg (by decide), if_pos (Eq.refl _), mixv_eq]
  simp only [nm]
theorem lot_s1 {ρ : Type} (a1 : Int32) (K1 : Int32 → Option ρ) (REC : Int32 → Int32 → Option ρ) (x : Int32) : c_X1_lot_L4b a1 K1 REC x 1 = REC (mixv x a1) (1 + 1) := by
  unfold c_X1_lot_L4b c_X1_lot_j19
  rw [if_neg (by decide), if_neg (by decide), mixv_eq]
  simp only [nm]
theorem lot_s2 {ρ : Type} (a1 : Int32) (K1 : Int32 → Option ρ) (REC : Int32 → Int32 → Option ρ) (x : Int32) : c_X1_lot_L4b a1 K1 REC x 2 = K1 x := by
  unfold c_X1_lot_L4b
  rw [if_pos (by decide)]
theorem c01 : (0 : Int32) + 1 = 1 := by decide
theorem c11 : (1 : Int32) + 1 = 2 := by decide
theorem lot_all {ρ : Type} (a1 : Int32) (K1 : Int32 → Option ρ) (x : Int32) (f : Nat) : lq2 (c_X1_lot_L4b a1 K1) (f + 1 + 1 + 1) x 0 = K1 (mixv (mixv x 61) a1) := by
  rw [lq2_s, lot_s0, c01, lq2_s, lot_s1, c11, lq2_s, lot_s2]
theorem fu_3 : ∃ f, fu = f + 1 + 1 + 1 := ⟨8189, by unfold fu; omega⟩
theorem X1_lot_ok (a0 a1 : Int32) : c_X1_lot a0 a1 = some (lotv a0 a1) := by
  obtain ⟨f, hf⟩ := fu_3
  unfold c_X1_lot
  rw [nm_eq, nm_eq, hf, lot_all, lotv_eq]
theorem mixed_ok (x y : Int32) : c_X12_mixed x y = some (mixv x y) := by
  unfold c_X12_mixed
  rw [mixv_eq]
  simp only [nm]
theorem lotOf_ok (a1 a2 : Int32) (h : PH) : c_X12_lotOf a1 a2 h = some (lotv (h.1 0 62) (16 * a1 + a2)) := by
  unfold c_X12_lotOf
  rw [mixed_ok, Option.bind_some, mixed_ok, Option.bind_some, lotv_eq]
def wetv (T : TX) (seed : Int32) (d : Int32) : Int32 := if nI T.rain ≤ lotv seed (16 * d) then 0 else 1
theorem wetC_ok {p t : Nat} {T : TX} {h : PH} (xc : TxC t T h) (seed d : Int32) : c_X1_isWet p t seed d h = some (wetv T seed d) := by
  unfold c_X1_isWet wetv
  rw [X1_lot_ok, xc.rain, Option.bind_some, ite_some]
theorem wetR_ok {T : TX} {s : Nat} {h : PH} (hs : s < 2) (l : h.1 0 18 = nI s) (xr : TxR s T h) (d : Int32) : c_X12_isWet d h = some (wetv T (h.1 0 62) d) := by
  unfold c_X12_isWet wetv
  rw [lotOf_ok, Int32.add_zero, l, Option.bind_some, live_gd hs, nI_clamp (by omega), xr.rain, ite_some]
theorem wet01 (T : TX) (seed d : Int32) : wetv T seed d = 0 ∨ wetv T seed d = 1 := by
  unfold wetv
  by_cases h : nI T.rain ≤ lotv seed (16 * d)
  · rw [if_pos h]; exact Or.inl (Eq.refl _)
  · rw [if_neg h]; exact Or.inr (Eq.refl _)
theorem rains_ok {n : Nat} {T : TX} {σ : ST} {s t : Nat} {hc hr : PH} (C : Cor n T σ s t hc hr) (a1 : Int32) : ∃ (v : Int32) (hr' : PH), c_X11_rains a1 hc = some v ∧ c_X12_rains a1 hr = some (v, hr') ∧ KP F44 hr hr' := by
  unfold c_X11_rains c_X12_rains
  rw [X12_in, Option.bind_some, if10]
  simp only [nm, C.txt, gdT C.t2]
  by_cases q : a1 < 0
  · rw [if_pos q, if_neg (fun w => absurd w.1 (Int32.not_le.mpr q))]
    exact ⟨_, hr, rfl, rfl, KP.rfl⟩
  rw [if_neg q]
  by_cases w : a1 ≤ 999
  · have qw : 0 ≤ a1 ∧ a1 ≤ 999 := ⟨Int32.not_lt.mp q, w⟩
    rw [if_pos w, if_pos qw]
    obtain ⟨h3, c1, c2, c4, c3⟩ := copies_ok C.s2 C.live C.xr
    have l3 : h3.1 0 18 = nI s := (c3.i (by unfold F44; omega)).trans C.live
    have x3 : TxR s T h3 := C.xr.fr (c3.mono (fun p k q => by unfold FxR at q; unfold F44; omega))
    rw [C.xc.seed, wetC_ok C.xc, c1, Option.bind_some, Option.bind_some, wetR_ok C.s2 l3 x3, c4, Option.bind_some]
    by_cases u : wetv T T.seed a1 = 0
    · rw [if_pos u, if_pos u]; exact ⟨_, h3, rfl, rfl, c3⟩
    · rw [if_neg u, if_neg u]; exact ⟨_, h3, rfl, rfl, c3⟩
  · rw [if_neg w, if_neg (fun z => w z.2)]
    exact ⟨_, hr, rfl, rfl, KP.rfl⟩
