/-- two heaps hold the same wherever F holds -/
def KP (F : Nat → Nat → Prop) (h h' : PH) : Prop := ∀ p k : Nat, F p k → h'.1 p k = h.1 p k ∧ h'.2.1 p k = h.2.1 p k ∧ h'.2.2 p k = h.2.2 p k
theorem KP.rfl {F : Nat → Nat → Prop} {h : PH} : KP F h h := fun _ _ _ => ⟨Eq.refl _, Eq.refl _, Eq.refl _⟩
theorem KP.trans {F : Nat → Nat → Prop} {a b c : PH} (h1 : KP F a b) (h2 : KP F b c) : KP F a c := fun p k q => ⟨((h2 p k q).1).trans (h1 p k q).1, ((h2 p k q).2.1).trans (h1 p k q).2.1, ((h2 p k q).2.2).trans (h1 p k q).2.2⟩
theorem KP.mono {F F' : Nat → Nat → Prop} {a b : PH} (h : KP F a b) (hF : ∀ p k, F' p k → F p k) : KP F' a b := fun p k q => h p k (hF p k q)
theorem KP.setI {F : Nat → Nat → Prop} {h : PH} {p k : Nat} {v : Int32} (hn : ¬ F p k) : KP F h (setI h p k v) := fun q j hq => by
  refine ⟨?_, Eq.refl _, Eq.refl _⟩
  show (if q = p then (if j = k then v else h.1 q j) else h.1 q j) = h.1 q j
  by_cases e : q = p
  · by_cases e' : j = k
    · subst e; subst e'; exact absurd hq hn
    · rw [if_pos e, if_neg e']
  · rw [if_neg e]
theorem KP.setJ {F : Nat → Nat → Prop} {h : PH} {p k : Nat} {v : Int64} (hn : ¬ F p k) : KP F h (setJ h p k v) := fun q j hq => by
  refine ⟨Eq.refl _, ?_, Eq.refl _⟩
  show (if q = p then (if j = k then v else h.2.1 q j) else h.2.1 q j) = h.2.1 q j
  by_cases e : q = p
  · by_cases e' : j = k
    · subst e; subst e'; exact absurd hq hn
    · rw [if_pos e, if_neg e']
  · rw [if_neg e]
theorem KP.setR {F : Nat → Nat → Prop} {h : PH} {p k v : Nat} (hn : ¬ F p k) : KP F h (setR h p k v) := fun q j hq => by
  refine ⟨Eq.refl _, Eq.refl _, ?_⟩
  show (if q = p then (if j = k then v else h.2.2 q j) else h.2.2 q j) = h.2.2 q j
  by_cases e : q = p
  · by_cases e' : j = k
    · subst e; subst e'; exact absurd hq hn
    · rw [if_pos e, if_neg e']
  · rw [if_neg e]
theorem KP.i {F : Nat → Nat → Prop} {h h' : PH} (H : KP F h h') {p k : Nat} (q : F p k) : h'.1 p k = h.1 p k := (H p k q).1
theorem KP.j {F : Nat → Nat → Prop} {h h' : PH} (H : KP F h h') {p k : Nat} (q : F p k) : h'.2.1 p k = h.2.1 p k := (H p k q).2.1
theorem KP.r {F : Nat → Nat → Prop} {h h' : PH} (H : KP F h h') {p k : Nat} (q : F p k) : h'.2.2 p k = h.2.2 p k := (H p k q).2.2
theorem setI_eq (h : PH) (p k : Nat) (v : Int32) : (setI h p k v).1 p k = v := by
  show (if p = p then (if k = k then v else h.1 p k) else h.1 p k) = v
  rw [if_pos (Eq.refl p), if_pos (Eq.refl k)]
theorem setI_ne {h : PH} {p k q j : Nat} {v : Int32} (hn : ¬ (q = p ∧ j = k)) : (setI h p k v).1 q j = h.1 q j := by
  show (if q = p then (if j = k then v else h.1 q j) else h.1 q j) = h.1 q j
  by_cases e : q = p
  · rw [if_pos e, if_neg (fun e' => hn ⟨e, e'⟩)]
  · rw [if_neg e]
theorem ixOK_nI {k n : Nat} (h : k < n) (hn : n < 2 ^ 31) : ixOK (nI k) n = true := by
  have h1 : ¬ nI k < 0 := nI_pos (by omega)
  have h2 : (nI k).toNatClampNeg = k := nI_clamp (by omega)
  unfold ixOK
  rw [h2]
  simp only [h1, decide_false, Bool.false_or, Bool.not_eq_true', decide_eq_false_iff_not]
  omega
theorem gdI {α : Type} {k n : Nat} {o : Option α} (h : k < n) (hn : n < 2 ^ 31) : gd (ixOK (nI k) n) o = o := if_pos (ixOK_nI h hn)
