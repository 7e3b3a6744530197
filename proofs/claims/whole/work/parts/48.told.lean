theorem forS_congr {α : Type} {g g' : Nat → α → α} {x : α} : ∀ {N : Nat}, (∀ i y, i < N → g i y = g' i y) → forS g N x = forS g' N x
  | 0, _ => rfl
  | n + 1, h => by
    show g n (forS g n x) = g' n (forS g' n x)
    rw [forS_congr (g := g) (g' := g') (N := n) (fun i y hi => h i y (by omega)), h n _ (by omega)]
def taleG (T : TX) (σ : ST) (m : Nat) (z3 z4 : Int32) (i : Nat) (x : Int32) : Int32 := if m.testBit i = true ∧ (z3 = -1 ∨ σ.plan i = z3) ∧ (z4 = -1 ∨ nI (T.dman i) = z4) then x + 1 else x
theorem tales_ok {p t : Nat} {T : TX} {σ : ST} {h : PH} (w : T.wf) (xc : TxC t T h) (x : StC p σ h) {m : Nat} (hm : m < 512) (z3 z4 : Int32) : c_X8_tales p t (nI m) z3 z4 h = some (forS (taleG T σ m z3 z4) T.dut 0) := by
  have w2 := w.dut
  unfold c_X8_tales
  simp only [nm]
  refine for_f (K := fun w15 => some w15) (taleG T σ m z3 z4) (by omega) (fun REC i y hi => ?_) (fun REC y => ?_) 0
  · unfold c_X8_tales_L6b c_X8_tales_j29 c_X8_tales_j52 c_X8_tales_j79 taleG
    rw [xc.dut, if_neg (nI_ge hi (by omega)), b_get hm (by omega)]
    simp only [nm, ixOK_nI (show i < 9 by omega) (show 9 < 2 ^ 31 by omega), gdt, nI_clamp (show i < 2 ^ 31 by omega), xc.dman i hi, x.plan i (show i < 9 by omega), nI_1, Int32.add_zero]
    by_cases b : m.testBit i = true <;> by_cases c : z3 = -1 <;> by_cases d : σ.plan i = z3 <;> by_cases e : z4 = -1 <;> by_cases f : nI (T.dman i) = z4 <;> simp [b, c, d, e, f]
  · unfold c_X8_tales_L6b
    rw [xc.dut, if_pos (nI_le (by omega) (by omega))]
theorem told_bit {σ : ST} {d : Nat} (hd : d < 9) : (outMask σ 1 ||| outMask σ 2).testBit d = true ↔ (σ.out d = 1 ∨ σ.out d = 2) := by
  rw [Nat.testBit_or, out_get hd, out_get hd]
  simp
theorem told_lt (σ : ST) : (outMask σ 1 ||| outMask σ 2) < 512 := Nat.or_lt_two_pow (n := 9) (out_lt σ 1) (out_lt σ 2)
theorem nI_nem1 {e : Nat} (h : e < 2 ^ 31) : ¬ nI e = -1 := fun q => by
  have h1 := congrArg Int32.toInt q
  rw [nI_toInt h] at h1
  have h2 : (-1 : Int32).toInt = -1 := by decide
  omega
theorem nI_nem2 {e : Nat} (h : e < 2 ^ 31) : ¬ nI e = -2 := fun q => by
  have h1 := congrArg Int32.toInt q
  rw [nI_toInt h] at h1
  have h2 : (-2 : Int32).toInt = -2 := by decide
  omega
def timesG (T : TX) (σ : ST) (e a : Nat) (i : Nat) (x : Int32) : Int32 := if (σ.out i = 1 ∨ σ.out i = 2) ∧ σ.plan i = nI e ∧ T.dman i = a then x + 1 else x
theorem tale_times {T : TX} {σ : ST} (w : T.wf) {e a : Nat} (he : e < T.exc) (ha : a < T.men) : forS (taleG T σ (outMask σ 1 ||| outMask σ 2) (nI e) (nI a)) T.dut 0 = forS (timesG T σ e a) T.dut 0 := by
  have w1 := w.men; have w2 := w.dut; have w3 := w.exc
  refine forS_congr (fun i y hi => ?_)
  have d1 := w.dman i hi
  refine ite_cg ?_
  rw [told_bit (by omega), nI_eq (by omega) (by omega)]
  simp only [nI_nem1 (show e < 2 ^ 31 by omega), nI_nem1 (show a < 2 ^ 31 by omega), false_or]
theorem toldP_eq {σ : ST} {d e : Nat} (he : e < 7) : toldP σ d = nI e ↔ (σ.out d = 1 ∨ σ.out d = 2) ∧ σ.plan d = nI e := by
  unfold toldP
  by_cases q : σ.out d = 1 ∨ σ.out d = 2
  · rw [if_pos q]; exact ⟨fun h => ⟨q, h⟩, fun h => h.2⟩
  · rw [if_neg q]; exact ⟨fun h => absurd h.symm (nI_nem2 (by omega)), fun h => absurd h.1 q⟩
theorem toldTimes_ok {T : TX} {σ : ST} {s : Nat} {h : PH} (w : T.wf) (hs : s < 2) (l : h.1 0 18 = nI s) (xr : TxR s T h) (x : StV σ h) {e a : Nat} (he : e < T.exc) (ha : a < T.men) : c_X12_toldTimes (nI e) (nI a) h = some (forS (timesG T σ e a) T.dut 0) := by
  have w1 := w.men; have w2 := w.dut; have w3 := w.exc
  unfold c_X12_toldTimes
  simp only [nm]
  refine for_f (K := fun w8 => some w8) (timesG T σ e a) (by omega) (fun REC i y hi => ?_) (fun REC y => ?_) 0
  · unfold c_X12_toldTimes_L5b timesG
    have d1 := w.dman i hi
    have g1 : h.1 44 (22 + i) = toldP σ i := x.told i (by omega)
    rw [l, live_gd hs, nI_clamp (by omega), xr.dut, if_neg (nI_ge hi (by omega)), nI_a22, gdI (by omega) (by omega), nI_clamp (by omega), g1, manOf_ok w hs l xr hi]
    simp only [nm, nI_1, Option.bind_some, toldP_eq (show e < 7 by omega), nI_eq (show T.dman i < 2 ^ 31 by omega) (show a < 2 ^ 31 by omega)]
    by_cases b : (σ.out i = 1 ∨ σ.out i = 2) ∧ σ.plan i = nI e
    · rw [if_pos b]
      by_cases c : T.dman i = a
      · rw [if_pos c, if_pos ⟨b.1, b.2, c⟩]
      · rw [if_neg c, if_neg (fun q => c q.2.2)]
    · rw [if_neg b, if_neg (fun q => b ⟨q.1, q.2.1⟩)]
  · unfold c_X12_toldTimes_L5b
    rw [l, live_gd hs, nI_clamp (by omega), xr.dut, if_pos (nI_le (by omega) (by omega))]
