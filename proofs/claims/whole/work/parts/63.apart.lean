def apT (T : TX) (set i j t : Nat) : Bool := set.testBit t && ((T.ring t).testBit i != (T.ring t).testBit j)
def apJ (T : TX) (set i j : Nat) : Bool := !anyX (apT T set i j) T.tst 0
def apB (T : TX) (set : Nat) : Bool := !anyX (fun i => anyX (apJ T set i) T.exc (i + 1)) T.exc 0
theorem b_x0 : ∀ m : Nat, m < 128 → ∀ a : Nat, a < 7 → ∀ b : Nat, b < 7 → (((nI m >>> (nI a &&& 31)) ^^^ (nI m >>> (nI b &&& 31))) &&& 1) = if (m.testBit a != m.testBit b) = true then (1 : Int32) else 0 := by decide +kernel
theorem forS_any {P : Nat → Bool} : ∀ (N : Nat) (x : Int32), forS (fun i x => if P i = true then (1 : Int32) else x) N x = if anyX P N 0 = true then 1 else x
  | 0, x => by
    rw [if_neg (fun z => by obtain ⟨d, h, _⟩ := anyX_0.mp z; omega)]; rfl
  | n + 1, x => by
    show (if P n = true then (1 : Int32) else forS _ n x) = _
    rw [forS_any n x]
    by_cases q : P n = true
    · rw [if_pos q, if_pos (anyX_0.mpr ⟨n, by omega, q⟩)]
    · rw [if_neg q]
      refine ite_cg ?_
      rw [anyX_0, anyX_0]
      constructor
      · rintro ⟨d, h1, h2⟩; exact ⟨d, by omega, h2⟩
      · rintro ⟨d, h1, h2⟩
        by_cases e : d = n
        · subst e; exact absurd h2 q
        · exact ⟨d, by omega, h2⟩
theorem tellsApartC {t : Nat} {T : TX} {h : PH} (w : T.wf) (xc : TxC t T h) {set i j : Nat} (hs : set < 64) (hi : i < T.exc) (hj : j < T.exc) : c_X9_tellsApart t (nI set) (nI i) (nI j) h = some (if anyX (apT T set i j) T.tst 0 = true then 1 else 0) := by
  have w3 := w.exc; have w4 := w.tst
  unfold c_X9_tellsApart
  simp only [nm_p]
  rw [for_any0 (K := some 0) (E := some 1) (apT T set i j) (N := T.tst) (by omega) (fun REC d hd => ?_) (fun REC => ?_)]
  · by_cases q : anyX (apT T set i j) T.tst 0 = true
    · rw [if_pos q, if_pos q]
    · rw [if_neg q, if_neg q]
  · unfold c_X9_tellsApart_L3b apT
    have r := w.ring d hd
    rw [xc.tst, if_neg (nI_ge hd (by omega))]
    simp (disch := omega) only [nm_p, gdt, ixOK_nI, nI_clamp, nI_mul9, nI_mul7, nI_mul5, nI_mul6, nI_a4, nI_a13, nI_a22, nI_a31, nI_add, nI_1, Option.bind_some, one_ne0, if_false, if_true, xc.ring d hd, b_get, if_0, b_x0 (T.ring d) r i (by omega) j (by omega)]
    by_cases q1 : set.testBit d = true <;> by_cases q2 : ((T.ring d).testBit i != (T.ring d).testBit j) = true <;> simp [q1, q2]
  · unfold c_X9_tellsApart_L3b
    rw [xc.tst, if_pos (nI_le (by omega) (by omega))]
theorem allApartC {t : Nat} {T : TX} {h : PH} (w : T.wf) (xc : TxC t T h) {set : Nat} (hs : set < 64) : c_X9_tellsAllApart t (nI set) h = some (if apB T set = true then 1 else 0) := by
  have w3 := w.exc; have w4 := w.tst
  unfold c_X9_tellsAllApart apB
  simp only [nm_p]
  rw [for_any0 (K := some 1) (E := some 0) (fun i => anyX (apJ T set i) T.exc (i + 1)) (N := T.exc) (by omega) (fun REC i hi => ?_) (fun REC => ?_)]
  · cases anyX (fun i => anyX (apJ T set i) T.exc (i + 1)) T.exc 0 <;> rfl
  · unfold c_X9_tellsAllApart_L2b
    rw [xc.exc, if_neg (nI_ge hi (by omega))]
    simp only [nm_p, nI_1]
    refine for_any (K := REC (nI (i + 1))) (E := some 0) (apJ T set i) (N := T.exc) (by omega) (fun REC' j hj => ?_) (fun REC' => ?_) (i + 1) (by omega)
    · unfold c_X9_tellsAllApart_L14b apJ
      rw [xc.exc, if_neg (nI_ge hj (by omega)), tellsApartC w xc hs hi hj, Option.bind_some, if_0i]
      simp only [nm_p, nI_1]
      cases anyX (apT T set i j) T.tst 0 <;> rfl
    · unfold c_X9_tellsAllApart_L14b
      rw [xc.exc, if_pos (nI_le (by omega) (by omega))]
  · unfold c_X9_tellsAllApart_L2b
    rw [xc.exc, if_pos (nI_le (by omega) (by omega))]
theorem areApart_ok {T : TX} {s : Nat} {h : PH} (w : T.wf) (hs : s < 2) (l : h.1 0 18 = nI s) (xr : TxR s T h) {set : Nat} (hs6 : set < 64) : c_X12_areApart (nI set) h = some (if apB T set = true then 1 else 0) := by
  have w3 := w.exc; have w4 := w.tst
  unfold c_X12_areApart apB
  simp only [nm_p]
  rw [for_any0 (K := some 1) (E := some 0) (fun i => anyX (apJ T set i) T.exc (i + 1)) (N := T.exc) (by omega) (fun REC i hi => ?_) (fun REC => ?_)]
  · cases anyX (fun i => anyX (apJ T set i) T.exc (i + 1)) T.exc 0 <;> rfl
  · unfold c_X12_areApart_L2b
    rw [l, live_gd hs, nI_clamp (by omega), xr.exc, if_neg (nI_ge hi (by omega))]
    simp only [nm_p, nI_1]
    refine for_any (K := REC (nI (i + 1))) (E := some 0) (apJ T set i) (N := T.exc) (by omega) (fun REC' j hj => ?_) (fun REC' => ?_) (i + 1) (by omega)
    · unfold c_X12_areApart_L19b apJ
      rw [l, live_gd hs, nI_clamp (by omega), xr.exc, if_neg (nI_ge hj (by omega))]
      simp only [nm_p, nI_1]
      have e : lq2 (c_X12_areApart_L38b (nI set) (nI i) (nI j) h (fun w9 => if w9 = 0 then some 0 else REC' (nI (j + 1)))) fu 0 0 = (fun w9 => if w9 = 0 then some 0 else REC' (nI (j + 1))) (forS (fun t x => if apT T set i j t = true then (1 : Int32) else x) T.tst 0) := by
        refine for_f (K := fun w9 => if w9 = 0 then some 0 else REC' (nI (j + 1))) _ (by omega) (fun REC2 d y hd => ?_) (fun REC2 y => ?_) 0
        · unfold c_X12_areApart_L38b apT
          have r := w.ring d hd
          rw [l, live_gd hs, nI_clamp (by omega), xr.tst, if_neg (nI_ge hd (by omega))]
          simp (disch := omega) only [nm_p, gdt, ixOK_nI, nI_clamp, nI_mul9, nI_mul7, nI_mul5, nI_mul6, nI_a4, nI_a13, nI_a22, nI_a31, nI_add, nI_1, Option.bind_some, one_ne0, if_false, if_true, xr.ring d hd, b_get, if_1]
          by_cases q1 : set.testBit d = true <;> cases q2 : (T.ring d).testBit i <;> cases q3 : (T.ring d).testBit j <;> simp [q1]
        · unfold c_X12_areApart_L38b
          rw [l, live_gd hs, nI_clamp (by omega), xr.tst, if_pos (nI_le (by omega) (by omega))]
      rw [e, forS_any]
      cases anyX (apT T set i j) T.tst 0
      · simp
      · simp
    · unfold c_X12_areApart_L19b
      rw [l, live_gd hs, nI_clamp (by omega), xr.exc, if_pos (nI_le (by omega) (by omega))]
  · unfold c_X12_areApart_L2b
    rw [l, live_gd hs, nI_clamp (by omega), xr.exc, if_pos (nI_le (by omega) (by omega))]
theorem bits_ok {m : Nat} (hm : m < 512) : c_X12_bits (nI m) = some (nI (cntB (fun d => m.testBit d) 9)) := by
  unfold c_X12_bits
  simp only [nm_p]
  rw [← cnt_for]
  refine for_f (K := fun w5 => some w5) (N := 9) _ (by omega) (fun REC i y hi => ?_) (fun REC y => ?_) 0
  · unfold c_X12_bits_L4b
    rw [if_neg (show ¬ (9 : Int32) ≤ nI i from nI_ge (b := 9) hi (by omega)), b_get hm hi]
    simp only [nm_p, nI_1]
    by_cases q : m.testBit i = true
    · rw [if_pos q, if_pos q]
    · rw [if_neg q, if_neg q, Int32.add_zero]
  · unfold c_X12_bits_L4b
    rw [if_pos (show (9 : Int32) ≤ nI 9 from nI_le (a := 9) (b := 9) (by omega) (by omega))]
def cn9 (m : Nat) : Nat := cntB (fun d => m.testBit d) 9
theorem cn9_le (m : Nat) : cn9 m ≤ 9 := cnt_le _ 9
def apG (T : TX) (i : Nat) (x : Int32) : Int32 := if (x = -2 ∨ cn9 i < cn9 x.toNatClampNeg) ∧ apB T i = true then nI i else x
theorem ap_cases (T : TX) : ∀ n, n ≤ 64 → forS (apG T) n (-2) = -2 ∨ ∃ m, m < 64 ∧ forS (apG T) n (-2) = nI m
  | 0, _ => Or.inl rfl
  | n + 1, hn => by
    have ih := ap_cases T n (by omega)
    show apG T n (forS (apG T) n (-2)) = -2 ∨ ∃ m, m < 64 ∧ apG T n (forS (apG T) n (-2)) = nI m
    generalize forS (apG T) n (-2) = x at ih
    unfold apG
    by_cases q : (x = -2 ∨ cn9 n < cn9 x.toNatClampNeg) ∧ apB T n = true
    · rw [if_pos q]; exact Or.inr ⟨n, by omega, rfl⟩
    · rw [if_neg q]; exact ih
theorem p2_64 {k : Nat} (h : k ≤ 6) : 2 ^ k ≤ 64 := Nat.pow_le_pow_right (n := 2) (i := k) (j := 6) (by decide) h
theorem fewC {t : Nat} {T : TX} {h : PH} (w : T.wf) (xc : TxC t T h) : c_X9_fewestTests t h = some (forS (apG T) (2 ^ T.tst) (-2)) := by
  have w4 := w.tst
  have p6 := p2_64 w4
  unfold c_X9_fewestTests
  simp only [nm_p]
  obtain ⟨y, e, hy⟩ := for_r (B := c_X9_fewestTests_L5b t h (fun w8 => some w8)) (K := fun w8 => some w8) (N := 2 ^ T.tst) (fun i y => y = forS (apG T) i (-2)) (by omega) (fun REC i y hi hp => by
    have hc := ap_cases T i (by omega)
    rw [← hp] at hc
    refine ⟨apG T i y, ?_, by rw [hp]; rfl⟩
    unfold c_X9_fewestTests_L5b c_X9_fewestTests_j37 apG
    rw [xc.tst, b_shl (by omega), if_neg (nI_ge hi (by omega)), allApartC w xc (by omega)]
    rcases hc with hc | ⟨m, hm, hc⟩
    · simp only [nm_p, hc, if_true, Option.bind_some, if_0, one_ne0, if_false, nI_1, true_or, true_and]
      by_cases q : apB T i = true
      · rw [if_neg (fun z => z q), if_pos q]
      · rw [if_pos q, if_neg q]
    · have hne : ¬ nI m = -2 := nI_nem2 (by omega)
      have l1 := cn9_le m; have l2 := cn9_le i
      rw [hc, if_neg hne, bc (show i < 512 by omega), bc (show m < 512 by omega), Option.bind_some, Option.bind_some, nI_clamp (by omega)]
      show (if nI (cn9 m) ≤ nI (cn9 i) then _ else _) = _
      rw [ite_cg (nI_leI (a := cn9 m) (b := cn9 i) (by omega) (by omega))]
      simp only [nm_p, Option.bind_some, if_0, one_ne0, if_false, if_true, nI_1, hne, false_or]
      by_cases q2 : cn9 m ≤ cn9 i
      · rw [if_pos q2, if_neg (fun z => by omega)]
      · rw [if_neg q2]
        by_cases q : apB T i = true
        · rw [if_neg (fun z => z q), if_pos ⟨by omega, q⟩]
        · rw [if_pos q, if_neg (fun z => q z.2)]) (fun REC y _ => by
    unfold c_X9_fewestTests_L5b
    rw [xc.tst, b_shl (by omega), if_pos (nI_le (by omega) (by omega))]) (-2) rfl
  rw [e, hy]
theorem fewR {T : TX} {s : Nat} {h : PH} (w : T.wf) (hs : s < 2) (l : h.1 0 18 = nI s) (xr : TxR s T h) (z : Int32) (K : Int32 → Option Int32) : lq2 (c_X12_apart_L16b z h K) fu (-2) 0 = K (forS (apG T) (2 ^ T.tst) (-2)) := by
  have w4 := w.tst
  have p6 := p2_64 w4
  obtain ⟨y, e, hy⟩ := for_r (B := c_X12_apart_L16b z h K) (K := K) (N := 2 ^ T.tst) (fun i y => y = forS (apG T) i (-2)) (by omega) (fun REC i y hi hp => by
    have hc := ap_cases T i (by omega)
    rw [← hp] at hc
    refine ⟨apG T i y, ?_, by rw [hp]; rfl⟩
    unfold c_X12_apart_L16b apG
    rw [l, live_gd hs, nI_clamp (by omega), xr.tst, b_shl (by omega), if_neg (nI_ge hi (by omega)), areApart_ok w hs l xr (by omega)]
    rcases hc with hc | ⟨m, hm, hc⟩
    · rw [hc, if_pos m2_neg, Option.bind_some, if_0i]
      simp only [nm_p, nI_1, true_or, true_and]
      by_cases q : apB T i = true
      · rw [if_neg (fun z => z q), if_pos q]
      · rw [if_pos q, if_neg q]
    · have hne : ¬ nI m = -2 := nI_nem2 (by omega)
      have l1 := cn9_le m; have l2 := cn9_le i
      rw [hc, if_neg (nI_pos (by omega)), bits_ok (show i < 512 by omega), bits_ok (show m < 512 by omega), Option.bind_some, Option.bind_some, nI_clamp (by omega)]
      show (if nI (cn9 m) ≤ nI (cn9 i) then _ else _) = _
      rw [ite_cg (nI_leI (a := cn9 m) (b := cn9 i) (by omega) (by omega))]
      simp only [nm_p, Option.bind_some, if_0, nI_1, hne, false_or]
      by_cases q2 : cn9 m ≤ cn9 i
      · rw [if_pos q2, if_neg (fun z => by omega)]
      · rw [if_neg q2]
        by_cases q : apB T i = true
        · rw [if_neg (fun z => z q), if_pos ⟨by omega, q⟩]
        · rw [if_pos q, if_neg (fun z => q z.2)]) (fun REC y _ => by
    unfold c_X12_apart_L16b
    rw [l, live_gd hs, nI_clamp (by omega), xr.tst, b_shl (by omega), if_pos (nI_le (by omega) (by omega))]) (-2) rfl
  rw [e, hy]
theorem apart_ok {n : Nat} {T : TX} {σ : ST} {s t : Nat} {Lp Lw : LawT} {hc hr : PH} (C : CL n T σ s t Lp Lw hc hr) (a1 : Int32) : ∃ v : Int32, c_X11_apart a1 hc = some v ∧ c_X12_apart a1 hr = some v := by
  have C0 := C.cor
  have w4 := C0.twf.tst
  unfold c_X11_apart c_X12_apart
  rw [X12_in, Option.bind_some, if10]
  simp only [nm_p, C0.txt, gdT C0.t2]
  by_cases q1 : a1 < 0
  · rw [if_pos q1, if_neg (fun z => absurd z.1 (Int32.not_le.mpr q1))]; exact ⟨-1, rfl, rfl⟩
  rw [if_neg q1]
  by_cases q2 : a1 ≤ 1
  · rw [if_pos q2, if_pos ⟨Int32.not_lt.mp q1, q2⟩, fewC C0.twf C0.xc, Option.bind_some, fewR C0.twf C0.s2 C0.live C0.xr]
    have hc := ap_cases T (2 ^ T.tst) (p2_64 w4)
    rcases hc with hc | ⟨m, hm, hc⟩
    · rw [hc, if_pos m2_neg, if_pos rfl]
      refine ⟨-2, ?_, rfl⟩
      by_cases q3 : a1 = 1
      · rw [if_pos q3]
      · rw [if_neg q3]
    · rw [hc, if_neg (nI_pos (by omega)), if_neg (c := nI m = -2) (nI_nem2 (by omega)), bc (by omega), bits_ok (by omega)]
      simp only [Option.bind_some]
      by_cases q3 : a1 = 1
      · rw [if_pos q3]; exact ⟨_, rfl, rfl⟩
      · rw [if_neg q3]; exact ⟨_, rfl, rfl⟩
  · rw [if_neg q2, if_neg (fun z => q2 z.2)]; exact ⟨-1, rfl, rfl⟩
