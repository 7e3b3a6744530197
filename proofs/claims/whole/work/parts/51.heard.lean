def cntB (f : Nat → Bool) : Nat → Nat
  | 0 => 0
  | n + 1 => cntB f n + if f n then 1 else 0
theorem cnt_le (f : Nat → Bool) : ∀ n, cntB f n ≤ n
  | 0 => Nat.le_refl 0
  | n + 1 => by
    have := cnt_le f n
    show cntB f n + (if f n then 1 else 0) ≤ n + 1
    cases f n
    · simp only [Bool.false_eq_true, if_false]; omega
    · simp only [if_true]; omega
theorem cnt_congr {f g : Nat → Bool} : ∀ {n : Nat}, (∀ d, d < n → f d = g d) → cntB f n = cntB g n
  | 0, _ => rfl
  | n + 1, h => by
    show cntB f n + (if f n then 1 else 0) = cntB g n + if g n then 1 else 0
    rw [cnt_congr (fun d hd => h d (by omega)), h n (by omega)]
theorem cnt_up {f : Nat → Bool} {n : Nat} : ∀ (k : Nat), (∀ d, n ≤ d → d < n + k → f d = false) → cntB f (n + k) = cntB f n
  | 0, _ => rfl
  | k + 1, h => by
    show cntB f (n + k) + (if f (n + k) then 1 else 0) = _
    rw [cnt_up k (fun d a b => h d a (by omega)), h (n + k) (by omega) (by omega)]
    rfl
theorem cnt_9 {f : Nat → Bool} {n : Nat} (hn : n ≤ 9) (h : ∀ d, n ≤ d → d < 9 → f d = false) : cntB f 9 = cntB f n := by
  have := cnt_up (f := f) (n := n) (9 - n) (fun d a b => h d a (by omega))
  rwa [show n + (9 - n) = 9 from by omega] at this
theorem cnt_for {f : Nat → Bool} : ∀ {N : Nat}, forS (fun i x => if f i = true then x + 1 else x) N 0 = nI (cntB f N)
  | 0 => nI_0.symm
  | n + 1 => by
    show (if f n = true then forS _ n 0 + 1 else forS _ n 0) = nI (cntB f n + if f n then 1 else 0)
    rw [cnt_for (N := n)]
    by_cases q : f n = true
    · rw [if_pos q, if_pos q, nI_1]
    · rw [if_neg q, if_neg q]; rfl
theorem cnt_zero {f : Nat → Bool} : ∀ {n : Nat}, (∀ d, d < n → f d = false) → cntB f n = 0
  | 0, _ => rfl
  | n + 1, h => by
    show cntB f n + (if f n then 1 else 0) = 0
    rw [cnt_zero (fun d hd => h d (by omega)), h n (by omega)]; rfl
theorem bc0 : ∀ m : Nat, m < 512 → c_J6_bitCount_0f7a4 (nI m) = some (nI (cntB (fun d => m.testBit d) 9)) := by decide +kernel
theorem bc {m : Nat} (h : m < 512) : c_J6_bitCount_0f7a4 (nI m) = some (nI (cntB (fun d => m.testBit d) 9)) := bc0 m h
theorem if_1 {P : Prop} [Decidable P] : ((if P then (1 : Int32) else 0) = 1) = P := by
  by_cases h : P
  · rw [if_pos h]; exact (eq_true rfl).trans (eq_true h).symm
  · rw [if_neg h]; exact (eq_false (by decide)).trans (eq_false h).symm
theorem if_0 {P : Prop} [Decidable P] : ((if P then (1 : Int32) else 0) = 0) = ¬ P := by
  by_cases h : P
  · rw [if_pos h]; exact (eq_false (by decide)).trans (eq_false (fun q => q h)).symm
  · rw [if_neg h]; exact (eq_true rfl).trans (eq_true h).symm
theorem if_0i {α : Type} {P : Prop} [Decidable P] {a b : α} : (if (if P then (1 : Int32) else 0) = 0 then a else b) = if ¬ P then a else b := by
  by_cases h : P
  · rw [if_pos h, if_neg (show ¬ (1 : Int32) = 0 by decide), if_neg (fun q => q h)]
  · rw [if_neg h, if_pos rfl, if_pos h]
theorem if_1i {α : Type} {P : Prop} [Decidable P] {a b : α} : (if (if P then (1 : Int32) else 0) = 1 then a else b) = if P then a else b := by
  by_cases h : P
  · rw [if_pos h, if_pos rfl, if_pos h]
  · rw [if_neg h, if_neg (show ¬ (0 : Int32) = 1 by decide), if_neg h]
/-- the kind told for a duty -/
def kdP (T : TX) (σ : ST) (d : Nat) : Nat := T.kind (σ.plan d).toNatClampNeg
def elseP (T : TX) (σ : ST) (x k day d : Nat) : Bool := decide ((σ.out d = 1 ∨ σ.out d = 2) ∧ T.dman d = x ∧ T.dday d = day ∧ kdP T σ d ≠ k)
theorem isToldElse_ok {T : TX} {σ : ST} {s : Nat} {h : PH} (w : T.wf) (sw : ST.pt T σ) (hs : s < 2) (l : h.1 0 18 = nI s) (xr : TxR s T h) (x : StV σ h) {a k day : Nat} (ha : a < 1000) (hk : k ≤ 9) (hd : day < 2 ^ 31) : c_X12_isToldElse (nI a) (nI k) (nI day) h = some (if anyX (elseP T σ a k day) T.dut 0 = true then 1 else 0) := by
  have w1 := w.men; have w2 := w.dut; have w3 := w.exc
  unfold c_X12_isToldElse
  simp only [nm]
  rw [for_any0 (K := some 0) (E := some 1) (elseP T σ a k day) (N := T.dut) (by omega) (fun REC i hi => ?_) (fun REC => ?_)]
  · by_cases q : anyX (elseP T σ a k day) T.dut 0 = true
    · rw [if_pos q, if_pos q]
    · rw [if_neg q, if_neg q]
  · unfold c_X12_isToldElse_L3b elseP
    have d1 := w.dman i hi; have d2 := w.dday i hi
    rw [l, live_gd hs, nI_clamp (by omega), xr.dut, if_neg (nI_ge hi (by omega)), manOf_ok w hs l xr hi, dayOf_ok w hs l xr hi]
    simp (disch := omega) only [nm, gdt, ixOK_nI, nI_clamp, nI_mul9, nI_mul7, nI_mul5, nI_mul6, nI_a4, nI_a13, nI_a22, nI_a31, nI_add, nI_1, Option.bind_some, one_ne0, if_false, if_true, x.told, told_neg w sw, nI_eq]
    rcases told_cases sw (show i < 9 by omega) with ⟨q, e⟩ | ⟨e, he, q, pe, te⟩
    · simp only [q, not_false_eq_true, if_true, false_and, decide_false, Bool.false_eq_true, if_false]
    · have hk1 := w.kind e he
      have kd : kdP T σ i = T.kind e := by unfold kdP; rw [pe, nI_clamp (by omega)]
      simp (disch := omega) only [nm, gdt, ixOK_nI, nI_clamp, nI_mul9, nI_mul7, nI_mul5, nI_mul6, nI_a4, nI_a13, nI_a22, nI_a31, nI_add, nI_1, Option.bind_some, one_ne0, if_false, if_true, q, te, not_true_eq_false, true_and, l, xr.kind e he, nI_eq, kd]
      by_cases q1 : T.dman i = a <;> by_cases q2 : T.dday i = day <;> by_cases q3 : T.kind e = k <;> simp [q1, q2, q3]
  · unfold c_X12_isToldElse_L3b
    rw [l, live_gd hs, nI_clamp (by omega), xr.dut, if_pos (nI_le (by omega) (by omega))]
def heardB (T : TX) (σ : ST) (a k day : Nat) (x : Nat) : Bool := (T.know a).testBit x && anyX (elseP T σ x k day) T.dut 0
def heardN (T : TX) (σ : ST) (a k day : Nat) : Nat := cntB (heardB T σ a k day) T.men
theorem heardBy_ok {T : TX} {σ : ST} {s : Nat} {h : PH} (w : T.wf) (sw : ST.pt T σ) (hs : s < 2) (l : h.1 0 18 = nI s) (xr : TxR s T h) (x : StV σ h) {a k day : Nat} (ha : a < T.men) (hk : k ≤ 9) (hd : day < 2 ^ 31) : c_X12_heardBy (nI a) (nI k) (nI day) h = some (nI (heardN T σ a k day)) := by
  have w1 := w.men; have w2 := w.dut; have w3 := w.exc
  have ka := w.know a ha
  unfold c_X12_heardBy heardN
  simp only [nm]
  rw [← cnt_for]
  refine for_f (K := fun w8 => some w8) _ (by omega) (fun REC i y hi => ?_) (fun REC y => ?_) 0
  · unfold c_X12_heardBy_L6b heardB
    rw [l, live_gd hs, nI_clamp (by omega), xr.men, if_neg (nI_ge hi (by omega)), isToldElse_ok w sw hs l xr x (by omega) hk hd]
    simp (disch := omega) only [nm, gdt, ixOK_nI, nI_clamp, nI_mul9, nI_mul7, nI_mul5, nI_mul6, nI_a4, nI_a13, nI_a22, nI_a31, nI_add, nI_1, Option.bind_some, one_ne0, if_false, if_true, xr.know a ha, b_get, if_1, if_0, Bool.and_eq_true]
    by_cases q1 : (T.know a).testBit i = true <;> by_cases q2 : anyX (elseP T σ i k day) T.dut 0 = true <;> simp [q1, q2]
  · unfold c_X12_heardBy_L6b
    rw [l, live_gd hs, nI_clamp (by omega), xr.men, if_pos (nI_le (by omega) (by omega))]
theorem kindTold_ok {T : TX} {σ : ST} {p t : Nat} {h : PH} (w : T.wf) (sw : ST.pt T σ) (xc : TxC t T h) (x : StC p σ h) {d : Nat} (hd : d < 9) : c_X8_kindTold p t (nI d) h = some (if σ.out d = 1 ∨ σ.out d = 2 then nI (kdP T σ d) else -1) := by
  have w3 := w.exc
  unfold c_X8_kindTold c_X8_kindTold_j39
  simp (disch := omega) only [nm, gdt, ixOK_nI, nI_clamp, nI_mul9, nI_mul7, nI_mul5, nI_mul6, nI_a4, nI_a13, nI_a22, nI_a31, nI_add, nI_1, Option.bind_some, one_ne0, if_false, if_true, x.plan, x.freed, x.caught, told_bit2, if_0]
  rcases told_cases sw hd with ⟨q, e⟩ | ⟨e, he, q, pe, te⟩
  · simp only [q, not_false_eq_true, if_true, if_false]
  · have kd : kdP T σ d = T.kind e := by unfold kdP; rw [pe, nI_clamp (by omega)]
    rw [pe, xc.exc, if_neg (fun z => z q), if_neg (nI_pos (by omega)), if_neg (nI_ge he (by omega)), if_pos q, kd]
    simp (disch := omega) only [nm, gdt, ixOK_nI, nI_clamp, nI_mul9, nI_mul7, nI_mul5, nI_mul6, nI_a4, nI_a13, nI_a22, nI_a31, nI_add, nI_1, Option.bind_some, one_ne0, if_false, if_true, xc.kind e he]
theorem differ_ok {P Q : Prop} [Decidable P] {k l : Nat} (hk : k < 1000) (hl : l < 1000) : c_X8_differ (if P then nI k else -1) (nI l) = some (if P ∧ k ≠ l then 1 else 0) := by
  unfold c_X8_differ
  rw [if_neg (c := nI l = -1) (nI_nem1 (by omega))]
  by_cases p : P
  · rw [if_pos p, if_neg (nI_nem1 (by omega)), ite_cg (nI_eq (a := k) (b := l) (by omega) (by omega))]
    by_cases q : k = l <;> simp [p, q]
  · rw [if_neg p, if_pos rfl, if_neg (fun q => p q.1)]
def othM (T : TX) (σ : ST) (k day : Nat) (i : Nat) (m : Nat) : Nat := if T.dday i = day ∧ (σ.out i = 1 ∨ σ.out i = 2) ∧ kdP T σ i ≠ k then m ||| 2 ^ T.dman i else m
theorem oth_bit {T : TX} {σ : ST} {k day x : Nat} : ∀ {n : Nat}, ((forS (othM T σ k day) n 0).testBit x = true ↔ ∃ d, d < n ∧ elseP T σ x k day d = true)
  | 0 => by
    show (0 : Nat).testBit x = true ↔ _
    rw [Nat.zero_testBit]
    exact ⟨fun h => absurd h (by decide), fun ⟨d, h, _⟩ => absurd h (by omega)⟩
  | n + 1 => by
    have ih := oth_bit (T := T) (σ := σ) (k := k) (day := day) (x := x) (n := n)
    show (othM T σ k day n (forS (othM T σ k day) n 0)).testBit x = true ↔ _
    generalize forS (othM T σ k day) n 0 = m at ih
    unfold othM
    by_cases q : T.dday n = day ∧ (σ.out n = 1 ∨ σ.out n = 2) ∧ kdP T σ n ≠ k
    · rw [if_pos q, Nat.testBit_or, Nat.testBit_two_pow, Bool.or_eq_true, ih, decide_eq_true_eq]
      constructor
      · rintro (⟨d, h1, h2⟩ | h)
        · exact ⟨d, by omega, h2⟩
        · exact ⟨n, by omega, by unfold elseP; exact decide_eq_true ⟨q.2.1, h, q.1, q.2.2⟩⟩
      · rintro ⟨d, h1, h2⟩
        by_cases e : d = n
        · subst e; unfold elseP at h2; exact Or.inr (of_decide_eq_true h2).2.1
        · exact Or.inl ⟨d, by omega, h2⟩
    · rw [if_neg q, ih]
      constructor
      · rintro ⟨d, h1, h2⟩; exact ⟨d, by omega, h2⟩
      · rintro ⟨d, h1, h2⟩
        by_cases e : d = n
        · subst e; unfold elseP at h2; have := of_decide_eq_true h2; exact absurd ⟨this.2.2.1, this.1, this.2.2.2⟩ q
        · exact ⟨d, by omega, h2⟩
theorem oth_lt {T : TX} {σ : ST} {k day : Nat} (w : T.wf) : ∀ {n : Nat}, n ≤ T.dut → forS (othM T σ k day) n 0 < 32
  | 0, _ => by show 0 < 32; omega
  | n + 1, h => by
    have ih := oth_lt (σ := σ) (k := k) (day := day) w (n := n) (by omega)
    have w1 := w.men; have d1 := w.dman n (by omega)
    show othM T σ k day n (forS (othM T σ k day) n 0) < 32
    generalize forS (othM T σ k day) n 0 = m at ih
    unfold othM
    by_cases q : T.dday n = day ∧ (σ.out n = 1 ∨ σ.out n = 2) ∧ kdP T σ n ≠ k
    · rw [if_pos q]; exact Nat.or_lt_two_pow (n := 5) ih (Nat.pow_lt_pow_right (a := 2) (n := 5) (by decide) (by omega))
    · rw [if_neg q]; exact ih
theorem anyX_0 {P : Nat → Bool} {N : Nat} : anyX P N 0 = true ↔ ∃ d, d < N ∧ P d = true := by
  rw [anyX_iff]
  exact ⟨fun ⟨j, _, b, c⟩ => ⟨j, b, c⟩, fun ⟨j, b, c⟩ => ⟨j, by omega, b, c⟩⟩
theorem bool_eq {a b : Bool} (h : a = true ↔ b = true) : a = b := by cases a <;> cases b <;> simp_all
theorem toldOtherwise_ok {T : TX} {σ : ST} {p t : Nat} {h : PH} (w : T.wf) (sw : ST.pt T σ) (xc : TxC t T h) (x : StC p σ h) {a k : Nat} (ha : a < T.men) (hk : k ≤ 9) (ht : σ.today < 2 ^ 31) : c_X8_toldOtherwise p t (nI a) (nI k) h = some (nI (heardN T σ a k σ.today)) := by
  have w1 := w.men; have w2 := w.dut; have w3 := w.exc
  have ka := w.know a ha
  have om := oth_lt (σ := σ) (k := k) (day := σ.today) w (Nat.le_refl T.dut)
  unfold c_X8_toldOtherwise
  simp only [nm]
  have key : ∀ (n : Nat) (m : Nat), n ≤ T.dut → True := fun _ _ _ => trivial
  have loop : ∀ K : Int32 → Option Int32, lq2 (c_X8_toldOtherwise_L6b p t (nI a) (nI k) h K) fu 0 0 = K (nI (forS (othM T σ k σ.today) T.dut 0)) := fun K => by
    obtain ⟨y, e, hy⟩ := for_r (B := c_X8_toldOtherwise_L6b p t (nI a) (nI k) h K) (K := K) (N := T.dut) (fun i y => y = nI (forS (othM T σ k σ.today) i 0)) (by omega) (fun REC i y hi hp => by
      refine ⟨nI (othM T σ k σ.today i (forS (othM T σ k σ.today) i 0)), ?_, rfl⟩
      generalize forS (othM T σ k σ.today) i 0 = m at hp
      have d1 := w.dman i hi; have d2 := w.dday i hi
      have kk : kdP T σ i < 1000 ∨ ¬ (σ.out i = 1 ∨ σ.out i = 2) := by
        rcases told_cases sw (show i < 9 by omega) with ⟨q, _⟩ | ⟨e, he, q, pe, _⟩
        · exact Or.inr q
        · have := w.kind e he
          exact Or.inl (by unfold kdP; rw [pe, nI_clamp (by omega)]; omega)
      unfold c_X8_toldOtherwise_L6b othM
      rw [hp, xc.dut, if_neg (nI_ge hi (by omega)), kindTold_ok w sw xc x (show i < 9 by omega), Option.bind_some]
      simp (disch := omega) only [nm, gdt, ixOK_nI, nI_clamp, nI_mul9, nI_mul7, nI_mul5, nI_mul6, nI_a4, nI_a13, nI_a22, nI_a31, nI_add, nI_1, Option.bind_some, one_ne0, if_false, if_true, xc.dday i hi, xc.dman i hi, x.today, nI_eq]
      by_cases q1 : T.dday i = σ.today
      · by_cases q2 : σ.out i = 1 ∨ σ.out i = 2
        · have kk1 : kdP T σ i < 1000 := by rcases kk with z | z; exact z; exact absurd q2 z
          have df : c_X8_differ (nI (kdP T σ i)) (nI k) = some (if kdP T σ i ≠ k then 1 else 0) := by
            have := differ_ok (P := True) (Q := True) kk1 (show k < 1000 by omega)
            simpa using this
          rw [if_pos q1, if_pos q2, df, Option.bind_some, if_0i]
          by_cases q3 : kdP T σ i = k
          · rw [if_pos (by simp [q3]), if_neg (fun z => z.2.2 q3)]
          · rw [if_neg (fun z => z q3), if_pos ⟨q1, q2, q3⟩, b_shl (by omega), b_or]
        · have df : c_X8_differ (-1) (nI k) = some 0 := by unfold c_X8_differ; rw [if_pos rfl]
          rw [if_pos q1, if_neg q2, df, Option.bind_some, if_pos rfl, if_neg (fun z => q2 z.2.1)]
      · rw [if_neg q1, if_neg (fun z => q1 z.1)]) (fun REC y _ => by
      unfold c_X8_toldOtherwise_L6b
      rw [xc.dut, if_pos (nI_le (by omega) (by omega))]) 0 nI_0.symm
    rw [e, hy]
  rw [loop]
  have im : c_X9_isMan t (nI a) h = some 1 := by
    unfold c_X9_isMan
    rw [xc.men]; exact isC_lt _ (by omega) a ha
  have lt : (forS (othM T σ k σ.today) T.dut 0 &&& T.know a) < 512 := by
    have := Nat.and_lt_two_pow (n := 5) (forS (othM T σ k σ.today) T.dut 0) ka
    omega
  simp (disch := omega) only [nm, gdt, ixOK_nI, nI_clamp, nI_mul9, nI_mul7, nI_mul5, nI_mul6, nI_a4, nI_a13, nI_a22, nI_a31, nI_add, nI_1, Option.bind_some, one_ne0, if_false, if_true, im, xc.know a ha, b_and, bc lt]
  unfold heardN
  rw [cnt_9 (n := T.men) (by omega) (fun d a b => ?_), cnt_congr (g := heardB T σ a k σ.today) (fun d hd => ?_)]
  · unfold heardB
    rw [Nat.testBit_and, Bool.and_comm]
    congr 1
    exact bool_eq (oth_bit.trans anyX_0.symm)
  · rw [Nat.testBit_and]
    have : (forS (othM T σ k σ.today) T.dut 0).testBit d = false := by
      apply Bool.eq_false_iff.mpr
      intro z
      obtain ⟨j, hj, q⟩ := oth_bit.mp z
      unfold elseP at q
      have := (of_decide_eq_true q).2.1
      have := w.dman j hj
      omega
    rw [this]; rfl
