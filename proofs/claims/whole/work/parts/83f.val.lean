/-- what a law's code is worth -/
def opV (k : Nat) (a b : Int32) : Int32 := if k = 2 then a + b else if k = 3 then a - b else if k = 4 then a * b else a / b
def rstep (v : Nat → Int32) (x : Nat × Nat) (st : List Int32) : Option (List Int32) := if x.1 = 0 then some (nI x.2 :: st) else if x.1 = 1 then some (v x.2 :: st) else match st with
  | b :: a :: r => if x.1 = 5 ∧ b = 0 then none else some (opV x.1 a b :: r)
  | _ => none
def rpn (v : Nat → Int32) : List (Nat × Nat) → List Int32 → Option (List Int32)
  | [], st => some st
  | x :: l, st => (rstep v x st).bind (rpn v l)
def exV (v : Nat → Int32) (U : List (Nat × Nat)) : Option Int32 := (rpn v U []).bind List.head?
theorem rstep2 (v : Nat → Int32) {x : Nat × Nat} (h : 2 ≤ x.1) (b a : Int32) (r : List Int32) : rstep v x (b :: a :: r) = if x.1 = 5 ∧ b = 0 then none else some (opV x.1 a b :: r) := by
  unfold rstep; rw [if_neg (by omega), if_neg (by omega)]
theorem rpn_st {v : Nat → Int32} {B : Nat} (st : List Int32) : ∀ (l : List (Nat × Nat)) (st' : List Int32) (r : Nat), htX B l st'.length = some r → rpn v l (st' ++ st) = (rpn v l st').map (· ++ st) ∧ ∀ s2, rpn v l st' = some s2 → s2.length = r
  | [], st', r, h => ⟨rfl, fun s2 e => by
    have e : some st' = some s2 := e
    have h : some st'.length = some r := h
    rw [← Option.some.inj e]; exact Option.some.inj h⟩
  | x :: l, st', r, h => by
    have h : (if x.1 < 2 then (if st'.length < B then htX B l (st'.length + 1) else none) else if 2 ≤ st'.length then htX B l (st'.length - 1) else none) = some r := h
    show (rstep v x (st' ++ st)).bind (rpn v l) = ((rstep v x st').bind (rpn v l)).map (· ++ st) ∧ ∀ s2, (rstep v x st').bind (rpn v l) = some s2 → s2.length = r
    by_cases q : x.1 < 2
    · rw [if_pos q] at h
      by_cases w : st'.length < B
      · rw [if_pos w] at h
        have one : ∀ y : Int32, rstep v x (st' ++ st) = some (y :: (st' ++ st)) → rstep v x st' = some (y :: st') → ((rstep v x (st' ++ st)).bind (rpn v l) = ((rstep v x st').bind (rpn v l)).map (· ++ st) ∧ ∀ s2, (rstep v x st').bind (rpn v l) = some s2 → s2.length = r) := fun y e1 e2 => by
          rw [e1, e2, Option.bind_some, Option.bind_some]
          exact rpn_st st l (y :: st') r h
        by_cases z : x.1 = 0
        · exact one (nI x.2) (by unfold rstep; rw [if_pos z]) (by unfold rstep; rw [if_pos z])
        · exact one (v x.2) (by unfold rstep; rw [if_neg z, if_pos (by omega)]) (by unfold rstep; rw [if_neg z, if_pos (by omega)])
      · rw [if_neg w] at h; exact absurd h (by simp)
    · rw [if_neg q] at h
      by_cases w : 2 ≤ st'.length
      · rw [if_pos w] at h
        match st', w, h with
        | b :: a :: s3, _, h =>
          rw [List.cons_append, List.cons_append, rstep2 v (by omega), rstep2 v (by omega)]
          by_cases z : x.1 = 5 ∧ b = 0
          · rw [if_pos z, if_pos z]; exact ⟨rfl, fun s2 e => absurd e (by simp)⟩
          · rw [if_neg z, if_neg z, Option.bind_some, Option.bind_some]
            exact rpn_st st l (opV x.1 a b :: s3) r h
      · rw [if_neg w] at h; exact absurd h (by simp)
theorem exV_st {v : Nat → Int32} {U : List (Nat × Nat)} {m : Nat} (ok : OKh U m) (st : List Int32) : rpn v U st = (exV v U).map (· :: st) := by
  obtain ⟨e, l⟩ := rpn_st (v := v) (B := m) st U [] 1 (ok.2 0 m (by omega))
  rw [List.nil_append] at e
  rw [e]
  unfold exV
  cases h : rpn v U [] with
  | none => rfl
  | some s2 =>
    have := l s2 h
    match s2, this with
    | [x], _ => rfl
/-- a stack in a row of cells, its top first -/
def StQ (a : Nat) : List Int32 → PH → Prop
  | [], _ => True
  | x :: l, h => h.1 a l.length = x ∧ StQ a l h
theorem StQ.fr {a : Nat} {h h' : PH} : ∀ {st : List Int32}, (∀ i, i < st.length → h'.1 a i = h.1 a i) → StQ a st h → StQ a st h'
  | [], _, _ => trivial
  | x :: l, k, q => ⟨(k l.length (Nat.lt_succ_self _)).trans q.1, StQ.fr (fun i hi => k i (Nat.lt_succ_of_lt hi)) q.2⟩
theorem StQ.push {a : Nat} {h : PH} {st : List Int32} (v : Int32) (q : StQ a st h) : StQ a (v :: st) (setI h a st.length v) := ⟨setI_eq _ _ _ _, q.fr (fun i hi => setI_ne (by omega))⟩
theorem nI_m1 (k : Nat) : nI (k + 1) + (-1) = nI k := by rw [← Int32.sub_eq_add_neg]; exact nI_pred k
theorem nI_m2 (k : Nat) : nI (k + 2) + (-2) = nI k := by
  rw [← Int32.sub_eq_add_neg, show (2 : Int32) = nI 2 from rfl, pk_sub (by omega), show k + 2 - 2 = k by omega]
def clB (q : Nat) : (Int32 → Int32 → Int32 → PH → Option (Int32 × PH)) → Int32 → Int32 → Int32 → PH → Option (Int32 × PH) := c_X2_answer_L7b q 218 (fun h29 => some ((0 : Int32), h29)) (fun w30 h31 => if w30 ≤ 0 then some (0, h31) else gd (ixOK (w30 - 1) 20) <| some ((h31.1 (q + 2) (w30 - 1).toNatClampNeg), h31)) (fun h32 => some (0, h32)) (fun h33 => some (0, h33)) (fun h34 => some (0, h34))
theorem cst_op {x : Nat × Nat} (h1 : 2 ≤ x.1) (h2 : x.1 ≤ 5) : (x.1 = 2 ∧ cst x = -43) ∨ (x.1 = 3 ∧ cst x = -45) ∨ (x.1 = 4 ∧ cst x = -42) ∨ (x.1 = 5 ∧ cst x = -47) := by
  unfold cst
  rw [if_neg (by omega), if_neg (by omega)]
  by_cases a : x.1 = 2
  · rw [if_pos a]; exact Or.inl ⟨a, rfl⟩
  · rw [if_neg a]
    by_cases b : x.1 = 3
    · rw [if_pos b]; exact Or.inr (Or.inl ⟨b, rfl⟩)
    · rw [if_neg b]
      by_cases c : x.1 = 4
      · rw [if_pos c]; exact Or.inr (Or.inr (Or.inl ⟨c, rfl⟩))
      · rw [if_neg c]; exact Or.inr (Or.inr (Or.inr ⟨by omega, rfl⟩))
/-- one step of the class's machine -/
theorem clStep {q at' n len : Nat} {x : Nat × Nat} {st : List Int32} {h : PH} (hq : q < 100) (ox : okI x) (l1 : x.1 < 2 → st.length < 20) (l2 : 2 ≤ x.1 → 2 ≤ st.length ∧ st.length ≤ 20) (cd : h.1 (q + 1) at' = cst x) (ln : h.1 q 1 = nI len) (hl : len ≤ 408) (ha : at' < len) (hn : n ≤ at') (sq : StQ (q + 2) st h) (REC : Int32 → Int32 → Int32 → PH → Option (Int32 × PH)) : (rstep (h.1 218) x st = none ∧ clB q REC (nI st.length) (nI at') (nI n) h = some (0, h)) ∨ ∃ st2 h', rstep (h.1 218) x st = some st2 ∧ clB q REC (nI st.length) (nI at') (nI n) h = REC (nI st2.length) (nI (at' + 1)) (nI (n + 1)) h' ∧ StQ (q + 2) st2 h' ∧ KP (fun r _ => r ≠ q + 2) h h' := by
  unfold clB c_X2_answer_L7b
  rw [ln, if_neg (nI_ge (a := n) (b := len) (by omega) (by omega)), if_neg (nI_ge (a := at') (b := len) (by omega) (by omega)), gdI (k := at') (by omega) (by omega), nI_clamp (n := at') (by omega), cd, nm_eq, nI_1, nm_eq]
  by_cases z : x.1 < 2
  · have hs := l1 z
    refine Or.inr ?_
    by_cases z0 : x.1 = 0
    · have hx := ox.2.1 z0
      have ec : cst x = nI x.2 := if_pos z0
      rw [ec, if_neg (nI_pos (by omega)), if_pos (show nI st.length < 20 from nI_lt (b := 20) hs (by omega)), if_neg (show ¬ (10000 : Int32) ≤ nI x.2 from nI_ge (b := 10000) hx (by omega)), gdI (k := st.length) hs (by omega), nI_clamp (n := st.length) (by omega), nm_eq, nI_1, nm_eq, nI_1, nm_eq]
      exact ⟨nI x.2 :: st, _, by unfold rstep; rw [if_pos z0], rfl, sq.push _, KP.setI (fun y => y rfl)⟩
    · have z1 : x.1 = 1 := by omega
      have hx := ox.2.2 z1
      have ec : cst x = nI (10000 + x.2) := by unfold cst; rw [if_neg z0, if_pos z1]
      rw [ec, if_neg (nI_pos (by omega)), if_pos (show nI st.length < 20 from nI_lt (b := 20) hs (by omega)), if_pos (show (10000 : Int32) ≤ nI (10000 + x.2) from nI_le (a := 10000) (by omega) (by omega)), show nI (10000 + x.2) - 10000 = nI x.2 from by rw [show (10000 : Int32) = nI 10000 from rfl, pk_sub (by omega), show 10000 + x.2 - 10000 = x.2 by omega]]
      unfold c_X2_valueOf
      rw [if_neg (show ¬ (9 : Int32) ≤ nI x.2 from nI_ge (b := 9) hx (by omega)), gdI (k := x.2) hx (by omega), nI_clamp (n := x.2) (by omega), Option.bind_some, gdI (k := st.length) hs (by omega), nI_clamp (n := st.length) (by omega), nm_eq, nI_1, nm_eq, nI_1, nm_eq]
      exact ⟨h.1 218 x.2 :: st, _, by unfold rstep; rw [if_neg z0, if_pos z1], rfl, sq.push _, KP.setI (fun y => y rfl)⟩
  · obtain ⟨hs, hs2⟩ := l2 (by omega)
    match st, hs, hs2, sq with
    | b :: a :: r, _, hs2, sq =>
      have lr : (b :: a :: r).length = r.length + 2 := rfl
      rw [lr] at hs2
      obtain ⟨sb, sa, sr⟩ := sq
      have sb : h.1 (q + 2) (r.length + 1) = b := sb
      rw [rstep2 _ (by omega), lr]
      have fin : ∀ w : Int32, ∃ h', setI h (q + 2) r.length w = h' ∧ StQ (q + 2) (w :: r) h' ∧ KP (fun r _ => r ≠ q + 2) h h' := fun w => ⟨_, rfl, sr.push w, KP.setI (fun y => y rfl)⟩
      have e1 : nI (r.length + 2) - 1 = nI (r.length + 1) := nI_pred _
      have e2 : nI (r.length + 2) - 2 = nI r.length := by rw [show (2 : Int32) = nI 2 from rfl, pk_sub (by omega), show r.length + 2 - 2 = r.length by omega]
      have e3 : nI (r.length + 2) + (-1) = nI (r.length + 1) := nI_m1 _
      have p2 : (2 : Int32) ≤ nI (r.length + 2) := nI_le (a := 2) (by omega) (by omega)
      rcases cst_op (x := x) (by omega) ox.1 with ⟨ex, ec⟩ | ⟨ex, ec⟩ | ⟨ex, ec⟩ | ⟨ex, ec⟩
      · rw [ec, if_pos (show (-43 : Int32) < 0 by decide), if_neg (show ¬ (-43 : Int32) = -1 by decide), if_pos p2, e2, gdI (k := r.length) (by omega) (by omega), nI_clamp (n := r.length) (by omega), sa, nm_eq, e1, gdI (k := r.length + 1) (by omega) (by omega), nI_clamp (n := r.length + 1) (by omega), sb, nm_eq, if_neg (show ¬ (-43 : Int32) = -2 by decide), if_neg (show ¬ (-43 : Int32) = -47 by decide), e3, nm_eq]
        unfold c_X2_joined
        rw [if_neg (show ¬ (-43 : Int32) = -45 by decide), if_neg (show ¬ (-43 : Int32) = -44 by decide), if_pos (Eq.refl (-43 : Int32)), Option.bind_some, nI_pred, gdI (k := r.length) (by omega) (by omega), nI_clamp (n := r.length) (by omega), nm_eq, nI_1, nm_eq, if_neg (show ¬ (x.1 = 5 ∧ b = 0) by omega)]
        obtain ⟨h', eh, q1, q2⟩ := fin (a + b)
        rw [eh]
        exact Or.inr ⟨(a + b) :: r, h', by unfold opV; rw [if_pos ex], rfl, q1, q2⟩
      · rw [ec, if_pos (show (-45 : Int32) < 0 by decide), if_neg (show ¬ (-45 : Int32) = -1 by decide), if_pos p2, e2, gdI (k := r.length) (by omega) (by omega), nI_clamp (n := r.length) (by omega), sa, nm_eq, e1, gdI (k := r.length + 1) (by omega) (by omega), nI_clamp (n := r.length + 1) (by omega), sb, nm_eq, if_neg (show ¬ (-45 : Int32) = -2 by decide), if_neg (show ¬ (-45 : Int32) = -47 by decide), e3, nm_eq]
        unfold c_X2_joined
        rw [if_pos (Eq.refl (-45 : Int32)), Option.bind_some, nI_pred, gdI (k := r.length) (by omega) (by omega), nI_clamp (n := r.length) (by omega), nm_eq, nI_1, nm_eq, if_neg (show ¬ (x.1 = 5 ∧ b = 0) by omega)]
        obtain ⟨h', eh, q1, q2⟩ := fin (a - b)
        rw [eh]
        exact Or.inr ⟨(a - b) :: r, h', by unfold opV; rw [if_neg (by omega), if_pos ex], rfl, q1, q2⟩
      · rw [ec, if_pos (show (-42 : Int32) < 0 by decide), if_neg (show ¬ (-42 : Int32) = -1 by decide), if_pos p2, e2, gdI (k := r.length) (by omega) (by omega), nI_clamp (n := r.length) (by omega), sa, nm_eq, e1, gdI (k := r.length + 1) (by omega) (by omega), nI_clamp (n := r.length + 1) (by omega), sb, nm_eq, if_neg (show ¬ (-42 : Int32) = -2 by decide), if_neg (show ¬ (-42 : Int32) = -47 by decide), e3, nm_eq]
        unfold c_X2_joined
        rw [if_neg (show ¬ (-42 : Int32) = -45 by decide), if_neg (show ¬ (-42 : Int32) = -44 by decide), if_neg (show ¬ (-42 : Int32) = -43 by decide), if_pos (Eq.refl (-42 : Int32)), Option.bind_some, nI_pred, gdI (k := r.length) (by omega) (by omega), nI_clamp (n := r.length) (by omega), nm_eq, nI_1, nm_eq, if_neg (show ¬ (x.1 = 5 ∧ b = 0) by omega)]
        obtain ⟨h', eh, q1, q2⟩ := fin (a * b)
        rw [eh]
        exact Or.inr ⟨(a * b) :: r, h', by unfold opV; rw [if_neg (by omega), if_neg (by omega), if_pos ex], rfl, q1, q2⟩
      · rw [ec, if_pos (show (-47 : Int32) < 0 by decide), if_neg (show ¬ (-47 : Int32) = -1 by decide), if_pos p2, e2, gdI (k := r.length) (by omega) (by omega), nI_clamp (n := r.length) (by omega), sa, nm_eq, e1, gdI (k := r.length + 1) (by omega) (by omega), nI_clamp (n := r.length + 1) (by omega), sb, nm_eq, if_neg (show ¬ (-47 : Int32) = -2 by decide), if_pos (Eq.refl (-47 : Int32))]
        by_cases b0 : b = 0
        · rw [if_pos b0, if_pos ⟨ex, b0⟩]
          exact Or.inl ⟨rfl, rfl⟩
        · rw [if_neg b0, e3, nm_eq]
          unfold c_X2_joined c_X2_joined_j44
          rw [if_neg (show ¬ (-47 : Int32) = -45 by decide), if_neg (show ¬ (-47 : Int32) = -44 by decide), if_neg (show ¬ (-47 : Int32) = -43 by decide), if_neg (show ¬ (-47 : Int32) = -42 by decide), if_neg b0, if_neg b0, Option.bind_some, nI_pred, gdI (k := r.length) (by omega) (by omega), nI_clamp (n := r.length) (by omega), nm_eq, nI_1, nm_eq, if_neg (fun y => b0 y.2)]
          obtain ⟨h', eh, q1, q2⟩ := fin (a / b)
          rw [eh]
          exact Or.inr ⟨(a / b) :: r, h', by unfold opV; rw [if_neg (by omega), if_neg (by omega), if_neg (by omega)], rfl, q1, q2⟩
/-- the class's machine over an expression's code -/
theorem clRun {q len : Nat} (hq : q < 100) (hl : len ≤ 408) : ∀ (l : List (Nat × Nat)) (st : List Int32) (at' n G r : Nat) (h : PH), (∀ x ∈ l, okI x) → htX 20 l st.length = some r → st.length ≤ 20 → (∀ i x, l[i]? = some x → h.1 (q + 1) (at' + i) = cst x) → h.1 q 1 = nI len → at' + l.length ≤ len → n ≤ at' → StQ (q + 2) st h → (rpn (h.1 218) l st = none ∧ ∃ h', lq4 (clB q) (G + l.length) (nI st.length) (nI at') (nI n) h = some (0, h') ∧ KP (fun r _ => r ≠ q + 2) h h') ∨ ∃ st2 h', rpn (h.1 218) l st = some st2 ∧ lq4 (clB q) (G + l.length) (nI st.length) (nI at') (nI n) h = lq4 (clB q) G (nI st2.length) (nI (at' + l.length)) (nI (n + l.length)) h' ∧ StQ (q + 2) st2 h' ∧ KP (fun r _ => r ≠ q + 2) h h'
  | [], st, at', n, G, r, h, _, _, _, _, _, _, _, sq => Or.inr ⟨st, h, rfl, rfl, sq, KP.rfl⟩
  | x :: l, st, at', n, G, r, h, ok, ht, s20, cd, ln, ha, hn, sq => by
    have ht : (if x.1 < 2 then (if st.length < 20 then htX 20 l (st.length + 1) else none) else if 2 ≤ st.length then htX 20 l (st.length - 1) else none) = some r := ht
    have ha : at' + (l.length + 1) ≤ len := ha
    have l1 : x.1 < 2 → st.length < 20 := fun z => by
      rw [if_pos z] at ht
      by_cases y : st.length < 20
      · exact y
      · rw [if_neg y] at ht; exact absurd ht (by simp)
    have l2 : 2 ≤ x.1 → 2 ≤ st.length ∧ st.length ≤ 20 := fun z => by
      rw [if_neg (by omega)] at ht
      by_cases y : 2 ≤ st.length
      · exact ⟨y, s20⟩
      · rw [if_neg y] at ht; exact absurd ht (by simp)
    have e0 : lq4 (clB q) (G + (x :: l).length) (nI st.length) (nI at') (nI n) h = clB q (lq4 (clB q) (G + l.length)) (nI st.length) (nI at') (nI n) h := rfl
    show (Option.bind _ _ = none ∧ _) ∨ ∃ st2 h', Option.bind _ _ = some st2 ∧ _
    rw [e0]
    rcases clStep (at' := at') (n := n) hq (ok x (List.mem_cons_self ..)) l1 l2 (cd 0 x rfl) ln hl (by omega) hn sq (lq4 (clB q) (G + l.length)) with ⟨a1, a2⟩ | ⟨st2, h1, a1, a2, a3, k⟩
    · rw [a1]; exact Or.inl ⟨rfl, h, a2, KP.rfl⟩
    · rw [a1, a2, Option.bind_some]
      have ht2 : htX 20 l st2.length = some r := by
        by_cases z : x.1 < 2
        · have w := l1 z
          rw [if_pos z, if_pos w] at ht
          unfold rstep at a1
          by_cases z0 : x.1 = 0
          · rw [if_pos z0] at a1; rw [← Option.some.inj a1]; exact ht
          · rw [if_neg z0, if_pos (by omega)] at a1; rw [← Option.some.inj a1]; exact ht
        · have w := l2 (by omega)
          rw [if_neg z, if_pos w.1] at ht
          match st, w, a1, ht with
          | b :: a :: s3, _, a1, ht =>
            rw [rstep2 _ (by omega)] at a1
            by_cases y : x.1 = 5 ∧ b = 0
            · rw [if_pos y] at a1; exact absurd a1 (by simp)
            · rw [if_neg y] at a1; rw [← Option.some.inj a1]; exact ht
      have s2 : st2.length ≤ 20 := by
        by_cases z : x.1 < 2
        · have w := l1 z
          unfold rstep at a1
          by_cases z0 : x.1 = 0
          · rw [if_pos z0] at a1; rw [← Option.some.inj a1]; exact w
          · rw [if_neg z0, if_pos (by omega)] at a1; rw [← Option.some.inj a1]; exact w
        · have w := l2 (by omega)
          match st, w, a1 with
          | b :: a :: s3, w, a1 =>
            rw [rstep2 _ (by omega)] at a1
            by_cases y : x.1 = 5 ∧ b = 0
            · rw [if_pos y] at a1; exact absurd a1 (by simp)
            · rw [if_neg y] at a1; rw [← Option.some.inj a1]
              have w2 : s3.length + 2 ≤ 20 := w.2
              show s3.length + 1 ≤ 20
              omega
      have v2 : h1.1 218 = h.1 218 := funext fun j => k.i (by omega)
      have := clRun hq hl l st2 (at' + 1) (n + 1) G r h1 (fun y hy => ok y (List.mem_cons_of_mem _ hy)) ht2 s2 (fun i y e => by
        rw [k.i (by omega), show at' + 1 + i = at' + (i + 1) by omega]; exact cd (i + 1) y e) ((k.i (by omega)).trans ln) (by omega) (by omega) a3
      rw [v2] at this
      have e1 : at' + (x :: l).length = at' + 1 + l.length := by show at' + (l.length + 1) = _; omega
      have e2 : n + (x :: l).length = n + 1 + l.length := by show n + (l.length + 1) = _; omega
      rw [e1, e2]
      rcases this with ⟨b1, h2, b2, b3⟩ | ⟨st3, h2, b1, b2, b3, b4⟩
      · exact Or.inl ⟨b1, h2, b2, k.trans b3⟩
      · exact Or.inr ⟨st3, h2, b1, b2, b3, k.trans b4⟩
/-- an expression's code is worth what exV says, or the law is worth 0 -/
theorem clEx {q len : Nat} {U : List (Nat × Nat)} {st : List Int32} {at' n G : Nat} {h : PH} (hq : q < 100) (hl : len ≤ 408) (ok : OKh U 15) (hs : st.length ≤ 5) (cd : ∀ i x, U[i]? = some x → h.1 (q + 1) (at' + i) = cst x) (ln : h.1 q 1 = nI len) (ha : at' + U.length ≤ len) (hn : n ≤ at') (sq : StQ (q + 2) st h) (hG : U.length ≤ G) : (exV (h.1 218) U = none ∧ ∃ h', lq4 (clB q) G (nI st.length) (nI at') (nI n) h = some (0, h') ∧ KP (fun r _ => r ≠ q + 2) h h') ∨ ∃ a h', exV (h.1 218) U = some a ∧ lq4 (clB q) G (nI st.length) (nI at') (nI n) h = lq4 (clB q) (G - U.length) (nI (st.length + 1)) (nI (at' + U.length)) (nI (n + U.length)) h' ∧ StQ (q + 2) (a :: st) h' ∧ KP (fun r _ => r ≠ q + 2) h h' := by
  have r := clRun hq hl U st at' n (G - U.length) (st.length + 1) h ok.1 (ok.2 _ 20 (by omega)) (by omega) cd ln ha hn sq
  rw [show G - U.length + U.length = G by omega, exV_st ok st] at r
  cases e : exV (h.1 218) U with
  | none =>
    rw [e] at r
    rcases r with ⟨_, r⟩ | ⟨st2, h2, b1, _⟩
    · exact Or.inl ⟨rfl, r⟩
    · exact absurd b1 (by simp)
  | some a =>
    rw [e] at r
    rcases r with ⟨r, _⟩ | ⟨st2, h2, b1, b2, b3, b4⟩
    · exact absurd r (by simp)
    · have b1 : a :: st = st2 := Option.some.inj b1
      subst b1
      exact Or.inr ⟨a, h2, rfl, b2, b3, b4⟩
