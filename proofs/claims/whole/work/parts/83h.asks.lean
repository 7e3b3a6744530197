def tmB (to : Int32) : (Int32 → Int32 → PH → Option (Int32 × PH)) → Int32 → Int32 → PH → Option (Int32 × PH) := c_X12_termOf_L5b to (fun h21 => nm (setI h21 0 59 1) fun h22 => some (0, h22)) (fun h23 => some ((h23.1 42 0), h23))
/-- one step of the reference's machine -/
theorem tmStep {c to : Nat} {x : Nat × Nat} {st : List Int32} {h : PH} (ox : okI x) (l1 : x.1 < 2 → st.length < 400) (l2 : 2 ≤ x.1 → 2 ≤ st.length ∧ st.length ≤ 400) (cd : h.1 38 c = nI x.1 ∧ h.1 39 c = nI x.2) (hc : c < to) (ht : to ≤ 840) (sq : StQ 42 st h) (REC : Int32 → Int32 → PH → Option (Int32 × PH)) : (rstep (h.1 41) x st = none ∧ tmB (nI to) REC (nI st.length) (nI c) h = some (0, setI h 0 59 1)) ∨ ∃ st2 h', rstep (h.1 41) x st = some st2 ∧ tmB (nI to) REC (nI st.length) (nI c) h = REC (nI st2.length) (nI (c + 1)) h' ∧ StQ 42 st2 h' ∧ KP (fun r _ => r ≠ 42) h h' := by
  unfold tmB c_X12_termOf_L5b
  rw [if_neg (nI_ge (a := c) (b := to) (by omega) (by omega)), gdI (k := c) (by omega) (by omega), nI_clamp (n := c) (by omega), cd.1, nm_eq]
  have o5 := ox.1
  by_cases z : x.1 < 2
  · have hs := l1 z
    refine Or.inr ?_
    rw [if_neg (show ¬ (2 : Int32) ≤ nI x.1 from nI_ge (b := 2) z (by omega)), ite_cg (show nI x.1 = 0 ↔ x.1 = 0 from nI_lit (by omega) 0 (by omega) rfl)]
    by_cases z0 : x.1 = 0
    · rw [if_pos z0, gdI (k := c) (by omega) (by omega), gdI (k := st.length) hs (by omega), nI_clamp (n := st.length) (by omega), cd.2, nm_eq, nI_1, nm_eq, nI_1, nm_eq]
      exact ⟨nI x.2 :: st, _, by unfold rstep; rw [if_pos z0], rfl, sq.push _, KP.setI (fun y => y rfl)⟩
    · have z1 : x.1 = 1 := by omega
      have hx := ox.2.2 z1
      rw [if_neg z0, gdI (k := c) (by omega) (by omega), cd.2, gdI (k := x.2) hx (by omega), gdI (k := st.length) hs (by omega), nI_clamp (n := st.length) (by omega), nI_clamp (n := x.2) (by omega), nm_eq, nI_1, nm_eq, nI_1, nm_eq]
      exact ⟨h.1 41 x.2 :: st, _, by unfold rstep; rw [if_neg z0, if_pos z1], rfl, sq.push _, KP.setI (fun y => y rfl)⟩
  · obtain ⟨hs, hs2⟩ := l2 (by omega)
    match st, hs, hs2, sq with
    | b :: a :: r, _, hs2, sq =>
      have lr : (b :: a :: r).length = r.length + 2 := rfl
      rw [lr] at hs2
      obtain ⟨sb, sa, sr⟩ := sq
      have sb : h.1 42 (r.length + 1) = b := sb
      have e3 : nI (r.length + 2) + (-1) = nI (r.length + 1) := nI_m1 _
      rw [rstep2 _ (by omega), lr, if_pos (show (2 : Int32) ≤ nI x.1 from nI_le (a := 2) (by omega) (by omega)), e3, nm_eq, nI_pred, gdI (k := r.length) (by omega) (by omega), nI_clamp (n := r.length) (by omega), sa, nm_eq, gdI (k := r.length + 1) (by omega) (by omega), nI_clamp (n := r.length + 1) (by omega), sb, nm_eq, ite_cg (show nI x.1 = 5 ↔ x.1 = 5 from nI_lit (by omega) 5 (by omega) rfl)]
      have fin : ∀ w : Int32, ∃ h', setI h 42 r.length w = h' ∧ StQ 42 (w :: r) h' ∧ KP (fun r _ => r ≠ 42) h h' := fun w => ⟨_, rfl, sr.push w, KP.setI (fun y => y rfl)⟩
      have core : ¬ (x.1 = 5 ∧ b = 0) → ∃ st2 h', some (opV x.1 a b :: r) = some st2 ∧ c_X12_termOf_j104 (nI to) (fun h21 => nm (setI h21 0 59 1) fun h22 => some ((0 : Int32), h22)) (fun h23 => some ((h23.1 42 0), h23)) REC (nI (r.length + 1)) (nI c) (nI x.1) a b h = REC (nI st2.length) (nI (c + 1)) h' ∧ StQ 42 st2 h' ∧ KP (fun r _ => r ≠ 42) h h' := fun nb => by
        unfold c_X12_termOf_j104
        rw [nI_pred, ite_cg (show nI x.1 = 2 ↔ x.1 = 2 from nI_lit (by omega) 2 (by omega) rfl), ite_cg (show nI x.1 = 3 ↔ x.1 = 3 from nI_lit (by omega) 3 (by omega) rfl), ite_cg (show nI x.1 = 4 ↔ x.1 = 4 from nI_lit (by omega) 4 (by omega) rfl)]
        unfold opV
        by_cases y2 : x.1 = 2
        · rw [if_pos y2, if_pos y2, gdI (k := r.length) (by omega) (by omega), nI_clamp (n := r.length) (by omega), nm_eq, nI_1, nm_eq]
          obtain ⟨h', eh, q1, q2⟩ := fin (a + b)
          rw [eh]
          exact ⟨_, h', rfl, rfl, q1, q2⟩
        rw [if_neg y2, if_neg y2]
        by_cases y3 : x.1 = 3
        · rw [if_pos y3, if_pos y3, gdI (k := r.length) (by omega) (by omega), nI_clamp (n := r.length) (by omega), nm_eq, nI_1, nm_eq]
          obtain ⟨h', eh, q1, q2⟩ := fin (a - b)
          rw [eh]
          exact ⟨_, h', rfl, rfl, q1, q2⟩
        rw [if_neg y3, if_neg y3]
        by_cases y4 : x.1 = 4
        · rw [if_pos y4, if_pos y4, gdI (k := r.length) (by omega) (by omega), nI_clamp (n := r.length) (by omega), nm_eq, nI_1, nm_eq]
          obtain ⟨h', eh, q1, q2⟩ := fin (a * b)
          rw [eh]
          exact ⟨_, h', rfl, rfl, q1, q2⟩
        rw [if_neg y4, if_neg y4, if_neg (fun y => nb ⟨by omega, y⟩), gdI (k := r.length) (by omega) (by omega), nI_clamp (n := r.length) (by omega), nm_eq, nI_1, nm_eq]
        obtain ⟨h', eh, q1, q2⟩ := fin (a / b)
        rw [eh]
        exact ⟨_, h', rfl, rfl, q1, q2⟩
      by_cases y5 : x.1 = 5
      · rw [if_pos y5]
        by_cases b0 : b = 0
        · rw [if_pos b0, if_pos ⟨y5, b0⟩]
          exact Or.inl ⟨rfl, rfl⟩
        · rw [if_neg b0, if_neg (fun y => b0 y.2)]
          exact Or.inr (core (fun y => b0 y.2))
      · rw [if_neg y5, if_neg (fun y => y5 y.1)]
        exact Or.inr (core (fun y => y5 y.1))
theorem rstep_len {v : Nat → Int32} {x : Nat × Nat} {st st2 : List Int32} (h : rstep v x st = some st2) : (x.1 < 2 ∧ st2.length = st.length + 1) ∨ (2 ≤ x.1 ∧ st2.length + 1 = st.length) := by
  by_cases z : x.1 < 2
  · unfold rstep at h
    by_cases z0 : x.1 = 0
    · rw [if_pos z0] at h; rw [← Option.some.inj h]; exact Or.inl ⟨z, rfl⟩
    · rw [if_neg z0, if_pos (by omega)] at h; rw [← Option.some.inj h]; exact Or.inl ⟨z, rfl⟩
  · cases st with
    | nil =>
      unfold rstep at h
      rw [if_neg (by omega), if_neg (by omega)] at h
      exact absurd (show (none : Option (List Int32)) = some st2 from h) (by simp)
    | cons b t =>
      cases t with
      | nil =>
        unfold rstep at h
        rw [if_neg (by omega), if_neg (by omega)] at h
        exact absurd (show (none : Option (List Int32)) = some st2 from h) (by simp)
      | cons a r =>
        rw [rstep2 _ (by omega)] at h
        by_cases y : x.1 = 5 ∧ b = 0
        · rw [if_pos y] at h; exact absurd h (by simp)
        · rw [if_neg y] at h; rw [← Option.some.inj h]; exact Or.inr ⟨by omega, rfl⟩
def ItR (o : Nat) (l : List (Nat × Nat)) (h : PH) : Prop := ∀ i x, l[i]? = some x → h.1 38 (o + i) = nI x.1 ∧ h.1 39 (o + i) = nI x.2
theorem ItR.l {o : Nat} {a b : List (Nat × Nat)} {h : PH} (x : ItR o (a ++ b) h) : ItR o a h := fun i v e => x i v (by
  have := (List.getElem?_eq_some_iff.mp e).1
  rw [List.getElem?_append_left this]; exact e)
theorem ItR.r {o : Nat} {a b : List (Nat × Nat)} {h : PH} (x : ItR o (a ++ b) h) : ItR (o + a.length) b h := fun i v e => by
  rw [show o + a.length + i = o + (a.length + i) by omega]
  exact x (a.length + i) v (by rw [List.getElem?_append_right (by omega), show a.length + i - a.length = i by omega]; exact e)
theorem ItR.fr {o : Nat} {l : List (Nat × Nat)} {h h' : PH} (k : KP FAsk h h') (x : ItR o l h) : ItR o l h' := fun i v e => by
  obtain ⟨a, b⟩ := x i v e
  exact ⟨(k.i (by unfold FAsk; omega)).trans a, (k.i (by unfold FAsk; omega)).trans b⟩
theorem tmRun {to : Nat} (ht : to ≤ 840) : ∀ (l : List (Nat × Nat)) (st : List Int32) (c G r : Nat) (h : PH), (∀ x ∈ l, okI x) → htX 20 l st.length = some r → st.length ≤ 20 → ItR c l h → c + l.length ≤ to → StQ 42 st h → (rpn (h.1 41) l st = none ∧ ∃ h', lq3 (tmB (nI to)) (G + l.length) (nI st.length) (nI c) h = some (0, h') ∧ KP FAsk h h' ∧ h'.1 0 59 = 1) ∨ ∃ st2 h', rpn (h.1 41) l st = some st2 ∧ lq3 (tmB (nI to)) (G + l.length) (nI st.length) (nI c) h = lq3 (tmB (nI to)) G (nI st2.length) (nI (c + l.length)) h' ∧ StQ 42 st2 h' ∧ KP (fun r _ => r ≠ 42) h h'
  | [], st, c, G, r, h, _, _, _, _, _, sq => Or.inr ⟨st, h, rfl, rfl, sq, KP.rfl⟩
  | x :: l, st, c, G, r, h, ok, ht2, s20, cd, ha, sq => by
    have ht' : (if x.1 < 2 then (if st.length < 20 then htX 20 l (st.length + 1) else none) else if 2 ≤ st.length then htX 20 l (st.length - 1) else none) = some r := ht2
    have ha : c + (l.length + 1) ≤ to := ha
    have l1 : x.1 < 2 → st.length < 20 := fun z => by
      rw [if_pos z] at ht'
      by_cases y : st.length < 20
      · exact y
      · rw [if_neg y] at ht'; exact absurd ht' (by simp)
    have l2 : 2 ≤ x.1 → 2 ≤ st.length := fun z => by
      rw [if_neg (by omega)] at ht'
      by_cases y : 2 ≤ st.length
      · exact y
      · rw [if_neg y] at ht'; exact absurd ht' (by simp)
    have e0 : lq3 (tmB (nI to)) (G + (x :: l).length) (nI st.length) (nI c) h = tmB (nI to) (lq3 (tmB (nI to)) (G + l.length)) (nI st.length) (nI c) h := rfl
    show (Option.bind _ _ = none ∧ _) ∨ ∃ st2 h', Option.bind _ _ = some st2 ∧ _
    rw [e0]
    rcases tmStep (c := c) (to := to) (ok x (List.mem_cons_self ..)) (fun z => by have := l1 z; omega) (fun z => ⟨l2 z, by omega⟩) (cd 0 x rfl) (by omega) ht sq (lq3 (tmB (nI to)) (G + l.length)) with ⟨a1, a2⟩ | ⟨st2, h1, a1, a2, a3, k⟩
    · rw [a1]; exact Or.inl ⟨rfl, _, a2, KP.setI (fun z => z.2 ⟨rfl, rfl⟩), setI_eq _ _ _ _⟩
    · rw [a1, a2, Option.bind_some]
      have lens := rstep_len a1
      have ht3 : htX 20 l st2.length = some r := by
        rcases lens with ⟨z, e⟩ | ⟨z, e⟩
        · rw [if_pos z, if_pos (l1 z)] at ht'; rw [e]; exact ht'
        · rw [if_neg (by omega), if_pos (l2 z)] at ht'; rw [show st2.length = st.length - 1 by omega]; exact ht'
      have s2 : st2.length ≤ 20 := by
        rcases lens with ⟨z, e⟩ | ⟨z, e⟩
        · have := l1 z; omega
        · omega
      have v2 : h1.1 41 = h.1 41 := funext fun j => k.i (by omega)
      have kA : KP FAsk h h1 := k.mono (fun p k z => z.1)
      have := tmRun ht l st2 (c + 1) G r h1 (fun y hy => ok y (List.mem_cons_of_mem _ hy)) ht3 s2 (fun i y e => by
        rw [show c + 1 + i = c + (i + 1) by omega]; exact (cd.fr kA) (i + 1) y e) (by omega) a3
      rw [v2] at this
      have e1 : c + (x :: l).length = c + 1 + l.length := by show c + (l.length + 1) = _; omega
      rw [e1]
      rcases this with ⟨b1, h2, b2, b3, b4⟩ | ⟨st3, h2, b1, b2, b3, b4⟩
      · exact Or.inl ⟨b1, h2, b2, kA.trans b3, b4⟩
      · exact Or.inr ⟨st3, h2, b1, b2, b3, k.trans b4⟩
/-- a term's worth, in the reference -/
theorem term_v {U : List (Nat × Nat)} {c to : Nat} {h : PH} (ok : OKh U 15) (it : ItR c U h) (e : to = c + U.length) (ht : to ≤ 840) : ∃ h', c_X12_termOf (nI c) (nI to) h = some ((exV (h.1 41) U).elim 0 id, h') ∧ KP FAsk h h' ∧ (exV (h.1 41) U = none → h'.1 0 59 = 1) ∧ (∀ a, exV (h.1 41) U = some a → h'.1 0 59 = h.1 0 59) := by
  have r := tmRun (to := to) ht U [] c (fu - U.length) 1 h ok.1 (ok.2 0 20 (by omega)) (Nat.zero_le _) it (by omega) trivial
  rw [show fu - U.length + U.length = fu by unfold fu; omega, exV_st ok []] at r
  have ec : c_X12_termOf (nI c) (nI to) h = lq3 (tmB (nI to)) fu (nI ([] : List Int32).length) (nI c) h := by
    unfold c_X12_termOf tmB
    rw [nm_eq, nm_eq]
    show _ = lq3 _ fu (nI 0) (nI c) h
    rw [nI_0]
  rw [ec]
  cases q : exV (h.1 41) U with
  | none =>
    rw [q] at r
    rcases r with ⟨_, h', a, k, v⟩ | ⟨st2, h2, b1, _⟩
    · exact ⟨h', a, k, fun _ => v, fun a z => absurd z (by simp)⟩
    · exact absurd b1 (by simp)
  | some a =>
    rw [q] at r
    rcases r with ⟨r, _⟩ | ⟨st2, h2, b1, b2, b3, b4⟩
    · exact absurd r (by simp)
    · have b1 : [a] = st2 := Option.some.inj b1
      subst b1
      refine ⟨h2, ?_, b4.mono (fun p k z => z.1), fun z => absurd z (by simp), fun a z => b4.i (by omega)⟩
      rw [b2, ← e, show fu - U.length = (fu - U.length - 1) + 1 by unfold fu; omega, lq3_s]
      unfold tmB c_X12_termOf_L5b
      rw [if_pos (nI_le (Nat.le_refl to) (by omega))]
      show some (h2.1 42 0, h2) = some (a, h2)
      rw [show h2.1 42 0 = a from b3.1]
/-- a law's rows in the reference -/
def RwR : Nat → Nat → List Br → List (Nat × Nat) → PH → Prop
  | b, o, [], D, h => h.1 33 b = 0 ∧ h.1 36 b = nI o ∧ h.1 37 b = nI (o + D.length)
  | b, o, x :: r, D, h => (h.1 33 b = 1 ∧ h.1 34 b = nI o ∧ h.1 35 b = nI (o + x.1.length) ∧ h.1 36 b = nI (o + x.1.length + x.2.1.length) ∧ h.1 37 b = nI (o + brL x)) ∧ RwR (b + 1) (o + brL x) r D h
def flat : List Br → List (Nat × Nat) → List (Nat × Nat)
  | [], D => D
  | x :: r, D => x.1 ++ (x.2.1 ++ (x.2.2 ++ flat r D))
theorem RwR.fr {h h' : PH} : ∀ {brs : List Br} {D : List (Nat × Nat)} {b o : Nat}, (∀ p j, 33 ≤ p → p ≤ 37 → b ≤ j → j ≤ b + brs.length → h'.1 p j = h.1 p j) → RwR b o brs D h → RwR b o brs D h'
  | [], D, b, o, k, x => by
    have k : ∀ p j, 33 ≤ p → p ≤ 37 → b ≤ j → j ≤ b + 0 → h'.1 p j = h.1 p j := k
    obtain ⟨a1, a2, a3⟩ := x
    exact ⟨(k _ _ (by omega) (by omega) (by omega) (by omega)).trans a1, (k _ _ (by omega) (by omega) (by omega) (by omega)).trans a2, (k _ _ (by omega) (by omega) (by omega) (by omega)).trans a3⟩
  | y :: r, D, b, o, k, x => by
    have k : ∀ p j, 33 ≤ p → p ≤ 37 → b ≤ j → j ≤ b + (r.length + 1) → h'.1 p j = h.1 p j := k
    obtain ⟨⟨a1, a2, a3, a4, a5⟩, a6⟩ := x
    exact ⟨⟨(k _ _ (by omega) (by omega) (by omega) (by omega)).trans a1, (k _ _ (by omega) (by omega) (by omega) (by omega)).trans a2, (k _ _ (by omega) (by omega) (by omega) (by omega)).trans a3, (k _ _ (by omega) (by omega) (by omega) (by omega)).trans a4, (k _ _ (by omega) (by omega) (by omega) (by omega)).trans a5⟩, RwR.fr (fun p j p1 p2 j1 j2 => k p j p1 p2 (by omega) (by omega)) a6⟩
theorem RwR.frA {h h' : PH} {brs : List Br} {D : List (Nat × Nat)} {b o : Nat} (k : KP FAsk h h') (x : RwR b o brs D h) : RwR b o brs D h' := x.fr (fun p j p1 p2 _ _ => k.i (by unfold FAsk; omega))
theorem clamp_v {m : Nat} (hm : m < 1000) (v : Int32) (h : PH) : (if 0 ≤ v then if v ≤ nI m then some (v, h) else some (nI m, h) else some (0, h)) = some (nI (clampN m v), h) := by
  unfold clampN
  by_cases q : 0 ≤ v
  · rw [if_pos q, if_pos q]
    by_cases u : v ≤ nI m
    · rw [if_pos u, if_pos u]
      obtain ⟨j, hj, rfl⟩ := nI_of (Int32.not_lt.mpr q)
      rw [nI_clamp hj]
    · rw [if_neg u, if_neg u]
  · rw [if_neg q, if_neg q, nI_0]
theorem clamp_0 {m : Nat} (hm : m < 1000) : clampN m 0 = 0 := by
  unfold clampN
  rw [if_pos (show (0 : Int32) ≤ 0 by decide), if_pos (show (0 : Int32) ≤ nI m from nI_pos' (by omega))]; rfl
/-- the reference's answer at a row -/
theorem ask_term {b o m : Nat} {U : List (Nat × Nat)} {h : PH} (ok : OKh U 15) (it : ItR o U h) (hb : b < 260) (r36 : h.1 36 b = nI o) (r37 : h.1 37 b = nI (o + U.length)) (ho : o + U.length ≤ 840) (h0 : h.1 0 59 = 0) (hm : m < 1000) : ∃ h', c_X12_asks_j124 (nI m) (nI b) h = some (nI (clampN m ((exV (h.1 41) U).elim 0 id)), h') ∧ KP FAsk h h' := by
  unfold c_X12_asks_j124
  obtain ⟨h', e, k, n1, n2⟩ := term_v (to := o + U.length) ok it rfl ho
  rw [gdI (k := b) hb (by omega), gdI (k := b) hb (by omega), nI_clamp (n := b) (by omega), r36, r37, e, b2_some, nm_eq]
  refine ⟨h', ?_, k⟩
  cases q : exV (h.1 41) U with
  | none =>
    rw [n1 q, if_neg (show ¬ (1 : Int32) = 0 by decide)]
    show some ((0 : Int32), h') = some (nI (clampN m 0), h')
    rw [clamp_0 hm, nI_0]
  | some a => rw [n2 a q, h0, if_pos (Eq.refl (0 : Int32))]; exact clamp_v hm a h'
def akB (m at' : Nat) : (Int32 → PH → Option (Int32 × PH)) → Int32 → PH → Option (Int32 × PH) := c_X12_asks_L43b (nI m) (nI at') (fun h11 => some (0, h11)) (fun w12 h13 => c_X12_asks_j124 (nI m) w12 h13) (fun h17 => some (0, h17))
theorem askL {m at' last : Nat} (hm : m < 1000) (h4 : at' < 4) (hl : last ≤ 260) : ∀ (brs : List Br) (D : List (Nat × Nat)) (b o G : Nat) (h : PH), (∀ x ∈ brs, brOK x) → OKh D 15 → RwR b o brs D h → ItR o (flat brs D) h → h.1 32 at' = nI last → b + brs.length < last → o + (flat brs D).length ≤ 840 → h.1 0 59 = 0 → brs.length < G → ∃ h', lq2 (akB m at') G (nI b) h = some (nI (clampN m (lawV (h.1 41) brs D)), h') ∧ KP FAsk h h'
  | [], D, b, o, G, h, _, okD, rw', it, e32, hb, ho, h0, hG => by
    have hb : b + 0 < last := hb
    obtain ⟨G, rfl⟩ : ∃ G', G = G' + 1 := ⟨G - 1, by omega⟩
    obtain ⟨r33, r36, r37⟩ := rw'
    rw [lq2_s]
    unfold akB c_X12_asks_L43b
    rw [gdI (k := at') h4 (by omega), nI_clamp (n := at') (by omega), e32, if_neg (nI_ge (a := b) (b := last) (by omega) (by omega)), gdI (k := b) (by omega) (by omega), nI_clamp (n := b) (by omega), r33, if_pos (Eq.refl (0 : Int32))]
    exact ask_term okD it (by omega) r36 r37 ho h0 hm
  | x :: r, D, b, o, G, h, ok, okD, rw', it, e32, hb, ho, h0, hG => by
    have hb : b + (r.length + 1) < last := hb
    have hG : r.length + 1 < G := hG
    obtain ⟨G, rfl⟩ : ∃ G', G = G' + 1 := ⟨G - 1, by omega⟩
    obtain ⟨ok1, ok2, ok3⟩ := ok x (List.mem_cons_self ..)
    obtain ⟨⟨r33, r34, r35, r36, r37⟩, rr⟩ := rw'
    have lf : (flat (x :: r) D).length = brL x + (flat r D).length := by
      show (x.1 ++ (x.2.1 ++ (x.2.2 ++ flat r D))).length = _
      unfold brL
      rw [List.length_append, List.length_append, List.length_append]; omega
    have lb : brL x = x.1.length + x.2.1.length + x.2.2.length := rfl
    rw [lf] at ho
    have it : ItR o (x.1 ++ (x.2.1 ++ (x.2.2 ++ flat r D))) h := it
    have iA := it.l
    have i1 := it.r
    have iB := i1.l
    have i2 := i1.r
    have iC := i2.l
    have i3 := i2.r
    rw [lq2_s]
    generalize hR : lq2 (akB m at') G = REC
    unfold akB c_X12_asks_L43b
    rw [gdI (k := at') h4 (by omega), nI_clamp (n := at') (by omega), e32, if_neg (nI_ge (a := b) (b := last) (by omega) (by omega)), gdI (k := b) (by omega) (by omega), nI_clamp (n := b) (by omega), r33, if_neg (show ¬ (1 : Int32) = 0 by decide), r34, r35]
    obtain ⟨h1, e1, k1, n1, y1⟩ := term_v (to := o + x.1.length) ok1 iA rfl (by omega)
    obtain ⟨h2, e2, k2, n2, y2⟩ := term_v (to := o + x.1.length + x.2.1.length) ok2 (iB.fr k1) rfl (by omega)
    have v1 : h1.1 41 = h.1 41 := funext fun j => k1.i (by unfold FAsk; omega)
    have k12 := k1.trans k2
    have v2 : h2.1 41 = h.1 41 := funext fun j => k12.i (by unfold FAsk; omega)
    rw [v1] at e2 n2 y2
    rw [gdI (k := b) (by omega) (by omega), gdI (k := b) (by omega) (by omega), e1, b2_some, nm_eq, gdI (k := b) (by omega) (by omega), gdI (k := b) (by omega) (by omega), (k1.i (show FAsk 35 b by unfold FAsk; omega)), r35, (k1.i (show FAsk 36 b by unfold FAsk; omega)), r36, e2, b2_some, nm_eq]
    show ∃ h', _ = some (nI (clampN m ((exV (h.1 41) x.1).elim 0 fun a => (exV (h.1 41) x.2.1).elim 0 fun b => if a < b then (exV (h.1 41) x.2.2).elim 0 id else lawV (h.1 41) r D)), h') ∧ _
    cases qa : exV (h.1 41) x.1 with
    | none =>
      have w : h2.1 0 59 = 1 := by
        cases qb : exV (h.1 41) x.2.1 with
        | none => exact n2 qb
        | some b' => exact (y2 b' qb).trans (n1 qa)
      rw [w, if_neg (show ¬ (1 : Int32) = 0 by decide)]
      refine ⟨h2, ?_, k12⟩
      show some ((0 : Int32), h2) = some (nI (clampN m 0), h2)
      rw [clamp_0 hm, nI_0]
    | some a =>
      cases qb : exV (h.1 41) x.2.1 with
      | none =>
        rw [n2 qb, if_neg (show ¬ (1 : Int32) = 0 by decide)]
        refine ⟨h2, ?_, k12⟩
        show some ((0 : Int32), h2) = some (nI (clampN m 0), h2)
        rw [clamp_0 hm, nI_0]
      | some b' =>
        have w : h2.1 0 59 = 0 := (y2 b' qb).trans ((y1 a qa).trans h0)
        rw [w, if_pos (Eq.refl (0 : Int32)), show Option.elim (some a) (0 : Int32) id = a from rfl, show Option.elim (some b') (0 : Int32) id = b' from rfl]
        show ∃ h', _ = some (nI (clampN m (if a < b' then (exV (h.1 41) x.2.2).elim 0 id else lawV (h.1 41) r D)), h') ∧ _
        by_cases z : a < b'
        · rw [if_pos z, if_pos z]
          obtain ⟨h3, e3, k3⟩ := ask_term (b := b) (m := m) ok3 (iC.fr k12) (by omega) ((k12.i (by unfold FAsk; omega)).trans r36) ((k12.i (by unfold FAsk; omega)).trans (by rw [r37, lb]; congr 1; omega)) (by omega) w hm
          rw [v2] at e3
          exact ⟨h3, e3, k12.trans k3⟩
        · rw [if_neg z, if_neg z, nI_1, nm_eq, ← hR]
          have i4 : ItR (o + brL x) (flat r D) h2 := by
            rw [show o + brL x = o + x.1.length + x.2.1.length + x.2.2.length by omega]; exact i3.fr k12
          obtain ⟨h3, e3, k3⟩ := askL hm h4 hl r D (b + 1) (o + brL x) G h2 (fun y hy => ok y (List.mem_cons_of_mem _ hy)) okD (rr.frA k12) i4 ((k12.i (by unfold FAsk; omega)).trans e32) (by omega) (by omega) w (by omega)
          rw [v2] at e3
          exact ⟨h3, e3, k12.trans k3⟩
theorem lwR_of {s kk pl m b0 o0 b k : Nat} {brs : List Br} {D : List (Nat × Nat)} {h : PH} (hs : s < 2) (hk : kk < 2) (hm : m < 1000) (ok : ∀ x ∈ brs, brOK x) (okD : OKh D 15) (e31 : h.1 31 (2 * s + kk) = nI (130 * s + b0)) (e32 : h.1 32 (2 * s + kk) = nI (130 * s + b0 + brs.length + 1)) (rr : RwR (130 * s + b0) (420 * s + o0) brs D h) (it : ItR (420 * s + o0) (flat brs D) h) (hb : b0 + brs.length + 1 ≤ b) (hb2 : b ≤ 130) (ho : o0 + (flat brs D).length ≤ k) (hk2 : k ≤ 420) : LwR s kk pl m b k (fun v => lawV v brs D) h := by
  intro h' f l
  have a31 : h'.1 31 (2 * s + kk) = nI (130 * s + b0) := (f.i (by unfold FLr; omega)).trans e31
  have a32 : h'.1 32 (2 * s + kk) = nI (130 * s + b0 + brs.length + 1) := (f.i (by unfold FLr; omega)).trans e32
  obtain ⟨h2, e2⟩ : ∃ x, x = setI h' 0 59 (0 : Int32) := ⟨_, rfl⟩
  have k2 : KP FAsk h' h2 := by rw [e2]; exact KP.setI (fun z => z.2 ⟨rfl, rfl⟩)
  have v2 : h2.1 41 = h'.1 41 := funext fun j => k2.i (by unfold FAsk; omega)
  have r' : RwR (130 * s + b0) (420 * s + o0) brs D h' := rr.fr (fun p j p1 p2 j1 j2 => f.i (by unfold FLr; omega))
  have i' : ItR (420 * s + o0) (flat brs D) h' := fun i x e => by
    have hi := (List.getElem?_eq_some_iff.mp e).1
    obtain ⟨x1, x2⟩ := it i x e
    exact ⟨(f.i (by unfold FLr; omega)).trans x1, (f.i (by unfold FLr; omega)).trans x2⟩
  obtain ⟨h3, e3, k3⟩ := askL (m := m) (at' := 2 * s + kk) (last := 130 * s + b0 + brs.length + 1) hm (by omega) (by omega) brs D (130 * s + b0) (420 * s + o0) fu h2 ok okD (r'.frA k2) (i'.fr k2) ((k2.i (by unfold FAsk; omega)).trans a32) (by omega) (by omega) (by rw [e2, setI_eq]) (by unfold fu; omega)
  rw [v2] at e3
  refine ⟨_, h3, ?_, rfl, k2.trans k3⟩
  have g31 : h2.1 31 (2 * s + kk) = nI (130 * s + b0) := (k2.i (by unfold FAsk; omega)).trans a31
  unfold c_X12_asks
  rw [l, show (2 : Int32) * nI s = nI (2 * s) from (Int32.ofNat_mul 2 s).symm, nI_add, nm_eq, gdI (k := 2 * s + kk) (by omega) (by omega), gdI (k := 2 * s + kk) (by omega) (by omega), nI_clamp (n := 2 * s + kk) (by omega), a31, a32, if_neg (show ¬ nI (130 * s + b0) = nI (130 * s + b0 + brs.length + 1) from fun z => by have := (nI_eq (by omega) (by omega)).mp z; omega), ← e2, nm_eq h2, gdI (k := 2 * s + kk) (by omega) (by omega), g31, nm_eq]
  unfold akB at e3
  exact e3
