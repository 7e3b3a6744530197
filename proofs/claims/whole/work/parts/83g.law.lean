abbrev Br : Type := List (Nat × Nat) × List (Nat × Nat) × List (Nat × Nat)
def brL (x : Br) : Nat := x.1.length + x.2.1.length + x.2.2.length
def brOK (x : Br) : Prop := OKh x.1 15 ∧ OKh x.2.1 15 ∧ OKh x.2.2 15
/-- what a law answers -/
def lawV (v : Nat → Int32) : List Br → List (Nat × Nat) → Int32
  | [], D => (exV v D).elim 0 id
  | x :: r, D => (exV v x.1).elim 0 fun a => (exV v x.2.1).elim 0 fun b => if a < b then (exV v x.2.2).elim 0 id else lawV v r D
/-- a law's code in the class, told from off on -/
def brC (off : Nat) (x : Br) : List Int32 := x.1.map cst ++ (x.2.1.map cst ++ ([-2, nI (off + brL x + 3)] ++ (x.2.2.map cst ++ [-1])))
def codeC : Nat → List Br → List (Nat × Nat) → List Int32
  | _, [], D => D.map cst ++ [-1]
  | off, x :: r, D => brC off x ++ codeC (off + brL x + 3) r D
theorem brC_len (off : Nat) (x : Br) : (brC off x).length = brL x + 3 := by
  unfold brC brL
  simp only [List.length_append, List.length_map, List.length_cons, List.length_nil]
  omega
def SubC (q at' : Nat) (cs : List Int32) (h : PH) : Prop := ∀ i v, cs[i]? = some v → h.1 (q + 1) (at' + i) = v
theorem SubC.l {q at' : Nat} {a b : List Int32} {h : PH} (x : SubC q at' (a ++ b) h) : SubC q at' a h := fun i v e => x i v (by
  have := (List.getElem?_eq_some_iff.mp e).1
  rw [List.getElem?_append_left this]; exact e)
theorem SubC.r {q at' : Nat} {a b : List Int32} {h : PH} (x : SubC q at' (a ++ b) h) : SubC q (at' + a.length) b h := fun i v e => by
  rw [show at' + a.length + i = at' + (a.length + i) by omega]
  exact x (a.length + i) v (by rw [List.getElem?_append_right (by omega), show a.length + i - a.length = i by omega]; exact e)
theorem SubC.fr {q at' : Nat} {cs : List Int32} {h h' : PH} (k : KP (fun r _ => r ≠ q + 2) h h') (x : SubC q at' cs h) : SubC q at' cs h' := fun i v e => (k.i (by omega)).trans (x i v e)
theorem SubC.ex {q at' : Nat} {U : List (Nat × Nat)} {h : PH} (x : SubC q at' (U.map cst) h) : ∀ i y, U[i]? = some y → h.1 (q + 1) (at' + i) = cst y := fun i y e => x i (cst y) (by rw [List.getElem?_map, e]; rfl)
/-- the class's machine at an answer -/
theorem clAns {q at' n len G : Nat} {a : Int32} {h : PH} (hl : len ≤ 408) (cd : h.1 (q + 1) at' = -1) (ln : h.1 q 1 = nI len) (ha : at' < len) (hn : n ≤ at') (sq : StQ (q + 2) [a] h) : lq4 (clB q) (G + 1) (nI 1) (nI at') (nI n) h = some (a, h) := by
  rw [lq4_s]
  unfold clB c_X2_answer_L7b
  rw [ln, if_neg (nI_ge (a := n) (b := len) (by omega) (by omega)), if_neg (nI_ge (a := at') (b := len) (by omega) (by omega)), gdI (k := at') (by omega) (by omega), nI_clamp (n := at') (by omega), cd, nm_eq, nm_eq, if_pos m1_neg, if_pos (Eq.refl (-1 : Int32))]
  have e := sq.1
  show (if nI 1 ≤ 0 then some (0, h) else gd (ixOK (nI 1 - 1) 20) (some (h.1 (q + 2) (nI 1 - 1).toNatClampNeg, h))) = _
  rw [if_neg (show ¬ nI 1 ≤ 0 by decide), show nI 1 - 1 = nI 0 from nI_pred 0, gdI (k := 0) (by omega) (by omega), nI_clamp (n := 0) (by omega)]
  rw [show h.1 (q + 2) 0 = a from e]
/-- the class's machine at a comparison -/
theorem clCmp {q at' n len hole G : Nat} {a b : Int32} {h : PH} (hl : len ≤ 408) (cd : h.1 (q + 1) at' = -2) (ch : h.1 (q + 1) (at' + 1) = nI hole) (ln : h.1 q 1 = nI len) (ha : at' + 1 < len) (hh : at' + 1 < hole) (hh2 : hole ≤ len) (hn : n ≤ at') (sq : StQ (q + 2) [b, a] h) : lq4 (clB q) (G + 1) (nI 2) (nI at') (nI n) h = lq4 (clB q) G (nI 0) (if a < b then nI (at' + 2) else nI hole) (nI (n + 1)) h := by
  rw [lq4_s]
  obtain ⟨sb, sa, _⟩ := sq
  have sb : h.1 (q + 2) 1 = b := sb
  have sa : h.1 (q + 2) 0 = a := sa
  generalize lq4 (clB q) G = REC
  unfold clB c_X2_answer_L7b
  rw [ln, if_neg (nI_ge (a := n) (b := len) (by omega) (by omega)), if_neg (nI_ge (a := at') (b := len) (by omega) (by omega)), gdI (k := at') (by omega) (by omega), nI_clamp (n := at') (by omega), cd, nm_eq, nI_1, nm_eq, if_pos (show (-2 : Int32) < 0 by decide), if_neg (show ¬ (-2 : Int32) = -1 by decide), if_pos (show (2 : Int32) ≤ nI 2 by decide), show nI 2 - 2 = nI 0 by decide, gdI (k := 0) (by omega) (by omega), nI_clamp (n := 0) (by omega), sa, nm_eq, show nI 2 - 1 = nI 1 by decide, gdI (k := 1) (by omega) (by omega), nI_clamp (n := 1) (by omega), sb, nm_eq, if_pos (Eq.refl (-2 : Int32)), show nI 2 + (-2) = nI 0 by decide, nm_eq]
  by_cases z : a < b
  · rw [if_neg (Int32.not_le.mpr z), nI_1, nm_eq, nI_1, nm_eq, if_pos z]
  · rw [if_pos (Int32.not_lt.mp z), if_neg z]
    unfold c_X2_landing
    rw [ln, if_neg (nI_ge (a := at' + 1) (b := len) (by omega) (by omega)), gdI (k := at' + 1) (by omega) (by omega), nI_clamp (n := at' + 1) (by omega), ch, Option.bind_some, nI_1, nm_eq]
    unfold jmax
    rw [if_pos (nI_lt (a := at' + 1) (b := hole) hh (by omega)), nm_eq]
theorem clLaw {q len : Nat} (hq : q < 100) (hl : len ≤ 408) : ∀ (brs : List Br) (D : List (Nat × Nat)) (off n G : Nat) (h : PH), (∀ x ∈ brs, brOK x) → OKh D 15 → SubC q off (codeC off brs D) h → h.1 q 1 = nI len → off + (codeC off brs D).length ≤ len → n ≤ off → (codeC off brs D).length ≤ G → ∃ h', lq4 (clB q) G (nI 0) (nI off) (nI n) h = some (lawV (h.1 218) brs D, h') ∧ KP (fun r _ => r ≠ q + 2) h h'
  | [], D, off, n, G, h, _, okD, cd, ln, ha, hn, hG => by
    have lc : (codeC off [] D).length = D.length + 1 := by
      show (D.map cst ++ [-1]).length = _
      rw [List.length_append, List.length_map]; rfl
    rw [lc] at ha hG
    have cd : SubC q off (D.map cst ++ [-1]) h := cd
    show ∃ h', _ = some ((exV (h.1 218) D).elim 0 id, h') ∧ _
    rcases clEx (st := []) (G := G) (n := n) hq hl okD (Nat.zero_le _) (cd.l.ex) ln (by omega) hn trivial (by omega) with ⟨e, h', a, k⟩ | ⟨a, h', e, e2, sq, k⟩
    · rw [e]; exact ⟨h', a, k⟩
    · rw [e]
      refine ⟨h', ?_, k⟩
      have c1 : h'.1 (q + 1) (off + D.length) = -1 := by
        have := (cd.fr k).r 0 (-1) rfl
        rw [List.length_map] at this; exact this
      rw [show (0 : Nat) = ([] : List Int32).length from rfl, e2, show G - D.length = (G - D.length - 1) + 1 by omega]
      exact clAns hl c1 ((k.i (by omega)).trans ln) (by omega) (by omega) sq
  | x :: r, D, off, n, G, h, ok, okD, cd, ln, ha, hn, hG => by
    obtain ⟨ok1, ok2, ok3⟩ := ok x (List.mem_cons_self ..)
    have lc : (codeC off (x :: r) D).length = brL x + 3 + (codeC (off + brL x + 3) r D).length := by
      show (brC off x ++ codeC (off + brL x + 3) r D).length = _
      rw [List.length_append, brC_len]
    rw [lc] at ha hG
    have cd : SubC q off (brC off x ++ codeC (off + brL x + 3) r D) h := cd
    have lb : brL x = x.1.length + x.2.1.length + x.2.2.length := rfl
    have c0 := cd.l
    unfold brC at c0
    have cA := c0.l.ex
    have c1 := c0.r
    rw [List.length_map] at c1
    have cB := c1.l.ex
    have c2 := c1.r
    rw [List.length_map] at c2
    have cm := c2 0 (-2) rfl
    have ch := c2 1 (nI (off + brL x + 3)) rfl
    have c3 := SubC.r (a := [-2, nI (off + brL x + 3)]) c2
    have cC := c3.l.ex
    have c4 := c3.r 0 (-1) rfl
    rw [List.length_map] at c4
    have cR := cd.r
    rw [brC_len] at cR
    show ∃ h', _ = some ((exV (h.1 218) x.1).elim 0 fun a => (exV (h.1 218) x.2.1).elim 0 fun b => if a < b then (exV (h.1 218) x.2.2).elim 0 id else lawV (h.1 218) r D, h') ∧ _
    rcases clEx (st := []) (G := G) (n := n) hq hl ok1 (Nat.zero_le _) cA ln (by omega) hn trivial (by omega) with ⟨e, h', a, k⟩ | ⟨a, h1, e, e2, sq, k⟩
    · rw [e]; exact ⟨h', a, k⟩
    rw [e, show (0 : Nat) = ([] : List Int32).length from rfl, e2]
    have v1 : h1.1 218 = h.1 218 := funext fun j => k.i (by omega)
    show ∃ h', _ = some ((exV (h.1 218) x.2.1).elim 0 fun b => if a < b then (exV (h.1 218) x.2.2).elim 0 id else lawV (h.1 218) r D, h') ∧ _
    rcases clEx (U := x.2.1) (st := [a]) (at' := off + x.1.length) (n := n + x.1.length) (G := G - x.1.length) (h := h1) hq hl ok2 (by show 1 ≤ 5; omega) (fun i y e => (k.i (by omega)).trans (cB i y e)) ((k.i (by omega)).trans ln) (by omega) (by omega) sq (by omega) with ⟨e, h', a, k'⟩ | ⟨b, h2, e', e2', sq', k'⟩
    · rw [v1] at e
      rw [e]; exact ⟨h', a, k.trans k'⟩
    rw [v1] at e'
    rw [e', show ([] : List Int32).length + 1 = [a].length from rfl, e2']
    have k2 := k.trans k'
    have v2 : h2.1 218 = h.1 218 := funext fun j => k2.i (by omega)
    show ∃ h', _ = some (if a < b then (exV (h.1 218) x.2.2).elim 0 id else lawV (h.1 218) r D, h') ∧ _
    obtain ⟨G2, hG2⟩ : ∃ G2, G - x.1.length - x.2.1.length = G2 + 1 := ⟨G - x.1.length - x.2.1.length - 1, by omega⟩
    rw [hG2, show [a].length + 1 = 2 from rfl, clCmp (hole := off + brL x + 3) hl ((k2.i (by omega)).trans (by rw [Nat.add_zero] at cm; exact cm)) ((k2.i (by omega)).trans ch) ((k2.i (by omega)).trans ln) (by omega) (by omega) (by omega) (by omega) sq']
    by_cases z : a < b
    · rw [if_pos z, if_pos z]
      rcases clEx (U := x.2.2) (st := []) (at' := off + x.1.length + x.2.1.length + 2) (n := n + x.1.length + x.2.1.length + 1) (G := G2) (h := h2) hq hl ok3 (Nat.zero_le _) (fun i y e => (k2.i (by omega)).trans (cC i y e)) ((k2.i (by omega)).trans ln) (by omega) (by omega) trivial (by omega) with ⟨e, h', a, k'⟩ | ⟨c, h3, e3, e23, sq3, k3⟩
      · rw [v2] at e
        rw [e]; exact ⟨h', a, k2.trans k'⟩
      · rw [v2] at e3
        rw [e3]
        refine ⟨h3, ?_, k2.trans k3⟩
        rw [show (0 : Nat) = ([] : List Int32).length from rfl, e23, show G2 - x.2.2.length = (G2 - x.2.2.length - 1) + 1 by omega]
        exact clAns hl (((k2.trans k3).i (by omega)).trans c4) (((k2.trans k3).i (by omega)).trans ln) (by omega) (by omega) sq3
    · rw [if_neg z, if_neg z]
      obtain ⟨h', e5, k5⟩ := clLaw hq hl r D (off + brL x + 3) (n + x.1.length + x.2.1.length + 1) G2 h2 (fun y hy => ok y (List.mem_cons_of_mem _ hy)) okD ((show SubC q (off + (brL x + 3)) _ h from cR).fr k2) ((k2.i (by omega)).trans ln) (by omega) (by omega) (by omega)
      rw [v2] at e5
      exact ⟨h', e5, k2.trans k5⟩
theorem lwC_of {q : Nat} {brs : List Br} {D : List (Nat × Nat)} {h : PH} (hq : q < 100) (ok : ∀ x ∈ brs, brOK x) (okD : OKh D 15) (c : CdC q (codeC 0 brs D) h) (hl : (codeC 0 brs D).length ≤ 408) : LwC q (fun v => lawV v brs D) h := by
  intro h' a b
  have sc : SubC q 0 (codeC 0 brs D) h' := fun i v e => by rw [Nat.zero_add, b i]; exact c.2 i v e
  obtain ⟨h2, e, k⟩ := clLaw hq hl brs D 0 0 fu h' ok okD sc (a.trans c.1) (by omega) (by omega) (by unfold fu; omega)
  refine ⟨_, h2, ?_, rfl, k⟩
  rw [nI_0] at e
  unfold clB at e
  unfold c_X2_answer
  rw [nm_eq, nm_eq, nm_eq]
  exact e
theorem rpn_dep {f g : Nat → Int32} (e : ∀ j, j < 9 → f j = g j) : ∀ (l : List (Nat × Nat)) (st : List Int32), (∀ x ∈ l, okI x) → rpn f l st = rpn g l st
  | [], _, _ => rfl
  | x :: l, st, ok => by
    have ox := ok x (List.mem_cons_self ..)
    have r : rstep f x st = rstep g x st := by
      unfold rstep
      by_cases z : x.1 = 1
      · rw [e x.2 (ox.2.2 z)]
      · rw [if_neg z, if_neg z]
    show (rstep f x st).bind (rpn f l) = (rstep g x st).bind (rpn g l)
    rw [r]
    cases rstep g x st with
    | none => rfl
    | some s2 => exact rpn_dep e l s2 (fun y hy => ok y (List.mem_cons_of_mem _ hy))
theorem exV_dep {f g : Nat → Int32} (e : ∀ j, j < 9 → f j = g j) {U : List (Nat × Nat)} {m : Nat} (ok : OKh U m) : exV f U = exV g U := by
  unfold exV; rw [rpn_dep e U [] ok.1]
theorem lawV_dep {f g : Nat → Int32} (e : ∀ j, j < 9 → f j = g j) : ∀ (brs : List Br) (D : List (Nat × Nat)), (∀ x ∈ brs, brOK x) → OKh D 15 → lawV f brs D = lawV g brs D
  | [], D, _, okD => by
    show (exV f D).elim 0 id = (exV g D).elim 0 id
    rw [exV_dep e okD]
  | x :: r, D, ok, okD => by
    obtain ⟨o1, o2, o3⟩ := ok x (List.mem_cons_self ..)
    show ((exV f x.1).elim 0 fun a => (exV f x.2.1).elim 0 fun b => if a < b then (exV f x.2.2).elim 0 id else lawV f r D) = ((exV g x.1).elim 0 fun a => (exV g x.2.1).elim 0 fun b => if a < b then (exV g x.2.2).elim 0 id else lawV g r D)
    rw [exV_dep e o1, exV_dep e o2, exV_dep e o3, lawV_dep e r D (fun y hy => ok y (List.mem_cons_of_mem _ hy)) okD]
theorem lawF_of {brs : List Br} {D : List (Nat × Nat)} (ok : ∀ x ∈ brs, brOK x) (okD : OKh D 15) : LawF (fun v => lawV v brs D) := fun _ _ e => lawV_dep e brs D ok okD
