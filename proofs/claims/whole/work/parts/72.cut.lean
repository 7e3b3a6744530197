theorem kindW_lt (v : Nat) : 1 < kindW v ∧ kindW v < 128 := by
  unfold kindW
  cases e : fstX (fun w => decide (vB 32 (Wd2 w) = v)) 23 0 with
  | none => exact ⟨by show 1 < 2; omega, by show 2 < 128; omega⟩
  | some w => have := fstX_some _ _ _ e; exact ⟨by show 1 < 64 + w; omega, by show 64 + w < 128; omega⟩
theorem tkind_lt (K : Nat) (bs : Nat → Nat) (a : Nat) : tkind K bs a < 128 := by
  unfold tkind
  by_cases q : K ≤ a
  · rw [if_pos q]; omega
  rw [if_neg q]
  by_cases q1 : letB (bs a) = true
  · rw [if_pos q1]
    by_cases q2 : tend K bs a - a ≤ 8
    · rw [if_pos q2]; exact (kindW_lt _).2
    · rw [if_neg q2]; omega
  rw [if_neg q1]
  by_cases q2 : digB (bs a) = true
  · rw [if_pos q2]
    by_cases q3 : tend K bs a - a ≤ 4
    · rw [if_pos q3]; omega
    · rw [if_neg q3]; omega
  rw [if_neg q2]
  by_cases q3 : sgnB (bs a) = true
  · rw [if_pos q3]; have := of_decide_eq_true q3; omega
  · rw [if_neg q3]; omega
theorem skip_le {K i : Nat} {bs : Nat → Nat} (h : i ≤ K) : i ≤ skip K bs i ∧ skip K bs i ≤ K := by
  unfold skip; have := runF_le blkB bs (K - i) i; have := runF_ge blkB bs (K - i) i; omega
theorem tend_le {K a : Nat} {bs : Nat → Nat} (ha : a ≤ K) : tend K bs a ≤ K ∧ a ≤ tend K bs a ∧ (a < K → a < tend K bs a) := by
  by_cases q : K ≤ a
  · have : tend K bs a = a := by unfold tend; rw [if_pos q]
    omega
  by_cases q1 : letB (bs a) = true
  · have := tend_let (show a < K by omega) q1; omega
  by_cases q2 : digB (bs a) = true
  · have := tend_dig (show a < K by omega) q1 q2; omega
  · have := tend_sgn (show a < K by omega) q1 q2; omega
/-- where the tokens lie: before the blanks, and behind them -/
def tX (K : Nat) (bs : Nat → Nat) : Nat → Nat
  | 0 => 0
  | j + 1 => tend K bs (skip K bs (tX K bs j))
def tS (K : Nat) (bs : Nat → Nat) (j : Nat) : Nat := skip K bs (tX K bs j)
theorem tX_le (K : Nat) (bs : Nat → Nat) : ∀ j, tX K bs j ≤ K
  | 0 => Nat.zero_le K
  | j + 1 => (tend_le (skip_le (tX_le K bs j)).2).1
def tK (K : Nat) (bs : Nat → Nat) (j : Nat) : Nat := tkind K bs (tS K bs j)
def TokC (K : Nat) (bs : Nat → Nat) (h : PH) (j : Nat) : Prop := h.1 4 j = nI (tK K bs j) ∧ h.1 5 j = nI (tS K bs j) ∧ h.2.1 6 j = lN (tval K bs (tS K bs j))
def FTt (p _k : Nat) : Prop := ¬ (p = 4 ∨ p = 5 ∨ p = 6)
/-- how many tokens: up to the first end or bad one, 401 at most -/
def tEnd (K : Nat) (bs : Nat → Nat) (N : Nat) : Prop := N ≤ 401 ∧ (∀ i, i + 1 < N → 1 < tK K bs i) ∧ (N = 401 ∧ 1 < tK K bs 400 ∨ 0 < N ∧ tK K bs (N - 1) ≤ 1)
theorem cutLoopC {K : Nat} {bs : Nat → Nat} : ∀ (n f j : Nat) (x4 : Int32) (h : PH), j + n = 401 → TpC K bs h → (∀ k, k < 23 → h.2.1 7 k = hX11.2.1 7 k) → (∀ i, i < j → TokC K bs h i) → (x4 = 0 ∧ 0 < j ∧ tK K bs (j - 1) ≤ 1 ∧ (∀ i, i + 1 < j → 1 < tK K bs i) ∨ x4 = 1 ∧ ∀ i, i < j → 1 < tK K bs i) → ExH (lq4 (c_X10_cut_L8b 3 1 (nI K) (fun h18 => some h18)) (f + n + 1) (nI (tX K bs j)) x4 (nI j) h) (fun h' => KP FTt h h' ∧ ∃ N, tEnd K bs N ∧ ∀ i, i < N → TokC K bs h' i)
  | 0, f, j, x4, h, hj, tp, hw, ht, hx => by
    have hj : j = 401 := by omega
    rw [lq4_s]; unfold c_X10_cut_L8b
    rw [if_pos (show (400 : Int32) < nI j from nI_lt (a := 400) (by omega) (by omega))]
    refine ex_some ⟨KP.rfl, j, ⟨by omega, ?_, ?_⟩, ht⟩
    · rcases hx with ⟨_, _, _, q⟩ | ⟨_, q⟩
      · exact q
      · exact fun i hi => q i (by omega)
    · rcases hx with ⟨_, q0, q, _⟩ | ⟨_, q⟩
      · exact Or.inr ⟨q0, q⟩
      · exact Or.inl ⟨hj, q 400 (by omega)⟩
  | n + 1, f, j, x4, h, hj, tp, hw, ht, hx => by
    have hK := tp.1
    have lx := tX_le K bs j
    have ls : skip K bs (tX K bs j) ≤ K := (skip_le lx).2
    have kl := tkind_lt K bs (skip K bs (tX K bs j))
    rw [show f + (n + 1) + 1 = (f + n + 1) + 1 from by omega, lq4_s]
    have ih := fun (x : Int32) (h' : PH) => cutLoopC (K := K) (bs := bs) n f (j + 1) x h' (by omega)
    generalize lq4 (c_X10_cut_L8b 3 1 (nI K) (fun h18 => some h18)) (f + n + 1) = REC at ih
    unfold c_X10_cut_L8b
    rw [if_neg (show ¬ (400 : Int32) < nI j from nI_nlt (a := 400) (by omega) (by omega))]
    rcases hx with ⟨x0, j0, jk, jl⟩ | ⟨x1, jl⟩
    · rw [if_pos x0]; exact ex_some ⟨KP.rfl, j, ⟨by omega, jl, Or.inr ⟨j0, jk⟩⟩, ht⟩
    rw [if_neg (show ¬ x4 = 0 by rw [x1]; decide), behindC tp lx, Option.bind_some, nm_eq, endC tp ls, Option.bind_some, nm_eq]
    refine ex_bind (putC (j := j) tp hw ls (by omega)) (fun h8 ⟨e1, e2, e3, kp⟩ => ?_)
    rw [gdI (k := j) (by omega) (by omega), nI_clamp (n := j) (by omega), show h8.1 (3 + 1) j = nI (tkind K bs (skip K bs (tX K bs j))) from e1]
    have tp8 : TpC K bs h8 := ⟨hK, fun i hi => ⟨(tp.2 i hi).1, by rw [kp.i (by unfold FTk; omega)]; exact (tp.2 i hi).2⟩⟩
    have hw8 : ∀ k, k < 23 → h8.2.1 7 k = hX11.2.1 7 k := fun k hk => by rw [kp.j (by unfold FTk; omega)]; exact hw k hk
    have ht8 : ∀ i, i < j + 1 → TokC K bs h8 i := fun i hi => by
      by_cases q : i = j
      · rw [q]; exact ⟨e1, e2, e3⟩
      · obtain ⟨t1, t2, t3⟩ := ht i (by omega)
        exact ⟨by rw [kp.i (by unfold FTk; omega)]; exact t1, by rw [kp.i (by unfold FTk; omega)]; exact t2, by rw [kp.j (by unfold FTk; omega)]; exact t3⟩
    have go : ∀ (c : Int32), (c = 0 ∧ tK K bs j ≤ 1 ∨ c = 1 ∧ 1 < tK K bs j) → ExH (REC (nI (tend K bs (skip K bs (tX K bs j)))) c (nI j + 1) h8) (fun h' => KP FTt h h' ∧ ∃ N, tEnd K bs N ∧ ∀ i, i < N → TokC K bs h' i) := fun c hc => by
      rw [nI_1]
      obtain ⟨h', eh, kk, q⟩ := ih c h8 tp8 hw8 ht8 (by
        rcases hc with ⟨c0, c1⟩ | ⟨c0, c1⟩
        · exact Or.inl ⟨c0, by omega, c1, fun i hi => jl i (by omega)⟩
        · refine Or.inr ⟨c0, fun i hi => ?_⟩
          by_cases q : i = j
          · rw [q]; exact c1
          · exact jl i (by omega))
      exact ⟨h', eh, (kp.mono (fun p k z => by unfold FTt at z; unfold FTk; omega)).trans kk, q⟩
    rw [ite_cg (show nI (tkind K bs (skip K bs (tX K bs j))) = 0 ↔ tkind K bs (skip K bs (tX K bs j)) = 0 from nI_lit (by omega) 0 (by omega) rfl)]
    by_cases q0 : tkind K bs (skip K bs (tX K bs j)) = 0
    · rw [if_pos q0, nm_eq, nm_eq, nm_eq]; exact go 0 (Or.inl ⟨rfl, by show tkind K bs (skip K bs (tX K bs j)) ≤ 1; omega⟩)
    rw [if_neg q0, gdI (k := j) (by omega) (by omega), ite_cg (show nI (tkind K bs (skip K bs (tX K bs j))) = 1 ↔ tkind K bs (skip K bs (tX K bs j)) = 1 from nI_lit (by omega) 1 (by omega) rfl)]
    by_cases q1 : tkind K bs (skip K bs (tX K bs j)) = 1
    · rw [if_pos q1, nm_eq, nm_eq, nm_eq]; exact go 0 (Or.inl ⟨rfl, by show tkind K bs (skip K bs (tX K bs j)) ≤ 1; omega⟩)
    · rw [if_neg q1, nm_eq, nm_eq, nm_eq]; exact go 1 (Or.inr ⟨rfl, by show 1 < tkind K bs (skip K bs (tX K bs j)); omega⟩)
theorem cutC {K : Nat} {bs : Nat → Nat} {h : PH} (tp : TpC K bs h) (hw : ∀ k, k < 23 → h.2.1 7 k = hX11.2.1 7 k) : ExH (c_X10_cut 3 1 (nI K) h) (fun h' => KP FTt h h' ∧ ∃ N, tEnd K bs N ∧ ∀ i, i < N → TokC K bs h' i) := by
  unfold c_X10_cut
  have := cutLoopC (K := K) (bs := bs) 401 (8191 - 401) 0 1 h rfl tp hw (fun i hi => by omega) (Or.inr ⟨rfl, fun i hi => by omega⟩)
  rw [← fu_n (show 401 ≤ 8000 by omega)] at this
  rw [nm_eq, nm_eq, nm_eq]
  exact this
