/-- the reference's kind for a kind of the class -/
def kM (k : Nat) : Nat := if k = 0 then 0 else if k = 1 then 3 else if k = 2 then 1 else if k = 3 then 2 else if 64 ≤ k then k - 44 else sgK k
theorem kM_sgn : ∀ b : Nat, b < 256 → kM (if sgnB b = true then b else 1) = sgK b := by decide +kernel
theorem kM_w : ∀ w : Nat, w < 23 → kM (64 + w) = 20 + w := by decide +kernel
theorem tkind_l {K a : Nat} {bs : Nat → Nat} (ha : a < K) (q : letB (bs a) = true) : tkind K bs a = (if tend K bs a - a ≤ 8 then kindW (valF bs 32 96 (tend K bs a - a) a 0) else 1) ∧ tend K bs a = runF letB bs (K - a) a := by
  unfold tkind; rw [if_neg (by omega), if_pos q]
  refine ⟨rfl, ?_⟩
  unfold tend; rw [if_neg (by omega), if_pos q]
theorem tkind_d {K a : Nat} {bs : Nat → Nat} (ha : a < K) (q0 : ¬ letB (bs a) = true) (q : digB (bs a) = true) : tkind K bs a = (if tend K bs a - a ≤ 4 then 3 else 1) ∧ tval K bs a = (if tend K bs a - a ≤ 4 then valF bs 10 48 (tend K bs a - a) a 0 else 0) ∧ tend K bs a = runF digB bs (K - a) a := by
  unfold tkind tval; rw [if_neg (show ¬ K ≤ a by omega), if_neg q0, if_pos q, if_neg (show ¬ K ≤ a by omega), if_neg q0, if_pos q]
  refine ⟨rfl, rfl, ?_⟩
  unfold tend; rw [if_neg (by omega), if_neg q0, if_pos q]
theorem tkind_s {K a : Nat} {bs : Nat → Nat} (ha : a < K) (q0 : ¬ letB (bs a) = true) (q : ¬ digB (bs a) = true) : tkind K bs a = if sgnB (bs a) = true then bs a else 1 := by
  unfold tkind; rw [if_neg (by omega), if_neg q0, if_neg q]
def TokR (K : Nat) (bs : Nat → Nat) (h : PH) (j : Nat) : Prop := h.1 3 j = nI (kM (tK K bs j)) ∧ h.1 4 j = nI (tS K bs j) ∧ (tK K bs j = 3 → h.1 5 j = nI (tval K bs (tS K bs j))) ∧ (tS K bs j < K → letB (bs (tS K bs j)) = true → tend K bs (tS K bs j) - tS K bs j ≤ 8 → h.2.1 6 j = lN (valF bs 27 96 (tend K bs (tS K bs j) - tS K bs j) (tS K bs j) 0))
def FRt (p k : Nat) : Prop := ¬ (3 ≤ p ∧ p ≤ 6 ∨ p = 0 ∧ k = 10)
def rEnd (K : Nat) (bs : Nat → Nat) (N : Nat) : Prop := N ≤ 401 ∧ (N = 401 ∨ 0 < N ∧ tK K bs (N - 1) = 0) ∧ ∀ i, i + 1 < N → tK K bs i ≠ 0
def rK1 (h : PH) : Option PH := (c_X12_token 0 (h.1 0 4) 0 (0 : Int64) h).bind fun h51 => some h51
def rK2 (h : PH) : Option PH := some h
theorem skip_blk {K x : Nat} {bs : Nat → Nat} (hx : x < K) (q : blkB (bs x) = true) : skip K bs (x + 1) = skip K bs x := by
  obtain ⟨m, hm⟩ : ∃ m, K - x = m + 1 := ⟨K - x - 1, by omega⟩
  unfold skip
  rw [hm, show K - (x + 1) = m by omega]
  show _ = if blkB (bs x) = true then runF blkB bs m (x + 1) else x
  rw [if_pos q]
theorem skip_non {K x : Nat} {bs : Nat → Nat} (hx : x < K) (q : ¬ blkB (bs x) = true) : skip K bs x = x := by
  obtain ⟨m, hm⟩ : ∃ m, K - x = m + 1 := ⟨K - x - 1, by omega⟩
  unfold skip
  rw [hm]
  show (if blkB (bs x) = true then runF blkB bs m (x + 1) else x) = x
  rw [if_neg q]
theorem skip_K (K : Nat) (bs : Nat → Nat) : skip K bs K = K := by unfold skip; rw [Nat.sub_self]; rfl
theorem tkR_step {K : Nat} {bs : Nat → Nat} {h h8 : PH} {j : Nat} {k : Nat} {a w : Int32} {v : Int64} (tp : TpR K bs h) (ht : ∀ i, i < j → TokR K bs h i) (hk : k = kM (tK K bs j)) (ha : a = nI (tS K bs j)) (hw : tK K bs j = 3 → w = nI (tval K bs (tS K bs j))) (hv : tS K bs j < K → letB (bs (tS K bs j)) = true → tend K bs (tS K bs j) - tS K bs j ≤ 8 → v = lN (valF bs 27 96 (tend K bs (tS K bs j) - tS K bs j) (tS K bs j) 0)) (e : h8.1 3 j = nI k ∧ h8.1 4 j = a ∧ h8.1 5 j = w ∧ h8.2.1 6 j = v) (kp : KP (FRj j) h h8) : TpR K bs h8 ∧ ∀ i, i < j + 1 → TokR K bs h8 i := by
  refine ⟨⟨tp.1, by rw [kp.i (by unfold FRj; omega)]; exact tp.2.1, fun i hi => ⟨(tp.2.2 i hi).1, by rw [kp.i (by unfold FRj; omega)]; exact (tp.2.2 i hi).2⟩⟩, fun i hi => ?_⟩
  by_cases q : i = j
  · rw [q]
    exact ⟨by rw [e.1, hk], by rw [e.2.1, ha], fun z => by rw [e.2.2.1]; exact hw z, fun z1 z2 z3 => by rw [e.2.2.2]; exact hv z1 z2 z3⟩
  · obtain ⟨t1, t2, t3, t4⟩ := ht i (by omega)
    exact ⟨by rw [kp.i (by unfold FRj; omega)]; exact t1, by rw [kp.i (by unfold FRj; omega)]; exact t2, fun z => by rw [kp.i (by unfold FRj; omega)]; exact t3 z, fun z1 z2 z3 => by rw [kp.j (by unfold FRj; omega)]; exact t4 z1 z2 z3⟩
theorem cutLoopR {K : Nat} {bs : Nat → Nat} : ∀ (F x j : Nat) (h : PH), K - x < F → x ≤ K → TpR K bs h → (∀ k, k < 23 → h.2.1 7 k = hX12.2.1 7 k) → h.1 0 10 = nI j → j ≤ 401 → skip K bs x = tS K bs j → (∀ i, i < j → TokR K bs h i) → (∀ i, i < j → tK K bs i ≠ 0) → ExH (lq2 (c_X12_cut_L7b rK1 rK2) F (nI x) h) (fun h' => KP FRt h h' ∧ ∃ N, h'.1 0 10 = nI N ∧ rEnd K bs N ∧ ∀ i, i < N → TokR K bs h' i)
  | 0, x, j, h, hF, hx, tp, hw, hc, hj, hs, ht, hn => by omega
  | F + 1, x, j, h, hF, hx, tp, hw, hc, hj, hs, ht, hn => by
    have hK := tp.1
    rw [lq2_s]
    have ih := fun x' j' h' => cutLoopR (K := K) (bs := bs) F x' j' h'
    generalize lq2 (c_X12_cut_L7b rK1 rK2) F = REC at ih
    unfold c_X12_cut_L7b
    rw [hc, ite_cg (show (400 : Int32) < nI j ↔ 400 < j from nI_ltI (a := 400) (by omega) (by omega))]
    by_cases q400 : 400 < j
    · rw [if_pos q400]
      exact ex_some ⟨KP.rfl, j, hc, ⟨hj, Or.inl (by omega), fun i hi => hn i (by omega)⟩, ht⟩
    rw [if_neg q400, byteR tp (by omega), Option.bind_some, nm_eq, tp.2.1, ite_cg (show nI x < nI K ↔ x < K from nI_ltI (by omega) (by omega))]
    by_cases qK' : ¬ x < K
    · rw [if_neg qK']
      have ex : x = K := by omega
      subst ex
      rw [skip_K] at hs
      have tk0 : tK x bs j = 0 := by unfold tK tkind; rw [← hs, if_pos (Nat.le_refl x)]
      unfold rK1
      rw [tp.2.1]
      refine ex_bind (tokR hc (by omega)) (fun h8 ⟨e0, e1, e2, e3, e4, kp⟩ => ex_some ?_)
      obtain ⟨_, ht8⟩ := tkR_step (k := 0) tp ht (by rw [tk0]; rfl) (congrArg nI hs) (fun z => by rw [tk0] at z; omega) (fun z => by omega) ⟨e1, e2, e3, e4⟩ kp
      exact ⟨kp.mono (fun p k z => by unfold FRt at z; unfold FRj; omega), j + 1, e0, ⟨by omega, Or.inr ⟨by omega, tk0⟩, fun i hi => hn i (by omega)⟩, ht8⟩
    have qK : x < K := by omega
    have ez : bz K bs x = bs x := if_pos qK
    have b6 := (tp.2.2 x qK).1
    have hb : blkB (bs x) = true ↔ (bs x = 32 ∨ bs x = 9 ∨ bs x = 10 ∨ bs x = 13) := decide_eq_true_iff
    rw [if_pos qK, ez, ite_cg (show nI (bs x) = 9 ↔ bs x = 9 from nI_lit (by omega) 9 (by omega) rfl), ite_cg (show nI (bs x) = 10 ↔ bs x = 10 from nI_lit (by omega) 10 (by omega) rfl), ite_cg (show nI (bs x) = 13 ↔ bs x = 13 from nI_lit (by omega) 13 (by omega) rfl), ite_cg (show nI (bs x) = 32 ↔ bs x = 32 from nI_lit (by omega) 32 (by omega) rfl), nI_1]
    by_cases q1 : bs x = 9
    · rw [if_pos q1, nm_eq]
      exact ih (x + 1) j h (by omega) (by omega) tp hw hc hj ((skip_blk qK (hb.mpr (by omega))).trans hs) ht hn
    rw [if_neg q1]
    by_cases q2 : bs x = 10
    · rw [if_pos q2, nm_eq]
      exact ih (x + 1) j h (by omega) (by omega) tp hw hc hj ((skip_blk qK (hb.mpr (by omega))).trans hs) ht hn
    rw [if_neg q2]
    by_cases q3 : bs x = 13
    · rw [if_pos q3, nm_eq]
      exact ih (x + 1) j h (by omega) (by omega) tp hw hc hj ((skip_blk qK (hb.mpr (by omega))).trans hs) ht hn
    rw [if_neg q3]
    by_cases q4 : bs x = 32
    · rw [if_pos q4, nm_eq]
      exact ih (x + 1) j h (by omega) (by omega) tp hw hc hj ((skip_blk qK (hb.mpr (by omega))).trans hs) ht hn
    rw [if_neg q4]
    have hs : x = tS K bs j := (skip_non qK (fun z => by have := hb.mp z; omega)).symm.trans hs
    have tl := tend_le (K := K) (bs := bs) hx
    have go : ∀ (k : Nat) (w : Int32) (v : Int64) (B : PH → Option PH), k = kM (tkind K bs x) → tkind K bs x ≠ 0 → (tkind K bs x = 3 → w = nI (tval K bs x)) → (letB (bs x) = true → tend K bs x - x ≤ 8 → v = lN (valF bs 27 96 (tend K bs x - x) x 0)) → (∀ h8, B h8 = REC (nI (tend K bs x)) h8) → ExH ((c_X12_token (nI k) (nI x) w v h).bind B) (fun h' => KP FRt h h' ∧ ∃ N, h'.1 0 10 = nI N ∧ rEnd K bs N ∧ ∀ i, i < N → TokR K bs h' i) := by
      intro k w v B hk hk0 hw3 hv3 hB
      refine ex_bind (tokR hc (by omega)) (fun h8 ⟨e0, e1, e2, e3, e4, kp⟩ => ?_)
      have etk : tkind K bs x = tK K bs j := by unfold tK; rw [← hs]
      obtain ⟨tp8, ht8⟩ := tkR_step (k := k) tp ht (by rw [← etk]; exact hk) (by rw [← hs]) (fun z => by rw [← hs]; exact hw3 (etk.trans z)) (fun _ z1 z2 => by rw [← hs] at z1 z2 ⊢; exact hv3 z1 z2) ⟨e1, e2, e3, e4⟩ kp
      have hw8 : ∀ k, k < 23 → h8.2.1 7 k = hX12.2.1 7 k := fun k hk => by rw [kp.j (by unfold FRj; omega)]; exact hw k hk
      rw [hB]
      obtain ⟨h', eh, kk, q⟩ := ih (tend K bs x) (j + 1) h8 (by omega) tl.1 tp8 hw8 e0 (by omega) (by rw [hs]; rfl) ht8 (fun i hi => by
        by_cases q : i = j
        · rw [q, ← etk]; exact hk0
        · exact hn i (by omega))
      exact ⟨h', eh, (kp.mono (fun p k z => by unfold FRt at z; unfold FRj; omega)).trans kk, q⟩
    rw [nI_letR _ b6, Option.bind_some, if_0i]
    by_cases ql : letB (bs x) = true
    · rw [if_neg (show ¬ ¬ letB (bs x) = true from fun z => z ql), nm_eq, nm_eq]
      obtain ⟨tk, te⟩ := tkind_l qK ql
      obtain ⟨t1, t2, t3⟩ := tend_let qK ql
      obtain ⟨v, hv, l⟩ := letRunR (x := x) (K1 := fun w37 w38 => if w37 ≤ 8 then c_X12_cut_j135 rK1 rK2 REC (nI x) w37 w38 1 h else c_X12_cut_j135 rK1 rK2 REC (nI x) w37 w38 3 h) tp (K - x) (8191 - (K - x)) 0 0 (by omega)
      rw [← fu_n (show K - x ≤ 8000 by omega), Nat.add_zero, ← te] at l
      rw [Nat.add_zero, ← te] at hv
      have l : lq2 (c_X12_cut_L85b (nI x) h (fun w37 w38 => if w37 ≤ 8 then c_X12_cut_j135 rK1 rK2 REC (nI x) w37 w38 1 h else c_X12_cut_j135 rK1 rK2 REC (nI x) w37 w38 3 h)) fu 0 0 = if nI (tend K bs x - x) ≤ 8 then c_X12_cut_j135 rK1 rK2 REC (nI x) (nI (tend K bs x - x)) (lN v) 1 h else c_X12_cut_j135 rK1 rK2 REC (nI x) (nI (tend K bs x - x)) (lN v) 3 h := l
      rw [l, ite_cg (show nI (tend K bs x - x) ≤ 8 ↔ tend K bs x - x ≤ 8 from nI_leI (b := 8) (by omega) (by omega))]
      have bk : ∀ h8, (nm (nI x + nI (tend K bs x - x)) fun v41 => REC v41 h8) = REC (nI (tend K bs x)) h8 := fun h8 => by rw [nm_eq, nI_add, show x + (tend K bs x - x) = tend K bs x by omega]
      have tl8 : ∀ i, x ≤ i → i < x + (tend K bs x - x) → letB (bs i) = true := fun i h1 h2 => t3 i h1 (by omega)
      by_cases q8 : tend K bs x - x ≤ 8
      · rw [if_pos q8]
        rw [if_pos q8, kindW_of tl8] at tk
        unfold c_X12_cut_j135
        rw [nm_eq, ite_cg (show (7 : Int32) < nI (tend K bs x - x) ↔ 7 < tend K bs x - x from nI_ltI (a := 7) (by omega) (by omega))]
        by_cases q7 : 7 < tend K bs x - x
        · rw [if_pos q7]
          rw [wOf_8 q7] at tk
          have tk : tkind K bs x = 2 := tk
          exact go 1 0 (lN v) _ (by rw [tk]; rfl) (by omega) (fun z => by omega) (fun _ _ => by rw [hv q8]) bk
        · rw [if_neg q7, nm_eq]
          have ev := hv q8
          have wr := wordRunR (ρ := PH) (z1 := nI x) (z3 := nI (tend K bs x - x)) (K1 := fun w46 => (c_X12_token w46 (nI x) 0 (lN v) h).bind fun h47 => nm (nI x + nI (tend K bs x - x)) fun v48 => REC v48 h47) hw q8 tl8 23 (8191 - 23) 0 1 rfl
          rw [← fu_n (show 23 ≤ 8000 by omega), ← ev] at wr
          refine (show ∀ o o' : Option PH, o = o' → ExH o' _ → ExH o _ from fun o o' z y => z ▸ y) _ _ wr ?_
          show ExH ((c_X12_token (Option.elim (wOf bs (tend K bs x - x) x) 1 (fun w => nI (20 + w))) (nI x) 0 (lN v) h).bind fun h47 => nm (nI x + nI (tend K bs x - x)) fun v48 => REC v48 h47) _
          cases ew : wOf bs (tend K bs x - x) x with
          | none =>
            rw [ew] at tk
            have tk : tkind K bs x = 2 := tk
            exact go 1 0 (lN v) _ (by rw [tk]; rfl) (by omega) (fun z => by omega) (fun _ _ => by rw [ev]) bk
          | some w =>
            rw [ew] at tk
            have tk : tkind K bs x = 64 + w := tk
            have wl := (fstX_some _ _ _ ew).2.1
            exact go (20 + w) 0 (lN v) _ (by rw [tk, kM_w w (by omega)]) (by omega) (fun z => by omega) (fun _ _ => by rw [ev]) bk
      · rw [if_neg q8]
        rw [if_neg q8] at tk
        unfold c_X12_cut_j135
        rw [nm_eq, if_pos (show (7 : Int32) < nI (tend K bs x - x) from nI_lt (a := 7) (by omega) (by omega))]
        exact go 3 0 (lN v) _ (by rw [tk]; rfl) (by omega) (fun z => by omega) (fun _ z => absurd z q8) bk
    rw [if_pos ql, nI_digR _ b6, Option.bind_some, if_0i]
    by_cases qd : digB (bs x) = true
    · rw [if_neg (show ¬ ¬ digB (bs x) = true from fun z => z qd), nm_eq, nm_eq]
      obtain ⟨tk, tv, te⟩ := tkind_d qK ql qd
      obtain ⟨t1, t2, t3⟩ := tend_dig qK ql qd
      obtain ⟨v, hv, l⟩ := digRunR (x := x) (K1 := fun w22 w23 => if w22 ≤ 4 then (c_X12_token 2 (nI x) w23 (0 : Int64) h).bind fun h24 => nm (nI x + w22) fun v25 => REC v25 h24 else (c_X12_token 3 (nI x) w23 (0 : Int64) h).bind fun h26 => nm (nI x + w22) fun v27 => REC v27 h26) tp (K - x) (8191 - (K - x)) 0 0 (by omega)
      rw [← fu_n (show K - x ≤ 8000 by omega), Nat.add_zero, ← te] at l
      rw [Nat.add_zero, ← te] at hv
      have l : lq2 (c_X12_cut_L208b (nI x) h (fun w22 w23 => if w22 ≤ 4 then (c_X12_token 2 (nI x) w23 (0 : Int64) h).bind fun h24 => nm (nI x + w22) fun v25 => REC v25 h24 else (c_X12_token 3 (nI x) w23 (0 : Int64) h).bind fun h26 => nm (nI x + w22) fun v27 => REC v27 h26)) fu 0 0 = if nI (tend K bs x - x) ≤ 4 then (c_X12_token 2 (nI x) (nI v) (0 : Int64) h).bind fun h24 => nm (nI x + nI (tend K bs x - x)) fun v25 => REC v25 h24 else (c_X12_token 3 (nI x) (nI v) (0 : Int64) h).bind fun h26 => nm (nI x + nI (tend K bs x - x)) fun v27 => REC v27 h26 := l
      rw [l, ite_cg (show nI (tend K bs x - x) ≤ 4 ↔ tend K bs x - x ≤ 4 from nI_leI (b := 4) (by omega) (by omega))]
      have bk : ∀ h8, (nm (nI x + nI (tend K bs x - x)) fun v41 => REC v41 h8) = REC (nI (tend K bs x)) h8 := fun h8 => by rw [nm_eq, nI_add, show x + (tend K bs x - x) = tend K bs x by omega]
      by_cases q8 : tend K bs x - x ≤ 4
      · rw [if_pos q8] at tk tv ⊢
        exact go 2 (nI v) 0 _ (by rw [tk]; rfl) (by omega) (fun z => by rw [tv, hv q8]) (fun z => absurd z ql) bk
      · rw [if_neg q8] at tk tv ⊢
        exact go 3 (nI v) 0 _ (by rw [tk]; rfl) (by omega) (fun z => by omega) (fun z => absurd z ql) bk
    · have ts := tkind_s qK ql qd
      have te := tend_sgn qK ql qd
      rw [if_pos qd, byteR tp (by omega), Option.bind_some, signR b6]
      have ks := kM_sgn _ b6
      rw [← ts] at ks
      have hne : tkind K bs x ≠ 0 := by
        rw [ts]
        by_cases q : sgnB (bs x) = true
        · rw [if_pos q]; have := of_decide_eq_true q; omega
        · rw [if_neg q]; omega
      have hn3 : tkind K bs x ≠ 3 := by
        rw [ts]
        by_cases q : sgnB (bs x) = true
        · rw [if_pos q]; have := of_decide_eq_true q; omega
        · rw [if_neg q]; omega
      refine (show ∀ o o' : Option PH, o = o' → ExH o' _ → ExH o _ from fun o o' z y => z ▸ y) _ ((c_X12_token (nI (sgK (bs x))) (nI x) 0 (0 : Int64) h).bind fun h12 => REC (nI (tend K bs x)) h12) ?_ (go (sgK (bs x)) 0 0 _ ks.symm hne (fun z => absurd z hn3) (fun z => absurd z ql) (fun h8 => rfl))
      rw [te, ← nI_1]
      cases c_X12_token (nI (sgK (bs x))) (nI x) 0 (0 : Int64) h with
      | none => rfl
      | some h9 => rfl
theorem cutR {K : Nat} {bs : Nat → Nat} {h : PH} (tp : TpR K bs h) (hw : ∀ k, k < 23 → h.2.1 7 k = hX12.2.1 7 k) : ExH (c_X12_cut h) (fun h' => KP FRt h h' ∧ ∃ N, h'.1 0 10 = nI N ∧ rEnd K bs N ∧ ∀ i, i < N → TokR K bs h' i) := by
  have hK := tp.1
  unfold c_X12_cut
  refine ex_set (fun h1 e1 => ?_)
  have k1 : KP FRt h h1 := by rw [e1]; exact KP.setI (fun z => by unfold FRt at z; omega)
  have tp1 : TpR K bs h1 := ⟨hK, by rw [k1.i (by unfold FRt; omega)]; exact tp.2.1, fun i hi => ⟨(tp.2.2 i hi).1, by rw [k1.i (by unfold FRt; omega)]; exact (tp.2.2 i hi).2⟩⟩
  obtain ⟨h', eh, kk, q⟩ := cutLoopR (K := K) (bs := bs) fu 0 0 h1 (by show K - 0 < 8192; omega) (by omega) tp1 (fun k hk => by rw [k1.j (by unfold FRt; omega)]; exact hw k hk) (by rw [e1]; exact setI_eq h 0 10 0) (by omega) rfl (fun i hi => by omega) (fun i hi => by omega)
  exact ⟨h', by rw [nm_eq]; exact eh, k1.trans kk, q⟩
