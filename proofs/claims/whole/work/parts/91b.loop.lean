def ldR : (PH → Option (Int32 × PH)) → PH → Option (Int32 × PH) := c_X12_read_L112b (fun h19 => c_X12_read_j134 h19)
def ldC : (Int32 → PH → Option (Int32 × PH)) → Int32 → PH → Option (Int32 × PH) := c_X4_parse_L43b 2 1 (fun h36 => c_X4_parse_j264 2 1 h36)
theorem stepO {o : Option PH} {REC : Int32 → PH → Option (Int32 × PH)} {x : Nat} {hc' : PH} (e : (o.bind fun h => c_X4_accept 2 59 h) = some hc') : (o.bind fun h => c_X4_parse_j252 2 1 (fun h36 => c_X4_parse_j264 2 1 h36) REC (nI x) h) = REC (nI (x + 1)) hc' := by
  cases o with
  | none => exact absurd (show (none : Option PH) = some hc' from e) (by simp)
  | some h =>
    have e : c_X4_accept 2 59 h = some hc' := e
    show c_X4_parse_j252 2 1 (fun h36 => c_X4_parse_j264 2 1 h36) REC (nI x) h = _
    unfold c_X4_parse_j252
    rw [e, Option.bind_some, nI_1, nm_eq]
theorem stepB {o : Option (Int32 × PH)} {REC : Int32 → PH → Option (Int32 × PH)} {x t j : Nat} {hc' : PH} (e : (bind2 o fun r h25 => c_X4_accept 2 59 (setI h25 t j r)) = some hc') : (bind2 o fun r24 h25 => nm (setI h25 t j r24) fun h26 => c_X4_parse_j252 2 1 (fun h36 => c_X4_parse_j264 2 1 h36) REC (nI x) h26) = REC (nI (x + 1)) hc' := by
  cases o with
  | none => exact absurd (show (none : Option PH) = some hc' from e) (by simp)
  | some y =>
    obtain ⟨r, h⟩ := y
    have e : c_X4_accept 2 59 (setI h t j r) = some hc' := e
    show c_X4_parse_j252 2 1 (fun h36 => c_X4_parse_j264 2 1 h36) REC (nI x) (setI h t j r) = _
    unfold c_X4_parse_j252
    rw [e, Option.bind_some, nI_1, nm_eq]
theorem tOK_o {α : Type} {t : Nat} (ht : t = 8 ∨ t = 43) {o : Option α} : gd (tOK t) o = o := if_pos (decide_eq_true ht)
theorem ldC_b {G : Nat} {x : Int32} {hc hr : PH} (bk : BK hc hr) : lq2 ldC (G + 1) x hc = c_X4_parse_j264 2 1 hc := by
  rw [lq2_s]
  unfold ldC c_X4_parse_L43b
  by_cases z : 400 < x
  · rw [if_pos z]
  · rw [if_neg z, if_neg bk.nc]
theorem ldR_b {F : Nat} {hc hr : PH} (bk : BK hc hr) : lq1 ldR (F + 1) hr = c_X12_read_j134 hr := by
  rw [lq1_s]
  unfold ldR c_X12_read_L112b
  rw [if_neg bk.nr]
/-- the statements of a text, on both sides -/
theorem loop2 {K N t s : Nat} {bs : Nat → Nat} (ht : t = 8 ∨ t = 43) (hs : s < 2) : ∀ (G F x p : Nat) (hc hr : PH), 402 ≤ G + x → 402 ≤ F + p → x ≤ p → PT K bs N hc hr → RS K bs N p hc hr → BD t s p hc hr → ∃ hc' hr', lq2 ldC G (nI x) hc = c_X4_parse_j264 2 1 hc' ∧ lq1 ldR F hr = c_X12_read_j134 hr' ∧ KP (FPc t) hc hc' ∧ KP (FPr s) hr hr' ∧ PT K bs N hc' hr' ∧ (BK hc' hr' ∨ ∃ p', RS K bs N p' hc' hr' ∧ BD t s p' hc' hr') := by
  intro G
  induction G with
  | zero => intro F x p hc hr g1 g2 g3 pt rs; have hN := pt.2.1.1; have h5 := rs.2.2.2.2.1; omega
  | succ G ih =>
  intro F x p hc hr g1 g2 g3 pt rs bd
  have hN := pt.2.1.1; have h5 := rs.2.2.2.2.1
  have kl : tK K bs p < 128 := tkind_lt K bs (tS K bs p)
  obtain ⟨F, rfl⟩ : ∃ F', F = F' + 1 := ⟨F - 1, by omega⟩
  obtain ⟨G, rfl⟩ : ∃ G', G = G' + 1 := ⟨G - 1, by omega⟩
  have oth : hc.2.2 2 1 = t := by obtain ⟨T, c, L, so, nu, b, k, al, sd⟩ := bd; exact al.oth
  rw [lq2_s, lq1_s]
  generalize hRc : lq2 ldC (G + 1) = RECc at ih
  generalize hRr : lq1 ldR F = RECr
  unfold ldC ldR c_X4_parse_L43b c_X12_read_L112b
  rw [if_neg (show ¬ (400 : Int32) < nI x from fun z => by have := (nI_ltI (a := 400) (by omega) (by omega)).mp z; omega), if_pos rs.1, if_pos rs.2.1, rs.kind pt, Option.bind_some, Option.bind_some, rs.is pt (k := 0) (by omega) rfl (c := 0) rfl, Option.bind_some, if_0i]
  by_cases q0 : tK K bs p = 0
  · rw [if_pos (show nI (tK K bs p) = 0 by rw [q0]; exact nI_0), if_neg (fun z => z q0)]
    exact ⟨hc, hr, rfl, rfl, KP.rfl, KP.rfl, pt, Or.inr ⟨p, rs, bd⟩⟩
  rw [if_neg (show ¬ nI (tK K bs p) = 0 from fun z => q0 ((nI_lit (by omega) 0 (by omega) nI_0.symm).mp z)), if_pos q0]
  have cont : ∀ (oc : Option PH) (cr : Option (Int32 × PH)), OUT K bs N t s p hc hr oc (c_X12_tellOne hr) → (∀ hc', oc = some hc' → cr = RECc (nI (x + 1)) hc') → ∃ hc' hr', cr = c_X4_parse_j264 2 1 hc' ∧ ((c_X12_tellOne hr).bind fun h18 => RECr h18) = c_X12_read_j134 hr' ∧ KP (FPc t) hc hc' ∧ KP (FPr s) hr hr' ∧ PT K bs N hc' hr' ∧ (BK hc' hr' ∨ ∃ p', RS K bs N p' hc' hr' ∧ BD t s p' hc' hr') := fun oc cr ou hcr => by
    obtain ⟨hc1, hr1, e1, e2, kc, kr, pt1, h⟩ := ou
    rw [hcr hc1 e1, e2, Option.bind_some]
    rcases h with bk | ⟨p', hp, rs1, bd1⟩
    · have hN' := pt1.2.1.1
      obtain ⟨F, rfl⟩ : ∃ F', F = F' + 1 := ⟨F - 1, by omega⟩
      rw [← hRc, ← hRr, ldC_b bk, ldR_b bk]
      exact ⟨hc1, hr1, rfl, rfl, kc, kr, pt1, Or.inl bk⟩
    · obtain ⟨hc2, hr2, e3, e4, kc2, kr2, pt2, h2⟩ := ih F (x + 1) p' hc1 hr1 (by omega) (by omega) (by omega) pt1 rs1 bd1
      rw [← hRr]
      exact ⟨hc2, hr2, e3, e4, kc.trans kc2, kr.trans kr2, pt2, h2⟩
  have ne : ∀ m, m < 128 → tK K bs p ≠ m → ¬ nI (tK K bs p) = nI m := fun m hm h z => h ((nI_eq (by omega) (by omega)).mp z)
  by_cases q1 : tK K bs p = 64
  · rw [if_pos (show nI (tK K bs p) = 64 by rw [q1]; rfl)]
    exact cont _ _ (man2 pt rs bd ht hs q1) (fun hc' e => stepO e)
  rw [if_neg (show ¬ nI (tK K bs p) = (64 : Int32) from ne 64 (by omega) q1)]
  by_cases q2 : tK K bs p = 65
  · rw [if_pos (show nI (tK K bs p) = 65 by rw [q2]; rfl)]
    exact cont _ _ (exc2 pt rs bd ht hs q2) (fun hc' e => stepO e)
  rw [if_neg (show ¬ nI (tK K bs p) = (65 : Int32) from ne 65 (by omega) q2)]
  by_cases q3 : tK K bs p = 66
  · rw [if_pos (show nI (tK K bs p) = 66 by rw [q3]; rfl)]
    exact cont _ _ (dut2 pt rs bd ht hs q3) (fun hc' e => stepO e)
  rw [if_neg (show ¬ nI (tK K bs p) = (66 : Int32) from ne 66 (by omega) q3)]
  by_cases q4 : tK K bs p = 67
  · rw [if_pos (show nI (tK K bs p) = 67 by rw [q4]; rfl)]
    exact cont _ _ (kno3 pt rs bd ht hs q4) (fun hc' e => stepO e)
  rw [if_neg (show ¬ nI (tK K bs p) = (67 : Int32) from ne 67 (by omega) q4)]
  by_cases q5 : tK K bs p = 68
  · rw [if_pos (show nI (tK K bs p) = 68 by rw [q5]; rfl)]
    exact cont _ _ (tst2 pt rs bd ht hs q5) (fun hc' e => stepO e)
  rw [if_neg (show ¬ nI (tK K bs p) = (68 : Int32) from ne 68 (by omega) q5)]
  by_cases q6 : tK K bs p = 69
  · rw [if_pos (show nI (tK K bs p) = 69 by rw [q6]; rfl), oth, nm_eq t, tOK_o ht]
    have h := law2 (kk := 0) pt rs bd ht hs (by omega) q6
    rw [show t + 1 + 3 * 0 = t + 1 from rfl, show nI (69 + 0) = (69 : Int32) from rfl] at h
    exact cont _ _ h (fun hc' e => stepO e)
  rw [if_neg (show ¬ nI (tK K bs p) = (69 : Int32) from ne 69 (by omega) q6)]
  by_cases q7 : tK K bs p = 70
  · rw [if_pos (show nI (tK K bs p) = 70 by rw [q7]; rfl), oth, nm_eq t, tOK_o ht]
    have h := law2 (kk := 1) pt rs bd ht hs (by omega) q7
    rw [show t + 1 + 3 * 1 = t + 4 by omega, show nI (69 + 1) = (70 : Int32) from rfl] at h
    exact cont _ _ h (fun hc' e => stepO e)
  rw [if_neg (show ¬ nI (tK K bs p) = (70 : Int32) from ne 70 (by omega) q7)]
  by_cases q8 : tK K bs p = 71
  · rw [if_pos (show nI (tK K bs p) = 71 by rw [q8]; rfl), oth, nm_eq t, tOK_o ht]
    exact cont _ _ (rain2 pt rs bd ht hs q8) (fun hc' e => stepB e)
  rw [if_neg (show ¬ nI (tK K bs p) = (71 : Int32) from ne 71 (by omega) q8)]
  by_cases q9 : tK K bs p = 72
  · rw [if_pos (show nI (tK K bs p) = 72 by rw [q9]; rfl), oth, nm_eq t, tOK_o ht]
    exact cont _ _ (coin2 pt rs bd ht hs q9) (fun hc' e => stepB e)
  rw [if_neg (show ¬ nI (tK K bs p) = (72 : Int32) from ne 72 (by omega) q9)]
  by_cases qa : tK K bs p = 73
  · rw [if_pos (show nI (tK K bs p) = 73 by rw [qa]; rfl), oth, nm_eq t, tOK_o ht]
    exact cont _ _ (seed2 pt rs bd ht hs qa) (fun hc' e => stepB e)
  rw [if_neg (show ¬ nI (tK K bs p) = (73 : Int32) from ne 73 (by omega) qa)]
  exact cont _ _ (none2 pt rs q0 (by omega)) (fun hc' e => stepO e)
