def Fcl (t p k : Nat) : Prop := p ≠ 218 ∧ p ≠ t + 3 ∧ p ≠ t + 6 ∧ ¬ (220 ≤ p ∧ p ≤ 222) ∧ ¬ (p = 219 ∧ k = 6) ∧ p ≠ 225 ∧ p ≠ 226
theorem pow_le343 {E n : Nat} (hE : E ≤ 7) (hn : n ≤ 3) : E ^ n ≤ 343 := Nat.le_trans (Nat.pow_le_pow_left hE n) (p7 hn)
theorem keepCh_ok {n : Nat} {f : Nat → Int32} {h : PH} (hn : n ≤ 3) (hs : h.1 219 5 = nI n) (hk : ∀ k, k < n → h.1 225 k = f k) : ExH (c_X7_keepChosen 219 h) (fun h' => (∀ k, k < n → h'.1 226 k = f k) ∧ KP (fun p _ => p ≠ 226) h h') := by
  unfold c_X7_keepChosen
  refine ex_nm ?_
  obtain ⟨y, e, y1, y2⟩ := for_h (B := c_X7_keepChosen_L2b 219 (fun h4 => some h4)) (K := fun h4 => some h4) (N := n) (fun i y => (∀ k, k < i → y.1 226 k = f k) ∧ KP (fun p _ => p ≠ 226) h y) (by omega) (fun REC i y hi hp => by
    have sy : y.1 219 5 = nI n := (hp.2.i (by omega)).trans hs
    have ky : y.1 (219 + 6) i = f i := (hp.2.i (show (219 + 6 : Nat) ≠ 226 by omega)).trans (hk i hi)
    refine ⟨setI y 226 i (f i), ?_, fun k hk2 => ?_, hp.2.trans (KP.setI (fun z => z rfl))⟩
    · unfold c_X7_keepChosen_L2b
      rw [sy, if_neg (nI_ge hi (by omega)), gdI (k := i) (by omega) (by omega), gdI (k := i) (by omega) (by omega), nI_clamp (n := i) (by omega), ky, nm_eq, nm_eq, nI_1]
    · by_cases q : k = i
      · subst q; rw [setI_eq]
      · rw [setI_ne (by omega)]; exact hp.1 k (by omega)) (fun REC y hp => by
    have sy : y.1 219 5 = nI n := (hp.2.i (by omega)).trans hs
    unfold c_X7_keepChosen_L2b
    rw [sy, if_pos (nI_le (by omega) (by omega))]) h ⟨fun k hk => absurd hk (by omega), KP.rfl⟩
  rw [e]
  exact ex_some ⟨y1, y2⟩
def foldC (T : TX) (σ : ST) (Lp Lw : LawT) (p : Int32) (S n i : Nat) : Int32 × Nat := forS (fun r => rowG T σ Lp Lw p S n (Ls T S T.dut) (conv T.exc n r)) i (-2, 0)
theorem foldC_s (T : TX) (σ : ST) (Lp Lw : LawT) (p : Int32) (S n i : Nat) : foldC T σ Lp Lw p S n (i + 1) = rowG T σ Lp Lw p S n (Ls T S T.dut) (conv T.exc n i) (foldC T σ Lp Lw p S n i) := rfl
theorem findC {m : Nat} {T : TX} {σ : ST} {s t S n : Nat} {Lp Lw : LawT} {p : Int32} {hc hr : PH} (C : CL m T σ s t Lp Lw hc hr) (hm : m < 600) (o : SetOK T σ S n) : ExV (c_X7_find 219 217 t 78 (nI S) p hc) (fun v h' => v = (if (foldC T σ Lp Lw p S n (T.exc ^ n)).1 = -2 then 0 else 1) ∧ h'.1 219 5 = nI n ∧ h'.1 219 6 = (foldC T σ Lp Lw p S n (T.exc ^ n)).1 ∧ ((foldC T σ Lp Lw p S n (T.exc ^ n)).1 ≠ -2 → ∀ k, k < n → h'.1 226 k = nI (dig (foldC T σ Lp Lw p S n (T.exc ^ n)).2 n k)) ∧ KP (SC t) hc h') := by
  have C0 := C.cor
  have w := C0.twf
  have w2 := w.dut; have w3 := w.exc
  have n3 := o.n3; have n1 := o.n1
  have t2 := C0.t2
  have sw := C0.swf
  unfold c_X7_find
  refine ev_set (fun h1 e1 => ?_)
  have k1 : KP (SC t) hc h1 := by rw [e1]; exact KP.setI (fun z => by unfold SC at z; omega)
  have C1 := C.fr (Nat.le_refl m) k1 KP.rfl
  have ov : c_X8_over 78 h1 = some (nI ((outMask σ 1 ||| outMask σ 2) ||| outMask σ 3)) := by
    unfold c_X8_over
    rw [C1.cor.sc.freed, C1.cor.sc.caught, C1.cor.sc.done, b_or, b_or]
  have z0 : S &&& ((outMask σ 1 ||| outMask σ 2) ||| outMask σ 3) = 0 := by
    apply Nat.eq_of_testBit_eq
    intro i
    rw [Nat.zero_testBit, Nat.testBit_and]
    cases e : S.testBit i with
    | false => rfl
    | true =>
      have i9 : i < 9 := by have := o.bit i e; omega
      rw [Nat.testBit_or, Nat.testBit_or, out_get i9, out_get i9, out_get i9, o.come i e]; rfl
  rw [ov, Option.bind_some, b_and, z0, if_pos nI_0]
  refine ev_bind (list_ok w C1.cor.xc t2 o.lt5 (by rw [o.rkn]; exact n3)) (fun h3 ⟨od, k3⟩ => ?_)
  have k13 : KP (SC t) hc h3 := k1.trans (k3.mono (fun q k z => by unfold SC at z; unfold F223; omega))
  have C3 := C.fr (Nat.le_refl m) k13 KP.rfl
  have s3 : h3.1 219 5 = nI n := by rw [od.1, o.rkn]
  have l3 : h3.1 219 6 = -2 := by rw [k3.i (by unfold F223; omega), e1, setI_eq]
  refine ev_nm ?_
  refine ev_nm ?_
  have e343 := pow_le343 (n := n) w3 n3
  have rows : ∀ K : Int32 → Option (Int32 × PH), lq2 (c_X7_find_L31b 219 217 t 78 p h3 K) fu 1 0 = K (nI (T.exc ^ n)) := fun K => by
    obtain ⟨y, e, hy⟩ := for_r (B := c_X7_find_L31b 219 217 t 78 p h3 K) (K := K) (N := n) (fun i y => y = nI (T.exc ^ i)) (by omega) (fun REC i y hi hp => by
      refine ⟨nI (T.exc ^ (i + 1)), ?_, rfl⟩
      unfold c_X7_find_L31b
      rw [s3, if_neg (nI_ge hi (by omega)), hp, C3.cor.xc.exc, pk_mul, Nat.pow_succ, nm_eq, nm_eq, nI_1]) (fun REC y _ => by
      unfold c_X7_find_L31b
      rw [s3, if_pos (nI_le (by omega) (by omega))]) 1 rfl
    rw [e, hy]
  rw [rows]
  refine ev_nm ?_
  obtain ⟨y, e, y1, y2, y3⟩ := for_h (B := c_X7_find_L58b 219 217 t 78 p (nI (T.exc ^ n)) (fun h23 => if (h23.1 219 6) = (-2) then some ((0 : Int32), h23) else some (1, h23))) (K := fun h23 => if (h23.1 219 6) = (-2) then some ((0 : Int32), h23) else some (1, h23)) (N := T.exc ^ n) (fun i y => y.1 219 6 = (foldC T σ Lp Lw p S n i).1 ∧ ((foldC T σ Lp Lw p S n i).1 ≠ -2 → ∀ k, k < n → y.1 226 k = nI (dig (foldC T σ Lp Lw p S n i).2 n k)) ∧ KP (Fcl t) h3 y) (by omega) (fun REC i y hi hp => by
    obtain ⟨p1, p2, p3⟩ := hp
    have he : 0 < T.exc := by
      by_cases q : T.exc = 0
      · rw [q, Nat.zero_pow n1] at hi; omega
      · omega
    have fc : (foldC T σ Lp Lw p S n i).1 = -2 ∨ ∃ m, m ≤ 300 ∧ (foldC T σ Lp Lw p S n i).1 = nI m ∧ (foldC T σ Lp Lw p S n i).2 < 7 ^ n := fold_cases w n3 (conv T.exc n) i (fun j hj => conv_lt0 T.exc (by omega) n (by omega) j (by omega))
    rw [foldC_s]
    generalize foldC T σ Lp Lw p S n i = x at p1 p2 fc
    have ky : KP (SC t) hc y := k13.trans (p3.mono (fun q k z => by unfold SC at z; unfold Fcl; omega))
    have Cy := C.fr (Nat.le_refl m) ky KP.rfl
    have sy : y.1 219 5 = nI n := (p3.i (by unfold Fcl; omega)).trans s3
    have cd := conv_dig0 T.exc (by omega) n (by omega) i hi
    have cl := conv_lt0 T.exc (by omega) n (by omega) i hi
    generalize conv T.exc n i = R at cd cl
    have hv : ∀ k, k < n → dig R n k < T.exc := fun k hk => by rw [cd k hk]; exact Nat.mod_lt _ he
    obtain ⟨h10, f1, f2, f3⟩ := choose_ok w t2 he n3 (show i < 100000 by omega) Cy.cor.xc sy
    have hk10 : ∀ k, k < n → h10.1 225 k = nI (dig R n k) := fun k hk => by rw [f2 k hk, cd k hk]
    have x10 : TxC t T h10 := Cy.cor.xc.fr w (f3.mono (fun q k z => by unfold FxC at z; omega))
    have st10 : StC 78 σ h10 := Cy.cor.sc.fr (f3.mono (fun q k z => by omega))
    have L10 : LawsC t Lp Lw h10 := Cy.lc.fr (f3.mono (fun q k z => by unfold FxC at z; omega))
    have s10 : h10.1 219 5 = nI n := (f3.i (by omega)).trans sy
    have o10 : Ord T S (Ls T S T.dut) T.dut h10 := by
      obtain ⟨o1, o2, o3⟩ := od
      refine ⟨?_, fun x hx hb => ?_, fun k hk => ?_⟩
      · rw [f3.i (by omega), p3.i (by unfold Fcl; omega)]; exact o1
      · rw [f3.i (by omega), p3.i (by unfold Fcl; omega)]; exact o2 x hx hb
      · rw [f3.i (by omega), p3.i (by unfold Fcl; omega)]; exact o3 k hk
    have l10 : h10.1 219 6 = x.1 := (f3.i (by omega)).trans p1
    have g10 : KP (Fcl t) h3 h10 := p3.trans (f3.mono (fun q k z => by unfold Fcl at z; omega))
    have b10 : x.1 ≠ -2 → ∀ k, k < n → h10.1 226 k = nI (dig x.2 n k) := fun z k hk => (f3.i (by omega)).trans (p2 z k hk)
    obtain ⟨c, c300, cc1, cc2⟩ := coinsC (eK := dig R n) w x10 st10 sw.owned n3 s10 hk10 hv
    have on := onceC2 (σ := σ) (eK := dig R n) w x10 n3 s10 hk10 hv
    have skip : rowG T σ Lp Lw p S n (Ls T S T.dut) R x = x → ∃ y', REC (nI (i + 1)) h10 = REC (nI (i + 1)) y' ∧ y'.1 219 6 = (rowG T σ Lp Lw p S n (Ls T S T.dut) R x).1 ∧ ((rowG T σ Lp Lw p S n (Ls T S T.dut) R x).1 ≠ -2 → ∀ k, k < n → y'.1 226 k = nI (dig (rowG T σ Lp Lw p S n (Ls T S T.dut) R x).2 n k)) ∧ KP (Fcl t) h3 y' := fun er => ⟨h10, rfl, by rw [er]; exact l10, by rw [er]; exact b10, g10⟩
    have go : (x.1 = -2 ∨ nI c < x.1) → ∃ y', c_X7_find_j103 219 217 t 78 p (nI (T.exc ^ n)) (fun h23 => if (h23.1 219 6) = (-2) then some ((0 : Int32), h23) else some (1, h23)) REC (nI i) (nI c) 1 h10 = REC (nI (i + 1)) y' ∧ y'.1 219 6 = (rowG T σ Lp Lw p S n (Ls T S T.dut) R x).1 ∧ ((rowG T σ Lp Lw p S n (Ls T S T.dut) R x).1 ≠ -2 → ∀ k, k < n → y'.1 226 k = nI (dig (rowG T σ Lp Lw p S n (Ls T S T.dut) R x).2 n k)) ∧ KP (Fcl t) h3 y' := fun hl => by
      unfold c_X7_find_j103
      rw [nm_eq, if_neg (show ¬ (1 : Int32) = 0 by decide)]
      rcases on with ⟨⟨st, ec⟩, eu⟩ | ⟨ec, eu⟩
      · have ce := cc2 st ec
        rw [eu, Option.bind_some, if_pos rfl]
        obtain ⟨v, h18, e18, v18, k18⟩ := works_ok (p := p) (eK := dig R n) w o sw (show 60 * m < 90000 by omega) t2 C.cp C.cw x10 L10 st10 o10 hk10 hv
        have g18 : KP (Fcl t) h3 h18 := g10.trans (k18.mono (fun q k z => by unfold Fcl at z; unfold Fwk; omega))
        have s18 : h18.1 219 5 = nI n := (k18.i (by unfold Fwk; omega)).trans s10
        have er : rowG T σ Lp Lw p S n (Ls T S T.dut) R x = if (x.1 = -2 ∨ nI st.2 < x.1) ∧ seqP T Lp Lw p (fun d => dig R n (rk S d)) (Ls T S T.dut) σ = true then (nI st.2, R) else x := by unfold rowG; rw [ec]; rfl
        rw [e18]
        show ∃ y', (if v = 0 then _ else _) = _ ∧ _
        rw [v18, if_0i]
        by_cases q : seqP T Lp Lw p (fun d => dig R n (rk S d)) (Ls T S T.dut) σ = true
        · have er1 : rowG T σ Lp Lw p S n (Ls T S T.dut) R x = (nI st.2, R) := by rw [er, if_pos ⟨by rw [← ce]; exact hl, q⟩]
          rw [if_neg (show ¬ ¬ seqP T Lp Lw p (fun d => dig R n (rk S d)) (Ls T S T.dut) σ = true from fun z => z q), nm_eq]
          obtain ⟨h21, e21, q21, k21⟩ := keepCh_ok (n := n) (f := fun k => nI (dig R n k)) (h := setI h18 219 6 (nI c)) n3 (by rw [setI_ne (by omega)]; exact s18) (fun k hk => by rw [setI_ne (by omega), k18.i (by unfold Fwk; omega)]; exact hk10 k hk)
          show ∃ y', ((c_X7_keepChosen 219 (setI h18 219 6 (nI c))).bind fun h21 => nm (nI i + 1) fun v22 => REC v22 h21) = _ ∧ _
          rw [e21, Option.bind_some, nm_eq, nI_1, er1]
          refine ⟨h21, rfl, ?_, fun _ k hk => q21 k hk, (g18.trans (KP.setI (fun z => by unfold Fcl at z; omega))).trans (k21.mono (fun q k z => z.2.2.2.2.2.2))⟩
          rw [k21.i (show (219 : Nat) ≠ 226 by omega), setI_eq, ce]
        · have er2 : rowG T σ Lp Lw p S n (Ls T S T.dut) R x = x := by rw [er, if_neg (fun z => q z.2)]
          rw [if_pos q, nm_eq, nI_1, er2]
          exact ⟨h18, rfl, (k18.i (by unfold Fwk; omega)).trans l10, fun z k hk => (k18.i (by unfold Fwk; omega)).trans (b10 z k hk), g18⟩
      · rw [eu, Option.bind_some, if_neg (show ¬ (1 : Int32) = 0 by decide), nm_eq, nI_1]
        exact skip (by unfold rowG; rw [ec]; rfl)
    unfold c_X7_find_L58b
    rw [if_neg (nI_ge hi (by omega)), f1, Option.bind_some, cc1, Option.bind_some, nm_eq, l10]
    rcases fc with fc | ⟨mm, g1, g2, g3⟩
    · rw [if_pos fc]
      exact go (Or.inl fc)
    · have nx : ¬ x.1 = -2 := by rw [g2]; exact nI_nem2 (by omega)
      rw [if_neg nx, g2, ite_cg (nI_leI (a := mm) (b := c) (by omega) (by omega))]
      by_cases q : mm ≤ c
      · rw [if_pos q]
        have e0 : c_X7_find_j103 219 217 t 78 p (nI (T.exc ^ n)) (fun h23 => if (h23.1 219 6) = (-2) then some ((0 : Int32), h23) else some (1, h23)) REC (nI i) (nI c) 0 h10 = REC (nI (i + 1)) h10 := by
          unfold c_X7_find_j103
          rw [nm_eq, if_pos rfl, nm_eq, nI_1]
        rw [e0]
        refine skip ?_
        unfold rowG
        cases ec : coinV T σ (dig R n) n with
        | inr b => rfl
        | inl st =>
          have ce := cc2 st ec
          show (if (x.1 = -2 ∨ nI st.2 < x.1) ∧ _ then (nI st.2, R) else x) = x
          rw [if_neg (fun z => by
            rcases z.1 with z | z
            · exact nx z
            · rw [g2, ← ce] at z; exact nI_nlt q (by omega) z)]
      · rw [if_neg q]
        exact go (Or.inr (by rw [g2]; exact nI_lt (by omega) (by omega)))) (fun REC y _ => by
    unfold c_X7_find_L58b
    rw [if_pos (nI_le (Nat.le_refl _) (by omega))]) h3 ⟨l3, fun z => absurd rfl z, KP.rfl⟩
  rw [e]
  have sy : y.1 219 5 = nI n := (y3.i (by unfold Fcl; omega)).trans s3
  have ky : KP (SC t) hc y := k13.trans (y3.mono (fun q k z => by unfold SC at z; unfold Fcl; omega))
  rw [y1]
  by_cases q : (foldC T σ Lp Lw p S n (T.exc ^ n)).1 = -2
  · rw [if_pos q]
    exact ev_some ⟨by rw [if_pos q], sy, y1, y2, ky⟩
  · rw [if_neg q]
    exact ev_some ⟨by rw [if_neg q], sy, y1, y2, ky⟩
