/-- a set of duties, three at most, each of them yet to come -/
def SetOK (T : TX) (σ : ST) (S : Nat) (n : Nat) : Prop := (S < 2 ^ T.dut) ∧ (S < 512) ∧ (cn9 S = n) ∧ (n ≤ 3) ∧ (0 < n) ∧ (rk S T.dut = n) ∧ (∀ x, S.testBit x = true → x < T.dut) ∧ (∀ x, S.testBit x = true → σ.out x = 0)
theorem SetOK.lt {T : TX} {σ : ST} {S : Nat} {n : Nat} (w : SetOK T σ S n) : S < 2 ^ T.dut := w.1
theorem SetOK.lt5 {T : TX} {σ : ST} {S : Nat} {n : Nat} (w : SetOK T σ S n) : S < 512 := w.2.1
theorem SetOK.cn {T : TX} {σ : ST} {S : Nat} {n : Nat} (w : SetOK T σ S n) : cn9 S = n := w.2.2.1
theorem SetOK.n3 {T : TX} {σ : ST} {S : Nat} {n : Nat} (w : SetOK T σ S n) : n ≤ 3 := w.2.2.2.1
theorem SetOK.n1 {T : TX} {σ : ST} {S : Nat} {n : Nat} (w : SetOK T σ S n) : 0 < n := w.2.2.2.2.1
theorem SetOK.rkn {T : TX} {σ : ST} {S : Nat} {n : Nat} (w : SetOK T σ S n) : rk S T.dut = n := w.2.2.2.2.2.1
theorem SetOK.bit {T : TX} {σ : ST} {S : Nat} {n : Nat} (w : SetOK T σ S n) : ∀ x, S.testBit x = true → x < T.dut := w.2.2.2.2.2.2.1
theorem SetOK.come {T : TX} {σ : ST} {S : Nat} {n : Nat} (w : SetOK T σ S n) : ∀ x, S.testBit x = true → σ.out x = 0 := w.2.2.2.2.2.2.2
theorem SetOK.mk {T : TX} {σ : ST} {S : Nat} {n : Nat} (h0 : S < 2 ^ T.dut) (h1 : S < 512) (h2 : cn9 S = n) (h3 : n ≤ 3) (h4 : 0 < n) (h5 : rk S T.dut = n) (h6 : ∀ x, S.testBit x = true → x < T.dut) (h7 : ∀ x, S.testBit x = true → σ.out x = 0) : SetOK T σ S n := ⟨h0, h1, h2, h3, h4, h5, h6, h7⟩
theorem set_L {T : TX} {σ : ST} {S n b : Nat} {eK : Nat → Nat} (w : T.wf) (o : SetOK T σ S n) (sw : ST.wf b T 0 σ) (hv : ∀ k, k < n → eK k < T.exc) : ∀ d, d ∈ Ls T S T.dut → d < T.dut ∧ eK (rk S d) < T.exc ∧ σ.today ≤ T.dday d ∧ σ.out d = 0 := fun d hd => by
  obtain ⟨m1, m2⟩ := Ls_mem.mp hd
  have oz := o.come d m2
  have lt := rk_lt m2 m1
  rw [o.rkn] at lt
  refine ⟨m1, hv _ lt, ?_, oz⟩
  have := (sw.out0 d m1)
  rw [oz] at this
  by_cases q : σ.today ≤ T.dday d
  · exact q
  · exact absurd rfl (this.mpr (Or.inl (by omega)))
theorem set_Bt {T : TX} {σ : ST} {S n : Nat} (o : SetOK T σ S n) : Bt S (Ls T S T.dut) := ⟨o.lt5, fun x _ => by
  rw [Ls_mem]
  exact ⟨fun h => ⟨o.bit x h, h⟩, fun h => h.2⟩⟩
theorem works_ok {T : TX} {σ : ST} {t S n b : Nat} {Lp Lw : LawT} {eK : Nat → Nat} {p : Int32} {h : PH} (w : T.wf) (o : SetOK T σ S n) (sw : ST.wf b T 0 σ) (hb : b < 90000) (ht : t = 8 ∨ t = 43) (cp : LawF Lp) (cw : LawF Lw) (xc : TxC t T h) (LL : LawsC t Lp Lw h) (x : StC 78 σ h) (od : Ord T S (Ls T S T.dut) T.dut h) (hk : ∀ k, k < n → h.1 225 k = nI (eK k)) (hv : ∀ k, k < n → eK k < T.exc) : ExV (c_X7_works 219 217 t 78 p h) (fun v h' => v = (if seqP T Lp Lw p (fun d => eK (rk S d)) (Ls T S T.dut) σ = true then 1 else 0) ∧ KP (Fwk t) h h') := by
  have td := sw.today
  have w2 := w.dut
  unfold c_X7_works
  refine ev_bind (copyC_ok (p := 219 + 1) (q := 78) x (by omega)) (fun h1 ⟨x1, k1⟩ => ?_)
  refine ev_nm ?_
  obtain ⟨o1, o2, o3⟩ := od
  rw [o.rkn] at o1
  have len : (Ls T S T.dut).length = n := by rw [Ls_len, o.rkn]
  have n3 := o.n3
  obtain ⟨h', e, k⟩ := works_run (p := p) (eD := fun d => eK (rk S d)) w ht cp cw o.n3 (Ls T S T.dut) 0 (8191 - n) σ h1 (by omega) ((k1.i (by unfold FCp; omega)).trans o1) (xc.fr w (k1.mono (fun q k z => by unfold FxC at z; unfold FCp; omega))) (LL.fr (k1.mono (fun q k z => by unfold FxC at z; unfold FCp; omega))) x1 sw.planT sw.trust (by omega) (fun k hk2 => by
    have hm : (Ls T S T.dut)[k] ∈ Ls T S T.dut := List.getElem_mem hk2
    obtain ⟨m1, m2⟩ := Ls_mem.mp hm
    have lt := rk_lt m2 m1
    rw [o.rkn] at lt
    refine ⟨rk S (Ls T S T.dut)[k], by omega, ?_, ?_, ?_⟩
    · rw [Nat.zero_add, k1.i (by unfold FCp; omega)]; exact o3 k hk2
    · rw [k1.i (by unfold FCp; omega)]; exact o2 _ m1 m2
    · rw [k1.i (by unfold FCp; omega)]; exact hk _ lt) (set_L w o sw hv) Ls_srt
  rw [len, ← fu_n (show n ≤ 8000 by omega), nI_0] at e
  rw [e]
  exact ev_some ⟨rfl, (k1.mono (fun q k z => by unfold Fwk at z; unfold FCp; omega)).trans k⟩
def FPs (p k : Nat) : Prop := p ≠ 41 ∧ p ≠ 42 ∧ p ≠ 44 ∧ ¬ (p = 0 ∧ (k = 59 ∨ k = 62))
theorem SR_p {p k : Nat} (h : SR p k) : FPs p k := by unfold SR at h; unfold FPs; omega
theorem isPassing_ok {m : Nat} {T : TX} {σ : ST} {s t S n row : Nat} {Lp Lw : LawT} {p : Int32} {hc h : PH} (C : CL m T σ s t Lp Lw hc h) (hm : m < 600) (o : SetOK T σ S n) (hr : row < 100000) (hv : ∀ k, k < n → dig row n k < T.exc) : ExV (c_X12_isPassing (nI S) (nI row) p h) (fun v h' => v = (if seqP T Lp Lw p (fun d => dig row n (rk S d)) (Ls T S T.dut) σ = true then 1 else 0) ∧ KP FPs h h') := by
  have C0 := C.cor
  have td := C0.swf.today
  have w2 := C0.twf.dut
  obtain ⟨h3, c1, l3, x3, r3, _, s3, L3, k3⟩ := copies2 C
  unfold c_X12_isPassing
  rw [c1, Option.bind_some]
  refine ev_nm ?_
  have ne : ∃ d, d ∈ Ls T S T.dut := by
    have len : (Ls T S T.dut).length = n := by rw [Ls_len, o.rkn]
    cases e : Ls T S T.dut with
    | nil => rw [e] at len; have := o.n1; simp at len; omega
    | cons d l => exact ⟨d, List.mem_cons_self⟩
  have hL := set_L (eK := dig row n) C0.twf o C0.swf hv
  obtain ⟨d0, hd0⟩ := ne
  obtain ⟨q1, q2, q3, q4⟩ := hL d0 hd0
  have y9 := C0.twf.dday d0 q1
  obtain ⟨h', e, k⟩ := passing_run (S := nI S) (row := nI row) (p := p) (eD := fun d => dig row n (rk S d)) C0.twf C0.s2 C.cp C.cw (100 - σ.today) (8191 - (100 - σ.today)) (Ls T S T.dut) σ h3 S (fun _ => by omega) (set_Bt o) Ls_srt (fun d hd => by
    obtain ⟨a1, a2, a3, a4⟩ := hL d hd
    obtain ⟨m1, m2⟩ := Ls_mem.mp hd
    exact ⟨a1, a2, a3, excuseIn_ok o.lt5 (by omega) o.cn o.n3 m2 hr⟩) ⟨l3, x3, L3, s3⟩ r3.v C0.swf.planT C0.swf.trust (by omega)
  rw [← fu_n (show 100 - σ.today ≤ 8000 by omega)] at e
  rw [e]
  exact ev_some ⟨rfl, (k3.mono (fun q k z => by unfold FPs at z; unfold F44; omega)).trans (k.mono (fun q k z => by unfold FPs at z; unfold FRg; omega))⟩
theorem fold_cases {T : TX} {σ : ST} {Lp Lw : LawT} {p : Int32} {S n : Nat} {L : List Nat} (w : T.wf) (hn : n ≤ 3) (c : Nat → Nat) : ∀ i, (∀ j, j < i → c j < 7 ^ n) → (forS (fun r => rowG T σ Lp Lw p S n L (c r)) i (-2, 0)).1 = -2 ∨ ∃ m, m ≤ 300 ∧ (forS (fun r => rowG T σ Lp Lw p S n L (c r)) i (-2, 0)).1 = nI m ∧ (forS (fun r => rowG T σ Lp Lw p S n L (c r)) i (-2, 0)).2 < 7 ^ n
  | 0, _ => Or.inl rfl
  | i + 1, h => row_cases w hn (h i (by omega)) (fold_cases w hn c i (fun j hj => h j (by omega)))
theorem buyR {m : Nat} {T : TX} {σ : ST} {s t S n : Nat} {Lp Lw : LawT} {p : Int32} {hc hr : PH} (C : CL m T σ s t Lp Lw hc hr) (hm : m < 600) (o : SetOK T σ S n) : ExH (c_X12_fillsBuy (nI S) p hr) (fun h' => h'.1 0 65 = (forS (rowG T σ Lp Lw p S n (Ls T S T.dut)) (7 ^ n) (-2, 0)).1 ∧ ((forS (rowG T σ Lp Lw p S n (Ls T S T.dut)) (7 ^ n) (-2, 0)).1 = -2 → h'.1 0 66 = -2) ∧ ((forS (rowG T σ Lp Lw p S n (Ls T S T.dut)) (7 ^ n) (-2, 0)).1 ≠ -2 → h'.1 0 66 = nI (forS (rowG T σ Lp Lw p S n (Ls T S T.dut)) (7 ^ n) (-2, 0)).2) ∧ KP SR hr h') := by
  have C0 := C.cor
  have w2 := C0.twf.dut
  have n3 := o.n3
  have p7n := p7 o.n3
  unfold c_X12_fillsBuy
  refine ex_set (fun h1 e1 => ?_)
  refine ex_set (fun h2 e2 => ?_)
  have k2 : KP SR hr h2 := by rw [e2, e1]; exact (KP.setI (fun z => by unfold SR at z; omega)).trans (KP.setI (fun z => by unfold SR at z; omega))
  have C2 := C.fr (Nat.le_refl m) KP.rfl k2
  have come : c_X12_areToCome (nI S) h2 = some 1 := by
    unfold c_X12_areToCome
    rw [nm_eq, for_any0 (K := some 1) (E := some 0) (fun d => S.testBit d && decide (σ.out d ≠ 0)) (N := T.dut) (by omega) (fun REC d hd => ?_) (fun REC => ?_)]
    · rw [if_neg (fun z => by
        obtain ⟨d, _, q⟩ := anyX_0.mp z
        rw [Bool.and_eq_true, decide_eq_true_eq] at q
        exact q.2 (o.come d q.1))]
    · unfold c_X12_areToCome_L2b
      have o3 := C0.swf.out d (by omega)
      have g13 : h2.1 43 (13 + d) = nI (σ.out d) := C2.cor.sr.out0 (by omega)
      rw [C2.cor.live, live_gd C0.s2, nI_clamp (n := s) (by have := C0.s2; omega), C2.cor.xr.dut, if_neg (nI_ge hd (by omega)), b_get o.lt5 (by omega), if_1i, nI_a13, gdI (k := 13 + d) (by omega) (by omega), nI_clamp (n := 13 + d) (by omega), g13, ite_cg (show nI (σ.out d) = 0 ↔ σ.out d = 0 from nI_eq (b := 0) (by omega) (by omega)), nm_eq, nI_1]
      by_cases q1 : S.testBit d = true
      · rw [if_pos q1]
        by_cases q2 : σ.out d = 0
        · rw [if_pos q2, if_neg (by simp [q2])]
        · rw [if_neg q2, if_pos (by simp [q1, q2])]
      · rw [if_neg q1, if_neg (by simp [q1])]
    · unfold c_X12_areToCome_L2b
      rw [C2.cor.live, live_gd C0.s2, nI_clamp (n := s) (by have := C0.s2; omega), C2.cor.xr.dut, if_pos (nI_le (by omega) (by omega))]
  rw [come, Option.bind_some, if_neg (show ¬ (1 : Int32) = 0 by decide)]
  refine ex_nm ?_
  obtain ⟨y, e, y1, y2, y3, y4⟩ := for_h (B := c_X12_fillsBuy_L23b (nI S) p (fun h17 => some h17)) (K := fun h17 => some h17) (N := 7 ^ n) (fun i y => y.1 0 65 = (forS (rowG T σ Lp Lw p S n (Ls T S T.dut)) i (-2, 0)).1 ∧ ((forS (rowG T σ Lp Lw p S n (Ls T S T.dut)) i (-2, 0)).1 = -2 → y.1 0 66 = -2) ∧ ((forS (rowG T σ Lp Lw p S n (Ls T S T.dut)) i (-2, 0)).1 ≠ -2 → y.1 0 66 = nI (forS (rowG T σ Lp Lw p S n (Ls T S T.dut)) i (-2, 0)).2) ∧ KP SR hr y) (by omega) (fun REC i y hi hp => by
    obtain ⟨p1, p2, p3, p4⟩ := hp
    have fc := fold_cases (σ := σ) (Lp := Lp) (Lw := Lw) (p := p) (S := S) (L := Ls T S T.dut) C0.twf o.n3 (fun r => r) i (fun j hj => by omega)
    have fc : (forS (rowG T σ Lp Lw p S n (Ls T S T.dut)) i (-2, 0)).1 = -2 ∨ ∃ m, m ≤ 300 ∧ (forS (rowG T σ Lp Lw p S n (Ls T S T.dut)) i (-2, 0)).1 = nI m ∧ (forS (rowG T σ Lp Lw p S n (Ls T S T.dut)) i (-2, 0)).2 < 7 ^ n := fc
    show ∃ y', _ ∧ y'.1 0 65 = (rowG T σ Lp Lw p S n (Ls T S T.dut) i (forS (rowG T σ Lp Lw p S n (Ls T S T.dut)) i (-2, 0))).1 ∧ ((rowG T σ Lp Lw p S n (Ls T S T.dut) i (forS (rowG T σ Lp Lw p S n (Ls T S T.dut)) i (-2, 0))).1 = -2 → y'.1 0 66 = -2) ∧ ((rowG T σ Lp Lw p S n (Ls T S T.dut) i (forS (rowG T σ Lp Lw p S n (Ls T S T.dut)) i (-2, 0))).1 ≠ -2 → y'.1 0 66 = nI (rowG T σ Lp Lw p S n (Ls T S T.dut) i (forS (rowG T σ Lp Lw p S n (Ls T S T.dut)) i (-2, 0))).2) ∧ KP SR hr y'
    generalize forS (rowG T σ Lp Lw p S n (Ls T S T.dut)) i (-2, 0) = x at p1 p2 p3 fc
    have Cy := C.fr (Nat.le_refl m) KP.rfl p4
    have cr := coinsR (row := i) Cy.cor.twf Cy.cor.s2 Cy.cor.live Cy.cor.xr Cy.cor.sr Cy.cor.swf.owned o.lt5 o.cn o.rkn o.n3 (by omega)
    cases ec : coinV T σ (dig i n) n with
    | inr b =>
      have er : rowG T σ Lp Lw p S n (Ls T S T.dut) i x = x := by unfold rowG; rw [ec]; rfl
      have cr' : c_X12_coinsBy (nI S) (nI i) y = some (-1) := by rw [cr, ec]; rfl
      unfold c_X12_fillsBuy_L23b c_X12_fillsBuy_j63
      rw [bits_ok o.lt5, Option.bind_some]
      show ∃ y', ((c_X12_sevens (nI (cn9 S))).bind _) = _ ∧ _
      rw [o.cn, sev_ok o.n3, Option.bind_some, if_neg (nI_ge hi (by omega)), cr', Option.bind_some, nm_eq]
      rw [er, if_pos m1_neg, nm_eq, nI_1]
      exact ⟨y, rfl, p1, p2, p3, p4⟩
    | inl st =>
      have bd := (coin_bd C0.twf n st ec).2
      have cr' : c_X12_coinsBy (nI S) (nI i) y = some (nI st.2) := by rw [cr, ec]; rfl
      unfold c_X12_fillsBuy_L23b c_X12_fillsBuy_j63
      rw [bits_ok o.lt5, Option.bind_some]
      show ∃ y', ((c_X12_sevens (nI (cn9 S))).bind _) = _ ∧ _
      rw [o.cn, sev_ok o.n3, Option.bind_some, if_neg (nI_ge hi (by omega)), cr', Option.bind_some, nm_eq]
      have er : rowG T σ Lp Lw p S n (Ls T S T.dut) i x = if (x.1 = -2 ∨ nI st.2 < x.1) ∧ seqP T Lp Lw p (fun d => dig i n (rk S d)) (Ls T S T.dut) σ = true then (nI st.2, i) else x := by unfold rowG; rw [ec]; rfl
      rw [if_neg (nI_pos (n := st.2) (by omega)), p1]
      obtain ⟨v, h5, e5, v5, k5⟩ := isPassing_ok (row := i) (p := p) Cy hm o (by omega) (coin_valid n st ec)
      have take : (x.1 = -2 ∨ nI st.2 < x.1) → ∃ y', (bind2 (c_X12_isPassing (nI S) (nI i) p y) fun r10 h11 => if r10 = 0 then nm (nI i + 1) fun v15 => REC v15 h11 else nm (setI h11 0 65 (nI st.2)) fun h12 => nm (setI h12 0 66 (nI i)) fun h13 => nm (nI i + 1) fun v14 => REC v14 h13) = REC (nI (i + 1)) y' ∧ y'.1 0 65 = (rowG T σ Lp Lw p S n (Ls T S T.dut) i x).1 ∧ ((rowG T σ Lp Lw p S n (Ls T S T.dut) i x).1 = -2 → y'.1 0 66 = -2) ∧ ((rowG T σ Lp Lw p S n (Ls T S T.dut) i x).1 ≠ -2 → y'.1 0 66 = nI (rowG T σ Lp Lw p S n (Ls T S T.dut) i x).2) ∧ KP SR hr y' := fun hl => by
        rw [e5]
        show ∃ y', (if v = 0 then _ else _) = _ ∧ _
        rw [v5, if_0i]
        by_cases q : seqP T Lp Lw p (fun d => dig i n (rk S d)) (Ls T S T.dut) σ = true
        · have er1 : rowG T σ Lp Lw p S n (Ls T S T.dut) i x = (nI st.2, i) := by rw [er, if_pos ⟨hl, q⟩]
          rw [if_neg (show ¬ ¬ seqP T Lp Lw p (fun d => dig i n (rk S d)) (Ls T S T.dut) σ = true from fun z => z q), nm_eq, nm_eq, nm_eq, nI_1, er1]
          refine ⟨_, rfl, ?_, fun z => absurd z (nI_nem2 (e := st.2) (by omega)), fun _ => setI_eq _ _ _ _, ?_⟩
          · rw [setI_ne (by omega), setI_eq]
          · exact ((p4.trans (k5.mono (fun q k z => SR_p z))).trans (KP.setI (fun z => by unfold SR at z; omega))).trans (KP.setI (fun z => by unfold SR at z; omega))
        · have er2 : rowG T σ Lp Lw p S n (Ls T S T.dut) i x = x := by rw [er, if_neg (fun z => q z.2)]
          rw [if_pos q, nm_eq, nI_1, er2]
          exact ⟨h5, rfl, (k5.i (by unfold FPs; omega)).trans p1, fun z => (k5.i (by unfold FPs; omega)).trans (p2 z), fun z => (k5.i (by unfold FPs; omega)).trans (p3 z), p4.trans (k5.mono (fun q k z => SR_p z))⟩
      rcases fc with fc | ⟨mm, f1, f2, f3⟩
      · rw [fc, if_pos m2_neg]
        exact take (Or.inl fc)
      · rw [f2, if_neg (nI_pos (by omega)), ite_cg (nI_leI (a := mm) (b := st.2) (by omega) (by omega))]
        by_cases q : mm ≤ st.2
        · rw [if_pos q, nm_eq, nI_1, er, if_neg (fun z => by
            rcases z.1 with z | z
            · rw [f2] at z; exact nI_nem2 (by omega) z
            · rw [f2] at z; exact nI_nlt q (by omega) z)]
          exact ⟨y, rfl, p1, p2, p3, p4⟩
        · rw [if_neg q]
          exact take (Or.inr (by rw [f2]; exact nI_lt (by omega) (by omega)))) (fun REC y _ => by
    unfold c_X12_fillsBuy_L23b
    rw [bits_ok o.lt5, Option.bind_some]
    show ((c_X12_sevens (nI (cn9 S))).bind _) = _
    rw [o.cn, sev_ok o.n3, Option.bind_some, if_pos (nI_le (Nat.le_refl _) (by omega))]) h2 ⟨by rw [e2, setI_ne (by omega), e1, setI_eq]; rfl, fun _ => by rw [e2, setI_eq], fun z => absurd rfl z, k2⟩
  rw [e]
  exact ex_some ⟨y1, y2, y3, y4⟩
