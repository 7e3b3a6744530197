def tellS (T : TX) (Lw : LawT) (τ : ST) (d e : Nat) : ST := ST.mk τ.today τ.coins τ.hours τ.owned (updN τ.out d 1) (updZ τ.plan d (nI e)) (updN τ.trust (T.dman d) (τ.trust (T.dman d) - wearN T Lw T.seed τ e (T.dman d) (nI (T.dhrs d)) (hdv T τ e (T.dman d))))
/-- the duties of a list told one after the other -/
def seqP (T : TX) (Lp Lw : LawT) (p : Int32) (eD : Nat → Nat) : List Nat → ST → Bool
  | [], _ => true
  | d :: l, τ => if p ≤ nI (passN T Lp T.seed (mendS T (T.dday d - τ.today) τ) (eD d) (T.dman d) (nI (T.dhrs d)) (hdv T (mendS T (T.dday d - τ.today) τ) (eD d) (T.dman d))) then seqP T Lp Lw p eD l (tellS T Lw (mendS T (T.dday d - τ.today) τ) d (eD d)) else false
def Fwk (t q _k : Nat) : Prop := q ≠ 218 ∧ q ≠ t + 3 ∧ q ≠ t + 6 ∧ ¬ (220 ≤ q ∧ q ≤ 222)
theorem mend_trust {T : TX} {n : Nat} {τ : ST} (h : ∀ a, a < 5 → τ.trust a ≤ 99) : ∀ a, a < 5 → (mendS T n τ).trust a ≤ 99 := fun a ha => by
  show (if a < T.men then min 99 (τ.trust a + n * T.mend a) else τ.trust a) ≤ 99
  by_cases q : a < T.men
  · rw [if_pos q]; exact Nat.min_le_left _ _
  · rw [if_neg q]; exact h a ha
theorem tell_trust {T : TX} {Lw : LawT} {τ : ST} {d e : Nat} (h : ∀ a, a < 5 → τ.trust a ≤ 99) : ∀ a, a < 5 → (tellS T Lw τ d e).trust a ≤ 99 := fun a ha => by
  show updN τ.trust (T.dman d) (τ.trust (T.dman d) - _) a ≤ 99
  by_cases q : a = T.dman d
  · rw [q, upd_eq]; have := h (T.dman d) (by omega); omega
  · rw [upd_ne q]; exact h a ha
theorem tell_pt {T : TX} {Lw : LawT} {τ : ST} {d e : Nat} (h : ST.pt T τ) (he : e < T.exc) : ST.pt T (tellS T Lw τ d e) := fun x hx hq => by
  show ∃ e', e' < T.exc ∧ updZ τ.plan d (nI e) x = nI e'
  have hq : updN τ.out d 1 x = 1 ∨ updN τ.out d 1 x = 2 := hq
  by_cases q : x = d
  · rw [q, updZ_eq]; exact ⟨e, he, rfl⟩
  · rw [updZ_ne q]; rw [upd_ne q] at hq; exact h x hx hq
theorem works_run {T : TX} {t : Nat} {Lp Lw : LawT} {p : Int32} {eD : Nat → Nat} {n : Nat} (w : T.wf) (ht : t = 8 ∨ t = 43) (cp : LawF Lp) (cw : LawF Lw) (hn : n ≤ 3) : ∀ (l : List Nat) (i f : Nat) (τ : ST) (h : PH), i + l.length = n → h.1 219 5 = nI n → TxC t T h → LawsC t Lp Lw h → StC 220 τ h → ST.pt T τ → (∀ a, a < 5 → τ.trust a ≤ 99) → τ.today < 100000 → (∀ k (hk : k < l.length), ∃ r, r < 3 ∧ h.1 224 (i + k) = nI r ∧ h.1 223 r = nI l[k] ∧ h.1 225 r = nI (eD l[k])) → (∀ d, d ∈ l → d < T.dut ∧ eD d < T.exc ∧ τ.today ≤ T.dday d ∧ τ.out d = 0) → l.Pairwise (fun x y => T.dday x < T.dday y ∨ (T.dday x = T.dday y ∧ x < y)) → ∃ h', lq2 (c_X7_works_L11b 219 217 t 78 p (fun h15 => some ((0 : Int32), h15)) (fun h16 => some ((1 : Int32), h16))) (f + l.length + 1) (nI i) h = some (if seqP T Lp Lw p eD l τ = true then 1 else 0, h') ∧ KP (Fwk t) h h'
  | [], i, f, τ, h, hi, hs, xc, LL, x, pt, tr, hd, hA, hB, hC => by
    have hi : i = n := by simpa using hi
    refine ⟨h, ?_, KP.rfl⟩
    rw [lq2_s]
    unfold c_X7_works_L11b
    rw [hs, hi, if_pos (nI_le (by omega) (by omega))]
    rfl
  | d :: l, i, f, τ, h, hi, hs, xc, LL, x, pt, tr, hd, hA, hB, hC => by
    have hi : i + (l.length + 1) = n := by simpa using hi
    obtain ⟨r, r3, a1, a2, a3⟩ := hA 0 (by simp)
    have a1 : h.1 (219 + 5) i = nI r := by simpa using a1
    have a2 : h.1 (219 + 4) r = nI d := a2
    have a3 : h.1 (219 + 6) r = nI (eD d) := a3
    obtain ⟨hdd, hed, hday, hout⟩ := hB d List.mem_cons_self
    have w1 := w.men; have w2 := w.dut; have w3 := w.exc
    have ha := w.dman d hdd
    have y9 := w.dday d hdd
    obtain ⟨hC1, hC2⟩ := List.pairwise_cons.mp hC
    have xt : h.1 (219 + 1) 0 = nI τ.today := x.today
    rw [show f + (d :: l).length + 1 = (f + l.length + 1) + 1 from by simp; omega, lq2_s]
    generalize hR : lq2 (c_X7_works_L11b 219 217 t 78 p (fun h15 => some ((0 : Int32), h15)) (fun h16 => some ((1 : Int32), h16))) (f + l.length + 1) = REC
    unfold c_X7_works_L11b seqP
    rw [hs, if_neg (nI_ge (show i < n by omega) (by omega)), gdI (k := i) (by omega) (by omega), nI_clamp (n := i) (by omega), a1, gdI (k := r) (by omega) (by omega), nI_clamp (n := r) (by omega), nm_eq, gdI (k := i) (by omega) (by omega), gdI (k := r) (by omega) (by omega), nm_eq, a2, a3]
    rw [gdI (k := d) (by omega) (by omega), nI_clamp (n := d) (by omega), xc.dday d hdd, xt, pk_sub hday]
    obtain ⟨h6, e6, x6, k6⟩ := mendC_ok (n := T.dday d - τ.today) (p := 219 + 1) w xc x tr (Or.inr (Or.inr rfl)) ht (by omega)
    rw [e6, Option.bind_some]
    have xc6 : TxC t T h6 := xc.fr w (k6.mono (fun q k z => by unfold FxC at z; unfold FGo; omega))
    have LL6 : LawsC t Lp Lw h6 := LL.fr (k6.mono (fun q k z => by unfold FxC at z; unfold FGo; omega))
    have tr6 := mend_trust (T := T) (n := T.dday d - τ.today) tr
    have td6 : (mendS T (T.dday d - τ.today) τ).today = T.dday d := by show τ.today + (T.dday d - τ.today) = T.dday d; omega
    have pt6 : ST.pt T (mendS T (T.dday d - τ.today) τ) := pt
    have out6 : (mendS T (T.dday d - τ.today) τ).out = τ.out := rfl
    generalize mendS T (T.dday d - τ.today) τ = τ1 at x6 tr6 td6 pt6 out6
    obtain ⟨v7, h8, e8, q7, k8⟩ := passes_ok (p := 219 + 1) w pt6 xc6 x6 LL6 cp (Or.inr (Or.inr rfl)) ht (by omega) hed ha (nI (T.dhrs d)) T.seed
    rw [xc6.dman d hdd, xc6.dhrs d hdd, xc6.seed, e8]
    show ∃ h', (if p ≤ v7 then _ else _) = _ ∧ _
    rw [q7]
    have K8 : KP (Fwk t) h h8 := (k6.mono (fun q k z => by unfold Fwk at z; unfold FGo; omega)).trans (k8.mono (fun q k z => by unfold Fwk at z; unfold FCs; omega))
    by_cases c : p ≤ nI (passN T Lp T.seed τ1 (eD d) (T.dman d) (nI (T.dhrs d)) (hdv T τ1 (eD d) (T.dman d)))
    · rw [if_pos c, if_pos c]
      have xc8 : TxC t T h8 := xc6.fr w (k8.mono (fun q k z => by unfold FxC at z; unfold FCs; omega))
      have LL8 : LawsC t Lp Lw h8 := LL6.fr (k8.mono (fun q k z => by unfold FxC at z; unfold FCs; omega))
      have x8 : StC (219 + 1) τ1 h8 := x6.fr (k8.mono (fun q k z => by unfold FCs; omega))
      obtain ⟨v9, h10, e10, q9, k10⟩ := wears_ok (p := 219 + 1) w pt6 xc8 x8 LL8 cw (Or.inr (Or.inr rfl)) ht (by omega) hed ha (nI (T.dhrs d)) T.seed
      rw [xc8.dman d hdd, xc8.dhrs d hdd, xc8.seed, e10]
      show ∃ h', ((c_X1_lose 217 (219 + 1) (nI (T.dman d)) v9 h10).bind _) = _ ∧ _
      rw [q9]
      have W := wear_le T Lw T.seed τ1 (eD d) (T.dman d) (nI (T.dhrs d)) (hdv T τ1 (eD d) (T.dman d))
      unfold tellS
      generalize wearN T Lw T.seed τ1 (eD d) (T.dman d) (nI (T.dhrs d)) (hdv T τ1 (eD d) (T.dman d)) = wv at W
      have x10 : StC (219 + 1) τ1 h10 := x8.fr (k10.mono (fun q k z => by unfold FCs; omega))
      obtain ⟨h11, e11, q11⟩ := lose_ok (p := 219 + 1) (show T.dman d < 5 by omega) (x10.trust (T.dman d) (by omega)) (by have := tr6 (T.dman d) (by omega); omega) (show wv < 2 ^ 30 by omega)
      rw [e11, Option.bind_some, gdI (k := d) (by omega) (by omega), nm_eq, nm_eq, nm_eq, nI_1]
      have v4 : (setI h11 (219 + 1 + 2) d (nI (eD d))).1 (219 + 1) 4 = nI (outMask τ1 1) := by rw [setI_ne (by omega), q11, setI_ne (by omega)]; exact x10.freed
      rw [v4, b_shl (by omega), b_or]
      have kz : KP (fun q _ => ¬ (220 ≤ q ∧ q ≤ 222)) h10 (setI (setI h11 (219 + 1 + 2) d (nI (eD d))) (219 + 1) 4 (nI (outMask τ1 1 ||| 2 ^ d))) := by
        rw [q11]; exact ((KP.setI (fun z => z (by omega))).trans (KP.setI (fun z => z (by omega)))).trans (KP.setI (fun z => z (by omega)))
      have rd : ∀ q k, ¬ (q = 220 ∧ k = 4) → ¬ (q = 222 ∧ k = d) → ¬ (q = 221 ∧ k = T.dman d) → (setI (setI h11 (219 + 1 + 2) d (nI (eD d))) (219 + 1) 4 (nI (outMask τ1 1 ||| 2 ^ d))).1 q k = h10.1 q k := fun q k b1 b2 b3 => by
        rw [setI_ne (by omega), setI_ne (by omega), q11, setI_ne (by omega)]
      have ro0 : τ1.out d = 0 := by rw [out6]; exact hout
      have m1 := mask_upd (σ := τ1) (o := 1) (k := 1) (show d < 9 by omega) ro0 (by omega)
      have m2 := mask_upd (σ := τ1) (o := 1) (k := 2) (show d < 9 by omega) ro0 (by omega)
      have m3 := mask_upd (σ := τ1) (o := 1) (k := 3) (show d < 9 by omega) ro0 (by omega)
      have xn : StC 220 (ST.mk τ1.today τ1.coins τ1.hours τ1.owned (updN τ1.out d 1) (updZ τ1.plan d (nI (eD d))) (updN τ1.trust (T.dman d) (τ1.trust (T.dman d) - wv))) (setI (setI h11 (219 + 1 + 2) d (nI (eD d))) (219 + 1) 4 (nI (outMask τ1 1 ||| 2 ^ d))) := by
        apply StC.set
        · rw [rd _ _ (by omega) (by omega) (by omega)]; exact x10.today
        · rw [rd _ _ (by omega) (by omega) (by omega)]; exact x10.coins
        · rw [rd _ _ (by omega) (by omega) (by omega)]; exact x10.hours
        · rw [rd _ _ (by omega) (by omega) (by omega)]; exact x10.owned
        · rw [setI_eq]; exact congrArg nI m1.symm
        · rw [rd _ _ (by omega) (by omega) (by omega)]; exact x10.caught.trans (congrArg nI m2.symm)
        · rw [rd _ _ (by omega) (by omega) (by omega)]; exact x10.done.trans (congrArg nI m3.symm)
        · intro a ha5
          show _ = nI (updN τ1.trust (T.dman d) (τ1.trust (T.dman d) - wv) a)
          by_cases z : a = T.dman d
          · subst z; rw [upd_eq, setI_ne (by omega), setI_ne (by omega), q11, setI_eq]
          · rw [upd_ne z, rd _ _ (by omega) (by omega) (by omega)]; exact x10.trust a ha5
        · intro a ha9
          show _ = updZ τ1.plan d (nI (eD d)) a
          by_cases z : a = d
          · subst z; rw [updZ_eq, setI_ne (by omega), setI_eq]
          · rw [updZ_ne z, rd _ _ (by omega) (by omega) (by omega)]; exact x10.plan a ha9
      have ptn : ST.pt T (ST.mk τ1.today τ1.coins τ1.hours τ1.owned (updN τ1.out d 1) (updZ τ1.plan d (nI (eD d))) (updN τ1.trust (T.dman d) (τ1.trust (T.dman d) - wv))) := fun y hy hq => by
        show ∃ e', e' < T.exc ∧ updZ τ1.plan d (nI (eD d)) y = nI e'
        have hq : updN τ1.out d 1 y = 1 ∨ updN τ1.out d 1 y = 2 := hq
        by_cases q : y = d
        · rw [q, updZ_eq]; exact ⟨eD d, hed, rfl⟩
        · rw [updZ_ne q]; rw [upd_ne q] at hq; exact pt6 y hy hq
      have trn : ∀ a, a < 5 → updN τ1.trust (T.dman d) (τ1.trust (T.dman d) - wv) a ≤ 99 := fun a ha5 => by
        by_cases q : a = T.dman d
        · rw [q, upd_eq]; have := tr6 (T.dman d) (by omega); omega
        · rw [upd_ne q]; exact tr6 a ha5
      have KN : KP (Fwk t) h (setI (setI h11 (219 + 1 + 2) d (nI (eD d))) (219 + 1) 4 (nI (outMask τ1 1 ||| 2 ^ d))) := (K8.trans (k10.mono (fun q k z => by unfold Fwk at z; unfold FCs; omega))).trans (kz.mono (fun q k z => z.2.2.2))
      generalize setI (setI h11 (219 + 1 + 2) d (nI (eD d))) (219 + 1) 4 (nI (outMask τ1 1 ||| 2 ^ d)) = hz at xn KN
      rw [← hR]
      obtain ⟨h', e', k'⟩ := works_run (p := p) (eD := eD) w ht cp cw hn l (i + 1) f _ hz (by omega) ((KN.i (by unfold Fwk; omega)).trans hs) (xc.fr w (KN.mono (fun q k z => by unfold FxC at z; unfold Fwk; omega))) (LL.fr (KN.mono (fun q k z => by unfold FxC at z; unfold Fwk; omega))) xn ptn trn (by show τ1.today < 100000; omega) (fun k hk => by
        obtain ⟨r', b1, b2, b3, b4⟩ := hA (k + 1) (by simp; omega)
        refine ⟨r', b1, ?_, ?_, ?_⟩
        · rw [KN.i (by unfold Fwk; omega), show i + 1 + k = i + (k + 1) by omega]; exact b2
        · rw [KN.i (by unfold Fwk; omega)]; exact b3
        · rw [KN.i (by unfold Fwk; omega)]; exact b4) (fun d' hd' => by
        obtain ⟨c1, c2, c3, c4⟩ := hB d' (List.mem_cons_of_mem _ hd')
        have := hC1 d' hd'
        refine ⟨c1, c2, by show τ1.today ≤ T.dday d'; omega, ?_⟩
        show updN τ1.out d 1 d' = 0
        rw [upd_ne (show ¬ d' = d from fun z => by rw [z] at this; omega), out6]; exact c4) hC2
      exact ⟨h', e', KN.trans k'⟩
    · rw [if_neg c, if_neg c]
      exact ⟨h8, rfl, K8⟩
