def insL (T : TX) : List Nat → Nat → List Nat
  | [], d => [d]
  | x :: l, d => if T.dday x ≤ T.dday d then x :: insL T l d else d :: x :: l
def Ls (T : TX) (S : Nat) : Nat → List Nat
  | 0 => []
  | i + 1 => if S.testBit i = true then insL T (Ls T S i) i else Ls T S i
theorem ins_mem {T : TX} {x d : Nat} : ∀ {l : List Nat}, x ∈ insL T l d ↔ x = d ∨ x ∈ l
  | [] => by simp [insL]
  | y :: l => by
    unfold insL
    by_cases q : T.dday y ≤ T.dday d
    · rw [if_pos q, List.mem_cons, ins_mem, List.mem_cons]
      constructor
      · rintro (a | a | a)
        · exact Or.inr (Or.inl a)
        · exact Or.inl a
        · exact Or.inr (Or.inr a)
      · rintro (a | a | a)
        · exact Or.inr (Or.inl a)
        · exact Or.inl a
        · exact Or.inr (Or.inr a)
    · rw [if_neg q, List.mem_cons]
theorem ins_len {T : TX} {d : Nat} : ∀ {l : List Nat}, (insL T l d).length = l.length + 1
  | [] => rfl
  | y :: l => by
    unfold insL
    by_cases q : T.dday y ≤ T.dday d
    · rw [if_pos q, List.length_cons, ins_len, List.length_cons]
    · rw [if_neg q]; rfl
theorem ins_srt {T : TX} {d : Nat} : ∀ {l : List Nat}, l.Pairwise (Lex T) → (∀ x, x ∈ l → x < d) → (insL T l d).Pairwise (Lex T)
  | [], _, _ => List.pairwise_singleton _ _
  | y :: l, h, hd => by
    obtain ⟨h1, h2⟩ := List.pairwise_cons.mp h
    have yd := hd y List.mem_cons_self
    unfold insL
    by_cases q : T.dday y ≤ T.dday d
    · rw [if_pos q]
      refine List.pairwise_cons.mpr ⟨fun z hz => ?_, ins_srt h2 (fun x hx => hd x (List.mem_cons_of_mem _ hx))⟩
      rcases ins_mem.mp hz with e | e
      · subst e; unfold Lex; omega
      · exact h1 z e
    · rw [if_neg q]
      refine List.pairwise_cons.mpr ⟨fun z hz => ?_, h⟩
      rcases List.mem_cons.mp hz with e | e
      · subst e; unfold Lex; omega
      · have := h1 z e; unfold Lex at this ⊢; omega
theorem Ls_mem {T : TX} {S x : Nat} : ∀ {i : Nat}, x ∈ Ls T S i ↔ x < i ∧ S.testBit x = true
  | 0 => ⟨fun h => absurd h (by simp [Ls]), fun h => by omega⟩
  | i + 1 => by
    show x ∈ (if S.testBit i = true then insL T (Ls T S i) i else Ls T S i) ↔ _
    by_cases q : S.testBit i = true
    · rw [if_pos q, ins_mem, Ls_mem]
      constructor
      · rintro (a | ⟨a, b⟩)
        · subst a; exact ⟨by omega, q⟩
        · exact ⟨by omega, b⟩
      · rintro ⟨a, b⟩
        by_cases e : x = i
        · exact Or.inl e
        · exact Or.inr ⟨by omega, b⟩
    · rw [if_neg q, Ls_mem]
      constructor
      · rintro ⟨a, b⟩; exact ⟨by omega, b⟩
      · rintro ⟨a, b⟩
        by_cases e : x = i
        · subst e; exact absurd b q
        · exact ⟨by omega, b⟩
theorem Ls_len {T : TX} {S : Nat} : ∀ {i : Nat}, (Ls T S i).length = rk S i
  | 0 => rfl
  | i + 1 => by
    show (if S.testBit i = true then insL T (Ls T S i) i else Ls T S i).length = rk S i + if S.testBit i then 1 else 0
    by_cases q : S.testBit i = true
    · rw [if_pos q, if_pos q, ins_len, Ls_len]
    · rw [if_neg q, if_neg q, Ls_len]; rfl
theorem Ls_srt {T : TX} {S : Nat} : ∀ {i : Nat}, (Ls T S i).Pairwise (Lex T)
  | 0 => List.Pairwise.nil
  | i + 1 => by
    show (if S.testBit i = true then insL T (Ls T S i) i else Ls T S i).Pairwise (Lex T)
    by_cases q : S.testBit i = true
    · rw [if_pos q]; exact ins_srt Ls_srt (fun x hx => (Ls_mem.mp hx).1)
    · rw [if_neg q]; exact Ls_srt
/-- the class's rows: what is wanted, and in which order -/
def Ord (T : TX) (S : Nat) (l : List Nat) (i : Nat) (h : PH) : Prop := h.1 219 5 = nI (rk S i) ∧ (∀ x, x < i → S.testBit x = true → h.1 223 (rk S x) = nI x) ∧ ∀ k (hk : k < l.length), h.1 224 k = nI (rk S l[k])
def F223 (p k : Nat) : Prop := ¬ (p = 219 ∧ k = 5) ∧ p ≠ 223 ∧ p ≠ 224
theorem dayOfC {T : TX} {t S x : Nat} {h : PH} (w : T.wf) (xc : TxC t T h) (hx : x < T.dut) (hr : rk S x < 3) (hv : h.1 223 (rk S x) = nI x) : c_X7_dayOf 219 t (nI (rk S x)) h = some (nI (T.dday x)) := by
  have w2 := w.dut
  have hv : h.1 (219 + 4) (rk S x) = nI x := hv
  unfold c_X7_dayOf
  rw [gdI hr (by omega), nI_clamp (n := rk S x) (by omega), hv, gdI (k := x) (by omega) (by omega), nI_clamp (n := x) (by omega), xc.dday x hx]
/-- the place of d among at most two, from behind -/
theorem place_run {T : TX} {t S d : Nat} {Sv : Int32} {l : List Nat} {h : PH} {K : Int32 → PH → Option PH} (w : T.wf) (xc : TxC t T h) (hd : d < T.dut) (hl : l.length ≤ 2) (srt : l.Pairwise (Lex T)) (hm : ∀ x, x ∈ l → x < d ∧ rk S x < 3 ∧ h.1 223 (rk S x) = nI x) (ho : ∀ k (hk : k < l.length), h.1 224 k = nI (rk S l[k])) (h3 : t ≠ 224) (ht : t = 8 ∨ t = 43) : ∃ (at_ : Nat) (h' : PH), lq2 (c_X7_list_L47b 219 t Sv (nI d) K) fu (nI l.length) h = K (nI at_) h' ∧ at_ < 3 ∧ KP (fun p _ => p ≠ 224) h h' ∧ ∀ v : Int32, v = nI (rk S d) → ∀ k (hk : k < (insL T l d).length), (setI h' 224 at_ v).1 224 k = nI (rk S (insL T l d)[k]) := by
  have w2 := w.dut
  have y9 := w.dday d hd
  obtain ⟨f, hf⟩ : ∃ f, fu = f + 1 + 1 + 1 := ⟨8189, by unfold fu; omega⟩
  have stop : ∀ (REC : Int32 → PH → Option PH) (h : PH), c_X7_list_L47b 219 t Sv (nI d) K REC (nI 0) h = K (nI 0) h := fun REC h => by
    unfold c_X7_list_L47b
    rw [if_pos (show nI 0 ≤ 0 by decide)]
  have step : ∀ (REC : Int32 → PH → Option PH) (h : PH) (m x : Nat), m < 2 → TxC t T h → x < d → rk S x < 3 → h.1 223 (rk S x) = nI x → h.1 224 m = nI (rk S x) → c_X7_list_L47b 219 t Sv (nI d) K REC (nI (m + 1)) h = if T.dday x ≤ T.dday d then K (nI (m + 1)) h else REC (nI m) (setI h 224 (m + 1) (nI (rk S x))) := fun REC h m x hm xc hx hr hv ho => by
    have ho : h.1 (219 + 5) m = nI (rk S x) := ho
    have x9 := w.dday x (by omega)
    unfold c_X7_list_L47b
    rw [if_neg (show ¬ nI (m + 1) ≤ 0 from nI_nle (by omega) (by omega)), if_neg (show ¬ (3 : Int32) ≤ nI (m + 1) from nI_ge (b := 3) (by omega) (by omega)), nI_sub1, gdI (k := m) (by omega) (by omega), nI_clamp (n := m) (by omega), ho, dayOfC w xc (by omega) hr hv, Option.bind_some, gdI (k := d) (by omega) (by omega), nI_clamp (n := d) (by omega), xc.dday d hd, ite_cg (nI_leI (a := T.dday x) (b := T.dday d) (by omega) (by omega))]
    by_cases q : T.dday x ≤ T.dday d
    · rw [if_pos q, if_pos q]
    · rw [if_neg q, if_neg q, gdI (k := m) (by omega) (by omega), gdI (k := m + 1) (by omega) (by omega), nI_clamp (n := m + 1) (by omega), nm_eq, nm_eq, pk_m1]
  match l, hl, srt, hm, ho with
  | [], _, _, _, _ =>
    refine ⟨0, h, ?_, by omega, KP.rfl, fun v hv k hk => ?_⟩
    · rw [hf, lq2_s]; exact stop _ h
    · have : k = 0 := by simp [insL] at hk; omega
      subst this
      rw [setI_eq, hv]; rfl
  | [a], _, _, hm, ho =>
    obtain ⟨a1, a2, a3⟩ := hm a List.mem_cons_self
    have o0 := ho 0 (by simp)
    have o0 : h.1 224 0 = nI (rk S a) := o0
    rw [show [a].length = 0 + 1 from rfl, hf, lq2_s, step _ h 0 a (by omega) xc a1 a2 a3 o0]
    by_cases q : T.dday a ≤ T.dday d
    · refine ⟨1, h, by rw [if_pos q], by omega, KP.rfl, fun v hv k hk => ?_⟩
      have e : insL T [a] d = [a, d] := by unfold insL; rw [if_pos q]; rfl
      have hk2 : k < 2 := by rw [e] at hk; exact hk
      have hk' : k = 0 ∨ k = 1 := by omega
      simp only [e]
      rcases hk' with z | z <;> subst z
      · rw [setI_ne (by omega)]; exact o0
      · rw [setI_eq, hv]; rfl
    · refine ⟨0, setI h 224 (0 + 1) (nI (rk S a)), by rw [if_neg q, lq2_s]; exact stop _ _, by omega, KP.setI (fun z => z rfl), fun v hv k hk => ?_⟩
      have e : insL T [a] d = [d, a] := by unfold insL; rw [if_neg q]
      have hk2 : k < 2 := by rw [e] at hk; exact hk
      have hk' : k = 0 ∨ k = 1 := by omega
      simp only [e]
      rcases hk' with z | z <;> subst z
      · rw [setI_eq, hv]; rfl
      · rw [setI_ne (by omega), setI_eq]; rfl
  | [a, b], _, srt, hm, ho =>
    obtain ⟨a1, a2, a3⟩ := hm a List.mem_cons_self
    obtain ⟨b1, b2, b3⟩ := hm b (List.mem_cons_of_mem _ List.mem_cons_self)
    have o0 : h.1 224 0 = nI (rk S a) := ho 0 (by simp)
    have o1 : h.1 224 1 = nI (rk S b) := ho 1 (by simp)
    have ab : Lex T a b := (List.pairwise_cons.mp srt).1 b List.mem_cons_self
    have abd : T.dday a ≤ T.dday b := by unfold Lex at ab; omega
    rw [show [a, b].length = 1 + 1 from rfl, hf, lq2_s, step _ h 1 b (by omega) xc b1 b2 b3 o1]
    by_cases q : T.dday b ≤ T.dday d
    · refine ⟨2, h, by rw [if_pos q], by omega, KP.rfl, fun v hv k hk => ?_⟩
      have e : insL T [a, b] d = [a, b, d] := by unfold insL; rw [if_pos (by omega)]; unfold insL; rw [if_pos q]; rfl
      have hk2 : k < 3 := by rw [e] at hk; exact hk
      have hk' : k = 0 ∨ k = 1 ∨ k = 2 := by omega
      simp only [e]
      rcases hk' with z | z | z <;> subst z
      · rw [setI_ne (by omega)]; exact o0
      · rw [setI_ne (by omega)]; exact o1
      · rw [setI_eq, hv]; rfl
    · rw [if_neg q, show nI 1 = nI (0 + 1) from rfl, lq2_s]
      have k1 : KP (fun p _ => p ≠ 224) h (setI h 224 (1 + 1) (nI (rk S b))) := KP.setI (fun z => z rfl)
      have g0 : (setI h 224 (1 + 1) (nI (rk S b))).1 224 0 = nI (rk S a) := by rw [setI_ne (by omega)]; exact o0
      have g2 : (setI h 224 (1 + 1) (nI (rk S b))).1 224 2 = nI (rk S b) := setI_eq _ _ _ _
      have g1 : (setI h 224 (1 + 1) (nI (rk S b))).1 224 1 = nI (rk S b) := by rw [setI_ne (by omega)]; exact o1
      generalize setI h 224 (1 + 1) (nI (rk S b)) = h1 at k1 g0 g1 g2
      have xc1 : TxC t T h1 := xc.fr w (k1.mono (fun p k z => by unfold FxC at z; omega))
      rw [step _ h1 0 a (by omega) xc1 a1 a2 ((k1.i (by omega)).trans a3) g0]
      by_cases u : T.dday a ≤ T.dday d
      · refine ⟨1, h1, by rw [if_pos u], by omega, k1, fun v hv k hk => ?_⟩
        have e : insL T [a, b] d = [a, d, b] := by unfold insL; rw [if_pos u]; unfold insL; rw [if_neg q]
        have hk2 : k < 3 := by rw [e] at hk; exact hk
        have hk' : k = 0 ∨ k = 1 ∨ k = 2 := by omega
        simp only [e]
        rcases hk' with z | z | z <;> subst z
        · rw [setI_ne (by omega)]; exact g0
        · rw [setI_eq, hv]; rfl
        · rw [setI_ne (by omega)]; exact g2
      · refine ⟨0, setI h1 224 (0 + 1) (nI (rk S a)), by rw [if_neg u, lq2_s]; exact stop _ _, by omega, k1.trans (KP.setI (fun z => z rfl)), fun v hv k hk => ?_⟩
        have e : insL T [a, b] d = [d, a, b] := by unfold insL; rw [if_neg u]
        have hk2 : k < 3 := by rw [e] at hk; exact hk
        have hk' : k = 0 ∨ k = 1 ∨ k = 2 := by omega
        simp only [e]
        rcases hk' with z | z | z <;> subst z
        · rw [setI_eq, hv]; rfl
        · rw [setI_ne (by omega), setI_eq]; rfl
        · rw [setI_ne (by omega), setI_ne (by omega)]; exact g2
  | _ :: _ :: _ :: _, hl, _, _, _ => exact absurd hl (by simp)
theorem list_ok {T : TX} {t S : Nat} {h : PH} (w : T.wf) (xc : TxC t T h) (ht : t = 8 ∨ t = 43) (hS : S < 512) (h3 : rk S T.dut ≤ 3) : ExH (c_X7_list 219 t (nI S) h) (fun h' => Ord T S (Ls T S T.dut) T.dut h' ∧ KP F223 h h') := by
  have w2 := w.dut
  unfold c_X7_list
  refine ex_set (fun h1 e1 => ?_)
  refine ex_nm ?_
  have k1 : KP F223 h h1 := by rw [e1]; exact KP.setI (fun z => z.1 ⟨rfl, rfl⟩)
  obtain ⟨y, e, hy, ky⟩ := for_h (B := c_X7_list_L7b 219 t (nI S) (fun h16 => some h16)) (K := fun h16 => some h16) (N := T.dut) (fun i y => Ord T S (Ls T S i) i y ∧ KP F223 h y) (by omega) (fun REC i y hi hp => by
    obtain ⟨⟨o1, o2, o3⟩, ky⟩ := hp
    have xy : TxC t T y := xc.fr w (ky.mono (fun p k z => by unfold FxC at z; unfold F223; omega))
    have o1 : y.1 219 5 = nI (rk S i) := o1
    unfold c_X7_list_L7b
    rw [xy.dut, if_neg (nI_ge hi (by omega)), b_get hS (by omega), if_0i]
    by_cases q : S.testBit i = true
    · have rlt : rk S i < 3 := by have := rk_lt q hi; omega
      rw [if_neg (show ¬ ¬ S.testBit i = true from fun z => z q), o1, if_neg (show ¬ (3 : Int32) ≤ nI (rk S i) from nI_ge (b := 3) rlt (by omega)), gdI rlt (by omega), nI_clamp (n := rk S i) (by omega), nm_eq]
      have kh : KP (fun p _ => p ≠ 223) y (setI y (219 + 4) (rk S i) (nI i)) := KP.setI (fun z => z rfl)
      have vh : (setI y (219 + 4) (rk S i) (nI i)).1 223 (rk S i) = nI i := setI_eq _ _ _ _
      have vo : ∀ j, j ≠ rk S i → (setI y (219 + 4) (rk S i) (nI i)).1 223 j = y.1 223 j := fun j hj => setI_ne (by omega)
      generalize setI y (219 + 4) (rk S i) (nI i) = h5 at kh vh vo
      have s5 : h5.1 219 5 = nI (rk S i) := (kh.i (by omega)).trans o1
      have x5 : TxC t T h5 := xy.fr w (kh.mono (fun p k z => by unfold FxC at z; omega))
      have wan : ∀ x, x < i + 1 → S.testBit x = true → h5.1 223 (rk S x) = nI x := fun x hx hb => by
        by_cases z : x = i
        · subst z; exact vh
        · have := rk_lt (S := S) hb (show x < i by omega)
          rw [vo _ (by omega)]; exact o2 x (by omega) hb
      obtain ⟨at_, h6, e6, a3, k6, fin⟩ := place_run (S := S) (Sv := nI S) (l := Ls T S i) (K := fun w11 h12 => c_X7_list_j105 219 t (nI S) (fun h16 => some h16) REC (nI i) w11 h12) w x5 hi (by rw [Ls_len]; omega) Ls_srt (fun x hx => by
        obtain ⟨m1, m2⟩ := Ls_mem.mp hx
        have := rk_lt (S := S) m2 m1
        exact ⟨m1, by omega, wan x (by omega) m2⟩) (fun k hk => (kh.i (by omega)).trans (o3 k hk)) (by omega) ht
      rw [Ls_len] at e6
      rw [s5, nm_eq, e6]
      have s6 : h6.1 219 5 = nI (rk S i) := (k6.i (by omega)).trans s5
      show ∃ y', c_X7_list_j105 219 t (nI S) (fun h16 => some h16) REC (nI i) (nI at_) h6 = _ ∧ _
      unfold c_X7_list_j105
      rw [gdI a3 (by omega), nI_clamp (n := at_) (by omega), s6, nm_eq]
      have s7 : (setI h6 (219 + 5) at_ (nI (rk S i))).1 219 5 = nI (rk S i) := by rw [setI_ne (by omega)]; exact s6
      rw [s7, nI_1, nm_eq, nI_1, nm_eq]
      refine ⟨_, rfl, ⟨?_, fun x hx hb => ?_, fun k hk => ?_⟩, ?_⟩
      · rw [setI_eq, rk_s, if_pos q]
      · rw [setI_ne (by omega), setI_ne (by omega), k6.i (by omega)]; exact wan x hx hb
      · have eL : Ls T S (i + 1) = insL T (Ls T S i) i := if_pos q
        rw [setI_ne (by omega)]
        simp only [eL]
        exact fin _ rfl k (by rw [eL] at hk; exact hk)
      · refine ((ky.trans (kh.mono (fun p k z => z.2.1))).trans (k6.mono (fun p k z => z.2.2))).trans ((KP.setI (fun z => z.2.2 rfl)).trans (KP.setI (fun z => z.1 ⟨rfl, rfl⟩)))
    · rw [if_pos q, nm_eq, nI_1]
      refine ⟨y, rfl, ⟨?_, fun x hx hb => ?_, ?_⟩, ky⟩
      · rw [o1, rk_s, if_neg q]; rfl
      · by_cases z : x = i
        · subst z; exact absurd hb q
        · exact o2 x (by omega) hb
      · have eL : Ls T S (i + 1) = Ls T S i := if_neg q
        rw [eL]; exact o3) (fun REC y hp => by
    have xy : TxC t T y := xc.fr w (hp.2.mono (fun p k z => by unfold FxC at z; unfold F223; omega))
    unfold c_X7_list_L7b
    rw [xy.dut, if_pos (nI_le (by omega) (by omega))]) h1 ⟨⟨by rw [e1, setI_eq]; rfl, fun x hx => absurd hx (by omega), fun k hk => absurd hk (by simp [Ls])⟩, k1⟩
  rw [e]
  exact ex_some ⟨hy, ky⟩
