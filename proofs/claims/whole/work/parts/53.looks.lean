theorem lastR_ok {T : TX} {σ : ST} {s : Nat} {h : PH} (w : T.wf) (hs : s < 2) (l : h.1 0 18 = nI s) (xr : TxR s T h) (x : StV σ h) {e a : Nat} (he : e < T.exc) (ha : a < T.men) : c_X12_toldLast (nI e) (nI a) h = some (forS (lastG T σ e a) T.dut (-2)) := toldLast_ok w hs l xr x he ha
theorem looks_ok {T : TX} {σ : ST} {s : Nat} {h : PH} (w : T.wf) (hs : s < 2) (l : h.1 0 18 = nI s) (xr : TxR s T h) (x : StV σ h) {e a : Nat} (he : e < T.exc) (ha : a < T.men) (hrs hd : Int32) : ExH (c_X12_looks (nI e) (nI a) hrs hd h) (fun h' => (∀ j, j < 9 → h'.1 41 j = seenv T σ (h.1 0 62) e a hrs hd j) ∧ KP F41 h h') := by
  have w1 := w.men; have w2 := w.dut; have w3 := w.exc
  have fx : ∀ h', KP F41 h h' → TxR s T h' := fun h' f => xr.fr (f.mono (fun p k q => by unfold FxR at q; unfold F41; omega))
  have fs : ∀ h', KP F41 h h' → StV σ h' := fun h' f => x.fr (f.mono (fun q k z => by unfold F41; omega))
  have fl : ∀ h', KP F41 h h' → h'.1 0 18 = nI s := fun h' f => (f.i (by unfold F41; omega)).trans l
  unfold c_X12_looks
  rw [toldLast_ok w hs l xr x he ha, Option.bind_some]
  refine ex_nm ?_
  refine ex_set (fun h3 e3 => ?_)
  have k3 : KP F41 h h3 := by rw [e3]; exact KP.setI (fun q => q rfl)
  rw [fl _ k3, nI_mul7, nI_add, gdI (by omega) (by omega), nI_clamp (by omega), (fx _ k3).strong e he]
  refine ex_set (fun h4 e4 => ?_)
  have k4 : KP F41 h h4 := by rw [e4]; exact k3.trans (KP.setI (fun q => q rfl))
  rw [toldTimes_ok w hs (fl _ k4) (fx _ k4) (fs _ k4) he ha, Option.bind_some]
  refine ex_set (fun h6 e6 => ?_)
  have k6 : KP F41 h h6 := by rw [e6]; exact k4.trans (KP.setI (fun q => q rfl))
  rw [nI_a31, gdI (by omega) (by omega), nI_clamp (by omega), (fs _ k6).trust a (by omega)]
  refine ex_set (fun h7 e7 => ?_)
  have k7 : KP F41 h h7 := by rw [e7]; exact k6.trans (KP.setI (fun q => q rfl))
  rw [fl _ k7, nI_mul7, nI_add, gdI (by omega) (by omega), nI_clamp (by omega), (fx _ k7).kind e he]
  refine ex_set (fun h8 e8 => ?_)
  have k8 : KP F41 h h8 := by rw [e8]; exact k7.trans (KP.setI (fun q => q rfl))
  rw [(fs _ k8).today, ago_eq w]
  have hif : ∀ y : Int32, (if y = -2 then c_X12_looks_j111 hrs hd 99 5 41 h8 else c_X12_looks_j111 hrs hd (nI σ.today - y) 5 41 h8) = c_X12_looks_j111 hrs hd (if y = -2 then 99 else nI σ.today - y) 5 41 h8 := fun y => by
    by_cases q : y = -2
    · rw [if_pos q, if_pos q]
    · rw [if_neg q, if_neg q]
  rw [hif]
  unfold c_X12_looks_j111
  rw [show (5 : Int32) = nI 5 from rfl, gdI (k := 5) (by omega) (by omega), nI_clamp (n := 5) (by omega)]
  refine ex_set (fun h9 e9 => ?_)
  have k9 : KP F41 h h9 := by rw [e9]; exact k8.trans (KP.setI (fun q => q rfl))
  have s9 : h9.1 0 62 = h.1 0 62 := k9.i (by unfold F41; omega)
  rw [(fs _ k9).today, wetR_ok hs (fl _ k9) (fx _ k9), s9, Option.bind_some]
  have fin : ∀ z : Int32, z = wetv T (h.1 0 62) (nI σ.today) → ExH (nm (setI h9 41 6 z) fun h11 => nm (setI h11 41 7 hrs) fun h12 => nm (setI h12 41 8 hd) fun h13 => some h13) (fun h' => (∀ j, j < 9 → h'.1 41 j = seenv T σ (h.1 0 62) e a hrs hd j) ∧ KP F41 h h') := fun z hz => by
    refine ex_set (fun h11 e11 => ?_)
    refine ex_set (fun h12 e12 => ?_)
    refine ex_set (fun h13 e13 => ?_)
    have k13 : KP F41 h h13 := by rw [e13, e12, e11]; exact ((k9.trans (KP.setI (fun q => q rfl))).trans (KP.setI (fun q => q rfl))).trans (KP.setI (fun q => q rfl))
    refine ex_some ⟨fun j hj => ?_, k13⟩
    have v0 : h.1 44 0 = nI σ.today := x.today
    rw [v0] at e3
    have : j = 0 ∨ j = 1 ∨ j = 2 ∨ j = 3 ∨ j = 4 ∨ j = 5 ∨ j = 6 ∨ j = 7 ∨ j = 8 := by omega
    rcases this with q | q | q | q | q | q | q | q | q <;> subst q <;> simp (disch := omega) only [e13, e12, e11, e9, e8, e7, e6, e4, e3, setI_eq, setI_ne, hz, seen0, seen1, seen2, seen3, seen4, seen5, seen6, seen7, seen8, agov]
  rcases wet01 T (h.1 0 62) (nI σ.today) with q | q
  · rw [if_pos q]; exact fin 0 q.symm
  · rw [if_neg (fun z => absurd (q.symm.trans z) (by decide))]; exact fin 1 q.symm
def clampN (m : Nat) (v : Int32) : Nat := if 0 ≤ v then (if v ≤ nI m then v.toNatClampNeg else m) else 0
theorem clamp_le {m : Nat} (hm : m < 1000) (v : Int32) : clampN m v ≤ m := by
  unfold clampN
  by_cases q : 0 ≤ v
  · rw [if_pos q]
    by_cases u : v ≤ nI m
    · rw [if_pos u]
      obtain ⟨j, hj, rfl⟩ := nI_of (Int32.not_lt.mpr q)
      rw [nI_clamp hj]
      exact (nI_leI hj (by omega)).mp u
    · rw [if_neg u]; exact Nat.le_refl _
  · rw [if_neg q]; omega
theorem clampC {m : Nat} (hm : m < 1000) {M : Int32} (hM : M = nI m) (v : Int32) : jmax 0 (jmin M v) = nI (clampN m v) := by
  unfold jmax jmin clampN
  subst hM
  by_cases q : 0 ≤ v
  · rw [if_pos q]
    obtain ⟨j, hj, rfl⟩ := nI_of (Int32.not_lt.mpr q)
    by_cases u : nI j ≤ nI m
    · rw [if_pos u, nI_clamp hj]
      have u1 := (nI_leI hj (by omega)).mp u
      by_cases z : nI j < nI m
      · rw [if_pos z]
        by_cases y : 0 < nI j
        · rw [if_pos y]
        · rw [if_neg y]; have := Int32.not_lt.mp y
          have h0 : j = 0 := by
            have := (nI_leI (b := 0) hj (by omega)).mp this
            omega
          rw [h0]; rfl
      · rw [if_neg z]
        have : ¬ j < m := fun w => z ((nI_ltI hj (by omega)).mpr w)
        have e : j = m := by omega
        subst e
        by_cases y : 0 < nI j
        · rw [if_pos y]
        · rw [if_neg y]; have := Int32.not_lt.mp y
          have h0 : j = 0 := by
            have := (nI_leI (b := 0) hj (by omega)).mp this
            omega
          rw [h0]; rfl
    · rw [if_neg u]
      have z : ¬ nI j < nI m := fun w => u (Int32.le_of_lt w)
      rw [if_neg z]
      by_cases y : 0 < nI m
      · rw [if_pos y]
      · rw [if_neg y]; have := Int32.not_lt.mp y
        have h0 : m = 0 := by
          have := (nI_leI (a := m) (b := 0) (by omega) (by omega)).mp this
          omega
        rw [h0]; rfl
  · rw [if_neg q]
    have v0 : v < 0 := Int32.not_le.mp q
    have y : ¬ 0 < (if v < nI m then v else nI m) := by
      have z : v < nI m := Int32.lt_of_lt_of_le v0 (nI_pos' (by omega))
      rw [if_pos z]
      exact Int32.not_lt.mpr (Int32.le_of_lt v0)
    rw [if_neg y]; exact nI_0.symm
def LawF (L : (Nat → Int32) → Int32) : Prop := ∀ f g : Nat → Int32, (∀ j, j < 9 → f j = g j) → L f = L g
def LawsC (t : Nat) (Lp Lw : (Nat → Int32) → Int32) (h : PH) : Prop := ∀ h', KP (FxC t) h h' → ExV (c_X2_answer (t + 1) (217 + 1) h') (fun v h2 => v = Lp (h'.1 218) ∧ KP (fun q _ => q ≠ t + 3) h' h2) ∧ ExV (c_X2_answer (t + 4) (217 + 1) h') (fun v h2 => v = Lw (h'.1 218) ∧ KP (fun q _ => q ≠ t + 6) h' h2)
def FAsk (p k : Nat) : Prop := p ≠ 42 ∧ ¬ (p = 0 ∧ k = 59)
def LawsR (s : Nat) (Lp Lw : (Nat → Int32) → Int32) (h : PH) : Prop := ∀ h', KP (FxRs s) h h' → h'.1 0 18 = nI s → ExV (c_X12_asks 0 50 100 h') (fun v h2 => v = nI (clampN 100 (Lp (h'.1 41))) ∧ KP FAsk h' h2) ∧ ExV (c_X12_asks 1 10 99 h') (fun v h2 => v = nI (clampN 99 (Lw (h'.1 41))) ∧ KP FAsk h' h2)
theorem LawsC.fr {t : Nat} {Lp Lw : (Nat → Int32) → Int32} {h h' : PH} (f : KP (FxC t) h h') (x : LawsC t Lp Lw h) : LawsC t Lp Lw h' := fun h2 f2 => x h2 (f.trans f2)
theorem LawsR.fr {s : Nat} {Lp Lw : (Nat → Int32) → Int32} {h h' : PH} (f : KP FxR h h') (x : LawsR s Lp Lw h) : LawsR s Lp Lw h' := fun h2 f2 => x h2 ((f.mono (fun _ _ z => z.up)).trans f2)
theorem LawsR.frs {s : Nat} {Lp Lw : (Nat → Int32) → Int32} {h h' : PH} (f : KP (FxRs s) h h') (x : LawsR s Lp Lw h) : LawsR s Lp Lw h' := fun h2 f2 => x h2 (f.trans f2)
def hdv (T : TX) (σ : ST) (e a : Nat) : Int32 := nI (heardN T σ a (T.kind e) σ.today)
def passN (T : TX) (L : (Nat → Int32) → Int32) (seed : Int32) (σ : ST) (e a : Nat) (hrs hd : Int32) : Nat := if σ.today ≤ T.good e then clampN 100 (L (seenv T σ seed e a hrs hd)) else 0
def wearN (T : TX) (L : (Nat → Int32) → Int32) (seed : Int32) (σ : ST) (e a : Nat) (hrs hd : Int32) : Nat := clampN 99 (L (seenv T σ seed e a hrs hd))
theorem wear_le (T : TX) (L : (Nat → Int32) → Int32) (seed : Int32) (σ : ST) (e a : Nat) (hrs hd : Int32) : wearN T L seed σ e a hrs hd ≤ 99 := clamp_le (by omega) _
def FCs (t q _k : Nat) : Prop := q ≠ 218 ∧ q ≠ t + 3 ∧ q ≠ t + 6
def FRs (p k : Nat) : Prop := p ≠ 41 ∧ p ≠ 42 ∧ ¬ (p = 0 ∧ k = 59)
theorem isExcC {T : TX} {t : Nat} {h : PH} (w : T.wf) (xc : TxC t T h) {e : Nat} (he : e < T.exc) : c_X9_isExcuse t (nI e) h = some 1 := by
  have := w.exc
  unfold c_X9_isExcuse
  rw [xc.exc]; exact isC_lt _ (by omega) e he
theorem isManC {T : TX} {t : Nat} {h : PH} (w : T.wf) (xc : TxC t T h) {a : Nat} (ha : a < T.men) : c_X9_isMan t (nI a) h = some 1 := by
  have := w.men
  unfold c_X9_isMan
  rw [xc.men]; exact isC_lt _ (by omega) a ha
theorem passes_ok {T : TX} {σ : ST} {p t : Nat} {Lp Lw : (Nat → Int32) → Int32} {h : PH} (w : T.wf) (sw : ST.pt T σ) (xc : TxC t T h) (x : StC p σ h) (LL : LawsC t Lp Lw h) (cp : LawF Lp) (hp : p = 78 ∨ p = 81 ∨ p = 220) (ht : t = 8 ∨ t = 43) (hb : σ.today < 2 ^ 31) {e a : Nat} (he : e < T.exc) (ha : a < T.men) (hrs seed : Int32) : ExV (c_X1_passes 217 t p (nI e) (nI a) hrs seed h) (fun v h' => v = nI (passN T Lp seed σ e a hrs (hdv T σ e a)) ∧ KP (FCs t) h h') := by
  have w1 := w.men; have w3 := w.exc
  have g := w.good e he
  unfold c_X1_passes passN
  rw [isExcC w xc he, isManC w xc ha, Option.bind_some, Option.bind_some, if_neg (show ¬ (1 : Int32) = 0 by decide), if_neg (show ¬ (1 : Int32) = 0 by decide), gdI (k := e) (by omega) (by omega), nI_clamp (n := e) (by omega), x.today, xc.good e he, ite_cg (nI_leI (a := σ.today) (b := T.good e) hb (by omega))]
  by_cases q : σ.today ≤ T.good e
  · rw [if_pos q, if_pos q]
    refine ev_bind (look_ok w sw xc x hp ht hb he ha hrs seed) (fun h4 ⟨v4, k4⟩ => ?_)
    refine ev_b2 (LL h4 (k4.mono (fun q k z => by unfold FxC at z; unfold F218; omega))).1 (fun v h6 ⟨v6, k6⟩ => ?_)
    refine ev_some ⟨?_, (k4.mono (fun q k z => by unfold FCs at z; unfold F218; omega)).trans (k6.mono (fun q k z => z.2.1))⟩
    rw [v6, clampC (m := 100) (M := 100) (by omega) rfl, cp (h4.1 218) _ v4]
    rfl
  · rw [if_neg q, if_neg q]
    exact ev_some ⟨nI_0.symm, KP.rfl⟩
theorem wears_ok {T : TX} {σ : ST} {p t : Nat} {Lp Lw : (Nat → Int32) → Int32} {h : PH} (w : T.wf) (sw : ST.pt T σ) (xc : TxC t T h) (x : StC p σ h) (LL : LawsC t Lp Lw h) (cw : LawF Lw) (hp : p = 78 ∨ p = 81 ∨ p = 220) (ht : t = 8 ∨ t = 43) (hb : σ.today < 2 ^ 31) {e a : Nat} (he : e < T.exc) (ha : a < T.men) (hrs seed : Int32) : ExV (c_X1_wears 217 t p (nI e) (nI a) hrs seed h) (fun v h' => v = nI (wearN T Lw seed σ e a hrs (hdv T σ e a)) ∧ KP (FCs t) h h') := by
  have w1 := w.men; have w3 := w.exc
  unfold c_X1_wears wearN
  rw [isExcC w xc he, isManC w xc ha, Option.bind_some, Option.bind_some, if_neg (show ¬ (1 : Int32) = 0 by decide), if_neg (show ¬ (1 : Int32) = 0 by decide)]
  refine ev_bind (look_ok w sw xc x hp ht hb he ha hrs seed) (fun h4 ⟨v4, k4⟩ => ?_)
  refine ev_b2 (LL h4 (k4.mono (fun q k z => by unfold FxC at z; unfold F218; omega))).2 (fun v h6 ⟨v6, k6⟩ => ?_)
  refine ev_some ⟨?_, (k4.mono (fun q k z => by unfold FCs at z; unfold F218; omega)).trans (k6.mono (fun q k z => z.2.2))⟩
  rw [v6, clampC (m := 99) (M := 99) (by omega) rfl, cw (h4.1 218) _ v4]
  rfl
theorem looksFor_ok {T : TX} {σ : ST} {s : Nat} {h : PH} (w : T.wf) (sw : ST.pt T σ) (hs : s < 2) (l : h.1 0 18 = nI s) (xr : TxR s T h) (x : StV σ h) (hb : σ.today < 2 ^ 31) {e d : Nat} (he : e < T.exc) (hd : d < T.dut) : ExH (c_X12_looksFor (nI e) (nI d) h) (fun h' => (∀ j, j < 9 → h'.1 41 j = seenv T σ (h.1 0 62) e (T.dman d) (nI (T.dhrs d)) (hdv T σ e (T.dman d)) j) ∧ KP F41 h h') := by
  have w1 := w.men; have w2 := w.dut; have w3 := w.exc
  have ha := w.dman d hd
  unfold c_X12_looksFor
  rw [manOf_ok w hs l xr hd, Option.bind_some]
  refine ex_nm ?_
  rw [l, nI_mul9, nI_mul7, nI_add, nI_add, gdI (k := 9 * s + d) (by omega) (by omega), gdI (k := 7 * s + e) (by omega) (by omega), nI_clamp (n := 7 * s + e) (by omega), nI_clamp (n := 9 * s + d) (by omega), xr.kind e he, xr.dhrs d hd, x.today, heardBy_ok w sw hs l xr x ha (w.kind e he) hb, Option.bind_some]
  exact ex_bind (looks_ok w hs l xr x he ha _ _) (fun h4 q => ex_some q)
theorem passesNow_ok {T : TX} {σ : ST} {s : Nat} {Lp Lw : (Nat → Int32) → Int32} {h : PH} (w : T.wf) (sw : ST.pt T σ) (hs : s < 2) (l : h.1 0 18 = nI s) (xr : TxR s T h) (x : StV σ h) (LL : LawsR s Lp Lw h) (cp : LawF Lp) (hb : σ.today < 2 ^ 31) {e d : Nat} (he : e < T.exc) (hd : d < T.dut) : ExV (c_X12_passesNow (nI e) (nI d) h) (fun v h' => v = nI (passN T Lp (h.1 0 62) σ e (T.dman d) (nI (T.dhrs d)) (hdv T σ e (T.dman d))) ∧ KP FRs h h') := by
  have w3 := w.exc
  have g := w.good e he
  unfold c_X12_passesNow passN
  rw [l, nI_mul7, nI_add, gdI (k := 7 * s + e) (by omega) (by omega), nI_clamp (n := 7 * s + e) (by omega), xr.good e he, x.today, ite_cg (nI_leI (a := σ.today) (b := T.good e) hb (by omega))]
  by_cases q : σ.today ≤ T.good e
  · rw [if_pos q, if_pos q]
    refine ev_bind (looksFor_ok w sw hs l xr x hb he hd) (fun h4 ⟨v4, k4⟩ => ?_)
    refine ev_b2 (LL h4 (k4.mono (fun q k z => by have z := FxRs.up z; unfold FxR at z; unfold F41; omega)) ((k4.i (by unfold F41; omega)).trans l)).1 (fun v h6 ⟨v6, k6⟩ => ?_)
    refine ev_some ⟨?_, (k4.mono (fun q k z => z.1)).trans (k6.mono (fun q k z => z.2))⟩
    rw [v6, cp (h4.1 41) _ v4]
  · rw [if_neg q, if_neg q]
    exact ev_some ⟨nI_0.symm, KP.rfl⟩
theorem wearsNow_ok {T : TX} {σ : ST} {s : Nat} {Lp Lw : (Nat → Int32) → Int32} {h : PH} (w : T.wf) (sw : ST.pt T σ) (hs : s < 2) (l : h.1 0 18 = nI s) (xr : TxR s T h) (x : StV σ h) (LL : LawsR s Lp Lw h) (cw : LawF Lw) (hb : σ.today < 2 ^ 31) {e d : Nat} (he : e < T.exc) (hd : d < T.dut) : ExV (c_X12_wearsNow (nI e) (nI d) h) (fun v h' => v = nI (wearN T Lw (h.1 0 62) σ e (T.dman d) (nI (T.dhrs d)) (hdv T σ e (T.dman d))) ∧ KP FRs h h') := by
  unfold c_X12_wearsNow wearN
  refine ev_bind (looksFor_ok w sw hs l xr x hb he hd) (fun h4 ⟨v4, k4⟩ => ?_)
  refine ev_b2 (LL h4 (k4.mono (fun q k z => by have z := FxRs.up z; unfold FxR at z; unfold F41; omega)) ((k4.i (by unfold F41; omega)).trans l)).2 (fun v h6 ⟨v6, k6⟩ => ?_)
  refine ev_some ⟨?_, (k4.mono (fun q k z => z.1)).trans (k6.mono (fun q k z => z.2))⟩
  rw [v6, cw (h4.1 41) _ v4]
