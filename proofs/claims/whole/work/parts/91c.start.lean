theorem alw_ok (q : Nat) (v : Int32) (h : PH) : ∃ h', c_X2_always q v h = some h' ∧ CdC q [v, -1] h' ∧ KP (FQ q) h h' := by
  obtain ⟨h1, e1⟩ : ∃ x, x = setI h q 1 (0 : Int32) := ⟨_, rfl⟩
  have k1 : KP (FQ q) h h1 := by rw [e1]; exact KP.setI (fun z => z.1 ⟨rfl, rfl⟩)
  have c1 : CdC q [] h1 := ⟨by rw [e1, setI_eq]; exact nI_0.symm, fun i w z => by rw [List.getElem?_nil] at z; exact absurd z (by simp)⟩
  obtain ⟨h2, e2, c2, k2⟩ := add_ok (v := v) c1 (by show 0 < 408; omega)
  obtain ⟨h3, e3, c3, k3⟩ := add_ok (v := -1) c2 (by show 1 < 408; omega)
  refine ⟨h3, ?_, c3, (k1.trans k2).trans k3⟩
  unfold c_X2_always
  rw [← e1, nm_eq h1, e2, Option.bind_some, e3, Option.bind_some]
def Fclr (t p k : Nat) : Prop := ¬ (p = t ∧ (k ≤ 7 ∨ k = 17)) ∧ FQ (t + 1) p k ∧ FQ (t + 4) p k
theorem clearC (t : Nat) (h : PH) : ∃ h', c_X9_clear t h = some h' ∧ (∀ k, k < 8 → h'.1 t k = if k = 6 then 50 else 0) ∧ h'.1 t 17 = 0 ∧ CdC (t + 1) [50, -1] h' ∧ CdC (t + 4) [10, -1] h' ∧ KP (Fclr t) h h' := by
  obtain ⟨h1, e1⟩ : ∃ x, x = setI h t 0 (0 : Int32) := ⟨_, rfl⟩
  obtain ⟨h2, e2⟩ : ∃ x, x = setI h1 t 1 (0 : Int32) := ⟨_, rfl⟩
  obtain ⟨h3, e3⟩ : ∃ x, x = setI h2 t 2 (0 : Int32) := ⟨_, rfl⟩
  obtain ⟨h4, e4⟩ : ∃ x, x = setI h3 t 3 (0 : Int32) := ⟨_, rfl⟩
  obtain ⟨h5, e5⟩ : ∃ x, x = setI h4 t 4 (0 : Int32) := ⟨_, rfl⟩
  obtain ⟨h6, e6⟩ : ∃ x, x = setI h5 t 5 (0 : Int32) := ⟨_, rfl⟩
  obtain ⟨h7, e7⟩ : ∃ x, x = setI h6 t 6 (50 : Int32) := ⟨_, rfl⟩
  obtain ⟨h8, e8⟩ : ∃ x, x = setI h7 t 7 (0 : Int32) := ⟨_, rfl⟩
  have k8 : KP (fun p k => ¬ (p = t ∧ k ≤ 7)) h h8 := by
    rw [e8, e7, e6, e5, e4, e3, e2, e1]
    exact (((((((KP.setI (by omega)).trans (KP.setI (by omega))).trans (KP.setI (by omega))).trans (KP.setI (by omega))).trans (KP.setI (by omega))).trans (KP.setI (by omega))).trans (KP.setI (by omega))).trans (KP.setI (by omega))
  have v8 : ∀ k, k < 8 → h8.1 t k = if k = 6 then 50 else 0 := fun k hk => by
    have : k = 0 ∨ k = 1 ∨ k = 2 ∨ k = 3 ∨ k = 4 ∨ k = 5 ∨ k = 6 ∨ k = 7 := by omega
    rcases this with q | q | q | q | q | q | q | q <;> subst q <;> simp (disch := omega) only [e8, e7, e6, e5, e4, e3, e2, e1, setI_eq, setI_ne] <;> rfl
  obtain ⟨h9, a9, c9, k9⟩ := alw_ok (t + 1) 50 h8
  obtain ⟨h10, a10, c10, k10⟩ := alw_ok (t + 4) 10 h9
  obtain ⟨h11, e11⟩ : ∃ x, x = setI h10 t 17 (0 : Int32) := ⟨_, rfl⟩
  have k11 : KP (fun p k => ¬ (p = t ∧ k = 17)) h10 h11 := by rw [e11]; exact KP.setI (fun z => z ⟨rfl, rfl⟩)
  refine ⟨h11, ?_, fun k hk => ?_, by rw [e11, setI_eq], ?_, c10.fr (k11.mono (fun p k z => by omega)), ((k8.mono (fun p k z => by have := z.1; omega)).trans (k9.mono (fun _ _ z => z.2.1))).trans ((k10.mono (fun _ _ z => z.2.2)).trans (k11.mono (fun p k z => by have := z.1; omega)))⟩
  · unfold c_X9_clear
    rw [← e1, nm_eq h1, ← e2, nm_eq h2, ← e3, nm_eq h3, ← e4, nm_eq h4, ← e5, nm_eq h5, ← e6, nm_eq h6, ← e7, nm_eq h7, ← e8, nm_eq h8, a9, Option.bind_some, a10, Option.bind_some, ← e11]
    rfl
  · rw [(k11.i (by omega)), (k10.i (by unfold FQ; omega)), (k9.i (by unfold FQ; omega))]; exact v8 k hk
  · exact (c9.fr (k10.mono (fun p k z => by unfold FQ; omega))).fr (k11.mono (fun p k z => by omega))
theorem alwC {q v : Nat} {h : PH} (hv : v < 10000) (c : CdC q [nI v, -1] h) : LwC q (fun _ => nI v) h := by
  intro h' a b
  obtain ⟨w, h2, e, e2, k⟩ := always_ok (p := q) (q := 218) (v := v) (h := h') hv (by rw [a, c.1]; rfl) (by rw [b]; exact c.2 0 _ rfl) (by rw [b]; exact c.2 1 _ rfl)
  exact ⟨w, h2, e, e2, k⟩
theorem plainR {s : Nat} (hs : s < 2) (h : PH) : ∃ h', c_X12_plain (nI s) h = some h' ∧ (∀ p, p = 11 ∨ p = 15 ∨ p = 21 ∨ p = 25 ∨ p = 26 ∨ p = 28 ∨ p = 29 ∨ p = 30 → h'.1 p s = if p = 29 then 50 else 0) ∧ (∀ i, i < 5 → h'.1 14 (5 * s + i) = 0) ∧ (∀ i, i < 2 → h'.1 31 (2 * s + i) = 0 ∧ h'.1 32 (2 * s + i) = 0) ∧ KP (fun p k => ¬ FxRs s p k) h h' := by
  obtain ⟨h1, e1⟩ : ∃ x, x = setI h 11 s (0 : Int32) := ⟨_, rfl⟩
  obtain ⟨h2, e2⟩ : ∃ x, x = setI h1 15 s (0 : Int32) := ⟨_, rfl⟩
  obtain ⟨h3, e3⟩ : ∃ x, x = setI h2 21 s (0 : Int32) := ⟨_, rfl⟩
  obtain ⟨h4, e4⟩ : ∃ x, x = setI h3 25 s (0 : Int32) := ⟨_, rfl⟩
  obtain ⟨h5, e5⟩ : ∃ x, x = setI h4 26 s (0 : Int32) := ⟨_, rfl⟩
  obtain ⟨h6, e6⟩ : ∃ x, x = setI h5 28 s (0 : Int32) := ⟨_, rfl⟩
  obtain ⟨h7, e7⟩ : ∃ x, x = setI h6 29 s (50 : Int32) := ⟨_, rfl⟩
  obtain ⟨h8, e8⟩ : ∃ x, x = setI h7 30 s (0 : Int32) := ⟨_, rfl⟩
  have k8 : KP (fun p k => ¬ FxRs s p k) h h8 := by
    rw [e8, e7, e6, e5, e4, e3, e2, e1]
    exact (((((((KP.setI (by unfold FxRs; omega)).trans (KP.setI (by unfold FxRs; omega))).trans (KP.setI (by unfold FxRs; omega))).trans (KP.setI (by unfold FxRs; omega))).trans (KP.setI (by unfold FxRs; omega))).trans (KP.setI (by unfold FxRs; omega))).trans (KP.setI (by unfold FxRs; omega))).trans (KP.setI (by unfold FxRs; omega))
  have v8 : ∀ p, p = 11 ∨ p = 15 ∨ p = 21 ∨ p = 25 ∨ p = 26 ∨ p = 28 ∨ p = 29 ∨ p = 30 → h8.1 p s = if p = 29 then 50 else 0 := fun p hp => by
    rcases hp with q | q | q | q | q | q | q | q <;> subst q <;> simp (disch := omega) only [e8, e7, e6, e5, e4, e3, e2, e1, setI_eq, setI_ne] <;> rfl
  obtain ⟨h9, e9, p9, k9⟩ := for_h (B := c_X12_plain_L59b (nI s) (fun h12 => nm (0 : Int32) fun v13 => lq2 (c_X12_plain_L83b (nI s) (fun h17 => some h17)) fu v13 h12)) (K := fun h12 => nm (0 : Int32) fun v13 => lq2 (c_X12_plain_L83b (nI s) (fun h17 => some h17)) fu v13 h12) (N := 5) (fun i y => (∀ k, k < i → y.1 14 (5 * s + k) = 0) ∧ KP (fun p _ => p ≠ 14) h8 y ∧ KP (fun p k => ¬ FxRs s p k) h8 y) (by omega) (fun REC i y hi hp => by
    obtain ⟨p1, p2, p3⟩ := hp
    refine ⟨setI y 14 (5 * s + i) 0, ?_, fun k hk => ?_, p2.trans (KP.setI (fun q => q rfl)), p3.trans (KP.setI (fun q => q (by unfold FxRs; omega)))⟩
    · unfold c_X12_plain_L59b
      rw [if_neg (show ¬ (5 : Int32) ≤ nI i from nI_ge (b := 5) hi (by omega)), nI_mul5, nI_add, gdI (k := 5 * s + i) (by omega) (by omega), nI_clamp (n := 5 * s + i) (by omega), nm_eq, nI_1, nm_eq]
    · by_cases q : k = i
      · subst q; rw [setI_eq]
      · rw [setI_ne (by omega)]; exact p1 k (by omega)) (fun REC y _ => by
    unfold c_X12_plain_L59b
    rw [if_pos (show (5 : Int32) ≤ nI 5 from nI_le (a := 5) (b := 5) (by omega) (by omega))]) h8 ⟨fun k hk => absurd hk (by omega), KP.rfl, KP.rfl⟩
  obtain ⟨h10, e10, p10, k10⟩ := for_h (B := c_X12_plain_L83b (nI s) (fun h17 => some h17)) (K := fun h17 => some h17) (N := 2) (fun i y => (∀ k, k < i → y.1 31 (2 * s + k) = 0 ∧ y.1 32 (2 * s + k) = 0) ∧ KP (fun p _ => p ≠ 31 ∧ p ≠ 32) h9 y ∧ KP (fun p k => ¬ FxRs s p k) h9 y) (by omega) (fun REC i y hi hp => by
    obtain ⟨p1, p2, p3⟩ := hp
    refine ⟨setI (setI y 31 (2 * s + i) 0) 32 (2 * s + i) 0, ?_, fun k hk => ?_, (p2.trans (KP.setI (fun q => q.1 rfl))).trans (KP.setI (fun q => q.2 rfl)), (p3.trans (KP.setI (fun q => q (by unfold FxRs; omega)))).trans (KP.setI (fun q => q (by unfold FxRs; omega)))⟩
    · unfold c_X12_plain_L83b
      rw [if_neg (show ¬ (2 : Int32) ≤ nI i from nI_ge (b := 2) hi (by omega)), show (2 : Int32) * nI s = nI (2 * s) from (Int32.ofNat_mul 2 s).symm, nI_add, gdI (k := 2 * s + i) (by omega) (by omega), nI_clamp (n := 2 * s + i) (by omega), nm_eq, gdI (k := 2 * s + i) (by omega) (by omega), nm_eq, nI_1, nm_eq]
    · by_cases q : k = i
      · subst q; exact ⟨by rw [setI_ne (by omega), setI_eq], setI_eq _ _ _ _⟩
      · rw [setI_ne (by omega), setI_ne (by omega), setI_ne (by omega), setI_ne (by omega)]; exact p1 k (by omega)) (fun REC y _ => by
    unfold c_X12_plain_L83b
    rw [if_pos (show (2 : Int32) ≤ nI 2 from nI_le (a := 2) (b := 2) (by omega) (by omega))]) h9 ⟨fun k hk => absurd hk (by omega), KP.rfl, KP.rfl⟩
  refine ⟨h10, ?_, fun p hp => ?_, fun i hi => ?_, p10, (k8.trans k9.2).trans k10.2⟩
  · unfold c_X12_plain
    rw [live_gd hs, nI_clamp (n := s) (by omega), ← e1, nm_eq h1, live_gd hs, ← e2, nm_eq h2, live_gd hs, ← e3, nm_eq h3, live_gd hs, ← e4, nm_eq h4, live_gd hs, ← e5, nm_eq h5, live_gd hs, ← e6, nm_eq h6, live_gd hs, ← e7, nm_eq h7, live_gd hs, ← e8, nm_eq h8, nm_eq, e9, nm_eq, e10]
  · rw [(k10.1.i (by omega)), (k9.1.i (by omega))]; exact v8 p hp
  · rw [(k10.1.i (by omega))]; exact p9 i hi
theorem LT0_dis (L : Nat → List Nat) : DIS 0 L := fun i _ hi => absurd hi (by omega)
theorem T0_C {t : Nat} {h : PH} (v : ∀ k, k < 8 → h.1 t k = if k = 6 then 50 else 0) : TxC t T0 h := by
  apply TxC.mk
  · exact v 0 (by omega)
  · exact v 1 (by omega)
  · exact v 2 (by omega)
  · exact v 3 (by omega)
  · exact v 4 (by omega)
  · exact v 5 (by omega)
  · exact v 6 (by omega)
  · exact v 7 (by omega)
  all_goals exact no0
theorem T0_R {s : Nat} {h : PH} (v : ∀ p, p = 11 ∨ p = 15 ∨ p = 21 ∨ p = 25 ∨ p = 26 ∨ p = 28 ∨ p = 29 ∨ p = 30 → h.1 p s = if p = 29 then 50 else 0) : TxR s T0 h := by
  apply TxR.mk
  · exact v 11 (by omega)
  · exact v 15 (by omega)
  · exact v 21 (by omega)
  · exact v 26 (by omega)
  · exact v 25 (by omega)
  · exact v 28 (by omega)
  · exact v 29 (by omega)
  · exact v 30 (by omega)
  all_goals exact no0
theorem alwR {s kk pl m : Nat} {h : PH} (hs : s < 2) (hk : kk < 2) (e : h.1 31 (2 * s + kk) = 0 ∧ h.1 32 (2 * s + kk) = 0) (hp : pl ≤ m) (hm : m < 1000) : LwR s kk pl m 0 0 (fun _ => nI pl) h := by
  intro h' f l
  refine ⟨nI pl, h', law_def (k := 2 * s + kk) (by omega) (by rw [l, show (2 : Int32) * nI s = nI (2 * s) from (Int32.ofNat_mul 2 s).symm, nI_add]) (by rw [f.i (by unfold FLr; omega), f.i (by unfold FLr; omega), e.1, e.2]), ?_, KP.rfl⟩
  show nI pl = nI (clampN m (nI pl))
  unfold clampN
  rw [if_pos (nI_pos' (by omega)), if_pos (nI_le hp (by omega)), nI_clamp (by omega)]
/-- a text with nothing told yet -/
theorem BD0 {t s : Nat} {hc hr : PH} (hs : s < 2) (vc : ∀ k, k < 8 → hc.1 t k = if k = 6 then 50 else 0) (v17 : hc.1 t 17 = 0) (cp : CdC (t + 1) [50, -1] hc) (cw : CdC (t + 4) [10, -1] hc) (vr : ∀ p, p = 11 ∨ p = 15 ∨ p = 21 ∨ p = 25 ∨ p = 26 ∨ p = 28 ∨ p = 29 ∨ p = 30 → hr.1 p s = if p = 29 then 50 else 0) (v14 : ∀ i, i < 5 → hr.1 14 (5 * s + i) = 0) (v31 : ∀ i, i < 2 → hr.1 31 (2 * s + i) = 0 ∧ hr.1 32 (2 * s + i) = 0) (sd : hr.1 0 19 = nI s) (oth : hc.2.2 2 1 = t) (o12 : hr.1 0 12 = 0) (o20 : hr.1 0 20 = 0) (b46 : hr.1 0 46 = nI (130 * s)) (c52 : hr.1 0 52 = nI (420 * s)) : BD t s 0 hc hr := by
  have xc := T0_C vc
  have xr := T0_R vr
  refine ⟨T0, 0, fun _ => [], fun _ => 0, fun _ => 0, 0, 0, AL.mk (Nat.zero_le _) (Nat.zero_le _) (Nat.zero_le _) (Nat.zero_le _) (Nat.zero_le _) rfl xc.men xc.exc xc.dut xc.tst xc.kno xr.men xr.exc xr.dut xr.tst xr.kno ⟨v17.trans nI_0.symm, fun i hi => absurd hi (by omega)⟩ ⟨o20.trans nI_0.symm, fun i hi => absurd hi (by omega)⟩ ⟨by omega, fun i hi => absurd hi (by omega)⟩ sd oth o12 b46 c52 (Nat.le_refl _) (Nat.le_refl _), fun _ => ⟨fun _ => nI 50, fun _ => nI 10, SD.mk T0_wf xc xr (LT0_dis _) (fun i _ hi => v14 i hi) (alwC (v := 50) (by omega) cp) (alwC (v := 10) (by omega) cw) ?_ ?_ (fun _ _ _ => rfl) (fun _ _ _ => rfl)⟩⟩
  · exact alwR hs (by omega) (v31 0 (by omega)) (by omega) (by omega)
  · exact alwR hs (by omega) (v31 1 (by omega)) (by omega) (by omega)
