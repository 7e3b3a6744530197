theorem lc_new {t : Nat} {Lp Lw : LawT} {h1 hc' : PH} (lcp : LwC (51 - t + 1) Lp h1) (lcw : LwC (51 - t + 4) Lw h1) (kc : KP FNw h1 hc') (ht : 51 - t = 8 ∨ 51 - t = 43) : LawsC (51 - t) Lp Lw hc' := by
  intro h' f
  have g : ∀ p j, (51 - t ≤ p ∧ p < 51 - t + 35 ∧ p ≠ 51 - t + 3 ∧ p ≠ 51 - t + 6) → h'.1 p j = h1.1 p j := fun p j z => (f.i (by unfold FxC; omega)).trans (kc.i (by unfold FNw; omega))
  obtain ⟨w1, q1, x1, x2, x3⟩ := lcp h' (g _ _ (by omega)) (fun j => g _ _ (by omega))
  obtain ⟨w2, q2, y1, y2, y3⟩ := lcw h' (g _ _ (by omega)) (fun j => g _ _ (by omega))
  exact ⟨⟨w1, q1, x1, x2, x3.mono (fun p k z => by omega)⟩, ⟨w2, q2, y1, y2, y3.mono (fun p k z => by omega)⟩⟩
theorem FLr_M {s kk b k p j : Nat} (z : FLr s kk b k p j) : FMw p j := by unfold FLr at z; unfold FMw; omega
theorem FLr_x {s kk b k p j : Nat} (hs : s < 2) (hk : kk < 2) (hb : b ≤ 130) (hk2 : k ≤ 420) (z : FLr s kk b k p j) : FxRs s p j := by unfold FLr at z; unfold FxRs; omega
theorem lr_new {s b k : Nat} {Lp Lw : LawT} {r1 hr' : PH} (hs : s < 2) (hb : b ≤ 130) (hk : k ≤ 420) (lrp : LwR s 0 50 100 b k Lp r1) (lrw : LwR s 1 10 99 b k Lw r1) (k5 : KP FMw r1 hr') : LawsR s Lp Lw hr' := by
  intro h' f l
  have w1 := lrp h' ((k5.mono (fun p j z => FLr_M z)).trans (f.mono (fun p j z => FLr_x hs (by omega) hb hk z))) l
  have w2 := lrw h' ((k5.mono (fun p j z => FLr_M z)).trans (f.mono (fun p j z => FLr_x hs (by omega) hb hk z))) l
  rw [show nI 0 = (0 : Int32) from nI_0, show nI 50 = (50 : Int32) from rfl, show nI 100 = (100 : Int32) from rfl] at w1
  rw [show nI 1 = (1 : Int32) from rfl, show nI 10 = (10 : Int32) from rfl, show nI 99 = (99 : Int32) from rfl] at w2
  exact ⟨w1, w2⟩
theorem read_ok (n : Nat) (hc hr : PH) (hn : n < 512) (h : Iv n hc hr) : ∃ (v : Int32) (hc' hr' : PH), c_X11_read hc = some (v, hc') ∧ c_X12_read hr = some (v, hr') ∧ Iv (n + 1) hc' hr' := by
  obtain ⟨T, σ, s, t, Lp, Lw, I⟩ := h
  have C0 := I.cl.cor
  have t2 := C0.t2; have s2 := C0.s2
  obtain ⟨K, bs, N, h1, r1, eC, eR, kC, kR, z2, z19, pt, h⟩ := read_mid I
  rcases h with bk | ⟨p', rs, bd⟩
  · have nl := bk.nl
    obtain ⟨b, q, b1, b2, b3, c23, r13, c22, c24⟩ := bk
    refine bad_Iv (u := b) (w := h1.1 2 4) I kC kR z2 b1 (by omega) ?_ ?_ ?_
    · rw [eC]; unfold c_X4_parse_j264; rw [c23, if_neg (nI_nz b1 (by omega))]
    · unfold c_X4_placeOfFault; rw [c23, if_neg (nI_nz b1 (by omega))]
    · rw [eR]; unfold c_X12_read_j134; rw [if_neg nl]; unfold c_X12_read_j164
      have e13 : (setI r1 0 17 (r1.1 0 14)).1 0 13 = r1.1 0 13 := setI_ne (by omega)
      rw [nm_eq, e13, if_neg nl, r13, c24]
  · rcases rs.2.2.2.2.2 with ⟨u1, u2, u9⟩ | ⟨u, q, u1, u2, u3, u4, u5, u6, u7⟩
    case inr =>
      have nl : ¬ r1.1 0 15 ≤ 0 := by rw [u5]; exact nI_ge (a := 0) u1 (by omega)
      refine bad_Iv (u := u) (w := h1.1 2 6) I kC kR z2 u1 u2 ?_ ?_ ?_
      · rw [eC]; unfold c_X4_parse_j264; rw [if_pos rs.1, u4]
      · unfold c_X4_placeOfFault; rw [if_pos rs.1]
      · rw [eR]; unfold c_X12_read_j134
        rw [rs.2.1, if_pos (show (0 : Int32) ≤ 0 by decide), if_neg nl]; unfold c_X12_read_j164
        have e13 : (setI r1 0 17 (r1.1 0 16)).1 0 13 = 0 := (setI_ne (by omega)).trans rs.2.1
        have e15 : (setI r1 0 17 (r1.1 0 16)).1 0 15 = r1.1 0 15 := setI_ne (by omega)
        rw [nm_eq, e13, if_pos (show (0 : Int32) ≤ 0 by decide), e15, if_neg nl, u5, u7, u6]
    case inl =>
      obtain ⟨T', c, L, so, nu, b, k, al, sd⟩ := bd
      obtain ⟨Lp', Lw', S⟩ := sd u1
      have b4 := al.b4; have kp := al.kp
      have hN := pt.2.1.1; have h5 := rs.2.2.2.2.1
      have ht' : 51 - t = 8 ∨ 51 - t = 43 := by omega
      have hs' : 1 - s < 2 := by omega
      have k3 : KP (fun p k => ¬ (p = 0 ∧ (k = 1 ∨ k = 2))) h1 (setI (setI h1 0 2 (-1)) 0 1 0) := (KP.setI (by omega)).trans (KP.setI (by omega))
      obtain ⟨h3, e3⟩ : ∃ x, x = setI (setI h1 0 2 (-1 : Int32)) 0 1 (0 : Int32) := ⟨_, rfl⟩
      rw [← e3] at k3
      have xc3 : TxC (51 - t) T' h3 := S.xc.fr S.wf (k3.mono (fun p k z => by unfold FxC at z; omega))
      have a3 : h3.2.2 0 4 = t := (k3.r (by omega)).trans ((kC.r (by unfold FCd; omega)).trans C0.txt)
      have o3 : h3.2.2 2 1 = 51 - t := (k3.r (by omega)).trans al.oth
      obtain ⟨hc', e4, sc, f04, f21, f84, f229, f234, f216, k4⟩ := anew_C t2 ht' S.wf xc3 a3 o3
      obtain ⟨hr', e5, sr, g17, g18, g63, g67, g72, g54, k5⟩ := anew_R hs' S.wf S.xr rs.2.1 u2 z19
      have v1 : hc'.1 0 1 = 0 := by rw [(k4.i (by omega)), e3, setI_eq]
      have v2 : hc'.1 0 2 = -1 := by rw [(k4.i (by omega)), e3, setI_ne (by omega), setI_eq]
      have kc : KP FNw h1 hc' := (k3.mono (fun p k z => by unfold FNw at z; omega)).trans (k4.mono (fun p k z => by unfold FNw at z; omega))
      obtain ⟨uu, ww, hu, hw, a, b', c', e⟩ := I.undo
      refine ⟨0, hc', hr', ?_, ?_, T', st0 T', 1 - s, 51 - t, Lp', Lw', Iv1.mk (CL.mk (Cor.mk S.wf hs' g18 ht' f04 (S.xc.fr S.wf (kc.mono (fun p k z => by unfold FxC at z; unfold FNw; omega))) (S.xr.frs S.wf (k5.mono (fun p k z => by unfold FxRs at z; unfold FMw; omega))) (st0_wf S.wf _) sc sr) ?_ ?_ S.cp S.cw) ⟨0, by omega, v1.trans nI_0.symm, ?_, fun i hi => absurd hi (by omega)⟩ (v2.trans g17.symm) ⟨0, by omega, f229.trans nI_0.symm, g67.trans nI_0.symm, fun i hi => absurd hi (by omega)⟩ ⟨0, by omega, f234.trans nI_0.symm, g72.trans nI_0.symm, fun i hi => absurd hi (by omega)⟩ (iUndo_none hw f84 g63 ?_) (fun i hi => ⟨(f216 i hi).trans (g54 i hi).symm, fun z => absurd (g54 i hi) z⟩) ?_ ?_⟩
      · have eP : c_X4_parse 2 1 (hc.1 0 1) hc = some (0, h1) := by rw [eC]; unfold c_X4_parse_j264; rw [if_pos rs.1, u1]
        have eF : c_X4_placeOfFault 2 h1 = some (-1) := by unfold c_X4_placeOfFault; rw [if_pos rs.1, u9]
        unfold c_X11_read
        rw [eP, b2_some, nm_eq, eF, Option.bind_some, nm_eq, nm_eq, if_pos (Eq.refl (0 : Int32)), ← e3, e4, Option.bind_some]
      · rw [eR]; unfold c_X12_read_j134
        rw [rs.2.1, if_pos (show (0 : Int32) ≤ 0 by decide), u2, if_pos (show (0 : Int32) ≤ 0 by decide), e5]
      · exact lc_new S.lcp S.lcw kc ht'
      · exact lr_new hs' (by omega) (by omega) S.lrp S.lrw k5
      · rw [(k5.i (by unfold FMw; omega))]; exact z2.trans nI_0.symm
      · rw [(kc.i (by unfold FNw; omega)), (kC.i (by unfold FCd; omega))]; exact c'
      · rw [f21]; omega
      · exact iWords_fr (hc := hc) (hr := hr) ((kC.mono (fun p k z => by unfold FCd; omega)).trans (kc.mono (fun p k z => by unfold FNw; omega))) ((kR.mono (fun p k z => by unfold FRd FxRs; omega)).trans (k5.mono (fun p k z => by unfold FMw; omega))) I.words
