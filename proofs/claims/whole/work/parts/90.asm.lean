def wC (k : Nat) : Int64 := hX11.2.1 7 k
def wR (k : Nat) : Int64 := hX12.2.1 7 k
def iWords (hc hr : PH) : Prop := (∀ k, k < 23 → hc.2.1 7 k = wC k) ∧ (∀ k, k < 23 → hr.2.1 7 k = wR k)
theorem iWords_fr {hc hr hc' hr' : PH} (h1 : KP (fun p _ => p = 7) hc hc') (h2 : KP (fun p _ => p = 7) hr hr') (h : iWords hc hr) : iWords hc' hr' := ⟨fun k hk => (h1.j rfl).trans (h.1 k hk), fun k hk => (h2.j rfl).trans (h.2 k hk)⟩
def Iv1 (n : Nat) (T : TX) (σ : ST) (s : Nat) (t : Nat) (Lp : LawT) (Lw : LawT) (hc : PH) (hr : PH) : Prop := (CL n T σ s t Lp Lw hc hr) ∧ (iTape hc hr) ∧ (hc.1 0 2 = hr.1 0 17) ∧ (iSaid hc hr) ∧ (iKnown T hc hr) ∧ (iUndo n T hc hr) ∧ (iSlots n T hc hr) ∧ (hc.2.2 2 1 = 51 - t) ∧ (iWords hc hr)
theorem Iv1.cl {n : Nat} {T : TX} {σ : ST} {s : Nat} {t : Nat} {Lp : LawT} {Lw : LawT} {hc : PH} {hr : PH} (w : Iv1 n T σ s t Lp Lw hc hr) : CL n T σ s t Lp Lw hc hr := w.1
theorem Iv1.tape {n : Nat} {T : TX} {σ : ST} {s : Nat} {t : Nat} {Lp : LawT} {Lw : LawT} {hc : PH} {hr : PH} (w : Iv1 n T σ s t Lp Lw hc hr) : iTape hc hr := w.2.1
theorem Iv1.place {n : Nat} {T : TX} {σ : ST} {s : Nat} {t : Nat} {Lp : LawT} {Lw : LawT} {hc : PH} {hr : PH} (w : Iv1 n T σ s t Lp Lw hc hr) : hc.1 0 2 = hr.1 0 17 := w.2.2.1
theorem Iv1.said {n : Nat} {T : TX} {σ : ST} {s : Nat} {t : Nat} {Lp : LawT} {Lw : LawT} {hc : PH} {hr : PH} (w : Iv1 n T σ s t Lp Lw hc hr) : iSaid hc hr := w.2.2.2.1
theorem Iv1.known {n : Nat} {T : TX} {σ : ST} {s : Nat} {t : Nat} {Lp : LawT} {Lw : LawT} {hc : PH} {hr : PH} (w : Iv1 n T σ s t Lp Lw hc hr) : iKnown T hc hr := w.2.2.2.2.1
theorem Iv1.undo {n : Nat} {T : TX} {σ : ST} {s : Nat} {t : Nat} {Lp : LawT} {Lw : LawT} {hc : PH} {hr : PH} (w : Iv1 n T σ s t Lp Lw hc hr) : iUndo n T hc hr := w.2.2.2.2.2.1
theorem Iv1.slots {n : Nat} {T : TX} {σ : ST} {s : Nat} {t : Nat} {Lp : LawT} {Lw : LawT} {hc : PH} {hr : PH} (w : Iv1 n T σ s t Lp Lw hc hr) : iSlots n T hc hr := w.2.2.2.2.2.2.1
theorem Iv1.other {n : Nat} {T : TX} {σ : ST} {s : Nat} {t : Nat} {Lp : LawT} {Lw : LawT} {hc : PH} {hr : PH} (w : Iv1 n T σ s t Lp Lw hc hr) : hc.2.2 2 1 = 51 - t := w.2.2.2.2.2.2.2.1
theorem Iv1.words {n : Nat} {T : TX} {σ : ST} {s : Nat} {t : Nat} {Lp : LawT} {Lw : LawT} {hc : PH} {hr : PH} (w : Iv1 n T σ s t Lp Lw hc hr) : iWords hc hr := w.2.2.2.2.2.2.2.2
theorem Iv1.mk {n : Nat} {T : TX} {σ : ST} {s : Nat} {t : Nat} {Lp : LawT} {Lw : LawT} {hc : PH} {hr : PH} (h0 : CL n T σ s t Lp Lw hc hr) (h1 : iTape hc hr) (h2 : hc.1 0 2 = hr.1 0 17) (h3 : iSaid hc hr) (h4 : iKnown T hc hr) (h5 : iUndo n T hc hr) (h6 : iSlots n T hc hr) (h7 : hc.2.2 2 1 = 51 - t) (h8 : iWords hc hr) : Iv1 n T σ s t Lp Lw hc hr := ⟨h0, h1, h2, h3, h4, h5, h6, h7, h8⟩
def Iv (n : Nat) (hc hr : PH) : Prop := ∃ (T : TX) (σ : ST) (s t : Nat) (Lp Lw : LawT), Iv1 n T σ s t Lp Lw hc hr
def CLC (t p k : Nat) : Prop := (p = 0 ∧ k = 4) ∨ FxC t p k ∨ (78 ≤ p ∧ p ≤ 80)
def CLR (p k : Nat) : Prop := (p = 0 ∧ k = 18) ∨ FxR p k ∨ p = 43
theorem CL.fr2 {n n' : Nat} {T : TX} {σ : ST} {s t : Nat} {Lp Lw : LawT} {hc hr hc' hr' : PH} (hn : n ≤ n') (kc : KP (CLC t) hc hc') (kr : KP CLR hr hr') (C : CL n T σ s t Lp Lw hc hr) : CL n' T σ s t Lp Lw hc' hr' := by
  have C0 := C.cor
  refine CL.mk (Cor.mk C0.twf C0.s2 ((kr.i (Or.inl ⟨rfl, rfl⟩)).trans C0.live) C0.t2 ((kc.r (Or.inl ⟨rfl, rfl⟩)).trans C0.txt) (C0.xc.fr C0.twf (kc.mono (fun q k z => Or.inr (Or.inl z)))) (C0.xr.fr (kr.mono (fun q k z => Or.inr (Or.inl z)))) (wf_up (by omega) C0.swf) (C0.sc.fr (kc.mono (fun q k z => Or.inr (Or.inr (by omega))))) (C0.sr.fr (kr.mono (fun q k z => Or.inr (Or.inr z.1))))) (C.lc.fr (kc.mono (fun q k z => Or.inr (Or.inl z)))) (C.lr.fr (kr.mono (fun q k z => Or.inr (Or.inl z)))) C.cp C.cw
theorem Iv1.scr {n : Nat} {T : TX} {σ : ST} {s t : Nat} {Lp Lw : LawT} {hc hr hc' hr' : PH} (I : Iv1 n T σ s t Lp Lw hc hr) (kc : KP (SC t) hc hc') (kr : KP SR hr hr') : Iv1 (n + 1) T σ s t Lp Lw hc' hr' := by
  have t2 := I.cl.cor.t2
  refine Iv1.mk (I.cl.fr (Nat.le_succ n) kc kr) (iTape_fr (kc.mono ?_) (kr.mono ?_) I.tape) (by rw [kc.i (by unfold SC; omega), kr.i (by unfold SR; omega)]; exact I.place) (iSaid_fr (kc.mono ?_) (kr.mono ?_) I.said) (iKnown_fr (kc.mono ?_) (kr.mono ?_) I.known) (iUndo_fr (Nat.le_succ n) (kc.mono ?_) (kr.mono ?_) I.undo) (iSlots_fr (Nat.le_succ n) (kc.mono ?_) (kr.mono ?_) I.slots) ((kc.r (by unfold SC; omega)).trans I.other) (iWords_fr (kc.mono ?_) (kr.mono ?_) I.words)
  · intro p k z; unfold FtC at z; unfold SC; omega
  · intro p k z; unfold FtR at z; unfold SR; omega
  · intro p k z; unfold FsC at z; unfold SC; omega
  · intro p k z; unfold FsR at z; unfold SR; omega
  · intro p k z; unfold FkC at z; unfold SC; omega
  · intro p k z; unfold FkR at z; unfold SR; omega
  · intro p k z; unfold FuC at z; unfold SC; omega
  · intro p k z; unfold FuR at z; unfold SR; omega
  · intro p k z; unfold FlC at z; unfold SC; omega
  · intro p k z; unfold FlR at z; unfold SR; omega
  · intro p k z; unfold SC; omega
  · intro p k z; unfold SR; omega
theorem Iv1.mut {n : Nat} {T : TX} {σ : ST} {s t : Nat} {Lp Lw : LawT} {hc hr hc' hr' : PH} (I : Iv1 n T σ s t Lp Lw hc hr) (m : Mut n T t hc hr hc' hr') : Iv (n + 1) hc' hr' := by
  obtain ⟨σ', a1, a2, a3, a4, kc, kr⟩ := m
  have C0 := I.cl.cor
  have t2 := C0.t2
  refine ⟨T, σ', s, t, Lp, Lw, Iv1.mk (CL.mk (Cor.mk C0.twf C0.s2 ((kr.i (by unfold MR SR; omega)).trans C0.live) t2 ((kc.r (by unfold MC SC; omega)).trans C0.txt) (C0.xc.fr C0.twf (kc.mono ?_)) (C0.xr.fr (kr.mono ?_)) a1 a2 a3) (I.cl.lc.fr (kc.mono ?_)) (I.cl.lr.fr (kr.mono ?_)) I.cl.cp I.cl.cw) (iTape_fr (kc.mono ?_) (kr.mono ?_) I.tape) (by rw [kc.i (by unfold MC SC; omega), kr.i (by unfold MR SR; omega)]; exact I.place) (iSaid_fr (kc.mono ?_) (kr.mono ?_) I.said) (iKnown_fr (kc.mono ?_) (kr.mono ?_) I.known) a4 (iSlots_fr (Nat.le_succ n) (kc.mono ?_) (kr.mono ?_) I.slots) ((kc.r (by unfold MC SC; omega)).trans I.other) (iWords_fr (kc.mono ?_) (kr.mono ?_) I.words)⟩
  · intro p k z; unfold FxC at z; unfold MC SC; omega
  · intro p k z; unfold FxR at z; unfold MR SR; omega
  · intro p k z; unfold FxC at z; unfold MC SC; omega
  · intro p k z; unfold FxR at z; unfold MR SR; omega
  · intro p k z; unfold FtC at z; unfold MC SC; omega
  · intro p k z; unfold FtR at z; unfold MR SR; omega
  · intro p k z; unfold FsC at z; unfold MC SC; omega
  · intro p k z; unfold FsR at z; unfold MR SR; omega
  · intro p k z; unfold FkC at z; unfold MC SC; omega
  · intro p k z; unfold FkR at z; unfold MR SR; omega
  · intro p k z; unfold FlC at z; unfold MC SC; omega
  · intro p k z; unfold FlR at z; unfold MR SR; omega
  · intro p k z; unfold MC SC; omega
  · intro p k z; unfold MR SR; omega
theorem Iv1.tp {n : Nat} {T : TX} {σ : ST} {s t : Nat} {Lp Lw : LawT} {hc hr hc' hr' : PH} (I : Iv1 n T σ s t Lp Lw hc hr) (nt : iTape hc' hr') (kc : KP (fun p q => ¬ FtC p q) hc hc') (kr : KP (fun p q => ¬ FtR p q) hr hr') : Iv1 (n + 1) T σ s t Lp Lw hc' hr' := by
  have t2 := I.cl.cor.t2
  refine Iv1.mk (I.cl.fr2 (Nat.le_succ n) (kc.mono ?_) (kr.mono ?_)) nt (by rw [kc.i (by unfold FtC; omega), kr.i (by unfold FtR; omega)]; exact I.place) (iSaid_fr (kc.mono ?_) (kr.mono ?_) I.said) (iKnown_fr (kc.mono ?_) (kr.mono ?_) I.known) (iUndo_fr (Nat.le_succ n) (kc.mono ?_) (kr.mono ?_) I.undo) (iSlots_fr (Nat.le_succ n) (kc.mono ?_) (kr.mono ?_) I.slots) ((kc.r (by unfold FtC; omega)).trans I.other) (iWords_fr (kc.mono ?_) (kr.mono ?_) I.words)
  · intro p k z; unfold CLC FxC at z; unfold FtC; omega
  · intro p k z; unfold CLR FxR at z; unfold FtR; omega
  · intro p k z; unfold FsC at z; unfold FtC; omega
  · intro p k z; unfold FsR at z; unfold FtR; omega
  · intro p k z; unfold FkC at z; unfold FtC; omega
  · intro p k z; unfold FkR at z; unfold FtR; omega
  · intro p k z; unfold FuC at z; unfold FtC; omega
  · intro p k z; unfold FuR at z; unfold FtR; omega
  · intro p k z; unfold FlC at z; unfold FtC; omega
  · intro p k z; unfold FlR at z; unfold FtR; omega
  · intro p k z; unfold FtC; omega
  · intro p k z; unfold FtR; omega
theorem Iv1.sk {n : Nat} {T : TX} {σ : ST} {s t : Nat} {Lp Lw : LawT} {hc hr hc' hr' : PH} (I : Iv1 n T σ s t Lp Lw hc hr) (ns : iSaid hc' hr') (nk : iKnown T hc' hr') (kc : KP (fun p q => ¬ FsC p q ∧ ¬ FkC p q) hc hc') (kr : KP (fun p q => ¬ FsR p q ∧ ¬ FkR p q) hr hr') : Iv1 (n + 1) T σ s t Lp Lw hc' hr' := by
  have t2 := I.cl.cor.t2
  refine Iv1.mk (I.cl.fr2 (Nat.le_succ n) (kc.mono ?_) (kr.mono ?_)) (iTape_fr (kc.mono ?_) (kr.mono ?_) I.tape) (by rw [kc.i (by unfold FsC FkC; omega), kr.i (by unfold FsR FkR; omega)]; exact I.place) ns nk (iUndo_fr (Nat.le_succ n) (kc.mono ?_) (kr.mono ?_) I.undo) (iSlots_fr (Nat.le_succ n) (kc.mono ?_) (kr.mono ?_) I.slots) ((kc.r (by unfold FsC FkC; omega)).trans I.other) (iWords_fr (kc.mono ?_) (kr.mono ?_) I.words)
  · intro p k z; unfold CLC FxC at z; unfold FsC FkC; omega
  · intro p k z; unfold CLR FxR at z; unfold FsR FkR; omega
  · intro p k z; unfold FtC at z; unfold FsC FkC; omega
  · intro p k z; unfold FtR at z; unfold FsR FkR; omega
  · intro p k z; unfold FuC at z; unfold FsC FkC; omega
  · intro p k z; unfold FuR at z; unfold FsR FkR; omega
  · intro p k z; unfold FlC at z; unfold FsC FkC; omega
  · intro p k z; unfold FlR at z; unfold FsR FkR; omega
  · intro p k z; unfold FsC FkC; omega
  · intro p k z; unfold FsR FkR; omega
theorem Iv1.sl {n : Nat} {T : TX} {σ : ST} {s t : Nat} {Lp Lw : LawT} {hc hr hc' hr' : PH} (I : Iv1 n T σ s t Lp Lw hc hr) (nl : iSlots n T hc' hr') (kc : KP (fun p q => ¬ FlC p q) hc hc') (kr : KP (fun p q => ¬ FlR p q) hr hr') : Iv1 (n + 1) T σ s t Lp Lw hc' hr' := by
  have t2 := I.cl.cor.t2
  refine Iv1.mk (I.cl.fr2 (Nat.le_succ n) (kc.mono ?_) (kr.mono ?_)) (iTape_fr (kc.mono ?_) (kr.mono ?_) I.tape) (by rw [kc.i (by unfold FlC; omega), kr.i (by unfold FlR; omega)]; exact I.place) (iSaid_fr (kc.mono ?_) (kr.mono ?_) I.said) (iKnown_fr (kc.mono ?_) (kr.mono ?_) I.known) (iUndo_fr (Nat.le_succ n) (kc.mono ?_) (kr.mono ?_) I.undo) (iSlots_fr (Nat.le_succ n) KP.rfl KP.rfl nl) ((kc.r (by unfold FlC; omega)).trans I.other) (iWords_fr (kc.mono ?_) (kr.mono ?_) I.words)
  · intro p k z; unfold CLC FxC at z; unfold FlC; omega
  · intro p k z; unfold CLR FxR at z; unfold FlR; omega
  · intro p k z; unfold FtC at z; unfold FlC; omega
  · intro p k z; unfold FtR at z; unfold FlR; omega
  · intro p k z; unfold FsC at z; unfold FlC; omega
  · intro p k z; unfold FsR at z; unfold FlR; omega
  · intro p k z; unfold FkC at z; unfold FlC; omega
  · intro p k z; unfold FkR at z; unfold FlR; omega
  · intro p k z; unfold FuC at z; unfold FlC; omega
  · intro p k z; unfold FuR at z; unfold FlR; omega
  · intro p k z; unfold FlC; omega
  · intro p k z; unfold FlR; omega
theorem Iv1.up {n : Nat} {T : TX} {σ : ST} {s t : Nat} {Lp Lw : LawT} {hc hr : PH} (I : Iv1 n T σ s t Lp Lw hc hr) : Iv (n + 1) hc hr := ⟨T, σ, s, t, Lp, Lw, I.scr KP.rfl KP.rfl⟩
theorem Iv1.v {n : Nat} {T : TX} {σ : ST} {s t : Nat} {Lp Lw : LawT} {hc hr : PH} (I : Iv1 n T σ s t Lp Lw hc hr) : Iv n hc hr := ⟨T, σ, s, t, Lp, Lw, I⟩
theorem undo_eq {n : Nat} {T : TX} {hc hr : PH} (h : iUndo n T hc hr) : hc.1 84 2 = hr.1 0 63 := by
  obtain ⟨u, w, _, _, a, b, _⟩ := h
  rw [a, b]
