def ExH (o : Option PH) (Q : PH → Prop) : Prop := ∃ h', o = some h' ∧ Q h'
def ExV {α : Type} (o : Option (α × PH)) (Q : α → PH → Prop) : Prop := ∃ v h', o = some (v, h') ∧ Q v h'
theorem ex_set {h : PH} {q k : Nat} {v : Int32} {B : PH → Option PH} {Q : PH → Prop} (kk : ∀ h', h' = setI h q k v → ExH (B h') Q) : ExH (nm (setI h q k v) B) Q := kk _ rfl
theorem ex_nm {α : Type} {x : α} {B : α → Option PH} {Q : PH → Prop} (kk : ExH (B x) Q) : ExH (nm x B) Q := kk
theorem ex_some {h : PH} {Q : PH → Prop} (kk : Q h) : ExH (some h) Q := ⟨h, rfl, kk⟩
theorem ex_bind {o : Option PH} {P Q : PH → Prop} {B : PH → Option PH} (ho : ExH o P) (kk : ∀ h', P h' → ExH (B h') Q) : ExH (o.bind B) Q := by
  obtain ⟨h', e, p⟩ := ho
  rw [e]; exact kk h' p
theorem ex_b2 {α : Type} {o : Option (α × PH)} {P : α → PH → Prop} {Q : PH → Prop} {B : α → PH → Option PH} (ho : ExV o P) (kk : ∀ v h', P v h' → ExH (B v h') Q) : ExH (bind2 o B) Q := by
  obtain ⟨v, h', e, p⟩ := ho
  rw [e]; exact kk v h' p
theorem ev_set {α : Type} {h : PH} {q k : Nat} {v : Int32} {B : PH → Option (α × PH)} {Q : α → PH → Prop} (kk : ∀ h', h' = setI h q k v → ExV (B h') Q) : ExV (nm (setI h q k v) B) Q := kk _ rfl
theorem ev_nm {α β : Type} {x : β} {B : β → Option (α × PH)} {Q : α → PH → Prop} (kk : ExV (B x) Q) : ExV (nm x B) Q := kk
theorem ev_some {α : Type} {v : α} {h : PH} {Q : α → PH → Prop} (kk : Q v h) : ExV (some (v, h)) Q := ⟨v, h, rfl, kk⟩
theorem ev_bind {α : Type} {o : Option PH} {P : PH → Prop} {Q : α → PH → Prop} {B : PH → Option (α × PH)} (ho : ExH o P) (kk : ∀ h', P h' → ExV (B h') Q) : ExV (o.bind B) Q := by
  obtain ⟨h', e, p⟩ := ho
  rw [e]; exact kk h' p
theorem ev_b2 {α β : Type} {o : Option (β × PH)} {P : β → PH → Prop} {Q : α → PH → Prop} {B : β → PH → Option (α × PH)} (ho : ExV o P) (kk : ∀ v h', P v h' → ExV (B v h') Q) : ExV (bind2 o B) Q := by
  obtain ⟨v, h', e, p⟩ := ho
  rw [e]; exact kk v h' p
def agov (T : TX) (σ : ST) (e a : Nat) : Int32 := if forS (lastG T σ e a) T.dut (-2) = -2 then 99 else nI σ.today - forS (lastG T σ e a) T.dut (-2)
def seenv (T : TX) (σ : ST) (seed : Int32) (e a : Nat) (hrs hd : Int32) (j : Nat) : Int32 :=
  if j = 0 then nI σ.today else if j = 1 then nI (T.strong e) else if j = 2 then forS (timesG T σ e a) T.dut 0 else if j = 3 then nI (σ.trust a) else if j = 4 then nI (T.kind e) else if j = 5 then agov T σ e a else if j = 6 then wetv T seed (nI σ.today) else if j = 7 then hrs else hd
theorem seen0 (T : TX) (σ : ST) (seed : Int32) (e a : Nat) (hrs hd : Int32) : seenv T σ seed e a hrs hd 0 = nI σ.today := by
  unfold seenv
  rw [if_pos (Eq.refl _)]
theorem seen1 (T : TX) (σ : ST) (seed : Int32) (e a : Nat) (hrs hd : Int32) : seenv T σ seed e a hrs hd 1 = nI (T.strong e) := by
  unfold seenv
  rw [if_neg (show ¬ (1 : Nat) = 0 by decide), if_pos (Eq.refl _)]
theorem seen2 (T : TX) (σ : ST) (seed : Int32) (e a : Nat) (hrs hd : Int32) : seenv T σ seed e a hrs hd 2 = forS (timesG T σ e a) T.dut 0 := by
  unfold seenv
  rw [if_neg (show ¬ (2 : Nat) = 0 by decide), if_neg (show ¬ (2 : Nat) = 1 by decide), if_pos (Eq.refl _)]
theorem seen3 (T : TX) (σ : ST) (seed : Int32) (e a : Nat) (hrs hd : Int32) : seenv T σ seed e a hrs hd 3 = nI (σ.trust a) := by
  unfold seenv
  rw [if_neg (show ¬ (3 : Nat) = 0 by decide), if_neg (show ¬ (3 : Nat) = 1 by decide), if_neg (show ¬ (3 : Nat) = 2 by decide), if_pos (Eq.refl _)]
theorem seen4 (T : TX) (σ : ST) (seed : Int32) (e a : Nat) (hrs hd : Int32) : seenv T σ seed e a hrs hd 4 = nI (T.kind e) := by
  unfold seenv
  rw [if_neg (show ¬ (4 : Nat) = 0 by decide), if_neg (show ¬ (4 : Nat) = 1 by decide), if_neg (show ¬ (4 : Nat) = 2 by decide), if_neg (show ¬ (4 : Nat) = 3 by decide), if_pos (Eq.refl _)]
theorem seen5 (T : TX) (σ : ST) (seed : Int32) (e a : Nat) (hrs hd : Int32) : seenv T σ seed e a hrs hd 5 = agov T σ e a := by
  unfold seenv
  rw [if_neg (show ¬ (5 : Nat) = 0 by decide), if_neg (show ¬ (5 : Nat) = 1 by decide), if_neg (show ¬ (5 : Nat) = 2 by decide), if_neg (show ¬ (5 : Nat) = 3 by decide), if_neg (show ¬ (5 : Nat) = 4 by decide), if_pos (Eq.refl _)]
theorem seen6 (T : TX) (σ : ST) (seed : Int32) (e a : Nat) (hrs hd : Int32) : seenv T σ seed e a hrs hd 6 = wetv T seed (nI σ.today) := by
  unfold seenv
  rw [if_neg (show ¬ (6 : Nat) = 0 by decide), if_neg (show ¬ (6 : Nat) = 1 by decide), if_neg (show ¬ (6 : Nat) = 2 by decide), if_neg (show ¬ (6 : Nat) = 3 by decide), if_neg (show ¬ (6 : Nat) = 4 by decide), if_neg (show ¬ (6 : Nat) = 5 by decide), if_pos (Eq.refl _)]
theorem seen7 (T : TX) (σ : ST) (seed : Int32) (e a : Nat) (hrs hd : Int32) : seenv T σ seed e a hrs hd 7 = hrs := by
  unfold seenv
  rw [if_neg (show ¬ (7 : Nat) = 0 by decide), if_neg (show ¬ (7 : Nat) = 1 by decide), if_neg (show ¬ (7 : Nat) = 2 by decide), if_neg (show ¬ (7 : Nat) = 3 by decide), if_neg (show ¬ (7 : Nat) = 4 by decide), if_neg (show ¬ (7 : Nat) = 5 by decide), if_neg (show ¬ (7 : Nat) = 6 by decide), if_pos (Eq.refl _)]
theorem seen8 (T : TX) (σ : ST) (seed : Int32) (e a : Nat) (hrs hd : Int32) : seenv T σ seed e a hrs hd 8 = hd := by
  unfold seenv
  rw [if_neg (show ¬ (8 : Nat) = 0 by decide), if_neg (show ¬ (8 : Nat) = 1 by decide), if_neg (show ¬ (8 : Nat) = 2 by decide), if_neg (show ¬ (8 : Nat) = 3 by decide), if_neg (show ¬ (8 : Nat) = 4 by decide), if_neg (show ¬ (8 : Nat) = 5 by decide), if_neg (show ¬ (8 : Nat) = 6 by decide), if_neg (show ¬ (8 : Nat) = 7 by decide)]
theorem c_m2n {y : Int32} (h : 0 ≤ y) : ¬ y = -2 := fun q => by rw [q] at h; exact absurd h (by decide)
theorem last_cases {T : TX} (w : T.wf) (σ : ST) (e a : Nat) : ∀ n, n ≤ T.dut → forS (lastG T σ e a) n (-2) = -2 ∨ 0 ≤ forS (lastG T σ e a) n (-2)
  | 0, _ => Or.inl rfl
  | n + 1, hn => by
    have ih := last_cases w σ e a n (by omega)
    have d2 := w.dday n (by omega)
    show lastG T σ e a n (forS (lastG T σ e a) n (-2)) = -2 ∨ 0 ≤ lastG T σ e a n (forS (lastG T σ e a) n (-2))
    generalize forS (lastG T σ e a) n (-2) = y at ih
    unfold lastG
    by_cases q : (σ.out n = 1 ∨ σ.out n = 2) ∧ σ.plan n = nI e ∧ T.dman n = a
    · rw [if_pos q]
      unfold jmax
      by_cases u : y < nI (T.dday n)
      · rw [if_pos u]; exact Or.inr (nI_pos' (by omega))
      · rw [if_neg u]; exact ih
    · rw [if_neg q]; exact ih
theorem ago_eq {T : TX} (w : T.wf) (σ : ST) (e a : Nat) {α : Type} (A B : α) : (if 0 ≤ forS (lastG T σ e a) T.dut (-2) then A else B) = if forS (lastG T σ e a) T.dut (-2) = -2 then B else A := by
  rcases last_cases w σ e a T.dut (Nat.le_refl _) with h | h
  · rw [h, if_pos rfl, if_neg (by decide)]
  · rw [if_pos h, if_neg (c_m2n h)]
def F218 (q _k : Nat) : Prop := q ≠ 218
def F41 (q _k : Nat) : Prop := q ≠ 41
theorem if_f {α β : Type} {P : Prop} [Decidable P] {f : β → α} {a b : β} : (if P then f a else f b) = f (if P then a else b) := by
  by_cases h : P
  · rw [if_pos h, if_pos h]
  · rw [if_neg h, if_neg h]
theorem look_ok {T : TX} {σ : ST} {p t : Nat} {h : PH} (w : T.wf) (sw : ST.pt T σ) (xc : TxC t T h) (x : StC p σ h) (hp : p = 78 ∨ p = 81 ∨ p = 220) (ht : t = 8 ∨ t = 43) (hb : σ.today < 2 ^ 31) {e a : Nat} (he : e < T.exc) (ha : a < T.men) (hrs seed : Int32) : ExH (c_X1_look 217 t p (nI e) (nI a) hrs seed h) (fun h' => (∀ j, j < 9 → h'.1 218 j = seenv T σ seed e a hrs (nI (heardN T σ a (T.kind e) σ.today)) j) ∧ KP F218 h h') := by
  have w1 := w.men; have w2 := w.dut; have w3 := w.exc
  have fx : ∀ h', KP F218 h h' → TxC t T h' := fun h' f => xc.fr w (f.mono (fun p k q => by unfold FxC at q; unfold F218; omega))
  have fs : ∀ h', KP F218 h h' → StC p σ h' := fun h' f => x.fr (f.mono (fun q k z => by unfold F218; omega))
  unfold c_X1_look
  rw [gdI (k := e) (by omega) (by omega), lastTold_ok w xc x he ha, Option.bind_some]
  refine ex_nm ?_
  refine ex_set (fun h4 e4 => ?_)
  refine ex_set (fun h5 e5 => ?_)
  have k4 : KP F218 h h4 := by rw [e4]; exact KP.setI (fun q => q rfl)
  have k5 : KP F218 h h5 := by rw [e5]; exact k4.trans (KP.setI (fun q => q rfl))
  rw [(fs _ k5).freed, (fs _ k5).caught, b_or, tales_ok w (fx _ k5) (fs _ k5) (told_lt σ), Option.bind_some, tale_times w he ha]
  refine ex_set (fun h7 e7 => ?_)
  have k7 : KP F218 h h7 := by rw [e7]; exact k5.trans (KP.setI (fun q => q rfl))
  rw [gdI (k := a) (by omega) (by omega)]
  refine ex_set (fun h8 e8 => ?_)
  have k8 : KP F218 h h8 := by rw [e8]; exact k7.trans (KP.setI (fun q => q rfl))
  refine ex_set (fun h9 e9 => ?_)
  have k9 : KP F218 h h9 := by rw [e9]; exact k8.trans (KP.setI (fun q => q rfl))
  rw [(fs _ k9).today]
  have hif : ∀ y : Int32, (if y = -2 then c_X1_look_j108 217 t p (nI a) hrs seed (t + 13 + 1 + (nI e).toNatClampNeg) 99 5 (217 + 1) h9 else c_X1_look_j108 217 t p (nI a) hrs seed (t + 13 + 1 + (nI e).toNatClampNeg) (nI σ.today - y) 5 (217 + 1) h9) = c_X1_look_j108 217 t p (nI a) hrs seed (t + 13 + 1 + (nI e).toNatClampNeg) (if y = -2 then 99 else nI σ.today - y) 5 (217 + 1) h9 := fun y => by
    by_cases q : y = -2
    · rw [if_pos q, if_pos q]
    · rw [if_neg q, if_neg q]
  rw [hif]
  unfold c_X1_look_j108
  rw [show (5 : Int32) = nI 5 from rfl, gdI (k := 5) (by omega) (by omega), nI_clamp (n := 5) (by omega)]
  refine ex_set (fun h10 e10 => ?_)
  have k10 : KP F218 h h10 := by rw [e10]; exact k9.trans (KP.setI (fun q => q rfl))
  rw [(fs _ k10).today, (fx _ k10).rain, X1_lot_ok, Option.bind_some]
  have hif2 : (if nI T.rain ≤ lotv seed (16 * nI σ.today) then c_X1_look_j139 217 t p (nI a) hrs (t + 13 + 1 + (nI e).toNatClampNeg) 0 6 (217 + 1) h10 else c_X1_look_j139 217 t p (nI a) hrs (t + 13 + 1 + (nI e).toNatClampNeg) 1 6 (217 + 1) h10) = c_X1_look_j139 217 t p (nI a) hrs (t + 13 + 1 + (nI e).toNatClampNeg) (wetv T seed (nI σ.today)) 6 (217 + 1) h10 := by
    unfold wetv
    by_cases q : nI T.rain ≤ lotv seed (16 * nI σ.today)
    · rw [if_pos q, if_pos q]
    · rw [if_neg q, if_neg q]
  rw [hif2]
  unfold c_X1_look_j139
  rw [show (6 : Int32) = nI 6 from rfl, gdI (k := 6) (by omega) (by omega), nI_clamp (n := 6) (by omega)]
  refine ex_set (fun h12 e12 => ?_)
  refine ex_set (fun h13 e13 => ?_)
  have k12 : KP F218 h h12 := by rw [e12]; exact k10.trans (KP.setI (fun q => q rfl))
  have k13 : KP F218 h h13 := by rw [e13]; exact k12.trans (KP.setI (fun q => q rfl))
  rw [nI_clamp (n := e) (by omega), (fx _ k13).kind e he, toldOtherwise_ok w sw (fx _ k13) (fs _ k13) ha (w.kind e he) hb, Option.bind_some]
  refine ex_set (fun h15 e15 => ?_)
  have k15 : KP F218 h h15 := by rw [e15]; exact k13.trans (KP.setI (fun q => q rfl))
  refine ex_some ⟨fun j hj => ?_, k15⟩
  have v0 : h.1 p 0 = nI σ.today := x.today
  have v1 : h4.1 (t + 13 + 1 + e) 3 = nI (T.strong e) := (fx _ k4).strong e he
  have v3 : h7.1 (p + 1) a = nI (σ.trust a) := (fs _ k7).trust a (by omega)
  have v4 : h8.1 (t + 13 + 1 + e) 2 = nI (T.kind e) := (fx _ k8).kind e he
  rw [nI_clamp (n := e) (by omega)] at e5 e9
  rw [nI_clamp (n := a) (by omega)] at e8
  rw [v0] at e4; rw [v1] at e5; rw [v3] at e8; rw [v4] at e9
  have : j = 0 ∨ j = 1 ∨ j = 2 ∨ j = 3 ∨ j = 4 ∨ j = 5 ∨ j = 6 ∨ j = 7 ∨ j = 8 := by omega
  rcases this with q | q | q | q | q | q | q | q | q <;> subst q <;> simp (disch := omega) only [e15, e13, e12, e10, e9, e8, e7, e5, e4, setI_eq, setI_ne, seen0, seen1, seen2, seen3, seen4, seen5, seen6, seen7, seen8, agov]
