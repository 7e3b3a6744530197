theorem told_cases {T : TX} {σ : ST} (w : ST.pt T σ) {d : Nat} (hd : d < 9) : (¬ (σ.out d = 1 ∨ σ.out d = 2) ∧ toldP σ d = -2) ∨ ∃ e, e < T.exc ∧ (σ.out d = 1 ∨ σ.out d = 2) ∧ σ.plan d = nI e ∧ toldP σ d = nI e := by
  unfold toldP
  by_cases q : σ.out d = 1 ∨ σ.out d = 2
  · obtain ⟨e, he, h⟩ := w d hd q
    exact Or.inr ⟨e, he, q, h, by rw [if_pos q, h]⟩
  · exact Or.inl ⟨q, by rw [if_neg q]⟩
theorem m2_neg : (-2 : Int32) < 0 := by decide
theorem m1_neg : (-1 : Int32) < 0 := by decide
theorem told_neg {T : TX} {σ : ST} (tw : T.wf) (w : ST.pt T σ) {d : Nat} (hd : d < 9) : toldP σ d < 0 ↔ ¬ (σ.out d = 1 ∨ σ.out d = 2) := by
  have w3 := tw.exc
  rcases told_cases w hd with ⟨h, e⟩ | ⟨e, he, h, _, e'⟩
  · rw [e]; exact ⟨fun _ => h, fun _ => m2_neg⟩
  · rw [e']; exact ⟨fun q => absurd q (nI_pos (by omega)), fun q => absurd h q⟩
def man3 (T : TX) (σ : ST) (a : Nat) (i : Nat) (x : Int32) : Int32 := if T.dman i = a ∧ (σ.out i = 1 ∨ σ.out i = 2) then x + 1 else x
def man4 (T : TX) (σ : ST) (a : Nat) (i : Nat) (x : Int32) : Int32 := if T.dman i = a ∧ σ.out i = 2 then x + 1 else x
theorem and_tc (A B : Prop) : (A ∧ True ∧ B) = (B ∧ A) := propext ⟨fun ⟨a, _, b⟩ => ⟨b, a⟩, fun ⟨b, a⟩ => ⟨a, trivial, b⟩⟩
theorem tale_man3 {T : TX} {σ : ST} (w : T.wf) {a : Nat} (ha : a < T.men) : forS (taleG T σ (outMask σ 1 ||| outMask σ 2) (-1) (nI a)) T.dut 0 = forS (man3 T σ a) T.dut 0 := by
  have w1 := w.men; have w2 := w.dut
  refine forS_congr (fun i y hi => ?_)
  have d1 := w.dman i hi
  refine ite_cg ?_
  rw [told_bit (by omega), nI_eq (by omega) (by omega)]
  simp only [nI_nem1 (show a < 2 ^ 31 by omega), false_or, true_or, and_tc]
theorem tale_man4 {T : TX} {σ : ST} (w : T.wf) {a : Nat} (ha : a < T.men) : forS (taleG T σ (outMask σ 2) (-1) (nI a)) T.dut 0 = forS (man4 T σ a) T.dut 0 := by
  have w1 := w.men; have w2 := w.dut
  refine forS_congr (fun i y hi => ?_)
  have d1 := w.dman i hi
  refine ite_cg ?_
  rw [out_get (by omega), nI_eq (by omega) (by omega)]
  simp only [nI_nem1 (show a < 2 ^ 31 by omega), false_or, true_or, and_tc, beq_iff_eq]
theorem manR3 {n : Nat} {T : TX} {σ : ST} {s t : Nat} {hc hr : PH} (C : Cor n T σ s t hc hr) {a : Nat} (ha : a < T.men) : c_X12_man_j82 (nI a) 3 hr = some (forS (man3 T σ a) T.dut 0) := by
  have w1 := C.twf.men; have w2 := C.twf.dut; have s2 := C.s2
  unfold c_X12_man_j82
  simp only [nm]
  refine for_f (K := fun w12 => some w12) (man3 T σ a) (by omega) (fun REC i y hi => ?_) (fun REC y => ?_) 0
  · unfold c_X12_man_L87b man3
    have d1 := C.twf.dman i hi
    rw [C.live, live_gd C.s2, nI_clamp (by omega), C.xr.dut, if_neg (nI_ge hi (by omega)), manOf_ok C.twf C.s2 C.live C.xr hi]
    simp (disch := omega) only [nm, gdt, ixOK_nI, nI_clamp, nI_mul9, nI_mul7, nI_mul5, nI_mul6, nI_a4, nI_a13, nI_a22, nI_a31, nI_add, nI_1, Option.bind_some, one_ne0, if_false, if_true, C.sr.told0, nI_eq, told_neg C.twf C.swf.planT]
    by_cases b : T.dman i = a <;> by_cases c : σ.out i = 1 ∨ σ.out i = 2 <;> simp [b, c]
  · unfold c_X12_man_L87b
    rw [C.live, live_gd C.s2, nI_clamp (by omega), C.xr.dut, if_pos (nI_le (by omega) (by omega))]
theorem c43 : ((4 : Int32) = 3) = False := eq_false (by decide)
theorem manR4 {n : Nat} {T : TX} {σ : ST} {s t : Nat} {hc hr : PH} (C : Cor n T σ s t hc hr) {a : Nat} (ha : a < T.men) : c_X12_man_j82 (nI a) 4 hr = some (forS (man4 T σ a) T.dut 0) := by
  have w1 := C.twf.men; have w2 := C.twf.dut; have s2 := C.s2
  unfold c_X12_man_j82
  simp only [nm]
  refine for_f (K := fun w12 => some w12) (man4 T σ a) (by omega) (fun REC i y hi => ?_) (fun REC y => ?_) 0
  · unfold c_X12_man_L87b man4
    have d1 := C.twf.dman i hi
    have d2 := C.swf.out i (by omega)
    have g2 : nI (σ.out i) = 2 ↔ σ.out i = 2 := nI_eq (b := 2) (by omega) (by omega)
    rw [C.live, live_gd C.s2, nI_clamp (by omega), C.xr.dut, if_neg (nI_ge hi (by omega)), manOf_ok C.twf C.s2 C.live C.xr hi]
    simp (disch := omega) only [nm, gdt, ixOK_nI, nI_clamp, nI_mul9, nI_mul7, nI_mul5, nI_mul6, nI_a4, nI_a13, nI_a22, nI_a31, nI_add, nI_1, Option.bind_some, one_ne0, if_false, if_true, C.sr.out0, nI_eq, c43, g2]
    by_cases b : T.dman i = a <;> by_cases c : σ.out i = 2 <;> simp [b, c]
  · unfold c_X12_man_L87b
    rw [C.live, live_gd C.s2, nI_clamp (by omega), C.xr.dut, if_pos (nI_le (by omega) (by omega))]
theorem man_ok {n : Nat} {T : TX} {σ : ST} {s t : Nat} {hc hr : PH} (C : Cor n T σ s t hc hr) (a1 a2 : Int32) : ∃ v : Int32, c_X11_man a1 a2 hc = some v ∧ c_X12_man a1 a2 hr = some v := by
  have w1 := C.twf.men; have w2 := C.twf.dut; have s2 := C.s2
  unfold c_X11_man c_X12_man
  simp only [nm, C.txt, gdT C.t2]
  rcases isMan_cases C.twf C.s2 C.live C.xc C.xr a1 with ⟨a, ha, rfl, e1, e2⟩ | ⟨e1, e2⟩
  · simp (disch := omega) only [nm, gdt, ixOK_nI, nI_clamp, nI_mul9, nI_mul7, nI_mul5, nI_mul6, nI_a4, nI_a13, nI_a22, nI_a31, nI_add, nI_1, Option.bind_some, one_ne0, if_false, if_true, e1, e2, C.live, C.sc.freed, C.sc.caught, b_or, C.xr.mend a ha, C.xr.know a ha, C.xc.mend a ha, C.xc.know a ha, C.sc.trust, C.sr.trust0, tales_ok C.twf C.xc C.sc (told_lt σ), tales_ok C.twf C.xc C.sc (out_lt σ 2), tale_man3 C.twf ha, tale_man4 C.twf ha]
    by_cases q3 : a2 = 3
    · subst q3; rw [manR3 C ha]; exact ⟨_, rfl, rfl⟩
    by_cases q4 : a2 = 4
    · subst q4; rw [manR4 C ha]; exact ⟨_, rfl, rfl⟩
    simp only [q3, q4, if_false, ite_some]
    exact ⟨_, rfl, rfl⟩
  · simp only [e1, e2, Option.bind_some, if_true]
    exact ⟨_, rfl, rfl⟩
def exc5 (σ : ST) (e : Nat) (i : Nat) (x : Int32) : Int32 := if (σ.out i = 1 ∨ σ.out i = 2) ∧ σ.plan i = nI e then x + 1 else x
def exc6 (σ : ST) (e : Nat) (i : Nat) (x : Int32) : Int32 := if σ.plan i = nI e then x ||| ((1 : Int32) <<< (nI i &&& 31)) else x
theorem tale_exc5 {T : TX} {σ : ST} (w : T.wf) {e : Nat} (he : e < T.exc) : forS (taleG T σ (outMask σ 1 ||| outMask σ 2) (nI e) (-1)) T.dut 0 = forS (exc5 σ e) T.dut 0 := by
  have w2 := w.dut; have w3 := w.exc
  refine forS_congr (fun i y hi => ?_)
  refine ite_cg ?_
  rw [told_bit (by omega)]
  simp only [nI_nem1 (show e < 2 ^ 31 by omega), false_or, true_or, and_true]
theorem excC6 {p t : Nat} {T : TX} {σ : ST} {h : PH} (w : T.wf) (xc : TxC t T h) (x : StC p σ h) (e : Nat) : c_X8_plannedFor p t (nI e) h = some (forS (exc6 σ e) T.dut 0) := by
  have w2 := w.dut
  unfold c_X8_plannedFor
  simp only [nm]
  refine for_f (K := fun w15 => some w15) (exc6 σ e) (by omega) (fun REC i y hi => ?_) (fun REC y => ?_) 0
  · unfold c_X8_plannedFor_L5b exc6
    rw [xc.dut, if_neg (nI_ge hi (by omega))]
    simp (disch := omega) only [nm, gdt, ixOK_nI, nI_clamp, nI_mul9, nI_mul7, nI_mul5, nI_mul6, nI_a4, nI_a13, nI_a22, nI_a31, nI_add, nI_1, Option.bind_some, one_ne0, if_false, if_true, x.plan, Int32.or_zero]
    by_cases b : σ.plan i = nI e <;> simp only [b, if_true, if_false]
  · unfold c_X8_plannedFor_L5b
    rw [xc.dut, if_pos (nI_le (by omega) (by omega))]
theorem excuse_ok {n : Nat} {T : TX} {σ : ST} {s t : Nat} {hc hr : PH} (C : Cor n T σ s t hc hr) (a1 a2 : Int32) : ∃ v : Int32, c_X11_excuse a1 a2 hc = some v ∧ c_X12_excuse a1 a2 hr = some v := by
  have w2 := C.twf.dut; have w3 := C.twf.exc; have s2 := C.s2; have o1 := C.swf.owned
  have g0 : hr.1 43 3 = nI σ.owned := C.sr.owned
  unfold c_X11_excuse c_X12_excuse
  simp only [nm, C.txt, gdT C.t2]
  rcases isExc_cases C.twf C.s2 C.live C.xc C.xr a1 with ⟨e, he, rfl, e1, e2⟩ | ⟨e1, e2⟩
  · have l5 : lq2 (c_X12_excuse_L123b (nI e) hr (fun w8 => some w8)) fu 0 0 = some (forS (exc5 σ e) T.dut 0) := by
      refine for_f (K := fun w8 => some w8) (exc5 σ e) (by omega) (fun REC i y hi => ?_) (fun REC y => ?_) 0
      · unfold c_X12_excuse_L123b exc5
        rw [C.live, live_gd C.s2, nI_clamp (by omega), C.xr.dut, if_neg (nI_ge hi (by omega))]
        simp (disch := omega) only [nm, gdt, ixOK_nI, nI_clamp, nI_mul9, nI_mul7, nI_mul5, nI_mul6, nI_a4, nI_a13, nI_a22, nI_a31, nI_add, nI_1, Option.bind_some, one_ne0, if_false, if_true, C.sr.told0, toldP_eq (show e < 7 by omega)]
        by_cases b : (σ.out i = 1 ∨ σ.out i = 2) ∧ σ.plan i = nI e
        · rw [if_pos b, if_pos b]
        · rw [if_neg b, if_neg b]
      · unfold c_X12_excuse_L123b
        rw [C.live, live_gd C.s2, nI_clamp (by omega), C.xr.dut, if_pos (nI_le (by omega) (by omega))]
    have l6 : lq2 (c_X12_excuse_L167b (nI e) hr (fun w8 => some w8)) fu 0 0 = some (forS (exc6 σ e) T.dut 0) := by
      refine for_f (K := fun w8 => some w8) (exc6 σ e) (by omega) (fun REC i y hi => ?_) (fun REC y => ?_) 0
      · unfold c_X12_excuse_L167b exc6
        rw [C.live, live_gd C.s2, nI_clamp (by omega), C.xr.dut, if_neg (nI_ge hi (by omega))]
        simp (disch := omega) only [nm, gdt, ixOK_nI, nI_clamp, nI_mul9, nI_mul7, nI_mul5, nI_mul6, nI_a4, nI_a13, nI_a22, nI_a31, nI_add, nI_1, Option.bind_some, one_ne0, if_false, if_true, C.sr.plan0]
        by_cases b : σ.plan i = nI e <;> simp only [b, if_true, if_false]
      · unfold c_X12_excuse_L167b
        rw [C.live, live_gd C.s2, nI_clamp (by omega), C.xr.dut, if_pos (nI_le (by omega) (by omega))]
    have o2 : c_X8_owns 78 (nI e) hc = some (if σ.owned.testBit e = true then 1 else 0) := by
      unfold c_X8_owns
      rw [C.sc.owned, b_get (by omega) (by omega)]
      cases σ.owned.testBit e <;> rfl
    have o3 : c_X12_hasNow (nI e) hr = some (if σ.owned.testBit e = true then 1 else 0) := by
      unfold c_X12_hasNow
      rw [g0, b_get (by omega) (by omega)]
    have o4 : (if (if σ.owned.testBit e = true then (1 : Int32) else 0) = 0 then (0 : Int32) else 1) = if σ.owned.testBit e = true then 1 else 0 := by
      cases σ.owned.testBit e <;> rfl
    simp (disch := omega) only [nm, gdt, ixOK_nI, nI_clamp, nI_mul9, nI_mul7, nI_mul5, nI_mul6, nI_a4, nI_a13, nI_a22, nI_a31, nI_add, nI_1, Option.bind_some, one_ne0, if_false, if_true, e1, e2, C.live, C.sc.freed, C.sc.caught, b_or, C.xr.price e he, C.xr.good e he, C.xr.kind e he, C.xr.strong e he, C.xc.price e he, C.xc.good e he, C.xc.kind e he, C.xc.strong e he, tales_ok C.twf C.xc C.sc (told_lt σ), tale_exc5 C.twf he, excC6 C.twf C.xc C.sc, l5, l6, o2, o3, o4, ite_some]
    exact ⟨_, rfl, rfl⟩
  · simp only [e1, e2, Option.bind_some, if_true]
    exact ⟨_, rfl, rfl⟩
