theorem one_ne0 : ((1 : Int32) = 0) = False := eq_false (by decide)
theorem gdt {α : Type} {o : Option α} : gd true o = o := rfl
theorem out_get {σ : ST} {k d : Nat} (hd : d < 9) : (outMask σ k).testBit d = (σ.out d == k) := mask_bit9 _ hd
theorem out_lt (σ : ST) (k : Nat) : outMask σ k < 512 := mask_lt9 _
theorem outcome_ok {p : Nat} {σ : ST} {h : PH} (x : StC p σ h) {d : Nat} (hd : d < 9) (ho : σ.out d ≤ 3) : c_X8_outcome p (nI d) h = some (nI (σ.out d)) := by
  unfold c_X8_outcome
  simp only [nm]
  rw [x.freed, x.caught, x.done, b_shl hd]
  rw [ite_cg (b_andz (out_lt σ 1) hd), ite_cg (b_andz (out_lt σ 2) hd), ite_cg (b_andz (out_lt σ 3) hd), out_get hd, out_get hd, out_get hd]
  have : σ.out d = 0 ∨ σ.out d = 1 ∨ σ.out d = 2 ∨ σ.out d = 3 := by omega
  rcases this with q | q | q | q <;> rw [q] <;> rfl
theorem duty_ok {n : Nat} {T : TX} {σ : ST} {s t : Nat} {hc hr : PH} (C : Cor n T σ s t hc hr) (a1 a2 : Int32) : ∃ v : Int32, c_X11_duty a1 a2 hc = some v ∧ c_X12_duty a1 a2 hr = some v := by
  have w2 := C.twf.dut
  have s2 := C.s2
  unfold c_X11_duty c_X12_duty
  simp only [nm, C.txt, gdT C.t2]
  rcases isDut_cases C.twf C.s2 C.live C.xc C.xr a1 with ⟨d, hd, rfl, e1, e2⟩ | ⟨e1, e2⟩
  · have g1 : hr.1 43 (4 + d) = σ.plan d := by have := C.sr.plan d (by omega); rwa [Nat.zero_add] at this
    have g2 : hr.1 43 (13 + d) = nI (σ.out d) := by have := C.sr.out d (by omega); rwa [Nat.zero_add] at this
    simp only [e1, e2, Option.bind_some, one_ne0, if_false, manOf_ok C.twf C.s2 C.live C.xr hd, dayOf_ok C.twf C.s2 C.live C.xr hd, C.live, nI_mul9, nI_a4, nI_a13, nI_add, ixOK_nI (show d < 9 by omega) (show 9 < 2 ^ 31 by omega), ixOK_nI (show 9 * s + d < 18 by omega) (show 18 < 2 ^ 31 by omega), ixOK_nI (show 4 + d < 40 by omega) (show 40 < 2 ^ 31 by omega), ixOK_nI (show 13 + d < 40 by omega) (show 40 < 2 ^ 31 by omega), gdt, nI_clamp (show d < 2 ^ 31 by omega), nI_clamp (show 9 * s + d < 2 ^ 31 by omega), nI_clamp (show 4 + d < 2 ^ 31 by omega), nI_clamp (show 13 + d < 2 ^ 31 by omega), C.xc.dman d hd, C.xc.dday d hd, C.xc.dhrs d hd, C.xr.dhrs d hd, C.sc.plan d (show d < 9 by omega), outcome_ok C.sc (show d < 9 by omega) (C.swf.out d (by omega)), g1, g2, ite_some]
    exact ⟨_, rfl, rfl⟩
  · simp only [e1, e2, Option.bind_some, if_true]
    exact ⟨_, rfl, rfl⟩
