/-! new int[N][K]: the outer array, then the inner ones, each the next cell -/
theorem m_outer (c : ClassId) (N h0 : Nat) : ∀ i : Nat, Jvm.Free.Multi.outerC c N h0 i = arrV c N (fun j => va_rf (if j < i then some (h0 + 1 + j) else none))
  | 0 => by
    show ({ cls := c, slots := Array.replicate N .null, vm := .none } : Cell) = _
    rw [arrV_new]
    refine congrArg (arrV c N) (funext fun j => ?_)
    simp [va_rf]
  | i + 1 => by
    show (Jvm.Free.Multi.outerC c N h0 i).setSlot i (.ref (h0 + 1 + i)) = _
    rw [m_outer c N h0 i, arrV_store]
    refine congrArg (arrV c N) (funext fun j => ?_)
    by_cases e : j = i
    · subst e
      simp [updV, va_rf]
    · by_cases h : j < i
      · simp [updV, e, h, Nat.lt_succ_of_lt h]
      · simp [updV, e, h, show ¬ j < i + 1 by omega]
theorem encA_rep {ad : Nat → Nat} {G : GG} {K : Nat} : ∀ (n p k : Nat) (x : Nat × va_E), (encA ad G hZ p (List.replicate n (kI K)))[k]? = some x → k < n ∧ x = (ad (p + k), .inl (G.2.1, K, .inl (fun _ => 0)))
  | 0, p, k, x, h => by simp [encA] at h
  | n + 1, p, 0, x, h => by
    simp only [List.replicate_succ, encA, List.getElem?_cons_zero, Option.some.injEq] at h
    exact ⟨by omega, h.symm⟩
  | n + 1, p, k + 1, x, h => by
    simp only [List.replicate_succ, encA, List.getElem?_cons_succ] at h
    obtain ⟨h1, h2⟩ := encA_rep n (p + 1) k x h
    refine ⟨by omega, ?_⟩
    rw [h2, show p + 1 + k = p + (k + 1) by omega]
section XM
variable {cells slots : Nat}
variable {p : Program} {l : Launch} {e : Env} {R : Room} {s : State} {m : MethodId} {args : Array Value} {below : List Frame} {meth : Method} {c : Code} {H : Heap} {locs : List Loc} {Q : State → Prop}
variable {cc : ByteArray} {nL pc : Nat} {own : String} {ls : Array Slot} {rest : List Value} {D : va_G} {G : GG} {A : Nat → Prop} {H0 : Heap} {Y L : va_W}
theorem n_mna (hM : CallFix p m c cc nL s args lw_g own) (hw : Wn D G A H0 (Y ++ L) s H locs) (hSF : SF s) {idx : Nat} (hclink : Cond.classLink own idx "[[I" ∈ lw_g) {n k : Int32} (N' K' : Nat) (hn : ¬ n < 0) (hk : ¬ k < 0) (hN : n.toNatClampNeg = N') (hKk : k.toNatClampNeg = K') (hb1 : N' * 4 ≤ 536870912) (hb2 : K' * 4 ≤ 536870912) (hb3 : K' ≤ 536870912) (hcells : cells + (1 + N') ≤ R.cells) (hslots : slots + (N' + N' * K') ≤ R.slots) (hdg : decode cc pc = .ok (.multianewarray idx 2, 4))
    (kk : ∀ (u : Nat → Nat) (H1 : Heap), Wn D G A H0 (Y ++ (L ++ encA u G hZ 0 (kII N' :: List.replicate N' (kI K')))) s H1 locs → W p l e R s m args below meth c H1 locs (cells + 1 + N') (slots + N' + N' * K') Q (F0 m (pc + 4) ls (.ref (u 0) :: rest))) : W p l e R s m args below meth c H locs cells slots Q (F0 m pc ls (.int k :: .int n :: rest)) := by
  subst hN
  subst hKk
  intro T hT Xs
  obtain ⟨vm₁, cA, comp, -, fA, fC, hO, -, X', step⟩ := Xs.multianewarray2F (ty := .int) hM.1 hM.2.2.2.1 (hM.2.2.2.2 _ hclink) (show (Cond.arrayOver (.array .int)).before args s = true from hSF.2.2) (hM.2.2.2.2 _ ac_I) (g := F0 m pc ls (.int k :: .int n :: rest)) rfl (by rw [hM.2.1]; exact hdg) rfl hn hk hb1 hb2 hb3 rfl rfl hcells hslots
  have r1 : va_RA s cA (.array .int) := fA
  have r2 : va_RA s comp .int := fC
  have e1 := ra_same r1 (hw.1.2 5 _ rfl).2
  have e2 := ra_same r2 (hw.1.2 1 _ rfl).2
  subst e1
  subst e2
  generalize hF : Jvm.Free.Multi.fill (T.setVm vm₁) G.2.2.2.2.2 G.2.1 n.toNatClampNeg k.toNatClampNeg (defaultValue .int) n.toNatClampNeg = F at X' step
  have hTh : (T.setVm vm₁).heap = H := hT
  obtain ⟨f1, f2, -, -⟩ := Jvm.Free.Multi.fill_facts (T.setVm vm₁) G.2.2.2.2.2 G.2.1 n.toNatClampNeg k.toNatClampNeg (defaultValue .int) n.toNatClampNeg
  rw [hF, hTh] at f1 f2
  have hold : ∀ x : Nat, x < H.size → F.heap[x]? = H[x]? := fun x hx => by
    have := Jvm.Free.Multi.fill_old (T.setVm vm₁) G.2.2.2.2.2 G.2.1 n.toNatClampNeg k.toNatClampNeg (defaultValue .int) (a := x) (by rw [hTh]; exact hx) n.toNatClampNeg
    rw [hF, hTh] at this
    exact this
  have hz : Jvm.Free.Multi.innerC G.2.1 k.toNatClampNeg (defaultValue .int) = vp_cell G.2.1 (k.toNatClampNeg, .inl (fun _ => 0)) := by
    show ({ cls := G.2.1, slots := Array.replicate k.toNatClampNeg (.int 0), vm := .none } : Cell) = _
    rw [arrV_new]
    rfl
  have hrow : ∀ j : Nat, j < n.toNatClampNeg → F.heap[H.size + 1 + j]? = some (vp_cell G.2.1 (k.toNatClampNeg, .inl (fun _ => 0))) := fun j hj => by
    have := Jvm.Free.Multi.fill_inner (T.setVm vm₁) G.2.2.2.2.2 G.2.1 n.toNatClampNeg k.toNatClampNeg (defaultValue .int) n.toNatClampNeg j hj
    rw [hF, hTh, hz] at this
    exact this
  have hout : Jvm.Free.Multi.outerC G.2.2.2.2.2 n.toNatClampNeg H.size n.toNatClampNeg = vp_cell G.2.2.2.2.2 (n.toNatClampNeg, .inr (.inr (.inr (.inr (fun i => if i < n.toNatClampNeg then some (H.size + 1 + i) else none))))) := by
    rw [vp_cell_q]
    exact m_outer G.2.2.2.2.2 n.toNatClampNeg H.size n.toNatClampNeg
  rw [hout] at f2
  have hP0 : va_P D vwCl (Y ++ L) F.heap := hw.2.1.kept (fun k9 x hx => hold x.1 ((hw.2.1 k9 x hx).lt))
  have hrows : ∀ (k9 : Nat) (x : Nat × va_E), (encA (fun i => H.size + i) G hZ 0 (kII n.toNatClampNeg :: List.replicate n.toNatClampNeg (kI k.toNatClampNeg)))[k9]? = some x → x.1 = H.size + k9 ∧ va_at D vwCl x F.heap := by
    intro k9 x hx
    cases k9 with
    | zero =>
      simp only [encA, List.getElem?_cons_zero, Option.some.injEq] at hx
      subst hx
      refine ⟨rfl, ?_⟩
      have e9 : (fun x : Nat => if x < n.toNatClampNeg then some ((fun i => H.size + i) (0 + 1 + x)) else none) = fun i => if i < n.toNatClampNeg then some (H.size + 1 + i) else none := by
        funext x
        by_cases q : x < n.toNatClampNeg
        · simp only [if_pos q]; congr 1; omega
        · simp only [if_neg q]
      show F.heap[H.size + 0]? = some (vp_cell _ (_, .inr (.inr (.inr (.inr (fun x : Nat => if x < n.toNatClampNeg then some ((fun i => H.size + i) (0 + 1 + x)) else none))))))
      rw [e9]
      exact f2
    | succ k9 =>
      simp only [encA, List.getElem?_cons_succ] at hx
      obtain ⟨h1, h2⟩ := encA_rep _ _ _ _ hx
      subst h2
      refine ⟨by show H.size + (0 + 1 + k9) = _; omega, ?_⟩
      show F.heap[H.size + (0 + 1 + k9)]? = _
      rw [show H.size + (0 + 1 + k9) = H.size + 1 + k9 by omega]
      exact hrow k9 h1
  have hD2 : va_D A ((Y ++ L) ++ encA (fun i => H.size + i) G hZ 0 (kII n.toNatClampNeg :: List.replicate n.toNatClampNeg (kI k.toNatClampNeg))) := by
    have hle : ∀ (k9 : Nat) (x : Nat × va_E), (Y ++ L)[k9]? = some x → x.1 < H.size := fun k9 x hx => (hw.2.1 k9 x hx).lt
    have hd := hw.2.2.1
    have hA := hw.2.2.2.2
    have hsz := hw.2.2.2.1.1
    generalize Y ++ L = W1 at hle hd
    refine ⟨fun i j x y hi hj hxy => ?_, fun k9 x hx => ?_⟩
    · by_cases h1 : i < W1.length <;> by_cases h2 : j < W1.length
      · rw [List.getElem?_append_left h1] at hi
        rw [List.getElem?_append_left h2] at hj
        exact hd.1 i j x y hi hj hxy
      · rw [List.getElem?_append_left h1] at hi
        rw [List.getElem?_append_right (by omega)] at hj
        have := hle _ _ hi
        have := (hrows _ _ hj).1
        omega
      · rw [List.getElem?_append_right (by omega)] at hi
        rw [List.getElem?_append_left h2] at hj
        have := hle _ _ hj
        have := (hrows _ _ hi).1
        omega
      · rw [List.getElem?_append_right (by omega)] at hi hj
        have := (hrows _ _ hi).1
        have := (hrows _ _ hj).1
        omega
    · by_cases h1 : k9 < W1.length
      · rw [List.getElem?_append_left h1] at hx
        exact hd.2 k9 x hx
      · rw [List.getElem?_append_right (by omega)] at hx
        have := (hrows _ _ hx).1
        exact hA _ (by omega)
  obtain ⟨t, a1, b1⟩ := kk (fun i => H.size + i) F.heap ⟨hw.1, by rw [← List.append_assoc]; exact hP0.app (fun k9 x hx => (hrows k9 x hx).2), by rw [← List.append_assoc]; exact hD2, ⟨by rw [f1]; have := hw.2.2.2.1.1; omega, fun x h1 h2 => (hold x (Nat.lt_of_lt_of_le h1 hw.2.2.2.1.1)).trans (hw.2.2.2.1.2.1 x h1 h2), hw.2.2.2.1.2.2⟩, hw.2.2.2.2⟩ F rfl X'
  refine ⟨t, step t ?_, b1⟩
  have e : T.heap.size = H.size := by rw [hT]
  rw [e]
  exact a1
end XM
