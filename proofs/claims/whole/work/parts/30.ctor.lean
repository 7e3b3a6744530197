/-! CONSTRUCTORS: the world is a list that grows at its end -/
def Wn (D : va_G) (G : GG) (A : Nat → Prop) (H0 : Heap) (W0 : va_W) (s : State) (H : Heap) (locs : List Loc) : Prop :=
  va_K D vwCl (tysOf G) s ∧ va_P D vwCl W0 H ∧ va_D A W0 ∧ va_S A H0 H locs ∧ ∀ q : Nat, H0.size ≤ q → A q
theorem oi_code : Cond.code objectInit ⟨#[0xb1]⟩ 1 none ∈ lw_g := lw_g_of (lw_t1 _ (List.mem_of_getElem? (i := 27) rfl)) rfl
theorem ac_B : Cond.arrayClass .byte ∈ lw_g := lw_g_of (lw_t1 _ (List.mem_of_getElem? (i := 106) rfl)) rfl
theorem ac_I : Cond.arrayClass .int ∈ lw_g := lw_g_of (lw_t1 _ (List.mem_of_getElem? (i := 107) rfl)) rfl
theorem ac_J : Cond.arrayClass .long ∈ lw_g := lw_g_of (lw_t1 _ (List.mem_of_getElem? (i := 108) rfl)) rfl
theorem ac_Z : Cond.arrayClass .boolean ∈ lw_g := lw_g_of (lw_t2 _ (List.mem_of_getElem? (i := 111) rfl)) rfl
theorem ap_get (Y L : va_W) (i : Nat) : (Y ++ L)[Y.length + i]? = L[i]? := by
  rw [List.getElem?_append_right (by omega)]
  congr 1
  omega
theorem ap_set (Y L : va_W) (i : Nat) (x : Nat × va_E) : (Y ++ L).set (Y.length + i) x = Y ++ L.set i x := by
  rw [List.set_append_right _ _ (by omega)]
  congr 2
  omega
theorem ra_same {U : State} {c1 c2 : ClassId} {ty : FieldType} (h1 : va_RA U c1 ty) (h2 : va_RA U c2 ty) : c1 = c2 := by
  cases ty with
  | object C =>
    obtain ⟨_, _, _, _, _, h3⟩ := h1
    obtain ⟨_, _, _, _, _, h4⟩ := h2
    exact Option.some.inj (h3.symm.trans h4)
  | _ => exact Option.some.inj (Eq.trans (Eq.symm h1) h2)
/-- what a state knows beyond the words: links of nest mates, arrays over a class -/
def sf_words : List Cond := [Cond.methodLinkNest RX11 22 yX4_init "ExcuseMarket", Cond.methodLinkNest RX9 38 yX2_init "ExcuseMarket", Cond.methodLinkNest RX11 36 yX8_init "ExcuseMarket", Cond.methodLinkNest RX5 24 yX8_init "ExcuseMarket", Cond.methodLinkNest RX11 61 yX1_init "ExcuseMarket", Cond.methodLinkNest RX11 68 yX7_init "ExcuseMarket", Cond.methodLinkNest RX7 11 yX8_init "ExcuseMarket", Cond.methodLinkNest RX11 75 yX3_init "ExcuseMarket", Cond.methodLinkNest RX11 82 yX0_init "ExcuseMarket", Cond.methodLinkNest RX11 89 yX6_init "ExcuseMarket"]
def SF (U : State) : Prop := (∀ w ∈ sf_words, va_Nw w U) ∧ va_AO "ExcuseMarket$State" U ∧ (Cond.arrayOver (.array .int)).before #[] U = true
section XN
variable {cells slots : Nat}
variable {p : Program} {l : Launch} {e : Env} {R : Room} {s : State} {m : MethodId} {args : Array Value} {below : List Frame} {meth : Method} {c : Code} {H : Heap} {locs : List Loc} {Q : State → Prop}
variable {cc : ByteArray} {nL pc : Nat} {own : String} {ls : Array Slot} {rest : List Value} {D : va_G} {G : GG} {A : Nat → Prop} {H0 : Heap} {Y L : va_W}
theorem n_obj (hM : CallFix p m c cc nL s args lw_g own) {idx : Nat} {a : Addr} (hl : ls.size = nL) (hlink : Cond.methodLink own idx objectInit ∈ lw_g) (hdg : decode cc pc = .ok (.invokespecial idx, 3)) (hf : 1 ≤ R.frames) (hlo : 12 ≤ R.locals) (kk : W p l e R s m args below meth c H locs cells slots Q (F0 m (pc + 3) ls [])) : W p l e R s m args below meth c H locs cells slots Q (F0 m pc ls [.ref a]) :=
  W.objInit hM.1 hM.2.1 hM.2.2.2.1 (hM.2.2.2.2 _ hlink) (hM.2.2.2.2 _ im_init_Object__V) (hM.2.2.2.2 _ oi_code) rfl (by rw [hM.2.2.1]; exact hl) rfl hdg hf (by show 2 * 0 + 0 + 12 ≤ _; omega) kk
theorem n_putF (hM : CallFix p m c cc nL s args lw_g own) (hw : Wn D G A H0 (Y ++ L) s H locs) (hin2 : meth.name = "<init>") (i : Nat) {a : Nat} {ref C : String} {T : u_T} {N ci idx k : Nat} {fs : List Value} {v : Value} (he : L[i]? = some (a, .inr (ci, fs))) (hc : vwCl[ci]? = some (C, T, N)) (hin : ∀ w ∈ u_ws C T N, w ∈ lw_g) {ty0 : Nat → FieldType} (hty : ∀ k, k < N → parseFieldDescriptor (T k).2.2.1 = some (ty0 k)) (hnm : ∀ a, a < N → ∀ b, b < N → a ≠ b → (T a).2.1 ≠ (T b).2.1) (hkN : k < N) (href : (T k).1 = ref) (hfin : (T k).2.2.2 = true) (hdecl : (T k).1 = own) (hlink : Cond.fieldLink own idx ref (T k).2.1 (T k).2.2.1 ∈ lw_g) (hn : narrow (ty0 k) v = v) (hfit : fits (ty0 k) v = true) (hl : k < fs.length) (L' : va_W) (hL : L.set i (a, .inr (ci, fs.set k v)) = L') (hdg : decode cc pc = .ok (.putfield idx, 3)) (kk : ∀ (H1 : Heap) (locs1 : List Loc), Wn D G A H0 (Y ++ L') s H1 locs1 → W p l e R s m args below meth c H1 locs1 cells slots Q (F0 m (pc + 3) ls rest)) : W p l e R s m args below meth c H locs cells slots Q (F0 m pc ls (v :: .ref a :: rest)) :=
  va_putF hM.1 hM.2.1 hM.2.2.2.2 hin ty0 hty hnm hM.2.2.2.1 hw.1 hw.2.1 hw.2.2.1 hw.2.2.2.1 (Y.length + i) (by rw [ap_get]; exact he) hc k hkN (hM.2.2.2.2 _ hlink) (by subst href; exact fun _ h => h) hfin hin2 hdecl (hty k hkN) hn hfit hl hdg fun H1 locs1 hP hD hS => by
    rw [ap_set, hL] at hP hD
    exact kk H1 locs1 ⟨hw.1, hP, hD, hS, hw.2.2.2.2⟩
theorem n_put (hM : CallFix p m c cc nL s args lw_g own) (hw : Wn D G A H0 (Y ++ L) s H locs) (i : Nat) {a : Nat} {ref C : String} {T : u_T} {N ci idx k : Nat} {fs : List Value} {v : Value} (he : L[i]? = some (a, .inr (ci, fs))) (hc : vwCl[ci]? = some (C, T, N)) (hin : ∀ w ∈ u_ws C T N, w ∈ lw_g) {ty0 : Nat → FieldType} (hty : ∀ k, k < N → parseFieldDescriptor (T k).2.2.1 = some (ty0 k)) (hnm : ∀ a, a < N → ∀ b, b < N → a ≠ b → (T a).2.1 ≠ (T b).2.1) (hkN : k < N) (href : (T k).1 = ref) (hfin : (T k).2.2.2 = false) (hlink : Cond.fieldLink own idx ref (T k).2.1 (T k).2.2.1 ∈ lw_g) (hn : narrow (ty0 k) v = v) (hfit : fits (ty0 k) v = true) (hl : k < fs.length) (L' : va_W) (hL : L.set i (a, .inr (ci, fs.set k v)) = L') (hdg : decode cc pc = .ok (.putfield idx, 3)) (kk : ∀ (H1 : Heap) (locs1 : List Loc), Wn D G A H0 (Y ++ L') s H1 locs1 → W p l e R s m args below meth c H1 locs1 cells slots Q (F0 m (pc + 3) ls rest)) : W p l e R s m args below meth c H locs cells slots Q (F0 m pc ls (v :: .ref a :: rest)) :=
  va_put hM.1 hM.2.1 hM.2.2.2.2 hin ty0 hty hnm hM.2.2.2.1 hw.1 hw.2.1 hw.2.2.1 hw.2.2.2.1 (Y.length + i) (by rw [ap_get]; exact he) hc k hkN (hM.2.2.2.2 _ hlink) (by subst href; exact fun _ h => h) hfin (hty k hkN) hn hfit hl hdg fun H1 locs1 hP hD hS => by
    rw [ap_set, hL] at hP hD
    exact kk H1 locs1 ⟨hw.1, hP, hD, hS, hw.2.2.2.2⟩
theorem n_newa (hM : CallFix p m c cc nL s args lw_g own) (hw : Wn D G A H0 (Y ++ L) s H locs) {atype : ArrayType} {ty : FieldType} (hac : Cond.arrayClass (newarray.typeOf atype) ∈ lw_g) (hty : newarray.typeOf atype = ty) (tix : Nat) {cT : ClassId} (htix : (tysOf G)[tix]? = some (cT, ty)) {n : Int32} (N' : Nat) {a0 : vp_A} (ha : ∀ cA : ClassId, vp_cell cA a0 = arrV cA N' (fun _ => defaultValue ty)) (hn : ¬ n < 0) (hN : n.toNatClampNeg = N') (hbytes : N' * componentBytes ty ≤ 536870912) (hcells : cells + 1 ≤ R.cells) (hslots : slots + N' ≤ R.slots) (hdg : decode cc pc = .ok (.newarray atype, 2)) (kk : ∀ (q : Nat) (H1 : Heap), Wn D G A H0 (Y ++ (L ++ [(q, .inl (cT, a0))])) s H1 locs → W p l e R s m args below meth c H1 locs (cells + 1) (slots + N') Q (F0 m (pc + 2) ls (.ref q :: rest))) : W p l e R s m args below meth c H locs cells slots Q (F0 m pc ls (.int n :: rest)) :=
  va_newa hM.1 hM.2.1 (hM.2.2.2.2 _ hac) hty hw.1 hw.2.1 hw.2.2.1 hw.2.2.2.1 hw.2.2.2.2 ha hn hN hbytes hcells hslots hdg fun q cA H1 hK hP hD hS => by
    have h1 : va_RA s cA ty := (hK.2 (tysOf G).length (cA, ty) (by simp)).2
    have h2 := (hw.1.2 tix _ htix).2
    have e := ra_same h1 h2
    subst e
    rw [List.append_assoc] at hP hD
    exact kk q H1 ⟨hw.1, hP, hD, hS, hw.2.2.2.2⟩
theorem n_new (hM : CallFix p m c cc nL s args lw_g own) (hw : Wn D G A H0 (Y ++ L) s H locs) {C : String} {T : u_T} {N ci idx : Nat} (hin : ∀ w ∈ u_ws C T N, w ∈ lw_g) {ty : Nat → FieldType} (hty : ∀ k, k < N → parseFieldDescriptor (T k).2.2.1 = some (ty k)) (hcl : Cond.classLink own idx C ∈ lw_g) (hinst : Cond.instantiable C N ∈ lw_g) (hini : Cond.initialized C ∈ lw_g) (hc : vwCl[ci]? = some (C, T, N)) (fs : List Value) (hfs : ∀ j, j < N → defaultValue (ty j) = vp_V fs j) (hcells : cells + 1 ≤ R.cells) (hslots : slots + N ≤ R.slots) (hdg : decode cc pc = .ok (.new idx, 3)) (kk : ∀ (q : Nat) (H1 : Heap), Wn D G A H0 (Y ++ (L ++ [(q, .inr (ci, fs))])) s H1 locs → W p l e R s m args below meth c H1 locs (cells + 1) (slots + N) Q (F0 m (pc + 3) ls (.ref q :: rest))) : W p l e R s m args below meth c H locs cells slots Q (F0 m pc ls rest) :=
  va_new hM.1 hM.2.1 hM.2.2.2.2 hin ty hty hM.2.2.2.1 (hM.2.2.2.2 _ hcl) (hM.2.2.2.2 _ hinst) (hM.2.2.2.2 _ hini) hw.1 hw.2.1 hw.2.2.1 hw.2.2.2.1 hw.2.2.2.2 hc hfs hcells hslots hdg fun q H1 hP hD hS => by
    rw [List.append_assoc] at hP hD
    exact kk q H1 ⟨hw.1, hP, hD, hS, hw.2.2.2.2⟩
end XN
/-! a constructor's contract: of a new object at the end of any world it makes the cells of its class -/
def Pn (D : va_G) (G : GG) (W0 : va_W) (sz : Nat) (U : State) : Prop := U.heap.size = sz ∧ va_P D vwCl W0 U.heap ∧ va_K D vwCl (tysOf G) U ∧ va_D (fun _ => True) W0 ∧ SF U
def Bn (D : va_G) (G : GG) (Y : va_W) (A : Nat → Prop) (lay : List KK) (hX : PH) (u : Nat → Nat) (t : State) : Prop := va_P D vwCl (Y ++ encA u G hX 0 lay) t.heap ∧ va_K D vwCl (tysOf G) t ∧ va_D A (Y ++ encA u G hX 0 lay)
abbrev rmC (fr lo mc ms : Nat) : Room := { frames := fr, cells := mc, slots := ms, locals := lo }
def CtN (l : Launch) (y : MethodName) (cc : ByteArray) (n : Nat) (fr lo mc ms ci : Nat) (fs0 : List Value) (lay : List KK) (hX : PH) : Prop :=
  ∀ (D : va_G) (G : GG) (Y : va_W) (q sz : Nat), Met l y (.code y cc n none :: lw_g) (rmC fr lo mc ms) (va_Pc [.ref q] (Pn D G (Y ++ [(q, .inr (ci, fs0))]) sz)) (va_Qv (fun (u : Nat → Nat) => u 0 = q) (Bn D G Y (va_A (Y ++ [(q, .inr (ci, fs0))]) sz) lay hX) (va_A (Y ++ [(q, .inr (ci, fs0))]) sz)) mc ms (va_A (Y ++ [(q, .inr (ci, fs0))]) sz)
theorem ao_moved {ty : FieldType} {u U : State} (hvm : u.vm.Alike U.vm) (h : (Cond.arrayOver (.array ty)).before #[] u = true) : (Cond.arrayOver (.array ty)).before #[] U = true := by
  unfold Cond.before Cond.holds at h ⊢
  simp only [Cond.value] at h ⊢
  rw [hvm.findClass]
  cases hc : u.vm.findClass (FieldType.array ty).toString with
  | none => rw [hc] at h; exact absurd h (by simp)
  | some comp =>
    rw [hc] at h
    simp only [Option.bind_some] at h ⊢
    have hi : (U.vm.classes.findIdx? fun (x : Class) => match x.kind with | .array component _ => component == comp | _ => false) = (u.vm.classes.findIdx? fun (x : Class) => match x.kind with | .array component _ => component == comp | _ => false) := by
      have e1 := va_idx_bare (comp := comp) U.vm
      have e2 := va_idx_bare (comp := comp) u.vm
      have e3 : U.vm.bare = u.vm.bare := hvm.bare_eq
      rw [e3] at e1
      exact e1.symm.trans e2
    cases hf : (u.vm.classes.findIdx? fun (x : Class) => match x.kind with | .array component _ => component == comp | _ => false) with
    | none =>
      have h := (congrArg (fun o : Option Nat => (o.bind (fun c => (u.vm.classes[c]?).map fun (k : Class) => match k.kind with | .array _ t => decide (t = FieldType.array ty) && decide (u.vm.findClass ("[" ++ (FieldType.array ty).toString) = some c) | _ => false) == some true)) hf).symm.trans h
      exact absurd h (by simp)
    | some c =>
      have h := (congrArg (fun o : Option Nat => (o.bind (fun c => (u.vm.classes[c]?).map fun (k : Class) => match k.kind with | .array _ t => decide (t = FieldType.array ty) && decide (u.vm.findClass ("[" ++ (FieldType.array ty).toString) = some c) | _ => false) == some true)) hf).symm.trans h
      refine (congrArg (fun o : Option Nat => (o.bind (fun c => (U.vm.classes[c]?).map fun (k : Class) => match k.kind with | .array _ t => decide (t = FieldType.array ty) && decide (U.vm.findClass ("[" ++ (FieldType.array ty).toString) = some c) | _ => false) == some true)) (hi.trans hf)).trans ?_
      simp only [Option.bind_some] at h ⊢
      cases hk : u.vm.classes[c]? with
      | none => rw [hk] at h; exact absurd h (by simp)
      | some k =>
        rw [hk] at h
        obtain ⟨k', hk', he⟩ := hvm.2.2 _ _ hk
        rw [hk']
        simp only [Option.map_some] at h ⊢
        rw [he]
        simp only [hvm.findClass]
        exact h
theorem ao_same {ty : FieldType} {u U : State} (h : u.vm = U.vm) (hs : (Cond.arrayOver (.array ty)).before #[] u = true) : (Cond.arrayOver (.array ty)).before #[] U = true := ao_moved (h ▸ Vm.Alike.refl _) hs
theorem sf_same {u U : State} (h : u.vm = U.vm) (hs : SF u) : SF U := by
  obtain ⟨h1, h2, h3⟩ := hs
  refine ⟨fun w hw => ?_, ?_, ?_⟩
  · have hon : sf_words.all (fun w => w.onTables) = true := by decide
    exact va_Nw.same (List.all_eq_true.mp hon w hw) h (h1 w hw)
  · exact va_AO.moved (h ▸ Vm.Alike.refl _) h2
  · exact ao_same h h3
theorem sf_warm {s U : State} (hW : s.WarmedH U.vm) (hs : SF s) : SF U := by
  obtain ⟨h1, h2, h3⟩ := hs
  refine ⟨fun w hw => ?_, va_AO.moved hW.alike h2, ao_moved hW.alike h3⟩
  have := h1 w hw
  simp only [sf_words, List.mem_cons, List.not_mem_nil, or_false] at hw
  rcases hw with rfl | rfl | rfl | rfl | rfl | rfl | rfl | rfl | rfl | rfl <;> exact va_Nw.warmM hW this
