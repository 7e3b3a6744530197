/-! THE PURE WORLDS: ints, longs, references by place and index; a layout says which cell is at which place -/
abbrev PH : Type := (Nat → Nat → Int32) × (Nat → Nat → Int64) × (Nat → Nat → Nat)
def setI (h : PH) (p k : Nat) (v : Int32) : PH := (fun q j => if q = p then (if j = k then v else h.1 q j) else h.1 q j, h.2)
def setJ (h : PH) (p k : Nat) (v : Int64) : PH := (h.1, (fun q j => if q = p then (if j = k then v else h.2.1 q j) else h.2.1 q j), h.2.2)
def setR (h : PH) (p k v : Nat) : PH := (h.1, h.2.1, fun q j => if q = p then (if j = k then v else h.2.2 q j) else h.2.2 q j)
/-- a value by name -/
def nm {α β : Type} (e : α) (f : α → Option β) : Option β := f e
def ixOK (i : Int32) (n : Nat) : Bool := !(decide (i < 0) || decide (n ≤ i.toNatClampNeg))
def zOK (v : Int32) : Bool := decide (v = 0) || decide (v = 1)
def jushr (x y : Int32) : Int32 := (x.toUInt32 >>> (y.toUInt32 &&& Int32.toUInt32 31)).toInt32
def jrem (x y : Int32) : Int32 := x - x / y * y
def jcmpL (x y : Int64) : Int32 := if x < y then -1 else if x = y then 0 else 1
/-- reads only -/
def rd {α : Type} (f : PH → Option α) : PH → Option (α × PH) := fun h => (f h).map fun v => (v, h)
theorem ixOK_in {i : Int32} {n : Nat} (h : ixOK i n = true) : vp_in i n := by
  intro q
  rcases q with q | q <;> simp [ixOK, q] at h
abbrev GG : Type := ClassId × ClassId × ClassId × ClassId × ClassId × ClassId
abbrev KK : Type := (Nat → Nat) → GG → (Nat → Int32) → (Nat → Int64) → (Nat → Nat) → Nat → va_E
abbrev kB (n : Nat) : KK := fun _ G i _ _ _ => .inl (G.1, n, .inl i)
abbrev kI (n : Nat) : KK := fun _ G i _ _ _ => .inl (G.2.1, n, .inl i)
abbrev kJ (n : Nat) : KK := fun _ G _ j _ _ => .inl (G.2.2.1, n, .inr (.inl j))
abbrev kZ (n : Nat) : KK := fun _ G i _ _ _ => .inl (G.2.2.2.1, n, .inl i)
abbrev kS (n : Nat) : KK := fun ad G _ _ _ p => .inl (G.2.2.2.2.1, n, .inr (.inr (.inr (.inr (fun x => if x < n then some (ad (p + 1 + 3 * x)) else none)))))
abbrev kII (n : Nat) : KK := fun ad G _ _ _ p => .inl (G.2.2.2.2.2, n, .inr (.inr (.inr (.inr (fun x => if x < n then some (ad (p + 1 + x)) else none)))))
abbrev tysOf (G : GG) : List (ClassId × FieldType) := [(G.1, .byte), (G.2.1, .int), (G.2.2.1, .long), (G.2.2.2.1, .boolean), (G.2.2.2.2.1, .object "ExcuseMarket$State"), (G.2.2.2.2.2, .array .int)]
def encA (ad : Nat → Nat) (G : GG) (h : PH) : Nat → List KK → va_W
  | _, [] => []
  | p, k :: ks => (ad p, k ad G (h.1 p) (h.2.1 p) (h.2.2 p) p) :: encA ad G h (p + 1) ks
theorem encA_len {ad : Nat → Nat} {G : GG} {h : PH} : ∀ (ks : List KK) (b : Nat), (encA ad G h b ks).length = ks.length
  | [], _ => rfl
  | _ :: ks, b => by simp [encA, encA_len ks (b + 1)]
theorem encA_get {ad : Nat → Nat} {G : GG} {h : PH} : ∀ (ks : List KK) (b i : Nat) {k : KK}, ks[i]? = some k → (encA ad G h b ks)[i]? = some (ad (b + i), k ad G (h.1 (b + i)) (h.2.1 (b + i)) (h.2.2 (b + i)) (b + i))
  | [], _, _, _, hk => by simp at hk
  | k0 :: ks, b, 0, k, hk => by
    have e : k0 = k := by simpa using hk
    subst e
    simp [encA]
  | k0 :: ks, b, i + 1, k, hk => by
    have hk' : ks[i]? = some k := by simpa using hk
    have h1 := encA_get (ad := ad) (G := G) (h := h) ks (b + 1) i hk'
    rw [show b + 1 + i = b + (i + 1) by omega] at h1
    simpa [encA] using h1
theorem encA_congr {ad : Nat → Nat} {G : GG} {h h' : PH} : ∀ (ks : List KK) (b : Nat), (∀ q, b ≤ q → h'.1 q = h.1 q ∧ h'.2.1 q = h.2.1 q ∧ h'.2.2 q = h.2.2 q) → encA ad G h b ks = encA ad G h' b ks
  | [], _, _ => rfl
  | k :: ks, b, hq => by
    obtain ⟨e1, e2, e3⟩ := hq b (Nat.le_refl b)
    simp only [encA, e1, e2, e3]
    rw [encA_congr ks (b + 1) (fun q hb => hq q (by omega))]
theorem encA_set {ad : Nat → Nat} {G : GG} {h h' : PH} : ∀ (ks : List KK) (b i : Nat) {k : KK}, ks[i]? = some k → (∀ q, q ≠ b + i → h'.1 q = h.1 q ∧ h'.2.1 q = h.2.1 q ∧ h'.2.2 q = h.2.2 q) → (encA ad G h b ks).set i (ad (b + i), k ad G (h'.1 (b + i)) (h'.2.1 (b + i)) (h'.2.2 (b + i)) (b + i)) = encA ad G h' b ks
  | [], _, _, _, hk, _ => by simp at hk
  | k0 :: ks, b, 0, k, hk, hq => by
    have e : k0 = k := by simpa using hk
    subst e
    simp only [encA, List.set_cons_zero, Nat.add_zero]
    rw [encA_congr (h := h) (h' := h') ks (b + 1) (fun q hb => hq q (by omega))]
  | k0 :: ks, b, i + 1, k, hk, hq => by
    have hk' : ks[i]? = some k := by simpa using hk
    obtain ⟨e1, e2, e3⟩ := hq b (by omega)
    have h1 := encA_set (ad := ad) (G := G) (h := h) (h' := h') ks (b + 1) i hk' (fun q hb => hq q (by omega))
    rw [show b + 1 + i = b + (i + 1) by omega] at h1
    simp only [encA, List.set_cons_succ, h1, e1, e2, e3]
theorem enc_at {ad : Nat → Nat} {G : GG} {h : PH} {lay : List KK} {X : va_W} {p0 : Nat} {K : KK} {e : va_E} (hk : lay[p0]? = some K) (he : K ad G (h.1 p0) (h.2.1 p0) (h.2.2 p0) p0 = e) : (encA ad G h 0 lay ++ X)[p0]? = some (ad p0, e) := by
  have hl : p0 < lay.length := (List.getElem?_eq_some_iff.mp hk).1
  rw [List.getElem?_append_left (by rw [encA_len]; exact hl)]
  have h1 := encA_get (ad := ad) (G := G) (h := h) lay 0 p0 hk
  rw [Nat.zero_add] at h1
  rw [h1, he]
theorem enc_set {ad : Nat → Nat} {G : GG} {h h' : PH} {lay : List KK} {X : va_W} {p0 : Nat} {K : KK} {e : va_E} (hk : lay[p0]? = some K) (he : K ad G (h'.1 p0) (h'.2.1 p0) (h'.2.2 p0) p0 = e) (hq : ∀ q, q ≠ p0 → h'.1 q = h.1 q ∧ h'.2.1 q = h.2.1 q ∧ h'.2.2 q = h.2.2 q) : (encA ad G h 0 lay ++ X).set p0 (ad p0, e) = encA ad G h' 0 lay ++ X := by
  have hl : p0 < lay.length := (List.getElem?_eq_some_iff.mp hk).1
  rw [List.set_append_left _ _ (by rw [encA_len]; exact hl)]
  have h1 := encA_set (ad := ad) (G := G) (h := h) (h' := h') lay 0 p0 hk (fun q hb => hq q (by omega))
  rw [Nat.zero_add] at h1
  rw [← he, h1]
theorem setI_other {h : PH} {p k : Nat} {v : Int32} (q : Nat) (hq : q ≠ p) : (setI h p k v).1 q = h.1 q ∧ (setI h p k v).2.1 q = h.2.1 q ∧ (setI h p k v).2.2 q = h.2.2 q := by
  refine ⟨?_, rfl, rfl⟩
  funext j
  simp [setI, hq]
theorem setJ_other {h : PH} {p k : Nat} {v : Int64} (q : Nat) (hq : q ≠ p) : (setJ h p k v).1 q = h.1 q ∧ (setJ h p k v).2.1 q = h.2.1 q ∧ (setJ h p k v).2.2 q = h.2.2 q := by
  refine ⟨rfl, ?_, rfl⟩
  funext j
  simp [setJ, hq]
theorem setR_other {h : PH} {p k v : Nat} (q : Nat) (hq : q ≠ p) : (setR h p k v).1 q = h.1 q ∧ (setR h p k v).2.1 q = h.2.1 q ∧ (setR h p k v).2.2 q = h.2.2 q := by
  refine ⟨rfl, rfl, ?_⟩
  funext j
  simp [setR, hq]
theorem setI_at {h : PH} {p k : Nat} {v : Int32} : (setI h p k v).1 p = upd (h.1 p) k v := by
  funext j
  simp [setI, upd]
theorem setJ_at {h : PH} {p k : Nat} {v : Int64} : (setJ h p k v).2.1 p = vp_updL (h.2.1 p) k v := by
  funext j
  simp [setJ, vp_updL]
theorem setR_at {h : PH} {p k v : Nat} : (setR h p k v).2.2 p = fun j => if j = k then v else h.2.2 p j := by
  funext j
  simp [setR]
def Wd (D : va_G) (G : GG) (A : Nat → Prop) (H0 : Heap) (ad : Nat → Nat) (lay : List KK) (X : va_W) (h : PH) (s : State) (H : Heap) (locs : List Loc) : Prop :=
  va_K D vwCl (tysOf G) s ∧ va_P D vwCl (encA ad G h 0 lay ++ X) H ∧ va_D A (encA ad G h 0 lay ++ X) ∧ va_S A H0 H locs ∧ ∀ q : Nat, H0.size ≤ q → A q
def Pw (D : va_G) (G : GG) (ad : Nat → Nat) (lay : List KK) (X : va_W) (h : PH) (sz : Nat) (U : State) : Prop := U.heap.size = sz ∧ va_P D vwCl (encA ad G h 0 lay ++ X) U.heap ∧ va_K D vwCl (tysOf G) U ∧ va_D (fun _ => True) (encA ad G h 0 lay ++ X)
def Bw (D : va_G) (G : GG) (ad : Nat → Nat) (lay : List KK) (X : va_W) (sz : Nat) (h0 h : PH) (t : State) : Prop := va_P D vwCl (encA ad G h 0 lay ++ X) t.heap ∧ va_K D vwCl (tysOf G) t ∧ va_D (va_A (encA ad G h0 0 lay ++ X) sz) (encA ad G h 0 lay ++ X)
abbrev rmN (fr lo : Nat) : Room := { frames := fr, cells := 0, slots := 0, locals := lo }
def CtI (l : Launch) (y : MethodName) (cc : ByteArray) (n : Nat) (ret : Option FieldType) (fr lo : Nat) (lay : List KK) (F : PH → Option (Int32 × PH)) (as : (Nat → Nat) → List Value) : Prop :=
  ∀ (D : va_G) (G : GG) (ad : Nat → Nat) (X : va_W) (h : PH) (r : Int32 × PH) (sz : Nat), F h = some r → Met l y (.code y cc n ret :: lw_g) (rmN fr lo) (va_Pc (as ad) (Pw D G ad lay X h sz)) (va_Qi (fun (v : Int32) (h' : PH) => (v, h') = r) (Bw D G ad lay X sz h) (va_A (encA ad G h 0 lay ++ X) sz)) 0 0 (va_A (encA ad G h 0 lay ++ X) sz)
def CtL (l : Launch) (y : MethodName) (cc : ByteArray) (n : Nat) (ret : Option FieldType) (fr lo : Nat) (lay : List KK) (F : PH → Option (Int64 × PH)) (as : (Nat → Nat) → List Value) : Prop :=
  ∀ (D : va_G) (G : GG) (ad : Nat → Nat) (X : va_W) (h : PH) (r : Int64 × PH) (sz : Nat), F h = some r → Met l y (.code y cc n ret :: lw_g) (rmN fr lo) (va_Pc (as ad) (Pw D G ad lay X h sz)) (va_Ql (fun (v : Int64) (h' : PH) => (v, h') = r) (Bw D G ad lay X sz h) (va_A (encA ad G h 0 lay ++ X) sz)) 0 0 (va_A (encA ad G h 0 lay ++ X) sz)
def CtV (l : Launch) (y : MethodName) (cc : ByteArray) (n : Nat) (ret : Option FieldType) (fr lo : Nat) (lay : List KK) (F : PH → Option PH) (as : (Nat → Nat) → List Value) : Prop :=
  ∀ (D : va_G) (G : GG) (ad : Nat → Nat) (X : va_W) (h : PH) (r : PH) (sz : Nat), F h = some r → Met l y (.code y cc n ret :: lw_g) (rmN fr lo) (va_Pc (as ad) (Pw D G ad lay X h sz)) (va_Qv (fun (h' : PH) => h' = r) (Bw D G ad lay X sz h) (va_A (encA ad G h 0 lay ++ X) sz)) 0 0 (va_A (encA ad G h 0 lay ++ X) sz)
theorem gi_g : GoodIn lw_g lw_g := fun w h => ⟨h, good_of_word (lw_g_good w h)⟩
theorem gi_c {w : Cond} {ws : List Cond} (h : w ∈ lw_g) (t : GoodIn lw_g ws) : GoodIn lw_g (w :: ws) := fun v hv => by
  rcases List.mem_cons.mp hv with e | e
  · subst e
    exact ⟨h, good_of_word (lw_g_good _ h)⟩
  · exact t v e
theorem gi_V {own C : String} {idx n : Nat} {y : MethodName} {b : ByteArray} {ret : Option FieldType} (h1 : Cond.methodLink own idx y ∈ lw_g) (h2 : Cond.instanceMethod y ∈ lw_g) (h3 : Cond.selects C y y ∈ lw_g) (h4 : Cond.initialized C ∈ lw_g) (h5 : Cond.code y b n ret ∈ lw_g) : GoodIn lw_g (wsV own idx C y (.code y b n ret :: lw_g)) := gi_c h1 (gi_c h2 (gi_c h3 (gi_c h4 (gi_c h5 gi_g))))
theorem gi_S {own : String} {idx n : Nat} {y : MethodName} {b : ByteArray} {ret : Option FieldType} (h1 : Cond.methodLink own idx y ∈ lw_g) (h2 : Cond.static y ∈ lw_g) (h4 : Cond.initialized y.cls ∈ lw_g) (h5 : Cond.code y b n ret ∈ lw_g) : GoodIn lw_g (va_wsS own idx y (.code y b n ret :: lw_g)) := gi_c h1 (gi_c h2 (gi_c h4 (gi_c h5 gi_g)))
theorem pw_blind {D : va_G} {G : GG} {ad : Nat → Nat} {lay : List KK} {X : va_W} {h : PH} {sz : Nat} {as : List Value} : FrameBlind (va_Pc as (Pw D G ad lay X h sz)) := fun a U g mk q => by
  obtain ⟨q0, q1, qP, qK, qD⟩ := q
  exact ⟨q0, q1, qP, va_K.moved (u := U) (U := U.calling g mk a) (Vm.Alike.refl U.vm) qK, qD⟩
section XB
variable {cells slots : Nat}
variable {p : Program} {l : Launch} {e : Env} {R : Room} {s : State} {m : MethodId} {args : Array Value} {below : List Frame} {meth : Method} {c : Code} {H : Heap} {locs : List Loc} {Q : State → Prop}
variable {cc : ByteArray} {nL pc : Nat} {own : String} {ls : Array Slot} {rest : List Value} {D : va_G} {G : GG} {A : Nat → Prop} {H0 : Heap} {ad : Nat → Nat} {lay : List KK} {X : va_W} {h : PH} {α : Type} {r0 : α}
/-- fields -/
theorem x_get (hM : CallFix p m c cc nL s args lw_g own) (hw : Wd D G A H0 ad lay X h s H locs) {ref C : String} {T : u_T} {N ci idx k : Nat} {fs : List Value} {v : Value} {p0 : Nat} {K : KK} (hk : lay[p0]? = some K) (hfs : K ad G (h.1 p0) (h.2.1 p0) (h.2.2 p0) p0 = .inr (ci, fs)) (hc : vwCl[ci]? = some (C, T, N)) (hin : ∀ w ∈ u_ws C T N, w ∈ lw_g) (hkN : k < N) (href : (T k).1 = ref) (hlink : Cond.fieldLink own idx ref (T k).2.1 (T k).2.2.1 ∈ lw_g) (hv : fs[k]? = some v) (hdg : decode cc pc = .ok (.getfield idx, 3)) (kk : W p l e R s m args below meth c H locs cells slots Q (F0 m (pc + 3) ls (v :: rest))) : W p l e R s m args below meth c H locs cells slots Q (F0 m pc ls (.ref (ad p0) :: rest)) :=
  va_get hM.1 hM.2.1 hM.2.2.2.2 hin hM.2.2.2.1 hw.1 hw.2.1 p0 (enc_at hk hfs) hc k hkN (hM.2.2.2.2 _ hlink) (by subst href; exact fun _ h => h) hv hdg kk
theorem x_put (hM : CallFix p m c cc nL s args lw_g own) (hw : Wd D G A H0 ad lay X h s H locs) {h' : PH} {ref C : String} {T : u_T} {N ci idx k : Nat} {fs : List Value} {v : Value} {p0 : Nat} {K : KK} (hk : lay[p0]? = some K) (hfs : K ad G (h.1 p0) (h.2.1 p0) (h.2.2 p0) p0 = .inr (ci, fs)) (hfs' : K ad G (h'.1 p0) (h'.2.1 p0) (h'.2.2 p0) p0 = .inr (ci, fs.set k v)) (hq : ∀ q, q ≠ p0 → h'.1 q = h.1 q ∧ h'.2.1 q = h.2.1 q ∧ h'.2.2 q = h.2.2 q) (hc : vwCl[ci]? = some (C, T, N)) (hin : ∀ w ∈ u_ws C T N, w ∈ lw_g) {ty0 : Nat → FieldType} (hty : ∀ k, k < N → parseFieldDescriptor (T k).2.2.1 = some (ty0 k)) (hnm : ∀ a, a < N → ∀ b, b < N → a ≠ b → (T a).2.1 ≠ (T b).2.1) (hkN : k < N) (href : (T k).1 = ref) (hfin : (T k).2.2.2 = false) (hlink : Cond.fieldLink own idx ref (T k).2.1 (T k).2.2.1 ∈ lw_g) (hn : narrow (ty0 k) v = v) (hfit : fits (ty0 k) v = true) (hl : k < fs.length) (hdg : decode cc pc = .ok (.putfield idx, 3)) (kk : ∀ (H1 : Heap) (locs1 : List Loc), Wd D G A H0 ad lay X h' s H1 locs1 → W p l e R s m args below meth c H1 locs1 cells slots Q (F0 m (pc + 3) ls rest)) : W p l e R s m args below meth c H locs cells slots Q (F0 m pc ls (v :: .ref (ad p0) :: rest)) :=
  va_put hM.1 hM.2.1 hM.2.2.2.2 hin ty0 hty hnm hM.2.2.2.1 hw.1 hw.2.1 hw.2.2.1 hw.2.2.2.1 p0 (enc_at hk hfs) hc k hkN (hM.2.2.2.2 _ hlink) (by subst href; exact fun _ h => h) hfin (hty k hkN) hn hfit hl hdg fun H1 locs1 hP hD hS => by
    have e := enc_set (X := X) (ad := ad) (G := G) (h := h) (h' := h') hk hfs' hq
    rw [e] at hP hD
    exact kk H1 locs1 ⟨hw.1, hP, hD, hS, hw.2.2.2.2⟩

theorem x_iald (hM : CallFix p m c cc nL s args lw_g own) (hw : Wd D G A H0 ad lay X h s H locs) {p0 n : Nat} (hk : lay[p0]? = some (kI n)) {i : Int32} {B : Option α} (hf : (if ixOK i n = true then B else none) = some r0) (hdg : decode cc pc = .ok (.iaload, 1)) (kk : B = some r0 → W p l e R s m args below meth c H locs cells slots Q (F0 m (pc + 1) ls (.int (h.1 p0 i.toNatClampNeg) :: rest))) : W p l e R s m args below meth c H locs cells slots Q (F0 m pc ls (.int i :: .ref (ad p0) :: rest)) := by
  by_cases hi : ixOK i n = true
  · rw [if_pos hi] at hf
    exact va_iald hM.1 hM.2.1 hw.1 hw.2.1 p0 1 (enc_at hk rfl) rfl (ixOK_in hi) hdg (kk hf)
  · rw [if_neg hi] at hf
    cases hf
theorem x_bald (hM : CallFix p m c cc nL s args lw_g own) (hw : Wd D G A H0 ad lay X h s H locs) {p0 n : Nat} (hk : lay[p0]? = some (kB n)) {i : Int32} {B : Option α} (hf : (if ixOK i n = true then B else none) = some r0) (hdg : decode cc pc = .ok (.baload, 1)) (kk : B = some r0 → W p l e R s m args below meth c H locs cells slots Q (F0 m (pc + 1) ls (.int (h.1 p0 i.toNatClampNeg) :: rest))) : W p l e R s m args below meth c H locs cells slots Q (F0 m pc ls (.int i :: .ref (ad p0) :: rest)) := by
  by_cases hi : ixOK i n = true
  · rw [if_pos hi] at hf
    exact va_bald hM.1 hM.2.1 hw.1 hw.2.1 p0 0 (enc_at hk rfl) rfl (ixOK_in hi) hdg (kk hf)
  · rw [if_neg hi] at hf
    cases hf
theorem x_zald (hM : CallFix p m c cc nL s args lw_g own) (hw : Wd D G A H0 ad lay X h s H locs) {p0 n : Nat} (hk : lay[p0]? = some (kZ n)) {i : Int32} {B : Option α} (hf : (if ixOK i n = true then B else none) = some r0) (hdg : decode cc pc = .ok (.baload, 1)) (kk : B = some r0 → W p l e R s m args below meth c H locs cells slots Q (F0 m (pc + 1) ls (.int (h.1 p0 i.toNatClampNeg) :: rest))) : W p l e R s m args below meth c H locs cells slots Q (F0 m pc ls (.int i :: .ref (ad p0) :: rest)) := by
  by_cases hi : ixOK i n = true
  · rw [if_pos hi] at hf
    exact va_zald hM.1 hM.2.1 hw.1 hw.2.1 p0 3 (enc_at hk rfl) rfl (ixOK_in hi) hdg (kk hf)
  · rw [if_neg hi] at hf
    cases hf
theorem x_lald (hM : CallFix p m c cc nL s args lw_g own) (hw : Wd D G A H0 ad lay X h s H locs) {p0 n : Nat} (hk : lay[p0]? = some (kJ n)) {i : Int32} {B : Option α} (hf : (if ixOK i n = true then B else none) = some r0) (hdg : decode cc pc = .ok (.laload, 1)) (kk : B = some r0 → W p l e R s m args below meth c H locs cells slots Q (F0 m (pc + 1) ls (.long (h.2.1 p0 i.toNatClampNeg) :: rest))) : W p l e R s m args below meth c H locs cells slots Q (F0 m pc ls (.int i :: .ref (ad p0) :: rest)) := by
  by_cases hi : ixOK i n = true
  · rw [if_pos hi] at hf
    exact va_lald hM.1 hM.2.1 hw.1 hw.2.1 p0 2 (enc_at hk rfl) rfl (ixOK_in hi) hdg (kk hf)
  · rw [if_neg hi] at hf
    cases hf
theorem x_aaldS (hM : CallFix p m c cc nL s args lw_g own) (hw : Wd D G A H0 ad lay X h s H locs) {p0 n : Nat} (hk : lay[p0]? = some (kS n)) {i : Int32} {B : Option α} (hf : (if ixOK i n = true then B else none) = some r0) (hdg : decode cc pc = .ok (.aaload, 1)) (kk : vp_in i n → B = some r0 → W p l e R s m args below meth c H locs cells slots Q (F0 m (pc + 1) ls (.ref (ad (p0 + 1 + 3 * i.toNatClampNeg)) :: rest))) : W p l e R s m args below meth c H locs cells slots Q (F0 m pc ls (.int i :: .ref (ad p0) :: rest)) := by
  by_cases hi : ixOK i n = true
  · rw [if_pos hi] at hf
    have hlt : i.toNatClampNeg < n := Nat.not_le.mp fun q => ixOK_in hi (Or.inr q)
    refine va_aldq hM.1 hM.2.1 hw.1 hw.2.1 p0 4 (enc_at hk rfl) rfl (ixOK_in hi) hdg ?_
    have e9 : (if i.toNatClampNeg < n then some (ad (p0 + 1 + 3 * i.toNatClampNeg)) else none) = some (ad (p0 + 1 + 3 * i.toNatClampNeg)) := if_pos hlt
    show W p l e R s m args below meth c H locs cells slots Q (F0 m (pc + 1) ls (va_rf (if i.toNatClampNeg < n then some (ad (p0 + 1 + 3 * i.toNatClampNeg)) else none) :: rest))
    rw [e9]
    exact kk (ixOK_in hi) hf
  · rw [if_neg hi] at hf
    cases hf
theorem x_alen (hM : CallFix p m c cc nL s args lw_g own) (hw : Wd D G A H0 ad lay X h s H locs) {p0 n : Nat} (hk : lay[p0]? = some (kI n)) {v : Int32} (hv : Int32.ofNat n = v) (hdg : decode cc pc = .ok (.arraylength, 1)) (kk : W p l e R s m args below meth c H locs cells slots Q (F0 m (pc + 1) ls (.int v :: rest))) : W p l e R s m args below meth c H locs cells slots Q (F0 m pc ls (.ref (ad p0) :: rest)) :=
  va_alen hM.1 hM.2.1 hw.1 hw.2.1 p0 1 (enc_at hk rfl) rfl hv hdg kk
theorem x_aaldI (hM : CallFix p m c cc nL s args lw_g own) (hw : Wd D G A H0 ad lay X h s H locs) {p0 n : Nat} (hk : lay[p0]? = some (kII n)) {i : Int32} {B : Option α} (hf : (if ixOK i n = true then B else none) = some r0) (hdg : decode cc pc = .ok (.aaload, 1)) (kk : vp_in i n → B = some r0 → W p l e R s m args below meth c H locs cells slots Q (F0 m (pc + 1) ls (.ref (ad (p0 + 1 + i.toNatClampNeg)) :: rest))) : W p l e R s m args below meth c H locs cells slots Q (F0 m pc ls (.int i :: .ref (ad p0) :: rest)) := by
  by_cases hi : ixOK i n = true
  · rw [if_pos hi] at hf
    have hin := ixOK_in hi
    have hlt : i.toNatClampNeg < n := Nat.not_le.mp fun q => hin (Or.inr q)
    exact W.aald (v := va_rf (some (ad (p0 + 1 + i.toNatClampNeg)))) (ty := .array .int) hM.1 hM.2.1 (hw.2.1 p0 _ (enc_at hk rfl)) ((hw.1.2 5 _ rfl).1 n (fun j => va_rf (if j < n then some (ad (p0 + 1 + j)) else none))) rfl (fun q => by cases q) (by show ¬ (i < 0 ∨ (arrV _ _ _).slots.size ≤ _); rw [arrV_size]; exact hin) (by show (arrV _ _ _).slots[_]? = _; rw [arrV_read _ _ hlt]; exact congrArg (fun z => some (va_rf z)) (if_pos hlt)) rfl rfl hdg (kk hin hf)
  · rw [if_neg hi] at hf
    cases hf
theorem x_iast (hM : CallFix p m c cc nL s args lw_g own) (hw : Wd D G A H0 ad lay X h s H locs) {p0 n : Nat} (hk : lay[p0]? = some (kI n)) {i x : Int32} {B : PH → Option α} (hf : (if ixOK i n = true then nm (setI h p0 i.toNatClampNeg x) B else none) = some r0) (hdg : decode cc pc = .ok (.iastore, 1)) (kk : ∀ (h' : PH) (H1 : Heap) (locs1 : List Loc), B h' = some r0 → Wd D G A H0 ad lay X h' s H1 locs1 → W p l e R s m args below meth c H1 locs1 cells slots Q (F0 m (pc + 1) ls rest)) : W p l e R s m args below meth c H locs cells slots Q (F0 m pc ls (.int x :: .int i :: .ref (ad p0) :: rest)) := by
  by_cases hi : ixOK i n = true
  · rw [if_pos hi] at hf
    refine va_iast hM.1 hM.2.1 hw.1 hw.2.1 hw.2.2.1 hw.2.2.2.1 p0 1 (enc_at hk rfl) rfl (ixOK_in hi) hdg fun H1 locs1 hP hD hS => ?_
    have e := enc_set (X := X) (ad := ad) (G := G) (h := h) (h' := setI h p0 i.toNatClampNeg x) hk (e := .inl (_, n, .inl (upd (h.1 p0) i.toNatClampNeg x))) (by rw [setI_at]) setI_other
    rw [e] at hP hD
    exact kk _ H1 locs1 hf ⟨hw.1, hP, hD, hS, hw.2.2.2.2⟩
  · rw [if_neg hi] at hf
    cases hf
theorem x_bast (hM : CallFix p m c cc nL s args lw_g own) (hw : Wd D G A H0 ad lay X h s H locs) {p0 n : Nat} (hk : lay[p0]? = some (kB n)) {i x : Int32} {B : PH → Option α} (hf : (if ixOK i n = true then nm (setI h p0 i.toNatClampNeg (vp_nar .byte x)) B else none) = some r0) (hdg : decode cc pc = .ok (.bastore, 1)) (kk : ∀ (h' : PH) (H1 : Heap) (locs1 : List Loc), B h' = some r0 → Wd D G A H0 ad lay X h' s H1 locs1 → W p l e R s m args below meth c H1 locs1 cells slots Q (F0 m (pc + 1) ls rest)) : W p l e R s m args below meth c H locs cells slots Q (F0 m pc ls (.int x :: .int i :: .ref (ad p0) :: rest)) := by
  by_cases hi : ixOK i n = true
  · rw [if_pos hi] at hf
    refine va_bast hM.1 hM.2.1 hw.1 hw.2.1 hw.2.2.1 hw.2.2.2.1 p0 0 (enc_at hk rfl) rfl (ixOK_in hi) hdg fun H1 locs1 hP hD hS => ?_
    have e := enc_set (X := X) (ad := ad) (G := G) (h := h) (h' := setI h p0 i.toNatClampNeg (vp_nar .byte x)) hk (e := .inl (_, n, .inl (upd (h.1 p0) i.toNatClampNeg (vp_nar .byte x)))) (by rw [setI_at]) setI_other
    rw [e] at hP hD
    exact kk _ H1 locs1 hf ⟨hw.1, hP, hD, hS, hw.2.2.2.2⟩
  · rw [if_neg hi] at hf
    cases hf
theorem x_zast (hM : CallFix p m c cc nL s args lw_g own) (hw : Wd D G A H0 ad lay X h s H locs) {p0 n : Nat} (hk : lay[p0]? = some (kZ n)) {i x : Int32} {B : PH → Option α} (hf : (if ixOK i n = true then nm (setI h p0 i.toNatClampNeg (vp_nar .boolean x)) B else none) = some r0) (hdg : decode cc pc = .ok (.bastore, 1)) (kk : ∀ (h' : PH) (H1 : Heap) (locs1 : List Loc), B h' = some r0 → Wd D G A H0 ad lay X h' s H1 locs1 → W p l e R s m args below meth c H1 locs1 cells slots Q (F0 m (pc + 1) ls rest)) : W p l e R s m args below meth c H locs cells slots Q (F0 m pc ls (.int x :: .int i :: .ref (ad p0) :: rest)) := by
  by_cases hi : ixOK i n = true
  · rw [if_pos hi] at hf
    refine va_zast hM.1 hM.2.1 hw.1 hw.2.1 hw.2.2.1 hw.2.2.2.1 p0 3 (enc_at hk rfl) rfl (ixOK_in hi) hdg fun H1 locs1 hP hD hS => ?_
    have e := enc_set (X := X) (ad := ad) (G := G) (h := h) (h' := setI h p0 i.toNatClampNeg (vp_nar .boolean x)) hk (e := .inl (_, n, .inl (upd (h.1 p0) i.toNatClampNeg (vp_nar .boolean x)))) (by rw [setI_at]) setI_other
    rw [e] at hP hD
    exact kk _ H1 locs1 hf ⟨hw.1, hP, hD, hS, hw.2.2.2.2⟩
  · rw [if_neg hi] at hf
    cases hf
theorem x_last (hM : CallFix p m c cc nL s args lw_g own) (hw : Wd D G A H0 ad lay X h s H locs) {p0 n : Nat} (hk : lay[p0]? = some (kJ n)) {i : Int32} {x : Int64} {B : PH → Option α} (hf : (if ixOK i n = true then nm (setJ h p0 i.toNatClampNeg x) B else none) = some r0) (hdg : decode cc pc = .ok (.lastore, 1)) (kk : ∀ (h' : PH) (H1 : Heap) (locs1 : List Loc), B h' = some r0 → Wd D G A H0 ad lay X h' s H1 locs1 → W p l e R s m args below meth c H1 locs1 cells slots Q (F0 m (pc + 1) ls rest)) : W p l e R s m args below meth c H locs cells slots Q (F0 m pc ls (.long x :: .int i :: .ref (ad p0) :: rest)) := by
  by_cases hi : ixOK i n = true
  · rw [if_pos hi] at hf
    refine va_last hM.1 hM.2.1 hw.1 hw.2.1 hw.2.2.1 hw.2.2.2.1 p0 2 (enc_at hk rfl) rfl (ixOK_in hi) hdg fun H1 locs1 hP hD hS => ?_
    have e := enc_set (X := X) (ad := ad) (G := G) (h := h) (h' := setJ h p0 i.toNatClampNeg x) hk (e := .inl (_, n, .inr (.inl (vp_updL (h.2.1 p0) i.toNatClampNeg x)))) (by rw [setJ_at]) setJ_other
    rw [e] at hP hD
    exact kk _ H1 locs1 hf ⟨hw.1, hP, hD, hS, hw.2.2.2.2⟩
  · rw [if_neg hi] at hf
    cases hf
theorem x_if_eq (hM : CallFix p m c cc nL s args lw_g own) {B1 B2 : Option α} {x : Int32} {off : Int} {tgt : Nat} (hf : (if x = 0 then B1 else B2) = some r0) (hdg : decode cc pc = .ok (.ifCond .eq off, 3)) (ht : (pc : Int) + off = (tgt : Int)) (k1 : B1 = some r0 → W p l e R s m args below meth c H locs cells slots Q (F0 m tgt ls rest)) (k2 : B2 = some r0 → W p l e R s m args below meth c H locs cells slots Q (F0 m (pc + 3) ls rest)) : W p l e R s m args below meth c H locs cells slots Q (F0 m pc ls (.int x :: rest)) :=
  lv_if_eq hM.1 hM.2.1 hdg ht (fun q => k1 (by rw [if_pos q] at hf; exact hf)) (fun q => k2 (by rw [if_neg q] at hf; exact hf))
theorem x_ic_eq (hM : CallFix p m c cc nL s args lw_g own) {B1 B2 : Option α} {x y : Int32} {off : Int} {tgt : Nat} (hf : (if x = y then B1 else B2) = some r0) (hdg : decode cc pc = .ok (.if_icmp .eq off, 3)) (ht : (pc : Int) + off = (tgt : Int)) (k1 : B1 = some r0 → W p l e R s m args below meth c H locs cells slots Q (F0 m tgt ls rest)) (k2 : B2 = some r0 → W p l e R s m args below meth c H locs cells slots Q (F0 m (pc + 3) ls rest)) : W p l e R s m args below meth c H locs cells slots Q (F0 m pc ls (.int y :: .int x :: rest)) :=
  lv_icmp_eq hM.1 hM.2.1 hdg ht (fun q => k1 (by rw [if_pos q] at hf; exact hf)) (fun q => k2 (by rw [if_neg q] at hf; exact hf))
theorem x_if_ne (hM : CallFix p m c cc nL s args lw_g own) {B1 B2 : Option α} {x : Int32} {off : Int} {tgt : Nat} (hf : (if x = 0 then B2 else B1) = some r0) (hdg : decode cc pc = .ok (.ifCond .ne off, 3)) (ht : (pc : Int) + off = (tgt : Int)) (k1 : B1 = some r0 → W p l e R s m args below meth c H locs cells slots Q (F0 m tgt ls rest)) (k2 : B2 = some r0 → W p l e R s m args below meth c H locs cells slots Q (F0 m (pc + 3) ls rest)) : W p l e R s m args below meth c H locs cells slots Q (F0 m pc ls (.int x :: rest)) :=
  lv_if_ne hM.1 hM.2.1 hdg ht (fun q => k1 (by rw [if_neg q] at hf; exact hf)) (fun q => k2 (by rw [if_pos q] at hf; exact hf))
theorem x_ic_ne (hM : CallFix p m c cc nL s args lw_g own) {B1 B2 : Option α} {x y : Int32} {off : Int} {tgt : Nat} (hf : (if x = y then B2 else B1) = some r0) (hdg : decode cc pc = .ok (.if_icmp .ne off, 3)) (ht : (pc : Int) + off = (tgt : Int)) (k1 : B1 = some r0 → W p l e R s m args below meth c H locs cells slots Q (F0 m tgt ls rest)) (k2 : B2 = some r0 → W p l e R s m args below meth c H locs cells slots Q (F0 m (pc + 3) ls rest)) : W p l e R s m args below meth c H locs cells slots Q (F0 m pc ls (.int y :: .int x :: rest)) :=
  lv_icmp_ne hM.1 hM.2.1 hdg ht (fun q => k1 (by rw [if_neg q] at hf; exact hf)) (fun q => k2 (by rw [if_pos q] at hf; exact hf))
theorem x_if_lt (hM : CallFix p m c cc nL s args lw_g own) {B1 B2 : Option α} {x : Int32} {off : Int} {tgt : Nat} (hf : (if x < 0 then B1 else B2) = some r0) (hdg : decode cc pc = .ok (.ifCond .lt off, 3)) (ht : (pc : Int) + off = (tgt : Int)) (k1 : B1 = some r0 → W p l e R s m args below meth c H locs cells slots Q (F0 m tgt ls rest)) (k2 : B2 = some r0 → W p l e R s m args below meth c H locs cells slots Q (F0 m (pc + 3) ls rest)) : W p l e R s m args below meth c H locs cells slots Q (F0 m pc ls (.int x :: rest)) :=
  lv_if_lt hM.1 hM.2.1 hdg ht (fun q => k1 (by rw [if_pos q] at hf; exact hf)) (fun q => k2 (by rw [if_neg q] at hf; exact hf))
theorem x_ic_lt (hM : CallFix p m c cc nL s args lw_g own) {B1 B2 : Option α} {x y : Int32} {off : Int} {tgt : Nat} (hf : (if x < y then B1 else B2) = some r0) (hdg : decode cc pc = .ok (.if_icmp .lt off, 3)) (ht : (pc : Int) + off = (tgt : Int)) (k1 : B1 = some r0 → W p l e R s m args below meth c H locs cells slots Q (F0 m tgt ls rest)) (k2 : B2 = some r0 → W p l e R s m args below meth c H locs cells slots Q (F0 m (pc + 3) ls rest)) : W p l e R s m args below meth c H locs cells slots Q (F0 m pc ls (.int y :: .int x :: rest)) :=
  lv_icmp_lt hM.1 hM.2.1 hdg ht (fun q => k1 (by rw [if_pos q] at hf; exact hf)) (fun q => k2 (by rw [if_neg q] at hf; exact hf))
theorem x_if_ge (hM : CallFix p m c cc nL s args lw_g own) {B1 B2 : Option α} {x : Int32} {off : Int} {tgt : Nat} (hf : (if 0 ≤ x then B1 else B2) = some r0) (hdg : decode cc pc = .ok (.ifCond .ge off, 3)) (ht : (pc : Int) + off = (tgt : Int)) (k1 : B1 = some r0 → W p l e R s m args below meth c H locs cells slots Q (F0 m tgt ls rest)) (k2 : B2 = some r0 → W p l e R s m args below meth c H locs cells slots Q (F0 m (pc + 3) ls rest)) : W p l e R s m args below meth c H locs cells slots Q (F0 m pc ls (.int x :: rest)) :=
  lv_if_ge hM.1 hM.2.1 hdg ht (fun q => k1 (by rw [if_pos q] at hf; exact hf)) (fun q => k2 (by rw [if_neg q] at hf; exact hf))
theorem x_ic_ge (hM : CallFix p m c cc nL s args lw_g own) {B1 B2 : Option α} {x y : Int32} {off : Int} {tgt : Nat} (hf : (if y ≤ x then B1 else B2) = some r0) (hdg : decode cc pc = .ok (.if_icmp .ge off, 3)) (ht : (pc : Int) + off = (tgt : Int)) (k1 : B1 = some r0 → W p l e R s m args below meth c H locs cells slots Q (F0 m tgt ls rest)) (k2 : B2 = some r0 → W p l e R s m args below meth c H locs cells slots Q (F0 m (pc + 3) ls rest)) : W p l e R s m args below meth c H locs cells slots Q (F0 m pc ls (.int y :: .int x :: rest)) :=
  lv_icmp_ge hM.1 hM.2.1 hdg ht (fun q => k1 (by rw [if_pos q] at hf; exact hf)) (fun q => k2 (by rw [if_neg q] at hf; exact hf))
theorem x_if_gt (hM : CallFix p m c cc nL s args lw_g own) {B1 B2 : Option α} {x : Int32} {off : Int} {tgt : Nat} (hf : (if 0 < x then B1 else B2) = some r0) (hdg : decode cc pc = .ok (.ifCond .gt off, 3)) (ht : (pc : Int) + off = (tgt : Int)) (k1 : B1 = some r0 → W p l e R s m args below meth c H locs cells slots Q (F0 m tgt ls rest)) (k2 : B2 = some r0 → W p l e R s m args below meth c H locs cells slots Q (F0 m (pc + 3) ls rest)) : W p l e R s m args below meth c H locs cells slots Q (F0 m pc ls (.int x :: rest)) :=
  lv_if_gt hM.1 hM.2.1 hdg ht (fun q => k1 (by rw [if_pos q] at hf; exact hf)) (fun q => k2 (by rw [if_neg q] at hf; exact hf))
theorem x_ic_gt (hM : CallFix p m c cc nL s args lw_g own) {B1 B2 : Option α} {x y : Int32} {off : Int} {tgt : Nat} (hf : (if y < x then B1 else B2) = some r0) (hdg : decode cc pc = .ok (.if_icmp .gt off, 3)) (ht : (pc : Int) + off = (tgt : Int)) (k1 : B1 = some r0 → W p l e R s m args below meth c H locs cells slots Q (F0 m tgt ls rest)) (k2 : B2 = some r0 → W p l e R s m args below meth c H locs cells slots Q (F0 m (pc + 3) ls rest)) : W p l e R s m args below meth c H locs cells slots Q (F0 m pc ls (.int y :: .int x :: rest)) :=
  lv_icmp_gt hM.1 hM.2.1 hdg ht (fun q => k1 (by rw [if_pos q] at hf; exact hf)) (fun q => k2 (by rw [if_neg q] at hf; exact hf))
theorem x_if_le (hM : CallFix p m c cc nL s args lw_g own) {B1 B2 : Option α} {x : Int32} {off : Int} {tgt : Nat} (hf : (if x ≤ 0 then B1 else B2) = some r0) (hdg : decode cc pc = .ok (.ifCond .le off, 3)) (ht : (pc : Int) + off = (tgt : Int)) (k1 : B1 = some r0 → W p l e R s m args below meth c H locs cells slots Q (F0 m tgt ls rest)) (k2 : B2 = some r0 → W p l e R s m args below meth c H locs cells slots Q (F0 m (pc + 3) ls rest)) : W p l e R s m args below meth c H locs cells slots Q (F0 m pc ls (.int x :: rest)) :=
  lv_if_le hM.1 hM.2.1 hdg ht (fun q => k1 (by rw [if_pos q] at hf; exact hf)) (fun q => k2 (by rw [if_neg q] at hf; exact hf))
theorem x_ic_le (hM : CallFix p m c cc nL s args lw_g own) {B1 B2 : Option α} {x y : Int32} {off : Int} {tgt : Nat} (hf : (if x ≤ y then B1 else B2) = some r0) (hdg : decode cc pc = .ok (.if_icmp .le off, 3)) (ht : (pc : Int) + off = (tgt : Int)) (k1 : B1 = some r0 → W p l e R s m args below meth c H locs cells slots Q (F0 m tgt ls rest)) (k2 : B2 = some r0 → W p l e R s m args below meth c H locs cells slots Q (F0 m (pc + 3) ls rest)) : W p l e R s m args below meth c H locs cells slots Q (F0 m pc ls (.int y :: .int x :: rest)) :=
  lv_icmp_le hM.1 hM.2.1 hdg ht (fun q => k1 (by rw [if_pos q] at hf; exact hf)) (fun q => k2 (by rw [if_neg q] at hf; exact hf))
theorem x_idiv (hM : CallFix p m c cc nL s args lw_g own) {B : Option α} {x y : Int32} (hf : (if y = 0 then none else B) = some r0) (hdg : decode cc pc = .ok (.idiv, 1)) (kk : B = some r0 → W p l e R s m args below meth c H locs cells slots Q (F0 m (pc + 1) ls (.int (x / y) :: rest))) : W p l e R s m args below meth c H locs cells slots Q (F0 m pc ls (.int y :: .int x :: rest)) := by
  by_cases q : y = 0
  · rw [if_pos q] at hf
    cases hf
  · rw [if_neg q] at hf
    exact lv_idiv hM.1 hM.2.1 hdg q (kk hf)
theorem x_irem (hM : CallFix p m c cc nL s args lw_g own) {B : Option α} {x y : Int32} (hf : (if y = 0 then none else B) = some r0) (hdg : decode cc pc = .ok (.irem, 1)) (kk : B = some r0 → W p l e R s m args below meth c H locs cells slots Q (F0 m (pc + 1) ls (.int (jrem x y) :: rest))) : W p l e R s m args below meth c H locs cells slots Q (F0 m pc ls (.int y :: .int x :: rest)) := by
  by_cases q : y = 0
  · rw [if_pos q] at hf
    cases hf
  · rw [if_neg q] at hf
    exact lv_irem hM.1 hM.2.1 hdg q (kk hf)
theorem x_istore_n (hM : CallFix p m c cc nL s args lw_g own) {k : Fin 4} {i : Nat} {lv : List (Nat × Value)} {v0 : Int32} {B : Int32 → Option α} (hf : nm v0 B = some r0) (hdg : decode cc pc = .ok (.istore_n k, 1)) (hi : (k : Nat) = i) (hl : lv_has ls nL lv) (hn : i < nL) (lv' : Int32 → List (Nat × Value)) (hl' : ∀ v, (i, Value.int v) :: lv.filter (fun q => !(q.1 == i) && !(q.1 + 1 == i && q.2.category == 2)) = lv' v) (kk : ∀ (v : Int32) (ls' : Array Slot), B v = some r0 → lv_has ls' nL (lv' v) → W p l e R s m args below meth c H locs cells slots Q (F0 m (pc + 1) ls' rest)) : W p l e R s m args below meth c H locs cells slots Q (F0 m pc ls (.int v0 :: rest)) :=
  lv_istore_n hM.1 hM.2.1 hdg hi hl hn (hl' v0) (fun ls' h' => kk v0 ls' hf h')
theorem x_istore (hM : CallFix p m c cc nL s args lw_g own) {i : Nat} {lv : List (Nat × Value)} {v0 : Int32} {B : Int32 → Option α} (hf : nm v0 B = some r0) (hdg : decode cc pc = .ok (.istore i, 2)) (hl : lv_has ls nL lv) (hn : i < nL) (lv' : Int32 → List (Nat × Value)) (hl' : ∀ v, (i, Value.int v) :: lv.filter (fun q => !(q.1 == i) && !(q.1 + 1 == i && q.2.category == 2)) = lv' v) (kk : ∀ (v : Int32) (ls' : Array Slot), B v = some r0 → lv_has ls' nL (lv' v) → W p l e R s m args below meth c H locs cells slots Q (F0 m (pc + 1 + 1) ls' rest)) : W p l e R s m args below meth c H locs cells slots Q (F0 m pc ls (.int v0 :: rest)) :=
  lv_istore hM.1 hM.2.1 hdg hl hn (hl' v0) (fun ls' h' => kk v0 ls' hf h')
theorem x_lstore_n (hM : CallFix p m c cc nL s args lw_g own) {k : Fin 4} {i : Nat} {lv : List (Nat × Value)} {v0 : Int64} {B : Int64 → Option α} (hf : nm v0 B = some r0) (hdg : decode cc pc = .ok (.lstore_n k, 1)) (hi : (k : Nat) = i) (hl : lv_has ls nL lv) (hn : i + 1 < nL) (lv' : Int64 → List (Nat × Value)) (hl' : ∀ v, (i, Value.long v) :: lv.filter (fun q => !(q.1 == i) && (!(q.1 == i + 1) && !(q.1 + 1 == i && q.2.category == 2))) = lv' v) (kk : ∀ (v : Int64) (ls' : Array Slot), B v = some r0 → lv_has ls' nL (lv' v) → W p l e R s m args below meth c H locs cells slots Q (F0 m (pc + 1) ls' rest)) : W p l e R s m args below meth c H locs cells slots Q (F0 m pc ls (.long v0 :: rest)) :=
  lv_lstore_n hM.1 hM.2.1 hdg hi hl hn (hl' v0) (fun ls' h' => kk v0 ls' hf h')
theorem x_lstore (hM : CallFix p m c cc nL s args lw_g own) {i : Nat} {lv : List (Nat × Value)} {v0 : Int64} {B : Int64 → Option α} (hf : nm v0 B = some r0) (hdg : decode cc pc = .ok (.lstore i, 2)) (hl : lv_has ls nL lv) (hn : i + 1 < nL) (lv' : Int64 → List (Nat × Value)) (hl' : ∀ v, (i, Value.long v) :: lv.filter (fun q => !(q.1 == i) && (!(q.1 == i + 1) && !(q.1 + 1 == i && q.2.category == 2))) = lv' v) (kk : ∀ (v : Int64) (ls' : Array Slot), B v = some r0 → lv_has ls' nL (lv' v) → W p l e R s m args below meth c H locs cells slots Q (F0 m (pc + 1 + 1) ls' rest)) : W p l e R s m args below meth c H locs cells slots Q (F0 m pc ls (.long v0 :: rest)) :=
  lv_lstore hM.1 hM.2.1 hdg hl hn (hl' v0) (fun ls' h' => kk v0 ls' hf h')
theorem x_iinc (hM : CallFix p m c cc nL s args lw_g own) {i k : Nat} {n : Int} {x d : Int32} {lv : List (Nat × Value)} {B : Int32 → Option α} (hf : nm (x + d) B = some r0) (hdg : decode cc pc = .ok (.iinc i n, 3)) (hl : lv_has ls nL lv) (hk : lv[k]? = some (i, .int x)) (hd : Int32.ofInt n = d) (hn : i < nL) (lv' : Int32 → List (Nat × Value)) (hl' : ∀ v, (i, Value.int v) :: lv.filter (fun q => !(q.1 == i) && !(q.1 + 1 == i && q.2.category == 2)) = lv' v) (kk : ∀ (v : Int32) (ls' : Array Slot), B v = some r0 → lv_has ls' nL (lv' v) → W p l e R s m args below meth c H locs cells slots Q (F0 m (pc + 3) ls' rest)) : W p l e R s m args below meth c H locs cells slots Q (F0 m pc ls rest) :=
  lv_iinc hM.1 hM.2.1 hdg hl hk (v := x + d) (by rw [hd]) hn (hl' _) (fun ls' h' => kk _ ls' hf h')
/-- a value on the stack by name -/
theorem x_nmi {x : Int32} {B : Int32 → Option α} (hf : nm x B = some r0) (kk : ∀ v : Int32, B v = some r0 → W p l e R s m args below meth c H locs cells slots Q (F0 m pc ls (.int v :: rest))) : W p l e R s m args below meth c H locs cells slots Q (F0 m pc ls (.int x :: rest)) := kk x hf
theorem x_bind {β : Type} {o : Option β} {K : β → Option α} (hf : o.bind K = some r0) : ∃ t, o = some t ∧ K t = some r0 := by
  cases o with
  | none => cases hf
  | some t => exact ⟨t, rfl, hf⟩

end XB
def RtI (p : Program) (l : Launch) (e : Env) (R : Room) (s : State) (m : MethodId) (args : Array Value) (below : List Frame) (meth : Method) (c : Code) (cc : ByteArray) (D : va_G) (G : GG) (A : Nat → Prop) (H0 : Heap) (ad : Nat → Nat) (lay : List KK) (X : va_W) (ret : Option FieldType) (r : Int32 × PH) (Q : State → Prop) (cells slots : Nat) : Prop :=
  ∀ (v : Int32) (h' : PH) (H : Heap) (locs : List Loc) (pc : Nat) (ls : Array Slot) (rt : FieldType), (v, h') = r → ret = some rt → narrow rt (.int v) = .int v → Wd D G A H0 ad lay X h' s H locs → decode cc pc = .ok (.ireturn, 1) → W p l e R s m args below meth c H locs cells slots Q (F0 m pc ls [.int v])
def RtL (p : Program) (l : Launch) (e : Env) (R : Room) (s : State) (m : MethodId) (args : Array Value) (below : List Frame) (meth : Method) (c : Code) (cc : ByteArray) (D : va_G) (G : GG) (A : Nat → Prop) (H0 : Heap) (ad : Nat → Nat) (lay : List KK) (X : va_W) (ret : Option FieldType) (r : Int64 × PH) (Q : State → Prop) (cells slots : Nat) : Prop :=
  ∀ (v : Int64) (h' : PH) (H : Heap) (locs : List Loc) (pc : Nat) (ls : Array Slot) (rt : FieldType), (v, h') = r → ret = some rt → narrow rt (.long v) = .long v → Wd D G A H0 ad lay X h' s H locs → decode cc pc = .ok (.lreturn, 1) → W p l e R s m args below meth c H locs cells slots Q (F0 m pc ls [.long v])
def RtV (p : Program) (l : Launch) (e : Env) (R : Room) (s : State) (m : MethodId) (args : Array Value) (below : List Frame) (meth : Method) (c : Code) (cc : ByteArray) (D : va_G) (G : GG) (A : Nat → Prop) (H0 : Heap) (ad : Nat → Nat) (lay : List KK) (X : va_W) (ret : Option FieldType) (r : PH) (Q : State → Prop) (cells slots : Nat) : Prop :=
  ∀ (h' : PH) (H : Heap) (locs : List Loc) (pc : Nat) (ls : Array Slot), h' = r → ret = none → Wd D G A H0 ad lay X h' s H locs → decode cc pc = .ok (.return_, 1) → W p l e R s m args below meth c H locs cells slots Q (F0 m pc ls [])
set_option maxHeartbeats 4000000 in
theorem CtI.mk' {l : Launch} {y : MethodName} {cc : ByteArray} {n : Nat} {ret : Option FieldType} {fr lo : Nat} {lay : List KK} {F : PH → Option (Int32 × PH)} {as : (Nat → Nat) → List Value} (own : String) (hy : plainName y.cls = true) (ho : y.cls = own) (hn : ∀ ad, (lg_sl (as ad)).length ≤ n)
    (walk : ∀ (p : Program) (e : Env) (s : State) (m : MethodId) (args : Array Value) (below : List Frame) (meth : Method) (c : Code) (D : va_G) (G : GG) (A : Nat → Prop) (H0 : Heap) (ad : Nat → Nat) (X : va_W) (h : PH) (r : Int32 × PH) (H : Heap) (ls : Array Slot) (Q : State → Prop), CallFix p m c cc n s args lw_g own → Wd D G A H0 ad lay X h s H [] → lv_has ls n (lv_args 0 (as ad)) → F h = some r → RtI p l e (rmN fr lo) s m args below meth c cc D G A H0 ad lay X ret r Q 0 0 → W p l e (rmN fr lo) s m args below meth c H [] 0 0 Q (F0 m 0 ls [])) : CtI l y cc n ret fr lo lay F as := by
  intro D G ad X h r sz hF
  refine Met.ofW (cc := cc) (maxL := n) (ret := ret) hy rfl ?_
  intro p e s m args below meth c s₁ B hml hv
  obtain ⟨rfl, hsz, hP, hK, hD0⟩ := hv
  subst hsz
  have hts : ∀ w ∈ (Cond.code y cc n ret :: lw_g), w.before (as ad).toArray s = true := atoms_spec (ws := Cond.code y cc n ret :: lw_g) B.pre
  have hown : s.vm.findClass own = some m.cls := by
    rw [← ho]
    exact findClass_of_methodNamed B.named
  have hM : CallFix p m c cc n s (as ad).toArray lw_g own := ⟨B.exec, B.bytes, hml, hown, fun w hw => hts w (List.mem_cons_of_mem _ hw)⟩
  have hD := hD0.self (sz := s.heap.size)
  have hA : ∀ q : Nat, s.heap.size ≤ q → va_A (encA ad G h 0 lay ++ X) s.heap.size q := fun q h => Or.inr h
  have hw : Wd D G (va_A (encA ad G h 0 lay ++ X) s.heap.size) s.heap ad lay X h s s.heap [] := ⟨hK, hP, hD, va_S.rf, hA⟩
  have hl := lv_entry (as ad) (n := n) (hn ad)
  rw [lg_entry_eq]
  generalize (lg_sl (as ad) ++ List.replicate (n - (lg_sl (as ad)).length) Slot.unset).toArray = ls at hl ⊢
  refine walk p e s m (as ad).toArray below meth c D G _ s.heap ad X h r s.heap ls _ hM hw hl hF ?_
  · show RtI p l e (rmN fr lo) s m (as ad).toArray below meth c cc D G _ s.heap ad lay X ret r _ 0 0
    intro v h' H locs pc ls rt hv hret hn hw hdg
    refine W.zret B.exec B.bytes (by rw [B.returns]; exact hret) hn (fun t ht hW => ⟨⟨v, h', rfl, hv, by rw [ht]; exact hw.2.1, va_K.moved hW.alike hw.1, hw.2.2.1⟩, hw.2.2.2.1.F ht⟩) (fun q hq => hw.2.2.2.1.2.2 q hq) hdg (hlocks := B.notSynchronized)
set_option maxHeartbeats 4000000 in
theorem CtL.mk' {l : Launch} {y : MethodName} {cc : ByteArray} {n : Nat} {ret : Option FieldType} {fr lo : Nat} {lay : List KK} {F : PH → Option (Int64 × PH)} {as : (Nat → Nat) → List Value} (own : String) (hy : plainName y.cls = true) (ho : y.cls = own) (hrL : ret = some .long) (hn : ∀ ad, (lg_sl (as ad)).length ≤ n)
    (walk : ∀ (p : Program) (e : Env) (s : State) (m : MethodId) (args : Array Value) (below : List Frame) (meth : Method) (c : Code) (D : va_G) (G : GG) (A : Nat → Prop) (H0 : Heap) (ad : Nat → Nat) (X : va_W) (h : PH) (r : Int64 × PH) (H : Heap) (ls : Array Slot) (Q : State → Prop), CallFix p m c cc n s args lw_g own → Wd D G A H0 ad lay X h s H [] → lv_has ls n (lv_args 0 (as ad)) → F h = some r → RtL p l e (rmN fr lo) s m args below meth c cc D G A H0 ad lay X ret r Q 0 0 → W p l e (rmN fr lo) s m args below meth c H [] 0 0 Q (F0 m 0 ls [])) : CtL l y cc n ret fr lo lay F as := by
  intro D G ad X h r sz hF
  refine Met.ofW (cc := cc) (maxL := n) (ret := ret) hy rfl ?_
  intro p e s m args below meth c s₁ B hml hv
  obtain ⟨rfl, hsz, hP, hK, hD0⟩ := hv
  subst hsz
  have hts : ∀ w ∈ (Cond.code y cc n ret :: lw_g), w.before (as ad).toArray s = true := atoms_spec (ws := Cond.code y cc n ret :: lw_g) B.pre
  have hown : s.vm.findClass own = some m.cls := by
    rw [← ho]
    exact findClass_of_methodNamed B.named
  have hM : CallFix p m c cc n s (as ad).toArray lw_g own := ⟨B.exec, B.bytes, hml, hown, fun w hw => hts w (List.mem_cons_of_mem _ hw)⟩
  have hD := hD0.self (sz := s.heap.size)
  have hA : ∀ q : Nat, s.heap.size ≤ q → va_A (encA ad G h 0 lay ++ X) s.heap.size q := fun q h => Or.inr h
  have hw : Wd D G (va_A (encA ad G h 0 lay ++ X) s.heap.size) s.heap ad lay X h s s.heap [] := ⟨hK, hP, hD, va_S.rf, hA⟩
  have hl := lv_entry (as ad) (n := n) (hn ad)
  rw [lg_entry_eq]
  generalize (lg_sl (as ad) ++ List.replicate (n - (lg_sl (as ad)).length) Slot.unset).toArray = ls at hl ⊢
  refine walk p e s m (as ad).toArray below meth c D G _ s.heap ad X h r s.heap ls _ hM hw hl hF ?_
  · show RtL p l e (rmN fr lo) s m (as ad).toArray below meth c cc D G _ s.heap ad lay X ret r _ 0 0
    intro v h' H locs pc ls rt hv hret hn hw hdg
    refine W.lret B.exec B.bytes (by rw [B.returns, hrL]) (fun t ht hW => ⟨⟨v, h', rfl, hv, by rw [ht]; exact hw.2.1, va_K.moved hW.alike hw.1, hw.2.2.1⟩, hw.2.2.2.1.F ht⟩) (fun q hq => hw.2.2.2.1.2.2 q hq) hdg (hlocks := B.notSynchronized)
set_option maxHeartbeats 4000000 in
theorem CtV.mk' {l : Launch} {y : MethodName} {cc : ByteArray} {n : Nat} {ret : Option FieldType} {fr lo : Nat} {lay : List KK} {F : PH → Option (PH)} {as : (Nat → Nat) → List Value} (own : String) (hy : plainName y.cls = true) (ho : y.cls = own) (hn : ∀ ad, (lg_sl (as ad)).length ≤ n)
    (walk : ∀ (p : Program) (e : Env) (s : State) (m : MethodId) (args : Array Value) (below : List Frame) (meth : Method) (c : Code) (D : va_G) (G : GG) (A : Nat → Prop) (H0 : Heap) (ad : Nat → Nat) (X : va_W) (h : PH) (r : PH) (H : Heap) (ls : Array Slot) (Q : State → Prop), CallFix p m c cc n s args lw_g own → Wd D G A H0 ad lay X h s H [] → lv_has ls n (lv_args 0 (as ad)) → F h = some r → RtV p l e (rmN fr lo) s m args below meth c cc D G A H0 ad lay X ret r Q 0 0 → W p l e (rmN fr lo) s m args below meth c H [] 0 0 Q (F0 m 0 ls [])) : CtV l y cc n ret fr lo lay F as := by
  intro D G ad X h r sz hF
  refine Met.ofW (cc := cc) (maxL := n) (ret := ret) hy rfl ?_
  intro p e s m args below meth c s₁ B hml hv
  obtain ⟨rfl, hsz, hP, hK, hD0⟩ := hv
  subst hsz
  have hts : ∀ w ∈ (Cond.code y cc n ret :: lw_g), w.before (as ad).toArray s = true := atoms_spec (ws := Cond.code y cc n ret :: lw_g) B.pre
  have hown : s.vm.findClass own = some m.cls := by
    rw [← ho]
    exact findClass_of_methodNamed B.named
  have hM : CallFix p m c cc n s (as ad).toArray lw_g own := ⟨B.exec, B.bytes, hml, hown, fun w hw => hts w (List.mem_cons_of_mem _ hw)⟩
  have hD := hD0.self (sz := s.heap.size)
  have hA : ∀ q : Nat, s.heap.size ≤ q → va_A (encA ad G h 0 lay ++ X) s.heap.size q := fun q h => Or.inr h
  have hw : Wd D G (va_A (encA ad G h 0 lay ++ X) s.heap.size) s.heap ad lay X h s s.heap [] := ⟨hK, hP, hD, va_S.rf, hA⟩
  have hl := lv_entry (as ad) (n := n) (hn ad)
  rw [lg_entry_eq]
  generalize (lg_sl (as ad) ++ List.replicate (n - (lg_sl (as ad)).length) Slot.unset).toArray = ls at hl ⊢
  refine walk p e s m (as ad).toArray below meth c D G _ s.heap ad X h r s.heap ls _ hM hw hl hF ?_
  · show RtV p l e (rmN fr lo) s m (as ad).toArray below meth c cc D G _ s.heap ad lay X ret r _ 0 0
    intro h' H locs pc ls hv hret hw hdg
    refine W.vret B.exec B.bytes (by rw [B.returns, hret]) (fun t ht hW => ⟨⟨h', rfl, hv, by rw [ht]; exact hw.2.1, va_K.moved hW.alike hw.1, hw.2.2.1⟩, hw.2.2.2.1.F ht⟩) (fun q hq => hw.2.2.2.1.2.2 q hq) hdg (hlocks := B.notSynchronized)
