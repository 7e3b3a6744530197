theorem dJ0_coder_7d493_0 : decode cJ0_coder_7d493 0 = .ok (.getstatic 38, 3) := by decide +kernel
theorem dJ0_coder_7d493_3 : decode cJ0_coder_7d493 3 = .ok (.ifCond .eq 10, 3) := by decide +kernel
theorem dJ0_coder_7d493_6 : decode cJ0_coder_7d493 6 = .ok (.aload_n 0, 1) := by decide +kernel
theorem dJ0_coder_7d493_7 : decode cJ0_coder_7d493 7 = .ok (.getfield 15, 3) := by decide +kernel
theorem dJ0_coder_7d493_10 : decode cJ0_coder_7d493 10 = .ok (.goto 4, 3) := by decide +kernel
theorem dJ0_coder_7d493_13 : decode cJ0_coder_7d493 13 = .ok (.iconst 1, 1) := by decide +kernel
theorem dJ0_coder_7d493_14 : decode cJ0_coder_7d493 14 = .ok (.ireturn, 1) := by decide +kernel
theorem dJ0_length_8abf5_0 : decode cJ0_length_8abf5 0 = .ok (.aload_n 0, 1) := by decide +kernel
theorem dJ0_length_8abf5_1 : decode cJ0_length_8abf5 1 = .ok (.getfield 9, 3) := by decide +kernel
theorem dJ0_length_8abf5_4 : decode cJ0_length_8abf5 4 = .ok (.arraylength, 1) := by decide +kernel
theorem dJ0_length_8abf5_5 : decode cJ0_length_8abf5 5 = .ok (.aload_n 0, 1) := by decide +kernel
theorem dJ0_length_8abf5_6 : decode cJ0_length_8abf5 6 = .ok (.invokevirtual 335, 3) := by decide +kernel
theorem dJ0_length_8abf5_9 : decode cJ0_length_8abf5 9 = .ok (.ishr, 1) := by decide +kernel
theorem dJ0_length_8abf5_10 : decode cJ0_length_8abf5 10 = .ok (.ireturn, 1) := by decide +kernel
theorem dJ0_isLatin1_aae02_0 : decode cJ0_isLatin1_aae02 0 = .ok (.getstatic 38, 3) := by decide +kernel
theorem dJ0_isLatin1_aae02_3 : decode cJ0_isLatin1_aae02 3 = .ok (.ifCond .eq 14, 3) := by decide +kernel
theorem dJ0_isLatin1_aae02_6 : decode cJ0_isLatin1_aae02 6 = .ok (.aload_n 0, 1) := by decide +kernel
theorem dJ0_isLatin1_aae02_7 : decode cJ0_isLatin1_aae02 7 = .ok (.getfield 15, 3) := by decide +kernel
theorem dJ0_isLatin1_aae02_10 : decode cJ0_isLatin1_aae02 10 = .ok (.ifCond .ne 7, 3) := by decide +kernel
theorem dJ0_isLatin1_aae02_13 : decode cJ0_isLatin1_aae02 13 = .ok (.iconst 1, 1) := by decide +kernel
theorem dJ0_isLatin1_aae02_14 : decode cJ0_isLatin1_aae02 14 = .ok (.goto 4, 3) := by decide +kernel
theorem dJ0_isLatin1_aae02_17 : decode cJ0_isLatin1_aae02 17 = .ok (.iconst 0, 1) := by decide +kernel
theorem dJ0_isLatin1_aae02_18 : decode cJ0_isLatin1_aae02 18 = .ok (.ireturn, 1) := by decide +kernel
theorem dJ3_checkIndex_8e157_0 : decode cJ3_checkIndex_8e157 0 = .ok (.iload_n 0, 1) := by decide +kernel
theorem dJ3_checkIndex_8e157_1 : decode cJ3_checkIndex_8e157 1 = .ok (.ifCond .lt 8, 3) := by decide +kernel
theorem dJ3_checkIndex_8e157_4 : decode cJ3_checkIndex_8e157 4 = .ok (.iload_n 0, 1) := by decide +kernel
theorem dJ3_checkIndex_8e157_5 : decode cJ3_checkIndex_8e157 5 = .ok (.iload_n 1, 1) := by decide +kernel
theorem dJ3_checkIndex_8e157_6 : decode cJ3_checkIndex_8e157 6 = .ok (.if_icmp .lt 10, 3) := by decide +kernel
theorem dJ3_checkIndex_8e157_9 : decode cJ3_checkIndex_8e157 9 = .ok (.aload_n 2, 1) := by decide +kernel
theorem dJ3_checkIndex_8e157_10 : decode cJ3_checkIndex_8e157 10 = .ok (.iload_n 0, 1) := by decide +kernel
theorem dJ3_checkIndex_8e157_11 : decode cJ3_checkIndex_8e157 11 = .ok (.iload_n 1, 1) := by decide +kernel
theorem dJ3_checkIndex_8e157_12 : decode cJ3_checkIndex_8e157 12 = .ok (.invokestatic 95, 3) := by decide +kernel
theorem dJ3_checkIndex_8e157_15 : decode cJ3_checkIndex_8e157 15 = .ok (.athrow, 1) := by decide +kernel
theorem dJ3_checkIndex_8e157_16 : decode cJ3_checkIndex_8e157 16 = .ok (.iload_n 0, 1) := by decide +kernel
theorem dJ3_checkIndex_8e157_17 : decode cJ3_checkIndex_8e157 17 = .ok (.ireturn, 1) := by decide +kernel
theorem dJ0_checkIndex_df160_0 : decode cJ0_checkIndex_df160 0 = .ok (.iload_n 0, 1) := by decide +kernel
theorem dJ0_checkIndex_df160_1 : decode cJ0_checkIndex_df160 1 = .ok (.iload_n 1, 1) := by decide +kernel
theorem dJ0_checkIndex_df160_2 : decode cJ0_checkIndex_df160 2 = .ok (.getstatic 1053, 3) := by decide +kernel
theorem dJ0_checkIndex_df160_5 : decode cJ0_checkIndex_df160 5 = .ok (.invokestatic 1059, 3) := by decide +kernel
theorem dJ0_checkIndex_df160_8 : decode cJ0_checkIndex_df160 8 = .ok (.pop, 1) := by decide +kernel
theorem dJ0_checkIndex_df160_9 : decode cJ0_checkIndex_df160 9 = .ok (.return_, 1) := by decide +kernel
theorem dJ1_charAt_3b067_0 : decode cJ1_charAt_3b067 0 = .ok (.iload_n 1, 1) := by decide +kernel
theorem dJ1_charAt_3b067_1 : decode cJ1_charAt_3b067 1 = .ok (.aload_n 0, 1) := by decide +kernel
theorem dJ1_charAt_3b067_2 : decode cJ1_charAt_3b067 2 = .ok (.arraylength, 1) := by decide +kernel
theorem dJ1_charAt_3b067_3 : decode cJ1_charAt_3b067 3 = .ok (.invokestatic 9, 3) := by decide +kernel
theorem dJ1_charAt_3b067_6 : decode cJ1_charAt_3b067 6 = .ok (.aload_n 0, 1) := by decide +kernel
theorem dJ1_charAt_3b067_7 : decode cJ1_charAt_3b067 7 = .ok (.iload_n 1, 1) := by decide +kernel
theorem dJ1_charAt_3b067_8 : decode cJ1_charAt_3b067 8 = .ok (.baload, 1) := by decide +kernel
theorem dJ1_charAt_3b067_9 : decode cJ1_charAt_3b067 9 = .ok (.sipush 255, 3) := by decide +kernel
theorem dJ1_charAt_3b067_12 : decode cJ1_charAt_3b067 12 = .ok (.iand, 1) := by decide +kernel
theorem dJ1_charAt_3b067_13 : decode cJ1_charAt_3b067 13 = .ok (.i2c, 1) := by decide +kernel
theorem dJ1_charAt_3b067_14 : decode cJ1_charAt_3b067 14 = .ok (.ireturn, 1) := by decide +kernel
theorem dJ0_charAt_5068e_0 : decode cJ0_charAt_5068e 0 = .ok (.aload_n 0, 1) := by decide +kernel
theorem dJ0_charAt_5068e_1 : decode cJ0_charAt_5068e 1 = .ok (.invokevirtual 492, 3) := by decide +kernel
theorem dJ0_charAt_5068e_4 : decode cJ0_charAt_5068e 4 = .ok (.ifCond .eq 12, 3) := by decide +kernel
theorem dJ0_charAt_5068e_7 : decode cJ0_charAt_5068e 7 = .ok (.aload_n 0, 1) := by decide +kernel
theorem dJ0_charAt_5068e_8 : decode cJ0_charAt_5068e 8 = .ok (.getfield 9, 3) := by decide +kernel
theorem dJ0_charAt_5068e_11 : decode cJ0_charAt_5068e 11 = .ok (.iload_n 1, 1) := by decide +kernel
theorem dJ0_charAt_5068e_12 : decode cJ0_charAt_5068e 12 = .ok (.invokestatic 495, 3) := by decide +kernel
theorem dJ0_charAt_5068e_15 : decode cJ0_charAt_5068e 15 = .ok (.ireturn, 1) := by decide +kernel
theorem dJ0_charAt_5068e_16 : decode cJ0_charAt_5068e 16 = .ok (.aload_n 0, 1) := by decide +kernel
theorem dJ0_charAt_5068e_17 : decode cJ0_charAt_5068e 17 = .ok (.getfield 9, 3) := by decide +kernel
theorem dJ0_charAt_5068e_20 : decode cJ0_charAt_5068e 20 = .ok (.iload_n 1, 1) := by decide +kernel
theorem dJ0_charAt_5068e_21 : decode cJ0_charAt_5068e 21 = .ok (.invokestatic 498, 3) := by decide +kernel
theorem dJ0_charAt_5068e_24 : decode cJ0_charAt_5068e 24 = .ok (.ireturn, 1) := by decide +kernel
/-- the words' text, by its bytes -/
def wBl : List Int32 := [109, 97, 110, 32, 101, 120, 99, 117, 115, 101, 32, 100, 117, 116, 121, 32, 107, 110, 111, 119, 115, 32, 116, 101, 115, 116, 32, 112, 97, 115, 115, 101, 115, 32, 119, 101, 97, 114, 115, 32, 114, 97, 105, 110, 32, 99, 111, 105, 110, 115, 32, 115, 101, 101, 100, 32, 111, 110, 99, 101, 32, 105, 102, 32, 116, 104, 101, 110, 32, 101, 108, 115, 101, 32, 100, 97, 121, 32, 115, 116, 114, 111, 110, 103, 32, 119, 101, 97, 114, 32, 116, 114, 117, 115, 116, 32, 107, 105, 110, 100, 32, 97, 103, 111, 32, 119, 101, 116, 32, 104, 111, 117, 114, 115, 32, 104, 101, 97, 114, 100, 32]
def wB (j : Nat) : Int32 := wBl.getD j 0
theorem wB_1 : ∀ i, i < 121 → ((wB i &&& 255).toUInt32 % 65536).toInt32 = wB i ∧ narrow .char (.int (wB i)) = .int (wB i) := by decide +kernel
def SE (kS vS : Nat) (A : Nat → Prop) (U : State) (H : Heap) : Prop := va_Z "java/lang/String" "COMPACT_STRINGS" "Z" (.int 1) A U H ∧ va_Zq "jdk/internal/util/Preconditions" "SIOOBE_FORMATTER" "Ljava/util/function/BiFunction;" A U H ∧ va_O "java/lang/String" kS A U H ∧ va_OF "java/lang/String" "coder" "B" (.int 0) kS A U H ∧ va_OF "java/lang/String" "value" "[B" (.ref vS) kS A U H ∧ va_T .byte vS 121 (fun j => .int (wB j)) A U H
theorem SE.moved {kS vS : Nat} {A : Nat → Prop} {u U : State} {H : Heap} (hvm : u.vm.Alike U.vm) (h : SE kS vS A u H) : SE kS vS A U H := ⟨va_Z.moved hvm h.1, va_Zq.moved hvm h.2.1, va_O.moved hvm h.2.2.1, va_OF.moved hvm h.2.2.2.1, va_OF.moved hvm h.2.2.2.2.1, va_T.moved hvm h.2.2.2.2.2⟩
theorem SE.kept {kS vS : Nat} {A : Nat → Prop} {U : State} {H H1 : Heap} (h : SE kS vS A U H) (hq : ∀ a : Nat, a < H.size → ¬ A a → H1[a]? = H[a]?) : SE kS vS A U H1 := ⟨h.1.kept hq, h.2.1.kept hq, h.2.2.1.kept hq, h.2.2.2.1.kept hq, h.2.2.2.2.1.kept hq, h.2.2.2.2.2.kept hq⟩
theorem SE.narrow {kS vS : Nat} {A B : Nat → Prop} {U : State} {H : Heap} (h : SE kS vS A U H) (hAB : ∀ q, B q → A q) : SE kS vS B U H := ⟨h.1.narrow hAB, h.2.1.narrow hAB, h.2.2.1.narrow hAB, h.2.2.2.1.narrow hAB, h.2.2.2.2.1.narrow hAB, h.2.2.2.2.2.narrow hAB⟩
abbrev nF : Nat → Prop := fun _ => False
def CtJ (l : Launch) (y : MethodName) (cc : ByteArray) (n : Nat) (ret : Option FieldType) (fr lo : Nat) (as : List Value) (kS vS : Nat) (v : Int32) : Prop := Met l y (.code y cc n ret :: lw_g) (rmN fr lo) (va_Pc as (fun U => SE kS vS nF U U.heap)) (va_Qi (fun (r : Int32) (_ : Unit) => r = v) (fun _ _ => True) nF) 0 0 nF
def CtJV (l : Launch) (y : MethodName) (cc : ByteArray) (n : Nat) (fr lo : Nat) (as : List Value) (kS vS : Nat) : Prop := Met l y (.code y cc n none :: lw_g) (rmN fr lo) (va_Pc as (fun U => SE kS vS nF U U.heap)) (va_Qv (fun (_ : Unit) => True) (fun _ _ => True) nF) 0 0 nF
set_option maxHeartbeats 4000000 in
theorem CtJ.mk' {l : Launch} {y : MethodName} {cc : ByteArray} {n : Nat} {rt : FieldType} {fr lo : Nat} {as : List Value} {kS vS : Nat} {v : Int32} (own : String) (hy : plainName y.cls = true) (ho : y.cls = own) (hn : (lg_sl as).length ≤ n) (hnar : narrow rt (.int v) = .int v)
    (walk : ∀ (p : Program) (e : Env) (s : State) (m : MethodId) (args : Array Value) (below : List Frame) (meth : Method) (c : Code) (ls : Array Slot) (Q : State → Prop), CallFix p m c cc n s args lw_g own → SE kS vS nF s s.heap → lv_has ls n (lv_args 0 as) → (∀ (H : Heap) (locs : List Loc) (pc : Nat) (ls : Array Slot), va_S nF s.heap H locs → decode cc pc = .ok (.ireturn, 1) → W p l e (rmN fr lo) s m args below meth c H locs 0 0 Q (F0 m pc ls [.int v])) → W p l e (rmN fr lo) s m args below meth c s.heap [] 0 0 Q (F0 m 0 ls [])) : CtJ l y cc n (some rt) fr lo as kS vS v := by
  refine Met.ofW (cc := cc) (maxL := n) (ret := some rt) hy rfl ?_
  intro p e s m args below meth c s₁ B hml hv
  obtain ⟨rfl, hSE⟩ := hv
  have hts : ∀ w ∈ (Cond.code y cc n (some rt) :: lw_g), w.before as.toArray s = true := atoms_spec (ws := Cond.code y cc n (some rt) :: lw_g) B.pre
  have hown : s.vm.findClass own = some m.cls := by
    rw [← ho]
    exact findClass_of_methodNamed B.named
  have hM : CallFix p m c cc n s as.toArray lw_g own := ⟨B.exec, B.bytes, hml, hown, fun w hw => hts w (List.mem_cons_of_mem _ hw)⟩
  have hl := lv_entry as (n := n) hn
  rw [lg_entry_eq]
  generalize (lg_sl as ++ List.replicate (n - (lg_sl as).length) Slot.unset).toArray = ls at hl ⊢
  refine walk p e s m as.toArray below meth c ls _ hM hSE hl ?_
  intro H locs pc ls hS hdg
  exact W.zret B.exec B.bytes B.returns hnar (fun t ht hW => ⟨⟨v, (), rfl, rfl, trivial⟩, hS.F ht⟩) (fun q hq => hS.2.2 q hq) hdg (hlocks := B.notSynchronized)
set_option maxHeartbeats 4000000 in
theorem CtJV.mk' {l : Launch} {y : MethodName} {cc : ByteArray} {n : Nat} {fr lo : Nat} {as : List Value} {kS vS : Nat} (own : String) (hy : plainName y.cls = true) (ho : y.cls = own) (hn : (lg_sl as).length ≤ n)
    (walk : ∀ (p : Program) (e : Env) (s : State) (m : MethodId) (args : Array Value) (below : List Frame) (meth : Method) (c : Code) (ls : Array Slot) (Q : State → Prop), CallFix p m c cc n s args lw_g own → SE kS vS nF s s.heap → lv_has ls n (lv_args 0 as) → (∀ (H : Heap) (locs : List Loc) (pc : Nat) (ls : Array Slot), va_S nF s.heap H locs → decode cc pc = .ok (.return_, 1) → W p l e (rmN fr lo) s m args below meth c H locs 0 0 Q (F0 m pc ls [])) → W p l e (rmN fr lo) s m args below meth c s.heap [] 0 0 Q (F0 m 0 ls [])) : CtJV l y cc n fr lo as kS vS := by
  refine Met.ofW (cc := cc) (maxL := n) (ret := none) hy rfl ?_
  intro p e s m args below meth c s₁ B hml hv
  obtain ⟨rfl, hSE⟩ := hv
  have hts : ∀ w ∈ (Cond.code y cc n none :: lw_g), w.before as.toArray s = true := atoms_spec (ws := Cond.code y cc n none :: lw_g) B.pre
  have hown : s.vm.findClass own = some m.cls := by
    rw [← ho]
    exact findClass_of_methodNamed B.named
  have hM : CallFix p m c cc n s as.toArray lw_g own := ⟨B.exec, B.bytes, hml, hown, fun w hw => hts w (List.mem_cons_of_mem _ hw)⟩
  have hl := lv_entry as (n := n) hn
  rw [lg_entry_eq]
  generalize (lg_sl as ++ List.replicate (n - (lg_sl as).length) Slot.unset).toArray = ls at hl ⊢
  refine walk p e s m as.toArray below meth c ls _ hM hSE hl ?_
  intro H locs pc ls hS hdg
  exact W.vret B.exec B.bytes B.returns (fun t ht hW => ⟨⟨(), rfl, trivial, trivial⟩, hS.F ht⟩) (fun q hq => hS.2.2 q hq) hdg (hlocks := B.notSynchronized)
theorem se_blind {as : List Value} {kS vS : Nat} : FrameBlind (va_Pc as (fun U => SE kS vS nF U U.heap)) := fun a U g mk q => ⟨q.1, SE.moved (u := U) (U := U.calling g mk a) (Vm.Alike.refl U.vm) q.2⟩
section XJ
variable {cells slots : Nat}
variable {p : Program} {l : Launch} {e : Env} {R : Room} {s : State} {m : MethodId} {args : Array Value} {below : List Frame} {meth : Method} {c : Code} {H : Heap} {locs : List Loc} {Q : State → Prop}
variable {cc : ByteArray} {nL pc : Nat} {own : String} {ls : Array Slot} {rest : List Value} {A : Nat → Prop} {kS vS : Nat}
theorem j_pre (hSE : SE kS vS A s s.heap) (hS : va_S A s.heap H locs) {as : List Value} {v : Array Value} (hv : v = as.toArray) : ∀ U : State, U.heap = H → s.WarmedH U.vm → va_Pc as (fun U => SE kS vS nF U U.heap) v U := fun U hU hW => ⟨hv, by
    show SE kS vS nF U U.heap
    rw [hU]
    exact SE.narrow (SE.moved hW.alike (SE.kept hSE hS.2.1)) (fun _ h => h.elim)⟩
theorem j_callV (hM : CallFix p m c cc nL s args lw_g own) (hSE : SE kS vS A s s.heap) (hS : va_S A s.heap H locs) {y : MethodName} {b : ByteArray} {n' fr lo na idx : Nat} {ret : Option FieldType} {as : List Value} {v : Int32} {q0 : Nat} (hC : CtJ l y b n' ret fr lo as kS vS v) (As : List Value) (has : as = .ref q0 :: As) (hq0 : q0 = kS) {Cn : String} (hCn : Cn = "java/lang/String") (hg : GoodIn lw_g (wsV own idx Cn y (.code y b n' ret :: lw_g))) (hd : y.cls = Cn ∧ y.cls ≠ "java/lang/invoke/MethodHandle" ∧ y.cls ≠ "java/lang/invoke/VarHandle" ∧ (parseMethodDescriptor y.desc).map (fun d => d.parameters.length) = some na) (hlen : As.length = na) (hR : fr + 1 ≤ R.frames ∧ 8 + (n' + 11) + lo ≤ R.locals) {st : List Value} (hst : st = As.reverse ++ .ref q0 :: rest) (hroom : (rest.map fun v => v.category).sum ≤ 8) (hl : ls.size = nL) (hcs : cells ≤ R.cells ∧ slots ≤ R.slots) (hdg : decode cc pc = .ok (.invokevirtual idx, 3)) (kk : ∀ (H1 : Heap) (locs1 : List Loc), va_S A s.heap H1 locs1 → H.size ≤ H1.size → (∀ q : Nat, q < H.size → H1[q]? = H[q]?) → W p l e R s m args below meth c H1 locs1 cells slots Q (F0 m (pc + 3) ls (.int v :: rest))) : W p l e R s m args below meth c H locs cells slots Q (F0 m pc ls st) := by
  subst hst
  subst hq0
  subst hCn
  refine va_calli (va_runV (As := As) (rest := rest) (mc := 0) (ms := 0) hM hC (cwV na hM.2.2.2.2 hg rfl rfl rfl hd hR) ⟨se_blind, va_Orecv hSE.2.2.1 hS, j_pre hSE hS (by rw [has])⟩ rfl hlen hl rfl (lv_room hroom) hdg hcs) hS (fun q _ hq => hq.elim) (fun q hq => hq.elim) (fun r u t1 H1 locs1 ht hvm hq hB hz1 hk1 hS1 => ?_)
  have hq : r = v := hq
  subst hq
  exact kk H1 locs1 hS1 hz1 (fun q h => hk1 q h (fun h => h.elim))
theorem j_callS (hM : CallFix p m c cc nL s args lw_g own) (hSE : SE kS vS A s s.heap) (hS : va_S A s.heap H locs) {y : MethodName} {b : ByteArray} {n' fr lo na idx : Nat} {ret : Option FieldType} {as : List Value} {v : Int32} (hC : CtJ l y b n' ret fr lo as kS vS v) (hg : GoodIn lw_g (va_wsS own idx y (.code y b n' ret :: lw_g))) (hd : y.cls ≠ "java/lang/invoke/MethodHandle" ∧ y.cls ≠ "java/lang/invoke/VarHandle" ∧ (parseMethodDescriptor y.desc).map (fun d => d.parameters.length) = some na) (hlen : as.length = na) (hR : fr + 1 ≤ R.frames ∧ 8 + (n' + 11) + lo ≤ R.locals) {st : List Value} (hst : st = as.reverse ++ rest) (hroom : (rest.map fun v => v.category).sum ≤ 8) (hl : ls.size = nL) (hcs : cells ≤ R.cells ∧ slots ≤ R.slots) (hdg : decode cc pc = .ok (.invokestatic idx, 3)) (kk : ∀ (H1 : Heap) (locs1 : List Loc), va_S A s.heap H1 locs1 → H.size ≤ H1.size → (∀ q : Nat, q < H.size → H1[q]? = H[q]?) → W p l e R s m args below meth c H1 locs1 cells slots Q (F0 m (pc + 3) ls (.int v :: rest))) : W p l e R s m args below meth c H locs cells slots Q (F0 m pc ls st) := by
  subst hst
  refine va_calli (va_runS (As := as) (rest := rest) (mc := 0) (ms := 0) hM hC (va_cwS na hM.2.2.2.2 hg rfl rfl rfl hd hR) ⟨se_blind, j_pre hSE hS rfl⟩ rfl hlen hl rfl (lv_room hroom) hdg hcs) hS (fun q _ hq => hq.elim) (fun q hq => hq.elim) (fun r u t1 H1 locs1 ht hvm hq hB hz1 hk1 hS1 => ?_)
  have hq : r = v := hq
  subst hq
  exact kk H1 locs1 hS1 hz1 (fun q h => hk1 q h (fun h => h.elim))
theorem j_callSV (hM : CallFix p m c cc nL s args lw_g own) (hSE : SE kS vS A s s.heap) (hS : va_S A s.heap H locs) {y : MethodName} {b : ByteArray} {n' fr lo na idx : Nat} {as : List Value} (hC : CtJV l y b n' fr lo as kS vS) (hg : GoodIn lw_g (va_wsS own idx y (.code y b n' none :: lw_g))) (hd : y.cls ≠ "java/lang/invoke/MethodHandle" ∧ y.cls ≠ "java/lang/invoke/VarHandle" ∧ (parseMethodDescriptor y.desc).map (fun d => d.parameters.length) = some na) (hlen : as.length = na) (hR : fr + 1 ≤ R.frames ∧ 8 + (n' + 11) + lo ≤ R.locals) {st : List Value} (hst : st = as.reverse ++ rest) (hroom : (rest.map fun v => v.category).sum ≤ 8) (hl : ls.size = nL) (hcs : cells ≤ R.cells ∧ slots ≤ R.slots) (hdg : decode cc pc = .ok (.invokestatic idx, 3)) (kk : ∀ (H1 : Heap) (locs1 : List Loc), va_S A s.heap H1 locs1 → W p l e R s m args below meth c H1 locs1 cells slots Q (F0 m (pc + 3) ls rest)) : W p l e R s m args below meth c H locs cells slots Q (F0 m pc ls st) := by
  subst hst
  exact va_callv (va_runS (As := as) (rest := rest) (mc := 0) (ms := 0) hM hC (va_cwS na hM.2.2.2.2 hg rfl rfl rfl hd hR) ⟨se_blind, j_pre hSE hS rfl⟩ rfl hlen hl rfl (lv_room hroom) hdg hcs) hS (fun q _ hq => hq.elim) (fun q hq => hq.elim) (fun u t1 H1 locs1 ht hvm hq hB hz1 hk1 hS1 => kk H1 locs1 hS1)
end XJ
theorem hj_J0_coder_7d493 : yJ0_coder_7d493.cls = RJ0 ∧ yJ0_coder_7d493.cls ≠ "java/lang/invoke/MethodHandle" ∧ yJ0_coder_7d493.cls ≠ "java/lang/invoke/VarHandle" ∧ (parseMethodDescriptor yJ0_coder_7d493.desc).map (fun d => d.parameters.length) = some 0 := ⟨rfl, by decide, by decide, by decide +kernel⟩
theorem hj_J0_length_8abf5 : yJ0_length_8abf5.cls = RJ0 ∧ yJ0_length_8abf5.cls ≠ "java/lang/invoke/MethodHandle" ∧ yJ0_length_8abf5.cls ≠ "java/lang/invoke/VarHandle" ∧ (parseMethodDescriptor yJ0_length_8abf5.desc).map (fun d => d.parameters.length) = some 0 := ⟨rfl, by decide, by decide, by decide +kernel⟩
theorem hj_J0_isLatin1_aae02 : yJ0_isLatin1_aae02.cls = RJ0 ∧ yJ0_isLatin1_aae02.cls ≠ "java/lang/invoke/MethodHandle" ∧ yJ0_isLatin1_aae02.cls ≠ "java/lang/invoke/VarHandle" ∧ (parseMethodDescriptor yJ0_isLatin1_aae02.desc).map (fun d => d.parameters.length) = some 0 := ⟨rfl, by decide, by decide, by decide +kernel⟩
theorem hj_J3_checkIndex_8e157 : yJ3_checkIndex_8e157.cls ≠ "java/lang/invoke/MethodHandle" ∧ yJ3_checkIndex_8e157.cls ≠ "java/lang/invoke/VarHandle" ∧ (parseMethodDescriptor yJ3_checkIndex_8e157.desc).map (fun d => d.parameters.length) = some 3 := ⟨by decide, by decide, by decide +kernel⟩
theorem hj_J0_checkIndex_df160 : yJ0_checkIndex_df160.cls ≠ "java/lang/invoke/MethodHandle" ∧ yJ0_checkIndex_df160.cls ≠ "java/lang/invoke/VarHandle" ∧ (parseMethodDescriptor yJ0_checkIndex_df160.desc).map (fun d => d.parameters.length) = some 2 := ⟨by decide, by decide, by decide +kernel⟩
theorem hj_J1_charAt_3b067 : yJ1_charAt_3b067.cls ≠ "java/lang/invoke/MethodHandle" ∧ yJ1_charAt_3b067.cls ≠ "java/lang/invoke/VarHandle" ∧ (parseMethodDescriptor yJ1_charAt_3b067.desc).map (fun d => d.parameters.length) = some 2 := ⟨by decide, by decide, by decide +kernel⟩
theorem hj_J0_charAt_5068e : yJ0_charAt_5068e.cls = RJ0 ∧ yJ0_charAt_5068e.cls ≠ "java/lang/invoke/MethodHandle" ∧ yJ0_charAt_5068e.cls ≠ "java/lang/invoke/VarHandle" ∧ (parseMethodDescriptor yJ0_charAt_5068e.desc).map (fun d => d.parameters.length) = some 1 := ⟨rfl, by decide, by decide, by decide +kernel⟩
set_option maxHeartbeats 4000000 in
set_option maxRecDepth 100000 in
theorem cj_J0_coder_7d493 (l : Launch) (kS vS : Nat) : CtJ l yJ0_coder_7d493 cJ0_coder_7d493 1 (some .byte) 0 0 [.ref kS] kS vS 0 := by
  refine CtJ.mk' RJ0 (by decide) rfl (Nat.le_of_ble_eq_true rfl) rfl ?_
  intro p e s m args below meth c ls Q hM hSE hl hR
  have hl : lv_has ls 1 [(0, .ref kS)] := hl
  have hS : va_S nF s.heap s.heap [] := va_S.rf
  refine va_gets hM.1 hM.2.1 hSE.1 hS hM.2.2.2.1 (hM.2.2.2.2 _ fl_J0_38) (fun _ h => h) dJ0_coder_7d493_0 ?_
  refine lv_if_eq (tgt := 13) hM.1 hM.2.1 dJ0_coder_7d493_3 (by decide) (fun q => absurd q (by decide)) (fun _ => ?_)
  refine lv_aload_n hM.1 hM.2.1 dJ0_coder_7d493_6 rfl (lv_at hl 0 rfl) ?_
  refine vk_getf hM.1 hM.2.1 hSE.2.2.2.1 hS hM.2.2.2.1 (hM.2.2.2.2 _ fl_J0_15) (fun _ h => h) dJ0_coder_7d493_7 ?_
  refine lv_goto (tgt := 14) hM.1 hM.2.1 dJ0_coder_7d493_10 (by decide) ?_
  exact hR _ _ _ _ hS dJ0_coder_7d493_14
set_option maxHeartbeats 4000000 in
set_option maxRecDepth 100000 in
theorem cj_J0_length_8abf5 (l : Launch) (kS vS : Nat) : CtJ l yJ0_length_8abf5 cJ0_length_8abf5 1 (some .int) 1 20 [.ref kS] kS vS 121 := by
  refine CtJ.mk' RJ0 (by decide) rfl (Nat.le_of_ble_eq_true rfl) rfl ?_
  intro p e s m args below meth c ls Q hM hSE hl hR
  have hl : lv_has ls 1 [(0, .ref kS)] := hl
  have hS : va_S nF s.heap s.heap [] := va_S.rf
  refine lv_aload_n hM.1 hM.2.1 dJ0_length_8abf5_0 rfl (lv_at hl 0 rfl) ?_
  refine vk_getf hM.1 hM.2.1 hSE.2.2.2.2.1 hS hM.2.2.2.1 (hM.2.2.2.2 _ fl_J0_9) (fun _ h => h) dJ0_length_8abf5_1 ?_
  refine va_tlen (v := 121) hM.1 hM.2.1 hSE.2.2.2.2.2 hS (by decide) dJ0_length_8abf5_4 ?_
  refine lv_aload_n hM.1 hM.2.1 dJ0_length_8abf5_5 rfl (lv_at hl 0 rfl) ?_
  refine j_callV (rest := [.int 121]) hM hSE hS (cj_J0_coder_7d493 l kS vS) [] rfl rfl rfl (gi_V ml_J0_335 im_J0_coder_7d493 sl_J0_coder_7d493 in_J0 kc_J0_coder_7d493) hj_J0_coder_7d493 rfl ⟨Nat.le_of_ble_eq_true rfl, Nat.le_of_ble_eq_true rfl⟩ rfl (Nat.le_of_ble_eq_true rfl) hl.1 hcs0 dJ0_length_8abf5_6 (fun H locs hS _ _ => ?_)
  refine lv_ishr hM.1 hM.2.1 dJ0_length_8abf5_9 ?_
  have e9 : ((121 : Int32) >>> ((0 : Int32) &&& 31)) = 121 := by decide
  rw [e9]
  exact hR _ _ _ _ hS dJ0_length_8abf5_10
set_option maxHeartbeats 4000000 in
set_option maxRecDepth 100000 in
theorem cj_J0_isLatin1_aae02 (l : Launch) (kS vS : Nat) : CtJ l yJ0_isLatin1_aae02 cJ0_isLatin1_aae02 1 (some .boolean) 0 0 [.ref kS] kS vS 1 := by
  refine CtJ.mk' RJ0 (by decide) rfl (Nat.le_of_ble_eq_true rfl) rfl ?_
  intro p e s m args below meth c ls Q hM hSE hl hR
  have hl : lv_has ls 1 [(0, .ref kS)] := hl
  have hS : va_S nF s.heap s.heap [] := va_S.rf
  refine va_gets hM.1 hM.2.1 hSE.1 hS hM.2.2.2.1 (hM.2.2.2.2 _ fl_J0_38) (fun _ h => h) dJ0_isLatin1_aae02_0 ?_
  refine lv_if_eq (tgt := 17) hM.1 hM.2.1 dJ0_isLatin1_aae02_3 (by decide) (fun q => absurd q (by decide)) (fun _ => ?_)
  refine lv_aload_n hM.1 hM.2.1 dJ0_isLatin1_aae02_6 rfl (lv_at hl 0 rfl) ?_
  refine vk_getf hM.1 hM.2.1 hSE.2.2.2.1 hS hM.2.2.2.1 (hM.2.2.2.2 _ fl_J0_15) (fun _ h => h) dJ0_isLatin1_aae02_7 ?_
  refine lv_if_ne (tgt := 17) hM.1 hM.2.1 dJ0_isLatin1_aae02_10 (by decide) (fun q => absurd rfl q) (fun _ => ?_)
  refine lv_iconst (v := 1) hM.1 hM.2.1 dJ0_isLatin1_aae02_13 ic_1 ?_
  refine lv_goto (tgt := 18) hM.1 hM.2.1 dJ0_isLatin1_aae02_14 (by decide) ?_
  exact hR _ _ _ _ hS dJ0_isLatin1_aae02_18
set_option maxHeartbeats 4000000 in
set_option maxRecDepth 100000 in
theorem cj_J3_checkIndex_8e157_n (l : Launch) (kS vS : Nat) {i : Nat} (hi : i < 121) : CtJ l yJ3_checkIndex_8e157 cJ3_checkIndex_8e157 3 (some .int) 0 0 [.int (nI i), .int 121, .null] kS vS (nI i) := by
  refine CtJ.mk' RJ3 (by decide) rfl (Nat.le_of_ble_eq_true rfl) rfl ?_
  intro p e s m args below meth c ls Q hM hSE hl hR
  have hl : lv_has ls 3 [(0, .int (nI i)), (1, .int 121), (2, .null)] := hl
  have hS : va_S nF s.heap s.heap [] := va_S.rf
  refine lv_iload_n hM.1 hM.2.1 dJ3_checkIndex_8e157_0 rfl (lv_at hl 0 rfl) ?_
  refine lv_if_lt (tgt := 9) hM.1 hM.2.1 dJ3_checkIndex_8e157_1 (by decide) (fun q => absurd q (nI_pos (by omega))) (fun _ => ?_)
  refine lv_iload_n hM.1 hM.2.1 dJ3_checkIndex_8e157_4 rfl (lv_at hl 0 rfl) ?_
  refine lv_iload_n hM.1 hM.2.1 dJ3_checkIndex_8e157_5 rfl (lv_at hl 1 rfl) ?_
  refine lv_icmp_lt (tgt := 16) hM.1 hM.2.1 dJ3_checkIndex_8e157_6 (by decide) (fun _ => ?_) (fun q => absurd (show nI i < nI 121 from nI_lt hi (by omega)) q)
  refine lv_iload_n hM.1 hM.2.1 dJ3_checkIndex_8e157_16 rfl (lv_at hl 0 rfl) ?_
  exact hR _ _ _ _ hS dJ3_checkIndex_8e157_17
set_option maxHeartbeats 4000000 in
set_option maxRecDepth 100000 in
theorem cj_J3_checkIndex_8e157_r (l : Launch) (kS vS : Nat) {i : Nat} (hi : i < 121) (w : Nat) : CtJ l yJ3_checkIndex_8e157 cJ3_checkIndex_8e157 3 (some .int) 0 0 [.int (nI i), .int 121, .ref w] kS vS (nI i) := by
  refine CtJ.mk' RJ3 (by decide) rfl (Nat.le_of_ble_eq_true rfl) rfl ?_
  intro p e s m args below meth c ls Q hM hSE hl hR
  have hl : lv_has ls 3 [(0, .int (nI i)), (1, .int 121), (2, .ref w)] := hl
  have hS : va_S nF s.heap s.heap [] := va_S.rf
  refine lv_iload_n hM.1 hM.2.1 dJ3_checkIndex_8e157_0 rfl (lv_at hl 0 rfl) ?_
  refine lv_if_lt (tgt := 9) hM.1 hM.2.1 dJ3_checkIndex_8e157_1 (by decide) (fun q => absurd q (nI_pos (by omega))) (fun _ => ?_)
  refine lv_iload_n hM.1 hM.2.1 dJ3_checkIndex_8e157_4 rfl (lv_at hl 0 rfl) ?_
  refine lv_iload_n hM.1 hM.2.1 dJ3_checkIndex_8e157_5 rfl (lv_at hl 1 rfl) ?_
  refine lv_icmp_lt (tgt := 16) hM.1 hM.2.1 dJ3_checkIndex_8e157_6 (by decide) (fun _ => ?_) (fun q => absurd (show nI i < nI 121 from nI_lt hi (by omega)) q)
  refine lv_iload_n hM.1 hM.2.1 dJ3_checkIndex_8e157_16 rfl (lv_at hl 0 rfl) ?_
  exact hR _ _ _ _ hS dJ3_checkIndex_8e157_17
set_option maxHeartbeats 4000000 in
set_option maxRecDepth 100000 in
theorem cj_J0_checkIndex_df160 (l : Launch) (kS vS : Nat) {i : Nat} (hi : i < 121) : CtJV l yJ0_checkIndex_df160 cJ0_checkIndex_df160 2 1 22 [.int (nI i), .int 121] kS vS := by
  refine CtJV.mk' RJ0 (by decide) rfl (Nat.le_of_ble_eq_true rfl) ?_
  intro p e s m args below meth c ls Q hM hSE hl hR
  have hl : lv_has ls 2 [(0, .int (nI i)), (1, .int 121)] := hl
  have hS : va_S nF s.heap s.heap [] := va_S.rf
  refine lv_iload_n hM.1 hM.2.1 dJ0_checkIndex_df160_0 rfl (lv_at hl 0 rfl) ?_
  refine lv_iload_n hM.1 hM.2.1 dJ0_checkIndex_df160_1 rfl (lv_at hl 1 rfl) ?_
  rcases hSE.2.1 with hZ | ⟨w, hZ⟩
  · refine va_gets hM.1 hM.2.1 hZ hS hM.2.2.2.1 (hM.2.2.2.2 _ fl_J0_1053) (fun _ h => h) dJ0_checkIndex_df160_2 ?_
    refine j_callS (rest := []) hM hSE hS (cj_J3_checkIndex_8e157_n l kS vS hi) (gi_S ml_J0_1059 sm_J3_checkIndex_8e157 in_J3 kc_J3_checkIndex_8e157) hj_J3_checkIndex_8e157 rfl ⟨Nat.le_of_ble_eq_true rfl, Nat.le_of_ble_eq_true rfl⟩ rfl (Nat.le_of_ble_eq_true rfl) hl.1 hcs0 dJ0_checkIndex_df160_5 (fun H locs hS _ _ => ?_)
    refine lv_pop hM.1 hM.2.1 dJ0_checkIndex_df160_8 rfl ?_
    exact hR _ _ _ _ hS dJ0_checkIndex_df160_9
  · refine va_gets hM.1 hM.2.1 hZ hS hM.2.2.2.1 (hM.2.2.2.2 _ fl_J0_1053) (fun _ h => h) dJ0_checkIndex_df160_2 ?_
    refine j_callS (rest := []) hM hSE hS (cj_J3_checkIndex_8e157_r l kS vS hi w) (gi_S ml_J0_1059 sm_J3_checkIndex_8e157 in_J3 kc_J3_checkIndex_8e157) hj_J3_checkIndex_8e157 rfl ⟨Nat.le_of_ble_eq_true rfl, Nat.le_of_ble_eq_true rfl⟩ rfl (Nat.le_of_ble_eq_true rfl) hl.1 hcs0 dJ0_checkIndex_df160_5 (fun H locs hS _ _ => ?_)
    refine lv_pop hM.1 hM.2.1 dJ0_checkIndex_df160_8 rfl ?_
    exact hR _ _ _ _ hS dJ0_checkIndex_df160_9
set_option maxHeartbeats 4000000 in
set_option maxRecDepth 100000 in
theorem cj_J1_charAt_3b067 (l : Launch) (kS vS : Nat) {i : Nat} (hi : i < 121) : CtJ l yJ1_charAt_3b067 cJ1_charAt_3b067 2 (some .char) 2 60 [.ref vS, .int (nI i)] kS vS (wB i) := by
  refine CtJ.mk' RJ1 (by decide) rfl (Nat.le_of_ble_eq_true rfl) (wB_1 i hi).2 ?_
  intro p e s m args below meth c ls Q hM hSE hl hR
  have hl : lv_has ls 2 [(0, .ref vS), (1, .int (nI i))] := hl
  have hS : va_S nF s.heap s.heap [] := va_S.rf
  refine lv_iload_n hM.1 hM.2.1 dJ1_charAt_3b067_0 rfl (lv_at hl 1 rfl) ?_
  refine lv_aload_n hM.1 hM.2.1 dJ1_charAt_3b067_1 rfl (lv_at hl 0 rfl) ?_
  refine va_tlen (v := 121) hM.1 hM.2.1 hSE.2.2.2.2.2 hS (by decide) dJ1_charAt_3b067_2 ?_
  refine j_callSV (rest := []) hM hSE hS (cj_J0_checkIndex_df160 l kS vS hi) (gi_S ml_J1_9 sm_J0_checkIndex_df160 in_J0 kc_J0_checkIndex_df160) hj_J0_checkIndex_df160 rfl ⟨Nat.le_of_ble_eq_true rfl, Nat.le_of_ble_eq_true rfl⟩ rfl (Nat.le_of_ble_eq_true rfl) hl.1 hcs0 dJ1_charAt_3b067_3 (fun H locs hS => ?_)
  refine lv_aload_n hM.1 hM.2.1 dJ1_charAt_3b067_6 rfl (lv_at hl 0 rfl) ?_
  refine lv_iload_n hM.1 hM.2.1 dJ1_charAt_3b067_7 rfl (lv_at hl 1 rfl) ?_
  refine va_tb (v := .int (wB i)) hM.1 hM.2.1 hSE.2.2.2.2.2 hS (vp_in_nI hi (by omega)) (by rw [nI_clamp (by omega)]) dJ1_charAt_3b067_8 ?_
  refine lv_sipush (v := 255) hM.1 hM.2.1 dJ1_charAt_3b067_9 (by decide) ?_
  refine lv_iand hM.1 hM.2.1 dJ1_charAt_3b067_12 ?_
  refine lv_i2c hM.1 hM.2.1 dJ1_charAt_3b067_13 (wB_1 i hi).1 ?_
  exact hR _ _ _ _ hS dJ1_charAt_3b067_14
set_option maxHeartbeats 4000000 in
set_option maxRecDepth 100000 in
theorem cj_J0_charAt_5068e (l : Launch) (kS vS : Nat) {i : Nat} (hi : i < 121) : CtJ l yJ0_charAt_5068e cJ0_charAt_5068e 2 (some .char) 3 100 [.ref kS, .int (nI i)] kS vS (wB i) := by
  refine CtJ.mk' RJ0 (by decide) rfl (Nat.le_of_ble_eq_true rfl) (wB_1 i hi).2 ?_
  intro p e s m args below meth c ls Q hM hSE hl hR
  have hl : lv_has ls 2 [(0, .ref kS), (1, .int (nI i))] := hl
  have hS : va_S nF s.heap s.heap [] := va_S.rf
  refine lv_aload_n hM.1 hM.2.1 dJ0_charAt_5068e_0 rfl (lv_at hl 0 rfl) ?_
  refine j_callV (rest := []) hM hSE hS (cj_J0_isLatin1_aae02 l kS vS) [] rfl rfl rfl (gi_V ml_J0_492 im_J0_isLatin1_aae02 sl_J0_isLatin1_aae02 in_J0 kc_J0_isLatin1_aae02) hj_J0_isLatin1_aae02 rfl ⟨Nat.le_of_ble_eq_true rfl, Nat.le_of_ble_eq_true rfl⟩ rfl (Nat.le_of_ble_eq_true rfl) hl.1 hcs0 dJ0_charAt_5068e_1 (fun H locs hS _ _ => ?_)
  refine lv_if_eq (tgt := 16) hM.1 hM.2.1 dJ0_charAt_5068e_4 (by decide) (fun q => absurd q (by decide)) (fun _ => ?_)
  refine lv_aload_n hM.1 hM.2.1 dJ0_charAt_5068e_7 rfl (lv_at hl 0 rfl) ?_
  refine vk_getf hM.1 hM.2.1 hSE.2.2.2.2.1 hS hM.2.2.2.1 (hM.2.2.2.2 _ fl_J0_9) (fun _ h => h) dJ0_charAt_5068e_8 ?_
  refine lv_iload_n hM.1 hM.2.1 dJ0_charAt_5068e_11 rfl (lv_at hl 1 rfl) ?_
  refine j_callS (rest := []) hM hSE hS (cj_J1_charAt_3b067 l kS vS hi) (gi_S ml_J0_495 sm_J1_charAt_3b067 in_J1 kc_J1_charAt_3b067) hj_J1_charAt_3b067 rfl ⟨Nat.le_of_ble_eq_true rfl, Nat.le_of_ble_eq_true rfl⟩ rfl (Nat.le_of_ble_eq_true rfl) hl.1 hcs0 dJ0_charAt_5068e_12 (fun H locs hS _ _ => ?_)
  exact hR _ _ _ _ hS dJ0_charAt_5068e_15
