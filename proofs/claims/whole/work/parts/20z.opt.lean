/-! an answer that may be null -/
def optc {β : Type} (v : Option Nat) (a : β) (b : Nat → β) : β := match v with
  | none => a
  | some q => b q
def CtQ (l : Launch) (y : MethodName) (cc : ByteArray) (n : Nat) (ret : Option FieldType) (fr lo : Nat) (lay : List KK) (F : PH → Option (Option Nat)) (as : (Nat → Nat) → List Value) : Prop :=
  ∀ (D : va_G) (G : GG) (ad : Nat → Nat) (X : va_W) (h : PH) (r : Option Nat) (sz : Nat), F h = some r → Met l y (.code y cc n ret :: lw_g) (rmN fr lo) (va_Pc (as ad) (Pw D G ad lay X h sz)) (va_Qq (fun (v : Option Nat) (h' : PH) => v = r.map ad ∧ h' = h) (Bw D G ad lay X sz h) (va_A (encA ad G h 0 lay ++ X) sz)) 0 0 (va_A (encA ad G h 0 lay ++ X) sz)
def RtQ (p : Program) (l : Launch) (e : Env) (R : Room) (s : State) (m : MethodId) (args : Array Value) (below : List Frame) (meth : Method) (c : Code) (cc : ByteArray) (D : va_G) (G : GG) (A : Nat → Prop) (H0 : Heap) (ad : Nat → Nat) (lay : List KK) (X : va_W) (h : PH) (r : Option Nat) (Q : State → Prop) : Prop :=
  ∀ (v : Option Nat) (H : Heap) (locs : List Loc) (pc : Nat) (ls : Array Slot), v = r → Wd D G A H0 ad lay X h s H locs → decode cc pc = .ok (.areturn, 1) → W p l e R s m args below meth c H locs 0 0 Q (F0 m pc ls [va_rf (v.map ad)])
set_option maxHeartbeats 4000000 in
theorem CtQ.mk' {l : Launch} {y : MethodName} {cc : ByteArray} {n : Nat} {fr lo : Nat} {lay : List KK} {F : PH → Option (Option Nat)} {as : (Nat → Nat) → List Value} (own C : String) (hy : plainName y.cls = true) (ho : y.cls = own) (hn : ∀ ad, (lg_sl (as ad)).length ≤ n)
    (walk : ∀ (p : Program) (e : Env) (s : State) (m : MethodId) (args : Array Value) (below : List Frame) (meth : Method) (c : Code) (D : va_G) (G : GG) (A : Nat → Prop) (H0 : Heap) (ad : Nat → Nat) (X : va_W) (h : PH) (r : Option Nat) (H : Heap) (ls : Array Slot) (Q : State → Prop), CallFix p m c cc n s args lw_g own → Wd D G A H0 ad lay X h s H [] → lv_has ls n (lv_args 0 (as ad)) → F h = some r → RtQ p l e (rmN fr lo) s m args below meth c cc D G A H0 ad lay X h r Q → W p l e (rmN fr lo) s m args below meth c H [] 0 0 Q (F0 m 0 ls [])) : CtQ l y cc n (some (.object C)) fr lo lay F as := by
  intro D G ad X h r sz hF
  refine Met.ofW (cc := cc) (maxL := n) (ret := some (.object C)) hy rfl ?_
  intro p e s m args below meth c s₁ B hml hv
  obtain ⟨rfl, hsz, hP, hK, hD0⟩ := hv
  subst hsz
  have hts : ∀ w ∈ (Cond.code y cc n (some (.object C)) :: lw_g), w.before (as ad).toArray s = true := atoms_spec (ws := Cond.code y cc n (some (.object C)) :: lw_g) B.pre
  have hown : s.vm.findClass own = some m.cls := by
    rw [← ho]
    exact findClass_of_methodNamed B.named
  have hM : CallFix p m c cc n s (as ad).toArray lw_g own := ⟨B.exec, B.bytes, hml, hown, fun w hw => hts w (List.mem_cons_of_mem _ hw)⟩
  have hD := hD0.self (sz := s.heap.size)
  have hA : ∀ q : Nat, s.heap.size ≤ q → va_A (encA ad G h 0 lay ++ X) s.heap.size q := fun q h => Or.inr h
  have hw : Wd D G (va_A (encA ad G h 0 lay ++ X) s.heap.size) s.heap ad lay X h s s.heap [] := ⟨hK, hP, hD, va_S.rf, hA⟩
  have hl := lv_entry (as ad) (n := n) (hn ad)
  rw [lg_entry_eq]
  generalize (lg_sl (as ad) ++ List.replicate (n - (lg_sl (as ad)).length) Slot.unset).toArray = ls at hl ⊢
  refine walk p e s m (as ad).toArray below meth c D G _ s.heap ad X h r s.heap ls _ hM hw hl hF ?_
  intro v H locs pc ls hv hw hdg
  refine W.aret B.exec B.bytes B.returns (Or.inl ⟨C, rfl⟩) (va_rf_or _) (fun t ht hW => ⟨⟨v.map ad, h, rfl, ⟨by rw [hv], rfl⟩, by rw [ht]; exact hw.2.1, va_K.moved hW.alike hw.1, hw.2.2.1⟩, hw.2.2.2.1.F ht⟩) (fun q hq => hw.2.2.2.1.2.2 q hq) hdg (hlocks := B.notSynchronized)
theorem x_callVQr {p : Program} {l : Launch} {e : Env} {R : Room} {s : State} {m : MethodId} {args : Array Value} {below : List Frame} {meth : Method} {c : Code} {H : Heap} {locs : List Loc} {Q : State → Prop} {cc : ByteArray} {nL pc : Nat} {own : String} {ls : Array Slot} {rest : List Value} {D : va_G} {G : GG} {A : Nat → Prop} {H0 : Heap} {ad : Nat → Nat} {lay : List KK} {X : va_W} {h : PH} {α : Type} {r0 : α} (hM : CallFix p m c cc nL s args lw_g own) (hw : Wd D G A H0 ad lay X h s H locs) {y : MethodName} {b : ByteArray} {n' fr lo na idx : Nat} {ret : Option FieldType} {F : PH → Option (Option Nat)} {as : (Nat → Nat) → List Value} (hC : CtQ l y b n' ret fr lo lay F as) (As : List Value) {Cn : String} {Tn : u_T} {Nn ci q0 : Nat} {Kc : KK} {fs : List Value} (hrecv : lay[q0]? = some Kc) (hfs : Kc ad G (h.1 q0) (h.2.1 q0) (h.2.2 q0) q0 = .inr (ci, fs)) (hc : vwCl[ci]? = some (Cn, Tn, Nn)) (has : as ad = .ref (ad q0) :: As) (hg : GoodIn lw_g (wsV own idx Cn y (.code y b n' ret :: lw_g))) (hd : y.cls = Cn ∧ y.cls ≠ "java/lang/invoke/MethodHandle" ∧ y.cls ≠ "java/lang/invoke/VarHandle" ∧ (parseMethodDescriptor y.desc).map (fun d => d.parameters.length) = some na) (hlen : As.length = na) (hR : fr + 1 ≤ R.frames ∧ 8 + (n' + 11) + lo ≤ R.locals) {st : List Value} (hst : st = As.reverse ++ .ref (ad q0) :: rest) (hroom : (rest.map fun v => v.category).sum ≤ 8) (hl : ls.size = nL) (hcs : (0 : Nat) ≤ R.cells ∧ (0 : Nat) ≤ R.slots) {B1 : Option α} {B2 : Nat → Option α} (hf : (F h).bind (fun v => optc v B1 B2) = some r0) (hdg : decode cc pc = .ok (.invokevirtual idx, 3))
    (k1 : ∀ (H1 : Heap) (locs1 : List Loc), B1 = some r0 → Wd D G A H0 ad lay X h s H1 locs1 → W p l e R s m args below meth c H1 locs1 0 0 Q (F0 m (pc + 3) ls (.null :: rest)))
    (k2 : ∀ (q : Nat) (H1 : Heap) (locs1 : List Loc), F h = some (some q) → B2 q = some r0 → Wd D G A H0 ad lay X h s H1 locs1 → W p l e R s m args below meth c H1 locs1 0 0 Q (F0 m (pc + 3) ls (.ref (ad q) :: rest))) : W p l e R s m args below meth c H locs 0 0 Q (F0 m pc ls st) := by
  obtain ⟨t, hF, hK⟩ := x_bind hf
  subst hst
  refine va_callq (va_runV (As := As) (rest := rest) (cells := 0) (slots := 0) (mc := 0) (ms := 0) hM (hC D G ad X h t H.size hF) (cwV na hM.2.2.2.2 hg rfl rfl rfl hd hR) ⟨pw_blind, va_recv hw.1 hw.2.1 hc (enc_at hrecv hfs), wd_pre hw (by rw [has])⟩ rfl hlen hl rfl (lv_room hroom) hdg ⟨Nat.zero_le _, Nat.zero_le _⟩) hw.2.2.2.1 (fun q _ hq => wd_free hw q hq) (wd_free hw) (fun r u t1 H1 locs1 ht hvm hq hB hz1 hk1 hS => ?_)
  obtain ⟨hq1, hq2⟩ := hq
  subst hq1
  subst hq2
  cases t with
  | none => exact k1 H1 locs1 hK (wd_back hw ht hvm hB hS)
  | some q => exact k2 q H1 locs1 hF hK (wd_back hw ht hvm hB hS)
