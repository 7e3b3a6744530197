def R_law : String := "ExcuseMarketLaw"
def lw_P (b : Addr) (xs : List Int32) (args : Array Value) (s : State) : Prop := args = #[.ref b] ∧ s.IntsAt b xs ∧ xs.length ≤ 3072 ∧ (Jvm.Cond.and given_1 narrow_1).before args s = true
def lw_Q (_ : Array Value) (s : State) (o : Outcome) (t : State) : Prop := o = .returned (some (.int 1)) ∧ Framed s o t [] 600000 7302250
def lw_Z (below : List Frame) (a : Array Value) (s : State) : State → Prop := fun t => ∃ o, t.status = .running ∧ Ended t below o ∧ lw_Q a s o t
/-- the law's own end, with 1 on the stack, nothing written that was there before, its room as the claim has it -/
theorem lw_ret {p : Program} {l : Launch} {e : Env} {s : State} {m : MethodId} {below : List Frame} {meth : Method} {c : Code} {b : Nat} (hx : p.tables.exec = Jvm.exec) (hb : c.code = code) (hr : meth.sig.returnType = ret) (hlocks : meth.locks = false) {pc : Nat} {H : Heap} {ls : Array Slot} (hdg : decode code pc = .ok (.ireturn, 1)) : W p l e room_1 s m #[Value.ref b] below meth c H [] 600000 7302250 (lw_Z below #[Value.ref b] s) (F0 m pc ls [.int 1]) := by
  intro T hT X
  obtain ⟨fs, hret, hrun, hended, hW, hframe⟩ := X.leave (v := some (.int 1)) (hlocks := hlocks) (fun h => by rw [hr] at h; cases h)
  have hmeth' : T.vm.method? m = some meth := X.method'
  refine ⟨T.setFrames fs, ?_, .returned (some (.int 1)), hrun, hended, rfl, ⟨_, rfl⟩, hW, hframe⟩
  jvm_step X.here [X.here.top, hx, hb, hdg, hmeth', hr, ret, narrow_b1]
  (try refine ⟨rfl, ?_⟩); (try refine ⟨rfl, ?_⟩)
  first | (intro acts; rw [hret _ acts rfl rfl rfl]) | rw [hret _ _ rfl rfl rfl]
  exact Steps.refl _
/-- what holds at the law's entry: the machine, the code, the tables' words (any of lw_tbl by 'hts w (by decide +kernel)'), the script of L ints xs at the cell b, what the Statement gives of the start (any of its parts by flat_of_before) -/
def lw_At (p : Program) (s : State) (m : MethodId) (meth : Method) (c : Code) (b L : Nat) (xs : Nat → Int32) : Prop :=
  p.tables.exec = Jvm.exec ∧ c.code = code ∧ meth.sig.returnType = ret ∧ c.maxLocals = 4 ∧ s.vm.findClass R_law = some m.cls ∧ (∀ w ∈ lw_tbl, w.before #[Value.ref b] s = true) ∧ va_X b L xs s s.heap ∧ b < s.heap.size ∧ meth.locks = false ∧ (Jvm.Cond.and given_1 narrow_1).before #[Value.ref b] s = true
theorem k_prim {ty : FieldType} {args : Array Value} {s : State} (h : (Cond.arrayClass ty).before args s = true) (hp : ∀ C, ty ≠ .object C) : ∃ c : ClassId, ArrOfT s c ty ∧ va_RA s c ty := by
  obtain ⟨c, k, comp, h1, h2, h3⟩ := Cond.arrayClass_spec h
  refine ⟨c, fun n z => ⟨(fun q hq => by cases hq), k, h2, comp, h3⟩, ?_⟩
  cases ty with
  | object C => exact absurd rfl (hp C)
  | _ => exact h1
theorem k_obj {C : String} {args : Array Value} {s : State} (h : (Cond.arrayOver (.object C)).before args s = true) : ∃ c : ClassId, ArrOfT s c (.object C) ∧ va_RA s c (.object C) := by
  obtain ⟨comp, c, k, h1, h2, h3, h4, h5⟩ := Cond.arrayOver_spec h
  exact ⟨c, fun n z => ⟨(fun q hq => by cases hq), k, h3, comp, h4⟩, k, comp, h3, h4, h1, h5⟩
theorem k_arr {t : FieldType} {args : Array Value} {s : State} (h : (Cond.arrayOver (.array t)).before args s = true) : ∃ c : ClassId, ArrOfT s c (.array t) ∧ va_RA s c (.array t) := by
  obtain ⟨comp, c, k, h1, h2, h3, h4⟩ := Cond.arrayOver_specA h
  exact ⟨c, fun n z => ⟨(fun q hq => by cases hq), k, h2, comp, h3⟩, h4⟩
theorem tw_sr : Cond.stringRef RX10 25 "man excuse duty knows test passes wears rain coins seed once if then else day strong wear trust kind ago wet hours heard " ∈ lw_tbl := lw_t1 _ (List.mem_of_getElem? (i := 40) rfl)
theorem tw_ls1 : Cond.laysStatic "java/lang/String" "COMPACT_STRINGS" "Z" ∈ lw_tbl := lw_t1 _ (List.mem_of_getElem? (i := 50) rfl)
theorem tw_ls2 : Cond.laysStatic "jdk/internal/util/Preconditions" "SIOOBE_FORMATTER" "Ljava/util/function/BiFunction;" ∈ lw_tbl := lw_t1 _ (List.mem_of_getElem? (i := 66) rfl)
theorem tw_aoA : Cond.arrayOver (.array .int) ∈ lw_tbl := lw_t1 _ (List.mem_of_getElem? (i := 132) rfl)
theorem tw_aoS : Cond.arrayOver (.object "ExcuseMarket$State") ∈ lw_tbl := lw_t2 _ (List.mem_of_getElem? (i := 88) rfl)
def fl : List Cond := flatC (Jvm.Cond.and given_1 narrow_1)
theorem fl_elem : (List.range 121).map (fun j => Cond.eq (.elem (.field (.string "ExcuseMarket$Tokens" 25) "java/lang/String" "value" "[B") (.int (Int32.ofNat j))) (.int (wB j))) = (fl.drop 13).take 121 := by decide +kernel
theorem sf_start {args : Array Value} {s : State} (hts : ∀ w ∈ lw_tbl, w.before args s = true) : SF s := by
  refine ⟨fun w hw => ?_, va_AO.of (hts _ tw_aoS), hts _ tw_aoA⟩
  simp only [sf_words, List.mem_cons, List.not_mem_nil, or_false] at hw
  rcases hw with rfl | rfl | rfl | rfl | rfl | rfl | rfl | rfl | rfl | rfl
  · exact va_Nw.of rfl (hts _ mn_X11_22)
  · exact va_Nw.of rfl (hts _ mn_X9_38)
  · exact va_Nw.of rfl (hts _ mn_X11_36)
  · exact va_Nw.of rfl (hts _ mn_X5_24)
  · exact va_Nw.of rfl (hts _ mn_X11_61)
  · exact va_Nw.of rfl (hts _ mn_X11_68)
  · exact va_Nw.of rfl (hts _ mn_X7_11)
  · exact va_Nw.of rfl (hts _ mn_X11_75)
  · exact va_Nw.of rfl (hts _ mn_X11_82)
  · exact va_Nw.of rfl (hts _ mn_X11_89)
theorem se_start {args : Array Value} {s : State} (hts : ∀ w ∈ lw_tbl, w.before args s = true) (hgv : (Jvm.Cond.and given_1 narrow_1).before args s = true) : ∃ kS vS : Nat, SE kS vS (fun q => s.heap.size ≤ q) s s.heap ∧ vk_R RX10 25 "man excuse duty knows test passes wears rain coins seed once if then else day strong wear trust kind ago wet hours heard " kS s := by
  have hs := flat_of_before _ hgv
  have hA : ∀ a : Nat, a < s.heap.size → ¬ (fun q => s.heap.size ≤ q) a := fun a h => Nat.not_le.mpr h
  have hex : (Cond.exactly (.string "ExcuseMarket$Tokens" 25) "java/lang/String").before args s = true := hs _ (List.mem_of_getElem? (i := 9) rfl)
  have hco : (Cond.eq (.field (.string "ExcuseMarket$Tokens" 25) "java/lang/String" "coder" "B") (.int 0)).before args s = true := hs _ (List.mem_of_getElem? (i := 10) rfl)
  have har : (Cond.arrayOf (.field (.string "ExcuseMarket$Tokens" 25) "java/lang/String" "value" "[B") .byte).before args s = true := hs _ (List.mem_of_getElem? (i := 11) rfl)
  have hle : (Cond.eq (.length (.field (.string "ExcuseMarket$Tokens" 25) "java/lang/String" "value" "[B")) (.int 121)).before args s = true := hs _ (List.mem_of_getElem? (i := 12) rfl)
  have hel : ∀ j : Nat, j < 121 → (Cond.eq (.elem (.field (.string "ExcuseMarket$Tokens" 25) "java/lang/String" "value" "[B") (.int (Int32.ofNat j))) (.int (wB j))).before args s = true := fun j hj => hs _ (va_run fl_elem j hj)
  have hz : (Cond.eq (.static "java/lang/String" "COMPACT_STRINGS" "Z") (.int 1)).before args s = true := hs _ (List.mem_of_getElem? (i := 4) rfl)
  have hq : (Cond.isRef (.static "jdk/internal/util/Preconditions" "SIOOBE_FORMATTER" "Ljava/util/function/BiFunction;")).before args s = true := hs _ (List.mem_of_getElem? (i := 5) rfl)
  obtain ⟨adK, adV, hS, hev⟩ := vk_Sof (N := 1) (tm := fun _ => (.string "ExcuseMarket$Tokens" 25)) (len := [121]) (byt := [wBl]) (A := fun q => s.heap.size ≤ q) (args := args) (s := s) (fun i hi => by
      have : i = 0 := by omega
      subst this
      decide) (fun i _ => hex) (fun i _ => hco) (fun i _ => har) (fun i hi => by
      have : i = 0 := by omega
      subst this
      exact hle) (fun i hi j hj => by
      have : i = 0 := by omega
      subst this
      exact hel j hj) (fun i j hi hj hne => absurd (by omega) hne) hA
  have h0 := hS.1 0 (by omega)
  have hg := lw_gts hts
  exact ⟨adK 0, adV 0, ⟨va_Zof (hts _ tw_ls1) (hg _ in_J0) (va_eqi hz) hA, va_Zqof (hts _ tw_ls2) (hg _ in_J3) hq hA, h0.1, h0.2.1, h0.2.2.1, h0.2.2.2⟩, vk_R.of (A := args) (hts _ tw_sr) (hev 0 (by omega))⟩
set_option maxHeartbeats 8000000 in
set_option maxRecDepth 100000 in
/-- THE LAW, from its entry, over the pure steps -/
theorem whole_open {I : Nat → PH → PH → Prop} (hI : OpsOK I) (hI0 : I 0 hX11 hX12) {p : Program} {e : Env} {s : State} {m : MethodId} {below : List Frame} {meth : Method} {c : Code} (l : Launch) {b L : Nat} {xs : Nat → Int32} (hL : L ≤ 3072) (C0 : lw_At p s m meth c b L xs) : W p l e room_1 s m #[Value.ref b] below meth c s.heap [] 0 0 (lw_Z below #[Value.ref b] s) (entryFrame m ([Value.ref b] : List Value).toArray 4) := by
  obtain ⟨hx, hb, hr, hml, hown, hts, hX, hbl, hlocks, hgv⟩ := C0
  have hg := lw_gts hts
  have hM : CallFix p m c cL_law 4 s #[Value.ref b] lw_g RL := ⟨hx, hb, hml, hown, hg⟩
  have hSF := sf_start hts
  obtain ⟨kS, vS, hSE, hVR⟩ := se_start hts hgv
  obtain ⟨cX0, iX0, hKX0⟩ := u_known (C := RX0) (T := TX0) (N := 5) (n := 5) hg fw_X0 (hg (.instantiable RX0 5) it_X0)
  obtain ⟨cX1, iX1, hKX1⟩ := u_known (C := RX1) (T := TX1) (N := 1) (n := 1) hg fw_X1 (hg (.instantiable RX1 1) it_X1)
  obtain ⟨cX2, iX2, hKX2⟩ := u_known (C := RX2) (T := TX2) (N := 3) (n := 3) hg fw_X2 (hg (.instantiable RX2 3) it_X2)
  obtain ⟨cX3, iX3, hKX3⟩ := u_known (C := RX3) (T := TX3) (N := 1) (n := 1) hg fw_X3 (hg (.instantiable RX3 1) it_X3)
  obtain ⟨cX4, iX4, hKX4⟩ := u_known (C := RX4) (T := TX4) (N := 7) (n := 7) hg fw_X4 (hg (.instantiable RX4 7) it_X4)
  obtain ⟨cX5, iX5, hKX5⟩ := u_known (C := RX5) (T := TX5) (N := 3) (n := 3) hg fw_X5 (hg (.instantiable RX5 3) it_X5)
  obtain ⟨cX6, iX6, hKX6⟩ := u_known (C := RX6) (T := TX6) (N := 5) (n := 5) hg fw_X6 (hg (.instantiable RX6 5) it_X6)
  obtain ⟨cX7, iX7, hKX7⟩ := u_known (C := RX7) (T := TX7) (N := 7) (n := 7) hg fw_X7 (hg (.instantiable RX7 7) it_X7)
  obtain ⟨cX8, iX8, hKX8⟩ := u_known (C := RX8) (T := TX8) (N := 9) (n := 9) hg fw_X8 (hg (.instantiable RX8 9) it_X8)
  obtain ⟨cX9, iX9, hKX9⟩ := u_known (C := RX9) (T := TX9) (N := 18) (n := 18) hg fw_X9 (hg (.instantiable RX9 18) it_X9)
  obtain ⟨cX10, iX10, hKX10⟩ := u_known (C := RX10) (T := TX10) (N := 4) (n := 4) hg fw_X10 (hg (.instantiable RX10 4) it_X10)
  obtain ⟨cX11, iX11, hKX11⟩ := u_known (C := RX11) (T := TX11) (N := 15) (n := 15) hg fw_X11 (hg (.instantiable RX11 15) it_X11)
  obtain ⟨cX12, iX12, hKX12⟩ := u_known (C := RX12) (T := TX12) (N := 79) (n := 79) hg fw_X12 (hg (.instantiable RX12 79) it_X12)
  obtain ⟨dC, dI, hKc⟩ : ∃ (dC : Nat → ClassId) (dI : Nat → Nat → Nat), ∀ (k : Nat) (q : vw_C), vwCl[k]? = some q → u_Kn s q.1 q.2.1 q.2.2 (dC k) (dI k) := by
    refine ⟨fun k => [cX0, cX1, cX2, cX3, cX4, cX5, cX6, cX7, cX8, cX9, cX10, cX11, cX12].getD k cX0, fun k => [iX0, iX1, iX2, iX3, iX4, iX5, iX6, iX7, iX8, iX9, iX10, iX11, iX12].getD k iX0, ?_⟩
    intro k q hq
    match k, hq with
    | 0, hq => cases hq; exact hKX0
    | 1, hq => cases hq; exact hKX1
    | 2, hq => cases hq; exact hKX2
    | 3, hq => cases hq; exact hKX3
    | 4, hq => cases hq; exact hKX4
    | 5, hq => cases hq; exact hKX5
    | 6, hq => cases hq; exact hKX6
    | 7, hq => cases hq; exact hKX7
    | 8, hq => cases hq; exact hKX8
    | 9, hq => cases hq; exact hKX9
    | 10, hq => cases hq; exact hKX10
    | 11, hq => cases hq; exact hKX11
    | 12, hq => cases hq; exact hKX12
    | k + 13, hq => simp [vwCl] at hq
  obtain ⟨gB, hB1, hB2⟩ := k_prim (hg _ ac_B) (by intro C h; cases h)
  obtain ⟨gI, hI1, hI2⟩ := k_prim (hg _ ac_I) (by intro C h; cases h)
  obtain ⟨gJ, hJ1, hJ2⟩ := k_prim (hg _ ac_J) (by intro C h; cases h)
  obtain ⟨gZ, hZ1, hZ2⟩ := k_prim (hg _ ac_Z) (by intro C h; cases h)
  obtain ⟨gS, hS1, hS2⟩ := k_obj (hts _ tw_aoS)
  obtain ⟨gA, hA1, hA2⟩ := k_arr (hts _ tw_aoA)
  obtain ⟨G, hG⟩ : ∃ G : GG, G = (gB, gI, gJ, gZ, gS, gA) := ⟨_, rfl⟩
  obtain ⟨D, hDD⟩ : ∃ D : va_G, D = (dC, dI) := ⟨_, rfl⟩
  have hK : va_K D vwCl (tysOf G) s := by
    rw [hDD, hG]
    refine ⟨hKc, fun k q hq => ?_⟩
    match k, hq with
    | 0, hq => cases hq; exact ⟨hB1, hB2⟩
    | 1, hq => cases hq; exact ⟨hI1, hI2⟩
    | 2, hq => cases hq; exact ⟨hJ1, hJ2⟩
    | 3, hq => cases hq; exact ⟨hZ1, hZ2⟩
    | 4, hq => cases hq; exact ⟨hS1, hS2⟩
    | 5, hq => cases hq; exact ⟨hA1, hA2⟩
    | k + 6, hq => simp [tysOf] at hq
  clear hG hDD
  have hw : Wn D G (fun q : Nat => s.heap.size ≤ q) s.heap ([] ++ ([] : va_W)) s s.heap [] := ⟨hK, fun k q h => by simp at h, ⟨fun i j p q h => by simp at h, fun k q h => by simp at h⟩, va_S.rf, fun q h => h⟩
  have hl := lv_entry ([.ref b]) (n := 4) (Nat.le_of_ble_eq_true rfl)
  rw [lg_entry_eq]
  generalize (lg_sl ([.ref b]) ++ List.replicate (4 - (lg_sl ([.ref b])).length) Slot.unset).toArray = ls at hl ⊢
  have hl : lv_has ls 4 [(0, .ref b)] := hl
  refine n_new (Y := []) (L := []) (ci := 11) hM hw fw_X11 tyX11_ok cl_L_7 it_X11 in_X11 rfl [.null, .int 0, .int 0, .null, .null, .null, .null, .null, .null, .null, .null, .null, .null, .null, .null] (fun j hj => match j, hj with | 0, _ => rfl | 1, _ => rfl | 2, _ => rfl | 3, _ => rfl | 4, _ => rfl | 5, _ => rfl | 6, _ => rfl | 7, _ => rfl | 8, _ => rfl | 9, _ => rfl | 10, _ => rfl | 11, _ => rfl | 12, _ => rfl | 13, _ => rfl | 14, _ => rfl | j + 15, h => absurd h (by omega)) (Nat.le_of_ble_eq_true rfl) (Nat.le_of_ble_eq_true rfl) dL_law_0 (fun q1 H hw => ?_)
  refine lv_dup hM.1 hM.2.1 dL_law_3 rfl ?_
  refine n_ctor2 (Y := []) (L := []) (rest := [.ref q1]) hM hSF (Nat.le_refl _) (fun x h => h) hSE hVR (ctn_X11 l) hw in_X11 ml_L_9 im_X11_init kc_X11_init rfl ⟨by decide, by decide, by decide +kernel⟩ ⟨Nat.le_of_ble_eq_true rfl, Nat.le_of_ble_eq_true rfl⟩ (Nat.le_of_ble_eq_true rfl) hl.1 ⟨Nat.le_of_ble_eq_true rfl, Nat.le_of_ble_eq_true rfl⟩ dL_law_4 (fun u H locs hu hw => ?_)
  refine lv_astore_n (lv' := [(1, .ref q1), (0, .ref b)]) hM.1 hM.2.1 dL_law_7 rfl hl (by decide) rfl (fun ls hl => ?_)
  have hw := wn_eq (W1 := encA u G hX11 0 layX11 ++ ([] : va_W)) (by simp only [List.nil_append, List.append_nil]) hw
  refine n_new (Y := encA u G hX11 0 layX11) (L := []) (ci := 12) hM hw fw_X12 tyX12_ok cl_L_10 it_X12 in_X12 rfl [.int 0, .null, .int 0, .null, .int 0, .null, .null, .null, .null, .null, .int 0, .int 0, .int 0, .int 0, .int 0, .int 0, .int 0, .int 0, .int 0, .int 0, .int 0, .null, .null, .null, .null, .null, .null, .null, .null, .null, .null, .null, .null, .null, .null, .null, .null, .null, .null, .null, .null, .null, .null, .null, .null, .null, .int 0, .null, .null, .null, .null, .null, .int 0, .null, .null, .null, .int 0, .null, .null, .int 0, .null, .null, .int 0, .int 0, .null, .int 0, .int 0, .int 0, .null, .null, .null, .null, .int 0, .null, .null, .null, .null, .null, .null] (fun j hj => match j, hj with | 0, _ => rfl | 1, _ => rfl | 2, _ => rfl | 3, _ => rfl | 4, _ => rfl | 5, _ => rfl | 6, _ => rfl | 7, _ => rfl | 8, _ => rfl | 9, _ => rfl | 10, _ => rfl | 11, _ => rfl | 12, _ => rfl | 13, _ => rfl | 14, _ => rfl | 15, _ => rfl | 16, _ => rfl | 17, _ => rfl | 18, _ => rfl | 19, _ => rfl | 20, _ => rfl | 21, _ => rfl | 22, _ => rfl | 23, _ => rfl | 24, _ => rfl | 25, _ => rfl | 26, _ => rfl | 27, _ => rfl | 28, _ => rfl | 29, _ => rfl | 30, _ => rfl | 31, _ => rfl | 32, _ => rfl | 33, _ => rfl | 34, _ => rfl | 35, _ => rfl | 36, _ => rfl | 37, _ => rfl | 38, _ => rfl | 39, _ => rfl | 40, _ => rfl | 41, _ => rfl | 42, _ => rfl | 43, _ => rfl | 44, _ => rfl | 45, _ => rfl | 46, _ => rfl | 47, _ => rfl | 48, _ => rfl | 49, _ => rfl | 50, _ => rfl | 51, _ => rfl | 52, _ => rfl | 53, _ => rfl | 54, _ => rfl | 55, _ => rfl | 56, _ => rfl | 57, _ => rfl | 58, _ => rfl | 59, _ => rfl | 60, _ => rfl | 61, _ => rfl | 62, _ => rfl | 63, _ => rfl | 64, _ => rfl | 65, _ => rfl | 66, _ => rfl | 67, _ => rfl | 68, _ => rfl | 69, _ => rfl | 70, _ => rfl | 71, _ => rfl | 72, _ => rfl | 73, _ => rfl | 74, _ => rfl | 75, _ => rfl | 76, _ => rfl | 77, _ => rfl | 78, _ => rfl | j + 79, h => absurd h (by omega)) (Nat.le_of_ble_eq_true rfl) (Nat.le_of_ble_eq_true rfl) dL_law_8 (fun q2 H hw => ?_)
  refine lv_dup hM.1 hM.2.1 dL_law_11 rfl ?_
  refine n_ctor (Y := encA u G hX11 0 layX11) (L := []) (rest := [.ref q2]) hM hSF (ctn_X12 l) hw in_X12 ml_L_12 im_X12_init kc_X12_init rfl ⟨by decide, by decide, by decide +kernel⟩ ⟨Nat.le_of_ble_eq_true rfl, Nat.le_of_ble_eq_true rfl⟩ (Nat.le_of_ble_eq_true rfl) hl.1 ⟨Nat.le_of_ble_eq_true rfl, Nat.le_of_ble_eq_true rfl⟩ dL_law_12 (fun v H locs hv hw => ?_)
  refine lv_astore_n (lv' := [(2, .ref q2), (1, .ref q1), (0, .ref b)]) hM.1 hM.2.1 dL_law_15 rfl hl (by decide) rfl (fun ls hl => ?_)
  refine lv_iconst (v := 0) hM.1 hM.2.1 dL_law_16 ic_0 ?_
  refine lv_istore_n (lv' := [(3, .int (nI (6 * 0))), (2, .ref q2), (1, .ref q1), (0, .ref b)]) hM.1 hM.2.1 dL_law_17 rfl hl (by decide) rfl (fun ls hl => ?_)
  refine W.widen (k := 600000) (n := 7302250) (Nat.le_of_ble_eq_true rfl) (Nat.le_of_ble_eq_true rfl) ?_
  rw [← hu, ← hv] at hl
  refine law_loop (adC := u) (adR := v) (layC := layX11) (layR := layX12) (L := L) (xs := xs) hI hM hX hbl ⟨Nat.le_of_ble_eq_true rfl, Nat.le_of_ble_eq_true rfl⟩ ok_layX11 ok_layX12 hL ?_ (L + 1) 0 (by omega) hX11 hX12 H locs ls (by omega) hI0 hw (lv_sub hl [3, 2, 1, 0] rfl)
  intro H locs ls hS
  refine lv_iconst (v := 1) hM.1 hM.2.1 dL_law_1241 ic_1 ?_
  refine va_forget hS.2.2 ?_
  exact lw_ret hx hb hr hlocks dL_law_1242
