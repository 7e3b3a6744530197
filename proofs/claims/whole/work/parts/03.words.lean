/-- the tables' words that last over a call -/
def lw_g : List Cond := lw_tbl.filter goodWord
theorem lw_g_of {w : Cond} (h : w ∈ lw_tbl) (hg : goodWord w = true) : w ∈ lw_g := List.mem_filter.mpr ⟨h, hg⟩
theorem lw_g_good : ∀ w ∈ lw_g, goodWord w = true := fun w h => (List.mem_filter.mp h).2
theorem lw_g_tbl : ∀ w ∈ lw_g, w ∈ lw_tbl := fun w h => (List.mem_filter.mp h).1
theorem lw_g_all {ws : List Cond} (big : List Cond) (hb : ∀ w ∈ big, w ∈ lw_tbl) (ps : List Nat) (h : ws = ps.filterMap (fun i => big[i]?)) (hg : ws.all goodWord = true) : ∀ w ∈ ws, w ∈ lw_g := by
  intro w hw
  refine List.mem_filter.mpr ⟨?_, List.all_eq_true.mp hg w hw⟩
  rw [h] at hw
  obtain ⟨i, -, hi⟩ := List.mem_filterMap.mp hw
  exact hb w (List.mem_of_getElem? hi)
theorem lw_t1 : ∀ w ∈ tables_1_1, w ∈ lw_tbl := fun w h => List.mem_append_right _ (List.mem_append_left _ (h))
theorem lw_t2 : ∀ w ∈ tables_1_2, w ∈ lw_tbl := fun w h => List.mem_append_right _ (List.mem_append_right _ (List.mem_append_left _ (h)))
theorem lw_t3 : ∀ w ∈ tables_1_3, w ∈ lw_tbl := fun w h => List.mem_append_right _ (List.mem_append_right _ (List.mem_append_right _ (List.mem_append_left _ (h))))
theorem lw_t4 : ∀ w ∈ tables_1_4, w ∈ lw_tbl := fun w h => List.mem_append_right _ (List.mem_append_right _ (List.mem_append_right _ (List.mem_append_right _ (List.mem_append_left _ (h)))))
theorem lw_t5 : ∀ w ∈ tables_1_5, w ∈ lw_tbl := fun w h => List.mem_append_right _ (List.mem_append_right _ (List.mem_append_right _ (List.mem_append_right _ (List.mem_append_right _ (List.mem_append_left _ (h))))))
theorem lw_t6 : ∀ w ∈ tables_1_6, w ∈ lw_tbl := fun w h => List.mem_append_right _ (List.mem_append_right _ (List.mem_append_right _ (List.mem_append_right _ (List.mem_append_right _ (List.mem_append_right _ (List.mem_append_left _ (h)))))))
theorem lw_t7 : ∀ w ∈ tables_1_7, w ∈ lw_tbl := fun w h => List.mem_append_right _ (List.mem_append_right _ (List.mem_append_right _ (List.mem_append_right _ (List.mem_append_right _ (List.mem_append_right _ (List.mem_append_right _ (List.mem_append_left _ (h))))))))
theorem lw_t8 : ∀ w ∈ tables_1_8, w ∈ lw_tbl := fun w h => List.mem_append_right _ (List.mem_append_right _ (List.mem_append_right _ (List.mem_append_right _ (List.mem_append_right _ (List.mem_append_right _ (List.mem_append_right _ (List.mem_append_right _ (h))))))))
theorem lw_s1 : ∀ q ∈ lw_privs_1, Cond.selects q.1.cls q.1 q.1 ∈ lw_tbl := fun q h => List.mem_append_left _ (List.mem_map.mpr ⟨q, List.mem_append_left _ (h), rfl⟩)
theorem lw_s2 : ∀ q ∈ lw_privs_2, Cond.selects q.1.cls q.1 q.1 ∈ lw_tbl := fun q h => List.mem_append_left _ (List.mem_map.mpr ⟨q, List.mem_append_right _ (List.mem_append_left _ (h)), rfl⟩)
theorem lw_s3 : ∀ q ∈ lw_privs_3, Cond.selects q.1.cls q.1 q.1 ∈ lw_tbl := fun q h => List.mem_append_left _ (List.mem_map.mpr ⟨q, List.mem_append_right _ (List.mem_append_right _ (List.mem_append_left _ (h))), rfl⟩)
theorem lw_s4 : ∀ q ∈ lw_privs_4, Cond.selects q.1.cls q.1 q.1 ∈ lw_tbl := fun q h => List.mem_append_left _ (List.mem_map.mpr ⟨q, List.mem_append_right _ (List.mem_append_right _ (List.mem_append_right _ (List.mem_append_left _ (h)))), rfl⟩)
theorem lw_s5 : ∀ q ∈ lw_privs_5, Cond.selects q.1.cls q.1 q.1 ∈ lw_tbl := fun q h => List.mem_append_left _ (List.mem_map.mpr ⟨q, List.mem_append_right _ (List.mem_append_right _ (List.mem_append_right _ (List.mem_append_right _ (List.mem_append_left _ (h))))), rfl⟩)
theorem lw_s6 : ∀ q ∈ lw_privs_6, Cond.selects q.1.cls q.1 q.1 ∈ lw_tbl := fun q h => List.mem_append_left _ (List.mem_map.mpr ⟨q, List.mem_append_right _ (List.mem_append_right _ (List.mem_append_right _ (List.mem_append_right _ (List.mem_append_right _ (List.mem_append_left _ (h)))))), rfl⟩)
theorem lw_s7 : ∀ q ∈ lw_privs_7, Cond.selects q.1.cls q.1 q.1 ∈ lw_tbl := fun q h => List.mem_append_left _ (List.mem_map.mpr ⟨q, List.mem_append_right _ (List.mem_append_right _ (List.mem_append_right _ (List.mem_append_right _ (List.mem_append_right _ (List.mem_append_right _ (h)))))), rfl⟩)
theorem sl_X11_writeWord : Cond.selects RX11 yX11_writeWord yX11_writeWord ∈ lw_g := lw_g_of (lw_s1 _ (List.mem_of_getElem? (i := 0) (a := (yX11_writeWord, 15)) rfl)) rfl
theorem sl_X10_put : Cond.selects RX10 yX10_put yX10_put ∈ lw_g := lw_g_of (lw_s1 _ (List.mem_of_getElem? (i := 1) (a := (yX10_put, 4)) rfl)) rfl
theorem sl_X10_kindOf : Cond.selects RX10 yX10_kindOf yX10_kindOf ∈ lw_g := lw_g_of (lw_s1 _ (List.mem_of_getElem? (i := 2) (a := (yX10_kindOf, 4)) rfl)) rfl
theorem sl_X4_kind : Cond.selects RX4 yX4_kind yX4_kind ∈ lw_g := lw_g_of (lw_s1 _ (List.mem_of_getElem? (i := 3) (a := (yX4_kind, 7)) rfl)) rfl
theorem sl_X4_tellMan : Cond.selects RX4 yX4_tellMan yX4_tellMan ∈ lw_g := lw_g_of (lw_s1 _ (List.mem_of_getElem? (i := 4) (a := (yX4_tellMan, 7)) rfl)) rfl
theorem sl_X4_open : Cond.selects RX4 yX4_open yX4_open ∈ lw_g := lw_g_of (lw_s1 _ (List.mem_of_getElem? (i := 5) (a := (yX4_open, 7)) rfl)) rfl
theorem sl_X4_breakOff : Cond.selects RX4 yX4_breakOff yX4_breakOff ∈ lw_g := lw_g_of (lw_s1 _ (List.mem_of_getElem? (i := 6) (a := (yX4_breakOff, 7)) rfl)) rfl
theorem sl_X4_accept : Cond.selects RX4 yX4_accept yX4_accept ∈ lw_g := lw_g_of (lw_s1 _ (List.mem_of_getElem? (i := 7) (a := (yX4_accept, 7)) rfl)) rfl
theorem sl_X4_newName : Cond.selects RX4 yX4_newName yX4_newName ∈ lw_g := lw_g_of (lw_s1 _ (List.mem_of_getElem? (i := 8) (a := (yX4_newName, 7)) rfl)) rfl
theorem sl_X4_placeHere : Cond.selects RX4 yX4_placeHere yX4_placeHere ∈ lw_g := lw_g_of (lw_s1 _ (List.mem_of_getElem? (i := 9) (a := (yX4_placeHere, 7)) rfl)) rfl
theorem sl_X4_complain : Cond.selects RX4 yX4_complain yX4_complain ∈ lw_g := lw_g_of (lw_s1 _ (List.mem_of_getElem? (i := 10) (a := (yX4_complain, 7)) rfl)) rfl
theorem sl_X4_number : Cond.selects RX4 yX4_number yX4_number ∈ lw_g := lw_g_of (lw_s1 _ (List.mem_of_getElem? (i := 11) (a := (yX4_number, 7)) rfl)) rfl
theorem sl_X4_tellExcuse : Cond.selects RX4 yX4_tellExcuse yX4_tellExcuse ∈ lw_g := lw_g_of (lw_s1 _ (List.mem_of_getElem? (i := 12) (a := (yX4_tellExcuse, 7)) rfl)) rfl
theorem sl_X4_tellDuty : Cond.selects RX4 yX4_tellDuty yX4_tellDuty ∈ lw_g := lw_g_of (lw_s1 _ (List.mem_of_getElem? (i := 13) (a := (yX4_tellDuty, 7)) rfl)) rfl
theorem sl_X4_toldName : Cond.selects RX4 yX4_toldName yX4_toldName ∈ lw_g := lw_g_of (lw_s1 _ (List.mem_of_getElem? (i := 14) (a := (yX4_toldName, 7)) rfl)) rfl
theorem sl_X4_tellKnows : Cond.selects RX4 yX4_tellKnows yX4_tellKnows ∈ lw_g := lw_g_of (lw_s1 _ (List.mem_of_getElem? (i := 15) (a := (yX4_tellKnows, 7)) rfl)) rfl
theorem sl_X4_tellTest : Cond.selects RX4 yX4_tellTest yX4_tellTest ∈ lw_g := lw_g_of (lw_s2 _ (List.mem_of_getElem? (i := 0) (a := (yX4_tellTest, 7)) rfl)) rfl
theorem sl_X4_tellLaw : Cond.selects RX4 yX4_tellLaw yX4_tellLaw ∈ lw_g := lw_g_of (lw_s2 _ (List.mem_of_getElem? (i := 1) (a := (yX4_tellLaw, 7)) rfl)) rfl
theorem sl_X4_sum : Cond.selects RX4 yX4_sum yX4_sum ∈ lw_g := lw_g_of (lw_s2 _ (List.mem_of_getElem? (i := 2) (a := (yX4_sum, 7)) rfl)) rfl
theorem sl_X4_product : Cond.selects RX4 yX4_product yX4_product ∈ lw_g := lw_g_of (lw_s2 _ (List.mem_of_getElem? (i := 3) (a := (yX4_product, 7)) rfl)) rfl
theorem sl_X4_unit : Cond.selects RX4 yX4_unit yX4_unit ∈ lw_g := lw_g_of (lw_s2 _ (List.mem_of_getElem? (i := 4) (a := (yX4_unit, 7)) rfl)) rfl
theorem sl_X4_setting : Cond.selects RX4 yX4_setting yX4_setting ∈ lw_g := lw_g_of (lw_s2 _ (List.mem_of_getElem? (i := 5) (a := (yX4_setting, 7)) rfl)) rfl
theorem sl_X11_beginAnew : Cond.selects RX11 yX11_beginAnew yX11_beginAnew ∈ lw_g := lw_g_of (lw_s2 _ (List.mem_of_getElem? (i := 6) (a := (yX11_beginAnew, 15)) rfl)) rfl
theorem sl_X1_meet : Cond.selects RX1 yX1_meet yX1_meet ∈ lw_g := lw_g_of (lw_s2 _ (List.mem_of_getElem? (i := 7) (a := (yX1_meet, 1)) rfl)) rfl
theorem sl_X1_look : Cond.selects RX1 yX1_look yX1_look ∈ lw_g := lw_g_of (lw_s2 _ (List.mem_of_getElem? (i := 8) (a := (yX1_look, 1)) rfl)) rfl
theorem sl_X8_kindTold : Cond.selects RX8 yX8_kindTold yX8_kindTold ∈ lw_g := lw_g_of (lw_s2 _ (List.mem_of_getElem? (i := 9) (a := (yX8_kindTold, 9)) rfl)) rfl
theorem sl_X2_landing : Cond.selects RX2 yX2_landing yX2_landing ∈ lw_g := lw_g_of (lw_s2 _ (List.mem_of_getElem? (i := 10) (a := (yX2_landing, 3)) rfl)) rfl
theorem sl_X11_isShopping : Cond.selects RX11 yX11_isShopping yX11_isShopping ∈ lw_g := lw_g_of (lw_s2 _ (List.mem_of_getElem? (i := 11) (a := (yX11_isShopping, 15)) rfl)) rfl
theorem sl_X7_list : Cond.selects RX7 yX7_list yX7_list ∈ lw_g := lw_g_of (lw_s2 _ (List.mem_of_getElem? (i := 12) (a := (yX7_list, 7)) rfl)) rfl
theorem sl_X7_dayOf : Cond.selects RX7 yX7_dayOf yX7_dayOf ∈ lw_g := lw_g_of (lw_s2 _ (List.mem_of_getElem? (i := 13) (a := (yX7_dayOf, 7)) rfl)) rfl
theorem sl_X7_choose : Cond.selects RX7 yX7_choose yX7_choose ∈ lw_g := lw_g_of (lw_s2 _ (List.mem_of_getElem? (i := 14) (a := (yX7_choose, 7)) rfl)) rfl
theorem sl_X7_coinsFor : Cond.selects RX7 yX7_coinsFor yX7_coinsFor ∈ lw_g := lw_g_of (lw_s2 _ (List.mem_of_getElem? (i := 15) (a := (yX7_coinsFor, 7)) rfl)) rfl
theorem sl_X7_usesOnceAgain : Cond.selects RX7 yX7_usesOnceAgain yX7_usesOnceAgain ∈ lw_g := lw_g_of (lw_s3 _ (List.mem_of_getElem? (i := 0) (a := (yX7_usesOnceAgain, 7)) rfl)) rfl
theorem sl_X7_works : Cond.selects RX7 yX7_works yX7_works ∈ lw_g := lw_g_of (lw_s3 _ (List.mem_of_getElem? (i := 1) (a := (yX7_works, 7)) rfl)) rfl
theorem sl_X7_keepChosen : Cond.selects RX7 yX7_keepChosen yX7_keepChosen ∈ lw_g := lw_g_of (lw_s3 _ (List.mem_of_getElem? (i := 2) (a := (yX7_keepChosen, 7)) rfl)) rfl
theorem sl_X8_toldTwoThings : Cond.selects RX8 yX8_toldTwoThings yX8_toldTwoThings ∈ lw_g := lw_g_of (lw_s3 _ (List.mem_of_getElem? (i := 3) (a := (yX8_toldTwoThings, 9)) rfl)) rfl
theorem sl_X9_friendsOf : Cond.selects RX9 yX9_friendsOf yX9_friendsOf ∈ lw_g := lw_g_of (lw_s3 _ (List.mem_of_getElem? (i := 4) (a := (yX9_friendsOf, 18)) rfl)) rfl
theorem sl_X9_tellsAllApart : Cond.selects RX9 yX9_tellsAllApart yX9_tellsAllApart ∈ lw_g := lw_g_of (lw_s3 _ (List.mem_of_getElem? (i := 5) (a := (yX9_tellsAllApart, 18)) rfl)) rfl
theorem sl_X9_tellsApart : Cond.selects RX9 yX9_tellsApart yX9_tellsApart ∈ lw_g := lw_g_of (lw_s3 _ (List.mem_of_getElem? (i := 6) (a := (yX9_tellsApart, 18)) rfl)) rfl
theorem sl_X3_ask : Cond.selects RX3 yX3_ask yX3_ask ∈ lw_g := lw_g_of (lw_s3 _ (List.mem_of_getElem? (i := 7) (a := (yX3_ask, 1)) rfl)) rfl
theorem sl_X3_isRest : Cond.selects RX3 yX3_isRest yX3_isRest ∈ lw_g := lw_g_of (lw_s3 _ (List.mem_of_getElem? (i := 8) (a := (yX3_isRest, 1)) rfl)) rfl
theorem sl_X3_gain : Cond.selects RX3 yX3_gain yX3_gain ∈ lw_g := lw_g_of (lw_s3 _ (List.mem_of_getElem? (i := 9) (a := (yX3_gain, 1)) rfl)) rfl
theorem sl_X6_collect : Cond.selects RX6 yX6_collect yX6_collect ∈ lw_g := lw_g_of (lw_s3 _ (List.mem_of_getElem? (i := 10) (a := (yX6_collect, 5)) rfl)) rfl
theorem sl_X11_slotAt : Cond.selects RX11 yX11_slotAt yX11_slotAt ∈ lw_g := lw_g_of (lw_s3 _ (List.mem_of_getElem? (i := 11) (a := (yX11_slotAt, 15)) rfl)) rfl
theorem sl_X11_slotsHeld : Cond.selects RX11 yX11_slotsHeld yX11_slotsHeld ∈ lw_g := lw_g_of (lw_s3 _ (List.mem_of_getElem? (i := 12) (a := (yX11_slotsHeld, 15)) rfl)) rfl
theorem sl_X12_plain : Cond.selects RX12 yX12_plain yX12_plain ∈ lw_g := lw_g_of (lw_s3 _ (List.mem_of_getElem? (i := 13) (a := (yX12_plain, 79)) rfl)) rfl
theorem sl_X12_begins : Cond.selects RX12 yX12_begins yX12_begins ∈ lw_g := lw_g_of (lw_s3 _ (List.mem_of_getElem? (i := 14) (a := (yX12_begins, 79)) rfl)) rfl
theorem sl_X12_keepsRow : Cond.selects RX12 yX12_keepsRow yX12_keepsRow ∈ lw_g := lw_g_of (lw_s3 _ (List.mem_of_getElem? (i := 15) (a := (yX12_keepsRow, 79)) rfl)) rfl
theorem sl_X12_put : Cond.selects RX12 yX12_put yX12_put ∈ lw_g := lw_g_of (lw_s4 _ (List.mem_of_getElem? (i := 0) (a := (yX12_put, 79)) rfl)) rfl
theorem sl_X12_cut : Cond.selects RX12 yX12_cut yX12_cut ∈ lw_g := lw_g_of (lw_s4 _ (List.mem_of_getElem? (i := 1) (a := (yX12_cut, 79)) rfl)) rfl
theorem sl_X12_byteAt : Cond.selects RX12 yX12_byteAt yX12_byteAt ∈ lw_g := lw_g_of (lw_s4 _ (List.mem_of_getElem? (i := 2) (a := (yX12_byteAt, 79)) rfl)) rfl
theorem sl_X12_token : Cond.selects RX12 yX12_token yX12_token ∈ lw_g := lw_g_of (lw_s4 _ (List.mem_of_getElem? (i := 3) (a := (yX12_token, 79)) rfl)) rfl
theorem sl_X12_sign : Cond.selects RX12 yX12_sign yX12_sign ∈ lw_g := lw_g_of (lw_s4 _ (List.mem_of_getElem? (i := 4) (a := (yX12_sign, 79)) rfl)) rfl
theorem sl_X12_is : Cond.selects RX12 yX12_is yX12_is ∈ lw_g := lw_g_of (lw_s4 _ (List.mem_of_getElem? (i := 5) (a := (yX12_is, 79)) rfl)) rfl
theorem sl_X12_tellOne : Cond.selects RX12 yX12_tellOne yX12_tellOne ∈ lw_g := lw_g_of (lw_s4 _ (List.mem_of_getElem? (i := 6) (a := (yX12_tellOne, 79)) rfl)) rfl
theorem sl_X12_roomFor : Cond.selects RX12 yX12_roomFor yX12_roomFor ∈ lw_g := lw_g_of (lw_s4 _ (List.mem_of_getElem? (i := 7) (a := (yX12_roomFor, 79)) rfl)) rfl
theorem sl_X12_fail : Cond.selects RX12 yX12_fail yX12_fail ∈ lw_g := lw_g_of (lw_s4 _ (List.mem_of_getElem? (i := 8) (a := (yX12_fail, 79)) rfl)) rfl
theorem sl_X12_goesOn : Cond.selects RX12 yX12_goesOn yX12_goesOn ∈ lw_g := lw_g_of (lw_s4 _ (List.mem_of_getElem? (i := 9) (a := (yX12_goesOn, 79)) rfl)) rfl
theorem sl_X12_tellMan : Cond.selects RX12 yX12_tellMan yX12_tellMan ∈ lw_g := lw_g_of (lw_s4 _ (List.mem_of_getElem? (i := 10) (a := (yX12_tellMan, 79)) rfl)) rfl
theorem sl_X12_named : Cond.selects RX12 yX12_named yX12_named ∈ lw_g := lw_g_of (lw_s4 _ (List.mem_of_getElem? (i := 11) (a := (yX12_named, 79)) rfl)) rfl
theorem sl_X12_must : Cond.selects RX12 yX12_must yX12_must ∈ lw_g := lw_g_of (lw_s4 _ (List.mem_of_getElem? (i := 12) (a := (yX12_must, 79)) rfl)) rfl
theorem sl_X12_wrong : Cond.selects RX12 yX12_wrong yX12_wrong ∈ lw_g := lw_g_of (lw_s4 _ (List.mem_of_getElem? (i := 13) (a := (yX12_wrong, 79)) rfl)) rfl
theorem sl_X12_bounded : Cond.selects RX12 yX12_bounded yX12_bounded ∈ lw_g := lw_g_of (lw_s4 _ (List.mem_of_getElem? (i := 14) (a := (yX12_bounded, 79)) rfl)) rfl
theorem sl_X12_notes : Cond.selects RX12 yX12_notes yX12_notes ∈ lw_g := lw_g_of (lw_s4 _ (List.mem_of_getElem? (i := 15) (a := (yX12_notes, 79)) rfl)) rfl
theorem sl_X12_tellExcuse : Cond.selects RX12 yX12_tellExcuse yX12_tellExcuse ∈ lw_g := lw_g_of (lw_s5 _ (List.mem_of_getElem? (i := 0) (a := (yX12_tellExcuse, 79)) rfl)) rfl
theorem sl_X12_tellDuty : Cond.selects RX12 yX12_tellDuty yX12_tellDuty ∈ lw_g := lw_g_of (lw_s5 _ (List.mem_of_getElem? (i := 1) (a := (yX12_tellDuty, 79)) rfl)) rfl
theorem sl_X12_known : Cond.selects RX12 yX12_known yX12_known ∈ lw_g := lw_g_of (lw_s5 _ (List.mem_of_getElem? (i := 2) (a := (yX12_known, 79)) rfl)) rfl
theorem sl_X12_tellKnows : Cond.selects RX12 yX12_tellKnows yX12_tellKnows ∈ lw_g := lw_g_of (lw_s5 _ (List.mem_of_getElem? (i := 3) (a := (yX12_tellKnows, 79)) rfl)) rfl
theorem sl_X12_tellTest : Cond.selects RX12 yX12_tellTest yX12_tellTest ∈ lw_g := lw_g_of (lw_s5 _ (List.mem_of_getElem? (i := 4) (a := (yX12_tellTest, 79)) rfl)) rfl
theorem sl_X12_tellLaw : Cond.selects RX12 yX12_tellLaw yX12_tellLaw ∈ lw_g := lw_g_of (lw_s5 _ (List.mem_of_getElem? (i := 5) (a := (yX12_tellLaw, 79)) rfl)) rfl
theorem sl_X12_expression : Cond.selects RX12 yX12_expression yX12_expression ∈ lw_g := lw_g_of (lw_s5 _ (List.mem_of_getElem? (i := 6) (a := (yX12_expression, 79)) rfl)) rfl
theorem sl_X12_unit : Cond.selects RX12 yX12_unit yX12_unit ∈ lw_g := lw_g_of (lw_s5 _ (List.mem_of_getElem? (i := 7) (a := (yX12_unit, 79)) rfl)) rfl
theorem sl_X12_emit : Cond.selects RX12 yX12_emit yX12_emit ∈ lw_g := lw_g_of (lw_s5 _ (List.mem_of_getElem? (i := 8) (a := (yX12_emit, 79)) rfl)) rfl
theorem sl_X12_comesOut : Cond.selects RX12 yX12_comesOut yX12_comesOut ∈ lw_g := lw_g_of (lw_s5 _ (List.mem_of_getElem? (i := 9) (a := (yX12_comesOut, 79)) rfl)) rfl
theorem sl_X12_term : Cond.selects RX12 yX12_term yX12_term ∈ lw_g := lw_g_of (lw_s5 _ (List.mem_of_getElem? (i := 10) (a := (yX12_term, 79)) rfl)) rfl
theorem sl_X12_isMan : Cond.selects RX12 yX12_isMan yX12_isMan ∈ lw_g := lw_g_of (lw_s5 _ (List.mem_of_getElem? (i := 11) (a := (yX12_isMan, 79)) rfl)) rfl
theorem sl_X12_manOf : Cond.selects RX12 yX12_manOf yX12_manOf ∈ lw_g := lw_g_of (lw_s5 _ (List.mem_of_getElem? (i := 12) (a := (yX12_manOf, 79)) rfl)) rfl
theorem sl_X12_isExcuse : Cond.selects RX12 yX12_isExcuse yX12_isExcuse ∈ lw_g := lw_g_of (lw_s5 _ (List.mem_of_getElem? (i := 13) (a := (yX12_isExcuse, 79)) rfl)) rfl
theorem sl_X12_hasNow : Cond.selects RX12 yX12_hasNow yX12_hasNow ∈ lw_g := lw_g_of (lw_s5 _ (List.mem_of_getElem? (i := 14) (a := (yX12_hasNow, 79)) rfl)) rfl
theorem sl_X12_isDuty : Cond.selects RX12 yX12_isDuty yX12_isDuty ∈ lw_g := lw_g_of (lw_s5 _ (List.mem_of_getElem? (i := 15) (a := (yX12_isDuty, 79)) rfl)) rfl
theorem sl_X12_dayOf : Cond.selects RX12 yX12_dayOf yX12_dayOf ∈ lw_g := lw_g_of (lw_s6 _ (List.mem_of_getElem? (i := 0) (a := (yX12_dayOf, 79)) rfl)) rfl
theorem sl_X12_copies : Cond.selects RX12 yX12_copies yX12_copies ∈ lw_g := lw_g_of (lw_s6 _ (List.mem_of_getElem? (i := 1) (a := (yX12_copies, 79)) rfl)) rfl
theorem sl_X12_toldLast : Cond.selects RX12 yX12_toldLast yX12_toldLast ∈ lw_g := lw_g_of (lw_s6 _ (List.mem_of_getElem? (i := 2) (a := (yX12_toldLast, 79)) rfl)) rfl
theorem sl_X12_toldTimes : Cond.selects RX12 yX12_toldTimes yX12_toldTimes ∈ lw_g := lw_g_of (lw_s6 _ (List.mem_of_getElem? (i := 3) (a := (yX12_toldTimes, 79)) rfl)) rfl
theorem sl_X12_isWet : Cond.selects RX12 yX12_isWet yX12_isWet ∈ lw_g := lw_g_of (lw_s6 _ (List.mem_of_getElem? (i := 4) (a := (yX12_isWet, 79)) rfl)) rfl
theorem sl_X12_lotOf : Cond.selects RX12 yX12_lotOf yX12_lotOf ∈ lw_g := lw_g_of (lw_s6 _ (List.mem_of_getElem? (i := 5) (a := (yX12_lotOf, 79)) rfl)) rfl
theorem sl_X12_keeps : Cond.selects RX12 yX12_keeps yX12_keeps ∈ lw_g := lw_g_of (lw_s6 _ (List.mem_of_getElem? (i := 6) (a := (yX12_keeps, 79)) rfl)) rfl
theorem sl_X12_goes : Cond.selects RX12 yX12_goes yX12_goes ∈ lw_g := lw_g_of (lw_s6 _ (List.mem_of_getElem? (i := 7) (a := (yX12_goes, 79)) rfl)) rfl
theorem sl_X12_dayGoes : Cond.selects RX12 yX12_dayGoes yX12_dayGoes ∈ lw_g := lw_g_of (lw_s6 _ (List.mem_of_getElem? (i := 8) (a := (yX12_dayGoes, 79)) rfl)) rfl
theorem sl_X12_dutyGoes : Cond.selects RX12 yX12_dutyGoes yX12_dutyGoes ∈ lw_g := lw_g_of (lw_s6 _ (List.mem_of_getElem? (i := 9) (a := (yX12_dutyGoes, 79)) rfl)) rfl
theorem sl_X12_passesNow : Cond.selects RX12 yX12_passesNow yX12_passesNow ∈ lw_g := lw_g_of (lw_s6 _ (List.mem_of_getElem? (i := 10) (a := (yX12_passesNow, 79)) rfl)) rfl
theorem sl_X12_looksFor : Cond.selects RX12 yX12_looksFor yX12_looksFor ∈ lw_g := lw_g_of (lw_s6 _ (List.mem_of_getElem? (i := 11) (a := (yX12_looksFor, 79)) rfl)) rfl
theorem sl_X12_heardBy : Cond.selects RX12 yX12_heardBy yX12_heardBy ∈ lw_g := lw_g_of (lw_s6 _ (List.mem_of_getElem? (i := 12) (a := (yX12_heardBy, 79)) rfl)) rfl
theorem sl_X12_isToldElse : Cond.selects RX12 yX12_isToldElse yX12_isToldElse ∈ lw_g := lw_g_of (lw_s6 _ (List.mem_of_getElem? (i := 13) (a := (yX12_isToldElse, 79)) rfl)) rfl
theorem sl_X12_looks : Cond.selects RX12 yX12_looks yX12_looks ∈ lw_g := lw_g_of (lw_s6 _ (List.mem_of_getElem? (i := 14) (a := (yX12_looks, 79)) rfl)) rfl
theorem sl_X12_asks : Cond.selects RX12 yX12_asks yX12_asks ∈ lw_g := lw_g_of (lw_s6 _ (List.mem_of_getElem? (i := 15) (a := (yX12_asks, 79)) rfl)) rfl
theorem sl_X12_termOf : Cond.selects RX12 yX12_termOf yX12_termOf ∈ lw_g := lw_g_of (lw_s7 _ (List.mem_of_getElem? (i := 0) (a := (yX12_termOf, 79)) rfl)) rfl
theorem sl_X12_wearsNow : Cond.selects RX12 yX12_wearsNow yX12_wearsNow ∈ lw_g := lw_g_of (lw_s7 _ (List.mem_of_getElem? (i := 1) (a := (yX12_wearsNow, 79)) rfl)) rfl
theorem sl_X12_lessTrust : Cond.selects RX12 yX12_lessTrust yX12_lessTrust ∈ lw_g := lw_g_of (lw_s7 _ (List.mem_of_getElem? (i := 2) (a := (yX12_lessTrust, 79)) rfl)) rfl
theorem sl_X12_mendsAll : Cond.selects RX12 yX12_mendsAll yX12_mendsAll ∈ lw_g := lw_g_of (lw_s7 _ (List.mem_of_getElem? (i := 3) (a := (yX12_mendsAll, 79)) rfl)) rfl
theorem sl_X12_moreBy : Cond.selects RX12 yX12_moreBy yX12_moreBy ∈ lw_g := lw_g_of (lw_s7 _ (List.mem_of_getElem? (i := 4) (a := (yX12_moreBy, 79)) rfl)) rfl
theorem sl_X12_isSet : Cond.selects RX12 yX12_isSet yX12_isSet ∈ lw_g := lw_g_of (lw_s7 _ (List.mem_of_getElem? (i := 5) (a := (yX12_isSet, 79)) rfl)) rfl
theorem sl_X12_fillsBuy : Cond.selects RX12 yX12_fillsBuy yX12_fillsBuy ∈ lw_g := lw_g_of (lw_s7 _ (List.mem_of_getElem? (i := 6) (a := (yX12_fillsBuy, 79)) rfl)) rfl
theorem sl_X12_areToCome : Cond.selects RX12 yX12_areToCome yX12_areToCome ∈ lw_g := lw_g_of (lw_s7 _ (List.mem_of_getElem? (i := 7) (a := (yX12_areToCome, 79)) rfl)) rfl
theorem sl_X12_coinsBy : Cond.selects RX12 yX12_coinsBy yX12_coinsBy ∈ lw_g := lw_g_of (lw_s7 _ (List.mem_of_getElem? (i := 8) (a := (yX12_coinsBy, 79)) rfl)) rfl
theorem sl_X12_excuseIn : Cond.selects RX12 yX12_excuseIn yX12_excuseIn ∈ lw_g := lw_g_of (lw_s7 _ (List.mem_of_getElem? (i := 9) (a := (yX12_excuseIn, 79)) rfl)) rfl
theorem sl_X12_isPassing : Cond.selects RX12 yX12_isPassing yX12_isPassing ∈ lw_g := lw_g_of (lw_s7 _ (List.mem_of_getElem? (i := 10) (a := (yX12_isPassing, 79)) rfl)) rfl
theorem sl_X12_areTwo : Cond.selects RX12 yX12_areTwo yX12_areTwo ∈ lw_g := lw_g_of (lw_s7 _ (List.mem_of_getElem? (i := 11) (a := (yX12_areTwo, 79)) rfl)) rfl
theorem sl_X12_areApart : Cond.selects RX12 yX12_areApart yX12_areApart ∈ lw_g := lw_g_of (lw_s7 _ (List.mem_of_getElem? (i := 12) (a := (yX12_areApart, 79)) rfl)) rfl
theorem in_L : Cond.initialized RL ∈ lw_g := lw_g_of (lw_t1 _ (List.mem_of_getElem? (i := 0) rfl)) rfl
theorem in_X11 : Cond.initialized RX11 ∈ lw_g := lw_g_of (lw_t1 _ (List.mem_of_getElem? (i := 1) rfl)) rfl
theorem in_X4 : Cond.initialized RX4 ∈ lw_g := lw_g_of (lw_t1 _ (List.mem_of_getElem? (i := 2) rfl)) rfl
theorem in_X10 : Cond.initialized RX10 ∈ lw_g := lw_g_of (lw_t1 _ (List.mem_of_getElem? (i := 3) rfl)) rfl
theorem in_J0 : Cond.initialized RJ0 ∈ lw_g := lw_g_of (lw_t1 _ (List.mem_of_getElem? (i := 4) rfl)) rfl
theorem in_J1 : Cond.initialized RJ1 ∈ lw_g := lw_g_of (lw_t1 _ (List.mem_of_getElem? (i := 5) rfl)) rfl
theorem in_J3 : Cond.initialized RJ3 ∈ lw_g := lw_g_of (lw_t1 _ (List.mem_of_getElem? (i := 6) rfl)) rfl
theorem in_J2 : Cond.initialized RJ2 ∈ lw_g := lw_g_of (lw_t1 _ (List.mem_of_getElem? (i := 7) rfl)) rfl
theorem in_X9 : Cond.initialized RX9 ∈ lw_g := lw_g_of (lw_t1 _ (List.mem_of_getElem? (i := 8) rfl)) rfl
theorem in_X2 : Cond.initialized RX2 ∈ lw_g := lw_g_of (lw_t1 _ (List.mem_of_getElem? (i := 9) rfl)) rfl
theorem in_X8 : Cond.initialized RX8 ∈ lw_g := lw_g_of (lw_t1 _ (List.mem_of_getElem? (i := 10) rfl)) rfl
theorem in_X5 : Cond.initialized RX5 ∈ lw_g := lw_g_of (lw_t1 _ (List.mem_of_getElem? (i := 11) rfl)) rfl
theorem in_X1 : Cond.initialized RX1 ∈ lw_g := lw_g_of (lw_t1 _ (List.mem_of_getElem? (i := 12) rfl)) rfl
theorem in_X7 : Cond.initialized RX7 ∈ lw_g := lw_g_of (lw_t1 _ (List.mem_of_getElem? (i := 13) rfl)) rfl
theorem in_X3 : Cond.initialized RX3 ∈ lw_g := lw_g_of (lw_t1 _ (List.mem_of_getElem? (i := 14) rfl)) rfl
theorem in_X0 : Cond.initialized RX0 ∈ lw_g := lw_g_of (lw_t1 _ (List.mem_of_getElem? (i := 15) rfl)) rfl
theorem in_X6 : Cond.initialized RX6 ∈ lw_g := lw_g_of (lw_t1 _ (List.mem_of_getElem? (i := 16) rfl)) rfl
theorem in_X12 : Cond.initialized RX12 ∈ lw_g := lw_g_of (lw_t1 _ (List.mem_of_getElem? (i := 17) rfl)) rfl
theorem in_J9 : Cond.initialized RJ9 ∈ lw_g := lw_g_of (lw_t1 _ (List.mem_of_getElem? (i := 18) rfl)) rfl
theorem in_J6 : Cond.initialized RJ6 ∈ lw_g := lw_g_of (lw_t1 _ (List.mem_of_getElem? (i := 19) rfl)) rfl
theorem cl_L_7 : Cond.classLink RL 7 RX11 ∈ lw_g := lw_g_of (lw_t1 _ (List.mem_of_getElem? (i := 20) rfl)) rfl
theorem it_X11 : Cond.instantiable RX11 15 ∈ lw_g := lw_g_of (lw_t1 _ (List.mem_of_getElem? (i := 21) rfl)) rfl
theorem ml_L_9 : Cond.methodLink RL 9 yX11_init ∈ lw_g := lw_g_of (lw_t1 _ (List.mem_of_getElem? (i := 22) rfl)) rfl
theorem im_X11_init : Cond.instanceMethod yX11_init ∈ lw_g := lw_g_of (lw_t1 _ (List.mem_of_getElem? (i := 23) rfl)) rfl
theorem kc_X11_init : Cond.code yX11_init cX11_init 2 (none) ∈ lw_g := lw_g_of (lw_t1 _ (List.mem_of_getElem? (i := 24) rfl)) rfl
theorem ml_X11_3 : Cond.methodLink RX11 3 objectInit ∈ lw_g := lw_g_of (lw_t1 _ (List.mem_of_getElem? (i := 25) rfl)) rfl
theorem im_init_Object__V : Cond.instanceMethod objectInit ∈ lw_g := lw_g_of (lw_t1 _ (List.mem_of_getElem? (i := 26) rfl)) rfl
theorem cl_X11_20 : Cond.classLink RX11 20 RX4 ∈ lw_g := lw_g_of (lw_t1 _ (List.mem_of_getElem? (i := 28) rfl)) rfl
theorem it_X4 : Cond.instantiable RX4 7 ∈ lw_g := lw_g_of (lw_t1 _ (List.mem_of_getElem? (i := 29) rfl)) rfl
theorem mn_X11_22 : Cond.methodLinkNest RX11 22 yX4_init "ExcuseMarket" ∈ lw_tbl := lw_t1 _ (List.mem_of_getElem? (i := 30) rfl)
theorem im_X4_init : Cond.instanceMethod yX4_init ∈ lw_g := lw_g_of (lw_t1 _ (List.mem_of_getElem? (i := 31) rfl)) rfl
theorem kc_X4_init : Cond.code yX4_init cX4_init 1 (none) ∈ lw_g := lw_g_of (lw_t1 _ (List.mem_of_getElem? (i := 32) rfl)) rfl
theorem ml_X4_3 : Cond.methodLink RX4 3 objectInit ∈ lw_g := lw_g_of (lw_t1 _ (List.mem_of_getElem? (i := 33) rfl)) rfl
theorem cl_X4_9 : Cond.classLink RX4 9 RX10 ∈ lw_g := lw_g_of (lw_t1 _ (List.mem_of_getElem? (i := 34) rfl)) rfl
theorem it_X10 : Cond.instantiable RX10 4 ∈ lw_g := lw_g_of (lw_t1 _ (List.mem_of_getElem? (i := 35) rfl)) rfl
theorem ml_X4_11 : Cond.methodLink RX4 11 yX10_init ∈ lw_g := lw_g_of (lw_t1 _ (List.mem_of_getElem? (i := 36) rfl)) rfl
theorem im_X10_init : Cond.instanceMethod yX10_init ∈ lw_g := lw_g_of (lw_t1 _ (List.mem_of_getElem? (i := 37) rfl)) rfl
theorem kc_X10_init : Cond.code yX10_init cX10_init 6 (none) ∈ lw_g := lw_g_of (lw_t1 _ (List.mem_of_getElem? (i := 38) rfl)) rfl
theorem ml_X10_3 : Cond.methodLink RX10 3 objectInit ∈ lw_g := lw_g_of (lw_t1 _ (List.mem_of_getElem? (i := 39) rfl)) rfl
theorem ml_X10_27 : Cond.methodLink RX10 27 yJ0_length_8abf5 ∈ lw_g := lw_g_of (lw_t1 _ (List.mem_of_getElem? (i := 41) rfl)) rfl
theorem im_J0_length_8abf5 : Cond.instanceMethod yJ0_length_8abf5 ∈ lw_g := lw_g_of (lw_t1 _ (List.mem_of_getElem? (i := 42) rfl)) rfl
theorem sl_J0_length_8abf5 : Cond.selects RJ0 yJ0_length_8abf5 yJ0_length_8abf5 ∈ lw_g := lw_g_of (lw_t1 _ (List.mem_of_getElem? (i := 43) rfl)) rfl
theorem kc_J0_length_8abf5 : Cond.code yJ0_length_8abf5 cJ0_length_8abf5 1 (some .int) ∈ lw_g := lw_g_of (lw_t1 _ (List.mem_of_getElem? (i := 44) rfl)) rfl
theorem ml_J0_335 : Cond.methodLink RJ0 335 yJ0_coder_7d493 ∈ lw_g := lw_g_of (lw_t1 _ (List.mem_of_getElem? (i := 45) rfl)) rfl
theorem im_J0_coder_7d493 : Cond.instanceMethod yJ0_coder_7d493 ∈ lw_g := lw_g_of (lw_t1 _ (List.mem_of_getElem? (i := 46) rfl)) rfl
theorem sl_J0_coder_7d493 : Cond.selects RJ0 yJ0_coder_7d493 yJ0_coder_7d493 ∈ lw_g := lw_g_of (lw_t1 _ (List.mem_of_getElem? (i := 47) rfl)) rfl
theorem kc_J0_coder_7d493 : Cond.code yJ0_coder_7d493 cJ0_coder_7d493 1 (some .byte) ∈ lw_g := lw_g_of (lw_t1 _ (List.mem_of_getElem? (i := 48) rfl)) rfl
theorem fl_J0_38 : Cond.fieldLink RJ0 38 "java/lang/String" "COMPACT_STRINGS" "Z" ∈ lw_g := lw_g_of (lw_t1 _ (List.mem_of_getElem? (i := 49) rfl)) rfl
theorem ml_X10_33 : Cond.methodLink RX10 33 yJ0_charAt_5068e ∈ lw_g := lw_g_of (lw_t1 _ (List.mem_of_getElem? (i := 51) rfl)) rfl
theorem im_J0_charAt_5068e : Cond.instanceMethod yJ0_charAt_5068e ∈ lw_g := lw_g_of (lw_t1 _ (List.mem_of_getElem? (i := 52) rfl)) rfl
theorem sl_J0_charAt_5068e : Cond.selects RJ0 yJ0_charAt_5068e yJ0_charAt_5068e ∈ lw_g := lw_g_of (lw_t1 _ (List.mem_of_getElem? (i := 53) rfl)) rfl
theorem kc_J0_charAt_5068e : Cond.code yJ0_charAt_5068e cJ0_charAt_5068e 2 (some .char) ∈ lw_g := lw_g_of (lw_t1 _ (List.mem_of_getElem? (i := 54) rfl)) rfl
theorem ml_J0_492 : Cond.methodLink RJ0 492 yJ0_isLatin1_aae02 ∈ lw_g := lw_g_of (lw_t1 _ (List.mem_of_getElem? (i := 55) rfl)) rfl
theorem im_J0_isLatin1_aae02 : Cond.instanceMethod yJ0_isLatin1_aae02 ∈ lw_g := lw_g_of (lw_t1 _ (List.mem_of_getElem? (i := 56) rfl)) rfl
theorem sl_J0_isLatin1_aae02 : Cond.selects RJ0 yJ0_isLatin1_aae02 yJ0_isLatin1_aae02 ∈ lw_g := lw_g_of (lw_t1 _ (List.mem_of_getElem? (i := 57) rfl)) rfl
theorem kc_J0_isLatin1_aae02 : Cond.code yJ0_isLatin1_aae02 cJ0_isLatin1_aae02 1 (some .boolean) ∈ lw_g := lw_g_of (lw_t1 _ (List.mem_of_getElem? (i := 58) rfl)) rfl
theorem ml_J0_495 : Cond.methodLink RJ0 495 yJ1_charAt_3b067 ∈ lw_g := lw_g_of (lw_t1 _ (List.mem_of_getElem? (i := 59) rfl)) rfl
theorem sm_J1_charAt_3b067 : Cond.static yJ1_charAt_3b067 ∈ lw_g := lw_g_of (lw_t1 _ (List.mem_of_getElem? (i := 60) rfl)) rfl
theorem kc_J1_charAt_3b067 : Cond.code yJ1_charAt_3b067 cJ1_charAt_3b067 2 (some .char) ∈ lw_g := lw_g_of (lw_t1 _ (List.mem_of_getElem? (i := 61) rfl)) rfl
theorem ml_J1_9 : Cond.methodLink RJ1 9 yJ0_checkIndex_df160 ∈ lw_g := lw_g_of (lw_t1 _ (List.mem_of_getElem? (i := 62) rfl)) rfl
theorem sm_J0_checkIndex_df160 : Cond.static yJ0_checkIndex_df160 ∈ lw_g := lw_g_of (lw_t1 _ (List.mem_of_getElem? (i := 63) rfl)) rfl
theorem kc_J0_checkIndex_df160 : Cond.code yJ0_checkIndex_df160 cJ0_checkIndex_df160 2 (none) ∈ lw_g := lw_g_of (lw_t1 _ (List.mem_of_getElem? (i := 64) rfl)) rfl
theorem fl_J0_1053 : Cond.fieldLink RJ0 1053 "jdk/internal/util/Preconditions" "SIOOBE_FORMATTER" "Ljava/util/function/BiFunction;" ∈ lw_g := lw_g_of (lw_t1 _ (List.mem_of_getElem? (i := 65) rfl)) rfl
theorem ml_J0_1059 : Cond.methodLink RJ0 1059 yJ3_checkIndex_8e157 ∈ lw_g := lw_g_of (lw_t1 _ (List.mem_of_getElem? (i := 67) rfl)) rfl
theorem sm_J3_checkIndex_8e157 : Cond.static yJ3_checkIndex_8e157 ∈ lw_g := lw_g_of (lw_t1 _ (List.mem_of_getElem? (i := 68) rfl)) rfl
theorem kc_J3_checkIndex_8e157 : Cond.code yJ3_checkIndex_8e157 cJ3_checkIndex_8e157 3 (some .int) ∈ lw_g := lw_g_of (lw_t1 _ (List.mem_of_getElem? (i := 69) rfl)) rfl
theorem ml_J0_498 : Cond.methodLink RJ0 498 yJ2_charAt_3b067 ∈ lw_g := lw_g_of (lw_t1 _ (List.mem_of_getElem? (i := 70) rfl)) rfl
theorem sm_J2_charAt_3b067 : Cond.static yJ2_charAt_3b067 ∈ lw_g := lw_g_of (lw_t1 _ (List.mem_of_getElem? (i := 71) rfl)) rfl
theorem kc_J2_charAt_3b067 : Cond.code yJ2_charAt_3b067 cJ2_charAt_3b067 2 (some .char) ∈ lw_g := lw_g_of (lw_t1 _ (List.mem_of_getElem? (i := 72) rfl)) rfl
theorem ml_J2_67 : Cond.methodLink RJ2 67 yJ2_checkIndex_2214a ∈ lw_g := lw_g_of (lw_t1 _ (List.mem_of_getElem? (i := 73) rfl)) rfl
theorem sm_J2_checkIndex_2214a : Cond.static yJ2_checkIndex_2214a ∈ lw_g := lw_g_of (lw_t1 _ (List.mem_of_getElem? (i := 74) rfl)) rfl
theorem kc_J2_checkIndex_2214a : Cond.code yJ2_checkIndex_2214a cJ2_checkIndex_2214a 2 (none) ∈ lw_g := lw_g_of (lw_t1 _ (List.mem_of_getElem? (i := 75) rfl)) rfl
theorem ml_J2_48 : Cond.methodLink RJ2 48 yJ2_length_9d52b ∈ lw_g := lw_g_of (lw_t1 _ (List.mem_of_getElem? (i := 76) rfl)) rfl
theorem sm_J2_length_9d52b : Cond.static yJ2_length_9d52b ∈ lw_g := lw_g_of (lw_t1 _ (List.mem_of_getElem? (i := 77) rfl)) rfl
theorem kc_J2_length_9d52b : Cond.code yJ2_length_9d52b cJ2_length_9d52b 1 (some .int) ∈ lw_g := lw_g_of (lw_t1 _ (List.mem_of_getElem? (i := 78) rfl)) rfl
theorem ml_J2_414 : Cond.methodLink RJ2 414 yJ0_checkIndex_df160 ∈ lw_g := lw_g_of (lw_t1 _ (List.mem_of_getElem? (i := 79) rfl)) rfl
theorem ml_J2_71 : Cond.methodLink RJ2 71 yJ2_getChar_3b067 ∈ lw_g := lw_g_of (lw_t1 _ (List.mem_of_getElem? (i := 80) rfl)) rfl
theorem sm_J2_getChar_3b067 : Cond.static yJ2_getChar_3b067 ∈ lw_g := lw_g_of (lw_t1 _ (List.mem_of_getElem? (i := 81) rfl)) rfl
theorem kc_J2_getChar_3b067 : Cond.code yJ2_getChar_3b067 cJ2_getChar_3b067 2 (some .char) ∈ lw_g := lw_g_of (lw_t1 _ (List.mem_of_getElem? (i := 82) rfl)) rfl
theorem fl_J2_44 : Cond.fieldLink RJ2 44 "java/lang/StringUTF16" "$assertionsDisabled" "Z" ∈ lw_g := lw_g_of (lw_t1 _ (List.mem_of_getElem? (i := 83) rfl)) rfl
theorem fl_J2_59 : Cond.fieldLink RJ2 59 "java/lang/StringUTF16" "HI_BYTE_SHIFT" "I" ∈ lw_g := lw_g_of (lw_t1 _ (List.mem_of_getElem? (i := 85) rfl)) rfl
theorem fl_J2_63 : Cond.fieldLink RJ2 63 "java/lang/StringUTF16" "LO_BYTE_SHIFT" "I" ∈ lw_g := lw_g_of (lw_t1 _ (List.mem_of_getElem? (i := 87) rfl)) rfl
theorem kn_X10_37 : Cond.constantLong RX10 37 (32) ∈ lw_g := lw_g_of (lw_t1 _ (List.mem_of_getElem? (i := 89) rfl)) rfl
theorem fl_X10_9 : Cond.fieldLink RX10 9 "ExcuseMarket$Tokens" "kinds" "[I" ∈ lw_g := lw_g_of (lw_t1 _ (List.mem_of_getElem? (i := 90) rfl)) rfl
theorem fl_X4_176 : Cond.fieldLink RX4 176 "ExcuseMarket$Tokens" "kinds" "[I" ∈ lw_g := lw_g_of (lw_t1 _ (List.mem_of_getElem? (i := 91) rfl)) rfl
theorem fl_X10_15 : Cond.fieldLink RX10 15 "ExcuseMarket$Tokens" "starts" "[I" ∈ lw_g := lw_g_of (lw_t1 _ (List.mem_of_getElem? (i := 92) rfl)) rfl
theorem fl_X4_180 : Cond.fieldLink RX4 180 "ExcuseMarket$Tokens" "starts" "[I" ∈ lw_g := lw_g_of (lw_t1 _ (List.mem_of_getElem? (i := 93) rfl)) rfl
theorem fl_X10_18 : Cond.fieldLink RX10 18 "ExcuseMarket$Tokens" "values" "[J" ∈ lw_g := lw_g_of (lw_t1 _ (List.mem_of_getElem? (i := 94) rfl)) rfl
theorem fl_X4_172 : Cond.fieldLink RX4 172 "ExcuseMarket$Tokens" "values" "[J" ∈ lw_g := lw_g_of (lw_t1 _ (List.mem_of_getElem? (i := 95) rfl)) rfl
theorem fl_X10_22 : Cond.fieldLink RX10 22 "ExcuseMarket$Tokens" "words" "[J" ∈ lw_g := lw_g_of (lw_t1 _ (List.mem_of_getElem? (i := 96) rfl)) rfl
theorem cl_X4_18 : Cond.classLink RX4 18 RX9 ∈ lw_g := lw_g_of (lw_t1 _ (List.mem_of_getElem? (i := 109) rfl)) rfl
theorem it_X9 : Cond.instantiable RX9 18 ∈ lw_g := lw_g_of (lw_t1 _ (List.mem_of_getElem? (i := 110) rfl)) rfl
theorem ml_X4_20 : Cond.methodLink RX4 20 yX9_init ∈ lw_g := lw_g_of (lw_t1 _ (List.mem_of_getElem? (i := 111) rfl)) rfl
theorem im_X9_init : Cond.instanceMethod yX9_init ∈ lw_g := lw_g_of (lw_t1 _ (List.mem_of_getElem? (i := 112) rfl)) rfl
theorem kc_X9_init : Cond.code yX9_init cX9_init 1 (none) ∈ lw_g := lw_g_of (lw_t1 _ (List.mem_of_getElem? (i := 113) rfl)) rfl
theorem ml_X9_3 : Cond.methodLink RX9 3 objectInit ∈ lw_g := lw_g_of (lw_t1 _ (List.mem_of_getElem? (i := 114) rfl)) rfl
theorem cl_X9_36 : Cond.classLink RX9 36 RX2 ∈ lw_g := lw_g_of (lw_t1 _ (List.mem_of_getElem? (i := 115) rfl)) rfl
theorem it_X2 : Cond.instantiable RX2 3 ∈ lw_g := lw_g_of (lw_t1 _ (List.mem_of_getElem? (i := 116) rfl)) rfl
theorem mn_X9_38 : Cond.methodLinkNest RX9 38 yX2_init "ExcuseMarket" ∈ lw_tbl := lw_t1 _ (List.mem_of_getElem? (i := 117) rfl)
theorem im_X2_init : Cond.instanceMethod yX2_init ∈ lw_g := lw_g_of (lw_t1 _ (List.mem_of_getElem? (i := 118) rfl)) rfl
theorem kc_X2_init : Cond.code yX2_init cX2_init 1 (none) ∈ lw_g := lw_g_of (lw_t1 _ (List.mem_of_getElem? (i := 119) rfl)) rfl
theorem ml_X2_3 : Cond.methodLink RX2 3 objectInit ∈ lw_g := lw_g_of (lw_t1 _ (List.mem_of_getElem? (i := 120) rfl)) rfl
theorem fl_X2_9 : Cond.fieldLink RX2 9 "ExcuseMarket$Law" "steps" "[I" ∈ lw_g := lw_g_of (lw_t1 _ (List.mem_of_getElem? (i := 121) rfl)) rfl
theorem fl_X2_15 : Cond.fieldLink RX2 15 "ExcuseMarket$Law" "length" "I" ∈ lw_g := lw_g_of (lw_t1 _ (List.mem_of_getElem? (i := 122) rfl)) rfl
theorem fl_X2_19 : Cond.fieldLink RX2 19 "ExcuseMarket$Law" "stack" "[I" ∈ lw_g := lw_g_of (lw_t1 _ (List.mem_of_getElem? (i := 123) rfl)) rfl
theorem cl_X9_46 : Cond.classLink RX9 46 "[[I" ∈ lw_g := lw_g_of (lw_t1 _ (List.mem_of_getElem? (i := 131) rfl)) rfl
theorem ml_X9_74 : Cond.methodLink RX9 74 yX9_clear ∈ lw_g := lw_g_of (lw_t1 _ (List.mem_of_getElem? (i := 133) rfl)) rfl
theorem im_X9_clear : Cond.instanceMethod yX9_clear ∈ lw_g := lw_g_of (lw_t1 _ (List.mem_of_getElem? (i := 134) rfl)) rfl
theorem sl_X9_clear : Cond.selects RX9 yX9_clear yX9_clear ∈ lw_g := lw_g_of (lw_t1 _ (List.mem_of_getElem? (i := 135) rfl)) rfl
theorem kc_X9_clear : Cond.code yX9_clear cX9_clear 1 (none) ∈ lw_g := lw_g_of (lw_t1 _ (List.mem_of_getElem? (i := 136) rfl)) rfl
theorem ml_X9_77 : Cond.methodLink RX9 77 yX2_always ∈ lw_g := lw_g_of (lw_t1 _ (List.mem_of_getElem? (i := 137) rfl)) rfl
theorem im_X2_always : Cond.instanceMethod yX2_always ∈ lw_g := lw_g_of (lw_t1 _ (List.mem_of_getElem? (i := 138) rfl)) rfl
theorem sl_X2_always : Cond.selects RX2 yX2_always yX2_always ∈ lw_g := lw_g_of (lw_t1 _ (List.mem_of_getElem? (i := 139) rfl)) rfl
theorem kc_X2_always : Cond.code yX2_always cX2_always 2 (none) ∈ lw_g := lw_g_of (lw_t1 _ (List.mem_of_getElem? (i := 140) rfl)) rfl
theorem ml_X2_22 : Cond.methodLink RX2 22 yX2_add ∈ lw_g := lw_g_of (lw_t1 _ (List.mem_of_getElem? (i := 141) rfl)) rfl
theorem im_X2_add : Cond.instanceMethod yX2_add ∈ lw_g := lw_g_of (lw_t1 _ (List.mem_of_getElem? (i := 142) rfl)) rfl
theorem sl_X2_add : Cond.selects RX2 yX2_add yX2_add ∈ lw_g := lw_g_of (lw_t1 _ (List.mem_of_getElem? (i := 143) rfl)) rfl
theorem kc_X2_add : Cond.code yX2_add cX2_add 2 (none) ∈ lw_g := lw_g_of (lw_t1 _ (List.mem_of_getElem? (i := 144) rfl)) rfl
theorem fl_X9_9 : Cond.fieldLink RX9 9 "ExcuseMarket$Text" "men" "I" ∈ lw_g := lw_g_of (lw_t1 _ (List.mem_of_getElem? (i := 145) rfl)) rfl
theorem fl_X4_98 : Cond.fieldLink RX4 98 "ExcuseMarket$Text" "men" "I" ∈ lw_g := lw_g_of (lw_t1 _ (List.mem_of_getElem? (i := 146) rfl)) rfl
theorem fl_X1_104 : Cond.fieldLink RX1 104 "ExcuseMarket$Text" "men" "I" ∈ lw_g := lw_g_of (lw_t1 _ (List.mem_of_getElem? (i := 147) rfl)) rfl
theorem fl_X8_87 : Cond.fieldLink RX8 87 "ExcuseMarket$Text" "men" "I" ∈ lw_g := lw_g_of (lw_t1 _ (List.mem_of_getElem? (i := 148) rfl)) rfl
theorem fl_X11_288 : Cond.fieldLink RX11 288 "ExcuseMarket$Text" "men" "I" ∈ lw_g := lw_g_of (lw_t1 _ (List.mem_of_getElem? (i := 149) rfl)) rfl
theorem fl_X9_15 : Cond.fieldLink RX9 15 "ExcuseMarket$Text" "excuses" "I" ∈ lw_g := lw_g_of (lw_t1 _ (List.mem_of_getElem? (i := 150) rfl)) rfl
theorem fl_X7_46 : Cond.fieldLink RX7 46 "ExcuseMarket$Text" "excuses" "I" ∈ lw_g := lw_g_of (lw_t1 _ (List.mem_of_getElem? (i := 151) rfl)) rfl
theorem fl_X6_36 : Cond.fieldLink RX6 36 "ExcuseMarket$Text" "excuses" "I" ∈ lw_g := lw_g_of (lw_t1 _ (List.mem_of_getElem? (i := 152) rfl)) rfl
theorem fl_X4_115 : Cond.fieldLink RX4 115 "ExcuseMarket$Text" "excuses" "I" ∈ lw_g := lw_g_of (lw_t1 _ (List.mem_of_getElem? (i := 153) rfl)) rfl
theorem fl_X8_67 : Cond.fieldLink RX8 67 "ExcuseMarket$Text" "excuses" "I" ∈ lw_g := lw_g_of (lw_t1 _ (List.mem_of_getElem? (i := 154) rfl)) rfl
theorem fl_X11_291 : Cond.fieldLink RX11 291 "ExcuseMarket$Text" "excuses" "I" ∈ lw_g := lw_g_of (lw_t1 _ (List.mem_of_getElem? (i := 155) rfl)) rfl
theorem fl_X9_18 : Cond.fieldLink RX9 18 "ExcuseMarket$Text" "duties" "I" ∈ lw_g := lw_g_of (lw_t1 _ (List.mem_of_getElem? (i := 156) rfl)) rfl
theorem fl_X7_69 : Cond.fieldLink RX7 69 "ExcuseMarket$Text" "duties" "I" ∈ lw_g := lw_g_of (lw_t1 _ (List.mem_of_getElem? (i := 157) rfl)) rfl
theorem fl_X6_49 : Cond.fieldLink RX6 49 "ExcuseMarket$Text" "duties" "I" ∈ lw_g := lw_g_of (lw_t1 _ (List.mem_of_getElem? (i := 158) rfl)) rfl
theorem fl_X4_122 : Cond.fieldLink RX4 122 "ExcuseMarket$Text" "duties" "I" ∈ lw_g := lw_g_of (lw_t1 _ (List.mem_of_getElem? (i := 159) rfl)) rfl
theorem fl_X1_87 : Cond.fieldLink RX1 87 "ExcuseMarket$Text" "duties" "I" ∈ lw_g := lw_g_of (lw_t1 _ (List.mem_of_getElem? (i := 160) rfl)) rfl
theorem fl_X8_55 : Cond.fieldLink RX8 55 "ExcuseMarket$Text" "duties" "I" ∈ lw_g := lw_g_of (lw_t1 _ (List.mem_of_getElem? (i := 161) rfl)) rfl
theorem fl_X11_237 : Cond.fieldLink RX11 237 "ExcuseMarket$Text" "duties" "I" ∈ lw_g := lw_g_of (lw_t1 _ (List.mem_of_getElem? (i := 162) rfl)) rfl
theorem fl_X9_21 : Cond.fieldLink RX9 21 "ExcuseMarket$Text" "tests" "I" ∈ lw_g := lw_g_of (lw_t1 _ (List.mem_of_getElem? (i := 163) rfl)) rfl
theorem fl_X4_144 : Cond.fieldLink RX4 144 "ExcuseMarket$Text" "tests" "I" ∈ lw_g := lw_g_of (lw_t1 _ (List.mem_of_getElem? (i := 164) rfl)) rfl
theorem fl_X11_294 : Cond.fieldLink RX11 294 "ExcuseMarket$Text" "tests" "I" ∈ lw_g := lw_g_of (lw_t1 _ (List.mem_of_getElem? (i := 165) rfl)) rfl
theorem fl_X9_24 : Cond.fieldLink RX9 24 "ExcuseMarket$Text" "knows" "I" ∈ lw_g := lw_g_of (lw_t1 _ (List.mem_of_getElem? (i := 166) rfl)) rfl
theorem fl_X4_132 : Cond.fieldLink RX4 132 "ExcuseMarket$Text" "knows" "I" ∈ lw_g := lw_g_of (lw_t1 _ (List.mem_of_getElem? (i := 167) rfl)) rfl
theorem fl_X9_27 : Cond.fieldLink RX9 27 "ExcuseMarket$Text" "rain" "I" ∈ lw_g := lw_g_of (lw_t1 _ (List.mem_of_getElem? (i := 168) rfl)) rfl
theorem fl_X4_82 : Cond.fieldLink RX4 82 "ExcuseMarket$Text" "rain" "I" ∈ lw_g := lw_g_of (lw_t1 _ (List.mem_of_getElem? (i := 169) rfl)) rfl
theorem fl_X1_20 : Cond.fieldLink RX1 20 "ExcuseMarket$Text" "rain" "I" ∈ lw_g := lw_g_of (lw_t1 _ (List.mem_of_getElem? (i := 170) rfl)) rfl
theorem fl_X9_30 : Cond.fieldLink RX9 30 "ExcuseMarket$Text" "coins" "I" ∈ lw_g := lw_g_of (lw_t1 _ (List.mem_of_getElem? (i := 171) rfl)) rfl
theorem fl_X8_40 : Cond.fieldLink RX8 40 "ExcuseMarket$Text" "coins" "I" ∈ lw_g := lw_g_of (lw_t1 _ (List.mem_of_getElem? (i := 172) rfl)) rfl
theorem fl_X4_85 : Cond.fieldLink RX4 85 "ExcuseMarket$Text" "coins" "I" ∈ lw_g := lw_g_of (lw_t1 _ (List.mem_of_getElem? (i := 173) rfl)) rfl
theorem fl_X9_33 : Cond.fieldLink RX9 33 "ExcuseMarket$Text" "seed" "I" ∈ lw_g := lw_g_of (lw_t1 _ (List.mem_of_getElem? (i := 174) rfl)) rfl
theorem fl_X4_88 : Cond.fieldLink RX4 88 "ExcuseMarket$Text" "seed" "I" ∈ lw_g := lw_g_of (lw_t1 _ (List.mem_of_getElem? (i := 175) rfl)) rfl
theorem fl_X7_99 : Cond.fieldLink RX7 99 "ExcuseMarket$Text" "seed" "I" ∈ lw_g := lw_g_of (lw_t1 _ (List.mem_of_getElem? (i := 176) rfl)) rfl
theorem fl_X11_171 : Cond.fieldLink RX11 171 "ExcuseMarket$Text" "seed" "I" ∈ lw_g := lw_g_of (lw_t1 _ (List.mem_of_getElem? (i := 177) rfl)) rfl
theorem fl_X9_39 : Cond.fieldLink RX9 39 "ExcuseMarket$Text" "passes" "LExcuseMarket$Law;" ∈ lw_g := lw_g_of (lw_t1 _ (List.mem_of_getElem? (i := 178) rfl)) rfl
theorem fl_X4_67 : Cond.fieldLink RX4 67 "ExcuseMarket$Text" "passes" "LExcuseMarket$Law;" ∈ lw_g := lw_g_of (lw_t1 _ (List.mem_of_getElem? (i := 179) rfl)) rfl
theorem fl_X1_66 : Cond.fieldLink RX1 66 "ExcuseMarket$Text" "passes" "LExcuseMarket$Law;" ∈ lw_g := lw_g_of (lw_t1 _ (List.mem_of_getElem? (i := 180) rfl)) rfl
theorem fl_X9_43 : Cond.fieldLink RX9 43 "ExcuseMarket$Text" "wears" "LExcuseMarket$Law;" ∈ lw_g := lw_g_of (lw_t1 _ (List.mem_of_getElem? (i := 181) rfl)) rfl
theorem fl_X4_75 : Cond.fieldLink RX4 75 "ExcuseMarket$Text" "wears" "LExcuseMarket$Law;" ∈ lw_g := lw_g_of (lw_t1 _ (List.mem_of_getElem? (i := 182) rfl)) rfl
theorem fl_X1_84 : Cond.fieldLink RX1 84 "ExcuseMarket$Text" "wears" "LExcuseMarket$Law;" ∈ lw_g := lw_g_of (lw_t1 _ (List.mem_of_getElem? (i := 183) rfl)) rfl
theorem fl_X9_48 : Cond.fieldLink RX9 48 "ExcuseMarket$Text" "manRows" "[[I" ∈ lw_g := lw_g_of (lw_t1 _ (List.mem_of_getElem? (i := 184) rfl)) rfl
theorem fl_X8_47 : Cond.fieldLink RX8 47 "ExcuseMarket$Text" "manRows" "[[I" ∈ lw_g := lw_g_of (lw_t1 _ (List.mem_of_getElem? (i := 185) rfl)) rfl
theorem fl_X1_107 : Cond.fieldLink RX1 107 "ExcuseMarket$Text" "manRows" "[[I" ∈ lw_g := lw_g_of (lw_t1 _ (List.mem_of_getElem? (i := 186) rfl)) rfl
theorem fl_X11_127 : Cond.fieldLink RX11 127 "ExcuseMarket$Text" "manRows" "[[I" ∈ lw_g := lw_g_of (lw_t1 _ (List.mem_of_getElem? (i := 187) rfl)) rfl
theorem fl_X9_51 : Cond.fieldLink RX9 51 "ExcuseMarket$Text" "excuseRows" "[[I" ∈ lw_g := lw_g_of (lw_t1 _ (List.mem_of_getElem? (i := 188) rfl)) rfl
theorem fl_X1_26 : Cond.fieldLink RX1 26 "ExcuseMarket$Text" "excuseRows" "[[I" ∈ lw_g := lw_g_of (lw_t1 _ (List.mem_of_getElem? (i := 189) rfl)) rfl
theorem fl_X7_83 : Cond.fieldLink RX7 83 "ExcuseMarket$Text" "excuseRows" "[[I" ∈ lw_g := lw_g_of (lw_t1 _ (List.mem_of_getElem? (i := 190) rfl)) rfl
theorem fl_X11_144 : Cond.fieldLink RX11 144 "ExcuseMarket$Text" "excuseRows" "[[I" ∈ lw_g := lw_g_of (lw_t1 _ (List.mem_of_getElem? (i := 191) rfl)) rfl
theorem fl_X8_70 : Cond.fieldLink RX8 70 "ExcuseMarket$Text" "excuseRows" "[[I" ∈ lw_g := lw_g_of (lw_t1 _ (List.mem_of_getElem? (i := 192) rfl)) rfl
theorem fl_X9_54 : Cond.fieldLink RX9 54 "ExcuseMarket$Text" "dutyRows" "[[I" ∈ lw_g := lw_g_of (lw_t1 _ (List.mem_of_getElem? (i := 193) rfl)) rfl
theorem fl_X7_76 : Cond.fieldLink RX7 76 "ExcuseMarket$Text" "dutyRows" "[[I" ∈ lw_g := lw_g_of (lw_t1 _ (List.mem_of_getElem? (i := 194) rfl)) rfl
theorem fl_X6_52 : Cond.fieldLink RX6 52 "ExcuseMarket$Text" "dutyRows" "[[I" ∈ lw_g := lw_g_of (lw_t1 _ (List.mem_of_getElem? (i := 195) rfl)) rfl
theorem fl_X1_90 : Cond.fieldLink RX1 90 "ExcuseMarket$Text" "dutyRows" "[[I" ∈ lw_g := lw_g_of (lw_t1 _ (List.mem_of_getElem? (i := 196) rfl)) rfl
theorem fl_X8_58 : Cond.fieldLink RX8 58 "ExcuseMarket$Text" "dutyRows" "[[I" ∈ lw_g := lw_g_of (lw_t1 _ (List.mem_of_getElem? (i := 197) rfl)) rfl
theorem fl_X11_157 : Cond.fieldLink RX11 157 "ExcuseMarket$Text" "dutyRows" "[[I" ∈ lw_g := lw_g_of (lw_t1 _ (List.mem_of_getElem? (i := 198) rfl)) rfl
theorem fl_X9_57 : Cond.fieldLink RX9 57 "ExcuseMarket$Text" "rings" "[I" ∈ lw_g := lw_g_of (lw_t1 _ (List.mem_of_getElem? (i := 199) rfl)) rfl
theorem fl_X9_61 : Cond.fieldLink RX9 61 "ExcuseMarket$Text" "names" "[J" ∈ lw_g := lw_g_of (lw_t1 _ (List.mem_of_getElem? (i := 200) rfl)) rfl
theorem fl_X9_65 : Cond.fieldLink RX9 65 "ExcuseMarket$Text" "nameSorts" "[I" ∈ lw_g := lw_g_of (lw_t1 _ (List.mem_of_getElem? (i := 201) rfl)) rfl
theorem fl_X9_68 : Cond.fieldLink RX9 68 "ExcuseMarket$Text" "nameNumbers" "[I" ∈ lw_g := lw_g_of (lw_t1 _ (List.mem_of_getElem? (i := 202) rfl)) rfl
theorem fl_X9_71 : Cond.fieldLink RX9 71 "ExcuseMarket$Text" "nameCount" "I" ∈ lw_g := lw_g_of (lw_t1 _ (List.mem_of_getElem? (i := 203) rfl)) rfl
theorem fl_X4_12 : Cond.fieldLink RX4 12 "ExcuseMarket$Parser" "tokens" "LExcuseMarket$Tokens;" ∈ lw_g := lw_g_of (lw_t2 _ (List.mem_of_getElem? (i := 1) rfl)) rfl
theorem fl_X4_21 : Cond.fieldLink RX4 21 "ExcuseMarket$Parser" "text" "LExcuseMarket$Text;" ∈ lw_g := lw_g_of (lw_t2 _ (List.mem_of_getElem? (i := 2) rfl)) rfl
theorem fl_X11_113 : Cond.fieldLink RX11 113 "ExcuseMarket$Parser" "text" "LExcuseMarket$Text;" ∈ lw_g := lw_g_of (lw_t2 _ (List.mem_of_getElem? (i := 3) rfl)) rfl
theorem fl_X4_25 : Cond.fieldLink RX4 25 "ExcuseMarket$Parser" "at" "I" ∈ lw_g := lw_g_of (lw_t2 _ (List.mem_of_getElem? (i := 4) rfl)) rfl
theorem fl_X4_29 : Cond.fieldLink RX4 29 "ExcuseMarket$Parser" "broken" "I" ∈ lw_g := lw_g_of (lw_t2 _ (List.mem_of_getElem? (i := 5) rfl)) rfl
theorem fl_X4_32 : Cond.fieldLink RX4 32 "ExcuseMarket$Parser" "brokenPlace" "I" ∈ lw_g := lw_g_of (lw_t2 _ (List.mem_of_getElem? (i := 6) rfl)) rfl
theorem fl_X4_35 : Cond.fieldLink RX4 35 "ExcuseMarket$Parser" "unsound" "I" ∈ lw_g := lw_g_of (lw_t2 _ (List.mem_of_getElem? (i := 7) rfl)) rfl
theorem fl_X4_38 : Cond.fieldLink RX4 38 "ExcuseMarket$Parser" "unsoundPlace" "I" ∈ lw_g := lw_g_of (lw_t2 _ (List.mem_of_getElem? (i := 8) rfl)) rfl
theorem cl_X11_27 : Cond.classLink RX11 27 RX9 ∈ lw_g := lw_g_of (lw_t2 _ (List.mem_of_getElem? (i := 24) rfl)) rfl
theorem ml_X11_29 : Cond.methodLink RX11 29 yX9_init ∈ lw_g := lw_g_of (lw_t2 _ (List.mem_of_getElem? (i := 25) rfl)) rfl
theorem cl_X11_34 : Cond.classLink RX11 34 RX8 ∈ lw_g := lw_g_of (lw_t2 _ (List.mem_of_getElem? (i := 26) rfl)) rfl
theorem it_X8 : Cond.instantiable RX8 9 ∈ lw_g := lw_g_of (lw_t2 _ (List.mem_of_getElem? (i := 27) rfl)) rfl
theorem mn_X11_36 : Cond.methodLinkNest RX11 36 yX8_init "ExcuseMarket" ∈ lw_tbl := lw_t2 _ (List.mem_of_getElem? (i := 28) rfl)
theorem im_X8_init : Cond.instanceMethod yX8_init ∈ lw_g := lw_g_of (lw_t2 _ (List.mem_of_getElem? (i := 29) rfl)) rfl
theorem kc_X8_init : Cond.code yX8_init cX8_init 1 (none) ∈ lw_g := lw_g_of (lw_t2 _ (List.mem_of_getElem? (i := 30) rfl)) rfl
theorem ml_X8_3 : Cond.methodLink RX8 3 objectInit ∈ lw_g := lw_g_of (lw_t2 _ (List.mem_of_getElem? (i := 31) rfl)) rfl
theorem fl_X8_9 : Cond.fieldLink RX8 9 "ExcuseMarket$State" "today" "I" ∈ lw_g := lw_g_of (lw_t2 _ (List.mem_of_getElem? (i := 32) rfl)) rfl
theorem fl_X1_36 : Cond.fieldLink RX1 36 "ExcuseMarket$State" "today" "I" ∈ lw_g := lw_g_of (lw_t2 _ (List.mem_of_getElem? (i := 33) rfl)) rfl
theorem fl_X7_90 : Cond.fieldLink RX7 90 "ExcuseMarket$State" "today" "I" ∈ lw_g := lw_g_of (lw_t2 _ (List.mem_of_getElem? (i := 34) rfl)) rfl
theorem fl_X11_195 : Cond.fieldLink RX11 195 "ExcuseMarket$State" "today" "I" ∈ lw_g := lw_g_of (lw_t2 _ (List.mem_of_getElem? (i := 35) rfl)) rfl
theorem fl_X8_15 : Cond.fieldLink RX8 15 "ExcuseMarket$State" "coins" "I" ∈ lw_g := lw_g_of (lw_t2 _ (List.mem_of_getElem? (i := 36) rfl)) rfl
theorem fl_X11_178 : Cond.fieldLink RX11 178 "ExcuseMarket$State" "coins" "I" ∈ lw_g := lw_g_of (lw_t2 _ (List.mem_of_getElem? (i := 37) rfl)) rfl
theorem fl_X8_18 : Cond.fieldLink RX8 18 "ExcuseMarket$State" "hours" "I" ∈ lw_g := lw_g_of (lw_t2 _ (List.mem_of_getElem? (i := 38) rfl)) rfl
theorem fl_X1_119 : Cond.fieldLink RX1 119 "ExcuseMarket$State" "hours" "I" ∈ lw_g := lw_g_of (lw_t2 _ (List.mem_of_getElem? (i := 39) rfl)) rfl
theorem fl_X11_220 : Cond.fieldLink RX11 220 "ExcuseMarket$State" "hours" "I" ∈ lw_g := lw_g_of (lw_t2 _ (List.mem_of_getElem? (i := 40) rfl)) rfl
theorem fl_X8_21 : Cond.fieldLink RX8 21 "ExcuseMarket$State" "owned" "I" ∈ lw_g := lw_g_of (lw_t2 _ (List.mem_of_getElem? (i := 41) rfl)) rfl
theorem fl_X7_80 : Cond.fieldLink RX7 80 "ExcuseMarket$State" "owned" "I" ∈ lw_g := lw_g_of (lw_t2 _ (List.mem_of_getElem? (i := 42) rfl)) rfl
theorem fl_X1_131 : Cond.fieldLink RX1 131 "ExcuseMarket$State" "owned" "I" ∈ lw_g := lw_g_of (lw_t2 _ (List.mem_of_getElem? (i := 43) rfl)) rfl
theorem fl_X11_185 : Cond.fieldLink RX11 185 "ExcuseMarket$State" "owned" "I" ∈ lw_g := lw_g_of (lw_t2 _ (List.mem_of_getElem? (i := 44) rfl)) rfl
theorem fl_X8_24 : Cond.fieldLink RX8 24 "ExcuseMarket$State" "freed" "I" ∈ lw_g := lw_g_of (lw_t2 _ (List.mem_of_getElem? (i := 45) rfl)) rfl
theorem fl_X1_39 : Cond.fieldLink RX1 39 "ExcuseMarket$State" "freed" "I" ∈ lw_g := lw_g_of (lw_t2 _ (List.mem_of_getElem? (i := 46) rfl)) rfl
theorem fl_X11_131 : Cond.fieldLink RX11 131 "ExcuseMarket$State" "freed" "I" ∈ lw_g := lw_g_of (lw_t2 _ (List.mem_of_getElem? (i := 47) rfl)) rfl
theorem fl_X7_116 : Cond.fieldLink RX7 116 "ExcuseMarket$State" "freed" "I" ∈ lw_g := lw_g_of (lw_t2 _ (List.mem_of_getElem? (i := 48) rfl)) rfl
theorem fl_X8_27 : Cond.fieldLink RX8 27 "ExcuseMarket$State" "caught" "I" ∈ lw_g := lw_g_of (lw_t2 _ (List.mem_of_getElem? (i := 49) rfl)) rfl
theorem fl_X1_42 : Cond.fieldLink RX1 42 "ExcuseMarket$State" "caught" "I" ∈ lw_g := lw_g_of (lw_t2 _ (List.mem_of_getElem? (i := 50) rfl)) rfl
theorem fl_X11_134 : Cond.fieldLink RX11 134 "ExcuseMarket$State" "caught" "I" ∈ lw_g := lw_g_of (lw_t2 _ (List.mem_of_getElem? (i := 51) rfl)) rfl
theorem fl_X8_30 : Cond.fieldLink RX8 30 "ExcuseMarket$State" "done" "I" ∈ lw_g := lw_g_of (lw_t2 _ (List.mem_of_getElem? (i := 52) rfl)) rfl
theorem fl_X1_116 : Cond.fieldLink RX1 116 "ExcuseMarket$State" "done" "I" ∈ lw_g := lw_g_of (lw_t2 _ (List.mem_of_getElem? (i := 53) rfl)) rfl
theorem fl_X11_217 : Cond.fieldLink RX11 217 "ExcuseMarket$State" "done" "I" ∈ lw_g := lw_g_of (lw_t2 _ (List.mem_of_getElem? (i := 54) rfl)) rfl
theorem fl_X8_33 : Cond.fieldLink RX8 33 "ExcuseMarket$State" "trustOf" "[I" ∈ lw_g := lw_g_of (lw_t2 _ (List.mem_of_getElem? (i := 55) rfl)) rfl
theorem fl_X1_49 : Cond.fieldLink RX1 49 "ExcuseMarket$State" "trustOf" "[I" ∈ lw_g := lw_g_of (lw_t2 _ (List.mem_of_getElem? (i := 56) rfl)) rfl
theorem fl_X11_123 : Cond.fieldLink RX11 123 "ExcuseMarket$State" "trustOf" "[I" ∈ lw_g := lw_g_of (lw_t2 _ (List.mem_of_getElem? (i := 57) rfl)) rfl
theorem fl_X8_37 : Cond.fieldLink RX8 37 "ExcuseMarket$State" "plans" "[I" ∈ lw_g := lw_g_of (lw_t2 _ (List.mem_of_getElem? (i := 58) rfl)) rfl
theorem fl_X1_110 : Cond.fieldLink RX1 110 "ExcuseMarket$State" "plans" "[I" ∈ lw_g := lw_g_of (lw_t2 _ (List.mem_of_getElem? (i := 59) rfl)) rfl
theorem fl_X11_160 : Cond.fieldLink RX11 160 "ExcuseMarket$State" "plans" "[I" ∈ lw_g := lw_g_of (lw_t2 _ (List.mem_of_getElem? (i := 60) rfl)) rfl
theorem fl_X7_113 : Cond.fieldLink RX7 113 "ExcuseMarket$State" "plans" "[I" ∈ lw_g := lw_g_of (lw_t2 _ (List.mem_of_getElem? (i := 61) rfl)) rfl
theorem cl_X11_44 : Cond.classLink RX11 44 RX5 ∈ lw_g := lw_g_of (lw_t2 _ (List.mem_of_getElem? (i := 81) rfl)) rfl
theorem it_X5 : Cond.instantiable RX5 3 ∈ lw_g := lw_g_of (lw_t2 _ (List.mem_of_getElem? (i := 82) rfl)) rfl
theorem ml_X11_46 : Cond.methodLink RX11 46 yX5_init ∈ lw_g := lw_g_of (lw_t2 _ (List.mem_of_getElem? (i := 83) rfl)) rfl
theorem im_X5_init : Cond.instanceMethod yX5_init ∈ lw_g := lw_g_of (lw_t2 _ (List.mem_of_getElem? (i := 84) rfl)) rfl
theorem kc_X5_init : Cond.code yX5_init cX5_init 2 (none) ∈ lw_g := lw_g_of (lw_t2 _ (List.mem_of_getElem? (i := 85) rfl)) rfl
theorem ml_X5_3 : Cond.methodLink RX5 3 objectInit ∈ lw_g := lw_g_of (lw_t2 _ (List.mem_of_getElem? (i := 86) rfl)) rfl
theorem cl_X5_9 : Cond.classLink RX5 9 RX8 ∈ lw_g := lw_g_of (lw_t2 _ (List.mem_of_getElem? (i := 87) rfl)) rfl
theorem mn_X5_24 : Cond.methodLinkNest RX5 24 yX8_init "ExcuseMarket" ∈ lw_tbl := lw_t2 _ (List.mem_of_getElem? (i := 89) rfl)
theorem fl_X5_11 : Cond.fieldLink RX5 11 "ExcuseMarket$Past" "ring" "[LExcuseMarket$State;" ∈ lw_g := lw_g_of (lw_t2 _ (List.mem_of_getElem? (i := 90) rfl)) rfl
theorem fl_X5_17 : Cond.fieldLink RX5 17 "ExcuseMarket$Past" "next" "I" ∈ lw_g := lw_g_of (lw_t2 _ (List.mem_of_getElem? (i := 91) rfl)) rfl
theorem fl_X5_21 : Cond.fieldLink RX5 21 "ExcuseMarket$Past" "count" "I" ∈ lw_g := lw_g_of (lw_t2 _ (List.mem_of_getElem? (i := 92) rfl)) rfl
theorem fl_X11_297 : Cond.fieldLink RX11 297 "ExcuseMarket$Past" "count" "I" ∈ lw_g := lw_g_of (lw_t2 _ (List.mem_of_getElem? (i := 93) rfl)) rfl
theorem cl_X11_59 : Cond.classLink RX11 59 RX1 ∈ lw_g := lw_g_of (lw_t2 _ (List.mem_of_getElem? (i := 101) rfl)) rfl
theorem it_X1 : Cond.instantiable RX1 1 ∈ lw_g := lw_g_of (lw_t2 _ (List.mem_of_getElem? (i := 102) rfl)) rfl
theorem mn_X11_61 : Cond.methodLinkNest RX11 61 yX1_init "ExcuseMarket" ∈ lw_tbl := lw_t2 _ (List.mem_of_getElem? (i := 103) rfl)
theorem im_X1_init : Cond.instanceMethod yX1_init ∈ lw_g := lw_g_of (lw_t2 _ (List.mem_of_getElem? (i := 104) rfl)) rfl
theorem kc_X1_init : Cond.code yX1_init cX1_init 1 (none) ∈ lw_g := lw_g_of (lw_t2 _ (List.mem_of_getElem? (i := 105) rfl)) rfl
theorem ml_X1_3 : Cond.methodLink RX1 3 objectInit ∈ lw_g := lw_g_of (lw_t2 _ (List.mem_of_getElem? (i := 106) rfl)) rfl
theorem fl_X1_9 : Cond.fieldLink RX1 9 "ExcuseMarket$Course" "seen" "[I" ∈ lw_g := lw_g_of (lw_t2 _ (List.mem_of_getElem? (i := 107) rfl)) rfl
theorem cl_X11_66 : Cond.classLink RX11 66 RX7 ∈ lw_g := lw_g_of (lw_t2 _ (List.mem_of_getElem? (i := 112) rfl)) rfl
theorem it_X7 : Cond.instantiable RX7 7 ∈ lw_g := lw_g_of (lw_t2 _ (List.mem_of_getElem? (i := 113) rfl)) rfl
theorem mn_X11_68 : Cond.methodLinkNest RX11 68 yX7_init "ExcuseMarket" ∈ lw_tbl := lw_t2 _ (List.mem_of_getElem? (i := 114) rfl)
theorem im_X7_init : Cond.instanceMethod yX7_init ∈ lw_g := lw_g_of (lw_t2 _ (List.mem_of_getElem? (i := 115) rfl)) rfl
theorem kc_X7_init : Cond.code yX7_init cX7_init 1 (none) ∈ lw_g := lw_g_of (lw_t2 _ (List.mem_of_getElem? (i := 116) rfl)) rfl
theorem ml_X7_3 : Cond.methodLink RX7 3 objectInit ∈ lw_g := lw_g_of (lw_t2 _ (List.mem_of_getElem? (i := 117) rfl)) rfl
theorem cl_X7_9 : Cond.classLink RX7 9 RX8 ∈ lw_g := lw_g_of (lw_t2 _ (List.mem_of_getElem? (i := 118) rfl)) rfl
theorem mn_X7_11 : Cond.methodLinkNest RX7 11 yX8_init "ExcuseMarket" ∈ lw_tbl := lw_t2 _ (List.mem_of_getElem? (i := 119) rfl)
theorem fl_X7_12 : Cond.fieldLink RX7 12 "ExcuseMarket$Shopping" "trial" "LExcuseMarket$State;" ∈ lw_g := lw_g_of (lw_t2 _ (List.mem_of_getElem? (i := 120) rfl)) rfl
theorem fl_X7_18 : Cond.fieldLink RX7 18 "ExcuseMarket$Shopping" "wanted" "[I" ∈ lw_g := lw_g_of (lw_t2 _ (List.mem_of_getElem? (i := 121) rfl)) rfl
theorem fl_X7_22 : Cond.fieldLink RX7 22 "ExcuseMarket$Shopping" "order" "[I" ∈ lw_g := lw_g_of (lw_t2 _ (List.mem_of_getElem? (i := 122) rfl)) rfl
theorem fl_X7_25 : Cond.fieldLink RX7 25 "ExcuseMarket$Shopping" "chosen" "[I" ∈ lw_g := lw_g_of (lw_t2 _ (List.mem_of_getElem? (i := 123) rfl)) rfl
theorem fl_X7_28 : Cond.fieldLink RX7 28 "ExcuseMarket$Shopping" "best" "[I" ∈ lw_g := lw_g_of (lw_t2 _ (List.mem_of_getElem? (i := 124) rfl)) rfl
theorem fl_X7_31 : Cond.fieldLink RX7 31 "ExcuseMarket$Shopping" "size" "I" ∈ lw_g := lw_g_of (lw_t2 _ (List.mem_of_getElem? (i := 125) rfl)) rfl
theorem fl_X7_35 : Cond.fieldLink RX7 35 "ExcuseMarket$Shopping" "leastCoins" "I" ∈ lw_g := lw_g_of (lw_t2 _ (List.mem_of_getElem? (i := 126) rfl)) rfl
theorem fl_X11_231 : Cond.fieldLink RX11 231 "ExcuseMarket$Shopping" "leastCoins" "I" ∈ lw_g := lw_g_of (lw_t2 _ (List.mem_of_getElem? (i := 127) rfl)) rfl
theorem cl_X11_73 : Cond.classLink RX11 73 RX3 ∈ lw_g := lw_g_of (lw_t2 _ (List.mem_of_getElem? (i := 143) rfl)) rfl
theorem it_X3 : Cond.instantiable RX3 1 ∈ lw_g := lw_g_of (lw_t2 _ (List.mem_of_getElem? (i := 144) rfl)) rfl
theorem mn_X11_75 : Cond.methodLinkNest RX11 75 yX3_init "ExcuseMarket" ∈ lw_tbl := lw_t2 _ (List.mem_of_getElem? (i := 145) rfl)
theorem im_X3_init : Cond.instanceMethod yX3_init ∈ lw_g := lw_g_of (lw_t2 _ (List.mem_of_getElem? (i := 146) rfl)) rfl
theorem kc_X3_init : Cond.code yX3_init cX3_init 1 (none) ∈ lw_g := lw_g_of (lw_t2 _ (List.mem_of_getElem? (i := 147) rfl)) rfl
theorem ml_X3_3 : Cond.methodLink RX3 3 objectInit ∈ lw_g := lw_g_of (lw_t2 _ (List.mem_of_getElem? (i := 148) rfl)) rfl
theorem fl_X3_9 : Cond.fieldLink RX3 9 "ExcuseMarket$Market" "prices" "[I" ∈ lw_g := lw_g_of (lw_t2 _ (List.mem_of_getElem? (i := 149) rfl)) rfl
theorem cl_X11_80 : Cond.classLink RX11 80 RX0 ∈ lw_g := lw_g_of (lw_t2 _ (List.mem_of_getElem? (i := 153) rfl)) rfl
theorem it_X0 : Cond.instantiable RX0 5 ∈ lw_g := lw_g_of (lw_t2 _ (List.mem_of_getElem? (i := 154) rfl)) rfl
theorem mn_X11_82 : Cond.methodLinkNest RX11 82 yX0_init "ExcuseMarket" ∈ lw_tbl := lw_t2 _ (List.mem_of_getElem? (i := 155) rfl)
theorem im_X0_init : Cond.instanceMethod yX0_init ∈ lw_g := lw_g_of (lw_t2 _ (List.mem_of_getElem? (i := 156) rfl)) rfl
theorem kc_X0_init : Cond.code yX0_init cX0_init 1 (none) ∈ lw_g := lw_g_of (lw_t2 _ (List.mem_of_getElem? (i := 157) rfl)) rfl
theorem ml_X0_3 : Cond.methodLink RX0 3 objectInit ∈ lw_g := lw_g_of (lw_t2 _ (List.mem_of_getElem? (i := 158) rfl)) rfl
theorem fl_X0_9 : Cond.fieldLink RX0 9 "ExcuseMarket$Aunts" "kinds" "[I" ∈ lw_g := lw_g_of (lw_t2 _ (List.mem_of_getElem? (i := 159) rfl)) rfl
theorem fl_X0_15 : Cond.fieldLink RX0 15 "ExcuseMarket$Aunts" "leasts" "[I" ∈ lw_g := lw_g_of (lw_t2 _ (List.mem_of_getElem? (i := 160) rfl)) rfl
theorem fl_X0_18 : Cond.fieldLink RX0 18 "ExcuseMarket$Aunts" "mosts" "[I" ∈ lw_g := lw_g_of (lw_t2 _ (List.mem_of_getElem? (i := 161) rfl)) rfl
theorem fl_X0_21 : Cond.fieldLink RX0 21 "ExcuseMarket$Aunts" "yearsGone" "[I" ∈ lw_g := lw_g_of (lw_t2 _ (List.mem_of_getElem? (i := 162) rfl)) rfl
theorem fl_X0_24 : Cond.fieldLink RX0 24 "ExcuseMarket$Aunts" "count" "I" ∈ lw_g := lw_g_of (lw_t2 _ (List.mem_of_getElem? (i := 163) rfl)) rfl
theorem fl_X11_268 : Cond.fieldLink RX11 268 "ExcuseMarket$Aunts" "count" "I" ∈ lw_g := lw_g_of (lw_t2 _ (List.mem_of_getElem? (i := 164) rfl)) rfl
theorem cl_X11_87 : Cond.classLink RX11 87 RX6 ∈ lw_g := lw_g_of (lw_t2 _ (List.mem_of_getElem? (i := 176) rfl)) rfl
theorem it_X6 : Cond.instantiable RX6 5 ∈ lw_g := lw_g_of (lw_t2 _ (List.mem_of_getElem? (i := 177) rfl)) rfl
theorem mn_X11_89 : Cond.methodLinkNest RX11 89 yX6_init "ExcuseMarket" ∈ lw_tbl := lw_t2 _ (List.mem_of_getElem? (i := 178) rfl)
theorem im_X6_init : Cond.instanceMethod yX6_init ∈ lw_g := lw_g_of (lw_t2 _ (List.mem_of_getElem? (i := 179) rfl)) rfl
theorem kc_X6_init : Cond.code yX6_init cX6_init 1 (none) ∈ lw_g := lw_g_of (lw_t2 _ (List.mem_of_getElem? (i := 180) rfl)) rfl
theorem ml_X6_3 : Cond.methodLink RX6 3 objectInit ∈ lw_g := lw_g_of (lw_t2 _ (List.mem_of_getElem? (i := 181) rfl)) rfl
theorem fl_X6_9 : Cond.fieldLink RX6 9 "ExcuseMarket$Records" "excuses" "[I" ∈ lw_g := lw_g_of (lw_t2 _ (List.mem_of_getElem? (i := 182) rfl)) rfl
theorem fl_X6_15 : Cond.fieldLink RX6 15 "ExcuseMarket$Records" "men" "[I" ∈ lw_g := lw_g_of (lw_t2 _ (List.mem_of_getElem? (i := 183) rfl)) rfl
theorem fl_X6_18 : Cond.fieldLink RX6 18 "ExcuseMarket$Records" "oftens" "[I" ∈ lw_g := lw_g_of (lw_t2 _ (List.mem_of_getElem? (i := 184) rfl)) rfl
theorem fl_X6_21 : Cond.fieldLink RX6 21 "ExcuseMarket$Records" "due" "[I" ∈ lw_g := lw_g_of (lw_t2 _ (List.mem_of_getElem? (i := 185) rfl)) rfl
theorem fl_X6_24 : Cond.fieldLink RX6 24 "ExcuseMarket$Records" "count" "I" ∈ lw_g := lw_g_of (lw_t2 _ (List.mem_of_getElem? (i := 186) rfl)) rfl
theorem fl_X11_280 : Cond.fieldLink RX11 280 "ExcuseMarket$Records" "count" "I" ∈ lw_g := lw_g_of (lw_t2 _ (List.mem_of_getElem? (i := 187) rfl)) rfl
theorem ml_X11_94 : Cond.methodLink RX11 94 yX8_begin ∈ lw_g := lw_g_of (lw_t2 _ (List.mem_of_getElem? (i := 199) rfl)) rfl
theorem im_X8_begin : Cond.instanceMethod yX8_begin ∈ lw_g := lw_g_of (lw_t2 _ (List.mem_of_getElem? (i := 200) rfl)) rfl
theorem sl_X8_begin : Cond.selects RX8 yX8_begin yX8_begin ∈ lw_g := lw_g_of (lw_t2 _ (List.mem_of_getElem? (i := 201) rfl)) rfl
theorem kc_X8_begin : Cond.code yX8_begin cX8_begin 3 (none) ∈ lw_g := lw_g_of (lw_t2 _ (List.mem_of_getElem? (i := 202) rfl)) rfl
theorem ml_X8_43 : Cond.methodLink RX8 43 yX9_isMan ∈ lw_g := lw_g_of (lw_t2 _ (List.mem_of_getElem? (i := 203) rfl)) rfl
theorem im_X9_isMan : Cond.instanceMethod yX9_isMan ∈ lw_g := lw_g_of (lw_t2 _ (List.mem_of_getElem? (i := 204) rfl)) rfl
theorem sl_X9_isMan : Cond.selects RX9 yX9_isMan yX9_isMan ∈ lw_g := lw_g_of (lw_t2 _ (List.mem_of_getElem? (i := 205) rfl)) rfl
theorem kc_X9_isMan : Cond.code yX9_isMan cX9_isMan 2 (some .boolean) ∈ lw_g := lw_g_of (lw_t2 _ (List.mem_of_getElem? (i := 206) rfl)) rfl
theorem fl_X11_9 : Cond.fieldLink RX11 9 "ExcuseMarket" "tape" "[B" ∈ lw_g := lw_g_of (lw_t2 _ (List.mem_of_getElem? (i := 207) rfl)) rfl
theorem fl_X11_13 : Cond.fieldLink RX11 13 "ExcuseMarket" "tapeLength" "I" ∈ lw_g := lw_g_of (lw_t2 _ (List.mem_of_getElem? (i := 208) rfl)) rfl
theorem fl_X11_17 : Cond.fieldLink RX11 17 "ExcuseMarket" "faultPlace" "I" ∈ lw_g := lw_g_of (lw_t2 _ (List.mem_of_getElem? (i := 209) rfl)) rfl
theorem fl_X11_23 : Cond.fieldLink RX11 23 "ExcuseMarket" "parser" "LExcuseMarket$Parser;" ∈ lw_g := lw_g_of (lw_t2 _ (List.mem_of_getElem? (i := 210) rfl)) rfl
theorem fl_X11_30 : Cond.fieldLink RX11 30 "ExcuseMarket" "text" "LExcuseMarket$Text;" ∈ lw_g := lw_g_of (lw_t2 _ (List.mem_of_getElem? (i := 211) rfl)) rfl
theorem fl_X11_37 : Cond.fieldLink RX11 37 "ExcuseMarket" "now" "LExcuseMarket$State;" ∈ lw_g := lw_g_of (lw_t2 _ (List.mem_of_getElem? (i := 212) rfl)) rfl
theorem fl_X11_41 : Cond.fieldLink RX11 41 "ExcuseMarket" "ahead" "LExcuseMarket$State;" ∈ lw_g := lw_g_of (lw_t2 _ (List.mem_of_getElem? (i := 213) rfl)) rfl
theorem fl_X11_47 : Cond.fieldLink RX11 47 "ExcuseMarket" "past" "LExcuseMarket$Past;" ∈ lw_g := lw_g_of (lw_t2 _ (List.mem_of_getElem? (i := 214) rfl)) rfl
theorem fl_X11_51 : Cond.fieldLink RX11 51 "ExcuseMarket" "slots" "[LExcuseMarket$State;" ∈ lw_g := lw_g_of (lw_t2 _ (List.mem_of_getElem? (i := 215) rfl)) rfl
theorem fl_X11_55 : Cond.fieldLink RX11 55 "ExcuseMarket" "held" "[Z" ∈ lw_g := lw_g_of (lw_t2 _ (List.mem_of_getElem? (i := 216) rfl)) rfl
theorem fl_X11_62 : Cond.fieldLink RX11 62 "ExcuseMarket" "course" "LExcuseMarket$Course;" ∈ lw_g := lw_g_of (lw_t2 _ (List.mem_of_getElem? (i := 217) rfl)) rfl
theorem fl_X11_69 : Cond.fieldLink RX11 69 "ExcuseMarket" "shopping" "LExcuseMarket$Shopping;" ∈ lw_g := lw_g_of (lw_t2 _ (List.mem_of_getElem? (i := 218) rfl)) rfl
theorem fl_X11_76 : Cond.fieldLink RX11 76 "ExcuseMarket" "market" "LExcuseMarket$Market;" ∈ lw_g := lw_g_of (lw_t2 _ (List.mem_of_getElem? (i := 219) rfl)) rfl
theorem fl_X11_83 : Cond.fieldLink RX11 83 "ExcuseMarket" "aunts" "LExcuseMarket$Aunts;" ∈ lw_g := lw_g_of (lw_t2 _ (List.mem_of_getElem? (i := 220) rfl)) rfl
theorem fl_X11_90 : Cond.fieldLink RX11 90 "ExcuseMarket" "records" "LExcuseMarket$Records;" ∈ lw_g := lw_g_of (lw_t2 _ (List.mem_of_getElem? (i := 221) rfl)) rfl
theorem ml_L_13 : Cond.methodLink RL 13 yX11_feed ∈ lw_g := lw_g_of (lw_t3 _ (List.mem_of_getElem? (i := 13) rfl)) rfl
theorem im_X11_feed : Cond.instanceMethod yX11_feed ∈ lw_g := lw_g_of (lw_t3 _ (List.mem_of_getElem? (i := 14) rfl)) rfl
theorem sl_X11_feed : Cond.selects RX11 yX11_feed yX11_feed ∈ lw_g := lw_g_of (lw_t3 _ (List.mem_of_getElem? (i := 15) rfl)) rfl
theorem kc_X11_feed : Cond.code yX11_feed cX11_feed 6 (some .int) ∈ lw_g := lw_g_of (lw_t3 _ (List.mem_of_getElem? (i := 16) rfl)) rfl
theorem ml_X11_98 : Cond.methodLink RX11 98 yX11_writeWord ∈ lw_g := lw_g_of (lw_t3 _ (List.mem_of_getElem? (i := 17) rfl)) rfl
theorem im_X11_writeWord : Cond.instanceMethod yX11_writeWord ∈ lw_g := lw_g_of (lw_t3 _ (List.mem_of_getElem? (i := 19) rfl)) rfl
theorem kc_X11_writeWord : Cond.code yX11_writeWord cX11_writeWord 3 (none) ∈ lw_g := lw_g_of (lw_t3 _ (List.mem_of_getElem? (i := 20) rfl)) rfl
theorem ml_L_18 : Cond.methodLink RL 18 yX11_back ∈ lw_g := lw_g_of (lw_t3 _ (List.mem_of_getElem? (i := 21) rfl)) rfl
theorem im_X11_back : Cond.instanceMethod yX11_back ∈ lw_g := lw_g_of (lw_t3 _ (List.mem_of_getElem? (i := 22) rfl)) rfl
theorem sl_X11_back : Cond.selects RX11 yX11_back yX11_back ∈ lw_g := lw_g_of (lw_t3 _ (List.mem_of_getElem? (i := 23) rfl)) rfl
theorem kc_X11_back : Cond.code yX11_back cX11_back 2 (some .int) ∈ lw_g := lw_g_of (lw_t3 _ (List.mem_of_getElem? (i := 24) rfl)) rfl
theorem ml_L_23 : Cond.methodLink RL 23 yX11_read ∈ lw_g := lw_g_of (lw_t3 _ (List.mem_of_getElem? (i := 25) rfl)) rfl
theorem im_X11_read : Cond.instanceMethod yX11_read ∈ lw_g := lw_g_of (lw_t3 _ (List.mem_of_getElem? (i := 26) rfl)) rfl
theorem sl_X11_read : Cond.selects RX11 yX11_read yX11_read ∈ lw_g := lw_g_of (lw_t3 _ (List.mem_of_getElem? (i := 27) rfl)) rfl
theorem kc_X11_read : Cond.code yX11_read cX11_read 2 (some .int) ∈ lw_g := lw_g_of (lw_t3 _ (List.mem_of_getElem? (i := 28) rfl)) rfl
theorem ml_X11_102 : Cond.methodLink RX11 102 yX4_parse ∈ lw_g := lw_g_of (lw_t3 _ (List.mem_of_getElem? (i := 29) rfl)) rfl
theorem im_X4_parse : Cond.instanceMethod yX4_parse ∈ lw_g := lw_g_of (lw_t3 _ (List.mem_of_getElem? (i := 30) rfl)) rfl
theorem sl_X4_parse : Cond.selects RX4 yX4_parse yX4_parse ∈ lw_g := lw_g_of (lw_t3 _ (List.mem_of_getElem? (i := 31) rfl)) rfl
theorem kc_X4_parse : Cond.code yX4_parse cX4_parse 4 (some .int) ∈ lw_g := lw_g_of (lw_t3 _ (List.mem_of_getElem? (i := 32) rfl)) rfl
theorem ml_X4_41 : Cond.methodLink RX4 41 yX10_cut ∈ lw_g := lw_g_of (lw_t3 _ (List.mem_of_getElem? (i := 33) rfl)) rfl
theorem im_X10_cut : Cond.instanceMethod yX10_cut ∈ lw_g := lw_g_of (lw_t3 _ (List.mem_of_getElem? (i := 34) rfl)) rfl
theorem sl_X10_cut : Cond.selects RX10 yX10_cut yX10_cut ∈ lw_g := lw_g_of (lw_t3 _ (List.mem_of_getElem? (i := 35) rfl)) rfl
theorem kc_X10_cut : Cond.code yX10_cut cX10_cut 7 (none) ∈ lw_g := lw_g_of (lw_t3 _ (List.mem_of_getElem? (i := 36) rfl)) rfl
theorem ml_X10_39 : Cond.methodLink RX10 39 yX10_behindBlanks ∈ lw_g := lw_g_of (lw_t3 _ (List.mem_of_getElem? (i := 37) rfl)) rfl
theorem sm_X10_behindBlanks : Cond.static yX10_behindBlanks ∈ lw_g := lw_g_of (lw_t3 _ (List.mem_of_getElem? (i := 38) rfl)) rfl
theorem kc_X10_behindBlanks : Cond.code yX10_behindBlanks cX10_behindBlanks 4 (some .int) ∈ lw_g := lw_g_of (lw_t3 _ (List.mem_of_getElem? (i := 39) rfl)) rfl
theorem ml_X10_43 : Cond.methodLink RX10 43 yX10_endOfRun ∈ lw_g := lw_g_of (lw_t3 _ (List.mem_of_getElem? (i := 40) rfl)) rfl
theorem sm_X10_endOfRun : Cond.static yX10_endOfRun ∈ lw_g := lw_g_of (lw_t3 _ (List.mem_of_getElem? (i := 41) rfl)) rfl
theorem kc_X10_endOfRun : Cond.code yX10_endOfRun cX10_endOfRun 4 (some .int) ∈ lw_g := lw_g_of (lw_t3 _ (List.mem_of_getElem? (i := 42) rfl)) rfl
theorem ml_X10_50 : Cond.methodLink RX10 50 yX10_isLetter ∈ lw_g := lw_g_of (lw_t3 _ (List.mem_of_getElem? (i := 43) rfl)) rfl
theorem sm_X10_isLetter : Cond.static yX10_isLetter ∈ lw_g := lw_g_of (lw_t3 _ (List.mem_of_getElem? (i := 44) rfl)) rfl
theorem kc_X10_isLetter : Cond.code yX10_isLetter cX10_isLetter 1 (some .boolean) ∈ lw_g := lw_g_of (lw_t3 _ (List.mem_of_getElem? (i := 45) rfl)) rfl
theorem ml_X10_54 : Cond.methodLink RX10 54 yX10_isDigit ∈ lw_g := lw_g_of (lw_t3 _ (List.mem_of_getElem? (i := 46) rfl)) rfl
theorem sm_X10_isDigit : Cond.static yX10_isDigit ∈ lw_g := lw_g_of (lw_t3 _ (List.mem_of_getElem? (i := 47) rfl)) rfl
theorem kc_X10_isDigit : Cond.code yX10_isDigit cX10_isDigit 1 (some .boolean) ∈ lw_g := lw_g_of (lw_t3 _ (List.mem_of_getElem? (i := 48) rfl)) rfl
theorem ml_X10_46 : Cond.methodLink RX10 46 yX10_put ∈ lw_g := lw_g_of (lw_t3 _ (List.mem_of_getElem? (i := 49) rfl)) rfl
theorem im_X10_put : Cond.instanceMethod yX10_put ∈ lw_g := lw_g_of (lw_t3 _ (List.mem_of_getElem? (i := 51) rfl)) rfl
theorem kc_X10_put : Cond.code yX10_put cX10_put 6 (none) ∈ lw_g := lw_g_of (lw_t3 _ (List.mem_of_getElem? (i := 52) rfl)) rfl
theorem ml_X10_57 : Cond.methodLink RX10 57 yX10_joined ∈ lw_g := lw_g_of (lw_t3 _ (List.mem_of_getElem? (i := 53) rfl)) rfl
theorem sm_X10_joined : Cond.static yX10_joined ∈ lw_g := lw_g_of (lw_t3 _ (List.mem_of_getElem? (i := 54) rfl)) rfl
theorem kc_X10_joined : Cond.code yX10_joined cX10_joined 8 (some .long) ∈ lw_g := lw_g_of (lw_t3 _ (List.mem_of_getElem? (i := 55) rfl)) rfl
theorem ml_X10_61 : Cond.methodLink RX10 61 yX10_kindOf ∈ lw_g := lw_g_of (lw_t3 _ (List.mem_of_getElem? (i := 56) rfl)) rfl
theorem im_X10_kindOf : Cond.instanceMethod yX10_kindOf ∈ lw_g := lw_g_of (lw_t3 _ (List.mem_of_getElem? (i := 58) rfl)) rfl
theorem kc_X10_kindOf : Cond.code yX10_kindOf cX10_kindOf 4 (some .int) ∈ lw_g := lw_g_of (lw_t3 _ (List.mem_of_getElem? (i := 59) rfl)) rfl
theorem ml_X10_65 : Cond.methodLink RX10 65 yX10_isSign ∈ lw_g := lw_g_of (lw_t3 _ (List.mem_of_getElem? (i := 60) rfl)) rfl
theorem sm_X10_isSign : Cond.static yX10_isSign ∈ lw_g := lw_g_of (lw_t3 _ (List.mem_of_getElem? (i := 61) rfl)) rfl
theorem kc_X10_isSign : Cond.code yX10_isSign cX10_isSign 1 (some .boolean) ∈ lw_g := lw_g_of (lw_t3 _ (List.mem_of_getElem? (i := 62) rfl)) rfl
theorem ml_X4_45 : Cond.methodLink RX4 45 yX9_clear ∈ lw_g := lw_g_of (lw_t3 _ (List.mem_of_getElem? (i := 63) rfl)) rfl
theorem ml_X4_48 : Cond.methodLink RX4 48 yX4_kind ∈ lw_g := lw_g_of (lw_t3 _ (List.mem_of_getElem? (i := 64) rfl)) rfl
theorem im_X4_kind : Cond.instanceMethod yX4_kind ∈ lw_g := lw_g_of (lw_t3 _ (List.mem_of_getElem? (i := 66) rfl)) rfl
theorem kc_X4_kind : Cond.code yX4_kind cX4_kind 1 (some .int) ∈ lw_g := lw_g_of (lw_t3 _ (List.mem_of_getElem? (i := 67) rfl)) rfl
theorem ml_X4_52 : Cond.methodLink RX4 52 yX4_tellMan ∈ lw_g := lw_g_of (lw_t3 _ (List.mem_of_getElem? (i := 68) rfl)) rfl
theorem im_X4_tellMan : Cond.instanceMethod yX4_tellMan ∈ lw_g := lw_g_of (lw_t3 _ (List.mem_of_getElem? (i := 70) rfl)) rfl
theorem kc_X4_tellMan : Cond.code yX4_tellMan cX4_tellMan 3 (none) ∈ lw_g := lw_g_of (lw_t3 _ (List.mem_of_getElem? (i := 71) rfl)) rfl
theorem ml_X4_101 : Cond.methodLink RX4 101 yX4_open ∈ lw_g := lw_g_of (lw_t3 _ (List.mem_of_getElem? (i := 72) rfl)) rfl
theorem im_X4_open : Cond.instanceMethod yX4_open ∈ lw_g := lw_g_of (lw_t3 _ (List.mem_of_getElem? (i := 74) rfl)) rfl
theorem kc_X4_open : Cond.code yX4_open cX4_open 4 (none) ∈ lw_g := lw_g_of (lw_t3 _ (List.mem_of_getElem? (i := 75) rfl)) rfl
theorem ml_X4_91 : Cond.methodLink RX4 91 yX4_breakOff ∈ lw_g := lw_g_of (lw_t3 _ (List.mem_of_getElem? (i := 76) rfl)) rfl
theorem im_X4_breakOff : Cond.instanceMethod yX4_breakOff ∈ lw_g := lw_g_of (lw_t3 _ (List.mem_of_getElem? (i := 78) rfl)) rfl
theorem kc_X4_breakOff : Cond.code yX4_breakOff cX4_breakOff 2 (none) ∈ lw_g := lw_g_of (lw_t3 _ (List.mem_of_getElem? (i := 79) rfl)) rfl
theorem ml_X4_95 : Cond.methodLink RX4 95 yX4_accept ∈ lw_g := lw_g_of (lw_t3 _ (List.mem_of_getElem? (i := 80) rfl)) rfl
theorem im_X4_accept : Cond.instanceMethod yX4_accept ∈ lw_g := lw_g_of (lw_t3 _ (List.mem_of_getElem? (i := 82) rfl)) rfl
theorem kc_X4_accept : Cond.code yX4_accept cX4_accept 2 (none) ∈ lw_g := lw_g_of (lw_t3 _ (List.mem_of_getElem? (i := 83) rfl)) rfl
theorem ml_X4_105 : Cond.methodLink RX4 105 yX4_newName ∈ lw_g := lw_g_of (lw_t3 _ (List.mem_of_getElem? (i := 84) rfl)) rfl
theorem im_X4_newName : Cond.instanceMethod yX4_newName ∈ lw_g := lw_g_of (lw_t3 _ (List.mem_of_getElem? (i := 86) rfl)) rfl
theorem kc_X4_newName : Cond.code yX4_newName cX4_newName 6 (none) ∈ lw_g := lw_g_of (lw_t3 _ (List.mem_of_getElem? (i := 87) rfl)) rfl
theorem ml_X4_135 : Cond.methodLink RX4 135 yX4_placeHere ∈ lw_g := lw_g_of (lw_t3 _ (List.mem_of_getElem? (i := 88) rfl)) rfl
theorem im_X4_placeHere : Cond.instanceMethod yX4_placeHere ∈ lw_g := lw_g_of (lw_t3 _ (List.mem_of_getElem? (i := 90) rfl)) rfl
theorem kc_X4_placeHere : Cond.code yX4_placeHere cX4_placeHere 1 (some .int) ∈ lw_g := lw_g_of (lw_t3 _ (List.mem_of_getElem? (i := 91) rfl)) rfl
theorem ml_X4_183 : Cond.methodLink RX4 183 yX9_findName ∈ lw_g := lw_g_of (lw_t3 _ (List.mem_of_getElem? (i := 92) rfl)) rfl
theorem im_X9_findName : Cond.instanceMethod yX9_findName ∈ lw_g := lw_g_of (lw_t3 _ (List.mem_of_getElem? (i := 93) rfl)) rfl
theorem sl_X9_findName : Cond.selects RX9 yX9_findName yX9_findName ∈ lw_g := lw_g_of (lw_t3 _ (List.mem_of_getElem? (i := 94) rfl)) rfl
theorem kc_X9_findName : Cond.code yX9_findName cX9_findName 4 (some .int) ∈ lw_g := lw_g_of (lw_t3 _ (List.mem_of_getElem? (i := 95) rfl)) rfl
theorem ml_X4_138 : Cond.methodLink RX4 138 yX4_complain ∈ lw_g := lw_g_of (lw_t3 _ (List.mem_of_getElem? (i := 96) rfl)) rfl
theorem im_X4_complain : Cond.instanceMethod yX4_complain ∈ lw_g := lw_g_of (lw_t3 _ (List.mem_of_getElem? (i := 98) rfl)) rfl
theorem kc_X4_complain : Cond.code yX4_complain cX4_complain 3 (none) ∈ lw_g := lw_g_of (lw_t3 _ (List.mem_of_getElem? (i := 99) rfl)) rfl
theorem ml_X4_187 : Cond.methodLink RX4 187 yX9_addName ∈ lw_g := lw_g_of (lw_t3 _ (List.mem_of_getElem? (i := 100) rfl)) rfl
theorem im_X9_addName : Cond.instanceMethod yX9_addName ∈ lw_g := lw_g_of (lw_t3 _ (List.mem_of_getElem? (i := 101) rfl)) rfl
theorem sl_X9_addName : Cond.selects RX9 yX9_addName yX9_addName ∈ lw_g := lw_g_of (lw_t3 _ (List.mem_of_getElem? (i := 102) rfl)) rfl
theorem kc_X9_addName : Cond.code yX9_addName cX9_addName 5 (none) ∈ lw_g := lw_g_of (lw_t3 _ (List.mem_of_getElem? (i := 103) rfl)) rfl
theorem ml_X4_109 : Cond.methodLink RX4 109 yX4_number ∈ lw_g := lw_g_of (lw_t3 _ (List.mem_of_getElem? (i := 104) rfl)) rfl
theorem im_X4_number : Cond.instanceMethod yX4_number ∈ lw_g := lw_g_of (lw_t3 _ (List.mem_of_getElem? (i := 106) rfl)) rfl
theorem kc_X4_number : Cond.code yX4_number cX4_number 5 (some .int) ∈ lw_g := lw_g_of (lw_t3 _ (List.mem_of_getElem? (i := 107) rfl)) rfl
theorem ml_X4_112 : Cond.methodLink RX4 112 yX9_addMan ∈ lw_g := lw_g_of (lw_t3 _ (List.mem_of_getElem? (i := 108) rfl)) rfl
theorem im_X9_addMan : Cond.instanceMethod yX9_addMan ∈ lw_g := lw_g_of (lw_t3 _ (List.mem_of_getElem? (i := 109) rfl)) rfl
theorem sl_X9_addMan : Cond.selects RX9 yX9_addMan yX9_addMan ∈ lw_g := lw_g_of (lw_t3 _ (List.mem_of_getElem? (i := 110) rfl)) rfl
theorem kc_X9_addMan : Cond.code yX9_addMan cX9_addMan 3 (none) ∈ lw_g := lw_g_of (lw_t3 _ (List.mem_of_getElem? (i := 111) rfl)) rfl
theorem ml_X4_55 : Cond.methodLink RX4 55 yX4_tellExcuse ∈ lw_g := lw_g_of (lw_t3 _ (List.mem_of_getElem? (i := 112) rfl)) rfl
theorem im_X4_tellExcuse : Cond.instanceMethod yX4_tellExcuse ∈ lw_g := lw_g_of (lw_t3 _ (List.mem_of_getElem? (i := 114) rfl)) rfl
theorem kc_X4_tellExcuse : Cond.code yX4_tellExcuse cX4_tellExcuse 6 (none) ∈ lw_g := lw_g_of (lw_t3 _ (List.mem_of_getElem? (i := 115) rfl)) rfl
theorem ml_X4_118 : Cond.methodLink RX4 118 yX9_addExcuse ∈ lw_g := lw_g_of (lw_t3 _ (List.mem_of_getElem? (i := 116) rfl)) rfl
theorem im_X9_addExcuse : Cond.instanceMethod yX9_addExcuse ∈ lw_g := lw_g_of (lw_t3 _ (List.mem_of_getElem? (i := 117) rfl)) rfl
theorem sl_X9_addExcuse : Cond.selects RX9 yX9_addExcuse yX9_addExcuse ∈ lw_g := lw_g_of (lw_t3 _ (List.mem_of_getElem? (i := 118) rfl)) rfl
theorem kc_X9_addExcuse : Cond.code yX9_addExcuse cX9_addExcuse 7 (none) ∈ lw_g := lw_g_of (lw_t3 _ (List.mem_of_getElem? (i := 119) rfl)) rfl
theorem ml_X4_58 : Cond.methodLink RX4 58 yX4_tellDuty ∈ lw_g := lw_g_of (lw_t3 _ (List.mem_of_getElem? (i := 120) rfl)) rfl
theorem im_X4_tellDuty : Cond.instanceMethod yX4_tellDuty ∈ lw_g := lw_g_of (lw_t3 _ (List.mem_of_getElem? (i := 122) rfl)) rfl
theorem kc_X4_tellDuty : Cond.code yX4_tellDuty cX4_tellDuty 4 (none) ∈ lw_g := lw_g_of (lw_t3 _ (List.mem_of_getElem? (i := 123) rfl)) rfl
theorem ml_X4_125 : Cond.methodLink RX4 125 yX4_toldName ∈ lw_g := lw_g_of (lw_t3 _ (List.mem_of_getElem? (i := 124) rfl)) rfl
theorem im_X4_toldName : Cond.instanceMethod yX4_toldName ∈ lw_g := lw_g_of (lw_t3 _ (List.mem_of_getElem? (i := 126) rfl)) rfl
theorem kc_X4_toldName : Cond.code yX4_toldName cX4_toldName 6 (some .int) ∈ lw_g := lw_g_of (lw_t3 _ (List.mem_of_getElem? (i := 127) rfl)) rfl
theorem ml_X4_191 : Cond.methodLink RX4 191 yX9_numberOf ∈ lw_g := lw_g_of (lw_t3 _ (List.mem_of_getElem? (i := 128) rfl)) rfl
theorem im_X9_numberOf : Cond.instanceMethod yX9_numberOf ∈ lw_g := lw_g_of (lw_t3 _ (List.mem_of_getElem? (i := 129) rfl)) rfl
theorem sl_X9_numberOf : Cond.selects RX9 yX9_numberOf yX9_numberOf ∈ lw_g := lw_g_of (lw_t3 _ (List.mem_of_getElem? (i := 130) rfl)) rfl
theorem kc_X9_numberOf : Cond.code yX9_numberOf cX9_numberOf 3 (some .int) ∈ lw_g := lw_g_of (lw_t3 _ (List.mem_of_getElem? (i := 131) rfl)) rfl
theorem ml_X4_129 : Cond.methodLink RX4 129 yX9_addDuty ∈ lw_g := lw_g_of (lw_t3 _ (List.mem_of_getElem? (i := 132) rfl)) rfl
theorem im_X9_addDuty : Cond.instanceMethod yX9_addDuty ∈ lw_g := lw_g_of (lw_t3 _ (List.mem_of_getElem? (i := 133) rfl)) rfl
theorem sl_X9_addDuty : Cond.selects RX9 yX9_addDuty yX9_addDuty ∈ lw_g := lw_g_of (lw_t3 _ (List.mem_of_getElem? (i := 134) rfl)) rfl
theorem kc_X9_addDuty : Cond.code yX9_addDuty cX9_addDuty 4 (none) ∈ lw_g := lw_g_of (lw_t3 _ (List.mem_of_getElem? (i := 135) rfl)) rfl
theorem ml_X4_61 : Cond.methodLink RX4 61 yX4_tellKnows ∈ lw_g := lw_g_of (lw_t3 _ (List.mem_of_getElem? (i := 136) rfl)) rfl
theorem im_X4_tellKnows : Cond.instanceMethod yX4_tellKnows ∈ lw_g := lw_g_of (lw_t3 _ (List.mem_of_getElem? (i := 138) rfl)) rfl
theorem kc_X4_tellKnows : Cond.code yX4_tellKnows cX4_tellKnows 4 (none) ∈ lw_g := lw_g_of (lw_t3 _ (List.mem_of_getElem? (i := 139) rfl)) rfl
theorem ml_X4_141 : Cond.methodLink RX4 141 yX9_addKnows ∈ lw_g := lw_g_of (lw_t3 _ (List.mem_of_getElem? (i := 140) rfl)) rfl
theorem im_X9_addKnows : Cond.instanceMethod yX9_addKnows ∈ lw_g := lw_g_of (lw_t3 _ (List.mem_of_getElem? (i := 141) rfl)) rfl
theorem sl_X9_addKnows : Cond.selects RX9 yX9_addKnows yX9_addKnows ∈ lw_g := lw_g_of (lw_t3 _ (List.mem_of_getElem? (i := 142) rfl)) rfl
theorem kc_X9_addKnows : Cond.code yX9_addKnows cX9_addKnows 3 (none) ∈ lw_g := lw_g_of (lw_t3 _ (List.mem_of_getElem? (i := 143) rfl)) rfl
theorem ml_X9_81 : Cond.methodLink RX9 81 yX9_isMan ∈ lw_g := lw_g_of (lw_t3 _ (List.mem_of_getElem? (i := 144) rfl)) rfl
theorem ml_X4_64 : Cond.methodLink RX4 64 yX4_tellTest ∈ lw_g := lw_g_of (lw_t3 _ (List.mem_of_getElem? (i := 145) rfl)) rfl
theorem im_X4_tellTest : Cond.instanceMethod yX4_tellTest ∈ lw_g := lw_g_of (lw_t3 _ (List.mem_of_getElem? (i := 147) rfl)) rfl
theorem kc_X4_tellTest : Cond.code yX4_tellTest cX4_tellTest 5 (none) ∈ lw_g := lw_g_of (lw_t3 _ (List.mem_of_getElem? (i := 148) rfl)) rfl
theorem ml_X4_147 : Cond.methodLink RX4 147 yX9_addTest ∈ lw_g := lw_g_of (lw_t3 _ (List.mem_of_getElem? (i := 149) rfl)) rfl
theorem im_X9_addTest : Cond.instanceMethod yX9_addTest ∈ lw_g := lw_g_of (lw_t3 _ (List.mem_of_getElem? (i := 150) rfl)) rfl
theorem sl_X9_addTest : Cond.selects RX9 yX9_addTest yX9_addTest ∈ lw_g := lw_g_of (lw_t3 _ (List.mem_of_getElem? (i := 151) rfl)) rfl
theorem kc_X9_addTest : Cond.code yX9_addTest cX9_addTest 2 (none) ∈ lw_g := lw_g_of (lw_t3 _ (List.mem_of_getElem? (i := 152) rfl)) rfl
theorem ml_X4_71 : Cond.methodLink RX4 71 yX4_tellLaw ∈ lw_g := lw_g_of (lw_t3 _ (List.mem_of_getElem? (i := 153) rfl)) rfl
theorem im_X4_tellLaw : Cond.instanceMethod yX4_tellLaw ∈ lw_g := lw_g_of (lw_t3 _ (List.mem_of_getElem? (i := 155) rfl)) rfl
theorem kc_X4_tellLaw : Cond.code yX4_tellLaw cX4_tellLaw 5 (none) ∈ lw_g := lw_g_of (lw_t3 _ (List.mem_of_getElem? (i := 156) rfl)) rfl
theorem ml_X4_150 : Cond.methodLink RX4 150 yX2_clear ∈ lw_g := lw_g_of (lw_t3 _ (List.mem_of_getElem? (i := 157) rfl)) rfl
theorem im_X2_clear : Cond.instanceMethod yX2_clear ∈ lw_g := lw_g_of (lw_t3 _ (List.mem_of_getElem? (i := 158) rfl)) rfl
theorem sl_X2_clear : Cond.selects RX2 yX2_clear yX2_clear ∈ lw_g := lw_g_of (lw_t3 _ (List.mem_of_getElem? (i := 159) rfl)) rfl
theorem kc_X2_clear : Cond.code yX2_clear cX2_clear 1 (none) ∈ lw_g := lw_g_of (lw_t3 _ (List.mem_of_getElem? (i := 160) rfl)) rfl
theorem ml_X4_153 : Cond.methodLink RX4 153 yX4_sum ∈ lw_g := lw_g_of (lw_t3 _ (List.mem_of_getElem? (i := 161) rfl)) rfl
theorem im_X4_sum : Cond.instanceMethod yX4_sum ∈ lw_g := lw_g_of (lw_t3 _ (List.mem_of_getElem? (i := 163) rfl)) rfl
theorem kc_X4_sum : Cond.code yX4_sum cX4_sum 5 (none) ∈ lw_g := lw_g_of (lw_t3 _ (List.mem_of_getElem? (i := 164) rfl)) rfl
theorem ml_X4_166 : Cond.methodLink RX4 166 yX4_product ∈ lw_g := lw_g_of (lw_t3 _ (List.mem_of_getElem? (i := 165) rfl)) rfl
theorem im_X4_product : Cond.instanceMethod yX4_product ∈ lw_g := lw_g_of (lw_t3 _ (List.mem_of_getElem? (i := 167) rfl)) rfl
theorem kc_X4_product : Cond.code yX4_product cX4_product 5 (none) ∈ lw_g := lw_g_of (lw_t3 _ (List.mem_of_getElem? (i := 168) rfl)) rfl
theorem ml_X4_169 : Cond.methodLink RX4 169 yX4_unit ∈ lw_g := lw_g_of (lw_t3 _ (List.mem_of_getElem? (i := 169) rfl)) rfl
theorem im_X4_unit : Cond.instanceMethod yX4_unit ∈ lw_g := lw_g_of (lw_t3 _ (List.mem_of_getElem? (i := 171) rfl)) rfl
theorem kc_X4_unit : Cond.code yX4_unit cX4_unit 4 (none) ∈ lw_g := lw_g_of (lw_t3 _ (List.mem_of_getElem? (i := 172) rfl)) rfl
theorem ml_X4_160 : Cond.methodLink RX4 160 yX2_add ∈ lw_g := lw_g_of (lw_t3 _ (List.mem_of_getElem? (i := 173) rfl)) rfl
theorem ml_X4_157 : Cond.methodLink RX4 157 yX2_addUnlessLess ∈ lw_g := lw_g_of (lw_t3 _ (List.mem_of_getElem? (i := 174) rfl)) rfl
theorem im_X2_addUnlessLess : Cond.instanceMethod yX2_addUnlessLess ∈ lw_g := lw_g_of (lw_t3 _ (List.mem_of_getElem? (i := 175) rfl)) rfl
theorem sl_X2_addUnlessLess : Cond.selects RX2 yX2_addUnlessLess yX2_addUnlessLess ∈ lw_g := lw_g_of (lw_t3 _ (List.mem_of_getElem? (i := 176) rfl)) rfl
theorem kc_X2_addUnlessLess : Cond.code yX2_addUnlessLess cX2_addUnlessLess 1 (some .int) ∈ lw_g := lw_g_of (lw_t3 _ (List.mem_of_getElem? (i := 177) rfl)) rfl
theorem ml_X4_163 : Cond.methodLink RX4 163 yX2_landHere ∈ lw_g := lw_g_of (lw_t3 _ (List.mem_of_getElem? (i := 178) rfl)) rfl
theorem im_X2_landHere : Cond.instanceMethod yX2_landHere ∈ lw_g := lw_g_of (lw_t3 _ (List.mem_of_getElem? (i := 179) rfl)) rfl
theorem sl_X2_landHere : Cond.selects RX2 yX2_landHere yX2_landHere ∈ lw_g := lw_g_of (lw_t3 _ (List.mem_of_getElem? (i := 180) rfl)) rfl
theorem kc_X2_landHere : Cond.code yX2_landHere cX2_landHere 2 (none) ∈ lw_g := lw_g_of (lw_t3 _ (List.mem_of_getElem? (i := 181) rfl)) rfl
theorem ml_X4_78 : Cond.methodLink RX4 78 yX4_setting ∈ lw_g := lw_g_of (lw_t3 _ (List.mem_of_getElem? (i := 182) rfl)) rfl
theorem im_X4_setting : Cond.instanceMethod yX4_setting ∈ lw_g := lw_g_of (lw_t3 _ (List.mem_of_getElem? (i := 184) rfl)) rfl
theorem kc_X4_setting : Cond.code yX4_setting cX4_setting 3 (some .int) ∈ lw_g := lw_g_of (lw_t3 _ (List.mem_of_getElem? (i := 185) rfl)) rfl
theorem ml_X11_106 : Cond.methodLink RX11 106 yX4_placeOfFault ∈ lw_g := lw_g_of (lw_t3 _ (List.mem_of_getElem? (i := 186) rfl)) rfl
theorem im_X4_placeOfFault : Cond.instanceMethod yX4_placeOfFault ∈ lw_g := lw_g_of (lw_t3 _ (List.mem_of_getElem? (i := 187) rfl)) rfl
theorem sl_X4_placeOfFault : Cond.selects RX4 yX4_placeOfFault yX4_placeOfFault ∈ lw_g := lw_g_of (lw_t3 _ (List.mem_of_getElem? (i := 188) rfl)) rfl
theorem kc_X4_placeOfFault : Cond.code yX4_placeOfFault cX4_placeOfFault 1 (some .int) ∈ lw_g := lw_g_of (lw_t3 _ (List.mem_of_getElem? (i := 189) rfl)) rfl
theorem ml_X11_110 : Cond.methodLink RX11 110 yX11_beginAnew ∈ lw_g := lw_g_of (lw_t3 _ (List.mem_of_getElem? (i := 190) rfl)) rfl
theorem im_X11_beginAnew : Cond.instanceMethod yX11_beginAnew ∈ lw_g := lw_g_of (lw_t3 _ (List.mem_of_getElem? (i := 192) rfl)) rfl
theorem kc_X11_beginAnew : Cond.code yX11_beginAnew cX11_beginAnew 3 (none) ∈ lw_g := lw_g_of (lw_t3 _ (List.mem_of_getElem? (i := 193) rfl)) rfl
theorem ml_X11_114 : Cond.methodLink RX11 114 yX5_clear ∈ lw_g := lw_g_of (lw_t3 _ (List.mem_of_getElem? (i := 194) rfl)) rfl
theorem im_X5_clear : Cond.instanceMethod yX5_clear ∈ lw_g := lw_g_of (lw_t3 _ (List.mem_of_getElem? (i := 195) rfl)) rfl
theorem sl_X5_clear : Cond.selects RX5 yX5_clear yX5_clear ∈ lw_g := lw_g_of (lw_t3 _ (List.mem_of_getElem? (i := 196) rfl)) rfl
theorem kc_X5_clear : Cond.code yX5_clear cX5_clear 1 (none) ∈ lw_g := lw_g_of (lw_t3 _ (List.mem_of_getElem? (i := 197) rfl)) rfl
theorem ml_X11_117 : Cond.methodLink RX11 117 yX0_clear ∈ lw_g := lw_g_of (lw_t3 _ (List.mem_of_getElem? (i := 198) rfl)) rfl
theorem im_X0_clear : Cond.instanceMethod yX0_clear ∈ lw_g := lw_g_of (lw_t3 _ (List.mem_of_getElem? (i := 199) rfl)) rfl
theorem sl_X0_clear : Cond.selects RX0 yX0_clear yX0_clear ∈ lw_g := lw_g_of (lw_t3 _ (List.mem_of_getElem? (i := 200) rfl)) rfl
theorem kc_X0_clear : Cond.code yX0_clear cX0_clear 1 (none) ∈ lw_g := lw_g_of (lw_t3 _ (List.mem_of_getElem? (i := 201) rfl)) rfl
theorem ml_X11_118 : Cond.methodLink RX11 118 yX6_clear ∈ lw_g := lw_g_of (lw_t3 _ (List.mem_of_getElem? (i := 202) rfl)) rfl
theorem im_X6_clear : Cond.instanceMethod yX6_clear ∈ lw_g := lw_g_of (lw_t3 _ (List.mem_of_getElem? (i := 203) rfl)) rfl
theorem sl_X6_clear : Cond.selects RX6 yX6_clear yX6_clear ∈ lw_g := lw_g_of (lw_t3 _ (List.mem_of_getElem? (i := 204) rfl)) rfl
theorem kc_X6_clear : Cond.code yX6_clear cX6_clear 1 (none) ∈ lw_g := lw_g_of (lw_t3 _ (List.mem_of_getElem? (i := 205) rfl)) rfl
theorem ml_L_28 : Cond.methodLink RL 28 yX11_place ∈ lw_g := lw_g_of (lw_t3 _ (List.mem_of_getElem? (i := 206) rfl)) rfl
theorem im_X11_place : Cond.instanceMethod yX11_place ∈ lw_g := lw_g_of (lw_t3 _ (List.mem_of_getElem? (i := 207) rfl)) rfl
theorem sl_X11_place : Cond.selects RX11 yX11_place yX11_place ∈ lw_g := lw_g_of (lw_t3 _ (List.mem_of_getElem? (i := 208) rfl)) rfl
theorem kc_X11_place : Cond.code yX11_place cX11_place 1 (some .int) ∈ lw_g := lw_g_of (lw_t3 _ (List.mem_of_getElem? (i := 209) rfl)) rfl
theorem ml_L_32 : Cond.methodLink RL 32 yX11_man ∈ lw_g := lw_g_of (lw_t3 _ (List.mem_of_getElem? (i := 210) rfl)) rfl
theorem im_X11_man : Cond.instanceMethod yX11_man ∈ lw_g := lw_g_of (lw_t3 _ (List.mem_of_getElem? (i := 211) rfl)) rfl
theorem sl_X11_man : Cond.selects RX11 yX11_man yX11_man ∈ lw_g := lw_g_of (lw_t3 _ (List.mem_of_getElem? (i := 212) rfl)) rfl
theorem kc_X11_man : Cond.code yX11_man cX11_man 3 (some .int) ∈ lw_g := lw_g_of (lw_t3 _ (List.mem_of_getElem? (i := 213) rfl)) rfl
theorem ml_X11_119 : Cond.methodLink RX11 119 yX9_isMan ∈ lw_g := lw_g_of (lw_t3 _ (List.mem_of_getElem? (i := 214) rfl)) rfl
theorem ml_X11_137 : Cond.methodLink RX11 137 yX8_tales ∈ lw_g := lw_g_of (lw_t3 _ (List.mem_of_getElem? (i := 215) rfl)) rfl
theorem im_X8_tales : Cond.instanceMethod yX8_tales ∈ lw_g := lw_g_of (lw_t3 _ (List.mem_of_getElem? (i := 216) rfl)) rfl
theorem sl_X8_tales : Cond.selects RX8 yX8_tales yX8_tales ∈ lw_g := lw_g_of (lw_t3 _ (List.mem_of_getElem? (i := 217) rfl)) rfl
theorem kc_X8_tales : Cond.code yX8_tales cX8_tales 10 (some .int) ∈ lw_g := lw_g_of (lw_t3 _ (List.mem_of_getElem? (i := 218) rfl)) rfl
theorem ml_L_37 : Cond.methodLink RL 37 yX11_excuse ∈ lw_g := lw_g_of (lw_t3 _ (List.mem_of_getElem? (i := 219) rfl)) rfl
theorem im_X11_excuse : Cond.instanceMethod yX11_excuse ∈ lw_g := lw_g_of (lw_t3 _ (List.mem_of_getElem? (i := 220) rfl)) rfl
theorem sl_X11_excuse : Cond.selects RX11 yX11_excuse yX11_excuse ∈ lw_g := lw_g_of (lw_t3 _ (List.mem_of_getElem? (i := 221) rfl)) rfl
theorem kc_X11_excuse : Cond.code yX11_excuse cX11_excuse 3 (some .int) ∈ lw_g := lw_g_of (lw_t3 _ (List.mem_of_getElem? (i := 222) rfl)) rfl
theorem ml_X11_141 : Cond.methodLink RX11 141 yX9_isExcuse ∈ lw_g := lw_g_of (lw_t3 _ (List.mem_of_getElem? (i := 223) rfl)) rfl
theorem im_X9_isExcuse : Cond.instanceMethod yX9_isExcuse ∈ lw_g := lw_g_of (lw_t3 _ (List.mem_of_getElem? (i := 224) rfl)) rfl
theorem sl_X9_isExcuse : Cond.selects RX9 yX9_isExcuse yX9_isExcuse ∈ lw_g := lw_g_of (lw_t3 _ (List.mem_of_getElem? (i := 225) rfl)) rfl
theorem kc_X9_isExcuse : Cond.code yX9_isExcuse cX9_isExcuse 2 (some .boolean) ∈ lw_g := lw_g_of (lw_t3 _ (List.mem_of_getElem? (i := 226) rfl)) rfl
theorem ml_X11_147 : Cond.methodLink RX11 147 yX8_owns ∈ lw_g := lw_g_of (lw_t3 _ (List.mem_of_getElem? (i := 227) rfl)) rfl
theorem im_X8_owns : Cond.instanceMethod yX8_owns ∈ lw_g := lw_g_of (lw_t3 _ (List.mem_of_getElem? (i := 228) rfl)) rfl
theorem sl_X8_owns : Cond.selects RX8 yX8_owns yX8_owns ∈ lw_g := lw_g_of (lw_t3 _ (List.mem_of_getElem? (i := 229) rfl)) rfl
theorem kc_X8_owns : Cond.code yX8_owns cX8_owns 2 (some .boolean) ∈ lw_g := lw_g_of (lw_t3 _ (List.mem_of_getElem? (i := 230) rfl)) rfl
theorem ml_X11_150 : Cond.methodLink RX11 150 yX8_plannedFor ∈ lw_g := lw_g_of (lw_t3 _ (List.mem_of_getElem? (i := 231) rfl)) rfl
theorem im_X8_plannedFor : Cond.instanceMethod yX8_plannedFor ∈ lw_g := lw_g_of (lw_t3 _ (List.mem_of_getElem? (i := 232) rfl)) rfl
theorem sl_X8_plannedFor : Cond.selects RX8 yX8_plannedFor yX8_plannedFor ∈ lw_g := lw_g_of (lw_t3 _ (List.mem_of_getElem? (i := 233) rfl)) rfl
theorem kc_X8_plannedFor : Cond.code yX8_plannedFor cX8_plannedFor 5 (some .int) ∈ lw_g := lw_g_of (lw_t3 _ (List.mem_of_getElem? (i := 234) rfl)) rfl
theorem ml_L_41 : Cond.methodLink RL 41 yX11_duty ∈ lw_g := lw_g_of (lw_t3 _ (List.mem_of_getElem? (i := 235) rfl)) rfl
theorem im_X11_duty : Cond.instanceMethod yX11_duty ∈ lw_g := lw_g_of (lw_t3 _ (List.mem_of_getElem? (i := 236) rfl)) rfl
theorem sl_X11_duty : Cond.selects RX11 yX11_duty yX11_duty ∈ lw_g := lw_g_of (lw_t3 _ (List.mem_of_getElem? (i := 237) rfl)) rfl
theorem kc_X11_duty : Cond.code yX11_duty cX11_duty 3 (some .int) ∈ lw_g := lw_g_of (lw_t3 _ (List.mem_of_getElem? (i := 238) rfl)) rfl
theorem ml_X11_154 : Cond.methodLink RX11 154 yX9_isDuty ∈ lw_g := lw_g_of (lw_t3 _ (List.mem_of_getElem? (i := 239) rfl)) rfl
theorem im_X9_isDuty : Cond.instanceMethod yX9_isDuty ∈ lw_g := lw_g_of (lw_t4 _ (List.mem_of_getElem? (i := 0) rfl)) rfl
theorem sl_X9_isDuty : Cond.selects RX9 yX9_isDuty yX9_isDuty ∈ lw_g := lw_g_of (lw_t4 _ (List.mem_of_getElem? (i := 1) rfl)) rfl
theorem kc_X9_isDuty : Cond.code yX9_isDuty cX9_isDuty 2 (some .boolean) ∈ lw_g := lw_g_of (lw_t4 _ (List.mem_of_getElem? (i := 2) rfl)) rfl
theorem ml_X11_163 : Cond.methodLink RX11 163 yX8_outcome ∈ lw_g := lw_g_of (lw_t4 _ (List.mem_of_getElem? (i := 3) rfl)) rfl
theorem im_X8_outcome : Cond.instanceMethod yX8_outcome ∈ lw_g := lw_g_of (lw_t4 _ (List.mem_of_getElem? (i := 4) rfl)) rfl
theorem sl_X8_outcome : Cond.selects RX8 yX8_outcome yX8_outcome ∈ lw_g := lw_g_of (lw_t4 _ (List.mem_of_getElem? (i := 5) rfl)) rfl
theorem kc_X8_outcome : Cond.code yX8_outcome cX8_outcome 3 (some .int) ∈ lw_g := lw_g_of (lw_t4 _ (List.mem_of_getElem? (i := 6) rfl)) rfl
theorem ml_L_45 : Cond.methodLink RL 45 yX11_told ∈ lw_g := lw_g_of (lw_t4 _ (List.mem_of_getElem? (i := 7) rfl)) rfl
theorem im_X11_told : Cond.instanceMethod yX11_told ∈ lw_g := lw_g_of (lw_t4 _ (List.mem_of_getElem? (i := 8) rfl)) rfl
theorem sl_X11_told : Cond.selects RX11 yX11_told yX11_told ∈ lw_g := lw_g_of (lw_t4 _ (List.mem_of_getElem? (i := 9) rfl)) rfl
theorem kc_X11_told : Cond.code yX11_told cX11_told 4 (some .int) ∈ lw_g := lw_g_of (lw_t4 _ (List.mem_of_getElem? (i := 10) rfl)) rfl
theorem ml_X11_167 : Cond.methodLink RX11 167 yX8_lastTold ∈ lw_g := lw_g_of (lw_t4 _ (List.mem_of_getElem? (i := 11) rfl)) rfl
theorem im_X8_lastTold : Cond.instanceMethod yX8_lastTold ∈ lw_g := lw_g_of (lw_t4 _ (List.mem_of_getElem? (i := 12) rfl)) rfl
theorem sl_X8_lastTold : Cond.selects RX8 yX8_lastTold yX8_lastTold ∈ lw_g := lw_g_of (lw_t4 _ (List.mem_of_getElem? (i := 13) rfl)) rfl
theorem kc_X8_lastTold : Cond.code yX8_lastTold cX8_lastTold 7 (some .int) ∈ lw_g := lw_g_of (lw_t4 _ (List.mem_of_getElem? (i := 14) rfl)) rfl
theorem ml_X8_61 : Cond.methodLink RX8 61 yJ9_max_7cf53 ∈ lw_g := lw_g_of (lw_t4 _ (List.mem_of_getElem? (i := 15) rfl)) rfl
theorem sm_J9_max_7cf53 : Cond.static yJ9_max_7cf53 ∈ lw_g := lw_g_of (lw_t4 _ (List.mem_of_getElem? (i := 16) rfl)) rfl
theorem kc_J9_max_7cf53 : Cond.code yJ9_max_7cf53 cJ9_max_7cf53 2 (some .int) ∈ lw_g := lw_g_of (lw_t4 _ (List.mem_of_getElem? (i := 17) rfl)) rfl
theorem ml_L_50 : Cond.methodLink RL 50 yX11_rains ∈ lw_g := lw_g_of (lw_t4 _ (List.mem_of_getElem? (i := 18) rfl)) rfl
theorem im_X11_rains : Cond.instanceMethod yX11_rains ∈ lw_g := lw_g_of (lw_t4 _ (List.mem_of_getElem? (i := 19) rfl)) rfl
theorem sl_X11_rains : Cond.selects RX11 yX11_rains yX11_rains ∈ lw_g := lw_g_of (lw_t4 _ (List.mem_of_getElem? (i := 20) rfl)) rfl
theorem kc_X11_rains : Cond.code yX11_rains cX11_rains 2 (some .int) ∈ lw_g := lw_g_of (lw_t4 _ (List.mem_of_getElem? (i := 21) rfl)) rfl
theorem ml_X11_174 : Cond.methodLink RX11 174 yX1_isWet ∈ lw_g := lw_g_of (lw_t4 _ (List.mem_of_getElem? (i := 22) rfl)) rfl
theorem im_X1_isWet : Cond.instanceMethod yX1_isWet ∈ lw_g := lw_g_of (lw_t4 _ (List.mem_of_getElem? (i := 23) rfl)) rfl
theorem sl_X1_isWet : Cond.selects RX1 yX1_isWet yX1_isWet ∈ lw_g := lw_g_of (lw_t4 _ (List.mem_of_getElem? (i := 24) rfl)) rfl
theorem kc_X1_isWet : Cond.code yX1_isWet cX1_isWet 4 (some .boolean) ∈ lw_g := lw_g_of (lw_t4 _ (List.mem_of_getElem? (i := 25) rfl)) rfl
theorem ml_X1_16 : Cond.methodLink RX1 16 yX1_lot ∈ lw_g := lw_g_of (lw_t4 _ (List.mem_of_getElem? (i := 26) rfl)) rfl
theorem sm_X1_lot : Cond.static yX1_lot ∈ lw_g := lw_g_of (lw_t4 _ (List.mem_of_getElem? (i := 27) rfl)) rfl
theorem kc_X1_lot : Cond.code yX1_lot cX1_lot 5 (some .int) ∈ lw_g := lw_g_of (lw_t4 _ (List.mem_of_getElem? (i := 28) rfl)) rfl
theorem kn_X1_15 : Cond.constant RX1 15 (1103515245) ∈ lw_g := lw_g_of (lw_t4 _ (List.mem_of_getElem? (i := 29) rfl)) rfl
theorem ml_L_54 : Cond.methodLink RL 54 yX11_buy ∈ lw_g := lw_g_of (lw_t4 _ (List.mem_of_getElem? (i := 30) rfl)) rfl
theorem im_X11_buy : Cond.instanceMethod yX11_buy ∈ lw_g := lw_g_of (lw_t4 _ (List.mem_of_getElem? (i := 31) rfl)) rfl
theorem sl_X11_buy : Cond.selects RX11 yX11_buy yX11_buy ∈ lw_g := lw_g_of (lw_t4 _ (List.mem_of_getElem? (i := 32) rfl)) rfl
theorem kc_X11_buy : Cond.code yX11_buy cX11_buy 3 (some .int) ∈ lw_g := lw_g_of (lw_t4 _ (List.mem_of_getElem? (i := 33) rfl)) rfl
theorem ml_X11_181 : Cond.methodLink RX11 181 yX5_keep ∈ lw_g := lw_g_of (lw_t4 _ (List.mem_of_getElem? (i := 34) rfl)) rfl
theorem im_X5_keep : Cond.instanceMethod yX5_keep ∈ lw_g := lw_g_of (lw_t4 _ (List.mem_of_getElem? (i := 35) rfl)) rfl
theorem sl_X5_keep : Cond.selects RX5 yX5_keep yX5_keep ∈ lw_g := lw_g_of (lw_t4 _ (List.mem_of_getElem? (i := 36) rfl)) rfl
theorem kc_X5_keep : Cond.code yX5_keep cX5_keep 2 (none) ∈ lw_g := lw_g_of (lw_t4 _ (List.mem_of_getElem? (i := 37) rfl)) rfl
theorem ml_X5_25 : Cond.methodLink RX5 25 yX8_copy ∈ lw_g := lw_g_of (lw_t4 _ (List.mem_of_getElem? (i := 38) rfl)) rfl
theorem im_X8_copy : Cond.instanceMethod yX8_copy ∈ lw_g := lw_g_of (lw_t4 _ (List.mem_of_getElem? (i := 39) rfl)) rfl
theorem sl_X8_copy : Cond.selects RX8 yX8_copy yX8_copy ∈ lw_g := lw_g_of (lw_t4 _ (List.mem_of_getElem? (i := 40) rfl)) rfl
theorem kc_X8_copy : Cond.code yX8_copy cX8_copy 3 (none) ∈ lw_g := lw_g_of (lw_t4 _ (List.mem_of_getElem? (i := 41) rfl)) rfl
theorem ml_X5_29 : Cond.methodLink RX5 29 yJ9_min_7cf53 ∈ lw_g := lw_g_of (lw_t4 _ (List.mem_of_getElem? (i := 42) rfl)) rfl
theorem sm_J9_min_7cf53 : Cond.static yJ9_min_7cf53 ∈ lw_g := lw_g_of (lw_t4 _ (List.mem_of_getElem? (i := 43) rfl)) rfl
theorem kc_J9_min_7cf53 : Cond.code yJ9_min_7cf53 cJ9_min_7cf53 2 (some .int) ∈ lw_g := lw_g_of (lw_t4 _ (List.mem_of_getElem? (i := 44) rfl)) rfl
theorem ml_L_58 : Cond.methodLink RL 58 yX11_sell ∈ lw_g := lw_g_of (lw_t4 _ (List.mem_of_getElem? (i := 45) rfl)) rfl
theorem im_X11_sell : Cond.instanceMethod yX11_sell ∈ lw_g := lw_g_of (lw_t4 _ (List.mem_of_getElem? (i := 46) rfl)) rfl
theorem sl_X11_sell : Cond.selects RX11 yX11_sell yX11_sell ∈ lw_g := lw_g_of (lw_t4 _ (List.mem_of_getElem? (i := 47) rfl)) rfl
theorem kc_X11_sell : Cond.code yX11_sell cX11_sell 2 (some .int) ∈ lw_g := lw_g_of (lw_t4 _ (List.mem_of_getElem? (i := 48) rfl)) rfl
theorem ml_L_62 : Cond.methodLink RL 62 yX11_plan ∈ lw_g := lw_g_of (lw_t4 _ (List.mem_of_getElem? (i := 49) rfl)) rfl
theorem im_X11_plan : Cond.instanceMethod yX11_plan ∈ lw_g := lw_g_of (lw_t4 _ (List.mem_of_getElem? (i := 50) rfl)) rfl
theorem sl_X11_plan : Cond.selects RX11 yX11_plan yX11_plan ∈ lw_g := lw_g_of (lw_t4 _ (List.mem_of_getElem? (i := 51) rfl)) rfl
theorem kc_X11_plan : Cond.code yX11_plan cX11_plan 5 (some .boolean) ∈ lw_g := lw_g_of (lw_t4 _ (List.mem_of_getElem? (i := 52) rfl)) rfl
theorem ml_X11_188 : Cond.methodLink RX11 188 yX8_isOver ∈ lw_g := lw_g_of (lw_t4 _ (List.mem_of_getElem? (i := 53) rfl)) rfl
theorem im_X8_isOver : Cond.instanceMethod yX8_isOver ∈ lw_g := lw_g_of (lw_t4 _ (List.mem_of_getElem? (i := 54) rfl)) rfl
theorem sl_X8_isOver : Cond.selects RX8 yX8_isOver yX8_isOver ∈ lw_g := lw_g_of (lw_t4 _ (List.mem_of_getElem? (i := 55) rfl)) rfl
theorem kc_X8_isOver : Cond.code yX8_isOver cX8_isOver 2 (some .boolean) ∈ lw_g := lw_g_of (lw_t4 _ (List.mem_of_getElem? (i := 56) rfl)) rfl
theorem ml_X8_51 : Cond.methodLink RX8 51 yX8_over ∈ lw_g := lw_g_of (lw_t4 _ (List.mem_of_getElem? (i := 57) rfl)) rfl
theorem im_X8_over : Cond.instanceMethod yX8_over ∈ lw_g := lw_g_of (lw_t4 _ (List.mem_of_getElem? (i := 58) rfl)) rfl
theorem sl_X8_over : Cond.selects RX8 yX8_over yX8_over ∈ lw_g := lw_g_of (lw_t4 _ (List.mem_of_getElem? (i := 59) rfl)) rfl
theorem kc_X8_over : Cond.code yX8_over cX8_over 1 (some .int) ∈ lw_g := lw_g_of (lw_t4 _ (List.mem_of_getElem? (i := 60) rfl)) rfl
theorem ml_L_67 : Cond.methodLink RL 67 yX11_days ∈ lw_g := lw_g_of (lw_t4 _ (List.mem_of_getElem? (i := 61) rfl)) rfl
theorem im_X11_days : Cond.instanceMethod yX11_days ∈ lw_g := lw_g_of (lw_t4 _ (List.mem_of_getElem? (i := 62) rfl)) rfl
theorem sl_X11_days : Cond.selects RX11 yX11_days yX11_days ∈ lw_g := lw_g_of (lw_t4 _ (List.mem_of_getElem? (i := 63) rfl)) rfl
theorem kc_X11_days : Cond.code yX11_days cX11_days 2 (some .int) ∈ lw_g := lw_g_of (lw_t4 _ (List.mem_of_getElem? (i := 64) rfl)) rfl
theorem ml_X11_191 : Cond.methodLink RX11 191 yX1_goBy ∈ lw_g := lw_g_of (lw_t4 _ (List.mem_of_getElem? (i := 65) rfl)) rfl
theorem im_X1_goBy : Cond.instanceMethod yX1_goBy ∈ lw_g := lw_g_of (lw_t4 _ (List.mem_of_getElem? (i := 66) rfl)) rfl
theorem sl_X1_goBy : Cond.selects RX1 yX1_goBy yX1_goBy ∈ lw_g := lw_g_of (lw_t4 _ (List.mem_of_getElem? (i := 67) rfl)) rfl
theorem kc_X1_goBy : Cond.code yX1_goBy cX1_goBy 7 (none) ∈ lw_g := lw_g_of (lw_t4 _ (List.mem_of_getElem? (i := 68) rfl)) rfl
theorem ml_X1_93 : Cond.methodLink RX1 93 yX8_isOver ∈ lw_g := lw_g_of (lw_t4 _ (List.mem_of_getElem? (i := 69) rfl)) rfl
theorem ml_X1_96 : Cond.methodLink RX1 96 yX1_meet ∈ lw_g := lw_g_of (lw_t4 _ (List.mem_of_getElem? (i := 70) rfl)) rfl
theorem im_X1_meet : Cond.instanceMethod yX1_meet ∈ lw_g := lw_g_of (lw_t4 _ (List.mem_of_getElem? (i := 72) rfl)) rfl
theorem kc_X1_meet : Cond.code yX1_meet cX1_meet 9 (none) ∈ lw_g := lw_g_of (lw_t4 _ (List.mem_of_getElem? (i := 73) rfl)) rfl
theorem ml_X1_55 : Cond.methodLink RX1 55 yX9_isExcuse ∈ lw_g := lw_g_of (lw_t4 _ (List.mem_of_getElem? (i := 74) rfl)) rfl
theorem ml_X1_113 : Cond.methodLink RX1 113 yX8_owns ∈ lw_g := lw_g_of (lw_t4 _ (List.mem_of_getElem? (i := 75) rfl)) rfl
theorem ml_X1_122 : Cond.methodLink RX1 122 yX1_wears ∈ lw_g := lw_g_of (lw_t4 _ (List.mem_of_getElem? (i := 76) rfl)) rfl
theorem im_X1_wears : Cond.instanceMethod yX1_wears ∈ lw_g := lw_g_of (lw_t4 _ (List.mem_of_getElem? (i := 77) rfl)) rfl
theorem sl_X1_wears : Cond.selects RX1 yX1_wears yX1_wears ∈ lw_g := lw_g_of (lw_t4 _ (List.mem_of_getElem? (i := 78) rfl)) rfl
theorem kc_X1_wears : Cond.code yX1_wears cX1_wears 7 (some .int) ∈ lw_g := lw_g_of (lw_t4 _ (List.mem_of_getElem? (i := 79) rfl)) rfl
theorem ml_X1_59 : Cond.methodLink RX1 59 yX9_isMan ∈ lw_g := lw_g_of (lw_t4 _ (List.mem_of_getElem? (i := 80) rfl)) rfl
theorem ml_X1_62 : Cond.methodLink RX1 62 yX1_look ∈ lw_g := lw_g_of (lw_t4 _ (List.mem_of_getElem? (i := 81) rfl)) rfl
theorem im_X1_look : Cond.instanceMethod yX1_look ∈ lw_g := lw_g_of (lw_t4 _ (List.mem_of_getElem? (i := 83) rfl)) rfl
theorem kc_X1_look : Cond.code yX1_look cX1_look 9 (none) ∈ lw_g := lw_g_of (lw_t4 _ (List.mem_of_getElem? (i := 84) rfl)) rfl
theorem ml_X1_30 : Cond.methodLink RX1 30 yX8_lastTold ∈ lw_g := lw_g_of (lw_t4 _ (List.mem_of_getElem? (i := 85) rfl)) rfl
theorem ml_X1_45 : Cond.methodLink RX1 45 yX8_tales ∈ lw_g := lw_g_of (lw_t4 _ (List.mem_of_getElem? (i := 86) rfl)) rfl
theorem ml_X1_52 : Cond.methodLink RX1 52 yX8_toldOtherwise ∈ lw_g := lw_g_of (lw_t4 _ (List.mem_of_getElem? (i := 87) rfl)) rfl
theorem im_X8_toldOtherwise : Cond.instanceMethod yX8_toldOtherwise ∈ lw_g := lw_g_of (lw_t4 _ (List.mem_of_getElem? (i := 88) rfl)) rfl
theorem sl_X8_toldOtherwise : Cond.selects RX8 yX8_toldOtherwise yX8_toldOtherwise ∈ lw_g := lw_g_of (lw_t4 _ (List.mem_of_getElem? (i := 89) rfl)) rfl
theorem kc_X8_toldOtherwise : Cond.code yX8_toldOtherwise cX8_toldOtherwise 7 (some .int) ∈ lw_g := lw_g_of (lw_t4 _ (List.mem_of_getElem? (i := 90) rfl)) rfl
theorem ml_X8_73 : Cond.methodLink RX8 73 yX8_kindTold ∈ lw_g := lw_g_of (lw_t4 _ (List.mem_of_getElem? (i := 91) rfl)) rfl
theorem im_X8_kindTold : Cond.instanceMethod yX8_kindTold ∈ lw_g := lw_g_of (lw_t4 _ (List.mem_of_getElem? (i := 93) rfl)) rfl
theorem kc_X8_kindTold : Cond.code yX8_kindTold cX8_kindTold 5 (some .int) ∈ lw_g := lw_g_of (lw_t4 _ (List.mem_of_getElem? (i := 94) rfl)) rfl
theorem ml_X8_77 : Cond.methodLink RX8 77 yX8_differ ∈ lw_g := lw_g_of (lw_t4 _ (List.mem_of_getElem? (i := 95) rfl)) rfl
theorem sm_X8_differ : Cond.static yX8_differ ∈ lw_g := lw_g_of (lw_t4 _ (List.mem_of_getElem? (i := 96) rfl)) rfl
theorem kc_X8_differ : Cond.code yX8_differ cX8_differ 2 (some .boolean) ∈ lw_g := lw_g_of (lw_t4 _ (List.mem_of_getElem? (i := 97) rfl)) rfl
theorem ml_X8_81 : Cond.methodLink RX8 81 yJ6_bitCount_0f7a4 ∈ lw_g := lw_g_of (lw_t4 _ (List.mem_of_getElem? (i := 98) rfl)) rfl
theorem sm_J6_bitCount_0f7a4 : Cond.static yJ6_bitCount_0f7a4 ∈ lw_g := lw_g_of (lw_t4 _ (List.mem_of_getElem? (i := 99) rfl)) rfl
theorem kc_J6_bitCount_0f7a4 : Cond.code yJ6_bitCount_0f7a4 cJ6_bitCount_0f7a4 1 (some .int) ∈ lw_g := lw_g_of (lw_t4 _ (List.mem_of_getElem? (i := 100) rfl)) rfl
theorem kn_J6_265 : Cond.constant RJ6 265 (1431655765) ∈ lw_g := lw_g_of (lw_t4 _ (List.mem_of_getElem? (i := 101) rfl)) rfl
theorem kn_J6_266 : Cond.constant RJ6 266 (858993459) ∈ lw_g := lw_g_of (lw_t4 _ (List.mem_of_getElem? (i := 102) rfl)) rfl
theorem kn_J6_267 : Cond.constant RJ6 267 (252645135) ∈ lw_g := lw_g_of (lw_t4 _ (List.mem_of_getElem? (i := 103) rfl)) rfl
theorem ml_X1_70 : Cond.methodLink RX1 70 yX2_answer ∈ lw_g := lw_g_of (lw_t4 _ (List.mem_of_getElem? (i := 104) rfl)) rfl
theorem im_X2_answer : Cond.instanceMethod yX2_answer ∈ lw_g := lw_g_of (lw_t4 _ (List.mem_of_getElem? (i := 105) rfl)) rfl
theorem sl_X2_answer : Cond.selects RX2 yX2_answer yX2_answer ∈ lw_g := lw_g_of (lw_t4 _ (List.mem_of_getElem? (i := 106) rfl)) rfl
theorem kc_X2_answer : Cond.code yX2_answer cX2_answer 8 (some .int) ∈ lw_g := lw_g_of (lw_t4 _ (List.mem_of_getElem? (i := 107) rfl)) rfl
theorem ml_X2_26 : Cond.methodLink RX2 26 yX2_valueOf ∈ lw_g := lw_g_of (lw_t4 _ (List.mem_of_getElem? (i := 108) rfl)) rfl
theorem sm_X2_valueOf : Cond.static yX2_valueOf ∈ lw_g := lw_g_of (lw_t4 _ (List.mem_of_getElem? (i := 109) rfl)) rfl
theorem kc_X2_valueOf : Cond.code yX2_valueOf cX2_valueOf 2 (some .int) ∈ lw_g := lw_g_of (lw_t4 _ (List.mem_of_getElem? (i := 110) rfl)) rfl
theorem ml_X2_30 : Cond.methodLink RX2 30 yX2_landing ∈ lw_g := lw_g_of (lw_t4 _ (List.mem_of_getElem? (i := 111) rfl)) rfl
theorem im_X2_landing : Cond.instanceMethod yX2_landing ∈ lw_g := lw_g_of (lw_t4 _ (List.mem_of_getElem? (i := 113) rfl)) rfl
theorem kc_X2_landing : Cond.code yX2_landing cX2_landing 2 (some .int) ∈ lw_g := lw_g_of (lw_t4 _ (List.mem_of_getElem? (i := 114) rfl)) rfl
theorem ml_X2_34 : Cond.methodLink RX2 34 yJ9_max_7cf53 ∈ lw_g := lw_g_of (lw_t4 _ (List.mem_of_getElem? (i := 115) rfl)) rfl
theorem ml_X2_40 : Cond.methodLink RX2 40 yX2_joined ∈ lw_g := lw_g_of (lw_t4 _ (List.mem_of_getElem? (i := 116) rfl)) rfl
theorem sm_X2_joined : Cond.static yX2_joined ∈ lw_g := lw_g_of (lw_t4 _ (List.mem_of_getElem? (i := 117) rfl)) rfl
theorem kc_X2_joined : Cond.code yX2_joined cX2_joined 3 (some .int) ∈ lw_g := lw_g_of (lw_t4 _ (List.mem_of_getElem? (i := 118) rfl)) rfl
theorem ml_X1_76 : Cond.methodLink RX1 76 yJ9_min_7cf53 ∈ lw_g := lw_g_of (lw_t4 _ (List.mem_of_getElem? (i := 119) rfl)) rfl
theorem ml_X1_81 : Cond.methodLink RX1 81 yJ9_max_7cf53 ∈ lw_g := lw_g_of (lw_t4 _ (List.mem_of_getElem? (i := 120) rfl)) rfl
theorem ml_X1_125 : Cond.methodLink RX1 125 yX1_passes ∈ lw_g := lw_g_of (lw_t4 _ (List.mem_of_getElem? (i := 121) rfl)) rfl
theorem im_X1_passes : Cond.instanceMethod yX1_passes ∈ lw_g := lw_g_of (lw_t4 _ (List.mem_of_getElem? (i := 122) rfl)) rfl
theorem sl_X1_passes : Cond.selects RX1 yX1_passes yX1_passes ∈ lw_g := lw_g_of (lw_t4 _ (List.mem_of_getElem? (i := 123) rfl)) rfl
theorem kc_X1_passes : Cond.code yX1_passes cX1_passes 7 (some .int) ∈ lw_g := lw_g_of (lw_t4 _ (List.mem_of_getElem? (i := 124) rfl)) rfl
theorem ml_X1_127 : Cond.methodLink RX1 127 yX1_lose ∈ lw_g := lw_g_of (lw_t4 _ (List.mem_of_getElem? (i := 125) rfl)) rfl
theorem im_X1_lose : Cond.instanceMethod yX1_lose ∈ lw_g := lw_g_of (lw_t4 _ (List.mem_of_getElem? (i := 126) rfl)) rfl
theorem sl_X1_lose : Cond.selects RX1 yX1_lose yX1_lose ∈ lw_g := lw_g_of (lw_t4 _ (List.mem_of_getElem? (i := 127) rfl)) rfl
theorem kc_X1_lose : Cond.code yX1_lose cX1_lose 4 (none) ∈ lw_g := lw_g_of (lw_t4 _ (List.mem_of_getElem? (i := 128) rfl)) rfl
theorem ml_X1_100 : Cond.methodLink RX1 100 yX1_mend ∈ lw_g := lw_g_of (lw_t4 _ (List.mem_of_getElem? (i := 129) rfl)) rfl
theorem im_X1_mend : Cond.instanceMethod yX1_mend ∈ lw_g := lw_g_of (lw_t4 _ (List.mem_of_getElem? (i := 130) rfl)) rfl
theorem sl_X1_mend : Cond.selects RX1 yX1_mend yX1_mend ∈ lw_g := lw_g_of (lw_t4 _ (List.mem_of_getElem? (i := 131) rfl)) rfl
theorem kc_X1_mend : Cond.code yX1_mend cX1_mend 5 (none) ∈ lw_g := lw_g_of (lw_t4 _ (List.mem_of_getElem? (i := 132) rfl)) rfl
theorem ml_L_71 : Cond.methodLink RL 71 yX11_undo ∈ lw_g := lw_g_of (lw_t4 _ (List.mem_of_getElem? (i := 133) rfl)) rfl
theorem im_X11_undo : Cond.instanceMethod yX11_undo ∈ lw_g := lw_g_of (lw_t4 _ (List.mem_of_getElem? (i := 134) rfl)) rfl
theorem sl_X11_undo : Cond.selects RX11 yX11_undo yX11_undo ∈ lw_g := lw_g_of (lw_t4 _ (List.mem_of_getElem? (i := 135) rfl)) rfl
theorem kc_X11_undo : Cond.code yX11_undo cX11_undo 1 (some .boolean) ∈ lw_g := lw_g_of (lw_t4 _ (List.mem_of_getElem? (i := 136) rfl)) rfl
theorem ml_X11_198 : Cond.methodLink RX11 198 yX5_takeBack ∈ lw_g := lw_g_of (lw_t4 _ (List.mem_of_getElem? (i := 137) rfl)) rfl
theorem im_X5_takeBack : Cond.instanceMethod yX5_takeBack ∈ lw_g := lw_g_of (lw_t4 _ (List.mem_of_getElem? (i := 138) rfl)) rfl
theorem sl_X5_takeBack : Cond.selects RX5 yX5_takeBack yX5_takeBack ∈ lw_g := lw_g_of (lw_t4 _ (List.mem_of_getElem? (i := 139) rfl)) rfl
theorem kc_X5_takeBack : Cond.code yX5_takeBack cX5_takeBack 2 (some .boolean) ∈ lw_g := lw_g_of (lw_t4 _ (List.mem_of_getElem? (i := 140) rfl)) rfl
theorem ml_L_76 : Cond.methodLink RL 76 yX11_pass ∈ lw_g := lw_g_of (lw_t4 _ (List.mem_of_getElem? (i := 141) rfl)) rfl
theorem im_X11_pass : Cond.instanceMethod yX11_pass ∈ lw_g := lw_g_of (lw_t4 _ (List.mem_of_getElem? (i := 142) rfl)) rfl
theorem sl_X11_pass : Cond.selects RX11 yX11_pass yX11_pass ∈ lw_g := lw_g_of (lw_t4 _ (List.mem_of_getElem? (i := 143) rfl)) rfl
theorem kc_X11_pass : Cond.code yX11_pass cX11_pass 4 (some .int) ∈ lw_g := lw_g_of (lw_t4 _ (List.mem_of_getElem? (i := 144) rfl)) rfl
theorem ml_X11_202 : Cond.methodLink RX11 202 yX1_passes ∈ lw_g := lw_g_of (lw_t4 _ (List.mem_of_getElem? (i := 145) rfl)) rfl
theorem ml_L_80 : Cond.methodLink RL 80 yX11_planned ∈ lw_g := lw_g_of (lw_t4 _ (List.mem_of_getElem? (i := 146) rfl)) rfl
theorem im_X11_planned : Cond.instanceMethod yX11_planned ∈ lw_g := lw_g_of (lw_t4 _ (List.mem_of_getElem? (i := 147) rfl)) rfl
theorem sl_X11_planned : Cond.selects RX11 yX11_planned yX11_planned ∈ lw_g := lw_g_of (lw_t4 _ (List.mem_of_getElem? (i := 148) rfl)) rfl
theorem kc_X11_planned : Cond.code yX11_planned cX11_planned 3 (some .int) ∈ lw_g := lw_g_of (lw_t4 _ (List.mem_of_getElem? (i := 149) rfl)) rfl
theorem ml_X11_206 : Cond.methodLink RX11 206 yX11_isAhead ∈ lw_g := lw_g_of (lw_t4 _ (List.mem_of_getElem? (i := 150) rfl)) rfl
theorem sm_X11_isAhead : Cond.static yX11_isAhead ∈ lw_g := lw_g_of (lw_t4 _ (List.mem_of_getElem? (i := 151) rfl)) rfl
theorem kc_X11_isAhead : Cond.code yX11_isAhead cX11_isAhead 1 (some .boolean) ∈ lw_g := lw_g_of (lw_t4 _ (List.mem_of_getElem? (i := 152) rfl)) rfl
theorem ml_X11_209 : Cond.methodLink RX11 209 yX8_copy ∈ lw_g := lw_g_of (lw_t4 _ (List.mem_of_getElem? (i := 153) rfl)) rfl
theorem ml_X11_212 : Cond.methodLink RX11 212 yJ6_bitCount_0f7a4 ∈ lw_g := lw_g_of (lw_t4 _ (List.mem_of_getElem? (i := 154) rfl)) rfl
theorem ml_L_84 : Cond.methodLink RL 84 yX11_trust ∈ lw_g := lw_g_of (lw_t4 _ (List.mem_of_getElem? (i := 155) rfl)) rfl
theorem im_X11_trust : Cond.instanceMethod yX11_trust ∈ lw_g := lw_g_of (lw_t4 _ (List.mem_of_getElem? (i := 156) rfl)) rfl
theorem sl_X11_trust : Cond.selects RX11 yX11_trust yX11_trust ∈ lw_g := lw_g_of (lw_t4 _ (List.mem_of_getElem? (i := 157) rfl)) rfl
theorem kc_X11_trust : Cond.code yX11_trust cX11_trust 3 (some .int) ∈ lw_g := lw_g_of (lw_t4 _ (List.mem_of_getElem? (i := 158) rfl)) rfl
theorem ml_L_88 : Cond.methodLink RL 88 yX11_year ∈ lw_g := lw_g_of (lw_t4 _ (List.mem_of_getElem? (i := 159) rfl)) rfl
theorem im_X11_year : Cond.instanceMethod yX11_year ∈ lw_g := lw_g_of (lw_t4 _ (List.mem_of_getElem? (i := 160) rfl)) rfl
theorem sl_X11_year : Cond.selects RX11 yX11_year yX11_year ∈ lw_g := lw_g_of (lw_t4 _ (List.mem_of_getElem? (i := 161) rfl)) rfl
theorem kc_X11_year : Cond.code yX11_year cX11_year 5 (some .int) ∈ lw_g := lw_g_of (lw_t4 _ (List.mem_of_getElem? (i := 162) rfl)) rfl
theorem ml_L_92 : Cond.methodLink RL 92 yX11_cheapest ∈ lw_g := lw_g_of (lw_t4 _ (List.mem_of_getElem? (i := 163) rfl)) rfl
theorem im_X11_cheapest : Cond.instanceMethod yX11_cheapest ∈ lw_g := lw_g_of (lw_t4 _ (List.mem_of_getElem? (i := 164) rfl)) rfl
theorem sl_X11_cheapest : Cond.selects RX11 yX11_cheapest yX11_cheapest ∈ lw_g := lw_g_of (lw_t4 _ (List.mem_of_getElem? (i := 165) rfl)) rfl
theorem kc_X11_cheapest : Cond.code yX11_cheapest cX11_cheapest 3 (some .int) ∈ lw_g := lw_g_of (lw_t4 _ (List.mem_of_getElem? (i := 166) rfl)) rfl
theorem ml_X11_223 : Cond.methodLink RX11 223 yX11_isShopping ∈ lw_g := lw_g_of (lw_t4 _ (List.mem_of_getElem? (i := 167) rfl)) rfl
theorem im_X11_isShopping : Cond.instanceMethod yX11_isShopping ∈ lw_g := lw_g_of (lw_t4 _ (List.mem_of_getElem? (i := 169) rfl)) rfl
theorem kc_X11_isShopping : Cond.code yX11_isShopping cX11_isShopping 3 (some .boolean) ∈ lw_g := lw_g_of (lw_t4 _ (List.mem_of_getElem? (i := 170) rfl)) rfl
theorem ml_X11_240 : Cond.methodLink RX11 240 yX11_isPercent ∈ lw_g := lw_g_of (lw_t4 _ (List.mem_of_getElem? (i := 171) rfl)) rfl
theorem sm_X11_isPercent : Cond.static yX11_isPercent ∈ lw_g := lw_g_of (lw_t4 _ (List.mem_of_getElem? (i := 172) rfl)) rfl
theorem kc_X11_isPercent : Cond.code yX11_isPercent cX11_isPercent 1 (some .boolean) ∈ lw_g := lw_g_of (lw_t4 _ (List.mem_of_getElem? (i := 173) rfl)) rfl
theorem ml_X11_227 : Cond.methodLink RX11 227 yX7_find ∈ lw_g := lw_g_of (lw_t4 _ (List.mem_of_getElem? (i := 174) rfl)) rfl
theorem im_X7_find : Cond.instanceMethod yX7_find ∈ lw_g := lw_g_of (lw_t4 _ (List.mem_of_getElem? (i := 175) rfl)) rfl
theorem sl_X7_find : Cond.selects RX7 yX7_find yX7_find ∈ lw_g := lw_g_of (lw_t4 _ (List.mem_of_getElem? (i := 176) rfl)) rfl
theorem kc_X7_find : Cond.code yX7_find cX7_find 10 (some .boolean) ∈ lw_g := lw_g_of (lw_t4 _ (List.mem_of_getElem? (i := 177) rfl)) rfl
theorem ml_X7_38 : Cond.methodLink RX7 38 yX8_over ∈ lw_g := lw_g_of (lw_t4 _ (List.mem_of_getElem? (i := 178) rfl)) rfl
theorem ml_X7_42 : Cond.methodLink RX7 42 yX7_list ∈ lw_g := lw_g_of (lw_t4 _ (List.mem_of_getElem? (i := 179) rfl)) rfl
theorem im_X7_list : Cond.instanceMethod yX7_list ∈ lw_g := lw_g_of (lw_t4 _ (List.mem_of_getElem? (i := 181) rfl)) rfl
theorem kc_X7_list : Cond.code yX7_list cX7_list 5 (none) ∈ lw_g := lw_g_of (lw_t4 _ (List.mem_of_getElem? (i := 182) rfl)) rfl
theorem ml_X7_72 : Cond.methodLink RX7 72 yX7_dayOf ∈ lw_g := lw_g_of (lw_t4 _ (List.mem_of_getElem? (i := 183) rfl)) rfl
theorem im_X7_dayOf : Cond.instanceMethod yX7_dayOf ∈ lw_g := lw_g_of (lw_t4 _ (List.mem_of_getElem? (i := 185) rfl)) rfl
theorem kc_X7_dayOf : Cond.code yX7_dayOf cX7_dayOf 3 (some .int) ∈ lw_g := lw_g_of (lw_t4 _ (List.mem_of_getElem? (i := 186) rfl)) rfl
theorem ml_X7_51 : Cond.methodLink RX7 51 yX7_choose ∈ lw_g := lw_g_of (lw_t4 _ (List.mem_of_getElem? (i := 187) rfl)) rfl
theorem im_X7_choose : Cond.instanceMethod yX7_choose ∈ lw_g := lw_g_of (lw_t4 _ (List.mem_of_getElem? (i := 189) rfl)) rfl
theorem kc_X7_choose : Cond.code yX7_choose cX7_choose 5 (none) ∈ lw_g := lw_g_of (lw_t4 _ (List.mem_of_getElem? (i := 190) rfl)) rfl
theorem ml_X7_54 : Cond.methodLink RX7 54 yX7_coinsFor ∈ lw_g := lw_g_of (lw_t4 _ (List.mem_of_getElem? (i := 191) rfl)) rfl
theorem im_X7_coinsFor : Cond.instanceMethod yX7_coinsFor ∈ lw_g := lw_g_of (lw_t4 _ (List.mem_of_getElem? (i := 193) rfl)) rfl
theorem kc_X7_coinsFor : Cond.code yX7_coinsFor cX7_coinsFor 7 (some .int) ∈ lw_g := lw_g_of (lw_t4 _ (List.mem_of_getElem? (i := 194) rfl)) rfl
theorem ml_X7_58 : Cond.methodLink RX7 58 yX7_usesOnceAgain ∈ lw_g := lw_g_of (lw_t4 _ (List.mem_of_getElem? (i := 195) rfl)) rfl
theorem im_X7_usesOnceAgain : Cond.instanceMethod yX7_usesOnceAgain ∈ lw_g := lw_g_of (lw_t4 _ (List.mem_of_getElem? (i := 197) rfl)) rfl
theorem kc_X7_usesOnceAgain : Cond.code yX7_usesOnceAgain cX7_usesOnceAgain 5 (some .boolean) ∈ lw_g := lw_g_of (lw_t4 _ (List.mem_of_getElem? (i := 198) rfl)) rfl
theorem ml_X7_62 : Cond.methodLink RX7 62 yX7_works ∈ lw_g := lw_g_of (lw_t4 _ (List.mem_of_getElem? (i := 199) rfl)) rfl
theorem im_X7_works : Cond.instanceMethod yX7_works ∈ lw_g := lw_g_of (lw_t4 _ (List.mem_of_getElem? (i := 201) rfl)) rfl
theorem kc_X7_works : Cond.code yX7_works cX7_works 9 (some .boolean) ∈ lw_g := lw_g_of (lw_t4 _ (List.mem_of_getElem? (i := 202) rfl)) rfl
theorem ml_X7_86 : Cond.methodLink RX7 86 yX8_copy ∈ lw_g := lw_g_of (lw_t4 _ (List.mem_of_getElem? (i := 203) rfl)) rfl
theorem ml_X7_93 : Cond.methodLink RX7 93 yX1_mend ∈ lw_g := lw_g_of (lw_t4 _ (List.mem_of_getElem? (i := 204) rfl)) rfl
theorem ml_X7_102 : Cond.methodLink RX7 102 yX1_passes ∈ lw_g := lw_g_of (lw_t4 _ (List.mem_of_getElem? (i := 205) rfl)) rfl
theorem ml_X7_106 : Cond.methodLink RX7 106 yX1_wears ∈ lw_g := lw_g_of (lw_t4 _ (List.mem_of_getElem? (i := 206) rfl)) rfl
theorem ml_X7_109 : Cond.methodLink RX7 109 yX1_lose ∈ lw_g := lw_g_of (lw_t4 _ (List.mem_of_getElem? (i := 207) rfl)) rfl
theorem ml_X7_66 : Cond.methodLink RX7 66 yX7_keepChosen ∈ lw_g := lw_g_of (lw_t4 _ (List.mem_of_getElem? (i := 208) rfl)) rfl
theorem im_X7_keepChosen : Cond.instanceMethod yX7_keepChosen ∈ lw_g := lw_g_of (lw_t4 _ (List.mem_of_getElem? (i := 210) rfl)) rfl
theorem kc_X7_keepChosen : Cond.code yX7_keepChosen cX7_keepChosen 2 (none) ∈ lw_g := lw_g_of (lw_t4 _ (List.mem_of_getElem? (i := 211) rfl)) rfl
theorem ml_L_96 : Cond.methodLink RL 96 yX11_cheapestAt ∈ lw_g := lw_g_of (lw_t4 _ (List.mem_of_getElem? (i := 212) rfl)) rfl
theorem im_X11_cheapestAt : Cond.instanceMethod yX11_cheapestAt ∈ lw_g := lw_g_of (lw_t4 _ (List.mem_of_getElem? (i := 213) rfl)) rfl
theorem sl_X11_cheapestAt : Cond.selects RX11 yX11_cheapestAt yX11_cheapestAt ∈ lw_g := lw_g_of (lw_t4 _ (List.mem_of_getElem? (i := 214) rfl)) rfl
theorem kc_X11_cheapestAt : Cond.code yX11_cheapestAt cX11_cheapestAt 4 (some .int) ∈ lw_g := lw_g_of (lw_t4 _ (List.mem_of_getElem? (i := 215) rfl)) rfl
theorem ml_X11_234 : Cond.methodLink RX11 234 yX7_bestAt ∈ lw_g := lw_g_of (lw_t4 _ (List.mem_of_getElem? (i := 216) rfl)) rfl
theorem im_X7_bestAt : Cond.instanceMethod yX7_bestAt ∈ lw_g := lw_g_of (lw_t4 _ (List.mem_of_getElem? (i := 217) rfl)) rfl
theorem sl_X7_bestAt : Cond.selects RX7 yX7_bestAt yX7_bestAt ∈ lw_g := lw_g_of (lw_t4 _ (List.mem_of_getElem? (i := 218) rfl)) rfl
theorem kc_X7_bestAt : Cond.code yX7_bestAt cX7_bestAt 2 (some .int) ∈ lw_g := lw_g_of (lw_t4 _ (List.mem_of_getElem? (i := 219) rfl)) rfl
theorem ml_L_101 : Cond.methodLink RL 101 yX11_two ∈ lw_g := lw_g_of (lw_t4 _ (List.mem_of_getElem? (i := 220) rfl)) rfl
theorem im_X11_two : Cond.instanceMethod yX11_two ∈ lw_g := lw_g_of (lw_t4 _ (List.mem_of_getElem? (i := 221) rfl)) rfl
theorem sl_X11_two : Cond.selects RX11 yX11_two yX11_two ∈ lw_g := lw_g_of (lw_t4 _ (List.mem_of_getElem? (i := 222) rfl)) rfl
theorem kc_X11_two : Cond.code yX11_two cX11_two 2 (some .int) ∈ lw_g := lw_g_of (lw_t4 _ (List.mem_of_getElem? (i := 223) rfl)) rfl
theorem ml_X11_243 : Cond.methodLink RX11 243 yX8_pairs ∈ lw_g := lw_g_of (lw_t4 _ (List.mem_of_getElem? (i := 224) rfl)) rfl
theorem im_X8_pairs : Cond.instanceMethod yX8_pairs ∈ lw_g := lw_g_of (lw_t4 _ (List.mem_of_getElem? (i := 225) rfl)) rfl
theorem sl_X8_pairs : Cond.selects RX8 yX8_pairs yX8_pairs ∈ lw_g := lw_g_of (lw_t4 _ (List.mem_of_getElem? (i := 226) rfl)) rfl
theorem kc_X8_pairs : Cond.code yX8_pairs cX8_pairs 6 (some .int) ∈ lw_g := lw_g_of (lw_t4 _ (List.mem_of_getElem? (i := 227) rfl)) rfl
theorem ml_X8_90 : Cond.methodLink RX8 90 yX9_knowEachOther ∈ lw_g := lw_g_of (lw_t4 _ (List.mem_of_getElem? (i := 228) rfl)) rfl
theorem im_X9_knowEachOther : Cond.instanceMethod yX9_knowEachOther ∈ lw_g := lw_g_of (lw_t4 _ (List.mem_of_getElem? (i := 229) rfl)) rfl
theorem sl_X9_knowEachOther : Cond.selects RX9 yX9_knowEachOther yX9_knowEachOther ∈ lw_g := lw_g_of (lw_t4 _ (List.mem_of_getElem? (i := 230) rfl)) rfl
theorem kc_X9_knowEachOther : Cond.code yX9_knowEachOther cX9_knowEachOther 3 (some .boolean) ∈ lw_g := lw_g_of (lw_t4 _ (List.mem_of_getElem? (i := 231) rfl)) rfl
theorem ml_X8_93 : Cond.methodLink RX8 93 yX8_toldTwoThings ∈ lw_g := lw_g_of (lw_t4 _ (List.mem_of_getElem? (i := 232) rfl)) rfl
theorem im_X8_toldTwoThings : Cond.instanceMethod yX8_toldTwoThings ∈ lw_g := lw_g_of (lw_t4 _ (List.mem_of_getElem? (i := 234) rfl)) rfl
theorem kc_X8_toldTwoThings : Cond.code yX8_toldTwoThings cX8_toldTwoThings 8 (some .boolean) ∈ lw_g := lw_g_of (lw_t4 _ (List.mem_of_getElem? (i := 235) rfl)) rfl
theorem ml_L_105 : Cond.methodLink RL 105 yX11_rumour ∈ lw_g := lw_g_of (lw_t4 _ (List.mem_of_getElem? (i := 236) rfl)) rfl
theorem im_X11_rumour : Cond.instanceMethod yX11_rumour ∈ lw_g := lw_g_of (lw_t4 _ (List.mem_of_getElem? (i := 237) rfl)) rfl
theorem sl_X11_rumour : Cond.selects RX11 yX11_rumour yX11_rumour ∈ lw_g := lw_g_of (lw_t4 _ (List.mem_of_getElem? (i := 238) rfl)) rfl
theorem kc_X11_rumour : Cond.code yX11_rumour cX11_rumour 3 (some .int) ∈ lw_g := lw_g_of (lw_t4 _ (List.mem_of_getElem? (i := 239) rfl)) rfl
theorem ml_X11_246 : Cond.methodLink RX11 246 yX9_rumourFrom ∈ lw_g := lw_g_of (lw_t5 _ (List.mem_of_getElem? (i := 0) rfl)) rfl
theorem im_X9_rumourFrom : Cond.instanceMethod yX9_rumourFrom ∈ lw_g := lw_g_of (lw_t5 _ (List.mem_of_getElem? (i := 1) rfl)) rfl
theorem sl_X9_rumourFrom : Cond.selects RX9 yX9_rumourFrom yX9_rumourFrom ∈ lw_g := lw_g_of (lw_t5 _ (List.mem_of_getElem? (i := 2) rfl)) rfl
theorem kc_X9_rumourFrom : Cond.code yX9_rumourFrom cX9_rumourFrom 8 (some .int) ∈ lw_g := lw_g_of (lw_t5 _ (List.mem_of_getElem? (i := 3) rfl)) rfl
theorem ml_X9_85 : Cond.methodLink RX9 85 yX9_friendsOf ∈ lw_g := lw_g_of (lw_t5 _ (List.mem_of_getElem? (i := 4) rfl)) rfl
theorem im_X9_friendsOf : Cond.instanceMethod yX9_friendsOf ∈ lw_g := lw_g_of (lw_t5 _ (List.mem_of_getElem? (i := 6) rfl)) rfl
theorem kc_X9_friendsOf : Cond.code yX9_friendsOf cX9_friendsOf 4 (some .int) ∈ lw_g := lw_g_of (lw_t5 _ (List.mem_of_getElem? (i := 7) rfl)) rfl
theorem ml_L_109 : Cond.methodLink RL 109 yX11_apart ∈ lw_g := lw_g_of (lw_t5 _ (List.mem_of_getElem? (i := 8) rfl)) rfl
theorem im_X11_apart : Cond.instanceMethod yX11_apart ∈ lw_g := lw_g_of (lw_t5 _ (List.mem_of_getElem? (i := 9) rfl)) rfl
theorem sl_X11_apart : Cond.selects RX11 yX11_apart yX11_apart ∈ lw_g := lw_g_of (lw_t5 _ (List.mem_of_getElem? (i := 10) rfl)) rfl
theorem kc_X11_apart : Cond.code yX11_apart cX11_apart 3 (some .int) ∈ lw_g := lw_g_of (lw_t5 _ (List.mem_of_getElem? (i := 11) rfl)) rfl
theorem ml_X11_250 : Cond.methodLink RX11 250 yX9_fewestTests ∈ lw_g := lw_g_of (lw_t5 _ (List.mem_of_getElem? (i := 12) rfl)) rfl
theorem im_X9_fewestTests : Cond.instanceMethod yX9_fewestTests ∈ lw_g := lw_g_of (lw_t5 _ (List.mem_of_getElem? (i := 13) rfl)) rfl
theorem sl_X9_fewestTests : Cond.selects RX9 yX9_fewestTests yX9_fewestTests ∈ lw_g := lw_g_of (lw_t5 _ (List.mem_of_getElem? (i := 14) rfl)) rfl
theorem kc_X9_fewestTests : Cond.code yX9_fewestTests cX9_fewestTests 4 (some .int) ∈ lw_g := lw_g_of (lw_t5 _ (List.mem_of_getElem? (i := 15) rfl)) rfl
theorem ml_X9_89 : Cond.methodLink RX9 89 yJ6_bitCount_0f7a4 ∈ lw_g := lw_g_of (lw_t5 _ (List.mem_of_getElem? (i := 16) rfl)) rfl
theorem ml_X9_94 : Cond.methodLink RX9 94 yX9_tellsAllApart ∈ lw_g := lw_g_of (lw_t5 _ (List.mem_of_getElem? (i := 17) rfl)) rfl
theorem im_X9_tellsAllApart : Cond.instanceMethod yX9_tellsAllApart ∈ lw_g := lw_g_of (lw_t5 _ (List.mem_of_getElem? (i := 19) rfl)) rfl
theorem kc_X9_tellsAllApart : Cond.code yX9_tellsAllApart cX9_tellsAllApart 4 (some .boolean) ∈ lw_g := lw_g_of (lw_t5 _ (List.mem_of_getElem? (i := 20) rfl)) rfl
theorem ml_X9_97 : Cond.methodLink RX9 97 yX9_tellsApart ∈ lw_g := lw_g_of (lw_t5 _ (List.mem_of_getElem? (i := 21) rfl)) rfl
theorem im_X9_tellsApart : Cond.instanceMethod yX9_tellsApart ∈ lw_g := lw_g_of (lw_t5 _ (List.mem_of_getElem? (i := 23) rfl)) rfl
theorem kc_X9_tellsApart : Cond.code yX9_tellsApart cX9_tellsApart 5 (some .boolean) ∈ lw_g := lw_g_of (lw_t5 _ (List.mem_of_getElem? (i := 24) rfl)) rfl
theorem ml_L_113 : Cond.methodLink RL 113 yX11_sellers ∈ lw_g := lw_g_of (lw_t5 _ (List.mem_of_getElem? (i := 25) rfl)) rfl
theorem im_X11_sellers : Cond.instanceMethod yX11_sellers ∈ lw_g := lw_g_of (lw_t5 _ (List.mem_of_getElem? (i := 26) rfl)) rfl
theorem sl_X11_sellers : Cond.selects RX11 yX11_sellers yX11_sellers ∈ lw_g := lw_g_of (lw_t5 _ (List.mem_of_getElem? (i := 27) rfl)) rfl
theorem kc_X11_sellers : Cond.code yX11_sellers cX11_sellers 6 (some .int) ∈ lw_g := lw_g_of (lw_t5 _ (List.mem_of_getElem? (i := 28) rfl)) rfl
theorem ml_X11_253 : Cond.methodLink RX11 253 yX3_rests ∈ lw_g := lw_g_of (lw_t5 _ (List.mem_of_getElem? (i := 29) rfl)) rfl
theorem im_X3_rests : Cond.instanceMethod yX3_rests ∈ lw_g := lw_g_of (lw_t5 _ (List.mem_of_getElem? (i := 30) rfl)) rfl
theorem sl_X3_rests : Cond.selects RX3 yX3_rests yX3_rests ∈ lw_g := lw_g_of (lw_t5 _ (List.mem_of_getElem? (i := 31) rfl)) rfl
theorem kc_X3_rests : Cond.code yX3_rests cX3_rests 9 (some .int) ∈ lw_g := lw_g_of (lw_t5 _ (List.mem_of_getElem? (i := 32) rfl)) rfl
theorem ml_X3_15 : Cond.methodLink RX3 15 yX3_ask ∈ lw_g := lw_g_of (lw_t5 _ (List.mem_of_getElem? (i := 33) rfl)) rfl
theorem im_X3_ask : Cond.instanceMethod yX3_ask ∈ lw_g := lw_g_of (lw_t5 _ (List.mem_of_getElem? (i := 35) rfl)) rfl
theorem kc_X3_ask : Cond.code yX3_ask cX3_ask 7 (some .boolean) ∈ lw_g := lw_g_of (lw_t5 _ (List.mem_of_getElem? (i := 36) rfl)) rfl
theorem ml_X3_23 : Cond.methodLink RX3 23 yJ9_min_7cf53 ∈ lw_g := lw_g_of (lw_t5 _ (List.mem_of_getElem? (i := 37) rfl)) rfl
theorem ml_X3_19 : Cond.methodLink RX3 19 yX3_isRest ∈ lw_g := lw_g_of (lw_t5 _ (List.mem_of_getElem? (i := 38) rfl)) rfl
theorem im_X3_isRest : Cond.instanceMethod yX3_isRest ∈ lw_g := lw_g_of (lw_t5 _ (List.mem_of_getElem? (i := 40) rfl)) rfl
theorem kc_X3_isRest : Cond.code yX3_isRest cX3_isRest 10 (some .boolean) ∈ lw_g := lw_g_of (lw_t5 _ (List.mem_of_getElem? (i := 41) rfl)) rfl
theorem ml_X3_29 : Cond.methodLink RX3 29 yX3_gain ∈ lw_g := lw_g_of (lw_t5 _ (List.mem_of_getElem? (i := 42) rfl)) rfl
theorem im_X3_gain : Cond.instanceMethod yX3_gain ∈ lw_g := lw_g_of (lw_t5 _ (List.mem_of_getElem? (i := 44) rfl)) rfl
theorem kc_X3_gain : Cond.code yX3_gain cX3_gain 7 (some .int) ∈ lw_g := lw_g_of (lw_t5 _ (List.mem_of_getElem? (i := 45) rfl)) rfl
theorem ml_L_117 : Cond.methodLink RL 117 yX11_calm ∈ lw_g := lw_g_of (lw_t5 _ (List.mem_of_getElem? (i := 46) rfl)) rfl
theorem im_X11_calm : Cond.instanceMethod yX11_calm ∈ lw_g := lw_g_of (lw_t5 _ (List.mem_of_getElem? (i := 47) rfl)) rfl
theorem sl_X11_calm : Cond.selects RX11 yX11_calm yX11_calm ∈ lw_g := lw_g_of (lw_t5 _ (List.mem_of_getElem? (i := 48) rfl)) rfl
theorem kc_X11_calm : Cond.code yX11_calm cX11_calm 5 (some .int) ∈ lw_g := lw_g_of (lw_t5 _ (List.mem_of_getElem? (i := 49) rfl)) rfl
theorem ml_X11_257 : Cond.methodLink RX11 257 yX1_mend ∈ lw_g := lw_g_of (lw_t5 _ (List.mem_of_getElem? (i := 50) rfl)) rfl
theorem ml_L_121 : Cond.methodLink RL 121 yX11_say ∈ lw_g := lw_g_of (lw_t5 _ (List.mem_of_getElem? (i := 51) rfl)) rfl
theorem im_X11_say : Cond.instanceMethod yX11_say ∈ lw_g := lw_g_of (lw_t5 _ (List.mem_of_getElem? (i := 52) rfl)) rfl
theorem sl_X11_say : Cond.selects RX11 yX11_say yX11_say ∈ lw_g := lw_g_of (lw_t5 _ (List.mem_of_getElem? (i := 53) rfl)) rfl
theorem kc_X11_say : Cond.code yX11_say cX11_say 5 (some .int) ∈ lw_g := lw_g_of (lw_t5 _ (List.mem_of_getElem? (i := 54) rfl)) rfl
theorem ml_X11_261 : Cond.methodLink RX11 261 yX11_isKind ∈ lw_g := lw_g_of (lw_t5 _ (List.mem_of_getElem? (i := 55) rfl)) rfl
theorem sm_X11_isKind : Cond.static yX11_isKind ∈ lw_g := lw_g_of (lw_t5 _ (List.mem_of_getElem? (i := 56) rfl)) rfl
theorem kc_X11_isKind : Cond.code yX11_isKind cX11_isKind 1 (some .boolean) ∈ lw_g := lw_g_of (lw_t5 _ (List.mem_of_getElem? (i := 57) rfl)) rfl
theorem ml_X11_264 : Cond.methodLink RX11 264 yX0_add ∈ lw_g := lw_g_of (lw_t5 _ (List.mem_of_getElem? (i := 58) rfl)) rfl
theorem im_X0_add : Cond.instanceMethod yX0_add ∈ lw_g := lw_g_of (lw_t5 _ (List.mem_of_getElem? (i := 59) rfl)) rfl
theorem sl_X0_add : Cond.selects RX0 yX0_add yX0_add ∈ lw_g := lw_g_of (lw_t5 _ (List.mem_of_getElem? (i := 60) rfl)) rfl
theorem kc_X0_add : Cond.code yX0_add cX0_add 5 (some .int) ∈ lw_g := lw_g_of (lw_t5 _ (List.mem_of_getElem? (i := 61) rfl)) rfl
theorem ml_L_126 : Cond.methodLink RL 126 yX11_span ∈ lw_g := lw_g_of (lw_t5 _ (List.mem_of_getElem? (i := 62) rfl)) rfl
theorem im_X11_span : Cond.instanceMethod yX11_span ∈ lw_g := lw_g_of (lw_t5 _ (List.mem_of_getElem? (i := 63) rfl)) rfl
theorem sl_X11_span : Cond.selects RX11 yX11_span yX11_span ∈ lw_g := lw_g_of (lw_t5 _ (List.mem_of_getElem? (i := 64) rfl)) rfl
theorem kc_X11_span : Cond.code yX11_span cX11_span 6 (some .int) ∈ lw_g := lw_g_of (lw_t5 _ (List.mem_of_getElem? (i := 65) rfl)) rfl
theorem ml_X11_271 : Cond.methodLink RX11 271 yX0_leastAge ∈ lw_g := lw_g_of (lw_t5 _ (List.mem_of_getElem? (i := 66) rfl)) rfl
theorem im_X0_leastAge : Cond.instanceMethod yX0_leastAge ∈ lw_g := lw_g_of (lw_t5 _ (List.mem_of_getElem? (i := 67) rfl)) rfl
theorem sl_X0_leastAge : Cond.selects RX0 yX0_leastAge yX0_leastAge ∈ lw_g := lw_g_of (lw_t5 _ (List.mem_of_getElem? (i := 68) rfl)) rfl
theorem kc_X0_leastAge : Cond.code yX0_leastAge cX0_leastAge 5 (some .int) ∈ lw_g := lw_g_of (lw_t5 _ (List.mem_of_getElem? (i := 69) rfl)) rfl
theorem ml_X0_28 : Cond.methodLink RX0 28 yJ9_max_7cf53 ∈ lw_g := lw_g_of (lw_t5 _ (List.mem_of_getElem? (i := 70) rfl)) rfl
theorem ml_X11_274 : Cond.methodLink RX11 274 yX0_greatestAge ∈ lw_g := lw_g_of (lw_t5 _ (List.mem_of_getElem? (i := 71) rfl)) rfl
theorem im_X0_greatestAge : Cond.instanceMethod yX0_greatestAge ∈ lw_g := lw_g_of (lw_t5 _ (List.mem_of_getElem? (i := 72) rfl)) rfl
theorem sl_X0_greatestAge : Cond.selects RX0 yX0_greatestAge yX0_greatestAge ∈ lw_g := lw_g_of (lw_t5 _ (List.mem_of_getElem? (i := 73) rfl)) rfl
theorem kc_X0_greatestAge : Cond.code yX0_greatestAge cX0_greatestAge 5 (some .int) ∈ lw_g := lw_g_of (lw_t5 _ (List.mem_of_getElem? (i := 74) rfl)) rfl
theorem ml_X0_34 : Cond.methodLink RX0 34 yJ9_min_7cf53 ∈ lw_g := lw_g_of (lw_t5 _ (List.mem_of_getElem? (i := 75) rfl)) rfl
theorem ml_L_130 : Cond.methodLink RL 130 yX11_know ∈ lw_g := lw_g_of (lw_t5 _ (List.mem_of_getElem? (i := 76) rfl)) rfl
theorem im_X11_know : Cond.instanceMethod yX11_know ∈ lw_g := lw_g_of (lw_t5 _ (List.mem_of_getElem? (i := 77) rfl)) rfl
theorem sl_X11_know : Cond.selects RX11 yX11_know yX11_know ∈ lw_g := lw_g_of (lw_t5 _ (List.mem_of_getElem? (i := 78) rfl)) rfl
theorem kc_X11_know : Cond.code yX11_know cX11_know 4 (some .int) ∈ lw_g := lw_g_of (lw_t5 _ (List.mem_of_getElem? (i := 79) rfl)) rfl
theorem ml_X11_277 : Cond.methodLink RX11 277 yX6_add ∈ lw_g := lw_g_of (lw_t5 _ (List.mem_of_getElem? (i := 80) rfl)) rfl
theorem im_X6_add : Cond.instanceMethod yX6_add ∈ lw_g := lw_g_of (lw_t5 _ (List.mem_of_getElem? (i := 81) rfl)) rfl
theorem sl_X6_add : Cond.selects RX6 yX6_add yX6_add ∈ lw_g := lw_g_of (lw_t5 _ (List.mem_of_getElem? (i := 82) rfl)) rfl
theorem kc_X6_add : Cond.code yX6_add cX6_add 4 (some .int) ∈ lw_g := lw_g_of (lw_t5 _ (List.mem_of_getElem? (i := 83) rfl)) rfl
theorem ml_L_134 : Cond.methodLink RL 134 yX11_fits ∈ lw_g := lw_g_of (lw_t5 _ (List.mem_of_getElem? (i := 84) rfl)) rfl
theorem im_X11_fits : Cond.instanceMethod yX11_fits ∈ lw_g := lw_g_of (lw_t5 _ (List.mem_of_getElem? (i := 85) rfl)) rfl
theorem sl_X11_fits : Cond.selects RX11 yX11_fits yX11_fits ∈ lw_g := lw_g_of (lw_t5 _ (List.mem_of_getElem? (i := 86) rfl)) rfl
theorem kc_X11_fits : Cond.code yX11_fits cX11_fits 3 (some .int) ∈ lw_g := lw_g_of (lw_t5 _ (List.mem_of_getElem? (i := 87) rfl)) rfl
theorem ml_X11_281 : Cond.methodLink RX11 281 yX6_ways ∈ lw_g := lw_g_of (lw_t5 _ (List.mem_of_getElem? (i := 88) rfl)) rfl
theorem im_X6_ways : Cond.instanceMethod yX6_ways ∈ lw_g := lw_g_of (lw_t5 _ (List.mem_of_getElem? (i := 89) rfl)) rfl
theorem sl_X6_ways : Cond.selects RX6 yX6_ways yX6_ways ∈ lw_g := lw_g_of (lw_t5 _ (List.mem_of_getElem? (i := 90) rfl)) rfl
theorem kc_X6_ways : Cond.code yX6_ways cX6_ways 8 (some .int) ∈ lw_g := lw_g_of (lw_t5 _ (List.mem_of_getElem? (i := 91) rfl)) rfl
theorem ml_X6_28 : Cond.methodLink RX6 28 yX6_collect ∈ lw_g := lw_g_of (lw_t5 _ (List.mem_of_getElem? (i := 92) rfl)) rfl
theorem im_X6_collect : Cond.instanceMethod yX6_collect ∈ lw_g := lw_g_of (lw_t5 _ (List.mem_of_getElem? (i := 94) rfl)) rfl
theorem kc_X6_collect : Cond.code yX6_collect cX6_collect 5 (some .boolean) ∈ lw_g := lw_g_of (lw_t5 _ (List.mem_of_getElem? (i := 95) rfl)) rfl
theorem ml_X6_32 : Cond.methodLink RX6 32 yX6_dutiesOf ∈ lw_g := lw_g_of (lw_t5 _ (List.mem_of_getElem? (i := 96) rfl)) rfl
theorem sm_X6_dutiesOf : Cond.static yX6_dutiesOf ∈ lw_g := lw_g_of (lw_t5 _ (List.mem_of_getElem? (i := 97) rfl)) rfl
theorem kc_X6_dutiesOf : Cond.code yX6_dutiesOf cX6_dutiesOf 4 (some .int) ∈ lw_g := lw_g_of (lw_t5 _ (List.mem_of_getElem? (i := 98) rfl)) rfl
theorem ml_X6_40 : Cond.methodLink RX6 40 yX6_subsets ∈ lw_g := lw_g_of (lw_t5 _ (List.mem_of_getElem? (i := 99) rfl)) rfl
theorem sm_X6_subsets : Cond.static yX6_subsets ∈ lw_g := lw_g_of (lw_t5 _ (List.mem_of_getElem? (i := 100) rfl)) rfl
theorem kc_X6_subsets : Cond.code yX6_subsets cX6_subsets 4 (some .int) ∈ lw_g := lw_g_of (lw_t5 _ (List.mem_of_getElem? (i := 101) rfl)) rfl
theorem ml_X6_44 : Cond.methodLink RX6 44 yJ9_max_7cf53 ∈ lw_g := lw_g_of (lw_t5 _ (List.mem_of_getElem? (i := 102) rfl)) rfl
theorem ml_L_138 : Cond.methodLink RL 138 yX11_forget ∈ lw_g := lw_g_of (lw_t5 _ (List.mem_of_getElem? (i := 103) rfl)) rfl
theorem im_X11_forget : Cond.instanceMethod yX11_forget ∈ lw_g := lw_g_of (lw_t5 _ (List.mem_of_getElem? (i := 104) rfl)) rfl
theorem sl_X11_forget : Cond.selects RX11 yX11_forget yX11_forget ∈ lw_g := lw_g_of (lw_t5 _ (List.mem_of_getElem? (i := 105) rfl)) rfl
theorem kc_X11_forget : Cond.code yX11_forget cX11_forget 2 (some .int) ∈ lw_g := lw_g_of (lw_t5 _ (List.mem_of_getElem? (i := 106) rfl)) rfl
theorem ml_L_142 : Cond.methodLink RL 142 yX11_hold ∈ lw_g := lw_g_of (lw_t5 _ (List.mem_of_getElem? (i := 107) rfl)) rfl
theorem im_X11_hold : Cond.instanceMethod yX11_hold ∈ lw_g := lw_g_of (lw_t5 _ (List.mem_of_getElem? (i := 108) rfl)) rfl
theorem sl_X11_hold : Cond.selects RX11 yX11_hold yX11_hold ∈ lw_g := lw_g_of (lw_t5 _ (List.mem_of_getElem? (i := 109) rfl)) rfl
theorem kc_X11_hold : Cond.code yX11_hold cX11_hold 3 (some .boolean) ∈ lw_g := lw_g_of (lw_t5 _ (List.mem_of_getElem? (i := 110) rfl)) rfl
theorem ml_X11_284 : Cond.methodLink RX11 284 yX11_slotAt ∈ lw_g := lw_g_of (lw_t5 _ (List.mem_of_getElem? (i := 111) rfl)) rfl
theorem im_X11_slotAt : Cond.instanceMethod yX11_slotAt ∈ lw_g := lw_g_of (lw_t5 _ (List.mem_of_getElem? (i := 113) rfl)) rfl
theorem kc_X11_slotAt : Cond.code yX11_slotAt cX11_slotAt 2 (some (.object "ExcuseMarket$State")) ∈ lw_g := lw_g_of (lw_t5 _ (List.mem_of_getElem? (i := 114) rfl)) rfl
theorem ml_L_147 : Cond.methodLink RL 147 yX11_restore ∈ lw_g := lw_g_of (lw_t5 _ (List.mem_of_getElem? (i := 115) rfl)) rfl
theorem im_X11_restore : Cond.instanceMethod yX11_restore ∈ lw_g := lw_g_of (lw_t5 _ (List.mem_of_getElem? (i := 116) rfl)) rfl
theorem sl_X11_restore : Cond.selects RX11 yX11_restore yX11_restore ∈ lw_g := lw_g_of (lw_t5 _ (List.mem_of_getElem? (i := 117) rfl)) rfl
theorem kc_X11_restore : Cond.code yX11_restore cX11_restore 3 (some .boolean) ∈ lw_g := lw_g_of (lw_t5 _ (List.mem_of_getElem? (i := 118) rfl)) rfl
theorem ml_L_151 : Cond.methodLink RL 151 yX11_count ∈ lw_g := lw_g_of (lw_t5 _ (List.mem_of_getElem? (i := 119) rfl)) rfl
theorem im_X11_count : Cond.instanceMethod yX11_count ∈ lw_g := lw_g_of (lw_t5 _ (List.mem_of_getElem? (i := 120) rfl)) rfl
theorem sl_X11_count : Cond.selects RX11 yX11_count yX11_count ∈ lw_g := lw_g_of (lw_t5 _ (List.mem_of_getElem? (i := 121) rfl)) rfl
theorem kc_X11_count : Cond.code yX11_count cX11_count 2 (some .int) ∈ lw_g := lw_g_of (lw_t5 _ (List.mem_of_getElem? (i := 122) rfl)) rfl
theorem ml_X11_298 : Cond.methodLink RX11 298 yX11_slotsHeld ∈ lw_g := lw_g_of (lw_t5 _ (List.mem_of_getElem? (i := 123) rfl)) rfl
theorem im_X11_slotsHeld : Cond.instanceMethod yX11_slotsHeld ∈ lw_g := lw_g_of (lw_t5 _ (List.mem_of_getElem? (i := 125) rfl)) rfl
theorem kc_X11_slotsHeld : Cond.code yX11_slotsHeld cX11_slotsHeld 3 (some .int) ∈ lw_g := lw_g_of (lw_t5 _ (List.mem_of_getElem? (i := 126) rfl)) rfl
theorem cl_L_10 : Cond.classLink RL 10 RX12 ∈ lw_g := lw_g_of (lw_t5 _ (List.mem_of_getElem? (i := 127) rfl)) rfl
theorem it_X12 : Cond.instantiable RX12 79 ∈ lw_g := lw_g_of (lw_t5 _ (List.mem_of_getElem? (i := 128) rfl)) rfl
theorem ml_L_12 : Cond.methodLink RL 12 yX12_init ∈ lw_g := lw_g_of (lw_t5 _ (List.mem_of_getElem? (i := 129) rfl)) rfl
theorem im_X12_init : Cond.instanceMethod yX12_init ∈ lw_g := lw_g_of (lw_t5 _ (List.mem_of_getElem? (i := 130) rfl)) rfl
theorem kc_X12_init : Cond.code yX12_init cX12_init 1 (none) ∈ lw_g := lw_g_of (lw_t5 _ (List.mem_of_getElem? (i := 131) rfl)) rfl
theorem ml_X12_7 : Cond.methodLink RX12 7 objectInit ∈ lw_g := lw_g_of (lw_t5 _ (List.mem_of_getElem? (i := 132) rfl)) rfl
theorem ml_X12_185 : Cond.methodLink RX12 185 yX12_plain ∈ lw_g := lw_g_of (lw_t5 _ (List.mem_of_getElem? (i := 133) rfl)) rfl
theorem im_X12_plain : Cond.instanceMethod yX12_plain ∈ lw_g := lw_g_of (lw_t5 _ (List.mem_of_getElem? (i := 135) rfl)) rfl
theorem kc_X12_plain : Cond.code yX12_plain cX12_plain 3 (none) ∈ lw_g := lw_g_of (lw_t5 _ (List.mem_of_getElem? (i := 136) rfl)) rfl
theorem ml_X12_189 : Cond.methodLink RX12 189 yX12_word ∈ lw_g := lw_g_of (lw_t5 _ (List.mem_of_getElem? (i := 137) rfl)) rfl
theorem sm_X12_word : Cond.static yX12_word ∈ lw_g := lw_g_of (lw_t5 _ (List.mem_of_getElem? (i := 138) rfl)) rfl
theorem kc_X12_word : Cond.code yX12_word cX12_word 7 (some .long) ∈ lw_g := lw_g_of (lw_t5 _ (List.mem_of_getElem? (i := 139) rfl)) rfl
theorem ml_X12_210 : Cond.methodLink RX12 210 yX12_appends ∈ lw_g := lw_g_of (lw_t5 _ (List.mem_of_getElem? (i := 140) rfl)) rfl
theorem sm_X12_appends : Cond.static yX12_appends ∈ lw_g := lw_g_of (lw_t5 _ (List.mem_of_getElem? (i := 141) rfl)) rfl
theorem kc_X12_appends : Cond.code yX12_appends cX12_appends 3 (some .long) ∈ lw_g := lw_g_of (lw_t5 _ (List.mem_of_getElem? (i := 142) rfl)) rfl
theorem kn_X12_208 : Cond.constantLong RX12 208 (27) ∈ lw_g := lw_g_of (lw_t5 _ (List.mem_of_getElem? (i := 143) rfl)) rfl
theorem ml_X12_193 : Cond.methodLink RX12 193 yX12_begins ∈ lw_g := lw_g_of (lw_t5 _ (List.mem_of_getElem? (i := 144) rfl)) rfl
theorem im_X12_begins : Cond.instanceMethod yX12_begins ∈ lw_g := lw_g_of (lw_t5 _ (List.mem_of_getElem? (i := 146) rfl)) rfl
theorem kc_X12_begins : Cond.code yX12_begins cX12_begins 2 (none) ∈ lw_g := lw_g_of (lw_t5 _ (List.mem_of_getElem? (i := 147) rfl)) rfl
theorem ml_X12_196 : Cond.methodLink RX12 196 yX12_keepsRow ∈ lw_g := lw_g_of (lw_t5 _ (List.mem_of_getElem? (i := 148) rfl)) rfl
theorem im_X12_keepsRow : Cond.instanceMethod yX12_keepsRow ∈ lw_g := lw_g_of (lw_t5 _ (List.mem_of_getElem? (i := 150) rfl)) rfl
theorem kc_X12_keepsRow : Cond.code yX12_keepsRow cX12_keepsRow 2 (none) ∈ lw_g := lw_g_of (lw_t5 _ (List.mem_of_getElem? (i := 151) rfl)) rfl
theorem fl_X12_13 : Cond.fieldLink RX12 13 "ExcuseMarketModel" "tape" "[B" ∈ lw_g := lw_g_of (lw_t5 _ (List.mem_of_getElem? (i := 152) rfl)) rfl
theorem fl_X12_199 : Cond.fieldLink RX12 199 "ExcuseMarketModel" "taped" "I" ∈ lw_g := lw_g_of (lw_t5 _ (List.mem_of_getElem? (i := 153) rfl)) rfl
theorem fl_X12_17 : Cond.fieldLink RX12 17 "ExcuseMarketModel" "text" "[B" ∈ lw_g := lw_g_of (lw_t5 _ (List.mem_of_getElem? (i := 154) rfl)) rfl
theorem fl_X12_205 : Cond.fieldLink RX12 205 "ExcuseMarketModel" "size" "I" ∈ lw_g := lw_g_of (lw_t5 _ (List.mem_of_getElem? (i := 155) rfl)) rfl
theorem fl_X12_20 : Cond.fieldLink RX12 20 "ExcuseMarketModel" "tKind" "[I" ∈ lw_g := lw_g_of (lw_t5 _ (List.mem_of_getElem? (i := 156) rfl)) rfl
theorem fl_X12_24 : Cond.fieldLink RX12 24 "ExcuseMarketModel" "tPlace" "[I" ∈ lw_g := lw_g_of (lw_t5 _ (List.mem_of_getElem? (i := 157) rfl)) rfl
theorem fl_X12_27 : Cond.fieldLink RX12 27 "ExcuseMarketModel" "tValue" "[I" ∈ lw_g := lw_g_of (lw_t5 _ (List.mem_of_getElem? (i := 158) rfl)) rfl
theorem fl_X12_30 : Cond.fieldLink RX12 30 "ExcuseMarketModel" "tName" "[J" ∈ lw_g := lw_g_of (lw_t5 _ (List.mem_of_getElem? (i := 159) rfl)) rfl
theorem fl_X12_34 : Cond.fieldLink RX12 34 "ExcuseMarketModel" "keys" "[J" ∈ lw_g := lw_g_of (lw_t5 _ (List.mem_of_getElem? (i := 160) rfl)) rfl
theorem fl_X12_214 : Cond.fieldLink RX12 214 "ExcuseMarketModel" "tokens" "I" ∈ lw_g := lw_g_of (lw_t5 _ (List.mem_of_getElem? (i := 161) rfl)) rfl
theorem fl_X12_239 : Cond.fieldLink RX12 239 "ExcuseMarketModel" "t" "I" ∈ lw_g := lw_g_of (lw_t5 _ (List.mem_of_getElem? (i := 162) rfl)) rfl
theorem fl_X12_263 : Cond.fieldLink RX12 263 "ExcuseMarketModel" "open" "I" ∈ lw_g := lw_g_of (lw_t5 _ (List.mem_of_getElem? (i := 163) rfl)) rfl
theorem fl_X12_236 : Cond.fieldLink RX12 236 "ExcuseMarketModel" "fault" "I" ∈ lw_g := lw_g_of (lw_t5 _ (List.mem_of_getElem? (i := 164) rfl)) rfl
theorem fl_X12_242 : Cond.fieldLink RX12 242 "ExcuseMarketModel" "faultPlace" "I" ∈ lw_g := lw_g_of (lw_t5 _ (List.mem_of_getElem? (i := 165) rfl)) rfl
theorem fl_X12_245 : Cond.fieldLink RX12 245 "ExcuseMarketModel" "worst" "I" ∈ lw_g := lw_g_of (lw_t5 _ (List.mem_of_getElem? (i := 166) rfl)) rfl
theorem fl_X12_248 : Cond.fieldLink RX12 248 "ExcuseMarketModel" "worstPlace" "I" ∈ lw_g := lw_g_of (lw_t5 _ (List.mem_of_getElem? (i := 167) rfl)) rfl
theorem fl_X12_37 : Cond.fieldLink RX12 37 "ExcuseMarketModel" "place" "I" ∈ lw_g := lw_g_of (lw_t5 _ (List.mem_of_getElem? (i := 168) rfl)) rfl
theorem fl_X12_266 : Cond.fieldLink RX12 266 "ExcuseMarketModel" "live" "I" ∈ lw_g := lw_g_of (lw_t5 _ (List.mem_of_getElem? (i := 169) rfl)) rfl
theorem fl_X12_269 : Cond.fieldLink RX12 269 "ExcuseMarketModel" "side" "I" ∈ lw_g := lw_g_of (lw_t5 _ (List.mem_of_getElem? (i := 170) rfl)) rfl
theorem fl_X12_272 : Cond.fieldLink RX12 272 "ExcuseMarketModel" "names" "I" ∈ lw_g := lw_g_of (lw_t5 _ (List.mem_of_getElem? (i := 171) rfl)) rfl
theorem fl_X12_40 : Cond.fieldLink RX12 40 "ExcuseMarketModel" "nameOf" "[J" ∈ lw_g := lw_g_of (lw_t5 _ (List.mem_of_getElem? (i := 172) rfl)) rfl
theorem fl_X12_43 : Cond.fieldLink RX12 43 "ExcuseMarketModel" "nameSort" "[I" ∈ lw_g := lw_g_of (lw_t5 _ (List.mem_of_getElem? (i := 173) rfl)) rfl
theorem fl_X12_46 : Cond.fieldLink RX12 46 "ExcuseMarketModel" "nameAt" "[I" ∈ lw_g := lw_g_of (lw_t5 _ (List.mem_of_getElem? (i := 174) rfl)) rfl
theorem fl_X12_49 : Cond.fieldLink RX12 49 "ExcuseMarketModel" "men" "[I" ∈ lw_g := lw_g_of (lw_t5 _ (List.mem_of_getElem? (i := 175) rfl)) rfl
theorem fl_X12_52 : Cond.fieldLink RX12 52 "ExcuseMarketModel" "trustTold" "[I" ∈ lw_g := lw_g_of (lw_t5 _ (List.mem_of_getElem? (i := 176) rfl)) rfl
theorem fl_X12_55 : Cond.fieldLink RX12 55 "ExcuseMarketModel" "mendsOf" "[I" ∈ lw_g := lw_g_of (lw_t5 _ (List.mem_of_getElem? (i := 177) rfl)) rfl
theorem fl_X12_58 : Cond.fieldLink RX12 58 "ExcuseMarketModel" "knowing" "[I" ∈ lw_g := lw_g_of (lw_t5 _ (List.mem_of_getElem? (i := 178) rfl)) rfl
theorem fl_X12_61 : Cond.fieldLink RX12 61 "ExcuseMarketModel" "excuses" "[I" ∈ lw_g := lw_g_of (lw_t5 _ (List.mem_of_getElem? (i := 179) rfl)) rfl
theorem fl_X12_64 : Cond.fieldLink RX12 64 "ExcuseMarketModel" "priceOf" "[I" ∈ lw_g := lw_g_of (lw_t5 _ (List.mem_of_getElem? (i := 180) rfl)) rfl
theorem fl_X12_67 : Cond.fieldLink RX12 67 "ExcuseMarketModel" "goodOf" "[I" ∈ lw_g := lw_g_of (lw_t5 _ (List.mem_of_getElem? (i := 181) rfl)) rfl
theorem fl_X12_70 : Cond.fieldLink RX12 70 "ExcuseMarketModel" "kindOf" "[I" ∈ lw_g := lw_g_of (lw_t5 _ (List.mem_of_getElem? (i := 182) rfl)) rfl
theorem fl_X12_73 : Cond.fieldLink RX12 73 "ExcuseMarketModel" "strongOf" "[I" ∈ lw_g := lw_g_of (lw_t5 _ (List.mem_of_getElem? (i := 183) rfl)) rfl
theorem fl_X12_76 : Cond.fieldLink RX12 76 "ExcuseMarketModel" "isOnce" "[Z" ∈ lw_g := lw_g_of (lw_t5 _ (List.mem_of_getElem? (i := 184) rfl)) rfl
theorem fl_X12_80 : Cond.fieldLink RX12 80 "ExcuseMarketModel" "duties" "[I" ∈ lw_g := lw_g_of (lw_t5 _ (List.mem_of_getElem? (i := 185) rfl)) rfl
theorem fl_X12_83 : Cond.fieldLink RX12 83 "ExcuseMarketModel" "dutyMan" "[I" ∈ lw_g := lw_g_of (lw_t5 _ (List.mem_of_getElem? (i := 186) rfl)) rfl
theorem fl_X12_86 : Cond.fieldLink RX12 86 "ExcuseMarketModel" "dutyDay" "[I" ∈ lw_g := lw_g_of (lw_t5 _ (List.mem_of_getElem? (i := 187) rfl)) rfl
theorem fl_X12_89 : Cond.fieldLink RX12 89 "ExcuseMarketModel" "dutyHours" "[I" ∈ lw_g := lw_g_of (lw_t5 _ (List.mem_of_getElem? (i := 188) rfl)) rfl
theorem fl_X12_92 : Cond.fieldLink RX12 92 "ExcuseMarketModel" "pairs" "[I" ∈ lw_g := lw_g_of (lw_t5 _ (List.mem_of_getElem? (i := 189) rfl)) rfl
theorem fl_X12_95 : Cond.fieldLink RX12 95 "ExcuseMarketModel" "tests" "[I" ∈ lw_g := lw_g_of (lw_t5 _ (List.mem_of_getElem? (i := 190) rfl)) rfl
theorem fl_X12_98 : Cond.fieldLink RX12 98 "ExcuseMarketModel" "ringsOf" "[I" ∈ lw_g := lw_g_of (lw_t5 _ (List.mem_of_getElem? (i := 191) rfl)) rfl
theorem fl_X12_101 : Cond.fieldLink RX12 101 "ExcuseMarketModel" "rain" "[I" ∈ lw_g := lw_g_of (lw_t5 _ (List.mem_of_getElem? (i := 192) rfl)) rfl
theorem fl_X12_104 : Cond.fieldLink RX12 104 "ExcuseMarketModel" "coinsTold" "[I" ∈ lw_g := lw_g_of (lw_t5 _ (List.mem_of_getElem? (i := 193) rfl)) rfl
theorem fl_X12_107 : Cond.fieldLink RX12 107 "ExcuseMarketModel" "seed" "[I" ∈ lw_g := lw_g_of (lw_t5 _ (List.mem_of_getElem? (i := 194) rfl)) rfl
theorem fl_X12_110 : Cond.fieldLink RX12 110 "ExcuseMarketModel" "lawFirst" "[I" ∈ lw_g := lw_g_of (lw_t5 _ (List.mem_of_getElem? (i := 195) rfl)) rfl
theorem fl_X12_113 : Cond.fieldLink RX12 113 "ExcuseMarketModel" "lawLast" "[I" ∈ lw_g := lw_g_of (lw_t5 _ (List.mem_of_getElem? (i := 196) rfl)) rfl
theorem fl_X12_275 : Cond.fieldLink RX12 275 "ExcuseMarketModel" "branches" "I" ∈ lw_g := lw_g_of (lw_t5 _ (List.mem_of_getElem? (i := 197) rfl)) rfl
theorem fl_X12_116 : Cond.fieldLink RX12 116 "ExcuseMarketModel" "hasTest" "[Z" ∈ lw_g := lw_g_of (lw_t5 _ (List.mem_of_getElem? (i := 198) rfl)) rfl
theorem fl_X12_119 : Cond.fieldLink RX12 119 "ExcuseMarketModel" "testFrom" "[I" ∈ lw_g := lw_g_of (lw_t5 _ (List.mem_of_getElem? (i := 199) rfl)) rfl
theorem fl_X12_122 : Cond.fieldLink RX12 122 "ExcuseMarketModel" "testMid" "[I" ∈ lw_g := lw_g_of (lw_t5 _ (List.mem_of_getElem? (i := 200) rfl)) rfl
theorem fl_X12_125 : Cond.fieldLink RX12 125 "ExcuseMarketModel" "testTo" "[I" ∈ lw_g := lw_g_of (lw_t5 _ (List.mem_of_getElem? (i := 201) rfl)) rfl
theorem fl_X12_128 : Cond.fieldLink RX12 128 "ExcuseMarketModel" "termTo" "[I" ∈ lw_g := lw_g_of (lw_t5 _ (List.mem_of_getElem? (i := 202) rfl)) rfl
theorem fl_X12_278 : Cond.fieldLink RX12 278 "ExcuseMarketModel" "codes" "I" ∈ lw_g := lw_g_of (lw_t5 _ (List.mem_of_getElem? (i := 203) rfl)) rfl
theorem fl_X12_131 : Cond.fieldLink RX12 131 "ExcuseMarketModel" "code" "[I" ∈ lw_g := lw_g_of (lw_t5 _ (List.mem_of_getElem? (i := 204) rfl)) rfl
theorem fl_X12_134 : Cond.fieldLink RX12 134 "ExcuseMarketModel" "codeInt" "[I" ∈ lw_g := lw_g_of (lw_t5 _ (List.mem_of_getElem? (i := 205) rfl)) rfl
theorem fl_X12_137 : Cond.fieldLink RX12 137 "ExcuseMarketModel" "waits" "[I" ∈ lw_g := lw_g_of (lw_t5 _ (List.mem_of_getElem? (i := 206) rfl)) rfl
theorem fl_X12_342 : Cond.fieldLink RX12 342 "ExcuseMarketModel" "waiting" "I" ∈ lw_g := lw_g_of (lw_t5 _ (List.mem_of_getElem? (i := 207) rfl)) rfl
theorem fl_X12_140 : Cond.fieldLink RX12 140 "ExcuseMarketModel" "variables" "[I" ∈ lw_g := lw_g_of (lw_t5 _ (List.mem_of_getElem? (i := 208) rfl)) rfl
theorem fl_X12_143 : Cond.fieldLink RX12 143 "ExcuseMarketModel" "pile" "[I" ∈ lw_g := lw_g_of (lw_t5 _ (List.mem_of_getElem? (i := 209) rfl)) rfl
theorem fl_X12_355 : Cond.fieldLink RX12 355 "ExcuseMarketModel" "isBroken" "Z" ∈ lw_g := lw_g_of (lw_t5 _ (List.mem_of_getElem? (i := 210) rfl)) rfl
theorem fl_X12_146 : Cond.fieldLink RX12 146 "ExcuseMarketModel" "now" "[I" ∈ lw_g := lw_g_of (lw_t5 _ (List.mem_of_getElem? (i := 211) rfl)) rfl
theorem fl_X12_149 : Cond.fieldLink RX12 149 "ExcuseMarketModel" "row" "[I" ∈ lw_g := lw_g_of (lw_t5 _ (List.mem_of_getElem? (i := 212) rfl)) rfl
theorem fl_X12_363 : Cond.fieldLink RX12 363 "ExcuseMarketModel" "lots" "I" ∈ lw_g := lw_g_of (lw_t5 _ (List.mem_of_getElem? (i := 213) rfl)) rfl
theorem fl_X12_284 : Cond.fieldLink RX12 284 "ExcuseMarketModel" "undos" "I" ∈ lw_g := lw_g_of (lw_t5 _ (List.mem_of_getElem? (i := 214) rfl)) rfl
theorem fl_X12_152 : Cond.fieldLink RX12 152 "ExcuseMarketModel" "history" "[I" ∈ lw_g := lw_g_of (lw_t5 _ (List.mem_of_getElem? (i := 215) rfl)) rfl
theorem fl_X12_461 : Cond.fieldLink RX12 461 "ExcuseMarketModel" "buyCoins" "I" ∈ lw_g := lw_g_of (lw_t5 _ (List.mem_of_getElem? (i := 216) rfl)) rfl
theorem fl_X12_464 : Cond.fieldLink RX12 464 "ExcuseMarketModel" "buyWay" "I" ∈ lw_g := lw_g_of (lw_t5 _ (List.mem_of_getElem? (i := 217) rfl)) rfl
theorem fl_X12_287 : Cond.fieldLink RX12 287 "ExcuseMarketModel" "saids" "I" ∈ lw_g := lw_g_of (lw_t5 _ (List.mem_of_getElem? (i := 218) rfl)) rfl
theorem fl_X12_155 : Cond.fieldLink RX12 155 "ExcuseMarketModel" "saidKind" "[I" ∈ lw_g := lw_g_of (lw_t5 _ (List.mem_of_getElem? (i := 219) rfl)) rfl
theorem fl_X12_158 : Cond.fieldLink RX12 158 "ExcuseMarketModel" "saidLeast" "[I" ∈ lw_g := lw_g_of (lw_t5 _ (List.mem_of_getElem? (i := 220) rfl)) rfl
theorem fl_X12_161 : Cond.fieldLink RX12 161 "ExcuseMarketModel" "saidMost" "[I" ∈ lw_g := lw_g_of (lw_t5 _ (List.mem_of_getElem? (i := 221) rfl)) rfl
theorem fl_X12_164 : Cond.fieldLink RX12 164 "ExcuseMarketModel" "saidDay" "[I" ∈ lw_g := lw_g_of (lw_t5 _ (List.mem_of_getElem? (i := 222) rfl)) rfl
theorem fl_X12_290 : Cond.fieldLink RX12 290 "ExcuseMarketModel" "knowns" "I" ∈ lw_g := lw_g_of (lw_t5 _ (List.mem_of_getElem? (i := 223) rfl)) rfl
theorem fl_X12_167 : Cond.fieldLink RX12 167 "ExcuseMarketModel" "knownExcuse" "[I" ∈ lw_g := lw_g_of (lw_t5 _ (List.mem_of_getElem? (i := 224) rfl)) rfl
theorem fl_X12_170 : Cond.fieldLink RX12 170 "ExcuseMarketModel" "knownMan" "[I" ∈ lw_g := lw_g_of (lw_t5 _ (List.mem_of_getElem? (i := 225) rfl)) rfl
theorem fl_X12_173 : Cond.fieldLink RX12 173 "ExcuseMarketModel" "knownOften" "[I" ∈ lw_g := lw_g_of (lw_t5 _ (List.mem_of_getElem? (i := 226) rfl)) rfl
theorem fl_X12_176 : Cond.fieldLink RX12 176 "ExcuseMarketModel" "often" "[I" ∈ lw_g := lw_g_of (lw_t5 _ (List.mem_of_getElem? (i := 227) rfl)) rfl
theorem fl_X12_179 : Cond.fieldLink RX12 179 "ExcuseMarketModel" "isHeld" "[Z" ∈ lw_g := lw_g_of (lw_t5 _ (List.mem_of_getElem? (i := 228) rfl)) rfl
theorem fl_X12_182 : Cond.fieldLink RX12 182 "ExcuseMarketModel" "heldRows" "[I" ∈ lw_g := lw_g_of (lw_t5 _ (List.mem_of_getElem? (i := 229) rfl)) rfl
theorem ml_L_17 : Cond.methodLink RL 17 yX12_feed ∈ lw_g := lw_g_of (lw_t6 _ (List.mem_of_getElem? (i := 149) rfl)) rfl
theorem im_X12_feed : Cond.instanceMethod yX12_feed ∈ lw_g := lw_g_of (lw_t6 _ (List.mem_of_getElem? (i := 150) rfl)) rfl
theorem sl_X12_feed : Cond.selects RX12 yX12_feed yX12_feed ∈ lw_g := lw_g_of (lw_t6 _ (List.mem_of_getElem? (i := 151) rfl)) rfl
theorem kc_X12_feed : Cond.code yX12_feed cX12_feed 6 (some .int) ∈ lw_g := lw_g_of (lw_t6 _ (List.mem_of_getElem? (i := 152) rfl)) rfl
theorem ml_X12_202 : Cond.methodLink RX12 202 yX12_put ∈ lw_g := lw_g_of (lw_t6 _ (List.mem_of_getElem? (i := 153) rfl)) rfl
theorem im_X12_put : Cond.instanceMethod yX12_put ∈ lw_g := lw_g_of (lw_t6 _ (List.mem_of_getElem? (i := 155) rfl)) rfl
theorem kc_X12_put : Cond.code yX12_put cX12_put 3 (none) ∈ lw_g := lw_g_of (lw_t6 _ (List.mem_of_getElem? (i := 156) rfl)) rfl
theorem ml_L_22 : Cond.methodLink RL 22 yX12_back ∈ lw_g := lw_g_of (lw_t6 _ (List.mem_of_getElem? (i := 157) rfl)) rfl
theorem im_X12_back : Cond.instanceMethod yX12_back ∈ lw_g := lw_g_of (lw_t6 _ (List.mem_of_getElem? (i := 158) rfl)) rfl
theorem sl_X12_back : Cond.selects RX12 yX12_back yX12_back ∈ lw_g := lw_g_of (lw_t6 _ (List.mem_of_getElem? (i := 159) rfl)) rfl
theorem kc_X12_back : Cond.code yX12_back cX12_back 2 (some .int) ∈ lw_g := lw_g_of (lw_t6 _ (List.mem_of_getElem? (i := 160) rfl)) rfl
theorem ml_L_27 : Cond.methodLink RL 27 yX12_read ∈ lw_g := lw_g_of (lw_t6 _ (List.mem_of_getElem? (i := 161) rfl)) rfl
theorem im_X12_read : Cond.instanceMethod yX12_read ∈ lw_g := lw_g_of (lw_t6 _ (List.mem_of_getElem? (i := 162) rfl)) rfl
theorem sl_X12_read : Cond.selects RX12 yX12_read yX12_read ∈ lw_g := lw_g_of (lw_t6 _ (List.mem_of_getElem? (i := 163) rfl)) rfl
theorem kc_X12_read : Cond.code yX12_read cX12_read 2 (some .int) ∈ lw_g := lw_g_of (lw_t6 _ (List.mem_of_getElem? (i := 164) rfl)) rfl
theorem ml_X12_260 : Cond.methodLink RX12 260 yX12_cut ∈ lw_g := lw_g_of (lw_t6 _ (List.mem_of_getElem? (i := 165) rfl)) rfl
theorem im_X12_cut : Cond.instanceMethod yX12_cut ∈ lw_g := lw_g_of (lw_t6 _ (List.mem_of_getElem? (i := 167) rfl)) rfl
theorem kc_X12_cut : Cond.code yX12_cut cX12_cut 8 (none) ∈ lw_g := lw_g_of (lw_t6 _ (List.mem_of_getElem? (i := 168) rfl)) rfl
theorem ml_X12_217 : Cond.methodLink RX12 217 yX12_byteAt ∈ lw_g := lw_g_of (lw_t6 _ (List.mem_of_getElem? (i := 169) rfl)) rfl
theorem im_X12_byteAt : Cond.instanceMethod yX12_byteAt ∈ lw_g := lw_g_of (lw_t6 _ (List.mem_of_getElem? (i := 171) rfl)) rfl
theorem kc_X12_byteAt : Cond.code yX12_byteAt cX12_byteAt 2 (some .int) ∈ lw_g := lw_g_of (lw_t6 _ (List.mem_of_getElem? (i := 172) rfl)) rfl
theorem ml_X12_221 : Cond.methodLink RX12 221 yX12_token ∈ lw_g := lw_g_of (lw_t6 _ (List.mem_of_getElem? (i := 173) rfl)) rfl
theorem im_X12_token : Cond.instanceMethod yX12_token ∈ lw_g := lw_g_of (lw_t6 _ (List.mem_of_getElem? (i := 175) rfl)) rfl
theorem kc_X12_token : Cond.code yX12_token cX12_token 6 (none) ∈ lw_g := lw_g_of (lw_t6 _ (List.mem_of_getElem? (i := 176) rfl)) rfl
theorem ml_X12_225 : Cond.methodLink RX12 225 yX12_isLetter ∈ lw_g := lw_g_of (lw_t6 _ (List.mem_of_getElem? (i := 177) rfl)) rfl
theorem sm_X12_isLetter : Cond.static yX12_isLetter ∈ lw_g := lw_g_of (lw_t6 _ (List.mem_of_getElem? (i := 178) rfl)) rfl
theorem kc_X12_isLetter : Cond.code yX12_isLetter cX12_isLetter 1 (some .boolean) ∈ lw_g := lw_g_of (lw_t6 _ (List.mem_of_getElem? (i := 179) rfl)) rfl
theorem ml_X12_229 : Cond.methodLink RX12 229 yX12_isDigit ∈ lw_g := lw_g_of (lw_t6 _ (List.mem_of_getElem? (i := 180) rfl)) rfl
theorem sm_X12_isDigit : Cond.static yX12_isDigit ∈ lw_g := lw_g_of (lw_t6 _ (List.mem_of_getElem? (i := 181) rfl)) rfl
theorem kc_X12_isDigit : Cond.code yX12_isDigit cX12_isDigit 1 (some .boolean) ∈ lw_g := lw_g_of (lw_t6 _ (List.mem_of_getElem? (i := 182) rfl)) rfl
theorem ml_X12_232 : Cond.methodLink RX12 232 yX12_sign ∈ lw_g := lw_g_of (lw_t6 _ (List.mem_of_getElem? (i := 183) rfl)) rfl
theorem im_X12_sign : Cond.instanceMethod yX12_sign ∈ lw_g := lw_g_of (lw_t6 _ (List.mem_of_getElem? (i := 185) rfl)) rfl
theorem kc_X12_sign : Cond.code yX12_sign cX12_sign 5 (some .int) ∈ lw_g := lw_g_of (lw_t6 _ (List.mem_of_getElem? (i := 186) rfl)) rfl
theorem ml_X12_254 : Cond.methodLink RX12 254 yX12_is ∈ lw_g := lw_g_of (lw_t6 _ (List.mem_of_getElem? (i := 187) rfl)) rfl
theorem im_X12_is : Cond.instanceMethod yX12_is ∈ lw_g := lw_g_of (lw_t6 _ (List.mem_of_getElem? (i := 189) rfl)) rfl
theorem kc_X12_is : Cond.code yX12_is cX12_is 2 (some .boolean) ∈ lw_g := lw_g_of (lw_t6 _ (List.mem_of_getElem? (i := 190) rfl)) rfl
theorem ml_X12_281 : Cond.methodLink RX12 281 yX12_tellOne ∈ lw_g := lw_g_of (lw_t6 _ (List.mem_of_getElem? (i := 191) rfl)) rfl
theorem im_X12_tellOne : Cond.instanceMethod yX12_tellOne ∈ lw_g := lw_g_of (lw_t6 _ (List.mem_of_getElem? (i := 193) rfl)) rfl
theorem kc_X12_tellOne : Cond.code yX12_tellOne cX12_tellOne 2 (none) ∈ lw_g := lw_g_of (lw_t6 _ (List.mem_of_getElem? (i := 194) rfl)) rfl
theorem ml_X12_293 : Cond.methodLink RX12 293 yX12_roomFor ∈ lw_g := lw_g_of (lw_t6 _ (List.mem_of_getElem? (i := 195) rfl)) rfl
theorem im_X12_roomFor : Cond.instanceMethod yX12_roomFor ∈ lw_g := lw_g_of (lw_t6 _ (List.mem_of_getElem? (i := 197) rfl)) rfl
theorem kc_X12_roomFor : Cond.code yX12_roomFor cX12_roomFor 3 (none) ∈ lw_g := lw_g_of (lw_t6 _ (List.mem_of_getElem? (i := 198) rfl)) rfl
theorem ml_X12_251 : Cond.methodLink RX12 251 yX12_fail ∈ lw_g := lw_g_of (lw_t6 _ (List.mem_of_getElem? (i := 199) rfl)) rfl
theorem im_X12_fail : Cond.instanceMethod yX12_fail ∈ lw_g := lw_g_of (lw_t6 _ (List.mem_of_getElem? (i := 201) rfl)) rfl
theorem kc_X12_fail : Cond.code yX12_fail cX12_fail 2 (none) ∈ lw_g := lw_g_of (lw_t6 _ (List.mem_of_getElem? (i := 202) rfl)) rfl
theorem ml_X12_257 : Cond.methodLink RX12 257 yX12_goesOn ∈ lw_g := lw_g_of (lw_t6 _ (List.mem_of_getElem? (i := 203) rfl)) rfl
theorem im_X12_goesOn : Cond.instanceMethod yX12_goesOn ∈ lw_g := lw_g_of (lw_t6 _ (List.mem_of_getElem? (i := 205) rfl)) rfl
theorem kc_X12_goesOn : Cond.code yX12_goesOn cX12_goesOn 1 (none) ∈ lw_g := lw_g_of (lw_t6 _ (List.mem_of_getElem? (i := 206) rfl)) rfl
theorem ml_X12_297 : Cond.methodLink RX12 297 yX12_tellMan ∈ lw_g := lw_g_of (lw_t6 _ (List.mem_of_getElem? (i := 207) rfl)) rfl
theorem im_X12_tellMan : Cond.instanceMethod yX12_tellMan ∈ lw_g := lw_g_of (lw_t6 _ (List.mem_of_getElem? (i := 209) rfl)) rfl
theorem kc_X12_tellMan : Cond.code yX12_tellMan cX12_tellMan 3 (none) ∈ lw_g := lw_g_of (lw_t6 _ (List.mem_of_getElem? (i := 210) rfl)) rfl
theorem ml_X12_325 : Cond.methodLink RX12 325 yX12_named ∈ lw_g := lw_g_of (lw_t6 _ (List.mem_of_getElem? (i := 211) rfl)) rfl
theorem im_X12_named : Cond.instanceMethod yX12_named ∈ lw_g := lw_g_of (lw_t6 _ (List.mem_of_getElem? (i := 213) rfl)) rfl
theorem kc_X12_named : Cond.code yX12_named cX12_named 3 (some .int) ∈ lw_g := lw_g_of (lw_t6 _ (List.mem_of_getElem? (i := 214) rfl)) rfl
theorem ml_X12_316 : Cond.methodLink RX12 316 yX12_must ∈ lw_g := lw_g_of (lw_t6 _ (List.mem_of_getElem? (i := 215) rfl)) rfl
theorem im_X12_must : Cond.instanceMethod yX12_must ∈ lw_g := lw_g_of (lw_t6 _ (List.mem_of_getElem? (i := 217) rfl)) rfl
theorem kc_X12_must : Cond.code yX12_must cX12_must 2 (none) ∈ lw_g := lw_g_of (lw_t6 _ (List.mem_of_getElem? (i := 218) rfl)) rfl
theorem ml_X12_322 : Cond.methodLink RX12 322 yX12_wrong ∈ lw_g := lw_g_of (lw_t6 _ (List.mem_of_getElem? (i := 219) rfl)) rfl
theorem im_X12_wrong : Cond.instanceMethod yX12_wrong ∈ lw_g := lw_g_of (lw_t6 _ (List.mem_of_getElem? (i := 221) rfl)) rfl
theorem kc_X12_wrong : Cond.code yX12_wrong cX12_wrong 4 (none) ∈ lw_g := lw_g_of (lw_t6 _ (List.mem_of_getElem? (i := 222) rfl)) rfl
theorem ml_X12_312 : Cond.methodLink RX12 312 yX12_bounded ∈ lw_g := lw_g_of (lw_t6 _ (List.mem_of_getElem? (i := 223) rfl)) rfl
theorem im_X12_bounded : Cond.instanceMethod yX12_bounded ∈ lw_g := lw_g_of (lw_t6 _ (List.mem_of_getElem? (i := 225) rfl)) rfl
theorem kc_X12_bounded : Cond.code yX12_bounded cX12_bounded 4 (some .int) ∈ lw_g := lw_g_of (lw_t6 _ (List.mem_of_getElem? (i := 226) rfl)) rfl
theorem ml_X12_329 : Cond.methodLink RX12 329 yX12_notes ∈ lw_g := lw_g_of (lw_t6 _ (List.mem_of_getElem? (i := 227) rfl)) rfl
theorem im_X12_notes : Cond.instanceMethod yX12_notes ∈ lw_g := lw_g_of (lw_t6 _ (List.mem_of_getElem? (i := 229) rfl)) rfl
theorem kc_X12_notes : Cond.code yX12_notes cX12_notes 4 (none) ∈ lw_g := lw_g_of (lw_t6 _ (List.mem_of_getElem? (i := 230) rfl)) rfl
theorem ml_X12_300 : Cond.methodLink RX12 300 yX12_tellExcuse ∈ lw_g := lw_g_of (lw_t6 _ (List.mem_of_getElem? (i := 231) rfl)) rfl
theorem im_X12_tellExcuse : Cond.instanceMethod yX12_tellExcuse ∈ lw_g := lw_g_of (lw_t6 _ (List.mem_of_getElem? (i := 233) rfl)) rfl
theorem kc_X12_tellExcuse : Cond.code yX12_tellExcuse cX12_tellExcuse 3 (none) ∈ lw_g := lw_g_of (lw_t6 _ (List.mem_of_getElem? (i := 234) rfl)) rfl
theorem ml_X12_303 : Cond.methodLink RX12 303 yX12_tellDuty ∈ lw_g := lw_g_of (lw_t6 _ (List.mem_of_getElem? (i := 235) rfl)) rfl
theorem im_X12_tellDuty : Cond.instanceMethod yX12_tellDuty ∈ lw_g := lw_g_of (lw_t6 _ (List.mem_of_getElem? (i := 237) rfl)) rfl
theorem kc_X12_tellDuty : Cond.code yX12_tellDuty cX12_tellDuty 3 (none) ∈ lw_g := lw_g_of (lw_t6 _ (List.mem_of_getElem? (i := 238) rfl)) rfl
theorem ml_X12_333 : Cond.methodLink RX12 333 yX12_known ∈ lw_g := lw_g_of (lw_t6 _ (List.mem_of_getElem? (i := 239) rfl)) rfl
theorem im_X12_known : Cond.instanceMethod yX12_known ∈ lw_g := lw_g_of (lw_t7 _ (List.mem_of_getElem? (i := 1) rfl)) rfl
theorem kc_X12_known : Cond.code yX12_known cX12_known 4 (some .int) ∈ lw_g := lw_g_of (lw_t7 _ (List.mem_of_getElem? (i := 2) rfl)) rfl
theorem ml_X12_306 : Cond.methodLink RX12 306 yX12_tellKnows ∈ lw_g := lw_g_of (lw_t7 _ (List.mem_of_getElem? (i := 3) rfl)) rfl
theorem im_X12_tellKnows : Cond.instanceMethod yX12_tellKnows ∈ lw_g := lw_g_of (lw_t7 _ (List.mem_of_getElem? (i := 5) rfl)) rfl
theorem kc_X12_tellKnows : Cond.code yX12_tellKnows cX12_tellKnows 4 (none) ∈ lw_g := lw_g_of (lw_t7 _ (List.mem_of_getElem? (i := 6) rfl)) rfl
theorem ml_X12_309 : Cond.methodLink RX12 309 yX12_tellTest ∈ lw_g := lw_g_of (lw_t7 _ (List.mem_of_getElem? (i := 7) rfl)) rfl
theorem im_X12_tellTest : Cond.instanceMethod yX12_tellTest ∈ lw_g := lw_g_of (lw_t7 _ (List.mem_of_getElem? (i := 9) rfl)) rfl
theorem kc_X12_tellTest : Cond.code yX12_tellTest cX12_tellTest 5 (none) ∈ lw_g := lw_g_of (lw_t7 _ (List.mem_of_getElem? (i := 10) rfl)) rfl
theorem ml_X12_319 : Cond.methodLink RX12 319 yX12_tellLaw ∈ lw_g := lw_g_of (lw_t7 _ (List.mem_of_getElem? (i := 11) rfl)) rfl
theorem im_X12_tellLaw : Cond.instanceMethod yX12_tellLaw ∈ lw_g := lw_g_of (lw_t7 _ (List.mem_of_getElem? (i := 13) rfl)) rfl
theorem kc_X12_tellLaw : Cond.code yX12_tellLaw cX12_tellLaw 4 (none) ∈ lw_g := lw_g_of (lw_t7 _ (List.mem_of_getElem? (i := 14) rfl)) rfl
theorem ml_X12_336 : Cond.methodLink RX12 336 yX12_expression ∈ lw_g := lw_g_of (lw_t7 _ (List.mem_of_getElem? (i := 15) rfl)) rfl
theorem im_X12_expression : Cond.instanceMethod yX12_expression ∈ lw_g := lw_g_of (lw_t7 _ (List.mem_of_getElem? (i := 17) rfl)) rfl
theorem kc_X12_expression : Cond.code yX12_expression cX12_expression 3 (none) ∈ lw_g := lw_g_of (lw_t7 _ (List.mem_of_getElem? (i := 18) rfl)) rfl
theorem ml_X12_348 : Cond.methodLink RX12 348 yX12_unit ∈ lw_g := lw_g_of (lw_t7 _ (List.mem_of_getElem? (i := 19) rfl)) rfl
theorem im_X12_unit : Cond.instanceMethod yX12_unit ∈ lw_g := lw_g_of (lw_t7 _ (List.mem_of_getElem? (i := 21) rfl)) rfl
theorem kc_X12_unit : Cond.code yX12_unit cX12_unit 1 (none) ∈ lw_g := lw_g_of (lw_t7 _ (List.mem_of_getElem? (i := 22) rfl)) rfl
theorem ml_X12_345 : Cond.methodLink RX12 345 yX12_emit ∈ lw_g := lw_g_of (lw_t7 _ (List.mem_of_getElem? (i := 23) rfl)) rfl
theorem im_X12_emit : Cond.instanceMethod yX12_emit ∈ lw_g := lw_g_of (lw_t7 _ (List.mem_of_getElem? (i := 25) rfl)) rfl
theorem kc_X12_emit : Cond.code yX12_emit cX12_emit 3 (none) ∈ lw_g := lw_g_of (lw_t7 _ (List.mem_of_getElem? (i := 26) rfl)) rfl
theorem ml_X12_351 : Cond.methodLink RX12 351 yX12_comesOut ∈ lw_g := lw_g_of (lw_t7 _ (List.mem_of_getElem? (i := 27) rfl)) rfl
theorem im_X12_comesOut : Cond.instanceMethod yX12_comesOut ∈ lw_g := lw_g_of (lw_t7 _ (List.mem_of_getElem? (i := 29) rfl)) rfl
theorem kc_X12_comesOut : Cond.code yX12_comesOut cX12_comesOut 3 (none) ∈ lw_g := lw_g_of (lw_t7 _ (List.mem_of_getElem? (i := 30) rfl)) rfl
theorem ml_X12_339 : Cond.methodLink RX12 339 yX12_term ∈ lw_g := lw_g_of (lw_t7 _ (List.mem_of_getElem? (i := 31) rfl)) rfl
theorem im_X12_term : Cond.instanceMethod yX12_term ∈ lw_g := lw_g_of (lw_t7 _ (List.mem_of_getElem? (i := 33) rfl)) rfl
theorem kc_X12_term : Cond.code yX12_term cX12_term 1 (none) ∈ lw_g := lw_g_of (lw_t7 _ (List.mem_of_getElem? (i := 34) rfl)) rfl
theorem ml_L_31 : Cond.methodLink RL 31 yX12_place ∈ lw_g := lw_g_of (lw_t7 _ (List.mem_of_getElem? (i := 35) rfl)) rfl
theorem im_X12_place : Cond.instanceMethod yX12_place ∈ lw_g := lw_g_of (lw_t7 _ (List.mem_of_getElem? (i := 36) rfl)) rfl
theorem sl_X12_place : Cond.selects RX12 yX12_place yX12_place ∈ lw_g := lw_g_of (lw_t7 _ (List.mem_of_getElem? (i := 37) rfl)) rfl
theorem kc_X12_place : Cond.code yX12_place cX12_place 1 (some .int) ∈ lw_g := lw_g_of (lw_t7 _ (List.mem_of_getElem? (i := 38) rfl)) rfl
theorem ml_L_36 : Cond.methodLink RL 36 yX12_man ∈ lw_g := lw_g_of (lw_t7 _ (List.mem_of_getElem? (i := 39) rfl)) rfl
theorem im_X12_man : Cond.instanceMethod yX12_man ∈ lw_g := lw_g_of (lw_t7 _ (List.mem_of_getElem? (i := 40) rfl)) rfl
theorem sl_X12_man : Cond.selects RX12 yX12_man yX12_man ∈ lw_g := lw_g_of (lw_t7 _ (List.mem_of_getElem? (i := 41) rfl)) rfl
theorem kc_X12_man : Cond.code yX12_man cX12_man 5 (some .int) ∈ lw_g := lw_g_of (lw_t7 _ (List.mem_of_getElem? (i := 42) rfl)) rfl
theorem ml_X12_425 : Cond.methodLink RX12 425 yX12_isMan ∈ lw_g := lw_g_of (lw_t7 _ (List.mem_of_getElem? (i := 43) rfl)) rfl
theorem im_X12_isMan : Cond.instanceMethod yX12_isMan ∈ lw_g := lw_g_of (lw_t7 _ (List.mem_of_getElem? (i := 45) rfl)) rfl
theorem kc_X12_isMan : Cond.code yX12_isMan cX12_isMan 2 (some .boolean) ∈ lw_g := lw_g_of (lw_t7 _ (List.mem_of_getElem? (i := 46) rfl)) rfl
theorem ml_X12_359 : Cond.methodLink RX12 359 yX12_in ∈ lw_g := lw_g_of (lw_t7 _ (List.mem_of_getElem? (i := 47) rfl)) rfl
theorem sm_X12_in : Cond.static yX12_in ∈ lw_g := lw_g_of (lw_t7 _ (List.mem_of_getElem? (i := 48) rfl)) rfl
theorem kc_X12_in : Cond.code yX12_in cX12_in 3 (some .boolean) ∈ lw_g := lw_g_of (lw_t7 _ (List.mem_of_getElem? (i := 49) rfl)) rfl
theorem ml_X12_373 : Cond.methodLink RX12 373 yX12_manOf ∈ lw_g := lw_g_of (lw_t7 _ (List.mem_of_getElem? (i := 50) rfl)) rfl
theorem im_X12_manOf : Cond.instanceMethod yX12_manOf ∈ lw_g := lw_g_of (lw_t7 _ (List.mem_of_getElem? (i := 52) rfl)) rfl
theorem kc_X12_manOf : Cond.code yX12_manOf cX12_manOf 2 (some .int) ∈ lw_g := lw_g_of (lw_t7 _ (List.mem_of_getElem? (i := 53) rfl)) rfl
theorem ml_L_40 : Cond.methodLink RL 40 yX12_excuse ∈ lw_g := lw_g_of (lw_t7 _ (List.mem_of_getElem? (i := 54) rfl)) rfl
theorem im_X12_excuse : Cond.instanceMethod yX12_excuse ∈ lw_g := lw_g_of (lw_t7 _ (List.mem_of_getElem? (i := 55) rfl)) rfl
theorem sl_X12_excuse : Cond.selects RX12 yX12_excuse yX12_excuse ∈ lw_g := lw_g_of (lw_t7 _ (List.mem_of_getElem? (i := 56) rfl)) rfl
theorem kc_X12_excuse : Cond.code yX12_excuse cX12_excuse 5 (some .int) ∈ lw_g := lw_g_of (lw_t7 _ (List.mem_of_getElem? (i := 57) rfl)) rfl
theorem ml_X12_428 : Cond.methodLink RX12 428 yX12_isExcuse ∈ lw_g := lw_g_of (lw_t7 _ (List.mem_of_getElem? (i := 58) rfl)) rfl
theorem im_X12_isExcuse : Cond.instanceMethod yX12_isExcuse ∈ lw_g := lw_g_of (lw_t7 _ (List.mem_of_getElem? (i := 60) rfl)) rfl
theorem kc_X12_isExcuse : Cond.code yX12_isExcuse cX12_isExcuse 2 (some .boolean) ∈ lw_g := lw_g_of (lw_t7 _ (List.mem_of_getElem? (i := 61) rfl)) rfl
theorem ml_X12_431 : Cond.methodLink RX12 431 yX12_hasNow ∈ lw_g := lw_g_of (lw_t7 _ (List.mem_of_getElem? (i := 62) rfl)) rfl
theorem im_X12_hasNow : Cond.instanceMethod yX12_hasNow ∈ lw_g := lw_g_of (lw_t7 _ (List.mem_of_getElem? (i := 64) rfl)) rfl
theorem kc_X12_hasNow : Cond.code yX12_hasNow cX12_hasNow 2 (some .int) ∈ lw_g := lw_g_of (lw_t7 _ (List.mem_of_getElem? (i := 65) rfl)) rfl
theorem ml_L_44 : Cond.methodLink RL 44 yX12_duty ∈ lw_g := lw_g_of (lw_t7 _ (List.mem_of_getElem? (i := 66) rfl)) rfl
theorem im_X12_duty : Cond.instanceMethod yX12_duty ∈ lw_g := lw_g_of (lw_t7 _ (List.mem_of_getElem? (i := 67) rfl)) rfl
theorem sl_X12_duty : Cond.selects RX12 yX12_duty yX12_duty ∈ lw_g := lw_g_of (lw_t7 _ (List.mem_of_getElem? (i := 68) rfl)) rfl
theorem kc_X12_duty : Cond.code yX12_duty cX12_duty 3 (some .int) ∈ lw_g := lw_g_of (lw_t7 _ (List.mem_of_getElem? (i := 69) rfl)) rfl
theorem ml_X12_434 : Cond.methodLink RX12 434 yX12_isDuty ∈ lw_g := lw_g_of (lw_t7 _ (List.mem_of_getElem? (i := 70) rfl)) rfl
theorem im_X12_isDuty : Cond.instanceMethod yX12_isDuty ∈ lw_g := lw_g_of (lw_t7 _ (List.mem_of_getElem? (i := 72) rfl)) rfl
theorem kc_X12_isDuty : Cond.code yX12_isDuty cX12_isDuty 2 (some .boolean) ∈ lw_g := lw_g_of (lw_t7 _ (List.mem_of_getElem? (i := 73) rfl)) rfl
theorem ml_X12_376 : Cond.methodLink RX12 376 yX12_dayOf ∈ lw_g := lw_g_of (lw_t7 _ (List.mem_of_getElem? (i := 74) rfl)) rfl
theorem im_X12_dayOf : Cond.instanceMethod yX12_dayOf ∈ lw_g := lw_g_of (lw_t7 _ (List.mem_of_getElem? (i := 76) rfl)) rfl
theorem kc_X12_dayOf : Cond.code yX12_dayOf cX12_dayOf 2 (some .int) ∈ lw_g := lw_g_of (lw_t7 _ (List.mem_of_getElem? (i := 77) rfl)) rfl
theorem ml_L_49 : Cond.methodLink RL 49 yX12_told ∈ lw_g := lw_g_of (lw_t7 _ (List.mem_of_getElem? (i := 78) rfl)) rfl
theorem im_X12_told : Cond.instanceMethod yX12_told ∈ lw_g := lw_g_of (lw_t7 _ (List.mem_of_getElem? (i := 79) rfl)) rfl
theorem sl_X12_told : Cond.selects RX12 yX12_told yX12_told ∈ lw_g := lw_g_of (lw_t7 _ (List.mem_of_getElem? (i := 80) rfl)) rfl
theorem kc_X12_told : Cond.code yX12_told cX12_told 4 (some .int) ∈ lw_g := lw_g_of (lw_t7 _ (List.mem_of_getElem? (i := 81) rfl)) rfl
theorem ml_X12_437 : Cond.methodLink RX12 437 yX12_copies ∈ lw_g := lw_g_of (lw_t7 _ (List.mem_of_getElem? (i := 82) rfl)) rfl
theorem im_X12_copies : Cond.instanceMethod yX12_copies ∈ lw_g := lw_g_of (lw_t7 _ (List.mem_of_getElem? (i := 84) rfl)) rfl
theorem kc_X12_copies : Cond.code yX12_copies cX12_copies 2 (none) ∈ lw_g := lw_g_of (lw_t7 _ (List.mem_of_getElem? (i := 85) rfl)) rfl
theorem ml_X12_382 : Cond.methodLink RX12 382 yX12_toldLast ∈ lw_g := lw_g_of (lw_t7 _ (List.mem_of_getElem? (i := 86) rfl)) rfl
theorem im_X12_toldLast : Cond.instanceMethod yX12_toldLast ∈ lw_g := lw_g_of (lw_t7 _ (List.mem_of_getElem? (i := 88) rfl)) rfl
theorem kc_X12_toldLast : Cond.code yX12_toldLast cX12_toldLast 5 (some .int) ∈ lw_g := lw_g_of (lw_t7 _ (List.mem_of_getElem? (i := 89) rfl)) rfl
theorem ml_X12_385 : Cond.methodLink RX12 385 yX12_toldTimes ∈ lw_g := lw_g_of (lw_t7 _ (List.mem_of_getElem? (i := 90) rfl)) rfl
theorem im_X12_toldTimes : Cond.instanceMethod yX12_toldTimes ∈ lw_g := lw_g_of (lw_t7 _ (List.mem_of_getElem? (i := 92) rfl)) rfl
theorem kc_X12_toldTimes : Cond.code yX12_toldTimes cX12_toldTimes 5 (some .int) ∈ lw_g := lw_g_of (lw_t7 _ (List.mem_of_getElem? (i := 93) rfl)) rfl
theorem ml_L_53 : Cond.methodLink RL 53 yX12_rains ∈ lw_g := lw_g_of (lw_t7 _ (List.mem_of_getElem? (i := 94) rfl)) rfl
theorem im_X12_rains : Cond.instanceMethod yX12_rains ∈ lw_g := lw_g_of (lw_t7 _ (List.mem_of_getElem? (i := 95) rfl)) rfl
theorem sl_X12_rains : Cond.selects RX12 yX12_rains yX12_rains ∈ lw_g := lw_g_of (lw_t7 _ (List.mem_of_getElem? (i := 96) rfl)) rfl
theorem kc_X12_rains : Cond.code yX12_rains cX12_rains 2 (some .int) ∈ lw_g := lw_g_of (lw_t7 _ (List.mem_of_getElem? (i := 97) rfl)) rfl
theorem ml_X12_388 : Cond.methodLink RX12 388 yX12_isWet ∈ lw_g := lw_g_of (lw_t7 _ (List.mem_of_getElem? (i := 98) rfl)) rfl
theorem im_X12_isWet : Cond.instanceMethod yX12_isWet ∈ lw_g := lw_g_of (lw_t7 _ (List.mem_of_getElem? (i := 100) rfl)) rfl
theorem kc_X12_isWet : Cond.code yX12_isWet cX12_isWet 2 (some .boolean) ∈ lw_g := lw_g_of (lw_t7 _ (List.mem_of_getElem? (i := 101) rfl)) rfl
theorem ml_X12_370 : Cond.methodLink RX12 370 yX12_lotOf ∈ lw_g := lw_g_of (lw_t7 _ (List.mem_of_getElem? (i := 102) rfl)) rfl
theorem im_X12_lotOf : Cond.instanceMethod yX12_lotOf ∈ lw_g := lw_g_of (lw_t7 _ (List.mem_of_getElem? (i := 104) rfl)) rfl
theorem kc_X12_lotOf : Cond.code yX12_lotOf cX12_lotOf 3 (some .int) ∈ lw_g := lw_g_of (lw_t7 _ (List.mem_of_getElem? (i := 105) rfl)) rfl
theorem ml_X12_367 : Cond.methodLink RX12 367 yX12_mixed ∈ lw_g := lw_g_of (lw_t7 _ (List.mem_of_getElem? (i := 106) rfl)) rfl
theorem sm_X12_mixed : Cond.static yX12_mixed ∈ lw_g := lw_g_of (lw_t7 _ (List.mem_of_getElem? (i := 107) rfl)) rfl
theorem kc_X12_mixed : Cond.code yX12_mixed cX12_mixed 3 (some .int) ∈ lw_g := lw_g_of (lw_t7 _ (List.mem_of_getElem? (i := 108) rfl)) rfl
theorem kn_X12_366 : Cond.constant RX12 366 (1103515245) ∈ lw_g := lw_g_of (lw_t7 _ (List.mem_of_getElem? (i := 109) rfl)) rfl
theorem ml_L_57 : Cond.methodLink RL 57 yX12_buy ∈ lw_g := lw_g_of (lw_t7 _ (List.mem_of_getElem? (i := 110) rfl)) rfl
theorem im_X12_buy : Cond.instanceMethod yX12_buy ∈ lw_g := lw_g_of (lw_t7 _ (List.mem_of_getElem? (i := 111) rfl)) rfl
theorem sl_X12_buy : Cond.selects RX12 yX12_buy yX12_buy ∈ lw_g := lw_g_of (lw_t7 _ (List.mem_of_getElem? (i := 112) rfl)) rfl
theorem kc_X12_buy : Cond.code yX12_buy cX12_buy 3 (some .int) ∈ lw_g := lw_g_of (lw_t7 _ (List.mem_of_getElem? (i := 113) rfl)) rfl
theorem ml_X12_440 : Cond.methodLink RX12 440 yX12_keeps ∈ lw_g := lw_g_of (lw_t7 _ (List.mem_of_getElem? (i := 114) rfl)) rfl
theorem im_X12_keeps : Cond.instanceMethod yX12_keeps ∈ lw_g := lw_g_of (lw_t7 _ (List.mem_of_getElem? (i := 116) rfl)) rfl
theorem kc_X12_keeps : Cond.code yX12_keeps cX12_keeps 2 (none) ∈ lw_g := lw_g_of (lw_t7 _ (List.mem_of_getElem? (i := 117) rfl)) rfl
theorem ml_L_61 : Cond.methodLink RL 61 yX12_sell ∈ lw_g := lw_g_of (lw_t7 _ (List.mem_of_getElem? (i := 118) rfl)) rfl
theorem im_X12_sell : Cond.instanceMethod yX12_sell ∈ lw_g := lw_g_of (lw_t7 _ (List.mem_of_getElem? (i := 119) rfl)) rfl
theorem sl_X12_sell : Cond.selects RX12 yX12_sell yX12_sell ∈ lw_g := lw_g_of (lw_t7 _ (List.mem_of_getElem? (i := 120) rfl)) rfl
theorem kc_X12_sell : Cond.code yX12_sell cX12_sell 2 (some .int) ∈ lw_g := lw_g_of (lw_t7 _ (List.mem_of_getElem? (i := 121) rfl)) rfl
theorem ml_L_66 : Cond.methodLink RL 66 yX12_plan ∈ lw_g := lw_g_of (lw_t7 _ (List.mem_of_getElem? (i := 122) rfl)) rfl
theorem im_X12_plan : Cond.instanceMethod yX12_plan ∈ lw_g := lw_g_of (lw_t7 _ (List.mem_of_getElem? (i := 123) rfl)) rfl
theorem sl_X12_plan : Cond.selects RX12 yX12_plan yX12_plan ∈ lw_g := lw_g_of (lw_t7 _ (List.mem_of_getElem? (i := 124) rfl)) rfl
theorem kc_X12_plan : Cond.code yX12_plan cX12_plan 4 (some .boolean) ∈ lw_g := lw_g_of (lw_t7 _ (List.mem_of_getElem? (i := 125) rfl)) rfl
theorem ml_L_70 : Cond.methodLink RL 70 yX12_days ∈ lw_g := lw_g_of (lw_t7 _ (List.mem_of_getElem? (i := 126) rfl)) rfl
theorem im_X12_days : Cond.instanceMethod yX12_days ∈ lw_g := lw_g_of (lw_t7 _ (List.mem_of_getElem? (i := 127) rfl)) rfl
theorem sl_X12_days : Cond.selects RX12 yX12_days yX12_days ∈ lw_g := lw_g_of (lw_t7 _ (List.mem_of_getElem? (i := 128) rfl)) rfl
theorem kc_X12_days : Cond.code yX12_days cX12_days 2 (some .int) ∈ lw_g := lw_g_of (lw_t7 _ (List.mem_of_getElem? (i := 129) rfl)) rfl
theorem ml_X12_443 : Cond.methodLink RX12 443 yX12_goes ∈ lw_g := lw_g_of (lw_t7 _ (List.mem_of_getElem? (i := 130) rfl)) rfl
theorem im_X12_goes : Cond.instanceMethod yX12_goes ∈ lw_g := lw_g_of (lw_t7 _ (List.mem_of_getElem? (i := 132) rfl)) rfl
theorem kc_X12_goes : Cond.code yX12_goes cX12_goes 3 (none) ∈ lw_g := lw_g_of (lw_t7 _ (List.mem_of_getElem? (i := 133) rfl)) rfl
theorem ml_X12_422 : Cond.methodLink RX12 422 yX12_dayGoes ∈ lw_g := lw_g_of (lw_t7 _ (List.mem_of_getElem? (i := 134) rfl)) rfl
theorem im_X12_dayGoes : Cond.instanceMethod yX12_dayGoes ∈ lw_g := lw_g_of (lw_t7 _ (List.mem_of_getElem? (i := 136) rfl)) rfl
theorem kc_X12_dayGoes : Cond.code yX12_dayGoes cX12_dayGoes 2 (none) ∈ lw_g := lw_g_of (lw_t7 _ (List.mem_of_getElem? (i := 137) rfl)) rfl
theorem ml_X12_416 : Cond.methodLink RX12 416 yX12_dutyGoes ∈ lw_g := lw_g_of (lw_t7 _ (List.mem_of_getElem? (i := 138) rfl)) rfl
theorem im_X12_dutyGoes : Cond.instanceMethod yX12_dutyGoes ∈ lw_g := lw_g_of (lw_t7 _ (List.mem_of_getElem? (i := 140) rfl)) rfl
theorem kc_X12_dutyGoes : Cond.code yX12_dutyGoes cX12_dutyGoes 5 (none) ∈ lw_g := lw_g_of (lw_t7 _ (List.mem_of_getElem? (i := 141) rfl)) rfl
theorem ml_X12_407 : Cond.methodLink RX12 407 yX12_passesNow ∈ lw_g := lw_g_of (lw_t7 _ (List.mem_of_getElem? (i := 142) rfl)) rfl
theorem im_X12_passesNow : Cond.instanceMethod yX12_passesNow ∈ lw_g := lw_g_of (lw_t7 _ (List.mem_of_getElem? (i := 144) rfl)) rfl
theorem kc_X12_passesNow : Cond.code yX12_passesNow cX12_passesNow 3 (some .int) ∈ lw_g := lw_g_of (lw_t7 _ (List.mem_of_getElem? (i := 145) rfl)) rfl
theorem ml_X12_401 : Cond.methodLink RX12 401 yX12_looksFor ∈ lw_g := lw_g_of (lw_t7 _ (List.mem_of_getElem? (i := 146) rfl)) rfl
theorem im_X12_looksFor : Cond.instanceMethod yX12_looksFor ∈ lw_g := lw_g_of (lw_t7 _ (List.mem_of_getElem? (i := 148) rfl)) rfl
theorem kc_X12_looksFor : Cond.code yX12_looksFor cX12_looksFor 4 (none) ∈ lw_g := lw_g_of (lw_t7 _ (List.mem_of_getElem? (i := 149) rfl)) rfl
theorem ml_X12_394 : Cond.methodLink RX12 394 yX12_heardBy ∈ lw_g := lw_g_of (lw_t7 _ (List.mem_of_getElem? (i := 150) rfl)) rfl
theorem im_X12_heardBy : Cond.instanceMethod yX12_heardBy ∈ lw_g := lw_g_of (lw_t7 _ (List.mem_of_getElem? (i := 152) rfl)) rfl
theorem kc_X12_heardBy : Cond.code yX12_heardBy cX12_heardBy 6 (some .int) ∈ lw_g := lw_g_of (lw_t7 _ (List.mem_of_getElem? (i := 153) rfl)) rfl
theorem ml_X12_379 : Cond.methodLink RX12 379 yX12_isToldElse ∈ lw_g := lw_g_of (lw_t7 _ (List.mem_of_getElem? (i := 154) rfl)) rfl
theorem im_X12_isToldElse : Cond.instanceMethod yX12_isToldElse ∈ lw_g := lw_g_of (lw_t7 _ (List.mem_of_getElem? (i := 156) rfl)) rfl
theorem kc_X12_isToldElse : Cond.code yX12_isToldElse cX12_isToldElse 5 (some .boolean) ∈ lw_g := lw_g_of (lw_t7 _ (List.mem_of_getElem? (i := 157) rfl)) rfl
theorem ml_X12_397 : Cond.methodLink RX12 397 yX12_looks ∈ lw_g := lw_g_of (lw_t7 _ (List.mem_of_getElem? (i := 158) rfl)) rfl
theorem im_X12_looks : Cond.instanceMethod yX12_looks ∈ lw_g := lw_g_of (lw_t7 _ (List.mem_of_getElem? (i := 160) rfl)) rfl
theorem kc_X12_looks : Cond.code yX12_looks cX12_looks 6 (none) ∈ lw_g := lw_g_of (lw_t7 _ (List.mem_of_getElem? (i := 161) rfl)) rfl
theorem ml_X12_404 : Cond.methodLink RX12 404 yX12_asks ∈ lw_g := lw_g_of (lw_t7 _ (List.mem_of_getElem? (i := 162) rfl)) rfl
theorem im_X12_asks : Cond.instanceMethod yX12_asks ∈ lw_g := lw_g_of (lw_t7 _ (List.mem_of_getElem? (i := 164) rfl)) rfl
theorem kc_X12_asks : Cond.code yX12_asks cX12_asks 8 (some .int) ∈ lw_g := lw_g_of (lw_t7 _ (List.mem_of_getElem? (i := 165) rfl)) rfl
theorem ml_X12_391 : Cond.methodLink RX12 391 yX12_termOf ∈ lw_g := lw_g_of (lw_t7 _ (List.mem_of_getElem? (i := 166) rfl)) rfl
theorem im_X12_termOf : Cond.instanceMethod yX12_termOf ∈ lw_g := lw_g_of (lw_t7 _ (List.mem_of_getElem? (i := 168) rfl)) rfl
theorem kc_X12_termOf : Cond.code yX12_termOf cX12_termOf 8 (some .int) ∈ lw_g := lw_g_of (lw_t7 _ (List.mem_of_getElem? (i := 169) rfl)) rfl
theorem ml_X12_410 : Cond.methodLink RX12 410 yX12_wearsNow ∈ lw_g := lw_g_of (lw_t7 _ (List.mem_of_getElem? (i := 170) rfl)) rfl
theorem im_X12_wearsNow : Cond.instanceMethod yX12_wearsNow ∈ lw_g := lw_g_of (lw_t7 _ (List.mem_of_getElem? (i := 172) rfl)) rfl
theorem kc_X12_wearsNow : Cond.code yX12_wearsNow cX12_wearsNow 3 (some .int) ∈ lw_g := lw_g_of (lw_t7 _ (List.mem_of_getElem? (i := 173) rfl)) rfl
theorem ml_X12_413 : Cond.methodLink RX12 413 yX12_lessTrust ∈ lw_g := lw_g_of (lw_t7 _ (List.mem_of_getElem? (i := 174) rfl)) rfl
theorem im_X12_lessTrust : Cond.instanceMethod yX12_lessTrust ∈ lw_g := lw_g_of (lw_t7 _ (List.mem_of_getElem? (i := 176) rfl)) rfl
theorem kc_X12_lessTrust : Cond.code yX12_lessTrust cX12_lessTrust 3 (none) ∈ lw_g := lw_g_of (lw_t7 _ (List.mem_of_getElem? (i := 177) rfl)) rfl
theorem ml_X12_419 : Cond.methodLink RX12 419 yX12_mendsAll ∈ lw_g := lw_g_of (lw_t7 _ (List.mem_of_getElem? (i := 178) rfl)) rfl
theorem im_X12_mendsAll : Cond.instanceMethod yX12_mendsAll ∈ lw_g := lw_g_of (lw_t7 _ (List.mem_of_getElem? (i := 180) rfl)) rfl
theorem kc_X12_mendsAll : Cond.code yX12_mendsAll cX12_mendsAll 3 (none) ∈ lw_g := lw_g_of (lw_t7 _ (List.mem_of_getElem? (i := 181) rfl)) rfl
theorem ml_L_75 : Cond.methodLink RL 75 yX12_undo ∈ lw_g := lw_g_of (lw_t7 _ (List.mem_of_getElem? (i := 182) rfl)) rfl
theorem im_X12_undo : Cond.instanceMethod yX12_undo ∈ lw_g := lw_g_of (lw_t7 _ (List.mem_of_getElem? (i := 183) rfl)) rfl
theorem sl_X12_undo : Cond.selects RX12 yX12_undo yX12_undo ∈ lw_g := lw_g_of (lw_t7 _ (List.mem_of_getElem? (i := 184) rfl)) rfl
theorem kc_X12_undo : Cond.code yX12_undo cX12_undo 2 (some .boolean) ∈ lw_g := lw_g_of (lw_t7 _ (List.mem_of_getElem? (i := 185) rfl)) rfl
theorem ml_L_79 : Cond.methodLink RL 79 yX12_pass ∈ lw_g := lw_g_of (lw_t7 _ (List.mem_of_getElem? (i := 186) rfl)) rfl
theorem im_X12_pass : Cond.instanceMethod yX12_pass ∈ lw_g := lw_g_of (lw_t7 _ (List.mem_of_getElem? (i := 187) rfl)) rfl
theorem sl_X12_pass : Cond.selects RX12 yX12_pass yX12_pass ∈ lw_g := lw_g_of (lw_t7 _ (List.mem_of_getElem? (i := 188) rfl)) rfl
theorem kc_X12_pass : Cond.code yX12_pass cX12_pass 3 (some .int) ∈ lw_g := lw_g_of (lw_t7 _ (List.mem_of_getElem? (i := 189) rfl)) rfl
theorem ml_L_83 : Cond.methodLink RL 83 yX12_planned ∈ lw_g := lw_g_of (lw_t7 _ (List.mem_of_getElem? (i := 190) rfl)) rfl
theorem im_X12_planned : Cond.instanceMethod yX12_planned ∈ lw_g := lw_g_of (lw_t7 _ (List.mem_of_getElem? (i := 191) rfl)) rfl
theorem sl_X12_planned : Cond.selects RX12 yX12_planned yX12_planned ∈ lw_g := lw_g_of (lw_t7 _ (List.mem_of_getElem? (i := 192) rfl)) rfl
theorem kc_X12_planned : Cond.code yX12_planned cX12_planned 3 (some .int) ∈ lw_g := lw_g_of (lw_t7 _ (List.mem_of_getElem? (i := 193) rfl)) rfl
theorem ml_X12_446 : Cond.methodLink RX12 446 yX12_isLong ∈ lw_g := lw_g_of (lw_t7 _ (List.mem_of_getElem? (i := 194) rfl)) rfl
theorem sm_X12_isLong : Cond.static yX12_isLong ∈ lw_g := lw_g_of (lw_t7 _ (List.mem_of_getElem? (i := 195) rfl)) rfl
theorem kc_X12_isLong : Cond.code yX12_isLong cX12_isLong 1 (some .boolean) ∈ lw_g := lw_g_of (lw_t7 _ (List.mem_of_getElem? (i := 196) rfl)) rfl
theorem ml_X12_449 : Cond.methodLink RX12 449 yX12_moreBy ∈ lw_g := lw_g_of (lw_t7 _ (List.mem_of_getElem? (i := 197) rfl)) rfl
theorem im_X12_moreBy : Cond.instanceMethod yX12_moreBy ∈ lw_g := lw_g_of (lw_t7 _ (List.mem_of_getElem? (i := 199) rfl)) rfl
theorem kc_X12_moreBy : Cond.code yX12_moreBy cX12_moreBy 4 (some .int) ∈ lw_g := lw_g_of (lw_t7 _ (List.mem_of_getElem? (i := 200) rfl)) rfl
theorem ml_L_87 : Cond.methodLink RL 87 yX12_trust ∈ lw_g := lw_g_of (lw_t7 _ (List.mem_of_getElem? (i := 201) rfl)) rfl
theorem im_X12_trust : Cond.instanceMethod yX12_trust ∈ lw_g := lw_g_of (lw_t7 _ (List.mem_of_getElem? (i := 202) rfl)) rfl
theorem sl_X12_trust : Cond.selects RX12 yX12_trust yX12_trust ∈ lw_g := lw_g_of (lw_t7 _ (List.mem_of_getElem? (i := 203) rfl)) rfl
theorem kc_X12_trust : Cond.code yX12_trust cX12_trust 3 (some .int) ∈ lw_g := lw_g_of (lw_t7 _ (List.mem_of_getElem? (i := 204) rfl)) rfl
theorem ml_L_91 : Cond.methodLink RL 91 yX12_year ∈ lw_g := lw_g_of (lw_t7 _ (List.mem_of_getElem? (i := 205) rfl)) rfl
theorem im_X12_year : Cond.instanceMethod yX12_year ∈ lw_g := lw_g_of (lw_t7 _ (List.mem_of_getElem? (i := 206) rfl)) rfl
theorem sl_X12_year : Cond.selects RX12 yX12_year yX12_year ∈ lw_g := lw_g_of (lw_t7 _ (List.mem_of_getElem? (i := 207) rfl)) rfl
theorem kc_X12_year : Cond.code yX12_year cX12_year 5 (some .int) ∈ lw_g := lw_g_of (lw_t7 _ (List.mem_of_getElem? (i := 208) rfl)) rfl
theorem ml_L_95 : Cond.methodLink RL 95 yX12_cheapest ∈ lw_g := lw_g_of (lw_t7 _ (List.mem_of_getElem? (i := 209) rfl)) rfl
theorem im_X12_cheapest : Cond.instanceMethod yX12_cheapest ∈ lw_g := lw_g_of (lw_t7 _ (List.mem_of_getElem? (i := 210) rfl)) rfl
theorem sl_X12_cheapest : Cond.selects RX12 yX12_cheapest yX12_cheapest ∈ lw_g := lw_g_of (lw_t7 _ (List.mem_of_getElem? (i := 211) rfl)) rfl
theorem kc_X12_cheapest : Cond.code yX12_cheapest cX12_cheapest 3 (some .int) ∈ lw_g := lw_g_of (lw_t7 _ (List.mem_of_getElem? (i := 212) rfl)) rfl
theorem ml_X12_476 : Cond.methodLink RX12 476 yX12_isSet ∈ lw_g := lw_g_of (lw_t7 _ (List.mem_of_getElem? (i := 213) rfl)) rfl
theorem im_X12_isSet : Cond.instanceMethod yX12_isSet ∈ lw_g := lw_g_of (lw_t7 _ (List.mem_of_getElem? (i := 215) rfl)) rfl
theorem kc_X12_isSet : Cond.code yX12_isSet cX12_isSet 3 (some .boolean) ∈ lw_g := lw_g_of (lw_t7 _ (List.mem_of_getElem? (i := 216) rfl)) rfl
theorem ml_X12_452 : Cond.methodLink RX12 452 yX12_bits ∈ lw_g := lw_g_of (lw_t7 _ (List.mem_of_getElem? (i := 217) rfl)) rfl
theorem sm_X12_bits : Cond.static yX12_bits ∈ lw_g := lw_g_of (lw_t7 _ (List.mem_of_getElem? (i := 218) rfl)) rfl
theorem kc_X12_bits : Cond.code yX12_bits cX12_bits 3 (some .int) ∈ lw_g := lw_g_of (lw_t7 _ (List.mem_of_getElem? (i := 219) rfl)) rfl
theorem ml_X12_480 : Cond.methodLink RX12 480 yX12_fillsBuy ∈ lw_g := lw_g_of (lw_t7 _ (List.mem_of_getElem? (i := 220) rfl)) rfl
theorem im_X12_fillsBuy : Cond.instanceMethod yX12_fillsBuy ∈ lw_g := lw_g_of (lw_t7 _ (List.mem_of_getElem? (i := 222) rfl)) rfl
theorem kc_X12_fillsBuy : Cond.code yX12_fillsBuy cX12_fillsBuy 5 (none) ∈ lw_g := lw_g_of (lw_t7 _ (List.mem_of_getElem? (i := 223) rfl)) rfl
theorem ml_X12_467 : Cond.methodLink RX12 467 yX12_areToCome ∈ lw_g := lw_g_of (lw_t7 _ (List.mem_of_getElem? (i := 224) rfl)) rfl
theorem im_X12_areToCome : Cond.instanceMethod yX12_areToCome ∈ lw_g := lw_g_of (lw_t7 _ (List.mem_of_getElem? (i := 226) rfl)) rfl
theorem kc_X12_areToCome : Cond.code yX12_areToCome cX12_areToCome 3 (some .boolean) ∈ lw_g := lw_g_of (lw_t7 _ (List.mem_of_getElem? (i := 227) rfl)) rfl
theorem ml_X12_455 : Cond.methodLink RX12 455 yX12_sevens ∈ lw_g := lw_g_of (lw_t7 _ (List.mem_of_getElem? (i := 228) rfl)) rfl
theorem sm_X12_sevens : Cond.static yX12_sevens ∈ lw_g := lw_g_of (lw_t7 _ (List.mem_of_getElem? (i := 229) rfl)) rfl
theorem kc_X12_sevens : Cond.code yX12_sevens cX12_sevens 3 (some .int) ∈ lw_g := lw_g_of (lw_t7 _ (List.mem_of_getElem? (i := 230) rfl)) rfl
theorem ml_X12_470 : Cond.methodLink RX12 470 yX12_coinsBy ∈ lw_g := lw_g_of (lw_t7 _ (List.mem_of_getElem? (i := 231) rfl)) rfl
theorem im_X12_coinsBy : Cond.instanceMethod yX12_coinsBy ∈ lw_g := lw_g_of (lw_t7 _ (List.mem_of_getElem? (i := 233) rfl)) rfl
theorem kc_X12_coinsBy : Cond.code yX12_coinsBy cX12_coinsBy 8 (some .int) ∈ lw_g := lw_g_of (lw_t7 _ (List.mem_of_getElem? (i := 234) rfl)) rfl
theorem ml_X12_458 : Cond.methodLink RX12 458 yX12_excuseIn ∈ lw_g := lw_g_of (lw_t7 _ (List.mem_of_getElem? (i := 235) rfl)) rfl
theorem im_X12_excuseIn : Cond.instanceMethod yX12_excuseIn ∈ lw_g := lw_g_of (lw_t7 _ (List.mem_of_getElem? (i := 237) rfl)) rfl
theorem kc_X12_excuseIn : Cond.code yX12_excuseIn cX12_excuseIn 5 (some .int) ∈ lw_g := lw_g_of (lw_t7 _ (List.mem_of_getElem? (i := 238) rfl)) rfl
theorem ml_X12_473 : Cond.methodLink RX12 473 yX12_isPassing ∈ lw_g := lw_g_of (lw_t7 _ (List.mem_of_getElem? (i := 239) rfl)) rfl
theorem im_X12_isPassing : Cond.instanceMethod yX12_isPassing ∈ lw_g := lw_g_of (lw_t8 _ (List.mem_of_getElem? (i := 1) rfl)) rfl
theorem kc_X12_isPassing : Cond.code yX12_isPassing cX12_isPassing 8 (some .boolean) ∈ lw_g := lw_g_of (lw_t8 _ (List.mem_of_getElem? (i := 2) rfl)) rfl
theorem ml_L_100 : Cond.methodLink RL 100 yX12_cheapestAt ∈ lw_g := lw_g_of (lw_t8 _ (List.mem_of_getElem? (i := 3) rfl)) rfl
theorem im_X12_cheapestAt : Cond.instanceMethod yX12_cheapestAt ∈ lw_g := lw_g_of (lw_t8 _ (List.mem_of_getElem? (i := 4) rfl)) rfl
theorem sl_X12_cheapestAt : Cond.selects RX12 yX12_cheapestAt yX12_cheapestAt ∈ lw_g := lw_g_of (lw_t8 _ (List.mem_of_getElem? (i := 5) rfl)) rfl
theorem kc_X12_cheapestAt : Cond.code yX12_cheapestAt cX12_cheapestAt 4 (some .int) ∈ lw_g := lw_g_of (lw_t8 _ (List.mem_of_getElem? (i := 6) rfl)) rfl
theorem ml_L_104 : Cond.methodLink RL 104 yX12_two ∈ lw_g := lw_g_of (lw_t8 _ (List.mem_of_getElem? (i := 7) rfl)) rfl
theorem im_X12_two : Cond.instanceMethod yX12_two ∈ lw_g := lw_g_of (lw_t8 _ (List.mem_of_getElem? (i := 8) rfl)) rfl
theorem sl_X12_two : Cond.selects RX12 yX12_two yX12_two ∈ lw_g := lw_g_of (lw_t8 _ (List.mem_of_getElem? (i := 9) rfl)) rfl
theorem kc_X12_two : Cond.code yX12_two cX12_two 5 (some .int) ∈ lw_g := lw_g_of (lw_t8 _ (List.mem_of_getElem? (i := 10) rfl)) rfl
theorem ml_X12_483 : Cond.methodLink RX12 483 yX12_areTwo ∈ lw_g := lw_g_of (lw_t8 _ (List.mem_of_getElem? (i := 11) rfl)) rfl
theorem im_X12_areTwo : Cond.instanceMethod yX12_areTwo ∈ lw_g := lw_g_of (lw_t8 _ (List.mem_of_getElem? (i := 13) rfl)) rfl
theorem kc_X12_areTwo : Cond.code yX12_areTwo cX12_areTwo 4 (some .boolean) ∈ lw_g := lw_g_of (lw_t8 _ (List.mem_of_getElem? (i := 14) rfl)) rfl
theorem ml_L_108 : Cond.methodLink RL 108 yX12_rumour ∈ lw_g := lw_g_of (lw_t8 _ (List.mem_of_getElem? (i := 15) rfl)) rfl
theorem im_X12_rumour : Cond.instanceMethod yX12_rumour ∈ lw_g := lw_g_of (lw_t8 _ (List.mem_of_getElem? (i := 16) rfl)) rfl
theorem sl_X12_rumour : Cond.selects RX12 yX12_rumour yX12_rumour ∈ lw_g := lw_g_of (lw_t8 _ (List.mem_of_getElem? (i := 17) rfl)) rfl
theorem kc_X12_rumour : Cond.code yX12_rumour cX12_rumour 8 (some .int) ∈ lw_g := lw_g_of (lw_t8 _ (List.mem_of_getElem? (i := 18) rfl)) rfl
theorem ml_L_112 : Cond.methodLink RL 112 yX12_apart ∈ lw_g := lw_g_of (lw_t8 _ (List.mem_of_getElem? (i := 19) rfl)) rfl
theorem im_X12_apart : Cond.instanceMethod yX12_apart ∈ lw_g := lw_g_of (lw_t8 _ (List.mem_of_getElem? (i := 20) rfl)) rfl
theorem sl_X12_apart : Cond.selects RX12 yX12_apart yX12_apart ∈ lw_g := lw_g_of (lw_t8 _ (List.mem_of_getElem? (i := 21) rfl)) rfl
theorem kc_X12_apart : Cond.code yX12_apart cX12_apart 4 (some .int) ∈ lw_g := lw_g_of (lw_t8 _ (List.mem_of_getElem? (i := 22) rfl)) rfl
theorem ml_X12_486 : Cond.methodLink RX12 486 yX12_areApart ∈ lw_g := lw_g_of (lw_t8 _ (List.mem_of_getElem? (i := 23) rfl)) rfl
theorem im_X12_areApart : Cond.instanceMethod yX12_areApart ∈ lw_g := lw_g_of (lw_t8 _ (List.mem_of_getElem? (i := 25) rfl)) rfl
theorem kc_X12_areApart : Cond.code yX12_areApart cX12_areApart 6 (some .boolean) ∈ lw_g := lw_g_of (lw_t8 _ (List.mem_of_getElem? (i := 26) rfl)) rfl
theorem ml_L_116 : Cond.methodLink RL 116 yX12_sellers ∈ lw_g := lw_g_of (lw_t8 _ (List.mem_of_getElem? (i := 27) rfl)) rfl
theorem im_X12_sellers : Cond.instanceMethod yX12_sellers ∈ lw_g := lw_g_of (lw_t8 _ (List.mem_of_getElem? (i := 28) rfl)) rfl
theorem sl_X12_sellers : Cond.selects RX12 yX12_sellers yX12_sellers ∈ lw_g := lw_g_of (lw_t8 _ (List.mem_of_getElem? (i := 29) rfl)) rfl
theorem kc_X12_sellers : Cond.code yX12_sellers cX12_sellers 8 (some .int) ∈ lw_g := lw_g_of (lw_t8 _ (List.mem_of_getElem? (i := 30) rfl)) rfl
theorem ml_X12_496 : Cond.methodLink RX12 496 yX12_areAsking ∈ lw_g := lw_g_of (lw_t8 _ (List.mem_of_getElem? (i := 31) rfl)) rfl
theorem sm_X12_areAsking : Cond.static yX12_areAsking ∈ lw_g := lw_g_of (lw_t8 _ (List.mem_of_getElem? (i := 32) rfl)) rfl
theorem kc_X12_areAsking : Cond.code yX12_areAsking cX12_areAsking 4 (some .boolean) ∈ lw_g := lw_g_of (lw_t8 _ (List.mem_of_getElem? (i := 33) rfl)) rfl
theorem ml_X12_489 : Cond.methodLink RX12 489 yX12_askOf ∈ lw_g := lw_g_of (lw_t8 _ (List.mem_of_getElem? (i := 34) rfl)) rfl
theorem sm_X12_askOf : Cond.static yX12_askOf ∈ lw_g := lw_g_of (lw_t8 _ (List.mem_of_getElem? (i := 35) rfl)) rfl
theorem kc_X12_askOf : Cond.code yX12_askOf cX12_askOf 3 (some .int) ∈ lw_g := lw_g_of (lw_t8 _ (List.mem_of_getElem? (i := 36) rfl)) rfl
theorem ml_X12_499 : Cond.methodLink RX12 499 yX12_isAtRest ∈ lw_g := lw_g_of (lw_t8 _ (List.mem_of_getElem? (i := 37) rfl)) rfl
theorem sm_X12_isAtRest : Cond.static yX12_isAtRest ∈ lw_g := lw_g_of (lw_t8 _ (List.mem_of_getElem? (i := 38) rfl)) rfl
theorem kc_X12_isAtRest : Cond.code yX12_isAtRest cX12_isAtRest 8 (some .boolean) ∈ lw_g := lw_g_of (lw_t8 _ (List.mem_of_getElem? (i := 39) rfl)) rfl
theorem ml_X12_492 : Cond.methodLink RX12 492 yX12_gainOf ∈ lw_g := lw_g_of (lw_t8 _ (List.mem_of_getElem? (i := 40) rfl)) rfl
theorem sm_X12_gainOf : Cond.static yX12_gainOf ∈ lw_g := lw_g_of (lw_t8 _ (List.mem_of_getElem? (i := 41) rfl)) rfl
theorem kc_X12_gainOf : Cond.code yX12_gainOf cX12_gainOf 9 (some .int) ∈ lw_g := lw_g_of (lw_t8 _ (List.mem_of_getElem? (i := 42) rfl)) rfl
theorem ml_L_120 : Cond.methodLink RL 120 yX12_calm ∈ lw_g := lw_g_of (lw_t8 _ (List.mem_of_getElem? (i := 43) rfl)) rfl
theorem im_X12_calm : Cond.instanceMethod yX12_calm ∈ lw_g := lw_g_of (lw_t8 _ (List.mem_of_getElem? (i := 44) rfl)) rfl
theorem sl_X12_calm : Cond.selects RX12 yX12_calm yX12_calm ∈ lw_g := lw_g_of (lw_t8 _ (List.mem_of_getElem? (i := 45) rfl)) rfl
theorem kc_X12_calm : Cond.code yX12_calm cX12_calm 5 (some .int) ∈ lw_g := lw_g_of (lw_t8 _ (List.mem_of_getElem? (i := 46) rfl)) rfl
theorem ml_L_125 : Cond.methodLink RL 125 yX12_say ∈ lw_g := lw_g_of (lw_t8 _ (List.mem_of_getElem? (i := 47) rfl)) rfl
theorem im_X12_say : Cond.instanceMethod yX12_say ∈ lw_g := lw_g_of (lw_t8 _ (List.mem_of_getElem? (i := 48) rfl)) rfl
theorem sl_X12_say : Cond.selects RX12 yX12_say yX12_say ∈ lw_g := lw_g_of (lw_t8 _ (List.mem_of_getElem? (i := 49) rfl)) rfl
theorem kc_X12_say : Cond.code yX12_say cX12_say 5 (some .int) ∈ lw_g := lw_g_of (lw_t8 _ (List.mem_of_getElem? (i := 50) rfl)) rfl
theorem ml_L_129 : Cond.methodLink RL 129 yX12_span ∈ lw_g := lw_g_of (lw_t8 _ (List.mem_of_getElem? (i := 51) rfl)) rfl
theorem im_X12_span : Cond.instanceMethod yX12_span ∈ lw_g := lw_g_of (lw_t8 _ (List.mem_of_getElem? (i := 52) rfl)) rfl
theorem sl_X12_span : Cond.selects RX12 yX12_span yX12_span ∈ lw_g := lw_g_of (lw_t8 _ (List.mem_of_getElem? (i := 53) rfl)) rfl
theorem kc_X12_span : Cond.code yX12_span cX12_span 8 (some .int) ∈ lw_g := lw_g_of (lw_t8 _ (List.mem_of_getElem? (i := 54) rfl)) rfl
theorem ml_L_133 : Cond.methodLink RL 133 yX12_know ∈ lw_g := lw_g_of (lw_t8 _ (List.mem_of_getElem? (i := 55) rfl)) rfl
theorem im_X12_know : Cond.instanceMethod yX12_know ∈ lw_g := lw_g_of (lw_t8 _ (List.mem_of_getElem? (i := 56) rfl)) rfl
theorem sl_X12_know : Cond.selects RX12 yX12_know yX12_know ∈ lw_g := lw_g_of (lw_t8 _ (List.mem_of_getElem? (i := 57) rfl)) rfl
theorem kc_X12_know : Cond.code yX12_know cX12_know 4 (some .int) ∈ lw_g := lw_g_of (lw_t8 _ (List.mem_of_getElem? (i := 58) rfl)) rfl
theorem ml_L_141 : Cond.methodLink RL 141 yX12_forget ∈ lw_g := lw_g_of (lw_t8 _ (List.mem_of_getElem? (i := 59) rfl)) rfl
theorem im_X12_forget : Cond.instanceMethod yX12_forget ∈ lw_g := lw_g_of (lw_t8 _ (List.mem_of_getElem? (i := 60) rfl)) rfl
theorem sl_X12_forget : Cond.selects RX12 yX12_forget yX12_forget ∈ lw_g := lw_g_of (lw_t8 _ (List.mem_of_getElem? (i := 61) rfl)) rfl
theorem kc_X12_forget : Cond.code yX12_forget cX12_forget 2 (some .int) ∈ lw_g := lw_g_of (lw_t8 _ (List.mem_of_getElem? (i := 62) rfl)) rfl
theorem ml_L_137 : Cond.methodLink RL 137 yX12_fits ∈ lw_g := lw_g_of (lw_t8 _ (List.mem_of_getElem? (i := 63) rfl)) rfl
theorem im_X12_fits : Cond.instanceMethod yX12_fits ∈ lw_g := lw_g_of (lw_t8 _ (List.mem_of_getElem? (i := 64) rfl)) rfl
theorem sl_X12_fits : Cond.selects RX12 yX12_fits yX12_fits ∈ lw_g := lw_g_of (lw_t8 _ (List.mem_of_getElem? (i := 65) rfl)) rfl
theorem kc_X12_fits : Cond.code yX12_fits cX12_fits 7 (some .int) ∈ lw_g := lw_g_of (lw_t8 _ (List.mem_of_getElem? (i := 66) rfl)) rfl
theorem ml_X12_503 : Cond.methodLink RX12 503 yX12_chosen ∈ lw_g := lw_g_of (lw_t8 _ (List.mem_of_getElem? (i := 67) rfl)) rfl
theorem sm_X12_chosen : Cond.static yX12_chosen ∈ lw_g := lw_g_of (lw_t8 _ (List.mem_of_getElem? (i := 68) rfl)) rfl
theorem kc_X12_chosen : Cond.code yX12_chosen cX12_chosen 4 (some .int) ∈ lw_g := lw_g_of (lw_t8 _ (List.mem_of_getElem? (i := 69) rfl)) rfl
theorem ml_L_146 : Cond.methodLink RL 146 yX12_hold ∈ lw_g := lw_g_of (lw_t8 _ (List.mem_of_getElem? (i := 70) rfl)) rfl
theorem im_X12_hold : Cond.instanceMethod yX12_hold ∈ lw_g := lw_g_of (lw_t8 _ (List.mem_of_getElem? (i := 71) rfl)) rfl
theorem sl_X12_hold : Cond.selects RX12 yX12_hold yX12_hold ∈ lw_g := lw_g_of (lw_t8 _ (List.mem_of_getElem? (i := 72) rfl)) rfl
theorem kc_X12_hold : Cond.code yX12_hold cX12_hold 3 (some .boolean) ∈ lw_g := lw_g_of (lw_t8 _ (List.mem_of_getElem? (i := 73) rfl)) rfl
theorem ml_L_150 : Cond.methodLink RL 150 yX12_restore ∈ lw_g := lw_g_of (lw_t8 _ (List.mem_of_getElem? (i := 74) rfl)) rfl
theorem im_X12_restore : Cond.instanceMethod yX12_restore ∈ lw_g := lw_g_of (lw_t8 _ (List.mem_of_getElem? (i := 75) rfl)) rfl
theorem sl_X12_restore : Cond.selects RX12 yX12_restore yX12_restore ∈ lw_g := lw_g_of (lw_t8 _ (List.mem_of_getElem? (i := 76) rfl)) rfl
theorem kc_X12_restore : Cond.code yX12_restore cX12_restore 3 (some .boolean) ∈ lw_g := lw_g_of (lw_t8 _ (List.mem_of_getElem? (i := 77) rfl)) rfl
theorem ml_L_154 : Cond.methodLink RL 154 yX12_count ∈ lw_g := lw_g_of (lw_t8 _ (List.mem_of_getElem? (i := 78) rfl)) rfl
theorem im_X12_count : Cond.instanceMethod yX12_count ∈ lw_g := lw_g_of (lw_t8 _ (List.mem_of_getElem? (i := 79) rfl)) rfl
theorem sl_X12_count : Cond.selects RX12 yX12_count yX12_count ∈ lw_g := lw_g_of (lw_t8 _ (List.mem_of_getElem? (i := 80) rfl)) rfl
theorem kc_X12_count : Cond.code yX12_count cX12_count 4 (some .int) ∈ lw_g := lw_g_of (lw_t8 _ (List.mem_of_getElem? (i := 81) rfl)) rfl
theorem fl_J0_9 : Cond.fieldLink RJ0 9 "java/lang/String" "value" "[B" ∈ lw_g := lw_g_of (lw_t8 _ (List.mem_of_getElem? (i := 82) rfl)) rfl
theorem fl_J0_15 : Cond.fieldLink RJ0 15 "java/lang/String" "coder" "B" ∈ lw_g := lw_g_of (lw_t8 _ (List.mem_of_getElem? (i := 83) rfl)) rfl
theorem fw_X0 : ∀ w ∈ wsX00, w ∈ lw_g := lw_g_all tables_1_2 lw_t2 [165, 167, 169, 171, 173] (by decide +kernel) (by decide +kernel)
theorem fw_X1 : ∀ w ∈ wsX10, w ∈ lw_g := lw_g_all tables_1_2 lw_t2 [108] (by decide +kernel) (by decide +kernel)
theorem fw_X2 : ∀ w ∈ wsX20, w ∈ lw_g := lw_g_all tables_1_1 lw_t1 [124, 126, 128] (by decide +kernel) (by decide +kernel)
theorem fw_X3 : ∀ w ∈ wsX30, w ∈ lw_g := lw_g_all tables_1_2 lw_t2 [150] (by decide +kernel) (by decide +kernel)
theorem fw_X4 : ∀ w ∈ wsX40, w ∈ lw_g := lw_g_all tables_1_2 lw_t2 [9, 11, 13, 15, 17, 19, 21] (by decide +kernel) (by decide +kernel)
theorem fw_X5 : ∀ w ∈ wsX50, w ∈ lw_g := lw_g_all tables_1_2 lw_t2 [94, 96, 98] (by decide +kernel) (by decide +kernel)
theorem fw_X6 : ∀ w ∈ wsX60, w ∈ lw_g := lw_g_all tables_1_2 lw_t2 [188, 190, 192, 194, 196] (by decide +kernel) (by decide +kernel)
theorem fw_X7 : ∀ w ∈ wsX70, w ∈ lw_g := lw_g_all tables_1_2 lw_t2 [128, 130, 132, 134, 136, 138, 140] (by decide +kernel) (by decide +kernel)
theorem fw_X8 : ∀ w ∈ wsX80, w ∈ lw_g := lw_g_all tables_1_2 lw_t2 [62, 64, 66, 68, 70, 72, 74, 76, 78] (by decide +kernel) (by decide +kernel)
theorem fw_X9 : ∀ w ∈ wsX90, w ∈ lw_g := lw_g_all tables_1_1 lw_t1 [204, 206, 208, 210, 212, 214, 216, 218, 220, 222, 224, 226, 228, 230, 232, 234, 236, 238] (by decide +kernel) (by decide +kernel)
theorem fw_X10 : ∀ w ∈ wsX100, w ∈ lw_g := lw_g_all tables_1_1 lw_t1 [97, 99, 101, 103] (by decide +kernel) (by decide +kernel)
theorem fw_X11 : ∀ w ∈ wsX110, w ∈ lw_g := lw_g_all (tables_1_2 ++ tables_1_3) (fun w h => (List.mem_append.mp h).elim (lw_t2 w) (lw_t3 w)) [222, 224, 226, 228, 230, 232, 234, 236, 238, 240, 242, 244, 246, 248, 250] (by decide +kernel) (by decide +kernel)
theorem fw_X12 : ∀ w ∈ wsX120, w ∈ lw_g := lw_g_all (tables_1_5 ++ tables_1_6) (fun w h => (List.mem_append.mp h).elim (lw_t5 w) (lw_t6 w)) [230, 232, 234, 236, 238, 240, 242, 244, 246, 248, 250, 252, 254, 256, 258, 260, 262, 264, 266, 268, 270, 272, 274, 276, 278, 280, 282, 284, 286, 288, 290, 292, 294, 296, 298, 300, 302, 304, 306, 308, 310, 312, 314, 316, 318, 320, 322, 324, 326, 328, 330, 332, 334, 336, 338, 340, 342, 344, 346, 348, 350, 352, 354, 356, 358, 360, 362, 364, 366, 368, 370, 372, 374, 376, 378, 380, 382, 384, 386] (by decide +kernel) (by decide +kernel)
