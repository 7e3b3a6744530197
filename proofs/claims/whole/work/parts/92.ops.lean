theorem ops_Iv (rd : ∀ (n : Nat) (hc hr : PH), n < 512 → Iv n hc hr → ∃ (v : Int32) (hc' hr' : PH), c_X11_read hc = some (v, hc') ∧ c_X12_read hr = some (v, hr') ∧ Iv (n + 1) hc' hr') : OpsOK Iv := by
  intro n hc hr hn hI
  have hR := rd n hc hr hn hI
  obtain ⟨T, σ, s, t, Lp, Lw, I⟩ := hI
  have hn6 : n < 600 := by omega
  have C := I.cl
  refine ⟨?_, ?_, hR, ?_, ?_, ?_, ?_, ?_, ?_, ?_, ?_, ?_, ?_, ?_, ?_, ?_, ?_, ?_, ?_, ?_, ?_, ?_, ?_, ?_, ?_, ?_, ?_, ?_, ?_, ?_, ?_, ?_, ?_, I.up⟩
  · intro a1 a2 a3 a4 a5
    obtain ⟨v, hc', hr', e1, e2, nt, kc, kr⟩ := feed_ok a1 a2 a3 a4 a5 I.tape
    exact ⟨v, hc', hr', e1, e2, (I.tp nt kc kr).v⟩
  · intro a1
    obtain ⟨v, hc', hr', e1, e2, nt, kc, kr⟩ := back_ok a1 I.tape
    exact ⟨v, hc', hr', e1, e2, (I.tp nt kc kr).v⟩
  · obtain ⟨v, e1, e2⟩ := place_ok I.place
    exact ⟨v, e1, e2, I.up⟩
  · intro a1 a2
    obtain ⟨v, e1, e2⟩ := man_ok C.cor a1 a2
    exact ⟨v, e1, e2, I.up⟩
  · intro a1 a2
    obtain ⟨v, e1, e2⟩ := excuse_ok C.cor a1 a2
    exact ⟨v, e1, e2, I.up⟩
  · intro a1 a2
    obtain ⟨v, e1, e2⟩ := duty_ok C.cor a1 a2
    exact ⟨v, e1, e2, I.up⟩
  · intro a1 a2 a3 _
    obtain ⟨v, hr', e1, e2, k⟩ := told_ok C.cor a1 a2 a3
    exact ⟨v, hr', e1, e2, (I.scr KP.rfl (k.mono (fun p k z => SR_44 z))).v⟩
  · intro a1
    obtain ⟨v, hr', e1, e2, k⟩ := rains_ok C.cor a1
    exact ⟨v, hr', e1, e2, (I.scr KP.rfl (k.mono (fun p k z => SR_44 z))).v⟩
  · intro a1
    obtain ⟨v, hc', hr', e1, e2, m⟩ := buy_ok C I.undo hn6 a1
    exact ⟨v, hc', hr', e1, e2, I.mut m⟩
  · intro a1
    obtain ⟨v, hc', hr', e1, e2, m⟩ := sell_ok C I.undo hn6 a1
    exact ⟨v, hc', hr', e1, e2, I.mut m⟩
  · intro a1 a2
    obtain ⟨v, hc', hr', e1, e2, m⟩ := plan_ok C I.undo a1 a2
    exact ⟨v, hc', hr', e1, e2, I.mut m⟩
  · intro a1
    obtain ⟨v, hc', hr', e1, e2, m⟩ := days_ok C I.undo hn6 a1
    exact ⟨v, hc', hr', e1, e2, I.mut m⟩
  · obtain ⟨v, hc', hr', e1, e2, m⟩ := undo_ok C I.undo
    exact ⟨v, hc', hr', e1, e2, I.mut m⟩
  · intro a1 a2
    obtain ⟨v, hc', hr', e1, e2, kc, kr⟩ := pass_ok C hn6 a1 a2
    exact ⟨v, hc', hr', e1, e2, (I.scr kc kr).v⟩
  · intro a1 a2
    obtain ⟨v, hc', hr', e1, e2, kc, kr⟩ := planned_ok C hn6 a1 a2
    exact ⟨v, hc', hr', e1, e2, (I.scr kc kr).v⟩
  · intro a1 a2
    obtain ⟨v, hc', hr', e1, e2, kc, kr⟩ := trust_ok C hn6 a1 a2
    exact ⟨v, hc', hr', e1, e2, (I.scr kc kr).v⟩
  · intro a1 a2
    obtain ⟨v, hc', hr', e1, e2, kc, kr⟩ := year_ok C hn6 a1 a2
    exact ⟨v, hc', hr', e1, e2, (I.scr kc kr).v⟩
  · intro a1 a2
    obtain ⟨v, hc', hr', e1, e2, kc, kr⟩ := cheapest_ok C hn6 a1 a2
    exact ⟨v, hc', hr', e1, e2, (I.scr kc kr).v⟩
  · intro a1 a2 a3
    obtain ⟨v, hc', hr', e1, e2, kc, kr⟩ := cheapestAt_ok C hn6 a1 a2 a3
    exact ⟨v, hc', hr', e1, e2, (I.scr kc kr).v⟩
  · intro a1
    obtain ⟨v, hr', e1, e2, kr⟩ := two_ok C a1
    exact ⟨v, hr', e1, e2, (I.scr KP.rfl kr).v⟩
  · intro a1 a2
    obtain ⟨v, e1, e2⟩ := rumour_ok C a1 a2
    exact ⟨v, e1, e2, I.up⟩
  · intro a1
    obtain ⟨v, e1, e2⟩ := apart_ok C a1
    exact ⟨v, e1, e2, I.up⟩
  · intro a1 a2 a3 a4 a5
    obtain ⟨v, hc', e1, e2, kc⟩ := sellers_ok hc a1 a2 a3 a4 a5
    exact ⟨v, hc', e1, e2, (I.scr (kc.mono (fun p k z => by unfold SC at z; unfold F228; omega)) KP.rfl).v⟩
  · intro a1 a2 a3
    obtain ⟨v, hc', hr', e1, e2, kc, kr⟩ := calm_ok C hn6 a1 a2 a3
    exact ⟨v, hc', hr', e1, e2, (I.scr kc kr).v⟩
  · intro a1 a2 a3 a4
    obtain ⟨v, hc', hr', e1, e2, ns, kc, kr⟩ := say_ok a1 a2 a3 a4 I.said
    exact ⟨v, hc', hr', e1, e2, (I.sk ns (iKnown_fr (kc.mono (fun p k z => by unfold FkC at z; unfold FsC; omega)) (kr.mono (fun p k z => by unfold FkR at z; unfold FsR; omega)) I.known) (kc.mono (fun p k z => z.1)) (kr.mono (fun p k z => z.1))).v⟩
  · intro a1 a2 a3
    obtain ⟨v, e1, e2⟩ := span_ok a1 a2 a3 I.said
    exact ⟨v, e1, e2, I.up⟩
  · intro a1 a2 a3
    obtain ⟨v, hc', hr', e1, e2, nk, kc, kr⟩ := know_ok C.cor I.known a1 a2 a3
    exact ⟨v, hc', hr', e1, e2, (I.sk (iSaid_fr (kc.mono (fun p k z => by unfold FsC at z; unfold FkC; omega)) (kr.mono (fun p k z => by unfold FsR at z; unfold FkR; omega)) I.said) nk (kc.mono (fun p k z => z.2)) (kr.mono (fun p k z => z.2))).v⟩
  · intro a1 a2
    obtain ⟨v, hc', hr', e1, e2, kc, kr⟩ := fits_ok C I.known a1 a2
    exact ⟨v, hc', hr', e1, e2, (I.scr kc kr).v⟩
  · obtain ⟨v, hc', hr', e1, e2, ns, nk, kc, kr⟩ := forget_ok I.said I.known
    exact ⟨v, hc', hr', e1, e2, (I.sk ns nk kc kr).v⟩
  · intro a1
    obtain ⟨v, hc', hr', e1, e2, nl, kc, kr⟩ := hold_ok C I.slots a1
    exact ⟨v, hc', hr', e1, e2, (I.sl nl kc kr).v⟩
  · intro a1
    obtain ⟨v, hc', hr', e1, e2, m⟩ := restore_ok C I.undo I.slots a1
    exact ⟨v, hc', hr', e1, e2, I.mut m⟩
  · intro a1
    obtain ⟨v, e1, e2⟩ := count_ok C.cor I.tape I.said I.known (undo_eq I.undo) (fun i hi => (I.slots i hi).1) a1
    exact ⟨v, e1, e2, I.up⟩
