theorem read_ok (n : Nat) (hc hr : PH) (hn : n < 512) (h : Iv n hc hr) : ∃ (v : Int32) (hc' hr' : PH), c_X11_read hc = some (v, hc') ∧ c_X12_read hr = some (v, hr') ∧ Iv (n + 1) hc' hr' := sorry
