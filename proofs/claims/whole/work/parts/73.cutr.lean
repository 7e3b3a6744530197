theorem bv_255 : ∀ b : Nat, b < 256 → bv b &&& 255 = nI b := by decide +kernel
theorem nI_letR : ∀ b : Nat, b < 256 → c_X12_isLetter (nI b) = some (if letB b = true then 1 else 0) := by decide +kernel
theorem nI_digR : ∀ b : Nat, b < 256 → c_X12_isDigit (nI b) = some (if digB b = true then 1 else 0) := by decide +kernel
/-- the tape of the reference -/
def TpR (K : Nat) (bs : Nat → Nat) (h : PH) : Prop := K ≤ 2000 ∧ h.1 0 4 = nI K ∧ ∀ i, i < K → bs i < 256 ∧ h.1 2 i = bv (bs i)
def bz (K : Nat) (bs : Nat → Nat) (i : Nat) : Nat := if i < K then bs i else 0
theorem bz_lt {K : Nat} {bs : Nat → Nat} {h : PH} (tp : TpR K bs h) (i : Nat) : bz K bs i < 256 := by
  unfold bz
  by_cases q : i < K
  · rw [if_pos q]; exact (tp.2.2 i q).1
  · rw [if_neg q]; omega
theorem byteR {K i : Nat} {bs : Nat → Nat} {h : PH} (tp : TpR K bs h) (hi : i < 8000) : c_X12_byteAt (nI i) h = some (nI (bz K bs i)) := by
  have hK := tp.1
  unfold c_X12_byteAt bz
  rw [tp.2.1, ite_cg (nI_leI (a := K) (b := i) (by omega) (by omega))]
  by_cases q : K ≤ i
  · rw [if_pos q, if_neg (show ¬ i < K by omega)]; rfl
  · obtain ⟨b6, e⟩ := tp.2.2 i (by omega)
    rw [if_neg q, if_pos (show i < K by omega), gdI (k := i) (by omega) (by omega), nI_clamp (n := i) (by omega), e, bv_255 _ b6]
theorem digRunR {ρ : Type} {K x : Nat} {bs : Nat → Nat} {h : PH} {K1 : Int32 → Int32 → Option ρ} (tp : TpR K bs h) : ∀ (n f d s : Nat), x + d + n = K → ∃ v, (runF digB bs n (x + d) - x ≤ 4 → v = valF bs 10 48 (runF digB bs n (x + d) - (x + d)) (x + d) s) ∧ lq2 (c_X12_cut_L208b (nI x) h K1) (f + n + 1) (nI d) (nI s) = K1 (nI (runF digB bs n (x + d) - x)) (nI v)
  | 0, f, d, s, hd => by
    have hK := tp.1
    refine ⟨s, fun _ => ?_, ?_⟩
    · show s = valF bs 10 48 (x + d - (x + d)) (x + d) s
      rw [Nat.sub_self]; rfl
    · show _ = K1 (nI (x + d - x)) (nI s)
      rw [lq2_s]; unfold c_X12_cut_L208b
      rw [nI_add, byteR tp (by omega), Option.bind_some, nI_digR _ (bz_lt tp _), Option.bind_some]
      have : bz K bs (x + d) = 0 := if_neg (by omega)
      rw [this, show x + d - x = d by omega]
      rfl
  | n + 1, f, d, s, hd => by
    have hK := tp.1
    have e : bz K bs (x + d) = bs (x + d) := if_pos (by omega)
    have b6 := (tp.2.2 (x + d) (by omega)).1
    rw [show f + (n + 1) + 1 = (f + n + 1) + 1 from by omega, lq2_s]
    have ih := fun s' => digRunR (K1 := K1) (x := x) tp n f (d + 1) s' (by omega)
    generalize lq2 (c_X12_cut_L208b (nI x) h K1) (f + n + 1) = REC at ih
    have er : runF digB bs (n + 1) (x + d) = if digB (bs (x + d)) = true then runF digB bs n (x + d + 1) else x + d := rfl
    rw [er]
    unfold c_X12_cut_L208b
    rw [nI_add, byteR tp (by omega), Option.bind_some, e, nI_digR _ b6, Option.bind_some, if_0i]
    by_cases q : digB (bs (x + d)) = true
    · rw [if_neg (show ¬ ¬ digB (bs (x + d)) = true from fun z => z q), if_pos q]
      have ge := runF_ge digB bs n (x + d + 1)
      have dl := dig_lo q
      rw [ite_cg (show (4 : Int32) ≤ nI d ↔ 4 ≤ d from nI_leI (a := 4) (by omega) (by omega)), Option.bind_some]
      by_cases q4 : 4 ≤ d
      · rw [if_pos q4, nm_eq, nI_1]
        obtain ⟨v, _, hv⟩ := ih s
        exact ⟨v, fun z => by omega, hv⟩
      · obtain ⟨v, hv1, hv⟩ := ih (s * 10 + (bs (x + d) - 48))
        refine ⟨v, fun z => ?_, ?_⟩
        · rw [show runF digB bs n (x + d + 1) - (x + d) = (runF digB bs n (x + d + 1) - (x + d + 1)) + 1 by omega]
          exact hv1 z
        · rw [if_neg q4, nm_eq, nm_eq, nI_1, show (10 : Int32) * nI s + nI (bs (x + d)) - 48 = nI (s * 10 + (bs (x + d) - 48)) from by rw [show (10 : Int32) = nI 10 from rfl, show (48 : Int32) = nI 48 from rfl, show nI 10 * nI s = nI (10 * s) from (Int32.ofNat_mul 10 s).symm, nI_add, pk_sub (by omega)]; congr 1; omega]
          exact hv
    · rw [if_pos q, if_neg q]
      exact ⟨s, fun _ => by rw [Nat.sub_self]; rfl, by rw [show x + d - x = d by omega]⟩
theorem letRunR {ρ : Type} {K x : Nat} {bs : Nat → Nat} {h : PH} {K1 : Int32 → Int64 → Option ρ} (tp : TpR K bs h) : ∀ (n f d s : Nat), x + d + n = K → ∃ v, (runF letB bs n (x + d) - x ≤ 8 → v = valF bs 27 96 (runF letB bs n (x + d) - (x + d)) (x + d) s) ∧ lq2 (c_X12_cut_L85b (nI x) h K1) (f + n + 1) (nI d) (lN s) = K1 (nI (runF letB bs n (x + d) - x)) (lN v)
  | 0, f, d, s, hd => by
    have hK := tp.1
    refine ⟨s, fun _ => ?_, ?_⟩
    · show s = valF bs 27 96 (x + d - (x + d)) (x + d) s
      rw [Nat.sub_self]; rfl
    · show _ = K1 (nI (x + d - x)) (lN s)
      rw [lq2_s]; unfold c_X12_cut_L85b
      rw [nI_add, byteR tp (by omega), Option.bind_some, nI_letR _ (bz_lt tp _), Option.bind_some]
      have : bz K bs (x + d) = 0 := if_neg (by omega)
      rw [this, show x + d - x = d by omega]
      rfl
  | n + 1, f, d, s, hd => by
    have hK := tp.1
    have e : bz K bs (x + d) = bs (x + d) := if_pos (by omega)
    have b6 := (tp.2.2 (x + d) (by omega)).1
    rw [show f + (n + 1) + 1 = (f + n + 1) + 1 from by omega, lq2_s]
    have ih := fun s' => letRunR (K1 := K1) (x := x) tp n f (d + 1) s' (by omega)
    generalize lq2 (c_X12_cut_L85b (nI x) h K1) (f + n + 1) = REC at ih
    have er : runF letB bs (n + 1) (x + d) = if letB (bs (x + d)) = true then runF letB bs n (x + d + 1) else x + d := rfl
    rw [er]
    unfold c_X12_cut_L85b
    rw [nI_add, byteR tp (by omega), Option.bind_some, e, nI_letR _ b6, Option.bind_some, if_0i]
    by_cases q : letB (bs (x + d)) = true
    · rw [if_neg (show ¬ ¬ letB (bs (x + d)) = true from fun z => z q), if_pos q]
      have ge := runF_ge letB bs n (x + d + 1)
      have dl := let_lo q
      rw [ite_cg (show (8 : Int32) ≤ nI d ↔ 8 ≤ d from nI_leI (a := 8) (by omega) (by omega)), Option.bind_some]
      by_cases q4 : 8 ≤ d
      · rw [if_pos q4, nm_eq, nI_1]
        obtain ⟨v, _, hv⟩ := ih s
        exact ⟨v, fun z => by omega, hv⟩
      · obtain ⟨v, hv1, hv⟩ := ih (s * 27 + (bs (x + d) - 96))
        refine ⟨v, fun z => ?_, ?_⟩
        · rw [show runF letB bs n (x + d + 1) - (x + d) = (runF letB bs n (x + d + 1) - (x + d + 1)) + 1 by omega]
          exact hv1 z
        · have ap : c_X12_appends (lN s) (nI (bs (x + d))) = some (lN (s * 27 + (bs (x + d) - 96))) := by
            unfold c_X12_appends
            rw [if_neg (show ¬ nI (bs (x + d)) = 0 from fun z => by have := (nI_lit (show bs (x + d) < 2 ^ 31 by omega) 0 (by omega) rfl).mp z; omega), show (97 : Int32) = nI 97 from rfl, pk_sub (by omega), nI_1, show (27 : Int64) = lN 27 from rfl, nI_l (n := bs (x + d) - 97 + 1) (by omega), lN_mul, lN_add]
            congr 2; omega
          rw [if_neg q4, ap, Option.bind_some, nm_eq, nm_eq, nI_1]
          exact hv
    · rw [if_pos q, if_neg q]
      exact ⟨s, fun _ => by rw [Nat.sub_self]; rfl, by rw [show x + d - x = d by omega]⟩
