theorem b_get0 : ∀ m : Nat, m < 512 → ∀ d : Nat, d < 9 → ((nI m >>> (nI d &&& 31)) &&& 1) = (if m.testBit d then (1 : Int32) else 0) := by decide +kernel
theorem b_get {m d : Nat} (hm : m < 512) (hd : d < 9) : ((nI m >>> (nI d &&& 31)) &&& 1) = (if m.testBit d then (1 : Int32) else 0) := b_get0 m hm d hd
theorem b_shl0 : ∀ d : Nat, d < 9 → ((1 : Int32) <<< (nI d &&& 31)) = nI (2 ^ d) := by decide +kernel
theorem b_shl {d : Nat} (hd : d < 9) : ((1 : Int32) <<< (nI d &&& 31)) = nI (2 ^ d) := b_shl0 d hd
theorem b_or (a b : Nat) : nI a ||| nI b = nI (a ||| b) := Int32.toBitVec_inj.mp (BitVec.ofNat_or (w := 32) (x := a) (y := b)).symm
theorem b_and (a b : Nat) : nI a &&& nI b = nI (a &&& b) := Int32.toBitVec_inj.mp (BitVec.ofNat_and (w := 32) (x := a) (y := b)).symm
theorem mask_lt (f : Nat → Bool) : ∀ n, maskOf f n < 2 ^ n
  | 0 => Nat.zero_lt_one
  | n + 1 => by
    have := mask_lt f n
    show maskOf f n + (if f n then 2 ^ n else 0) < 2 ^ (n + 1)
    have e : 2 ^ (n + 1) = 2 ^ n + 2 ^ n := by omega
    cases f n
    · simp only [Bool.false_eq_true, if_false]; omega
    · simp only [if_true]; omega
theorem mask_lt9 (f : Nat → Bool) : maskOf f 9 < 512 := mask_lt f 9
theorem mask_bit (f : Nat → Bool) : ∀ (n d : Nat), d < n → (maskOf f n).testBit d = f d
  | 0, d, h => absurd h (by omega)
  | n + 1, d, h => by
    have l := mask_lt f n
    show (maskOf f n + (if f n then 2 ^ n else 0)).testBit d = f d
    by_cases q : d = n
    · subst q
      cases e : f d
      · simp only [Bool.false_eq_true, if_false, Nat.add_zero]
        exact Nat.testBit_lt_two_pow l
      · simp only [if_true]
        rw [Nat.add_comm, Nat.testBit_two_pow_add_eq, Nat.testBit_lt_two_pow l]; rfl
    · have hd : d < n := by omega
      cases e : f n
      · simp only [Bool.false_eq_true, if_false, Nat.add_zero]
        exact mask_bit f n d hd
      · simp only [if_true]
        rw [Nat.add_comm, Nat.testBit_two_pow_add_gt hd]
        exact mask_bit f n d hd
theorem mask_bit9 (f : Nat → Bool) {d : Nat} (h : d < 9) : (maskOf f 9).testBit d = f d := mask_bit f 9 d h
theorem eq_mask {m : Nat} {f : Nat → Bool} (hm : m < 512) (h : ∀ d, d < 9 → m.testBit d = f d) : m = maskOf f 9 := by
  apply Nat.eq_of_testBit_eq
  intro i
  by_cases q : i < 9
  · rw [h i q, mask_bit9 f q]
  · have hp : 512 ≤ 2 ^ i := Nat.pow_le_pow_right (n := 2) (i := 9) (j := i) (by decide) (by omega)
    rw [Nat.testBit_lt_two_pow (by omega), Nat.testBit_lt_two_pow (by have := mask_lt9 f; omega)]
theorem mask_or (f g : Nat → Bool) : maskOf f 9 ||| maskOf g 9 = maskOf (fun d => f d || g d) 9 := by
  refine eq_mask (Nat.or_lt_two_pow (n := 9) (mask_lt9 f) (mask_lt9 g)) (fun d hd => ?_)
  rw [Nat.testBit_or, mask_bit9 f hd, mask_bit9 g hd]
theorem mask_set (f : Nat → Bool) {k : Nat} (hk : k < 9) : maskOf f 9 ||| 2 ^ k = maskOf (fun d => f d || d == k) 9 := by
  refine eq_mask (Nat.or_lt_two_pow (n := 9) (mask_lt9 f) (Nat.pow_lt_pow_right (a := 2) (n := 9) (by decide) hk)) (fun d hd => ?_)
  rw [Nat.testBit_or, mask_bit9 f hd, Nat.testBit_two_pow]
  congr 1
  by_cases q : k = d
  · subst q; simp
  · have q' : ¬ d = k := fun e => q e.symm
    simp [q, q']
