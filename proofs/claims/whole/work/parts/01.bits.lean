def bt (x : Int32) (i : Nat) : Bool := x.toBitVec.getLsbD i
theorem b_ext {x y : Int32} (h : ∀ i, i < 32 → bt x i = bt y i) : x = y := Int32.toBitVec_inj.mp (BitVec.eq_of_getLsbD_eq (fun i hi => h i hi))
theorem b_or (x y : Int32) (i : Nat) : bt (x ||| y) i = (bt x i || bt y i) := by unfold bt; rw [Int32.toBitVec_or, BitVec.getLsbD_or]
theorem b_and (x y : Int32) (i : Nat) : bt (x &&& y) i = (bt x i && bt y i) := by unfold bt; rw [Int32.toBitVec_and, BitVec.getLsbD_and]
theorem b_big {x : Int32} {i : Nat} (h : 32 ≤ i) : bt x i = false := BitVec.getLsbD_of_ge _ _ h
theorem b_0 (i : Nat) : bt 0 i = false := BitVec.getLsbD_zero
theorem s_l : ∀ n, n < 32 → ((nI n &&& 31).toBitVec.smod 32).toNat = n := by decide +kernel
theorem b_shl (n : Nat) (hn : n < 32) (x : Int32) {i : Nat} (hi : i < 32) : bt (x <<< (nI n &&& 31)) i = (decide (n ≤ i) && bt x (i - n)) := by
  unfold bt
  rw [Int32.toBitVec_shiftLeft]
  show (x.toBitVec <<< ((nI n &&& 31).toBitVec.smod 32).toNat).getLsbD i = _
  rw [s_l n hn, BitVec.getLsbD_shiftLeft]
  rcases Nat.lt_or_ge i n with h | h
  · simp [h, Nat.not_le.mpr h]
  · simp [hi, h, Nat.not_lt.mpr h]
theorem b_sshr (n : Nat) (hn : n < 32) (x : Int32) {i : Nat} (hi : i < 32) : bt (x >>> (nI n &&& 31)) i = if n + i < 32 then bt x (n + i) else bt x 31 := by
  unfold bt
  rw [Int32.toBitVec_shiftRight]
  show (x.toBitVec.sshiftRight ((nI n &&& 31).toBitVec.smod 32).toNat).getLsbD i = _
  rw [s_l n hn, BitVec.getLsbD_sshiftRight, BitVec.msb_eq_getLsbD_last]
  simp [hi]
theorem pk_us {f : Nat → Int32} {k : Nat} {x : Int32} : upd f k x k = x := if_pos rfl
theorem pk_un {f : Nat → Int32} {k j : Nat} {x : Int32} (h : j ≠ k) : upd f k x j = f j := if_neg h
theorem pk_and (x : Int32) {m : Int32} (k : Nat) (hm : m.toBitVec.toNat = 2 ^ k - 1) : x &&& m = nI (x.toBitVec.toNat % 2 ^ k) := by
  apply Int32.toBitVec_inj.mp
  apply BitVec.eq_of_toNat_eq
  rw [Int32.toBitVec_and, BitVec.toNat_and, hm, Nat.and_two_pow_sub_one_eq_mod]
  show _ = (BitVec.ofNat 32 _).toNat
  rw [BitVec.toNat_ofNat]
  exact (Nat.mod_eq_of_lt (Nat.lt_of_le_of_lt (Nat.mod_le _ _) x.toBitVec.isLt)).symm
theorem pk_andE (x : Int32) {m : Int32} (k : Nat) (hm : m.toBitVec.toNat = 2 ^ k - 1) : ∃ j : Nat, j < 2 ^ k ∧ x &&& m = nI j := ⟨_, Nat.mod_lt _ (Nat.two_pow_pos k), pk_and x k hm⟩
/-! ===== one bit of a set: the two tests for it ===== -/
theorem cu_cnt (s : Int32) : ∃ n : Nat, n < 32 ∧ s &&& 31 = nI n &&& 31 := by
  obtain ⟨n, hn, e⟩ := pk_andE s (m := 31) 5 (by decide)
  refine ⟨n, hn, ?_⟩
  have h : ∀ n, n < 32 → nI n = nI n &&& 31 := by decide +kernel
  rw [e]
  exact h n hn
theorem cu_b1 : ∀ i, i < 32 → bt 1 i = decide (i = 0) := by decide +kernel
theorem cu_bm (n : Nat) (hn : n < 32) {i : Nat} (hi : i < 32) : bt ((1 : Int32) <<< (nI n &&& 31)) i = decide (i = n) := by
  rw [b_shl n hn _ hi, cu_b1 _ (by omega)]
  by_cases h : n ≤ i
  · by_cases h2 : i = n
    · simp [h2]
    · have h3 : ¬ i - n = 0 := by omega
      simp [h, h2, h3]
  · have h2 : ¬ i = n := by omega
    simp [h, h2]
theorem cu_X (f : Int32) (n : Nat) (hn : n < 32) : (f &&& ((1 : Int32) <<< (nI n &&& 31))) = (1 : Int32) <<< (nI n &&& 31) ↔ bt f n = true := by
  constructor
  · intro h
    have t := congrArg (fun x => bt x n) h
    rw [b_and, cu_bm n hn hn] at t
    simpa using t
  · intro h
    apply b_ext
    intro i hi
    rw [b_and, cu_bm n hn hi]
    by_cases e : i = n
    · rw [e, h, Bool.true_and]
    · simp [e]
theorem cu_X0 (f : Int32) (n : Nat) (hn : n < 32) : (f &&& ((1 : Int32) <<< (nI n &&& 31))) = 0 ↔ ¬ bt f n = true := by
  constructor
  · intro h h2
    have t := congrArg (fun x => bt x n) h
    rw [b_and, cu_bm n hn hn, b_0, h2] at t
    simp at t
  · intro h
    apply b_ext
    intro i hi
    rw [b_and, cu_bm n hn hi, b_0]
    by_cases e : i = n
    · rw [e]
      cases hb : bt f n
      · rfl
      · exact absurd hb h
    · simp [e]
theorem cu_Y (f : Int32) (n : Nat) (hn : n < 32) : ((f >>> (nI n &&& 31)) &&& 1) = 1 ↔ bt f n = true := by
  constructor
  · intro h
    have t := congrArg (fun x => bt x 0) h
    rw [b_and, b_sshr n hn f (by omega), cu_b1 0 (by omega), if_pos (by omega)] at t
    simpa using t
  · intro h
    apply b_ext
    intro i hi
    rw [b_and, cu_b1 i hi]
    by_cases e : i = 0
    · rw [e, b_sshr n hn f (by omega), if_pos (by omega), Nat.add_zero, h]; rfl
    · simp [e]
theorem cu_bit (f s : Int32) : (f &&& ((1 : Int32) <<< (s &&& 31))) = (1 : Int32) <<< (s &&& 31) ↔ ((f >>> (s &&& 31)) &&& 1) = 1 := by
  obtain ⟨n, hn, e⟩ := cu_cnt s
  rw [e, cu_X f n hn, cu_Y f n hn]
theorem cu_bit0 (f s : Int32) : (f &&& ((1 : Int32) <<< (s &&& 31))) = 0 ↔ ¬ ((f >>> (s &&& 31)) &&& 1) = 1 := by
  obtain ⟨n, hn, e⟩ := cu_cnt s
  rw [e, cu_X0 f n hn, cu_Y f n hn]
theorem cu_or (f a b : Int32) : (f &&& (a ||| b)) = a ||| b ↔ (f &&& a) = a ∧ (f &&& b) = b := by
  constructor
  · intro h
    have t : ∀ i, (bt f i && (bt a i || bt b i)) = (bt a i || bt b i) := by
      intro i
      rw [← b_or, ← b_and, h]
    constructor
    · apply b_ext
      intro i _
      have t := t i
      rw [b_and]
      revert t
      cases bt f i <;> cases bt a i <;> cases bt b i <;> decide
    · apply b_ext
      intro i _
      have t := t i
      rw [b_and]
      revert t
      cases bt f i <;> cases bt a i <;> cases bt b i <;> decide
  · intro ⟨h1, h2⟩
    apply b_ext
    intro i _
    rw [b_and, b_or]
    have t1 : (bt f i && bt a i) = bt a i := by rw [← b_and, h1]
    have t2 : (bt f i && bt b i) = bt b i := by rw [← b_and, h2]
    revert t1 t2
    cases bt f i <;> cases bt a i <;> cases bt b i <;> decide
theorem cu_g0 (g : Int32) : (g &&& 1) = 0 ↔ ¬ ((g >>> ((0 : Int32) &&& 31)) &&& 1) = 1 := cu_bit0 g 0
theorem cu_g1 (g : Int32) : (g &&& 2) = 0 ↔ ¬ ((g >>> ((1 : Int32) &&& 31)) &&& 1) = 1 := cu_bit0 g 1
theorem cu_g2 (g : Int32) : (g &&& 4) = 0 ↔ ¬ ((g >>> ((2 : Int32) &&& 31)) &&& 1) = 1 := cu_bit0 g 2
