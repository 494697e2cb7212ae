section
def bt (x : Int32) (i : Nat) : Bool := x.toBitVec.getLsbD i
theorem b_ext {x y : Int32} (h : ∀ i, i < 32 → bt x i = bt y i) : x = y := Int32.toBitVec_inj.mp (BitVec.eq_of_getLsbD_eq (fun i hi => h i hi))
theorem b_or (x y : Int32) (i : Nat) : bt (x ||| y) i = (bt x i || bt y i) := by unfold bt; rw [Int32.toBitVec_or, BitVec.getLsbD_or]
theorem b_and (x y : Int32) (i : Nat) : bt (x &&& y) i = (bt x i && bt y i) := by unfold bt; rw [Int32.toBitVec_and, BitVec.getLsbD_and]
theorem b_big {x : Int32} {i : Nat} (h : 32 ≤ i) : bt x i = false := BitVec.getLsbD_of_ge _ _ h
theorem b_0 (i : Nat) : bt 0 i = false := BitVec.getLsbD_zero
theorem s_l : ∀ n, n < 32 → ((nI n &&& 31).toBitVec.smod 32).toNat = n := by decide +kernel
theorem b_shl (n : Nat) (hn : n < 32) (x : Int32) {i : Nat} (hi : i < 32) : bt (x <<< (nI n &&& 31)) i = (decide (n ≤ i) && bt x (i - n)) := by
  unfold bt
  rw [Int32.toBitVec_shiftLeft]
  show (x.toBitVec <<< ((nI n &&& 31).toBitVec.smod 32).toNat).getLsbD i = _
  rw [s_l n hn, BitVec.getLsbD_shiftLeft]
  rcases Nat.lt_or_ge i n with h | h
  · simp [h, Nat.not_le.mpr h]
  · simp [hi, h, Nat.not_lt.mpr h]
theorem b_sshr (n : Nat) (hn : n < 32) (x : Int32) {i : Nat} (hi : i < 32) : bt (x >>> (nI n &&& 31)) i = if n + i < 32 then bt x (n + i) else bt x 31 := by
  unfold bt
  rw [Int32.toBitVec_shiftRight]
  show (x.toBitVec.sshiftRight ((nI n &&& 31).toBitVec.smod 32).toNat).getLsbD i = _
  rw [s_l n hn, BitVec.getLsbD_sshiftRight, BitVec.msb_eq_getLsbD_last]
  simp [hi]
theorem pk_us {f : Nat → Int32} {k : Nat} {x : Int32} : upd f k x k = x := if_pos rfl
theorem pk_un {f : Nat → Int32} {k j : Nat} {x : Int32} (h : j ≠ k) : upd f k x j = f j := if_neg h
theorem pk_and (x : Int32) {m : Int32} (k : Nat) (hm : m.toBitVec.toNat = 2 ^ k - 1) : x &&& m = nI (x.toBitVec.toNat % 2 ^ k) := by
  apply Int32.toBitVec_inj.mp
  apply BitVec.eq_of_toNat_eq
  rw [Int32.toBitVec_and, BitVec.toNat_and, hm, Nat.and_two_pow_sub_one_eq_mod]
  show _ = (BitVec.ofNat 32 _).toNat
  rw [BitVec.toNat_ofNat]
  exact (Nat.mod_eq_of_lt (Nat.lt_of_le_of_lt (Nat.mod_le _ _) x.toBitVec.isLt)).symm
theorem pk_andE (x : Int32) {m : Int32} (k : Nat) (hm : m.toBitVec.toNat = 2 ^ k - 1) : ∃ j : Nat, j < 2 ^ k ∧ x &&& m = nI j := ⟨_, Nat.mod_lt _ (Nat.two_pow_pos k), pk_and x k hm⟩
/-! ===== one bit of a set: the two tests for it ===== -/
theorem cu_cnt (s : Int32) : ∃ n : Nat, n < 32 ∧ s &&& 31 = nI n &&& 31 := by
  obtain ⟨n, hn, e⟩ := pk_andE s (m := 31) 5 (by decide)
  refine ⟨n, hn, ?_⟩
  have h : ∀ n, n < 32 → nI n = nI n &&& 31 := by decide +kernel
  rw [e]
  exact h n hn
theorem cu_b1 : ∀ i, i < 32 → bt 1 i = decide (i = 0) := by decide +kernel
theorem cu_bm (n : Nat) (hn : n < 32) {i : Nat} (hi : i < 32) : bt ((1 : Int32) <<< (nI n &&& 31)) i = decide (i = n) := by
  rw [b_shl n hn _ hi, cu_b1 _ (by omega)]
  by_cases h : n ≤ i
  · by_cases h2 : i = n
    · simp [h2]
    · have h3 : ¬ i - n = 0 := by omega
      simp [h, h2, h3]
  · have h2 : ¬ i = n := by omega
    simp [h, h2]
theorem cu_X (f : Int32) (n : Nat) (hn : n < 32) : (f &&& ((1 : Int32) <<< (nI n &&& 31))) = (1 : Int32) <<< (nI n &&& 31) ↔ bt f n = true := by
  constructor
  · intro h
    have t := congrArg (fun x => bt x n) h
    rw [b_and, cu_bm n hn hn] at t
    simpa using t
  · intro h
    apply b_ext
    intro i hi
    rw [b_and, cu_bm n hn hi]
    by_cases e : i = n
    · rw [e, h, Bool.true_and]
    · simp [e]
theorem cu_X0 (f : Int32) (n : Nat) (hn : n < 32) : (f &&& ((1 : Int32) <<< (nI n &&& 31))) = 0 ↔ ¬ bt f n = true := by
  constructor
  · intro h h2
    have t := congrArg (fun x => bt x n) h
    rw [b_and, cu_bm n hn hn, b_0, h2] at t
    simp at t
  · intro h
    apply b_ext
    intro i hi
    rw [b_and, cu_bm n hn hi, b_0]
    by_cases e : i = n
    · rw [e]
      cases hb : bt f n
      · rfl
      · exact absurd hb h
    · simp [e]
theorem cu_Y (f : Int32) (n : Nat) (hn : n < 32) : ((f >>> (nI n &&& 31)) &&& 1) = 1 ↔ bt f n = true := by
  constructor
  · intro h
    have t := congrArg (fun x => bt x 0) h
    rw [b_and, b_sshr n hn f (by omega), cu_b1 0 (by omega), if_pos (by omega)] at t
    simpa using t
  · intro h
    apply b_ext
    intro i hi
    rw [b_and, cu_b1 i hi]
    by_cases e : i = 0
    · rw [e, b_sshr n hn f (by omega), if_pos (by omega), Nat.add_zero, h]; rfl
    · simp [e]
theorem cu_bit (f s : Int32) : (f &&& ((1 : Int32) <<< (s &&& 31))) = (1 : Int32) <<< (s &&& 31) ↔ ((f >>> (s &&& 31)) &&& 1) = 1 := by
  obtain ⟨n, hn, e⟩ := cu_cnt s
  rw [e, cu_X f n hn, cu_Y f n hn]
theorem cu_bit0 (f s : Int32) : (f &&& ((1 : Int32) <<< (s &&& 31))) = 0 ↔ ¬ ((f >>> (s &&& 31)) &&& 1) = 1 := by
  obtain ⟨n, hn, e⟩ := cu_cnt s
  rw [e, cu_X0 f n hn, cu_Y f n hn]
theorem cu_or (f a b : Int32) : (f &&& (a ||| b)) = a ||| b ↔ (f &&& a) = a ∧ (f &&& b) = b := by
  constructor
  · intro h
    have t : ∀ i, (bt f i && (bt a i || bt b i)) = (bt a i || bt b i) := by
      intro i
      rw [← b_or, ← b_and, h]
    constructor
    · apply b_ext
      intro i _
      have t := t i
      rw [b_and]
      revert t
      cases bt f i <;> cases bt a i <;> cases bt b i <;> decide
    · apply b_ext
      intro i _
      have t := t i
      rw [b_and]
      revert t
      cases bt f i <;> cases bt a i <;> cases bt b i <;> decide
  · intro ⟨h1, h2⟩
    apply b_ext
    intro i _
    rw [b_and, b_or]
    have t1 : (bt f i && bt a i) = bt a i := by rw [← b_and, h1]
    have t2 : (bt f i && bt b i) = bt b i := by rw [← b_and, h2]
    revert t1 t2
    cases bt f i <;> cases bt a i <;> cases bt b i <;> decide
theorem cu_g0 (g : Int32) : (g &&& 1) = 0 ↔ ¬ ((g >>> ((0 : Int32) &&& 31)) &&& 1) = 1 := cu_bit0 g 0
theorem cu_g1 (g : Int32) : (g &&& 2) = 0 ↔ ¬ ((g >>> ((1 : Int32) &&& 31)) &&& 1) = 1 := cu_bit0 g 1
theorem cu_g2 (g : Int32) : (g &&& 4) = 0 ↔ ¬ ((g >>> ((2 : Int32) &&& 31)) &&& 1) = 1 := cu_bit0 g 2
end
section
/-! ===== pure values: what both sides ask of a place ===== -/
abbrev cu_reg (p : Int32) : Int32 := p - p / 4 * 4
abbrev cu_kin (p : Int32) : Int32 := (p / 4) - (p / 4) / 5 * 5
abbrev cu_mon (p : Int32) : Int32 := p / 20
abbrev cu_need (p : Int32) : Int32 := (((1 : Int32) <<< (cu_reg p &&& 31)) ||| ((1 : Int32) <<< ((4 + cu_kin p) &&& 31))) ||| ((1 : Int32) <<< ((9 + cu_mon p) &&& 31))
abbrev cu_ps (p f : Int32) : Prop := (f &&& cu_need p) = cu_need p
theorem cu_psY (p f : Int32) : cu_ps p f ↔ ((f >>> (cu_reg p &&& 31)) &&& 1) = 1 ∧ ((f >>> ((4 + cu_kin p) &&& 31)) &&& 1) = 1 ∧ ((f >>> ((9 + cu_mon p) &&& 31)) &&& 1) = 1 := by
  unfold cu_ps cu_need
  rw [cu_or, cu_or, cu_bit, cu_bit, cu_bit, and_assoc]
def cu_gr (p g : Int32) : Int32 := ((if (g &&& 1) = 0 then 0 else cu_reg p) + 4 * (if (g &&& 2) = 0 then 0 else cu_kin p)) + 20 * (if (g &&& 4) = 0 then 0 else cu_mon p)
theorem cu_Xp {post : Int32 → Prop} {p f : Int32} (h1 : cu_ps p f → post 1) (h0 : ¬ cu_ps p f → post 0) : wpX_passes post p f := by
  unfold wpX_passes wpX_regionOf
  refine ⟨by decide, fun x2 e2 => ?_⟩
  unfold wpX_kindOf
  refine ⟨by decide, by decide, fun x3 e3 => ?_⟩
  unfold wpX_monthOf
  refine ⟨by decide, fun x4 e4 x5 e5 => ?_⟩
  subst e2 e3 e4 e5
  exact ⟨h1, h0⟩
theorem cu_Yr {post : Int32 → Prop} {v : SY} {p : Int32} (h : post (cu_reg p)) : wpY_region post v p := by
  obtain ⟨a, b, c, d, e⟩ := v
  exact ⟨by decide, h⟩
theorem cu_Yk {post : Int32 → Prop} {v : SY} {p : Int32} (h : post (cu_kin p)) : wpY_kind post v p := by
  obtain ⟨a, b, c, d, e⟩ := v
  exact ⟨by decide, by decide, h⟩
theorem cu_Ym {post : Int32 → Prop} {v : SY} {p : Int32} (h : post (cu_mon p)) : wpY_month post v p := by
  obtain ⟨a, b, c, d, e⟩ := v
  exact ⟨by decide, h⟩
theorem cu_Yh {post : Int32 → Prop} {v : SY} {f s : Int32} (h1 : ((f >>> (s &&& 31)) &&& 1) = 1 → post 1) (h0 : ¬ ((f >>> (s &&& 31)) &&& 1) = 1 → post 0) : wpY_has post v f s := by
  obtain ⟨a, b, c, d, e⟩ := v
  exact ⟨h1, h0⟩
theorem cu_10 : ¬ (1 : Int32) = 0 := by decide
theorem cu_Yp {post : Int32 → Prop} {v : SY} {p f : Int32} (h1 : cu_ps p f → post 1) (h0 : ¬ cu_ps p f → post 0) : wpY_passes post v p f := by
  obtain ⟨a, b, c, d, e⟩ := v
  have k1 := fun z => h1 ((cu_psY p f).mpr z)
  have k0 : ¬ _ → post 0 := fun z => h0 (fun w => z ((cu_psY p f).mp w))
  unfold wpY_passes
  dsimp only
  refine cu_Yr ?_
  refine cu_Yh (fun ha => br_f cu_10 ?_) (fun ha => br_t rfl (k0 fun z => ha z.1))
  refine cu_Yk ?_
  refine cu_Yh (fun hb => br_f cu_10 ?_) (fun hb => br_t rfl (k0 fun z => hb z.2.1))
  refine cu_Ym ?_
  exact cu_Yh (fun hc => br_f cu_10 (k1 ⟨ha, hb, hc⟩)) (fun hc => br_t rfl (k0 fun z => hc z.2.2))
theorem cu_Xg {post : Int32 → Prop} {p g : Int32} (h : post (cu_gr p g)) : wpX_groupOf post p g := by
  have e30 : ∀ z : Int32, post (z + 20 * (if (g &&& 4) = 0 then 0 else cu_mon p)) → wX_groupOf_30 post p g z := by
    intro z hz
    by_cases c : (g &&& 4) = 0
    · rw [if_pos c, Int32.mul_zero, Int32.add_zero] at hz
      exact br_t c hz
    · rw [if_neg c] at hz
      exact br_f c ⟨by decide, fun y ey => by rw [ey]; exact hz⟩
  have e15 : ∀ z : Int32, post ((z + 4 * (if (g &&& 2) = 0 then 0 else cu_kin p)) + 20 * (if (g &&& 4) = 0 then 0 else cu_mon p)) → wX_groupOf_15 post p g z := by
    intro z hz
    by_cases c : (g &&& 2) = 0
    · rw [if_pos c, Int32.mul_zero, Int32.add_zero] at hz
      exact br_t c (e30 _ hz)
    · rw [if_neg c] at hz
      exact br_f c ⟨by decide, by decide, fun y ey => by rw [ey]; exact e30 _ hz⟩
  unfold cu_gr at h
  by_cases c : (g &&& 1) = 0
  · rw [if_pos c] at h
    exact br_t c (e15 _ h)
  · rw [if_neg c] at h
    exact br_f c ⟨by decide, fun y ey => by rw [ey, Int32.zero_add]; exact e15 _ h⟩
theorem cu_Yg {post : Int32 → Prop} {v : SY} {p g : Int32} (h : post (cu_gr p g)) : wpY_groupOf post v p g := by
  obtain ⟨a1, a2, a3, a4, a5⟩ := v
  have e37 : ∀ y z : Int32, post ((y + 4 * z) + 20 * (if (g &&& 4) = 0 then 0 else cu_mon p)) → wY_groupOf_37 post p g y z a1 a2 a3 a4 a5 := by
    intro y z hz
    unfold wY_groupOf_37
    refine cu_Yh (fun c => br_f cu_10 ?_) (fun c => br_t rfl ?_)
    · rw [if_neg (fun w => (cu_g2 g).mp w c)] at hz
      exact cu_Ym hz
    · rw [if_pos ((cu_g2 g).mpr c)] at hz
      exact hz
  have e18 : ∀ y : Int32, post ((y + 4 * (if (g &&& 2) = 0 then 0 else cu_kin p)) + 20 * (if (g &&& 4) = 0 then 0 else cu_mon p)) → wY_groupOf_18 post p g y a1 a2 a3 a4 a5 := by
    intro y hz
    unfold wY_groupOf_18
    refine cu_Yh (fun c => br_f cu_10 ?_) (fun c => br_t rfl ?_)
    · rw [if_neg (fun w => (cu_g1 g).mp w c)] at hz
      exact cu_Yk (e37 _ _ hz)
    · rw [if_pos ((cu_g1 g).mpr c)] at hz
      exact e37 _ _ hz
  unfold cu_gr at h
  unfold wpY_groupOf
  dsimp only
  refine cu_Yh (fun c => br_f cu_10 ?_) (fun c => br_t rfl ?_)
  · rw [if_neg (fun w => (cu_g0 g).mp w c)] at h
    exact cu_Yr (e18 _ h)
  · rw [if_pos ((cu_g0 g).mpr c)] at h
    exact e18 _ h
/-! ===== the facts of a group that pass: their number and their sum ===== -/
def cu_in (pl : Nat → Int32) (x g f : Int32) (i : Nat) : Bool := decide (cu_ps (pl i) f) && decide (cu_gr (pl i) g = x)
theorem cu_in_t {pl : Nat → Int32} {x g f : Int32} {i : Nat} (h1 : cu_ps (pl i) f) (h2 : cu_gr (pl i) g = x) : cu_in pl x g f i = true := by
  unfold cu_in; rw [decide_eq_true h1, decide_eq_true h2]; rfl
theorem cu_in_p {pl : Nat → Int32} {x g f : Int32} {i : Nat} (h1 : ¬ cu_ps (pl i) f) : cu_in pl x g f i = false := by
  unfold cu_in; rw [decide_eq_false h1]; rfl
theorem cu_in_g {pl : Nat → Int32} {x g f : Int32} {i : Nat} (h2 : ¬ cu_gr (pl i) g = x) : cu_in pl x g f i = false := by
  unfold cu_in; rw [decide_eq_false h2, Bool.and_false]
def cu_mem (b : Nat → Bool) : Nat → Int32
  | 0 => 0
  | i + 1 => if b i = true then cu_mem b i + 1 else cu_mem b i
def cu_tot (b : Nat → Bool) (a : Nat → Int32) : Nat → Int32
  | 0 => 0
  | i + 1 => if b i = true then cu_tot b a i + a i else cu_tot b a i
theorem cu_mem_t {b : Nat → Bool} {i : Nat} (h : b i = true) : cu_mem b (i + 1) = cu_mem b i + 1 := if_pos h
theorem cu_mem_f {b : Nat → Bool} {i : Nat} (h : b i = false) : cu_mem b (i + 1) = cu_mem b i := if_neg (by rw [h]; decide)
theorem cu_tot_t {b : Nat → Bool} {a : Nat → Int32} {i : Nat} (h : b i = true) : cu_tot b a (i + 1) = cu_tot b a i + a i := if_pos h
theorem cu_tot_f {b : Nat → Bool} {a : Nat → Int32} {i : Nat} (h : b i = false) : cu_tot b a (i + 1) = cu_tot b a i := if_neg (by rw [h]; decide)
theorem cu_Xm6 {post : Int32 → Prop} (x g f : Int32) {s : Nat} (hs : s ≤ 40) (pl am : Nat → Int32) (hp : post (cu_mem (cu_in pl x g f) s)) : ∀ d i : Nat, i + d = s → wX_membersOf_6 post x g f (nI s) pl am (d + 1) (cu_mem (cu_in pl x g f) i) (nI i) := by
  intro d
  induction d with
  | zero =>
    intro i hi
    have e : i = s := by omega
    subst e
    exact br_t (nI_le (Nat.le_refl _) (by omega)) hp
  | succ d ih =>
    intro i hi
    have h : ¬ nI s ≤ nI i := nI_ge (by omega) (by omega)
    have hin : vp_in (nI i) 40 := vp_in_nI (by omega) (by omega)
    have hc : (nI i).toNatClampNeg = i := nI_clamp (by omega)
    have J := ih (i + 1) (by omega)
    refine br_f h ⟨hin, ?_⟩
    rw [hc]
    refine cu_Xp (fun h1 => br_f cu_10 ⟨hin, ?_⟩) (fun h1 => br_t rfl (nm_r (nI_1 i) ?_))
    · refine cu_Xg ?_
      refine br_c (fun h2 => ?_) (fun h2 => nm_r (nI_1 i) ?_)
      · rw [cu_mem_t (cu_in_t h1 h2)] at J
        exact nm_e (nm_r (nI_1 i) J)
      · rw [cu_mem_f (cu_in_g h2)] at J
        exact J
    · rw [cu_mem_f (cu_in_p h1)] at J
      exact J
theorem cu_Xm {post : Int32 → Prop} {x g f : Int32} {s : Nat} (hs : s ≤ 40) {pl am : Nat → Int32} (hp : post (cu_mem (cu_in pl x g f) s)) : wpX_membersOf post (nI s, pl, am) x g f :=
  ⟨s + 1, cu_Xm6 x g f hs pl am hp s 0 (by omega)⟩
theorem cu_Xt6 {post : Int32 → Prop} (x g f : Int32) {s : Nat} (hs : s ≤ 40) (pl am : Nat → Int32) (hp : post (cu_tot (cu_in pl x g f) am s)) : ∀ d i : Nat, i + d = s → wX_totalOf_6 post x g f (nI s) pl am (d + 1) (cu_tot (cu_in pl x g f) am i) (nI i) := by
  intro d
  induction d with
  | zero =>
    intro i hi
    have e : i = s := by omega
    subst e
    exact br_t (nI_le (Nat.le_refl _) (by omega)) hp
  | succ d ih =>
    intro i hi
    have h : ¬ nI s ≤ nI i := nI_ge (by omega) (by omega)
    have hin : vp_in (nI i) 40 := vp_in_nI (by omega) (by omega)
    have hc : (nI i).toNatClampNeg = i := nI_clamp (by omega)
    have J := ih (i + 1) (by omega)
    refine br_f h ⟨hin, ?_⟩
    rw [hc]
    refine cu_Xp (fun h1 => br_f cu_10 ⟨hin, ?_⟩) (fun h1 => br_t rfl (nm_r (nI_1 i) ?_))
    · refine cu_Xg ?_
      refine br_c (fun h2 => ⟨hin, ?_⟩) (fun h2 => nm_r (nI_1 i) ?_)
      · rw [cu_tot_t (cu_in_t h1 h2)] at J
        exact nm_e (nm_r (nI_1 i) J)
      · rw [cu_tot_f (cu_in_g h2)] at J
        exact J
    · rw [cu_tot_f (cu_in_p h1)] at J
      exact J
theorem cu_Xt {post : Int32 → Prop} {x g f : Int32} {s : Nat} (hs : s ≤ 40) {pl am : Nat → Int32} (hp : post (cu_tot (cu_in pl x g f) am s)) : wpX_totalOf post (nI s, pl, am) x g f :=
  ⟨s + 1, cu_Xt6 x g f hs pl am hp s 0 (by omega)⟩
theorem cu_Yl13 {post : SY → Prop} (x g f : Int32) {s : Nat} (hs : s ≤ 40) (pl am : Nat → Int32) (hp : post (nI s, cu_mem (cu_in pl x g f) s, cu_tot (cu_in pl x g f) am s, pl, am)) : ∀ d i : Nat, i + d = s → wY_look_13 post x g f (nI s) pl am (d + 1) (nI i) (cu_mem (cu_in pl x g f) i) (cu_tot (cu_in pl x g f) am i) := by
  intro d
  induction d with
  | zero =>
    intro i hi
    have e : i = s := by omega
    subst e
    exact br_t (nI_le (Nat.le_refl _) (by omega)) hp
  | succ d ih =>
    intro i hi
    have h : ¬ nI s ≤ nI i := nI_ge (by omega) (by omega)
    have hin : vp_in (nI i) 40 := vp_in_nI (by omega) (by omega)
    have hc : (nI i).toNatClampNeg = i := nI_clamp (by omega)
    have J := ih (i + 1) (by omega)
    refine br_f h ⟨hin, ?_⟩
    rw [hc]
    refine cu_Yg ?_
    refine br_c (fun h2 => ⟨hin, ?_⟩) (fun h2 => nm_r (nI_1 i) ?_)
    · refine cu_Yp (fun h1 => br_f cu_10 ?_) (fun h1 => br_t rfl (nm_r (nI_1 i) ?_))
      · rw [cu_mem_t (cu_in_t h1 h2), cu_tot_t (cu_in_t h1 h2)] at J
        exact nm_e ⟨hin, nm_e (nm_r (nI_1 i) J)⟩
      · rw [cu_mem_f (cu_in_p h1), cu_tot_f (cu_in_p h1)] at J
        exact J
    · rw [cu_mem_f (cu_in_g h2), cu_tot_f (cu_in_g h2)] at J
      exact J
theorem cu_Yl {post : SY → Prop} {x g f : Int32} {s : Nat} (hs : s ≤ 40) {a b : Int32} {pl am : Nat → Int32} (hp : post (nI s, cu_mem (cu_in pl x g f) s, cu_tot (cu_in pl x g f) am s, pl, am)) : wpY_look post (nI s, a, b, pl, am) x g f :=
  ⟨s + 1, cu_Yl13 x g f hs pl am hp s 0 (by omega)⟩
end
section
/-! ===== the loops over the groups 0 to 119 ===== -/
theorem cu_120 : nI 120 = 120 := by decide +kernel
theorem cu_le120 {j : Nat} (h : 120 ≤ j) (hj : j < 1000) : (120 : Int32) ≤ nI j := by rw [← cu_120]; exact nI_le h (by omega)
theorem cu_nle120 {j : Nat} (h : j < 120) : ¬ (120 : Int32) ≤ nI j := by rw [← cu_120]; exact nI_ge h (by omega)
abbrev cu_M (pl : Nat → Int32) (s : Nat) (g f x : Int32) : Int32 := cu_mem (cu_in pl x g f) s
abbrev cu_T (pl am : Nat → Int32) (s : Nat) (g f x : Int32) : Int32 := cu_tot (cu_in pl x g f) am s
def cu_grs (M : Int32 → Int32) : Nat → Int32
  | 0 => 0
  | j + 1 => if M (nI j) ≤ 0 then cu_grs M j else cu_grs M j + 1
theorem cu_grs_t {M : Int32 → Int32} {j : Nat} (h : M (nI j) ≤ 0) : cu_grs M (j + 1) = cu_grs M j := if_pos h
theorem cu_grs_f {M : Int32 → Int32} {j : Nat} (h : ¬ M (nI j) ≤ 0) : cu_grs M (j + 1) = cu_grs M j + 1 := if_neg h
theorem cu_Xgrs {post : Int32 → Prop} (g f : Int32) {s : Nat} (hs : s ≤ 40) (pl am : Nat → Int32) (hp : post (cu_grs (cu_M pl s g f) 120)) : ∀ d j : Nat, j + d = 120 → wX_groups_22 post g f (nI s) pl am (d + 1) (cu_grs (cu_M pl s g f) j) (nI j) := by
  intro d
  induction d with
  | zero =>
    intro j hj
    have e : j = 120 := by omega
    subst e
    exact br_t (cu_le120 (Nat.le_refl _) (by omega)) hp
  | succ d ih =>
    intro j hj
    have J := ih (j + 1) (by omega)
    refine br_f (cu_nle120 (by omega)) ?_
    refine cu_Xm hs ?_
    refine br_c (fun h => nm_r (nI_1 j) ?_) (fun h => ?_)
    · rw [cu_grs_t (M := cu_M pl s g f) (j := j) h] at J
      exact J
    · rw [cu_grs_f (M := cu_M pl s g f) (j := j) h] at J
      exact nm_e (nm_r (nI_1 j) J)
theorem cu_Ygrs {post : Int32 → SY → Prop} (g f : Int32) {s : Nat} (hs : s ≤ 40) (pl am : Nat → Int32) (hp : ∀ a b : Int32, post (cu_grs (cu_M pl s g f) 120) (nI s, a, b, pl, am)) : ∀ d j : Nat, j + d = 120 → ∀ a b : Int32, wY_groups_24 post g f (d + 1) (cu_grs (cu_M pl s g f) j) (nI j) (nI s) a b pl am := by
  intro d
  induction d with
  | zero =>
    intro j hj a b
    have e : j = 120 := by omega
    subst e
    exact br_t (cu_le120 (Nat.le_refl _) (by omega)) (hp a b)
  | succ d ih =>
    intro j hj a b
    have J := ih (j + 1) (by omega)
    refine br_f (cu_nle120 (by omega)) ?_
    refine cu_Yl hs ?_
    refine br_c (fun h => nm_r (nI_1 j) ?_) (fun h => ?_)
    · rw [cu_grs_t (M := cu_M pl s g f) (j := j) h] at J
      exact J _ _
    · rw [cu_grs_f (M := cu_M pl s g f) (j := j) h] at J
      exact nm_e (nm_r (nI_1 j) (J _ _))
def cu_als (M T : Int32 → Int32) (x : Int32) : Nat → Int32
  | 0 => 0
  | j + 1 => if M (nI j) ≤ 0 then cu_als M T x j else if T (nI j) < x then cu_als M T x j else cu_als M T x j + 1
theorem cu_als_m {M T : Int32 → Int32} {x : Int32} {j : Nat} (h : M (nI j) ≤ 0) : cu_als M T x (j + 1) = cu_als M T x j := if_pos h
theorem cu_als_t {M T : Int32 → Int32} {x : Int32} {j : Nat} (h : ¬ M (nI j) ≤ 0) (h2 : T (nI j) < x) : cu_als M T x (j + 1) = cu_als M T x j := (if_neg h).trans (if_pos h2)
theorem cu_als_f {M T : Int32 → Int32} {x : Int32} {j : Nat} (h : ¬ M (nI j) ≤ 0) (h2 : ¬ T (nI j) < x) : cu_als M T x (j + 1) = cu_als M T x j + 1 := (if_neg h).trans (if_neg h2)
theorem cu_Xals {post : Int32 → Prop} (g x : Int32) {s : Nat} (hs : s ≤ 40) (pl am : Nat → Int32) (hp : post (cu_als (cu_M pl s g 32767) (cu_T pl am s g 32767) x 120)) : ∀ d j : Nat, j + d = 120 → wX_atLeast_15 post g x (nI s) pl am (d + 1) (cu_als (cu_M pl s g 32767) (cu_T pl am s g 32767) x j) (nI j) := by
  intro d
  induction d with
  | zero =>
    intro j hj
    have e : j = 120 := by omega
    subst e
    exact br_t (cu_le120 (Nat.le_refl _) (by omega)) hp
  | succ d ih =>
    intro j hj
    have J := ih (j + 1) (by omega)
    refine br_f (cu_nle120 (by omega)) ?_
    refine cu_Xm hs ?_
    refine br_c (fun h => nm_r (nI_1 j) ?_) (fun h => ?_)
    · rw [cu_als_m (M := cu_M pl s g 32767) (T := cu_T pl am s g 32767) (x := x) (j := j) h] at J
      exact J
    · refine cu_Xt hs ?_
      refine br_c (fun h2 => nm_r (nI_1 j) ?_) (fun h2 => ?_)
      · rw [cu_als_t (M := cu_M pl s g 32767) (T := cu_T pl am s g 32767) (x := x) (j := j) h h2] at J
        exact J
      · rw [cu_als_f (M := cu_M pl s g 32767) (T := cu_T pl am s g 32767) (x := x) (j := j) h h2] at J
        exact nm_e (nm_r (nI_1 j) J)
theorem cu_Yals {post : Int32 → SY → Prop} (g x : Int32) {s : Nat} (hs : s ≤ 40) (pl am : Nat → Int32) (hp : ∀ a b : Int32, post (cu_als (cu_M pl s g 32767) (cu_T pl am s g 32767) x 120) (nI s, a, b, pl, am)) : ∀ d j : Nat, j + d = 120 → ∀ a b : Int32, wY_atLeast_16 post g x (d + 1) (cu_als (cu_M pl s g 32767) (cu_T pl am s g 32767) x j) (nI j) (nI s) a b pl am := by
  intro d
  induction d with
  | zero =>
    intro j hj a b
    have e : j = 120 := by omega
    subst e
    exact br_t (cu_le120 (Nat.le_refl _) (by omega)) (hp a b)
  | succ d ih =>
    intro j hj a b
    have J := ih (j + 1) (by omega)
    refine br_f (cu_nle120 (by omega)) ?_
    refine cu_Yl hs ?_
    refine br_c (fun h => nm_r (nI_1 j) ?_) (fun h => ?_)
    · rw [cu_als_m (M := cu_M pl s g 32767) (T := cu_T pl am s g 32767) (x := x) (j := j) h] at J
      exact J _ _
    · refine br_c (fun h2 => nm_r (nI_1 j) ?_) (fun h2 => ?_)
      · rw [cu_als_t (M := cu_M pl s g 32767) (T := cu_T pl am s g 32767) (x := x) (j := j) h h2] at J
        exact J _ _
      · rw [cu_als_f (M := cu_M pl s g 32767) (T := cu_T pl am s g 32767) (x := x) (j := j) h h2] at J
        exact nm_e (nm_r (nI_1 j) (J _ _))
/-! ===== the greatest sum and the least group that has it ===== -/
def cu_ts (M T : Int32 → Int32) : Nat → Int32
  | 0 => -4000000
  | j + 1 => if M (nI j) ≤ 0 then cu_ts M T j else if T (nI j) ≤ cu_ts M T j then cu_ts M T j else T (nI j)
theorem cu_ts_m {M T : Int32 → Int32} {j : Nat} (h : M (nI j) ≤ 0) : cu_ts M T (j + 1) = cu_ts M T j := if_pos h
theorem cu_ts_t {M T : Int32 → Int32} {j : Nat} (h : ¬ M (nI j) ≤ 0) (h2 : T (nI j) ≤ cu_ts M T j) : cu_ts M T (j + 1) = cu_ts M T j := (if_neg h).trans (if_pos h2)
theorem cu_ts_f {M T : Int32 → Int32} {j : Nat} (h : ¬ M (nI j) ≤ 0) (h2 : ¬ T (nI j) ≤ cu_ts M T j) : cu_ts M T (j + 1) = T (nI j) := (if_neg h).trans (if_neg h2)
def cu_tg (M T : Int32 → Int32) : Nat → Int32
  | 0 => -4000000
  | j + 1 => if M (nI j) ≤ 0 then cu_tg M T j else if T (nI j) ≤ cu_ts M T j then cu_tg M T j else nI j
theorem cu_tg_m {M T : Int32 → Int32} {j : Nat} (h : M (nI j) ≤ 0) : cu_tg M T (j + 1) = cu_tg M T j := if_pos h
theorem cu_tg_t {M T : Int32 → Int32} {j : Nat} (h : ¬ M (nI j) ≤ 0) (h2 : T (nI j) ≤ cu_ts M T j) : cu_tg M T (j + 1) = cu_tg M T j := (if_neg h).trans (if_pos h2)
theorem cu_tg_f {M T : Int32 → Int32} {j : Nat} (h : ¬ M (nI j) ≤ 0) (h2 : ¬ T (nI j) ≤ cu_ts M T j) : cu_tg M T (j + 1) = nI j := (if_neg h).trans (if_neg h2)
theorem cu_nIN {j : Nat} (h : j < 1000) : ¬ nI j = -4000000 := by
  intro e
  have t := congrArg Int32.toInt e
  rw [nI_toInt (by omega)] at t
  have t2 : (-4000000 : Int32).toInt = -4000000 := by decide
  omega
/-- none yet: both say so; some: the group's own sum is the greatest -/
theorem cu_tt {M T : Int32 → Int32} : ∀ j : Nat, j ≤ 120 → (cu_tg M T j = -4000000 → cu_ts M T j = -4000000) ∧ (¬ cu_tg M T j = -4000000 → cu_ts M T j = T (cu_tg M T j)) := by
  intro j
  induction j with
  | zero => intro _; exact ⟨fun _ => rfl, fun h => absurd rfl h⟩
  | succ j ih =>
    intro hj
    have J := ih (by omega)
    by_cases h : M (nI j) ≤ 0
    · rw [cu_tg_m h, cu_ts_m h]; exact J
    · by_cases h2 : T (nI j) ≤ cu_ts M T j
      · rw [cu_tg_t h h2, cu_ts_t h h2]; exact J
      · rw [cu_tg_f h h2, cu_ts_f h h2]
        exact ⟨fun z => absurd z (cu_nIN (by omega)), fun _ => rfl⟩
theorem cu_Xfb {post : Int32 → Prop} (g f : Int32) {s : Nat} (hs : s ≤ 40) (pl am : Nat → Int32) (hT : ∀ x : Int32, ¬ cu_T pl am s g f x ≤ -4000000) (hp : post (cu_tg (cu_M pl s g f) (cu_T pl am s g f) 120)) : ∀ d j : Nat, j + d = 120 → ∀ x4 : Int32, (¬ cu_tg (cu_M pl s g f) (cu_T pl am s g f) j = -4000000 → x4 = cu_ts (cu_M pl s g f) (cu_T pl am s g f) j) → wX_firstBestGroup_9 post g f (nI s) pl am (d + 1) (cu_tg (cu_M pl s g f) (cu_T pl am s g f) j) x4 (nI j) := by
  intro d
  induction d with
  | zero =>
    intro j hj x4 hx
    have e : j = 120 := by omega
    subst e
    exact br_t (cu_le120 (Nat.le_refl _) (by omega)) hp
  | succ d ih =>
    intro j hj x4 hx
    have J := ih (j + 1) (by omega)
    have K := cu_tt (M := cu_M pl s g f) (T := cu_T pl am s g f) j (by omega)
    refine br_f (cu_nle120 (by omega)) ?_
    refine cu_Xm hs ?_
    refine br_c (fun h => nm_r (nI_1 j) ?_) (fun h => ?_)
    · rw [cu_tg_m (M := cu_M pl s g f) (T := cu_T pl am s g f) (j := j) h, cu_ts_m (M := cu_M pl s g f) (T := cu_T pl am s g f) (j := j) h] at J
      exact J x4 hx
    · refine cu_Xt hs ?_
      refine br_c (fun h3 => nm_r (nI_1 j) ?_) (fun h3 => ?_)
      · have h2 : ¬ cu_T pl am s g f (nI j) ≤ cu_ts (cu_M pl s g f) (cu_T pl am s g f) j := by rw [K.1 h3]; exact hT _
        rw [cu_tg_f (M := cu_M pl s g f) (T := cu_T pl am s g f) (j := j) h h2, cu_ts_f (M := cu_M pl s g f) (T := cu_T pl am s g f) (j := j) h h2] at J
        exact J _ (fun _ => rfl)
      · rw [hx h3]
        refine br_c (fun h2 => nm_r (nI_1 j) ?_) (fun h2 => nm_r (nI_1 j) ?_)
        · rw [cu_tg_t (M := cu_M pl s g f) (T := cu_T pl am s g f) (j := j) h h2, cu_ts_t (M := cu_M pl s g f) (T := cu_T pl am s g f) (j := j) h h2] at J
          exact J _ (fun _ => rfl)
        · rw [cu_tg_f (M := cu_M pl s g f) (T := cu_T pl am s g f) (j := j) h h2, cu_ts_f (M := cu_M pl s g f) (T := cu_T pl am s g f) (j := j) h h2] at J
          exact J _ (fun _ => rfl)
theorem cu_Yts {post : Int32 → SY → Prop} (g f : Int32) {s : Nat} (hs : s ≤ 40) (pl am : Nat → Int32) (hp : ∀ a b : Int32, post (cu_ts (cu_M pl s g f) (cu_T pl am s g f) 120) (nI s, a, b, pl, am)) : ∀ d j : Nat, j + d = 120 → ∀ a b : Int32, wY_topSum_25 post g f (d + 1) (cu_ts (cu_M pl s g f) (cu_T pl am s g f) j) (nI j) (nI s) a b pl am := by
  intro d
  induction d with
  | zero =>
    intro j hj a b
    have e : j = 120 := by omega
    subst e
    exact br_t (cu_le120 (Nat.le_refl _) (by omega)) (hp a b)
  | succ d ih =>
    intro j hj a b
    have J := ih (j + 1) (by omega)
    refine br_f (cu_nle120 (by omega)) ?_
    refine cu_Yl hs ?_
    refine br_c (fun h => nm_r (nI_1 j) ?_) (fun h => ?_)
    · rw [cu_ts_m (M := cu_M pl s g f) (T := cu_T pl am s g f) (j := j) h] at J
      exact J _ _
    · refine br_c (fun h2 => nm_r (nI_1 j) ?_) (fun h2 => nm_r (nI_1 j) ?_)
      · rw [cu_ts_t (M := cu_M pl s g f) (T := cu_T pl am s g f) (j := j) h h2] at J
        exact J _ _
      · rw [cu_ts_f (M := cu_M pl s g f) (T := cu_T pl am s g f) (j := j) h h2] at J
        exact J _ _
theorem cu_Ytg {post : Int32 → SY → Prop} (g f : Int32) {s : Nat} (hs : s ≤ 40) (pl am : Nat → Int32) (hp : ∀ a b : Int32, post (cu_tg (cu_M pl s g f) (cu_T pl am s g f) 120) (nI s, a, b, pl, am)) : ∀ d j : Nat, j + d = 120 → ∀ a b : Int32, wY_topGroup_29 post g f (d + 1) (cu_ts (cu_M pl s g f) (cu_T pl am s g f) j) (cu_tg (cu_M pl s g f) (cu_T pl am s g f) j) (nI j) (nI s) a b pl am := by
  intro d
  induction d with
  | zero =>
    intro j hj a b
    have e : j = 120 := by omega
    subst e
    exact br_t (cu_le120 (Nat.le_refl _) (by omega)) (hp a b)
  | succ d ih =>
    intro j hj a b
    have J := ih (j + 1) (by omega)
    refine br_f (cu_nle120 (by omega)) ?_
    refine cu_Yl hs ?_
    refine br_c (fun h => br_t h (nm_r (nI_1 j) ?_)) (fun h => ?_)
    · rw [cu_ts_m (M := cu_M pl s g f) (T := cu_T pl am s g f) (j := j) h, cu_tg_m (M := cu_M pl s g f) (T := cu_T pl am s g f) (j := j) h] at J
      exact J _ _
    · refine br_c (fun h2 => br_f h (br_t h2 (nm_r (nI_1 j) ?_))) (fun h2 => br_f h (br_f h2 (nm_r (nI_1 j) ?_)))
      · rw [cu_ts_t (M := cu_M pl s g f) (T := cu_T pl am s g f) (j := j) h h2, cu_tg_t (M := cu_M pl s g f) (T := cu_T pl am s g f) (j := j) h h2] at J
        exact J _ _
      · rw [cu_ts_f (M := cu_M pl s g f) (T := cu_T pl am s g f) (j := j) h h2, cu_tg_f (M := cu_M pl s g f) (T := cu_T pl am s g f) (j := j) h h2] at J
        exact J _ _
/-! ===== the greatest amount ===== -/
def cu_gt (pl am : Nat → Int32) (f : Int32) : Nat → Int32
  | 0 => -4000000
  | i + 1 => if cu_ps (pl i) f then (if am i ≤ cu_gt pl am f i then cu_gt pl am f i else am i) else cu_gt pl am f i
theorem cu_gt_p {pl am : Nat → Int32} {f : Int32} {i : Nat} (h : ¬ cu_ps (pl i) f) : cu_gt pl am f (i + 1) = cu_gt pl am f i := if_neg h
theorem cu_gt_t {pl am : Nat → Int32} {f : Int32} {i : Nat} (h : cu_ps (pl i) f) (h2 : am i ≤ cu_gt pl am f i) : cu_gt pl am f (i + 1) = cu_gt pl am f i := (if_pos h).trans (if_pos h2)
theorem cu_gt_f {pl am : Nat → Int32} {f : Int32} {i : Nat} (h : cu_ps (pl i) f) (h2 : ¬ am i ≤ cu_gt pl am f i) : cu_gt pl am f (i + 1) = am i := (if_pos h).trans (if_neg h2)
theorem cu_Xgt {post : Int32 → Prop} (f : Int32) {s : Nat} (hs : s ≤ 40) (pl am : Nat → Int32) (hp : post (cu_gt pl am f s)) : ∀ d i : Nat, i + d = s → wX_greatest_15 post f (nI s) pl am (d + 1) (cu_gt pl am f i) (nI i) := by
  intro d
  induction d with
  | zero =>
    intro i hi
    have e : i = s := by omega
    subst e
    exact br_t (nI_le (Nat.le_refl _) (by omega)) hp
  | succ d ih =>
    intro i hi
    have h : ¬ nI s ≤ nI i := nI_ge (by omega) (by omega)
    have hin : vp_in (nI i) 40 := vp_in_nI (by omega) (by omega)
    have hc : (nI i).toNatClampNeg = i := nI_clamp (by omega)
    have J := ih (i + 1) (by omega)
    refine br_f h ⟨hin, ?_⟩
    rw [hc]
    refine cu_Xp (fun h1 => br_f cu_10 ⟨hin, ?_⟩) (fun h1 => br_t rfl (nm_r (nI_1 i) ?_))
    · refine br_c (fun h2 => nm_r (nI_1 i) ?_) (fun h2 => ⟨hin, ?_⟩)
      · rw [cu_gt_t h1 h2] at J
        exact J
      · rw [cu_gt_f h1 h2] at J
        exact nm_e (nm_r (nI_1 i) J)
    · rw [cu_gt_p h1] at J
      exact J
theorem cu_Ygt {post : Int32 → Prop} (f : Int32) {s : Nat} (hs : s ≤ 40) (a b : Int32) (pl am : Nat → Int32) (hp : post (cu_gt pl am f s)) : ∀ d i : Nat, i + d = s → wY_greatest_16 post f (nI s) a b pl am (d + 1) (cu_gt pl am f i) (nI i) := by
  intro d
  induction d with
  | zero =>
    intro i hi
    have e : i = s := by omega
    subst e
    exact br_t (nI_le (Nat.le_refl _) (by omega)) hp
  | succ d ih =>
    intro i hi
    have h : ¬ nI s ≤ nI i := nI_ge (by omega) (by omega)
    have hin : vp_in (nI i) 40 := vp_in_nI (by omega) (by omega)
    have hc : (nI i).toNatClampNeg = i := nI_clamp (by omega)
    have J := ih (i + 1) (by omega)
    refine br_f h ⟨hin, ?_⟩
    rw [hc]
    refine cu_Yp (fun h1 => br_f cu_10 ⟨hin, ?_⟩) (fun h1 => br_t rfl (nm_r (nI_1 i) ?_))
    · refine br_c (fun h2 => nm_r (nI_1 i) ?_) (fun h2 => ⟨hin, ?_⟩)
      · rw [cu_gt_t h1 h2] at J
        exact J
      · rw [cu_gt_f h1 h2] at J
        exact nm_e (nm_r (nI_1 i) J)
    · rw [cu_gt_p h1] at J
      exact J
/-! ===== quarters and months ===== -/
theorem cu_tot_c {b c : Nat → Bool} {a : Nat → Int32} : ∀ n : Nat, (∀ i, i < n → b i = c i) → cu_tot b a n = cu_tot c a n := by
  intro n
  induction n with
  | zero => intro _; rfl
  | succ n ih =>
    intro h
    have e := h n (by omega)
    have t := ih (fun i hi => h i (by omega))
    show (if b n = true then cu_tot b a n + a n else cu_tot b a n) = (if c n = true then cu_tot c a n + a n else cu_tot c a n)
    rw [e, t]
def cu_qu (pl : Nat → Int32) (q r : Int32) (i : Nat) : Bool := decide (cu_mon (pl i) / 3 = q) && decide (cu_reg (pl i) = r)
theorem cu_qu_t {pl : Nat → Int32} {q r : Int32} {i : Nat} (h1 : cu_mon (pl i) / 3 = q) (h2 : cu_reg (pl i) = r) : cu_qu pl q r i = true := by
  unfold cu_qu; rw [decide_eq_true h1, decide_eq_true h2]; rfl
theorem cu_qu_q {pl : Nat → Int32} {q r : Int32} {i : Nat} (h1 : ¬ cu_mon (pl i) / 3 = q) : cu_qu pl q r i = false := by
  unfold cu_qu; rw [decide_eq_false h1]; rfl
theorem cu_qu_r {pl : Nat → Int32} {q r : Int32} {i : Nat} (h2 : ¬ cu_reg (pl i) = r) : cu_qu pl q r i = false := by
  unfold cu_qu; rw [decide_eq_false h2, Bool.and_false]
theorem cu_Yqu {post : Int32 → Prop} (q r : Int32) {s : Nat} (hs : s ≤ 40) (a b : Int32) (pl am : Nat → Int32) (hp : post (cu_tot (cu_qu pl q r) am s)) : ∀ d i : Nat, i + d = s → wY_quarter_26 post q r (nI s) a b pl am (d + 1) (cu_tot (cu_qu pl q r) am i) (nI i) := by
  intro d
  induction d with
  | zero =>
    intro i hi
    have e : i = s := by omega
    subst e
    exact br_t (nI_le (Nat.le_refl _) (by omega)) hp
  | succ d ih =>
    intro i hi
    have h : ¬ nI s ≤ nI i := nI_ge (by omega) (by omega)
    have hin : vp_in (nI i) 40 := vp_in_nI (by omega) (by omega)
    have hc : (nI i).toNatClampNeg = i := nI_clamp (by omega)
    have J := ih (i + 1) (by omega)
    refine br_f h ⟨hin, ?_⟩
    rw [hc]
    refine cu_Ym ⟨by decide, ?_⟩
    refine br_c (fun h1 => ⟨hin, ?_⟩) (fun h1 => nm_r (nI_1 i) ?_)
    · refine cu_Yr ?_
      refine br_c (fun h2 => ⟨hin, ?_⟩) (fun h2 => nm_r (nI_1 i) ?_)
      · rw [cu_tot_t (cu_qu_t h1 h2)] at J
        exact nm_e (nm_r (nI_1 i) J)
      · rw [cu_tot_f (cu_qu_r h2)] at J
        exact J
    · rw [cu_tot_f (cu_qu_q h1)] at J
      exact J
def cu_mo (pl : Nat → Int32) (m : Int32) (i : Nat) : Bool := decide (cu_mon (pl i) = m)
theorem cu_mo_t {pl : Nat → Int32} {m : Int32} {i : Nat} (h : cu_mon (pl i) = m) : cu_mo pl m i = true := decide_eq_true h
theorem cu_mo_f {pl : Nat → Int32} {m : Int32} {i : Nat} (h : ¬ cu_mon (pl i) = m) : cu_mo pl m i = false := decide_eq_false h
theorem cu_Ygw {post : Int32 → Prop} (m : Int32) {s : Nat} (hs : s ≤ 40) (a b : Int32) (pl am : Nat → Int32) (hp : post (cu_tot (cu_mo pl m) am s - cu_tot (cu_mo pl (m - 1)) am s)) : ∀ d i : Nat, i + d = s → wY_growth_17 post m (nI s) a b pl am (d + 1) (cu_tot (cu_mo pl m) am i - cu_tot (cu_mo pl (m - 1)) am i) (nI i) := by
  intro d
  induction d with
  | zero =>
    intro i hi
    have e : i = s := by omega
    subst e
    exact br_t (nI_le (Nat.le_refl _) (by omega)) hp
  | succ d ih =>
    intro i hi
    have h : ¬ nI s ≤ nI i := nI_ge (by omega) (by omega)
    have hin : vp_in (nI i) 40 := vp_in_nI (by omega) (by omega)
    have hc : (nI i).toNatClampNeg = i := nI_clamp (by omega)
    have J := ih (i + 1) (by omega)
    have e51 : ∀ z : Int32, z = cu_tot (cu_mo pl m) am (i + 1) - cu_tot (cu_mo pl (m - 1)) am i → wY_growth_51 post (wY_growth_17 post m (nI s) a b pl am (d + 1)) m (nI i) z (nI s) a b pl am := by
      intro z hz
      refine ⟨hin, ?_⟩
      rw [hc]
      refine cu_Ym ?_
      refine br_c (fun h2 => ⟨hin, ?_⟩) (fun h2 => nm_r (nI_1 i) ?_)
      · rw [cu_tot_t (cu_mo_t h2)] at J
        refine nm_r ?_ (nm_r (nI_1 i) J)
        rw [hz]
        generalize cu_tot (cu_mo pl m) am (i + 1) = A
        generalize cu_tot (cu_mo pl (m - 1)) am i = B
        generalize am i = C
        grind
      · rw [cu_tot_f (cu_mo_f h2)] at J
        rw [hz]
        exact J
    refine br_f h ⟨hin, ?_⟩
    rw [hc]
    refine cu_Ym ?_
    refine br_c (fun h1 => ⟨hin, e51 _ ?_⟩) (fun h1 => e51 _ ?_)
    · rw [cu_tot_t (cu_mo_t h1)]
      generalize cu_tot (cu_mo pl m) am i = A
      generalize cu_tot (cu_mo pl (m - 1)) am i = B
      generalize am i = C
      grind
    · rw [cu_tot_f (cu_mo_f h1)]
end
section
/-! ===== edges of the arguments ===== -/
theorem cu_cmp (p : Int32) (a b : Int32) (h : b.toInt = a.toInt + 1) : a < p ↔ b ≤ p := by
  rw [Int32.lt_iff_toInt_lt, Int32.le_iff_toInt_le]; omega
theorem cu_cmp2 (p : Int32) (a b : Int32) (h : b.toInt = a.toInt + 1) : p ≤ a ↔ p < b := by
  rw [Int32.lt_iff_toInt_lt, Int32.le_iff_toInt_le]; omega
theorem cu_e119 (p : Int32) : 119 < p ↔ 120 ≤ p := cu_cmp p 119 120 (by decide)
theorem cu_e1 (p : Int32) : 1 < p ↔ 2 ≤ p := cu_cmp p 1 2 (by decide)
theorem cu_e7 (p : Int32) : 7 < p ↔ 8 ≤ p := cu_cmp p 7 8 (by decide)
theorem cu_e32767 (p : Int32) : 32767 < p ↔ 32768 ≤ p := cu_cmp p 32767 32768 (by decide)
theorem cu_e3 (p : Int32) : p ≤ 3 ↔ p < 4 := cu_cmp2 p 3 4 (by decide)
theorem cu_e5 (p : Int32) : p ≤ 5 ↔ p < 6 := cu_cmp2 p 5 6 (by decide)
abbrev cu_am (p : Int32) : Prop := -50 ≤ p.toInt ∧ p.toInt ≤ 50
theorem cu_Xa {post : Int32 → Prop} {p : Int32} (h1 : cu_am p → post 1) (h0 : ¬ cu_am p → post 0) : wpX_isAmount post p := by
  have l1 : (-50 : Int32).toInt = -50 := by decide
  have l2 : (50 : Int32).toInt = 50 := by decide
  refine br_c (fun c => h0 ?_) (fun c => br_c (fun d => h0 ?_) (fun d => h1 ?_))
  · rw [Int32.lt_iff_toInt_lt] at c; omega
  · rw [Int32.lt_iff_toInt_lt] at d; omega
  · rw [Int32.lt_iff_toInt_lt] at c d; omega
theorem cu_Ya {post : Int32 → Prop} {v : SY} {p : Int32} (h1 : cu_am p → post 1) (h0 : ¬ cu_am p → post 0) : wpY_isAmount post v p := by
  obtain ⟨a, b, c, d, e⟩ := v
  exact cu_Xa h1 h0
abbrev cu_fi (p : Int32) : Prop := ¬ p < 0 ∧ ¬ 32768 ≤ p
theorem cu_Xf {post : Int32 → Prop} {p : Int32} (h1 : cu_fi p → post 1) (h0 : ¬ cu_fi p → post 0) : wpX_isFilter post p :=
  br_c (fun c => h0 (fun z => z.1 c)) (fun c => br_c (fun d => h0 (fun z => z.2 d)) (fun d => h1 ⟨c, d⟩))
theorem cu_Yf {post : Int32 → Prop} {v : SY} {p : Int32} (h1 : cu_fi p → post 1) (h0 : ¬ cu_fi p → post 0) : wpY_isFilter post v p := by
  obtain ⟨a, b, c, d, e⟩ := v
  exact br_c (fun c => h0 (fun z => z.1 c)) (fun c => br_c (fun d => h0 (fun z => z.2 ((cu_e32767 p).mp d))) (fun d => h1 ⟨c, fun z => d ((cu_e32767 p).mpr z)⟩))
abbrev cu_go (p : Int32) : Prop := ¬ p < 0 ∧ ¬ 8 ≤ p
theorem cu_Xo {post : Int32 → Prop} {p : Int32} (h1 : cu_go p → post 1) (h0 : ¬ cu_go p → post 0) : wpX_isGrouping post p :=
  br_c (fun c => h0 (fun z => z.1 c)) (fun c => br_c (fun d => h0 (fun z => z.2 d)) (fun d => h1 ⟨c, d⟩))
theorem cu_Yo {post : Int32 → Prop} {v : SY} {p : Int32} (h1 : cu_go p → post 1) (h0 : ¬ cu_go p → post 0) : wpY_isGrouping post v p := by
  obtain ⟨a, b, c, d, e⟩ := v
  exact br_c (fun c => h0 (fun z => z.1 c)) (fun c => br_c (fun d => h0 (fun z => z.2 ((cu_e7 p).mp d))) (fun d => h1 ⟨c, fun z => d ((cu_e7 p).mpr z)⟩))
theorem cu_lt {p : Int32} (n : Nat) {N : Int32} (hN : N.toInt = n) (hn : n < 2 ^ 31) (h0 : ¬ p < 0) (h1 : p < N) : ∃ j : Nat, j < n ∧ p = nI j := by
  obtain ⟨j, hj, rfl⟩ := nI_of h0
  rw [Int32.lt_iff_toInt_lt, nI_toInt hj, hN] at h1
  exact ⟨j, by omega, rfl⟩
/-! ===== what the two states have in common ===== -/
abbrev cu_ok (s : Nat) (pl am : Nat → Int32) : Prop := s ≤ 40 ∧ (∀ i, i < s → ∃ j : Nat, j < 120 ∧ pl i = nI j) ∧ (∀ i, i < s → cu_am (am i))
theorem cu_bd {b : Nat → Bool} {am : Nat → Int32} : ∀ n : Nat, n ≤ 40 → (∀ i, i < n → cu_am (am i)) → -(50 * (n : Int)) ≤ (cu_tot b am n).toInt ∧ (cu_tot b am n).toInt ≤ 50 * (n : Int) := by
  intro n
  induction n with
  | zero =>
    intro _ _
    have e : (cu_tot b am 0).toInt = 0 := rfl
    rw [e]
    exact ⟨by decide, by decide⟩
  | succ n ih =>
    intro hn h
    have J := ih (by omega) (fun i hi => h i (by omega))
    have a := h n (by omega)
    cases e : b n with
    | true =>
      rw [cu_tot_t e, Int32.toInt_add, Int.bmod_eq_of_le (by omega) (by omega)]
      omega
    | false =>
      rw [cu_tot_f e]
      omega
theorem cu_hT {s : Nat} {pl am : Nat → Int32} (ok : cu_ok s pl am) (g f : Int32) : ∀ x : Int32, ¬ cu_T pl am s g f x ≤ -4000000 := by
  intro x h
  have l : (-4000000 : Int32).toInt = -4000000 := by decide
  have B := cu_bd (b := cu_in pl x g f) s ok.1 ok.2.2
  rw [Int32.le_iff_toInt_le] at h
  have h2 : (cu_tot (cu_in pl x g f) am s).toInt ≤ (-4000000 : Int32).toInt := h
  have s40 := ok.1
  omega
theorem cu_XfB {post : Int32 → Prop} {g f : Int32} {s : Nat} {pl am : Nat → Int32} (ok : cu_ok s pl am) (hp : post (cu_tg (cu_M pl s g f) (cu_T pl am s g f) 120)) : wpX_firstBestGroup post (nI s, pl, am) g f :=
  ⟨121, cu_Xfb g f ok.1 pl am (cu_hT ok g f) hp 120 0 rfl 0 (fun z => absurd rfl z)⟩
theorem cu_qtab : ∀ j, j < 120 → ∀ q, q < 2 → ∀ r, r < 4 → (decide (cu_ps (nI j) ((((1 : Int32) <<< (nI r &&& 31)) ||| 496) ||| ((7 : Int32) <<< ((9 + (3 * nI q)) &&& 31)))) && decide (cu_gr (nI j) 0 = 0)) = (decide (cu_mon (nI j) / 3 = nI q) && decide (cu_reg (nI j) = nI r)) := by decide +kernel
theorem cu_mtab : ∀ j, j < 120 → ∀ m, m < 6 → (decide (cu_ps (nI j) (511 ||| ((1 : Int32) <<< ((9 + nI m) &&& 31)))) && decide (cu_gr (nI j) 0 = 0)) = decide (cu_mon (nI j) = nI m) := by decide +kernel
theorem cu_qeq {s : Nat} {pl am : Nat → Int32} (ok : cu_ok s pl am) {q r : Nat} (hq : q < 2) (hr : r < 4) : cu_tot (cu_in pl 0 0 ((((1 : Int32) <<< (nI r &&& 31)) ||| 496) ||| ((7 : Int32) <<< ((9 + (3 * nI q)) &&& 31)))) am s = cu_tot (cu_qu pl (nI q) (nI r)) am s := by
  apply cu_tot_c
  intro i hi
  obtain ⟨j, hj, e⟩ := ok.2.1 i hi
  unfold cu_in cu_qu
  rw [e]
  exact cu_qtab j hj q hq r hr
theorem cu_meq {s : Nat} {pl am : Nat → Int32} (ok : cu_ok s pl am) {m : Nat} (hm : m < 6) : cu_tot (cu_in pl 0 0 (511 ||| ((1 : Int32) <<< ((9 + nI m) &&& 31)))) am s = cu_tot (cu_mo pl (nI m)) am s := by
  apply cu_tot_c
  intro i hi
  obtain ⟨j, hj, e⟩ := ok.2.1 i hi
  unfold cu_in cu_mo
  rw [e]
  exact cu_mtab j hj m hm
theorem cu_Xmo {post : Int32 → Prop} {s : Nat} {pl am : Nat → Int32} (ok : cu_ok s pl am) {m : Nat} (hm : m < 6) (hp : post (cu_tot (cu_mo pl (nI m)) am s)) : wpX_totalOfMonth post (nI s, pl, am) (nI m) := by
  unfold wpX_totalOfMonth
  dsimp only
  refine nm_e ?_
  refine cu_Xt ok.1 ?_
  rw [cu_meq ok hm]
  exact hp
theorem cu_YgW {post : Int32 → Prop} (m : Int32) {s : Nat} (hs : s ≤ 40) (a b : Int32) (pl am : Nat → Int32) (hp : post (cu_tot (cu_mo pl m) am s - cu_tot (cu_mo pl (m - 1)) am s)) : wY_growth_17 post m (nI s) a b pl am (s + 1) 0 0 := by
  have J := cu_Ygw m hs a b pl am hp s 0 (by omega)
  have e : cu_tot (cu_mo pl m) am 0 - cu_tot (cu_mo pl (m - 1)) am 0 = 0 := by
    show (0 : Int32) - 0 = 0
    decide
  rw [e, nI_0] at J
  exact J
end
section
/-- the same facts on both sides: their number, at most 40, their places, 0 to 119, and their amounts, -50 to 50; the reference's two scratch fields are free -/
def i_Rel (_ : Nat) (u : SX) (v : SY) : Prop := ∃ (s : Nat) (pl am : Nat → Int32) (a b : Int32), u = (nI s, pl, am) ∧ v = (nI s, a, b, pl, am) ∧ cu_ok s pl am
theorem i_up {k : Nat} {u : SX} {v : SY} (h : i_Rel k u v) : i_Rel (k + 3) u v := h
theorem i_vc0 : wpX_init (fun u => wpY_init (fun v => i_Rel 0 u v)) := ⟨0, fun _ => 0, fun _ => 0, 0, 0, rfl, rfl, by omega, fun i hi => absurd hi (by omega), fun i hi => absurd hi (by omega)⟩
theorem cu_rel {k s : Nat} {pl am : Nat → Int32} {a b : Int32} (ok : cu_ok s pl am) : i_Rel k (nI s, pl, am) (nI s, a, b, pl, am) := ⟨s, pl, am, a, b, rfl, rfl, ok⟩
theorem cu_40 : nI 40 = 40 := by decide +kernel
theorem i_vc_add {k : Nat} {u : SX} {v : SY} (I : i_Rel k u v) (hk : k + 3 ≤ 1536) (v1 : Int32) (v2 : Int32) : wpX_add (fun r u' => wpY_add (fun r' v' => r' = r ∧ i_Rel (k + 3) u' v') v v1 v2) u v1 v2 := by
  obtain ⟨s, pl, am, a, b, rfl, rfl, ok⟩ := I
  have hs := ok.1
  by_cases c1 : v1 < 0
  · exact br_t c1 (br_t c1 ⟨rfl, cu_rel ok⟩)
  by_cases c2 : 120 ≤ v1
  · exact br_f c1 (br_t c2 (br_f c1 (br_t ((cu_e119 v1).mpr c2) ⟨rfl, cu_rel ok⟩)))
  have c3 : ¬ 119 < v1 := fun z => c2 ((cu_e119 v1).mp z)
  unfold wpX_add
  dsimp only
  refine br_f c1 (br_f c2 ?_)
  refine cu_Xa (fun ha => br_f cu_10 ?_) (fun ha => br_t rfl ?_)
  · by_cases c4 : s < 40
    · have f4 : nI s < 40 := by rw [← cu_40]; exact nI_lt c4 (by omega)
      have f5 : ¬ nI s = 40 := by rw [← cu_40, nI_eq (by omega) (by omega)]; omega
      have hin : vp_in (nI s) 40 := vp_in_nI c4 (by omega)
      refine br_t f4 ⟨hin, fun p ep => ⟨hin, fun q eq n en => ?_⟩⟩
      unfold wpY_add
      dsimp only
      refine br_f c1 (br_f c3 ?_)
      refine cu_Ya (fun _ => br_f cu_10 ?_) (fun z => absurd ha z)
      refine br_f f5 ⟨hin, fun p' ep' => ⟨hin, fun q' eq' n' en' => ?_⟩⟩
      rw [nI_clamp (by omega)] at ep eq ep' eq'
      rw [nI_1] at en en'
      subst ep eq en ep' eq' en'
      refine ⟨nI_pred s, cu_rel ⟨by omega, ?_, ?_⟩⟩
      · intro i hi
        by_cases e : i = s
        · rw [e, pk_us]
          exact cu_lt 120 (by decide) (by omega) c1 (Int32.not_le.mp c2)
        · rw [pk_un e]
          exact ok.2.1 i (by omega)
      · intro i hi
        by_cases e : i = s
        · rw [e, pk_us]
          exact ha
        · rw [pk_un e]
          exact ok.2.2 i (by omega)
    · have e : s = 40 := by omega
      have f4 : ¬ nI s < 40 := by rw [← cu_40, e]; exact nI_nlt (Nat.le_refl _) (by omega)
      have f5 : nI s = 40 := by rw [e]; exact cu_40
      refine br_f f4 ?_
      unfold wpY_add
      dsimp only
      refine br_f c1 (br_f c3 ?_)
      refine cu_Ya (fun _ => br_f cu_10 ?_) (fun z => absurd ha z)
      exact br_t f5 ⟨rfl, cu_rel ok⟩
  · unfold wpY_add
    dsimp only
    refine br_f c1 (br_f c3 ?_)
    exact cu_Ya (fun z => absurd z ha) (fun _ => br_t rfl ⟨rfl, cu_rel ok⟩)
theorem i_vc_remove {k : Nat} {u : SX} {v : SY} (I : i_Rel k u v) (hk : k + 3 ≤ 1536) : wpX_remove (fun r u' => wpY_remove (fun r' v' => r' = r ∧ i_Rel (k + 3) u' v') v) u := by
  obtain ⟨s, pl, am, a, b, rfl, rfl, ok⟩ := I
  have hs := ok.1
  cases s with
  | zero => exact br_f (nI_pos (n := 0) (by omega)) (br_t nI_0 ⟨rfl, cu_rel ok⟩)
  | succ s =>
    have c1 : 0 < nI (s + 1) := nI_lt (a := 0) (by omega) (by omega)
    have c2 : ¬ nI (s + 1) = 0 := nI_ne0 (by omega) (by omega)
    have hin : vp_in (nI s) 40 := vp_in_nI (by omega) (by omega)
    refine br_t c1 (nm_r (nI_pred s) ⟨hin, ?_⟩)
    refine br_f c2 (nm_r (nI_pred s) ⟨hin, rfl, cu_rel ⟨by omega, fun i hi => ok.2.1 i (by omega), fun i hi => ok.2.2 i (by omega)⟩⟩)
theorem i_vc_change {k : Nat} {u : SX} {v : SY} (I : i_Rel k u v) (hk : k + 3 ≤ 1536) (v1 : Int32) (v2 : Int32) : wpX_change (fun r u' => wpY_change (fun r' v' => r' = r ∧ i_Rel (k + 3) u' v') v v1 v2) u v1 v2 := by
  obtain ⟨s, pl, am, a, b, rfl, rfl, ok⟩ := I
  have hs := ok.1
  by_cases c1 : v1 < 0
  · exact br_t c1 (br_t c1 ⟨rfl, cu_rel ok⟩)
  by_cases c2 : nI s ≤ v1
  · exact br_f c1 (br_t c2 (br_f c1 (br_t c2 ⟨rfl, cu_rel ok⟩)))
  obtain ⟨j, hj, rfl⟩ := cu_lt s (nI_toInt (by omega)) (by omega) c1 (Int32.not_le.mp c2)
  have hin : vp_in (nI j) 40 := vp_in_nI (by omega) (by omega)
  unfold wpX_change
  dsimp only
  refine br_f c1 (br_f c2 ?_)
  refine cu_Xa (fun ha => br_f cu_10 ⟨hin, fun x ex => ⟨hin, fun q eq => ?_⟩⟩) (fun ha => br_t rfl ?_)
  · unfold wpY_change
    dsimp only
    refine br_f c1 (br_f c2 ?_)
    refine cu_Ya (fun _ => br_f cu_10 ⟨hin, fun x' ex' => ⟨hin, fun q' eq' => ?_⟩⟩) (fun z => absurd ha z)
    rw [nI_clamp (by omega)] at ex eq ex' eq'
    subst ex eq ex' eq'
    refine ⟨rfl, cu_rel ⟨hs, ok.2.1, ?_⟩⟩
    intro i hi
    by_cases e : i = j
    · rw [e, pk_us]
      exact ha
    · rw [pk_un e]
      exact ok.2.2 i hi
  · unfold wpY_change
    dsimp only
    refine br_f c1 (br_f c2 ?_)
    exact cu_Ya (fun z => absurd z ha) (fun _ => br_t rfl ⟨rfl, cu_rel ok⟩)
theorem i_vc_facts {k : Nat} {u : SX} {v : SY} (I : i_Rel k u v) (hk : k + 3 ≤ 1536) : wpX_facts (fun r => wpY_facts (fun r' => r' = r ∧ i_Rel (k + 3) u v) v) u := by
  obtain ⟨s, pl, am, a, b, rfl, rfl, ok⟩ := I
  exact ⟨rfl, cu_rel ok⟩
theorem i_vc_count {k : Nat} {u : SX} {v : SY} (I : i_Rel k u v) (hk : k + 3 ≤ 1536) (v1 : Int32) : wpX_count (fun r => wpY_count (fun r' v' => r' = r ∧ i_Rel (k + 3) u v') v v1) u v1 := by
  obtain ⟨s, pl, am, a, b, rfl, rfl, ok⟩ := I
  unfold wpX_count wpY_count
  dsimp only
  refine cu_Xf (fun hf => br_f cu_10 ?_) (fun hf => br_t rfl ?_)
  · refine cu_Xm ok.1 ?_
    refine cu_Yf (fun _ => br_f cu_10 ?_) (fun z => absurd hf z)
    refine cu_Yl ok.1 ?_
    exact ⟨rfl, cu_rel ok⟩
  · exact cu_Yf (fun z => absurd z hf) (fun _ => br_t rfl ⟨rfl, cu_rel ok⟩)
theorem i_vc_sum {k : Nat} {u : SX} {v : SY} (I : i_Rel k u v) (hk : k + 3 ≤ 1536) (v1 : Int32) : wpX_sum (fun r => wpY_sum (fun r' v' => r' = r ∧ i_Rel (k + 3) u v') v v1) u v1 := by
  obtain ⟨s, pl, am, a, b, rfl, rfl, ok⟩ := I
  unfold wpX_sum wpY_sum
  dsimp only
  refine cu_Xf (fun hf => br_f cu_10 ?_) (fun hf => br_t rfl ?_)
  · refine cu_Xt ok.1 ?_
    refine cu_Yf (fun _ => br_f cu_10 ?_) (fun z => absurd hf z)
    refine cu_Yl ok.1 ?_
    exact ⟨rfl, cu_rel ok⟩
  · exact cu_Yf (fun z => absurd z hf) (fun _ => br_t rfl ⟨rfl, cu_rel ok⟩)
theorem i_vc_greatest {k : Nat} {u : SX} {v : SY} (I : i_Rel k u v) (hk : k + 3 ≤ 1536) (v1 : Int32) : wpX_greatest (fun r => wpY_greatest (fun r' => r' = r ∧ i_Rel (k + 3) u v) v v1) u v1 := by
  obtain ⟨s, pl, am, a, b, rfl, rfl, ok⟩ := I
  unfold wpX_greatest wpY_greatest
  dsimp only
  refine cu_Xf (fun hf => br_f cu_10 ⟨s + 1, cu_Xgt v1 ok.1 pl am ?_ s 0 (by omega)⟩) (fun hf => br_t rfl ?_)
  · refine cu_Yf (fun _ => br_f cu_10 ⟨s + 1, cu_Ygt v1 ok.1 a b pl am ?_ s 0 (by omega)⟩) (fun z => absurd hf z)
    exact ⟨rfl, cu_rel ok⟩
  · exact cu_Yf (fun z => absurd z hf) (fun _ => br_t rfl ⟨rfl, cu_rel ok⟩)
theorem i_vc_groups {k : Nat} {u : SX} {v : SY} (I : i_Rel k u v) (hk : k + 3 ≤ 1536) (v1 : Int32) (v2 : Int32) : wpX_groups (fun r => wpY_groups (fun r' v' => r' = r ∧ i_Rel (k + 3) u v') v v1 v2) u v1 v2 := by
  obtain ⟨s, pl, am, a, b, rfl, rfl, ok⟩ := I
  unfold wpX_groups wpY_groups
  dsimp only
  refine cu_Xo (fun ho => br_f cu_10 ?_) (fun ho => br_t rfl ?_)
  · refine cu_Xf (fun hf => br_f cu_10 ⟨121, cu_Xgrs v1 v2 ok.1 pl am ?_ 120 0 rfl⟩) (fun hf => br_t rfl ?_)
    · refine cu_Yo (fun _ => br_f cu_10 ?_) (fun z => absurd ho z)
      refine cu_Yf (fun _ => br_f cu_10 ⟨121, cu_Ygrs v1 v2 ok.1 pl am ?_ 120 0 rfl a b⟩) (fun z => absurd hf z)
      exact fun _ _ => ⟨rfl, cu_rel ok⟩
    · refine cu_Yo (fun _ => br_f cu_10 ?_) (fun z => absurd ho z)
      exact cu_Yf (fun z => absurd z hf) (fun _ => br_t rfl ⟨rfl, cu_rel ok⟩)
  · exact cu_Yo (fun z => absurd z ho) (fun _ => br_t rfl ⟨rfl, cu_rel ok⟩)
theorem i_vc_topSum {k : Nat} {u : SX} {v : SY} (I : i_Rel k u v) (hk : k + 3 ≤ 1536) (v1 : Int32) (v2 : Int32) : wpX_topSum (fun r => wpY_topSum (fun r' v' => r' = r ∧ i_Rel (k + 3) u v') v v1 v2) u v1 v2 := by
  obtain ⟨s, pl, am, a, b, rfl, rfl, ok⟩ := I
  have K := cu_tt (M := cu_M pl s v1 v2) (T := cu_T pl am s v1 v2) 120 (Nat.le_refl _)
  unfold wpX_topSum wpY_topSum
  dsimp only
  refine cu_Xo (fun ho => br_f cu_10 ?_) (fun ho => br_t rfl ?_)
  · refine cu_Xf (fun hf => br_f cu_10 ?_) (fun hf => br_t rfl ?_)
    · refine cu_XfB ok ?_
      refine br_c (fun h => ?_) (fun h => ?_)
      · refine cu_Yo (fun _ => br_f cu_10 ?_) (fun z => absurd ho z)
        refine cu_Yf (fun _ => br_f cu_10 ⟨121, cu_Yts v1 v2 ok.1 pl am ?_ 120 0 rfl a b⟩) (fun z => absurd hf z)
        exact fun _ _ => ⟨K.1 h, cu_rel ok⟩
      · refine cu_Xt ok.1 ?_
        refine cu_Yo (fun _ => br_f cu_10 ?_) (fun z => absurd ho z)
        refine cu_Yf (fun _ => br_f cu_10 ⟨121, cu_Yts v1 v2 ok.1 pl am ?_ 120 0 rfl a b⟩) (fun z => absurd hf z)
        exact fun _ _ => ⟨K.2 h, cu_rel ok⟩
    · refine cu_Yo (fun _ => br_f cu_10 ?_) (fun z => absurd ho z)
      exact cu_Yf (fun z => absurd z hf) (fun _ => br_t rfl ⟨rfl, cu_rel ok⟩)
  · exact cu_Yo (fun z => absurd z ho) (fun _ => br_t rfl ⟨rfl, cu_rel ok⟩)
theorem i_vc_topGroup {k : Nat} {u : SX} {v : SY} (I : i_Rel k u v) (hk : k + 3 ≤ 1536) (v1 : Int32) (v2 : Int32) : wpX_topGroup (fun r => wpY_topGroup (fun r' v' => r' = r ∧ i_Rel (k + 3) u v') v v1 v2) u v1 v2 := by
  obtain ⟨s, pl, am, a, b, rfl, rfl, ok⟩ := I
  unfold wpX_topGroup wpY_topGroup
  dsimp only
  refine cu_Xo (fun ho => br_f cu_10 ?_) (fun ho => br_t rfl ?_)
  · refine cu_Xf (fun hf => br_f cu_10 ?_) (fun hf => br_t rfl ?_)
    · refine cu_XfB ok ?_
      refine cu_Yo (fun _ => br_f cu_10 ?_) (fun z => absurd ho z)
      refine cu_Yf (fun _ => br_f cu_10 ⟨121, cu_Ytg v1 v2 ok.1 pl am ?_ 120 0 rfl a b⟩) (fun z => absurd hf z)
      exact fun _ _ => ⟨rfl, cu_rel ok⟩
    · refine cu_Yo (fun _ => br_f cu_10 ?_) (fun z => absurd ho z)
      exact cu_Yf (fun z => absurd z hf) (fun _ => br_t rfl ⟨rfl, cu_rel ok⟩)
  · exact cu_Yo (fun z => absurd z ho) (fun _ => br_t rfl ⟨rfl, cu_rel ok⟩)
theorem i_vc_quarter {k : Nat} {u : SX} {v : SY} (I : i_Rel k u v) (hk : k + 3 ≤ 1536) (v1 : Int32) (v2 : Int32) : wpX_quarter (fun r => wpY_quarter (fun r' => r' = r ∧ i_Rel (k + 3) u v) v v1 v2) u v1 v2 := by
  obtain ⟨s, pl, am, a, b, rfl, rfl, ok⟩ := I
  by_cases c1 : v1 < 0
  · exact br_t c1 (br_t c1 ⟨rfl, cu_rel ok⟩)
  by_cases c2 : 2 ≤ v1
  · exact br_f c1 (br_t c2 (br_f c1 (br_t ((cu_e1 v1).mpr c2) ⟨rfl, cu_rel ok⟩)))
  have c2' : ¬ 1 < v1 := fun z => c2 ((cu_e1 v1).mp z)
  by_cases c3 : v2 < 0
  · exact br_f c1 (br_f c2 (br_t c3 (br_f c1 (br_f c2' (br_t c3 ⟨rfl, cu_rel ok⟩)))))
  by_cases c4 : v2 < 4
  · obtain ⟨q, hq, rfl⟩ := cu_lt 2 (N := 2) (by decide) (by omega) c1 (Int32.not_le.mp c2)
    obtain ⟨r, hr, rfl⟩ := cu_lt 4 (N := 4) (by decide) (by omega) c3 c4
    unfold wpX_quarter wpY_quarter
    dsimp only
    refine br_f c1 (br_f c2 (br_f c3 (br_t c4 (nm_e (nm_e ?_)))))
    refine cu_Xt ok.1 ?_
    refine br_f c1 (br_f c2' (br_f c3 (br_t ((cu_e3 (nI r)).mpr c4) ⟨s + 1, cu_Yqu (nI q) (nI r) ok.1 a b pl am ?_ s 0 (by omega)⟩)))
    exact ⟨(cu_qeq ok hq hr).symm, cu_rel ok⟩
  · exact br_f c1 (br_f c2 (br_f c3 (br_f c4 (br_f c1 (br_f c2' (br_f c3 (br_f (fun z => c4 ((cu_e3 v2).mp z)) ⟨rfl, cu_rel ok⟩)))))))
theorem i_vc_growth {k : Nat} {u : SX} {v : SY} (I : i_Rel k u v) (hk : k + 3 ≤ 1536) (v1 : Int32) : wpX_growth (fun r => wpY_growth (fun r' => r' = r ∧ i_Rel (k + 3) u v) v v1) u v1 := by
  obtain ⟨s, pl, am, a, b, rfl, rfl, ok⟩ := I
  by_cases c1 : v1 < 1
  · exact br_t c1 (br_t c1 ⟨rfl, cu_rel ok⟩)
  by_cases c2 : v1 < 6
  · have c0 : ¬ v1 < 0 := fun z => c1 (Int32.lt_trans z (by decide))
    obtain ⟨m, hm, rfl⟩ := cu_lt 6 (N := 6) (by decide) (by omega) c0 c2
    cases m with
    | zero => exact absurd (by decide) c1
    | succ m =>
      unfold wpX_growth wpY_growth
      dsimp only
      refine br_f c1 (br_t c2 ?_)
      refine cu_Xmo ok hm ?_
      rw [nI_pred]
      refine cu_Xmo ok (by omega) ?_
      refine br_f c1 (br_t ((cu_e5 (nI (m + 1))).mpr c2) ⟨s + 1, cu_YgW (nI (m + 1)) ok.1 a b pl am ?_⟩)
      rw [nI_pred]
      exact ⟨rfl, cu_rel ok⟩
  · exact br_f c1 (br_f c2 (br_f c1 (br_f (fun z => c2 ((cu_e5 v1).mp z)) ⟨rfl, cu_rel ok⟩)))
theorem i_vc_atLeast {k : Nat} {u : SX} {v : SY} (I : i_Rel k u v) (hk : k + 3 ≤ 1536) (v1 : Int32) (v2 : Int32) : wpX_atLeast (fun r => wpY_atLeast (fun r' v' => r' = r ∧ i_Rel (k + 3) u v') v v1 v2) u v1 v2 := by
  obtain ⟨s, pl, am, a, b, rfl, rfl, ok⟩ := I
  unfold wpX_atLeast wpY_atLeast
  dsimp only
  refine cu_Xo (fun ho => br_f cu_10 ⟨121, cu_Xals v1 v2 ok.1 pl am ?_ 120 0 rfl⟩) (fun ho => br_t rfl ?_)
  · refine cu_Yo (fun _ => br_f cu_10 ⟨121, cu_Yals v1 v2 ok.1 pl am ?_ 120 0 rfl a b⟩) (fun z => absurd ho z)
    exact fun _ _ => ⟨rfl, cu_rel ok⟩
  · exact cu_Yo (fun z => absurd z ho) (fun _ => br_t rfl ⟨rfl, cu_rel ok⟩)
theorem i_vc_plan {k : Nat} {u : SX} {v : SY} (I : i_Rel k u v) (hk : k + 3 ≤ 1536) (v1 : Int32) : wpX_plan (fun r => wpY_plan (fun r' => r' = r ∧ i_Rel (k + 3) u v) v v1) u v1 := by
  obtain ⟨s, pl, am, a, b, rfl, rfl, ok⟩ := I
  exact br_c (fun c1 => br_t c1 ⟨rfl, cu_rel ok⟩) (fun c1 => br_c (fun c2 => br_f c1 (br_t c2 ⟨rfl, cu_rel ok⟩)) (fun c2 => br_f c1 (br_f c2 ⟨rfl, cu_rel ok⟩)))
end
