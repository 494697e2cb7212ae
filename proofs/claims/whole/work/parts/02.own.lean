/-! ===== pure values: what both sides ask of a place ===== -/
abbrev cu_reg (p : Int32) : Int32 := p - p / 4 * 4
abbrev cu_kin (p : Int32) : Int32 := (p / 4) - (p / 4) / 5 * 5
abbrev cu_mon (p : Int32) : Int32 := p / 20
abbrev cu_need (p : Int32) : Int32 := (((1 : Int32) <<< (cu_reg p &&& 31)) ||| ((1 : Int32) <<< ((4 + cu_kin p) &&& 31))) ||| ((1 : Int32) <<< ((9 + cu_mon p) &&& 31))
abbrev cu_ps (p f : Int32) : Prop := (f &&& cu_need p) = cu_need p
theorem cu_psY (p f : Int32) : cu_ps p f ↔ ((f >>> (cu_reg p &&& 31)) &&& 1) = 1 ∧ ((f >>> ((4 + cu_kin p) &&& 31)) &&& 1) = 1 ∧ ((f >>> ((9 + cu_mon p) &&& 31)) &&& 1) = 1 := by
  unfold cu_ps cu_need
  rw [cu_or, cu_or, cu_bit, cu_bit, cu_bit, and_assoc]
def cu_gr (p g : Int32) : Int32 := ((if (g &&& 1) = 0 then 0 else cu_reg p) + 4 * (if (g &&& 2) = 0 then 0 else cu_kin p)) + 20 * (if (g &&& 4) = 0 then 0 else cu_mon p)
theorem cu_Xp {post : Int32 → Prop} {p f : Int32} (h1 : cu_ps p f → post 1) (h0 : ¬ cu_ps p f → post 0) : wpX_passes post p f := by
  unfold wpX_passes wpX_regionOf
  refine ⟨by decide, fun x2 e2 => ?_⟩
  unfold wpX_kindOf
  refine ⟨by decide, by decide, fun x3 e3 => ?_⟩
  unfold wpX_monthOf
  refine ⟨by decide, fun x4 e4 x5 e5 => ?_⟩
  subst e2 e3 e4 e5
  exact ⟨h1, h0⟩
theorem cu_Yr {post : Int32 → Prop} {v : SY} {p : Int32} (h : post (cu_reg p)) : wpY_region post v p := by
  obtain ⟨a, b, c, d, e⟩ := v
  exact ⟨by decide, h⟩
theorem cu_Yk {post : Int32 → Prop} {v : SY} {p : Int32} (h : post (cu_kin p)) : wpY_kind post v p := by
  obtain ⟨a, b, c, d, e⟩ := v
  exact ⟨by decide, by decide, h⟩
theorem cu_Ym {post : Int32 → Prop} {v : SY} {p : Int32} (h : post (cu_mon p)) : wpY_month post v p := by
  obtain ⟨a, b, c, d, e⟩ := v
  exact ⟨by decide, h⟩
theorem cu_Yh {post : Int32 → Prop} {v : SY} {f s : Int32} (h1 : ((f >>> (s &&& 31)) &&& 1) = 1 → post 1) (h0 : ¬ ((f >>> (s &&& 31)) &&& 1) = 1 → post 0) : wpY_has post v f s := by
  obtain ⟨a, b, c, d, e⟩ := v
  exact ⟨h1, h0⟩
theorem cu_10 : ¬ (1 : Int32) = 0 := by decide
theorem cu_Yp {post : Int32 → Prop} {v : SY} {p f : Int32} (h1 : cu_ps p f → post 1) (h0 : ¬ cu_ps p f → post 0) : wpY_passes post v p f := by
  obtain ⟨a, b, c, d, e⟩ := v
  have k1 := fun z => h1 ((cu_psY p f).mpr z)
  have k0 : ¬ _ → post 0 := fun z => h0 (fun w => z ((cu_psY p f).mp w))
  unfold wpY_passes
  dsimp only
  refine cu_Yr ?_
  refine cu_Yh (fun ha => br_f cu_10 ?_) (fun ha => br_t rfl (k0 fun z => ha z.1))
  refine cu_Yk ?_
  refine cu_Yh (fun hb => br_f cu_10 ?_) (fun hb => br_t rfl (k0 fun z => hb z.2.1))
  refine cu_Ym ?_
  exact cu_Yh (fun hc => br_f cu_10 (k1 ⟨ha, hb, hc⟩)) (fun hc => br_t rfl (k0 fun z => hc z.2.2))
theorem cu_Xg {post : Int32 → Prop} {p g : Int32} (h : post (cu_gr p g)) : wpX_groupOf post p g := by
  have e30 : ∀ z : Int32, post (z + 20 * (if (g &&& 4) = 0 then 0 else cu_mon p)) → wX_groupOf_30 post p g z := by
    intro z hz
    by_cases c : (g &&& 4) = 0
    · rw [if_pos c, Int32.mul_zero, Int32.add_zero] at hz
      exact br_t c hz
    · rw [if_neg c] at hz
      exact br_f c ⟨by decide, fun y ey => by rw [ey]; exact hz⟩
  have e15 : ∀ z : Int32, post ((z + 4 * (if (g &&& 2) = 0 then 0 else cu_kin p)) + 20 * (if (g &&& 4) = 0 then 0 else cu_mon p)) → wX_groupOf_15 post p g z := by
    intro z hz
    by_cases c : (g &&& 2) = 0
    · rw [if_pos c, Int32.mul_zero, Int32.add_zero] at hz
      exact br_t c (e30 _ hz)
    · rw [if_neg c] at hz
      exact br_f c ⟨by decide, by decide, fun y ey => by rw [ey]; exact e30 _ hz⟩
  unfold cu_gr at h
  by_cases c : (g &&& 1) = 0
  · rw [if_pos c] at h
    exact br_t c (e15 _ h)
  · rw [if_neg c] at h
    exact br_f c ⟨by decide, fun y ey => by rw [ey, Int32.zero_add]; exact e15 _ h⟩
theorem cu_Yg {post : Int32 → Prop} {v : SY} {p g : Int32} (h : post (cu_gr p g)) : wpY_groupOf post v p g := by
  obtain ⟨a1, a2, a3, a4, a5⟩ := v
  have e37 : ∀ y z : Int32, post ((y + 4 * z) + 20 * (if (g &&& 4) = 0 then 0 else cu_mon p)) → wY_groupOf_37 post p g y z a1 a2 a3 a4 a5 := by
    intro y z hz
    unfold wY_groupOf_37
    refine cu_Yh (fun c => br_f cu_10 ?_) (fun c => br_t rfl ?_)
    · rw [if_neg (fun w => (cu_g2 g).mp w c)] at hz
      exact cu_Ym hz
    · rw [if_pos ((cu_g2 g).mpr c)] at hz
      exact hz
  have e18 : ∀ y : Int32, post ((y + 4 * (if (g &&& 2) = 0 then 0 else cu_kin p)) + 20 * (if (g &&& 4) = 0 then 0 else cu_mon p)) → wY_groupOf_18 post p g y a1 a2 a3 a4 a5 := by
    intro y hz
    unfold wY_groupOf_18
    refine cu_Yh (fun c => br_f cu_10 ?_) (fun c => br_t rfl ?_)
    · rw [if_neg (fun w => (cu_g1 g).mp w c)] at hz
      exact cu_Yk (e37 _ _ hz)
    · rw [if_pos ((cu_g1 g).mpr c)] at hz
      exact e37 _ _ hz
  unfold cu_gr at h
  unfold wpY_groupOf
  dsimp only
  refine cu_Yh (fun c => br_f cu_10 ?_) (fun c => br_t rfl ?_)
  · rw [if_neg (fun w => (cu_g0 g).mp w c)] at h
    exact cu_Yr (e18 _ h)
  · rw [if_pos ((cu_g0 g).mpr c)] at h
    exact e18 _ h
/-! ===== the facts of a group that pass: their number and their sum ===== -/
def cu_in (pl : Nat → Int32) (x g f : Int32) (i : Nat) : Bool := decide (cu_ps (pl i) f) && decide (cu_gr (pl i) g = x)
theorem cu_in_t {pl : Nat → Int32} {x g f : Int32} {i : Nat} (h1 : cu_ps (pl i) f) (h2 : cu_gr (pl i) g = x) : cu_in pl x g f i = true := by
  unfold cu_in; rw [decide_eq_true h1, decide_eq_true h2]; rfl
theorem cu_in_p {pl : Nat → Int32} {x g f : Int32} {i : Nat} (h1 : ¬ cu_ps (pl i) f) : cu_in pl x g f i = false := by
  unfold cu_in; rw [decide_eq_false h1]; rfl
theorem cu_in_g {pl : Nat → Int32} {x g f : Int32} {i : Nat} (h2 : ¬ cu_gr (pl i) g = x) : cu_in pl x g f i = false := by
  unfold cu_in; rw [decide_eq_false h2, Bool.and_false]
def cu_mem (b : Nat → Bool) : Nat → Int32
  | 0 => 0
  | i + 1 => if b i = true then cu_mem b i + 1 else cu_mem b i
def cu_tot (b : Nat → Bool) (a : Nat → Int32) : Nat → Int32
  | 0 => 0
  | i + 1 => if b i = true then cu_tot b a i + a i else cu_tot b a i
theorem cu_mem_t {b : Nat → Bool} {i : Nat} (h : b i = true) : cu_mem b (i + 1) = cu_mem b i + 1 := if_pos h
theorem cu_mem_f {b : Nat → Bool} {i : Nat} (h : b i = false) : cu_mem b (i + 1) = cu_mem b i := if_neg (by rw [h]; decide)
theorem cu_tot_t {b : Nat → Bool} {a : Nat → Int32} {i : Nat} (h : b i = true) : cu_tot b a (i + 1) = cu_tot b a i + a i := if_pos h
theorem cu_tot_f {b : Nat → Bool} {a : Nat → Int32} {i : Nat} (h : b i = false) : cu_tot b a (i + 1) = cu_tot b a i := if_neg (by rw [h]; decide)
theorem cu_Xm6 {post : Int32 → Prop} (x g f : Int32) {s : Nat} (hs : s ≤ 40) (pl am : Nat → Int32) (hp : post (cu_mem (cu_in pl x g f) s)) : ∀ d i : Nat, i + d = s → wX_membersOf_6 post x g f (nI s) pl am (d + 1) (cu_mem (cu_in pl x g f) i) (nI i) := by
  intro d
  induction d with
  | zero =>
    intro i hi
    have e : i = s := by omega
    subst e
    exact br_t (nI_le (Nat.le_refl _) (by omega)) hp
  | succ d ih =>
    intro i hi
    have h : ¬ nI s ≤ nI i := nI_ge (by omega) (by omega)
    have hin : vp_in (nI i) 40 := vp_in_nI (by omega) (by omega)
    have hc : (nI i).toNatClampNeg = i := nI_clamp (by omega)
    have J := ih (i + 1) (by omega)
    refine br_f h ⟨hin, ?_⟩
    rw [hc]
    refine cu_Xp (fun h1 => br_f cu_10 ⟨hin, ?_⟩) (fun h1 => br_t rfl (nm_r (nI_1 i) ?_))
    · refine cu_Xg ?_
      refine br_c (fun h2 => ?_) (fun h2 => nm_r (nI_1 i) ?_)
      · rw [cu_mem_t (cu_in_t h1 h2)] at J
        exact nm_e (nm_r (nI_1 i) J)
      · rw [cu_mem_f (cu_in_g h2)] at J
        exact J
    · rw [cu_mem_f (cu_in_p h1)] at J
      exact J
theorem cu_Xm {post : Int32 → Prop} {x g f : Int32} {s : Nat} (hs : s ≤ 40) {pl am : Nat → Int32} (hp : post (cu_mem (cu_in pl x g f) s)) : wpX_membersOf post (nI s, pl, am) x g f :=
  ⟨s + 1, cu_Xm6 x g f hs pl am hp s 0 (by omega)⟩
theorem cu_Xt6 {post : Int32 → Prop} (x g f : Int32) {s : Nat} (hs : s ≤ 40) (pl am : Nat → Int32) (hp : post (cu_tot (cu_in pl x g f) am s)) : ∀ d i : Nat, i + d = s → wX_totalOf_6 post x g f (nI s) pl am (d + 1) (cu_tot (cu_in pl x g f) am i) (nI i) := by
  intro d
  induction d with
  | zero =>
    intro i hi
    have e : i = s := by omega
    subst e
    exact br_t (nI_le (Nat.le_refl _) (by omega)) hp
  | succ d ih =>
    intro i hi
    have h : ¬ nI s ≤ nI i := nI_ge (by omega) (by omega)
    have hin : vp_in (nI i) 40 := vp_in_nI (by omega) (by omega)
    have hc : (nI i).toNatClampNeg = i := nI_clamp (by omega)
    have J := ih (i + 1) (by omega)
    refine br_f h ⟨hin, ?_⟩
    rw [hc]
    refine cu_Xp (fun h1 => br_f cu_10 ⟨hin, ?_⟩) (fun h1 => br_t rfl (nm_r (nI_1 i) ?_))
    · refine cu_Xg ?_
      refine br_c (fun h2 => ⟨hin, ?_⟩) (fun h2 => nm_r (nI_1 i) ?_)
      · rw [cu_tot_t (cu_in_t h1 h2)] at J
        exact nm_e (nm_r (nI_1 i) J)
      · rw [cu_tot_f (cu_in_g h2)] at J
        exact J
    · rw [cu_tot_f (cu_in_p h1)] at J
      exact J
theorem cu_Xt {post : Int32 → Prop} {x g f : Int32} {s : Nat} (hs : s ≤ 40) {pl am : Nat → Int32} (hp : post (cu_tot (cu_in pl x g f) am s)) : wpX_totalOf post (nI s, pl, am) x g f :=
  ⟨s + 1, cu_Xt6 x g f hs pl am hp s 0 (by omega)⟩
theorem cu_Yl13 {post : SY → Prop} (x g f : Int32) {s : Nat} (hs : s ≤ 40) (pl am : Nat → Int32) (hp : post (nI s, cu_mem (cu_in pl x g f) s, cu_tot (cu_in pl x g f) am s, pl, am)) : ∀ d i : Nat, i + d = s → wY_look_13 post x g f (nI s) pl am (d + 1) (nI i) (cu_mem (cu_in pl x g f) i) (cu_tot (cu_in pl x g f) am i) := by
  intro d
  induction d with
  | zero =>
    intro i hi
    have e : i = s := by omega
    subst e
    exact br_t (nI_le (Nat.le_refl _) (by omega)) hp
  | succ d ih =>
    intro i hi
    have h : ¬ nI s ≤ nI i := nI_ge (by omega) (by omega)
    have hin : vp_in (nI i) 40 := vp_in_nI (by omega) (by omega)
    have hc : (nI i).toNatClampNeg = i := nI_clamp (by omega)
    have J := ih (i + 1) (by omega)
    refine br_f h ⟨hin, ?_⟩
    rw [hc]
    refine cu_Yg ?_
    refine br_c (fun h2 => ⟨hin, ?_⟩) (fun h2 => nm_r (nI_1 i) ?_)
    · refine cu_Yp (fun h1 => br_f cu_10 ?_) (fun h1 => br_t rfl (nm_r (nI_1 i) ?_))
      · rw [cu_mem_t (cu_in_t h1 h2), cu_tot_t (cu_in_t h1 h2)] at J
        exact nm_e ⟨hin, nm_e (nm_r (nI_1 i) J)⟩
      · rw [cu_mem_f (cu_in_p h1), cu_tot_f (cu_in_p h1)] at J
        exact J
    · rw [cu_mem_f (cu_in_g h2), cu_tot_f (cu_in_g h2)] at J
      exact J
theorem cu_Yl {post : SY → Prop} {x g f : Int32} {s : Nat} (hs : s ≤ 40) {a b : Int32} {pl am : Nat → Int32} (hp : post (nI s, cu_mem (cu_in pl x g f) s, cu_tot (cu_in pl x g f) am s, pl, am)) : wpY_look post (nI s, a, b, pl, am) x g f :=
  ⟨s + 1, cu_Yl13 x g f hs pl am hp s 0 (by omega)⟩
