/-! ===== the loops over the groups 0 to 119 ===== -/
theorem cu_120 : nI 120 = 120 := by decide +kernel
theorem cu_le120 {j : Nat} (h : 120 ≤ j) (hj : j < 1000) : (120 : Int32) ≤ nI j := by rw [← cu_120]; exact nI_le h (by omega)
theorem cu_nle120 {j : Nat} (h : j < 120) : ¬ (120 : Int32) ≤ nI j := by rw [← cu_120]; exact nI_ge h (by omega)
abbrev cu_M (pl : Nat → Int32) (s : Nat) (g f x : Int32) : Int32 := cu_mem (cu_in pl x g f) s
abbrev cu_T (pl am : Nat → Int32) (s : Nat) (g f x : Int32) : Int32 := cu_tot (cu_in pl x g f) am s
def cu_grs (M : Int32 → Int32) : Nat → Int32
  | 0 => 0
  | j + 1 => if M (nI j) ≤ 0 then cu_grs M j else cu_grs M j + 1
theorem cu_grs_t {M : Int32 → Int32} {j : Nat} (h : M (nI j) ≤ 0) : cu_grs M (j + 1) = cu_grs M j := if_pos h
theorem cu_grs_f {M : Int32 → Int32} {j : Nat} (h : ¬ M (nI j) ≤ 0) : cu_grs M (j + 1) = cu_grs M j + 1 := if_neg h
theorem cu_Xgrs {post : Int32 → Prop} (g f : Int32) {s : Nat} (hs : s ≤ 40) (pl am : Nat → Int32) (hp : post (cu_grs (cu_M pl s g f) 120)) : ∀ d j : Nat, j + d = 120 → wX_groups_22 post g f (nI s) pl am (d + 1) (cu_grs (cu_M pl s g f) j) (nI j) := by
  intro d
  induction d with
  | zero =>
    intro j hj
    have e : j = 120 := by omega
    subst e
    exact br_t (cu_le120 (Nat.le_refl _) (by omega)) hp
  | succ d ih =>
    intro j hj
    have J := ih (j + 1) (by omega)
    refine br_f (cu_nle120 (by omega)) ?_
    refine cu_Xm hs ?_
    refine br_c (fun h => nm_r (nI_1 j) ?_) (fun h => ?_)
    · rw [cu_grs_t (M := cu_M pl s g f) (j := j) h] at J
      exact J
    · rw [cu_grs_f (M := cu_M pl s g f) (j := j) h] at J
      exact nm_e (nm_r (nI_1 j) J)
theorem cu_Ygrs {post : Int32 → SY → Prop} (g f : Int32) {s : Nat} (hs : s ≤ 40) (pl am : Nat → Int32) (hp : ∀ a b : Int32, post (cu_grs (cu_M pl s g f) 120) (nI s, a, b, pl, am)) : ∀ d j : Nat, j + d = 120 → ∀ a b : Int32, wY_groups_24 post g f (d + 1) (cu_grs (cu_M pl s g f) j) (nI j) (nI s) a b pl am := by
  intro d
  induction d with
  | zero =>
    intro j hj a b
    have e : j = 120 := by omega
    subst e
    exact br_t (cu_le120 (Nat.le_refl _) (by omega)) (hp a b)
  | succ d ih =>
    intro j hj a b
    have J := ih (j + 1) (by omega)
    refine br_f (cu_nle120 (by omega)) ?_
    refine cu_Yl hs ?_
    refine br_c (fun h => nm_r (nI_1 j) ?_) (fun h => ?_)
    · rw [cu_grs_t (M := cu_M pl s g f) (j := j) h] at J
      exact J _ _
    · rw [cu_grs_f (M := cu_M pl s g f) (j := j) h] at J
      exact nm_e (nm_r (nI_1 j) (J _ _))
def cu_als (M T : Int32 → Int32) (x : Int32) : Nat → Int32
  | 0 => 0
  | j + 1 => if M (nI j) ≤ 0 then cu_als M T x j else if T (nI j) < x then cu_als M T x j else cu_als M T x j + 1
theorem cu_als_m {M T : Int32 → Int32} {x : Int32} {j : Nat} (h : M (nI j) ≤ 0) : cu_als M T x (j + 1) = cu_als M T x j := if_pos h
theorem cu_als_t {M T : Int32 → Int32} {x : Int32} {j : Nat} (h : ¬ M (nI j) ≤ 0) (h2 : T (nI j) < x) : cu_als M T x (j + 1) = cu_als M T x j := (if_neg h).trans (if_pos h2)
theorem cu_als_f {M T : Int32 → Int32} {x : Int32} {j : Nat} (h : ¬ M (nI j) ≤ 0) (h2 : ¬ T (nI j) < x) : cu_als M T x (j + 1) = cu_als M T x j + 1 := (if_neg h).trans (if_neg h2)
theorem cu_Xals {post : Int32 → Prop} (g x : Int32) {s : Nat} (hs : s ≤ 40) (pl am : Nat → Int32) (hp : post (cu_als (cu_M pl s g 32767) (cu_T pl am s g 32767) x 120)) : ∀ d j : Nat, j + d = 120 → wX_atLeast_15 post g x (nI s) pl am (d + 1) (cu_als (cu_M pl s g 32767) (cu_T pl am s g 32767) x j) (nI j) := by
  intro d
  induction d with
  | zero =>
    intro j hj
    have e : j = 120 := by omega
    subst e
    exact br_t (cu_le120 (Nat.le_refl _) (by omega)) hp
  | succ d ih =>
    intro j hj
    have J := ih (j + 1) (by omega)
    refine br_f (cu_nle120 (by omega)) ?_
    refine cu_Xm hs ?_
    refine br_c (fun h => nm_r (nI_1 j) ?_) (fun h => ?_)
    · rw [cu_als_m (M := cu_M pl s g 32767) (T := cu_T pl am s g 32767) (x := x) (j := j) h] at J
      exact J
    · refine cu_Xt hs ?_
      refine br_c (fun h2 => nm_r (nI_1 j) ?_) (fun h2 => ?_)
      · rw [cu_als_t (M := cu_M pl s g 32767) (T := cu_T pl am s g 32767) (x := x) (j := j) h h2] at J
        exact J
      · rw [cu_als_f (M := cu_M pl s g 32767) (T := cu_T pl am s g 32767) (x := x) (j := j) h h2] at J
        exact nm_e (nm_r (nI_1 j) J)
theorem cu_Yals {post : Int32 → SY → Prop} (g x : Int32) {s : Nat} (hs : s ≤ 40) (pl am : Nat → Int32) (hp : ∀ a b : Int32, post (cu_als (cu_M pl s g 32767) (cu_T pl am s g 32767) x 120) (nI s, a, b, pl, am)) : ∀ d j : Nat, j + d = 120 → ∀ a b : Int32, wY_atLeast_16 post g x (d + 1) (cu_als (cu_M pl s g 32767) (cu_T pl am s g 32767) x j) (nI j) (nI s) a b pl am := by
  intro d
  induction d with
  | zero =>
    intro j hj a b
    have e : j = 120 := by omega
    subst e
    exact br_t (cu_le120 (Nat.le_refl _) (by omega)) (hp a b)
  | succ d ih =>
    intro j hj a b
    have J := ih (j + 1) (by omega)
    refine br_f (cu_nle120 (by omega)) ?_
    refine cu_Yl hs ?_
    refine br_c (fun h => nm_r (nI_1 j) ?_) (fun h => ?_)
    · rw [cu_als_m (M := cu_M pl s g 32767) (T := cu_T pl am s g 32767) (x := x) (j := j) h] at J
      exact J _ _
    · refine br_c (fun h2 => nm_r (nI_1 j) ?_) (fun h2 => ?_)
      · rw [cu_als_t (M := cu_M pl s g 32767) (T := cu_T pl am s g 32767) (x := x) (j := j) h h2] at J
        exact J _ _
      · rw [cu_als_f (M := cu_M pl s g 32767) (T := cu_T pl am s g 32767) (x := x) (j := j) h h2] at J
        exact nm_e (nm_r (nI_1 j) (J _ _))
/-! ===== the greatest sum and the least group that has it ===== -/
def cu_ts (M T : Int32 → Int32) : Nat → Int32
  | 0 => -4000000
  | j + 1 => if M (nI j) ≤ 0 then cu_ts M T j else if T (nI j) ≤ cu_ts M T j then cu_ts M T j else T (nI j)
theorem cu_ts_m {M T : Int32 → Int32} {j : Nat} (h : M (nI j) ≤ 0) : cu_ts M T (j + 1) = cu_ts M T j := if_pos h
theorem cu_ts_t {M T : Int32 → Int32} {j : Nat} (h : ¬ M (nI j) ≤ 0) (h2 : T (nI j) ≤ cu_ts M T j) : cu_ts M T (j + 1) = cu_ts M T j := (if_neg h).trans (if_pos h2)
theorem cu_ts_f {M T : Int32 → Int32} {j : Nat} (h : ¬ M (nI j) ≤ 0) (h2 : ¬ T (nI j) ≤ cu_ts M T j) : cu_ts M T (j + 1) = T (nI j) := (if_neg h).trans (if_neg h2)
def cu_tg (M T : Int32 → Int32) : Nat → Int32
  | 0 => -4000000
  | j + 1 => if M (nI j) ≤ 0 then cu_tg M T j else if T (nI j) ≤ cu_ts M T j then cu_tg M T j else nI j
theorem cu_tg_m {M T : Int32 → Int32} {j : Nat} (h : M (nI j) ≤ 0) : cu_tg M T (j + 1) = cu_tg M T j := if_pos h
theorem cu_tg_t {M T : Int32 → Int32} {j : Nat} (h : ¬ M (nI j) ≤ 0) (h2 : T (nI j) ≤ cu_ts M T j) : cu_tg M T (j + 1) = cu_tg M T j := (if_neg h).trans (if_pos h2)
theorem cu_tg_f {M T : Int32 → Int32} {j : Nat} (h : ¬ M (nI j) ≤ 0) (h2 : ¬ T (nI j) ≤ cu_ts M T j) : cu_tg M T (j + 1) = nI j := (if_neg h).trans (if_neg h2)
theorem cu_nIN {j : Nat} (h : j < 1000) : ¬ nI j = -4000000 := by
  intro e
  have t := congrArg Int32.toInt e
  rw [nI_toInt (by omega)] at t
  have t2 : (-4000000 : Int32).toInt = -4000000 := by decide
  omega
/-- none yet: both say so; some: the group's own sum is the greatest -/
theorem cu_tt {M T : Int32 → Int32} : ∀ j : Nat, j ≤ 120 → (cu_tg M T j = -4000000 → cu_ts M T j = -4000000) ∧ (¬ cu_tg M T j = -4000000 → cu_ts M T j = T (cu_tg M T j)) := by
  intro j
  induction j with
  | zero => intro _; exact ⟨fun _ => rfl, fun h => absurd rfl h⟩
  | succ j ih =>
    intro hj
    have J := ih (by omega)
    by_cases h : M (nI j) ≤ 0
    · rw [cu_tg_m h, cu_ts_m h]; exact J
    · by_cases h2 : T (nI j) ≤ cu_ts M T j
      · rw [cu_tg_t h h2, cu_ts_t h h2]; exact J
      · rw [cu_tg_f h h2, cu_ts_f h h2]
        exact ⟨fun z => absurd z (cu_nIN (by omega)), fun _ => rfl⟩
theorem cu_Xfb {post : Int32 → Prop} (g f : Int32) {s : Nat} (hs : s ≤ 40) (pl am : Nat → Int32) (hT : ∀ x : Int32, ¬ cu_T pl am s g f x ≤ -4000000) (hp : post (cu_tg (cu_M pl s g f) (cu_T pl am s g f) 120)) : ∀ d j : Nat, j + d = 120 → ∀ x4 : Int32, (¬ cu_tg (cu_M pl s g f) (cu_T pl am s g f) j = -4000000 → x4 = cu_ts (cu_M pl s g f) (cu_T pl am s g f) j) → wX_firstBestGroup_9 post g f (nI s) pl am (d + 1) (cu_tg (cu_M pl s g f) (cu_T pl am s g f) j) x4 (nI j) := by
  intro d
  induction d with
  | zero =>
    intro j hj x4 hx
    have e : j = 120 := by omega
    subst e
    exact br_t (cu_le120 (Nat.le_refl _) (by omega)) hp
  | succ d ih =>
    intro j hj x4 hx
    have J := ih (j + 1) (by omega)
    have K := cu_tt (M := cu_M pl s g f) (T := cu_T pl am s g f) j (by omega)
    refine br_f (cu_nle120 (by omega)) ?_
    refine cu_Xm hs ?_
    refine br_c (fun h => nm_r (nI_1 j) ?_) (fun h => ?_)
    · rw [cu_tg_m (M := cu_M pl s g f) (T := cu_T pl am s g f) (j := j) h, cu_ts_m (M := cu_M pl s g f) (T := cu_T pl am s g f) (j := j) h] at J
      exact J x4 hx
    · refine cu_Xt hs ?_
      refine br_c (fun h3 => nm_r (nI_1 j) ?_) (fun h3 => ?_)
      · have h2 : ¬ cu_T pl am s g f (nI j) ≤ cu_ts (cu_M pl s g f) (cu_T pl am s g f) j := by rw [K.1 h3]; exact hT _
        rw [cu_tg_f (M := cu_M pl s g f) (T := cu_T pl am s g f) (j := j) h h2, cu_ts_f (M := cu_M pl s g f) (T := cu_T pl am s g f) (j := j) h h2] at J
        exact J _ (fun _ => rfl)
      · rw [hx h3]
        refine br_c (fun h2 => nm_r (nI_1 j) ?_) (fun h2 => nm_r (nI_1 j) ?_)
        · rw [cu_tg_t (M := cu_M pl s g f) (T := cu_T pl am s g f) (j := j) h h2, cu_ts_t (M := cu_M pl s g f) (T := cu_T pl am s g f) (j := j) h h2] at J
          exact J _ (fun _ => rfl)
        · rw [cu_tg_f (M := cu_M pl s g f) (T := cu_T pl am s g f) (j := j) h h2, cu_ts_f (M := cu_M pl s g f) (T := cu_T pl am s g f) (j := j) h h2] at J
          exact J _ (fun _ => rfl)
theorem cu_Yts {post : Int32 → SY → Prop} (g f : Int32) {s : Nat} (hs : s ≤ 40) (pl am : Nat → Int32) (hp : ∀ a b : Int32, post (cu_ts (cu_M pl s g f) (cu_T pl am s g f) 120) (nI s, a, b, pl, am)) : ∀ d j : Nat, j + d = 120 → ∀ a b : Int32, wY_topSum_25 post g f (d + 1) (cu_ts (cu_M pl s g f) (cu_T pl am s g f) j) (nI j) (nI s) a b pl am := by
  intro d
  induction d with
  | zero =>
    intro j hj a b
    have e : j = 120 := by omega
    subst e
    exact br_t (cu_le120 (Nat.le_refl _) (by omega)) (hp a b)
  | succ d ih =>
    intro j hj a b
    have J := ih (j + 1) (by omega)
    refine br_f (cu_nle120 (by omega)) ?_
    refine cu_Yl hs ?_
    refine br_c (fun h => nm_r (nI_1 j) ?_) (fun h => ?_)
    · rw [cu_ts_m (M := cu_M pl s g f) (T := cu_T pl am s g f) (j := j) h] at J
      exact J _ _
    · refine br_c (fun h2 => nm_r (nI_1 j) ?_) (fun h2 => nm_r (nI_1 j) ?_)
      · rw [cu_ts_t (M := cu_M pl s g f) (T := cu_T pl am s g f) (j := j) h h2] at J
        exact J _ _
      · rw [cu_ts_f (M := cu_M pl s g f) (T := cu_T pl am s g f) (j := j) h h2] at J
        exact J _ _
theorem cu_Ytg {post : Int32 → SY → Prop} (g f : Int32) {s : Nat} (hs : s ≤ 40) (pl am : Nat → Int32) (hp : ∀ a b : Int32, post (cu_tg (cu_M pl s g f) (cu_T pl am s g f) 120) (nI s, a, b, pl, am)) : ∀ d j : Nat, j + d = 120 → ∀ a b : Int32, wY_topGroup_29 post g f (d + 1) (cu_ts (cu_M pl s g f) (cu_T pl am s g f) j) (cu_tg (cu_M pl s g f) (cu_T pl am s g f) j) (nI j) (nI s) a b pl am := by
  intro d
  induction d with
  | zero =>
    intro j hj a b
    have e : j = 120 := by omega
    subst e
    exact br_t (cu_le120 (Nat.le_refl _) (by omega)) (hp a b)
  | succ d ih =>
    intro j hj a b
    have J := ih (j + 1) (by omega)
    refine br_f (cu_nle120 (by omega)) ?_
    refine cu_Yl hs ?_
    refine br_c (fun h => br_t h (nm_r (nI_1 j) ?_)) (fun h => ?_)
    · rw [cu_ts_m (M := cu_M pl s g f) (T := cu_T pl am s g f) (j := j) h, cu_tg_m (M := cu_M pl s g f) (T := cu_T pl am s g f) (j := j) h] at J
      exact J _ _
    · refine br_c (fun h2 => br_f h (br_t h2 (nm_r (nI_1 j) ?_))) (fun h2 => br_f h (br_f h2 (nm_r (nI_1 j) ?_)))
      · rw [cu_ts_t (M := cu_M pl s g f) (T := cu_T pl am s g f) (j := j) h h2, cu_tg_t (M := cu_M pl s g f) (T := cu_T pl am s g f) (j := j) h h2] at J
        exact J _ _
      · rw [cu_ts_f (M := cu_M pl s g f) (T := cu_T pl am s g f) (j := j) h h2, cu_tg_f (M := cu_M pl s g f) (T := cu_T pl am s g f) (j := j) h h2] at J
        exact J _ _
/-! ===== the greatest amount ===== -/
def cu_gt (pl am : Nat → Int32) (f : Int32) : Nat → Int32
  | 0 => -4000000
  | i + 1 => if cu_ps (pl i) f then (if am i ≤ cu_gt pl am f i then cu_gt pl am f i else am i) else cu_gt pl am f i
theorem cu_gt_p {pl am : Nat → Int32} {f : Int32} {i : Nat} (h : ¬ cu_ps (pl i) f) : cu_gt pl am f (i + 1) = cu_gt pl am f i := if_neg h
theorem cu_gt_t {pl am : Nat → Int32} {f : Int32} {i : Nat} (h : cu_ps (pl i) f) (h2 : am i ≤ cu_gt pl am f i) : cu_gt pl am f (i + 1) = cu_gt pl am f i := (if_pos h).trans (if_pos h2)
theorem cu_gt_f {pl am : Nat → Int32} {f : Int32} {i : Nat} (h : cu_ps (pl i) f) (h2 : ¬ am i ≤ cu_gt pl am f i) : cu_gt pl am f (i + 1) = am i := (if_pos h).trans (if_neg h2)
theorem cu_Xgt {post : Int32 → Prop} (f : Int32) {s : Nat} (hs : s ≤ 40) (pl am : Nat → Int32) (hp : post (cu_gt pl am f s)) : ∀ d i : Nat, i + d = s → wX_greatest_15 post f (nI s) pl am (d + 1) (cu_gt pl am f i) (nI i) := by
  intro d
  induction d with
  | zero =>
    intro i hi
    have e : i = s := by omega
    subst e
    exact br_t (nI_le (Nat.le_refl _) (by omega)) hp
  | succ d ih =>
    intro i hi
    have h : ¬ nI s ≤ nI i := nI_ge (by omega) (by omega)
    have hin : vp_in (nI i) 40 := vp_in_nI (by omega) (by omega)
    have hc : (nI i).toNatClampNeg = i := nI_clamp (by omega)
    have J := ih (i + 1) (by omega)
    refine br_f h ⟨hin, ?_⟩
    rw [hc]
    refine cu_Xp (fun h1 => br_f cu_10 ⟨hin, ?_⟩) (fun h1 => br_t rfl (nm_r (nI_1 i) ?_))
    · refine br_c (fun h2 => nm_r (nI_1 i) ?_) (fun h2 => ⟨hin, ?_⟩)
      · rw [cu_gt_t h1 h2] at J
        exact J
      · rw [cu_gt_f h1 h2] at J
        exact nm_e (nm_r (nI_1 i) J)
    · rw [cu_gt_p h1] at J
      exact J
theorem cu_Ygt {post : Int32 → Prop} (f : Int32) {s : Nat} (hs : s ≤ 40) (a b : Int32) (pl am : Nat → Int32) (hp : post (cu_gt pl am f s)) : ∀ d i : Nat, i + d = s → wY_greatest_16 post f (nI s) a b pl am (d + 1) (cu_gt pl am f i) (nI i) := by
  intro d
  induction d with
  | zero =>
    intro i hi
    have e : i = s := by omega
    subst e
    exact br_t (nI_le (Nat.le_refl _) (by omega)) hp
  | succ d ih =>
    intro i hi
    have h : ¬ nI s ≤ nI i := nI_ge (by omega) (by omega)
    have hin : vp_in (nI i) 40 := vp_in_nI (by omega) (by omega)
    have hc : (nI i).toNatClampNeg = i := nI_clamp (by omega)
    have J := ih (i + 1) (by omega)
    refine br_f h ⟨hin, ?_⟩
    rw [hc]
    refine cu_Yp (fun h1 => br_f cu_10 ⟨hin, ?_⟩) (fun h1 => br_t rfl (nm_r (nI_1 i) ?_))
    · refine br_c (fun h2 => nm_r (nI_1 i) ?_) (fun h2 => ⟨hin, ?_⟩)
      · rw [cu_gt_t h1 h2] at J
        exact J
      · rw [cu_gt_f h1 h2] at J
        exact nm_e (nm_r (nI_1 i) J)
    · rw [cu_gt_p h1] at J
      exact J
/-! ===== quarters and months ===== -/
theorem cu_tot_c {b c : Nat → Bool} {a : Nat → Int32} : ∀ n : Nat, (∀ i, i < n → b i = c i) → cu_tot b a n = cu_tot c a n := by
  intro n
  induction n with
  | zero => intro _; rfl
  | succ n ih =>
    intro h
    have e := h n (by omega)
    have t := ih (fun i hi => h i (by omega))
    show (if b n = true then cu_tot b a n + a n else cu_tot b a n) = (if c n = true then cu_tot c a n + a n else cu_tot c a n)
    rw [e, t]
def cu_qu (pl : Nat → Int32) (q r : Int32) (i : Nat) : Bool := decide (cu_mon (pl i) / 3 = q) && decide (cu_reg (pl i) = r)
theorem cu_qu_t {pl : Nat → Int32} {q r : Int32} {i : Nat} (h1 : cu_mon (pl i) / 3 = q) (h2 : cu_reg (pl i) = r) : cu_qu pl q r i = true := by
  unfold cu_qu; rw [decide_eq_true h1, decide_eq_true h2]; rfl
theorem cu_qu_q {pl : Nat → Int32} {q r : Int32} {i : Nat} (h1 : ¬ cu_mon (pl i) / 3 = q) : cu_qu pl q r i = false := by
  unfold cu_qu; rw [decide_eq_false h1]; rfl
theorem cu_qu_r {pl : Nat → Int32} {q r : Int32} {i : Nat} (h2 : ¬ cu_reg (pl i) = r) : cu_qu pl q r i = false := by
  unfold cu_qu; rw [decide_eq_false h2, Bool.and_false]
theorem cu_Yqu {post : Int32 → Prop} (q r : Int32) {s : Nat} (hs : s ≤ 40) (a b : Int32) (pl am : Nat → Int32) (hp : post (cu_tot (cu_qu pl q r) am s)) : ∀ d i : Nat, i + d = s → wY_quarter_26 post q r (nI s) a b pl am (d + 1) (cu_tot (cu_qu pl q r) am i) (nI i) := by
  intro d
  induction d with
  | zero =>
    intro i hi
    have e : i = s := by omega
    subst e
    exact br_t (nI_le (Nat.le_refl _) (by omega)) hp
  | succ d ih =>
    intro i hi
    have h : ¬ nI s ≤ nI i := nI_ge (by omega) (by omega)
    have hin : vp_in (nI i) 40 := vp_in_nI (by omega) (by omega)
    have hc : (nI i).toNatClampNeg = i := nI_clamp (by omega)
    have J := ih (i + 1) (by omega)
    refine br_f h ⟨hin, ?_⟩
    rw [hc]
    refine cu_Ym ⟨by decide, ?_⟩
    refine br_c (fun h1 => ⟨hin, ?_⟩) (fun h1 => nm_r (nI_1 i) ?_)
    · refine cu_Yr ?_
      refine br_c (fun h2 => ⟨hin, ?_⟩) (fun h2 => nm_r (nI_1 i) ?_)
      · rw [cu_tot_t (cu_qu_t h1 h2)] at J
        exact nm_e (nm_r (nI_1 i) J)
      · rw [cu_tot_f (cu_qu_r h2)] at J
        exact J
    · rw [cu_tot_f (cu_qu_q h1)] at J
      exact J
def cu_mo (pl : Nat → Int32) (m : Int32) (i : Nat) : Bool := decide (cu_mon (pl i) = m)
theorem cu_mo_t {pl : Nat → Int32} {m : Int32} {i : Nat} (h : cu_mon (pl i) = m) : cu_mo pl m i = true := decide_eq_true h
theorem cu_mo_f {pl : Nat → Int32} {m : Int32} {i : Nat} (h : ¬ cu_mon (pl i) = m) : cu_mo pl m i = false := decide_eq_false h
theorem cu_Ygw {post : Int32 → Prop} (m : Int32) {s : Nat} (hs : s ≤ 40) (a b : Int32) (pl am : Nat → Int32) (hp : post (cu_tot (cu_mo pl m) am s - cu_tot (cu_mo pl (m - 1)) am s)) : ∀ d i : Nat, i + d = s → wY_growth_17 post m (nI s) a b pl am (d + 1) (cu_tot (cu_mo pl m) am i - cu_tot (cu_mo pl (m - 1)) am i) (nI i) := by
  intro d
  induction d with
  | zero =>
    intro i hi
    have e : i = s := by omega
    subst e
    exact br_t (nI_le (Nat.le_refl _) (by omega)) hp
  | succ d ih =>
    intro i hi
    have h : ¬ nI s ≤ nI i := nI_ge (by omega) (by omega)
    have hin : vp_in (nI i) 40 := vp_in_nI (by omega) (by omega)
    have hc : (nI i).toNatClampNeg = i := nI_clamp (by omega)
    have J := ih (i + 1) (by omega)
    have e51 : ∀ z : Int32, z = cu_tot (cu_mo pl m) am (i + 1) - cu_tot (cu_mo pl (m - 1)) am i → wY_growth_51 post (wY_growth_17 post m (nI s) a b pl am (d + 1)) m (nI i) z (nI s) a b pl am := by
      intro z hz
      refine ⟨hin, ?_⟩
      rw [hc]
      refine cu_Ym ?_
      refine br_c (fun h2 => ⟨hin, ?_⟩) (fun h2 => nm_r (nI_1 i) ?_)
      · rw [cu_tot_t (cu_mo_t h2)] at J
        refine nm_r ?_ (nm_r (nI_1 i) J)
        rw [hz]
        generalize cu_tot (cu_mo pl m) am (i + 1) = A
        generalize cu_tot (cu_mo pl (m - 1)) am i = B
        generalize am i = C
        grind
      · rw [cu_tot_f (cu_mo_f h2)] at J
        rw [hz]
        exact J
    refine br_f h ⟨hin, ?_⟩
    rw [hc]
    refine cu_Ym ?_
    refine br_c (fun h1 => ⟨hin, e51 _ ?_⟩) (fun h1 => e51 _ ?_)
    · rw [cu_tot_t (cu_mo_t h1)]
      generalize cu_tot (cu_mo pl m) am i = A
      generalize cu_tot (cu_mo pl (m - 1)) am i = B
      generalize am i = C
      grind
    · rw [cu_tot_f (cu_mo_f h1)]
