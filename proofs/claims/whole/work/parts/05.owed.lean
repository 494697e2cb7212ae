/-- the same facts on both sides: their number, at most 40, their places, 0 to 119, and their amounts, -50 to 50; the reference's two scratch fields are free -/
def i_Rel (_ : Nat) (u : SX) (v : SY) : Prop := ∃ (s : Nat) (pl am : Nat → Int32) (a b : Int32), u = (nI s, pl, am) ∧ v = (nI s, a, b, pl, am) ∧ cu_ok s pl am
theorem i_up {k : Nat} {u : SX} {v : SY} (h : i_Rel k u v) : i_Rel (k + 3) u v := h
theorem i_vc0 : wpX_init (fun u => wpY_init (fun v => i_Rel 0 u v)) := ⟨0, fun _ => 0, fun _ => 0, 0, 0, rfl, rfl, by omega, fun i hi => absurd hi (by omega), fun i hi => absurd hi (by omega)⟩
theorem cu_rel {k s : Nat} {pl am : Nat → Int32} {a b : Int32} (ok : cu_ok s pl am) : i_Rel k (nI s, pl, am) (nI s, a, b, pl, am) := ⟨s, pl, am, a, b, rfl, rfl, ok⟩
theorem cu_40 : nI 40 = 40 := by decide +kernel
theorem i_vc_add {k : Nat} {u : SX} {v : SY} (I : i_Rel k u v) (hk : k + 3 ≤ 1536) (v1 : Int32) (v2 : Int32) : wpX_add (fun r u' => wpY_add (fun r' v' => r' = r ∧ i_Rel (k + 3) u' v') v v1 v2) u v1 v2 := by
  obtain ⟨s, pl, am, a, b, rfl, rfl, ok⟩ := I
  have hs := ok.1
  by_cases c1 : v1 < 0
  · exact br_t c1 (br_t c1 ⟨rfl, cu_rel ok⟩)
  by_cases c2 : 120 ≤ v1
  · exact br_f c1 (br_t c2 (br_f c1 (br_t ((cu_e119 v1).mpr c2) ⟨rfl, cu_rel ok⟩)))
  have c3 : ¬ 119 < v1 := fun z => c2 ((cu_e119 v1).mp z)
  unfold wpX_add
  dsimp only
  refine br_f c1 (br_f c2 ?_)
  refine cu_Xa (fun ha => br_f cu_10 ?_) (fun ha => br_t rfl ?_)
  · by_cases c4 : s < 40
    · have f4 : nI s < 40 := by rw [← cu_40]; exact nI_lt c4 (by omega)
      have f5 : ¬ nI s = 40 := by rw [← cu_40, nI_eq (by omega) (by omega)]; omega
      have hin : vp_in (nI s) 40 := vp_in_nI c4 (by omega)
      refine br_t f4 ⟨hin, fun p ep => ⟨hin, fun q eq n en => ?_⟩⟩
      unfold wpY_add
      dsimp only
      refine br_f c1 (br_f c3 ?_)
      refine cu_Ya (fun _ => br_f cu_10 ?_) (fun z => absurd ha z)
      refine br_f f5 ⟨hin, fun p' ep' => ⟨hin, fun q' eq' n' en' => ?_⟩⟩
      rw [nI_clamp (by omega)] at ep eq ep' eq'
      rw [nI_1] at en en'
      subst ep eq en ep' eq' en'
      refine ⟨nI_pred s, cu_rel ⟨by omega, ?_, ?_⟩⟩
      · intro i hi
        by_cases e : i = s
        · rw [e, pk_us]
          exact cu_lt 120 (by decide) (by omega) c1 (Int32.not_le.mp c2)
        · rw [pk_un e]
          exact ok.2.1 i (by omega)
      · intro i hi
        by_cases e : i = s
        · rw [e, pk_us]
          exact ha
        · rw [pk_un e]
          exact ok.2.2 i (by omega)
    · have e : s = 40 := by omega
      have f4 : ¬ nI s < 40 := by rw [← cu_40, e]; exact nI_nlt (Nat.le_refl _) (by omega)
      have f5 : nI s = 40 := by rw [e]; exact cu_40
      refine br_f f4 ?_
      unfold wpY_add
      dsimp only
      refine br_f c1 (br_f c3 ?_)
      refine cu_Ya (fun _ => br_f cu_10 ?_) (fun z => absurd ha z)
      exact br_t f5 ⟨rfl, cu_rel ok⟩
  · unfold wpY_add
    dsimp only
    refine br_f c1 (br_f c3 ?_)
    exact cu_Ya (fun z => absurd z ha) (fun _ => br_t rfl ⟨rfl, cu_rel ok⟩)
theorem i_vc_remove {k : Nat} {u : SX} {v : SY} (I : i_Rel k u v) (hk : k + 3 ≤ 1536) : wpX_remove (fun r u' => wpY_remove (fun r' v' => r' = r ∧ i_Rel (k + 3) u' v') v) u := by
  obtain ⟨s, pl, am, a, b, rfl, rfl, ok⟩ := I
  have hs := ok.1
  cases s with
  | zero => exact br_f (nI_pos (n := 0) (by omega)) (br_t nI_0 ⟨rfl, cu_rel ok⟩)
  | succ s =>
    have c1 : 0 < nI (s + 1) := nI_lt (a := 0) (by omega) (by omega)
    have c2 : ¬ nI (s + 1) = 0 := nI_ne0 (by omega) (by omega)
    have hin : vp_in (nI s) 40 := vp_in_nI (by omega) (by omega)
    refine br_t c1 (nm_r (nI_pred s) ⟨hin, ?_⟩)
    refine br_f c2 (nm_r (nI_pred s) ⟨hin, rfl, cu_rel ⟨by omega, fun i hi => ok.2.1 i (by omega), fun i hi => ok.2.2 i (by omega)⟩⟩)
theorem i_vc_change {k : Nat} {u : SX} {v : SY} (I : i_Rel k u v) (hk : k + 3 ≤ 1536) (v1 : Int32) (v2 : Int32) : wpX_change (fun r u' => wpY_change (fun r' v' => r' = r ∧ i_Rel (k + 3) u' v') v v1 v2) u v1 v2 := by
  obtain ⟨s, pl, am, a, b, rfl, rfl, ok⟩ := I
  have hs := ok.1
  by_cases c1 : v1 < 0
  · exact br_t c1 (br_t c1 ⟨rfl, cu_rel ok⟩)
  by_cases c2 : nI s ≤ v1
  · exact br_f c1 (br_t c2 (br_f c1 (br_t c2 ⟨rfl, cu_rel ok⟩)))
  obtain ⟨j, hj, rfl⟩ := cu_lt s (nI_toInt (by omega)) (by omega) c1 (Int32.not_le.mp c2)
  have hin : vp_in (nI j) 40 := vp_in_nI (by omega) (by omega)
  unfold wpX_change
  dsimp only
  refine br_f c1 (br_f c2 ?_)
  refine cu_Xa (fun ha => br_f cu_10 ⟨hin, fun x ex => ⟨hin, fun q eq => ?_⟩⟩) (fun ha => br_t rfl ?_)
  · unfold wpY_change
    dsimp only
    refine br_f c1 (br_f c2 ?_)
    refine cu_Ya (fun _ => br_f cu_10 ⟨hin, fun x' ex' => ⟨hin, fun q' eq' => ?_⟩⟩) (fun z => absurd ha z)
    rw [nI_clamp (by omega)] at ex eq ex' eq'
    subst ex eq ex' eq'
    refine ⟨rfl, cu_rel ⟨hs, ok.2.1, ?_⟩⟩
    intro i hi
    by_cases e : i = j
    · rw [e, pk_us]
      exact ha
    · rw [pk_un e]
      exact ok.2.2 i hi
  · unfold wpY_change
    dsimp only
    refine br_f c1 (br_f c2 ?_)
    exact cu_Ya (fun z => absurd z ha) (fun _ => br_t rfl ⟨rfl, cu_rel ok⟩)
theorem i_vc_facts {k : Nat} {u : SX} {v : SY} (I : i_Rel k u v) (hk : k + 3 ≤ 1536) : wpX_facts (fun r => wpY_facts (fun r' => r' = r ∧ i_Rel (k + 3) u v) v) u := by
  obtain ⟨s, pl, am, a, b, rfl, rfl, ok⟩ := I
  exact ⟨rfl, cu_rel ok⟩
theorem i_vc_count {k : Nat} {u : SX} {v : SY} (I : i_Rel k u v) (hk : k + 3 ≤ 1536) (v1 : Int32) : wpX_count (fun r => wpY_count (fun r' v' => r' = r ∧ i_Rel (k + 3) u v') v v1) u v1 := by
  obtain ⟨s, pl, am, a, b, rfl, rfl, ok⟩ := I
  unfold wpX_count wpY_count
  dsimp only
  refine cu_Xf (fun hf => br_f cu_10 ?_) (fun hf => br_t rfl ?_)
  · refine cu_Xm ok.1 ?_
    refine cu_Yf (fun _ => br_f cu_10 ?_) (fun z => absurd hf z)
    refine cu_Yl ok.1 ?_
    exact ⟨rfl, cu_rel ok⟩
  · exact cu_Yf (fun z => absurd z hf) (fun _ => br_t rfl ⟨rfl, cu_rel ok⟩)
theorem i_vc_sum {k : Nat} {u : SX} {v : SY} (I : i_Rel k u v) (hk : k + 3 ≤ 1536) (v1 : Int32) : wpX_sum (fun r => wpY_sum (fun r' v' => r' = r ∧ i_Rel (k + 3) u v') v v1) u v1 := by
  obtain ⟨s, pl, am, a, b, rfl, rfl, ok⟩ := I
  unfold wpX_sum wpY_sum
  dsimp only
  refine cu_Xf (fun hf => br_f cu_10 ?_) (fun hf => br_t rfl ?_)
  · refine cu_Xt ok.1 ?_
    refine cu_Yf (fun _ => br_f cu_10 ?_) (fun z => absurd hf z)
    refine cu_Yl ok.1 ?_
    exact ⟨rfl, cu_rel ok⟩
  · exact cu_Yf (fun z => absurd z hf) (fun _ => br_t rfl ⟨rfl, cu_rel ok⟩)
theorem i_vc_greatest {k : Nat} {u : SX} {v : SY} (I : i_Rel k u v) (hk : k + 3 ≤ 1536) (v1 : Int32) : wpX_greatest (fun r => wpY_greatest (fun r' => r' = r ∧ i_Rel (k + 3) u v) v v1) u v1 := by
  obtain ⟨s, pl, am, a, b, rfl, rfl, ok⟩ := I
  unfold wpX_greatest wpY_greatest
  dsimp only
  refine cu_Xf (fun hf => br_f cu_10 ⟨s + 1, cu_Xgt v1 ok.1 pl am ?_ s 0 (by omega)⟩) (fun hf => br_t rfl ?_)
  · refine cu_Yf (fun _ => br_f cu_10 ⟨s + 1, cu_Ygt v1 ok.1 a b pl am ?_ s 0 (by omega)⟩) (fun z => absurd hf z)
    exact ⟨rfl, cu_rel ok⟩
  · exact cu_Yf (fun z => absurd z hf) (fun _ => br_t rfl ⟨rfl, cu_rel ok⟩)
theorem i_vc_groups {k : Nat} {u : SX} {v : SY} (I : i_Rel k u v) (hk : k + 3 ≤ 1536) (v1 : Int32) (v2 : Int32) : wpX_groups (fun r => wpY_groups (fun r' v' => r' = r ∧ i_Rel (k + 3) u v') v v1 v2) u v1 v2 := by
  obtain ⟨s, pl, am, a, b, rfl, rfl, ok⟩ := I
  unfold wpX_groups wpY_groups
  dsimp only
  refine cu_Xo (fun ho => br_f cu_10 ?_) (fun ho => br_t rfl ?_)
  · refine cu_Xf (fun hf => br_f cu_10 ⟨121, cu_Xgrs v1 v2 ok.1 pl am ?_ 120 0 rfl⟩) (fun hf => br_t rfl ?_)
    · refine cu_Yo (fun _ => br_f cu_10 ?_) (fun z => absurd ho z)
      refine cu_Yf (fun _ => br_f cu_10 ⟨121, cu_Ygrs v1 v2 ok.1 pl am ?_ 120 0 rfl a b⟩) (fun z => absurd hf z)
      exact fun _ _ => ⟨rfl, cu_rel ok⟩
    · refine cu_Yo (fun _ => br_f cu_10 ?_) (fun z => absurd ho z)
      exact cu_Yf (fun z => absurd z hf) (fun _ => br_t rfl ⟨rfl, cu_rel ok⟩)
  · exact cu_Yo (fun z => absurd z ho) (fun _ => br_t rfl ⟨rfl, cu_rel ok⟩)
theorem i_vc_topSum {k : Nat} {u : SX} {v : SY} (I : i_Rel k u v) (hk : k + 3 ≤ 1536) (v1 : Int32) (v2 : Int32) : wpX_topSum (fun r => wpY_topSum (fun r' v' => r' = r ∧ i_Rel (k + 3) u v') v v1 v2) u v1 v2 := by
  obtain ⟨s, pl, am, a, b, rfl, rfl, ok⟩ := I
  have K := cu_tt (M := cu_M pl s v1 v2) (T := cu_T pl am s v1 v2) 120 (Nat.le_refl _)
  unfold wpX_topSum wpY_topSum
  dsimp only
  refine cu_Xo (fun ho => br_f cu_10 ?_) (fun ho => br_t rfl ?_)
  · refine cu_Xf (fun hf => br_f cu_10 ?_) (fun hf => br_t rfl ?_)
    · refine cu_XfB ok ?_
      refine br_c (fun h => ?_) (fun h => ?_)
      · refine cu_Yo (fun _ => br_f cu_10 ?_) (fun z => absurd ho z)
        refine cu_Yf (fun _ => br_f cu_10 ⟨121, cu_Yts v1 v2 ok.1 pl am ?_ 120 0 rfl a b⟩) (fun z => absurd hf z)
        exact fun _ _ => ⟨K.1 h, cu_rel ok⟩
      · refine cu_Xt ok.1 ?_
        refine cu_Yo (fun _ => br_f cu_10 ?_) (fun z => absurd ho z)
        refine cu_Yf (fun _ => br_f cu_10 ⟨121, cu_Yts v1 v2 ok.1 pl am ?_ 120 0 rfl a b⟩) (fun z => absurd hf z)
        exact fun _ _ => ⟨K.2 h, cu_rel ok⟩
    · refine cu_Yo (fun _ => br_f cu_10 ?_) (fun z => absurd ho z)
      exact cu_Yf (fun z => absurd z hf) (fun _ => br_t rfl ⟨rfl, cu_rel ok⟩)
  · exact cu_Yo (fun z => absurd z ho) (fun _ => br_t rfl ⟨rfl, cu_rel ok⟩)
theorem i_vc_topGroup {k : Nat} {u : SX} {v : SY} (I : i_Rel k u v) (hk : k + 3 ≤ 1536) (v1 : Int32) (v2 : Int32) : wpX_topGroup (fun r => wpY_topGroup (fun r' v' => r' = r ∧ i_Rel (k + 3) u v') v v1 v2) u v1 v2 := by
  obtain ⟨s, pl, am, a, b, rfl, rfl, ok⟩ := I
  unfold wpX_topGroup wpY_topGroup
  dsimp only
  refine cu_Xo (fun ho => br_f cu_10 ?_) (fun ho => br_t rfl ?_)
  · refine cu_Xf (fun hf => br_f cu_10 ?_) (fun hf => br_t rfl ?_)
    · refine cu_XfB ok ?_
      refine cu_Yo (fun _ => br_f cu_10 ?_) (fun z => absurd ho z)
      refine cu_Yf (fun _ => br_f cu_10 ⟨121, cu_Ytg v1 v2 ok.1 pl am ?_ 120 0 rfl a b⟩) (fun z => absurd hf z)
      exact fun _ _ => ⟨rfl, cu_rel ok⟩
    · refine cu_Yo (fun _ => br_f cu_10 ?_) (fun z => absurd ho z)
      exact cu_Yf (fun z => absurd z hf) (fun _ => br_t rfl ⟨rfl, cu_rel ok⟩)
  · exact cu_Yo (fun z => absurd z ho) (fun _ => br_t rfl ⟨rfl, cu_rel ok⟩)
theorem i_vc_quarter {k : Nat} {u : SX} {v : SY} (I : i_Rel k u v) (hk : k + 3 ≤ 1536) (v1 : Int32) (v2 : Int32) : wpX_quarter (fun r => wpY_quarter (fun r' => r' = r ∧ i_Rel (k + 3) u v) v v1 v2) u v1 v2 := by
  obtain ⟨s, pl, am, a, b, rfl, rfl, ok⟩ := I
  by_cases c1 : v1 < 0
  · exact br_t c1 (br_t c1 ⟨rfl, cu_rel ok⟩)
  by_cases c2 : 2 ≤ v1
  · exact br_f c1 (br_t c2 (br_f c1 (br_t ((cu_e1 v1).mpr c2) ⟨rfl, cu_rel ok⟩)))
  have c2' : ¬ 1 < v1 := fun z => c2 ((cu_e1 v1).mp z)
  by_cases c3 : v2 < 0
  · exact br_f c1 (br_f c2 (br_t c3 (br_f c1 (br_f c2' (br_t c3 ⟨rfl, cu_rel ok⟩)))))
  by_cases c4 : v2 < 4
  · obtain ⟨q, hq, rfl⟩ := cu_lt 2 (N := 2) (by decide) (by omega) c1 (Int32.not_le.mp c2)
    obtain ⟨r, hr, rfl⟩ := cu_lt 4 (N := 4) (by decide) (by omega) c3 c4
    unfold wpX_quarter wpY_quarter
    dsimp only
    refine br_f c1 (br_f c2 (br_f c3 (br_t c4 (nm_e (nm_e ?_)))))
    refine cu_Xt ok.1 ?_
    refine br_f c1 (br_f c2' (br_f c3 (br_t ((cu_e3 (nI r)).mpr c4) ⟨s + 1, cu_Yqu (nI q) (nI r) ok.1 a b pl am ?_ s 0 (by omega)⟩)))
    exact ⟨(cu_qeq ok hq hr).symm, cu_rel ok⟩
  · exact br_f c1 (br_f c2 (br_f c3 (br_f c4 (br_f c1 (br_f c2' (br_f c3 (br_f (fun z => c4 ((cu_e3 v2).mp z)) ⟨rfl, cu_rel ok⟩)))))))
theorem i_vc_growth {k : Nat} {u : SX} {v : SY} (I : i_Rel k u v) (hk : k + 3 ≤ 1536) (v1 : Int32) : wpX_growth (fun r => wpY_growth (fun r' => r' = r ∧ i_Rel (k + 3) u v) v v1) u v1 := by
  obtain ⟨s, pl, am, a, b, rfl, rfl, ok⟩ := I
  by_cases c1 : v1 < 1
  · exact br_t c1 (br_t c1 ⟨rfl, cu_rel ok⟩)
  by_cases c2 : v1 < 6
  · have c0 : ¬ v1 < 0 := fun z => c1 (Int32.lt_trans z (by decide))
    obtain ⟨m, hm, rfl⟩ := cu_lt 6 (N := 6) (by decide) (by omega) c0 c2
    cases m with
    | zero => exact absurd (by decide) c1
    | succ m =>
      unfold wpX_growth wpY_growth
      dsimp only
      refine br_f c1 (br_t c2 ?_)
      refine cu_Xmo ok hm ?_
      rw [nI_pred]
      refine cu_Xmo ok (by omega) ?_
      refine br_f c1 (br_t ((cu_e5 (nI (m + 1))).mpr c2) ⟨s + 1, cu_YgW (nI (m + 1)) ok.1 a b pl am ?_⟩)
      rw [nI_pred]
      exact ⟨rfl, cu_rel ok⟩
  · exact br_f c1 (br_f c2 (br_f c1 (br_f (fun z => c2 ((cu_e5 v1).mp z)) ⟨rfl, cu_rel ok⟩)))
theorem i_vc_atLeast {k : Nat} {u : SX} {v : SY} (I : i_Rel k u v) (hk : k + 3 ≤ 1536) (v1 : Int32) (v2 : Int32) : wpX_atLeast (fun r => wpY_atLeast (fun r' v' => r' = r ∧ i_Rel (k + 3) u v') v v1 v2) u v1 v2 := by
  obtain ⟨s, pl, am, a, b, rfl, rfl, ok⟩ := I
  unfold wpX_atLeast wpY_atLeast
  dsimp only
  refine cu_Xo (fun ho => br_f cu_10 ⟨121, cu_Xals v1 v2 ok.1 pl am ?_ 120 0 rfl⟩) (fun ho => br_t rfl ?_)
  · refine cu_Yo (fun _ => br_f cu_10 ⟨121, cu_Yals v1 v2 ok.1 pl am ?_ 120 0 rfl a b⟩) (fun z => absurd ho z)
    exact fun _ _ => ⟨rfl, cu_rel ok⟩
  · exact cu_Yo (fun z => absurd z ho) (fun _ => br_t rfl ⟨rfl, cu_rel ok⟩)
theorem i_vc_plan {k : Nat} {u : SX} {v : SY} (I : i_Rel k u v) (hk : k + 3 ≤ 1536) (v1 : Int32) : wpX_plan (fun r => wpY_plan (fun r' => r' = r ∧ i_Rel (k + 3) u v) v v1) u v1 := by
  obtain ⟨s, pl, am, a, b, rfl, rfl, ok⟩ := I
  exact br_c (fun c1 => br_t c1 ⟨rfl, cu_rel ok⟩) (fun c1 => br_c (fun c2 => br_f c1 (br_t c2 ⟨rfl, cu_rel ok⟩)) (fun c2 => br_f c1 (br_f c2 ⟨rfl, cu_rel ok⟩)))
