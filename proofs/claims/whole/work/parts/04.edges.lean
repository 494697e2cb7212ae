/-! ===== edges of the arguments ===== -/
theorem cu_cmp (p : Int32) (a b : Int32) (h : b.toInt = a.toInt + 1) : a < p ↔ b ≤ p := by
  rw [Int32.lt_iff_toInt_lt, Int32.le_iff_toInt_le]; omega
theorem cu_cmp2 (p : Int32) (a b : Int32) (h : b.toInt = a.toInt + 1) : p ≤ a ↔ p < b := by
  rw [Int32.lt_iff_toInt_lt, Int32.le_iff_toInt_le]; omega
theorem cu_e119 (p : Int32) : 119 < p ↔ 120 ≤ p := cu_cmp p 119 120 (by decide)
theorem cu_e1 (p : Int32) : 1 < p ↔ 2 ≤ p := cu_cmp p 1 2 (by decide)
theorem cu_e7 (p : Int32) : 7 < p ↔ 8 ≤ p := cu_cmp p 7 8 (by decide)
theorem cu_e32767 (p : Int32) : 32767 < p ↔ 32768 ≤ p := cu_cmp p 32767 32768 (by decide)
theorem cu_e3 (p : Int32) : p ≤ 3 ↔ p < 4 := cu_cmp2 p 3 4 (by decide)
theorem cu_e5 (p : Int32) : p ≤ 5 ↔ p < 6 := cu_cmp2 p 5 6 (by decide)
abbrev cu_am (p : Int32) : Prop := -50 ≤ p.toInt ∧ p.toInt ≤ 50
theorem cu_Xa {post : Int32 → Prop} {p : Int32} (h1 : cu_am p → post 1) (h0 : ¬ cu_am p → post 0) : wpX_isAmount post p := by
  have l1 : (-50 : Int32).toInt = -50 := by decide
  have l2 : (50 : Int32).toInt = 50 := by decide
  refine br_c (fun c => h0 ?_) (fun c => br_c (fun d => h0 ?_) (fun d => h1 ?_))
  · rw [Int32.lt_iff_toInt_lt] at c; omega
  · rw [Int32.lt_iff_toInt_lt] at d; omega
  · rw [Int32.lt_iff_toInt_lt] at c d; omega
theorem cu_Ya {post : Int32 → Prop} {v : SY} {p : Int32} (h1 : cu_am p → post 1) (h0 : ¬ cu_am p → post 0) : wpY_isAmount post v p := by
  obtain ⟨a, b, c, d, e⟩ := v
  exact cu_Xa h1 h0
abbrev cu_fi (p : Int32) : Prop := ¬ p < 0 ∧ ¬ 32768 ≤ p
theorem cu_Xf {post : Int32 → Prop} {p : Int32} (h1 : cu_fi p → post 1) (h0 : ¬ cu_fi p → post 0) : wpX_isFilter post p :=
  br_c (fun c => h0 (fun z => z.1 c)) (fun c => br_c (fun d => h0 (fun z => z.2 d)) (fun d => h1 ⟨c, d⟩))
theorem cu_Yf {post : Int32 → Prop} {v : SY} {p : Int32} (h1 : cu_fi p → post 1) (h0 : ¬ cu_fi p → post 0) : wpY_isFilter post v p := by
  obtain ⟨a, b, c, d, e⟩ := v
  exact br_c (fun c => h0 (fun z => z.1 c)) (fun c => br_c (fun d => h0 (fun z => z.2 ((cu_e32767 p).mp d))) (fun d => h1 ⟨c, fun z => d ((cu_e32767 p).mpr z)⟩))
abbrev cu_go (p : Int32) : Prop := ¬ p < 0 ∧ ¬ 8 ≤ p
theorem cu_Xo {post : Int32 → Prop} {p : Int32} (h1 : cu_go p → post 1) (h0 : ¬ cu_go p → post 0) : wpX_isGrouping post p :=
  br_c (fun c => h0 (fun z => z.1 c)) (fun c => br_c (fun d => h0 (fun z => z.2 d)) (fun d => h1 ⟨c, d⟩))
theorem cu_Yo {post : Int32 → Prop} {v : SY} {p : Int32} (h1 : cu_go p → post 1) (h0 : ¬ cu_go p → post 0) : wpY_isGrouping post v p := by
  obtain ⟨a, b, c, d, e⟩ := v
  exact br_c (fun c => h0 (fun z => z.1 c)) (fun c => br_c (fun d => h0 (fun z => z.2 ((cu_e7 p).mp d))) (fun d => h1 ⟨c, fun z => d ((cu_e7 p).mpr z)⟩))
theorem cu_lt {p : Int32} (n : Nat) {N : Int32} (hN : N.toInt = n) (hn : n < 2 ^ 31) (h0 : ¬ p < 0) (h1 : p < N) : ∃ j : Nat, j < n ∧ p = nI j := by
  obtain ⟨j, hj, rfl⟩ := nI_of h0
  rw [Int32.lt_iff_toInt_lt, nI_toInt hj, hN] at h1
  exact ⟨j, by omega, rfl⟩
/-! ===== what the two states have in common ===== -/
abbrev cu_ok (s : Nat) (pl am : Nat → Int32) : Prop := s ≤ 40 ∧ (∀ i, i < s → ∃ j : Nat, j < 120 ∧ pl i = nI j) ∧ (∀ i, i < s → cu_am (am i))
theorem cu_bd {b : Nat → Bool} {am : Nat → Int32} : ∀ n : Nat, n ≤ 40 → (∀ i, i < n → cu_am (am i)) → -(50 * (n : Int)) ≤ (cu_tot b am n).toInt ∧ (cu_tot b am n).toInt ≤ 50 * (n : Int) := by
  intro n
  induction n with
  | zero =>
    intro _ _
    have e : (cu_tot b am 0).toInt = 0 := rfl
    rw [e]
    exact ⟨by decide, by decide⟩
  | succ n ih =>
    intro hn h
    have J := ih (by omega) (fun i hi => h i (by omega))
    have a := h n (by omega)
    cases e : b n with
    | true =>
      rw [cu_tot_t e, Int32.toInt_add, Int.bmod_eq_of_le (by omega) (by omega)]
      omega
    | false =>
      rw [cu_tot_f e]
      omega
theorem cu_hT {s : Nat} {pl am : Nat → Int32} (ok : cu_ok s pl am) (g f : Int32) : ∀ x : Int32, ¬ cu_T pl am s g f x ≤ -4000000 := by
  intro x h
  have l : (-4000000 : Int32).toInt = -4000000 := by decide
  have B := cu_bd (b := cu_in pl x g f) s ok.1 ok.2.2
  rw [Int32.le_iff_toInt_le] at h
  have h2 : (cu_tot (cu_in pl x g f) am s).toInt ≤ (-4000000 : Int32).toInt := h
  have s40 := ok.1
  omega
theorem cu_XfB {post : Int32 → Prop} {g f : Int32} {s : Nat} {pl am : Nat → Int32} (ok : cu_ok s pl am) (hp : post (cu_tg (cu_M pl s g f) (cu_T pl am s g f) 120)) : wpX_firstBestGroup post (nI s, pl, am) g f :=
  ⟨121, cu_Xfb g f ok.1 pl am (cu_hT ok g f) hp 120 0 rfl 0 (fun z => absurd rfl z)⟩
theorem cu_qtab : ∀ j, j < 120 → ∀ q, q < 2 → ∀ r, r < 4 → (decide (cu_ps (nI j) ((((1 : Int32) <<< (nI r &&& 31)) ||| 496) ||| ((7 : Int32) <<< ((9 + (3 * nI q)) &&& 31)))) && decide (cu_gr (nI j) 0 = 0)) = (decide (cu_mon (nI j) / 3 = nI q) && decide (cu_reg (nI j) = nI r)) := by decide +kernel
theorem cu_mtab : ∀ j, j < 120 → ∀ m, m < 6 → (decide (cu_ps (nI j) (511 ||| ((1 : Int32) <<< ((9 + nI m) &&& 31)))) && decide (cu_gr (nI j) 0 = 0)) = decide (cu_mon (nI j) = nI m) := by decide +kernel
theorem cu_qeq {s : Nat} {pl am : Nat → Int32} (ok : cu_ok s pl am) {q r : Nat} (hq : q < 2) (hr : r < 4) : cu_tot (cu_in pl 0 0 ((((1 : Int32) <<< (nI r &&& 31)) ||| 496) ||| ((7 : Int32) <<< ((9 + (3 * nI q)) &&& 31)))) am s = cu_tot (cu_qu pl (nI q) (nI r)) am s := by
  apply cu_tot_c
  intro i hi
  obtain ⟨j, hj, e⟩ := ok.2.1 i hi
  unfold cu_in cu_qu
  rw [e]
  exact cu_qtab j hj q hq r hr
theorem cu_meq {s : Nat} {pl am : Nat → Int32} (ok : cu_ok s pl am) {m : Nat} (hm : m < 6) : cu_tot (cu_in pl 0 0 (511 ||| ((1 : Int32) <<< ((9 + nI m) &&& 31)))) am s = cu_tot (cu_mo pl (nI m)) am s := by
  apply cu_tot_c
  intro i hi
  obtain ⟨j, hj, e⟩ := ok.2.1 i hi
  unfold cu_in cu_mo
  rw [e]
  exact cu_mtab j hj m hm
theorem cu_Xmo {post : Int32 → Prop} {s : Nat} {pl am : Nat → Int32} (ok : cu_ok s pl am) {m : Nat} (hm : m < 6) (hp : post (cu_tot (cu_mo pl (nI m)) am s)) : wpX_totalOfMonth post (nI s, pl, am) (nI m) := by
  unfold wpX_totalOfMonth
  dsimp only
  refine nm_e ?_
  refine cu_Xt ok.1 ?_
  rw [cu_meq ok hm]
  exact hp
theorem cu_YgW {post : Int32 → Prop} (m : Int32) {s : Nat} (hs : s ≤ 40) (a b : Int32) (pl am : Nat → Int32) (hp : post (cu_tot (cu_mo pl m) am s - cu_tot (cu_mo pl (m - 1)) am s)) : wY_growth_17 post m (nI s) a b pl am (s + 1) 0 0 := by
  have J := cu_Ygw m hs a b pl am hp s 0 (by omega)
  have e : cu_tot (cu_mo pl m) am 0 - cu_tot (cu_mo pl (m - 1)) am 0 = 0 := by
    show (0 : Int32) - 0 = 0
    decide
  rw [e, nI_0] at J
  exact J
