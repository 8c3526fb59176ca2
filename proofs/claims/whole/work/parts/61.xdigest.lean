/-! the class: count, digest, what is told -/
theorem XTxt.sz {F M : Nat → Nat → Int32} {r : Nat} (h : XTxt F M r) : (F (46 + 2 * r) 1 < 0 ↔ ¬ 0 ≤ M 78 r) ∧ (¬ F (46 + 2 * r) 1 < 0 → ∃ z, z ≤ 80 ∧ M 78 r = nI z ∧ F (46 + 2 * r) 1 = nI z) := by
  rcases h with ⟨a, b⟩ | ⟨z, z1, z2, z3, z4⟩
  · rw [a, b]
    exact ⟨⟨fun _ => by decide, fun _ => by decide⟩, fun h => absurd (by decide) h⟩
  · rw [z2, z3]
    have := nle0 (n := z) (by omega)
    exact ⟨⟨fun h => absurd h (nI_pos (by omega)), fun h => absurd this h⟩, fun _ => ⟨z, z1, rfl, rfl⟩⟩
theorem dg1_cong {f g : Nat → Int32} {h : Int64} : ∀ {n : Nat}, (∀ k, k < n → f k = g k) → dg1 f h n = dg1 g h n
  | 0, _ => rfl
  | n + 1, e => by rw [dg1, dg1, dg1_cong (n := n) (fun k hk => e k (by omega)), e n (by omega)]
theorem XKp.sz {F M : Nat → Nat → Int32} {k : Nat} (h : XKp F M k) : (0 < F (54 + 7 * k) 6 ↔ 0 ≤ M 88 k) ∧ (if 0 < F (54 + 7 * k) 6 then F (54 + 7 * k) 6 else -1) = neg1 (M 88 k) := by
  rcases h with ⟨a, b⟩ | ⟨m, m0, m9, k1, k2, -⟩
  · rw [a, b]
    decide
  · rw [k1, k2]
    have h0 : 0 < nI m := (nI_ltI (a := 0) (by decide) (by omega)).mpr m0
    refine ⟨⟨fun _ => nle0 (by omega), fun _ => h0⟩, ?_⟩
    unfold neg1
    rw [if_pos h0, if_neg (nI_pos (by omega))]
section XDg
variable {d L s : Nat} {xs : Nat → Int32} {J : Nat → Int64} {F : Nat → Nat → Int32} {K : mm_K} {h : mm_H} {n : Nat} {q : Rq}
theorem x_countOf1 (hc : CC F n q) {what : Int32} (hk : K (some (.int (nI (fa_cnt (ctB q what) n)))) (hH L xs J s F)) : mm_call mm_Ex (d + 1) k_X1_countOf [.ref 5, .int what] (hH L xs J s F) K := by
  have h9 := hc.2.1.1
  refine mm_run 60 (lp (n := n) (P := fun i => ∀ x a (w4 : Value), x = nI i → a = nI (0 + fa_cnt (ctB q what) i) → mm_Ex (d + 1) k_X1_countOf 4 (0, 0) [.ref 5, .int what, .int a, .int x, w4] [] (hH L xs J s F) K) ?_ ?_ 0 0 _ rfl rfl)
  · intro x a w4 hx ha
    rw [Nat.zero_add] at ha
    subst hx ha
    exact mm_run 60 (And.intro (fun _ => hk) (fun z => absurd hc.ge z))
  · intro i hi ih x a w4 hx ha
    subst hx
    have ei : (nI i).toNatClampNeg = i := tn_nI (by omega)
    have hv : vp_in (nI i) 9 := vp_in_nI (by omega) (by decide)
    have e4 : F 10 (nI i).toNatClampNeg = q 4 i := by rw [ei]; exact hc.2.2 4 (by decide) i hi
    have e0 : F 6 (nI i).toNatClampNeg = q 0 i := by rw [ei]; exact hc.2.2 0 (by decide) i hi
    have e43 : q 4 i = 0 ↔ q 3 i = -9 := by
      rcases (hc.2.1.2 i hi).2.2.2.1 with ⟨y, z⟩ | ⟨j, j1, j2, j3, -⟩
      · exact ⟨fun _ => y, fun _ => z⟩
      · refine ⟨fun z => ?_, fun z => ?_⟩
        · rcases j3 with j3 | j3 <;> · rw [j3] at z; exact absurd z (by decide)
        · rw [j2] at z
          exact absurd z (nI_n9 (by omega))
    have J56 : ∀ (v : Int32) y, y = b2i (ctB q what i = true) → mm_Ex (d + 1) k_X1_countOf 56 (0, 0) [.ref 5, .int what, .int a, .int (nI i), .int v] [.int y, .int a] (hH L xs J s F) K := fun v y e => mm_run 20 (ih _ _ _ (nI_1 i) (by rw [e, ha]; exact nI_b 0 _ i))
    have J49 : ∀ v, v = b2i (ctB q what i = true) → mm_Ex (d + 1) k_X1_countOf 49 (0, 0) [.ref 5, .int what, .int a, .int (nI i), w4] [.int v] (hH L xs J s F) K := fun v e => by
      refine mm_run 20 (And.intro (fun z => J56 _ 0 ?_) (fun z => J56 _ 1 ?_))
      · rw [← e, z]
      · rw [e] at z
        rw [b2i_t (b2i_p z)]
    have J46 : ctB q what i = true → mm_Ex (d + 1) k_X1_countOf 46 (0, 0) [.ref 5, .int what, .int a, .int (nI i), w4] [] (hH L xs J s F) K := fun y => mm_run 5 (J49 1 (b2i_t y).symm)
    have J48 : ¬ ctB q what i = true → mm_Ex (d + 1) k_X1_countOf 48 (0, 0) [.ref 5, .int what, .int a, .int (nI i), w4] [] (hH L xs J s F) K := fun y => mm_run 5 (J49 0 (b2i_f y).symm)
    have J36 : ¬ what = 0 → ¬ (what = 1 ∧ ¬ q 3 i = -9) → ¬ (what = 2 ∧ q 4 i < 0) → ¬ (what = 3 ∧ isOfB (q 0 i) 1 = true) → mm_Ex (d + 1) k_X1_countOf 36 (0, 0) [.ref 5, .int what, .int a, .int (nI i), w4] [] (hH L xs J s F) K := fun h0 h1 h2 h3 => by
      have E : ¬ (what = 4 ∧ isOfB (q 0 i) 2 = true) → ¬ ctB q what i = true := fun h4 => by
        unfold ctB
        simp only [Bool.or_eq_true, Bool.and_eq_true, decide_eq_true_eq, Bool.not_eq_true', decide_eq_false_iff_not]
        rintro ((((y | y) | y) | y) | y)
        · exact h0 y
        · exact h1 y
        · exact h2 y
        · exact h3 y
        · exact h4 y
      refine mm_run 60 (And.intro (fun z => J48 (E fun y => z y.1)) (fun z => ⟨hv, x_isOfKind ?_⟩))
      rw [e0]
      refine And.intro (fun z2 => J48 (E fun y => b2i_0.mp z2 y.2)) (fun z2 => J46 ?_)
      unfold ctB
      simp only [Bool.or_eq_true, Bool.and_eq_true, decide_eq_true_eq]
      exact Or.inr ⟨z, b2i_p z2⟩
    have J26 : ¬ what = 0 → ¬ (what = 1 ∧ ¬ q 3 i = -9) → ¬ (what = 2 ∧ q 4 i < 0) → mm_Ex (d + 1) k_X1_countOf 26 (0, 0) [.ref 5, .int what, .int a, .int (nI i), w4] [] (hH L xs J s F) K := fun h0 h1 h2 => by
      refine mm_run 60 (And.intro (fun z => J36 h0 h1 h2 fun y => z y.1) (fun z => ⟨hv, x_isOfKind ?_⟩))
      rw [e0]
      refine And.intro (fun z2 => J46 ?_) (fun z2 => J36 h0 h1 h2 fun y => b2i_0.mp z2 y.2)
      unfold ctB
      simp only [Bool.or_eq_true, Bool.and_eq_true, decide_eq_true_eq]
      exact Or.inl (Or.inr ⟨z, b2i_p z2⟩)
    have J18 : ¬ what = 0 → ¬ (what = 1 ∧ ¬ q 3 i = -9) → mm_Ex (d + 1) k_X1_countOf 18 (0, 0) [.ref 5, .int what, .int a, .int (nI i), w4] [] (hH L xs J s F) K := fun h0 h1 => by
      refine mm_run 60 (And.intro (fun z => J26 h0 h1 fun y => z y.1) (fun z => ⟨hv, And.intro (fun z2 => J46 ?_) (fun z2 => J26 h0 h1 fun y => z2 (by show F 10 (nI i).toNatClampNeg < 0; rw [e4]; exact y.2))⟩))
      have z2 : q 4 i < 0 := e4 ▸ z2
      unfold ctB
      simp only [Bool.or_eq_true, Bool.and_eq_true, decide_eq_true_eq]
      exact Or.inl (Or.inl (Or.inr ⟨z, z2⟩))
    refine mm_run 60 (And.intro (fun z => absurd z (hc.lt hi)) (fun _ => And.intro (fun z => J46 ?_) (fun z => And.intro (fun z2 => J18 z fun y => z2 y.1) (fun z2 => ⟨hv, And.intro (fun z3 => J46 ?_) (fun z3 => J18 z fun y => y.2 (e43.mp (e4.symm.trans z3)))⟩))))
    · unfold ctB
      simp [z]
    · have z3 : ¬ q 3 i = -9 := fun y => z3 (e4.trans (e43.mpr y))
      unfold ctB
      simp [z2, z3]
theorem x_there_rows (hr : ∀ r, r < 6 → XRow F F r) (hk : K (some (.int (nI (fa_cnt (thB (F 76)) 6)))) (hH L xs J s F)) : mm_call mm_Ex (d + 1) k_X5_there [.ref 3] (hH L xs J s F) K := by
  refine mm_run 60 (lp (n := 6) (P := fun r => ∀ x a, x = nI r → a = nI (0 + fa_cnt (thB (F 76)) r) → mm_Ex (d + 1) k_X5_there 4 (0, 0) [.ref 3, .int a, .int x] [] (hH L xs J s F) K) ?_ ?_ 0 0 rfl rfl)
  · intro x a hx ha
    rw [Nat.zero_add] at ha
    subst hx ha
    exact mm_run 60 (And.intro (fun _ => hk) (fun z => absurd (show nI 6 ≤ nI 6 by decide) z))
  · intro r hr1 ih x a hx ha
    subst hx
    have hs := (hr r hr1).sz.1
    have J17 : ∀ v, v = b2i (thB (F 76) r = true) → mm_Ex (d + 1) k_X5_there 17 (0, 0) [.ref 3, .int a, .int (nI r)] [.int v, .int a] (hH L xs J s F) K := fun v e => mm_run 20 (ih _ _ (nI_1 r) (by rw [e, ha]; exact nI_b 0 _ r))
    have Y : F (34 + 2 * r) 1 < 0 → (0 : Int32) = b2i (thB (F 76) r = true) := fun y => by
      rw [b2i_f (fun z => hs.mp y (by simpa [thB] using z))]
    have N : ¬ F (34 + 2 * r) 1 < 0 → (1 : Int32) = b2i (thB (F 76) r = true) := fun y => by
      rw [b2i_t (by simpa [thB] using Classical.not_not.mp (fun z => y (hs.mpr z)))]
    match r, hr1 with
    | 0, _ => exact mm_run 60 (And.intro (fun z => absurd z (by decide)) (fun _ => ⟨vp_in_nI (by decide) (by decide), 34, rfl, x_isMissing_34 (And.intro (fun z => J17 1 (N (b2i_0.mp z))) (fun z => J17 0 (Y (b2i_p z))))⟩))
    | 1, _ => exact mm_run 60 (And.intro (fun z => absurd z (by decide)) (fun _ => ⟨vp_in_nI (by decide) (by decide), 36, rfl, x_isMissing_36 (And.intro (fun z => J17 1 (N (b2i_0.mp z))) (fun z => J17 0 (Y (b2i_p z))))⟩))
    | 2, _ => exact mm_run 60 (And.intro (fun z => absurd z (by decide)) (fun _ => ⟨vp_in_nI (by decide) (by decide), 38, rfl, x_isMissing_38 (And.intro (fun z => J17 1 (N (b2i_0.mp z))) (fun z => J17 0 (Y (b2i_p z))))⟩))
    | 3, _ => exact mm_run 60 (And.intro (fun z => absurd z (by decide)) (fun _ => ⟨vp_in_nI (by decide) (by decide), 40, rfl, x_isMissing_40 (And.intro (fun z => J17 1 (N (b2i_0.mp z))) (fun z => J17 0 (Y (b2i_p z))))⟩))
    | 4, _ => exact mm_run 60 (And.intro (fun z => absurd z (by decide)) (fun _ => ⟨vp_in_nI (by decide) (by decide), 42, rfl, x_isMissing_42 (And.intro (fun z => J17 1 (N (b2i_0.mp z))) (fun z => J17 0 (Y (b2i_p z))))⟩))
    | 5, _ => exact mm_run 60 (And.intro (fun z => absurd z (by decide)) (fun _ => ⟨vp_in_nI (by decide) (by decide), 44, rfl, x_isMissing_44 (And.intro (fun z => J17 1 (N (b2i_0.mp z))) (fun z => J17 0 (Y (b2i_p z))))⟩))
theorem x_there_texts (hr : ∀ r, r < 4 → XTxt F F r) (hk : K (some (.int (nI (fa_cnt (thB (F 78)) 4)))) (hH L xs J s F)) : mm_call mm_Ex (d + 1) k_X5_there [.ref 4] (hH L xs J s F) K := by
  refine mm_run 60 (lp (n := 4) (P := fun r => ∀ x a, x = nI r → a = nI (0 + fa_cnt (thB (F 78)) r) → mm_Ex (d + 1) k_X5_there 4 (0, 0) [.ref 4, .int a, .int x] [] (hH L xs J s F) K) ?_ ?_ 0 0 rfl rfl)
  · intro x a hx ha
    rw [Nat.zero_add] at ha
    subst hx ha
    exact mm_run 60 (And.intro (fun _ => hk) (fun z => absurd (show nI 4 ≤ nI 4 by decide) z))
  · intro r hr1 ih x a hx ha
    subst hx
    have hs := (hr r hr1).sz.1
    have J17 : ∀ v, v = b2i (thB (F 78) r = true) → mm_Ex (d + 1) k_X5_there 17 (0, 0) [.ref 4, .int a, .int (nI r)] [.int v, .int a] (hH L xs J s F) K := fun v e => mm_run 20 (ih _ _ (nI_1 r) (by rw [e, ha]; exact nI_b 0 _ r))
    have Y : F (46 + 2 * r) 1 < 0 → (0 : Int32) = b2i (thB (F 78) r = true) := fun y => by
      rw [b2i_f (fun z => hs.mp y (by simpa [thB] using z))]
    have N : ¬ F (46 + 2 * r) 1 < 0 → (1 : Int32) = b2i (thB (F 78) r = true) := fun y => by
      rw [b2i_t (by simpa [thB] using Classical.not_not.mp (fun z => y (hs.mpr z)))]
    match r, hr1 with
    | 0, _ => exact mm_run 60 (And.intro (fun z => absurd z (by decide)) (fun _ => ⟨vp_in_nI (by decide) (by decide), 46, rfl, x_isMissing_46 (And.intro (fun z => J17 1 (N (b2i_0.mp z))) (fun z => J17 0 (Y (b2i_p z))))⟩))
    | 1, _ => exact mm_run 60 (And.intro (fun z => absurd z (by decide)) (fun _ => ⟨vp_in_nI (by decide) (by decide), 48, rfl, x_isMissing_48 (And.intro (fun z => J17 1 (N (b2i_0.mp z))) (fun z => J17 0 (Y (b2i_p z))))⟩))
    | 2, _ => exact mm_run 60 (And.intro (fun z => absurd z (by decide)) (fun _ => ⟨vp_in_nI (by decide) (by decide), 50, rfl, x_isMissing_50 (And.intro (fun z => J17 1 (N (b2i_0.mp z))) (fun z => J17 0 (Y (b2i_p z))))⟩))
    | 3, _ => exact mm_run 60 (And.intro (fun z => absurd z (by decide)) (fun _ => ⟨vp_in_nI (by decide) (by decide), 52, rfl, x_isMissing_52 (And.intro (fun z => J17 1 (N (b2i_0.mp z))) (fun z => J17 0 (Y (b2i_p z))))⟩))
theorem ct_none {what : Int32} (h : ¬ what = 0 ∧ ¬ what = 1 ∧ ¬ what = 2 ∧ ¬ what = 3 ∧ ¬ what = 4) : fa_cnt (ctB q what) n = 0 := cnt_0.mpr fun j _ => by
  unfold ctB
  simp [h.1, h.2.1, h.2.2.1, h.2.2.2.1, h.2.2.2.2]
theorem x_countOf (hx : XRc F F) (hn : F 75 10 = nI n) (hc : Cw n (mq F)) {what : Int32} (hk : K (some (.int (nI (ctN F n what)))) (hH L xs J s F)) : mm_call mm_Ex (d + 2) k_X5_countOf [.ref 2, .int what] (hH L xs J s F) K := by
  have hcc := hx.cc hn hc
  unfold ctN at hk
  refine mm_run 60 ⟨fun c => x_there_rows hx.1 ?_, fun c5 => ⟨fun c => x_there_texts hx.2.1 ?_, fun c6 => ⟨fun c => ?_, fun c7 => x_countOf1 hcc ?_⟩⟩⟩
  · rw [ct_none (by rw [c]; decide), if_pos c, Nat.zero_add] at hk
    exact hk
  · rw [ct_none (by rw [c]; decide), if_neg c5, if_pos c, Nat.zero_add] at hk
    exact hk
  · rw [ct_none (by rw [c]; decide), if_neg c5, if_neg c6, if_pos c, Nat.zero_add] at hk
    refine lp (n := 3) (P := fun k => ∀ x a, x = nI k → a = nI (0 + fa_cnt (thB (F 88)) k) → mm_Ex (d + 2) k_X5_countOf 14 (0, 0) [.ref 2, .int what, .int a, .int x] [] (hH L xs J s F) K) ?_ ?_ 0 0 rfl rfl
    · intro x a hx1 ha
      rw [Nat.zero_add] at ha
      subst hx1 ha
      exact mm_run 60 (And.intro (fun _ => hk) (fun z => absurd (by decide) z))
    · intro k hk1 ih x a hx1 ha
      subst hx1
      have hs := (hx.2.2.2.1 k hk1).sz.1
      have J25 : ∀ v, v = b2i (thB (F 88) k = true) → mm_Ex (d + 2) k_X5_countOf 25 (0, 0) [.ref 2, .int what, .int a, .int (nI k)] [.int v, .int a] (hH L xs J s F) K := fun v e => mm_run 20 (ih _ _ (nI_1 k) (by rw [e, ha]; exact nI_b 0 _ k))
      have Y : ¬ 0 < F (54 + 7 * k) 6 → (0 : Int32) = b2i (thB (F 88) k = true) := fun y => by
        rw [b2i_f (fun z => y (hs.mpr (by simpa [thB] using z)))]
      have N : 0 < F (54 + 7 * k) 6 → (1 : Int32) = b2i (thB (F 88) k = true) := fun y => by
        rw [b2i_t (by simpa [thB] using hs.mp y)]
      match k, hk1 with
      | 0, _ => exact mm_run 60 (And.intro (fun z => absurd z (by decide)) (fun _ => x_isKept_0 (And.intro (fun z => J25 0 (Y (b2i_0.mp z))) (fun z => J25 1 (N (b2i_p z))))))
      | 1, _ => exact mm_run 60 (And.intro (fun z => absurd z (by decide)) (fun _ => x_isKept_1 (And.intro (fun z => J25 0 (Y (b2i_0.mp z))) (fun z => J25 1 (N (b2i_p z))))))
      | 2, _ => exact mm_run 60 (And.intro (fun z => absurd z (by decide)) (fun _ => x_isKept_2 (And.intro (fun z => J25 0 (Y (b2i_0.mp z))) (fun z => J25 1 (N (b2i_p z))))))
  · rw [if_neg c5, if_neg c6, if_neg c7, Nat.add_zero] at hk
    exact hk
theorem x_count (hx : XRc F F) (hn : F 75 10 = nI n) (hc : Cw n (mq F)) {what : Int32} (hk : ∀ F1, XT F F1 (S_count F what).2 → K (some (.int (S_count F what).1)) (hH L xs J s F1)) : mm_call mm_Ex (d + 5) k_X5_count [.ref 2, .int what] (hH L xs J s F) K := by
  have h9 := hc.1
  unfold S_count at hk
  rw [en_of hn h9] at hk
  have J9 : ∀ v, K (some (.int v)) (hH L xs J s F) → mm_Ex (d + 5) k_X5_count 9 (0, 0) [.ref 2, .int what] [.int v] (hH L xs J s F) K := fun v z => mm_run 5 z
  refine mm_run 60 (x_within (And.intro (fun z => ?_) (fun z => ?_)))
  · rw [if_neg (fun y => b2i_0.mp z (in8.mpr y))] at hk
    exact J9 _ (hk _ (XT.same hx))
  · rw [if_pos (in8.mp (b2i_p z))] at hk
    exact x_countOf hx hn hc (J9 _ (hk _ (XT.same hx)))
theorem x_asked (hx : XRc F F) (hk : K (some (.int (F 75 7))) (hH L xs J s F)) : mm_call mm_Ex d k_X5_asked [.ref 2] (hH L xs J s F) K := by
  rw [← hx.2.2.2.2.2.1] at hk
  exact mm_run 10 hk
theorem x_finding (hx : XRc F F) (hk : K (some (.int (F 75 5))) (hH L xs J s F)) : mm_call mm_Ex d k_X5_finding [.ref 2] (hH L xs J s F) K := by
  rw [← hx.2.2.2.2.1] at hk
  exact mm_run 10 hk
theorem x_upper (hJ : J 0 = J 2) (hk : K (some (.long (J 2))) (hH L xs J s F)) : mm_call mm_Ex d k_X5_upper [.ref 2] (hH L xs J s F) K := by
  rw [← hJ] at hk
  exact mm_run 10 hk
theorem x_lower (hJ : J 1 = J 3) (hk : K (some (.long (J 3))) (hH L xs J s F)) : mm_call mm_Ex d k_X5_lower [.ref 2] (hH L xs J s F) K := by
  rw [← hJ] at hk
  exact mm_run 10 hk
theorem x_findings (hx : XRc F F) {f : Int32} (hk : ∀ F1, XT F F1 (S_findings F f).2 → K (some (.int (S_findings F f).1)) (hH L xs J s F1)) : mm_call mm_Ex d k_X5_findings [.ref 2, .int f] (hH L xs J s F) K := by
  unfold S_findings at hk
  have J12 : ∀ v, K (some (.int v)) (hH L xs J s F) → mm_Ex d k_X5_findings 12 (0, 0) [.ref 2, .int f] [.int v] (hH L xs J s F) K := fun v z => mm_run 5 z
  have J6 : ¬ (1 ≤ f ∧ f ≤ 5) → mm_Ex d k_X5_findings 6 (0, 0) [.ref 2, .int f] [] (hH L xs J s F) K := fun c => by
    rw [if_neg c] at hk
    exact mm_run 5 (J12 _ (hk _ (XT.same hx)))
  refine mm_run 60 (And.intro (fun z => J6 fun y => Int32.not_le.mpr z y.1) (fun z => And.intro (fun z2 => ⟨?_, J12 _ ?_⟩) (fun z2 => J6 fun y => z2 y.2)))
  · obtain ⟨k, hk5, rfl⟩ := in_nI (n := 5) (by decide) (Int32.le_trans (by decide) (Int32.not_lt.mp z)) z2
    exact vp_in_nI (by omega) (by decide)
  · rw [if_pos ⟨Int32.not_lt.mp z, z2⟩] at hk
    have z := Int32.not_lt.mp z
    obtain ⟨k, hk5, rfl⟩ := in_nI (n := 5) (by decide) (Int32.le_trans (by decide) z) z2
    rw [tn_nI (by omega)] at hk ⊢
    show K (some (.int (F 33 k))) _
    rw [hx.2.2.2.2.2.2 k (by omega)]
    exact hk _ (XT.same hx)
theorem x_digest (hx : XRc F F) (hn : F 75 10 = nI n) (hc : Cw n (mq F)) (hk : K (some (.long (S_digest F))) (hH L xs J s F)) : mm_call mm_Ex (d + 5) k_X5_digest [.ref 2] (hH L xs J s F) K := by
  have hcc := hx.cc hn hc
  have h9 := hc.1
  unfold S_digest at hk
  dsimp only at hk
  rw [en_of hn h9] at hk
  obtain ⟨h1, e1⟩ : ∃ h1, dg1 (fun w => nI (ctN F n (nI w))) 17 8 = h1 := ⟨_, rfl⟩
  rw [e1] at hk
  obtain ⟨h2, e2⟩ : ∃ h2, dg2 (fun i w => toldV n (mq F) (nI i) (nI w)) h1 n = h2 := ⟨_, rfl⟩
  rw [e2] at hk
  obtain ⟨h3, e3⟩ : ∃ h3, dg1 (fun k => neg1 (F 88 k)) h2 3 = h3 := ⟨_, rfl⟩
  rw [e3] at hk
  obtain ⟨h4, e4⟩ : ∃ h4, dg3 (F 76) (fun r k => F 77 (40 * r + k)) h3 6 = h4 := ⟨_, rfl⟩
  rw [e4] at hk
  have L5 : ∀ (w4 : Value), mm_Ex (d + 5) k_X5_digest 85 (0, 0) [.ref 2, .long h4, .null, .int 0, w4] [] (hH L xs J s F) K := by
    refine fun w4 => lp (n := 4) (P := fun r => ∀ x g (w4 : Value), x = nI r → g = dg3 (F 78) (fun t k => F 79 (80 * t + k)) h4 r → mm_Ex (d + 5) k_X5_digest 85 (0, 0) [.ref 2, .long g, .null, .int x, w4] [] (hH L xs J s F) K) ?_ ?_ 0 h4 w4 rfl rfl
    · intro x g w4 hx1 hg
      subst hx1
      subst hg
      exact mm_run 60 (And.intro (fun _ => hk) (fun z => absurd (by decide) z))
    · intro r hr ih x g w4 hx1 hg
      subst hx1
      have hR := hx.2.1 r hr
      obtain ⟨z, zl, hz, ez⟩ : ∃ z, z ≤ 80 ∧ (F (46 + 2 * r) 1 = nI z ∨ F (46 + 2 * r) 1 = -1 ∧ z = 0) ∧ dg1 (F (47 + 2 * r)) (31 * g + (F (46 + 2 * r) 1).toInt64) z = dg3 (F 78) (fun t k => F 79 (80 * t + k)) h4 (r + 1) := by
        rcases hR with ⟨a, b⟩ | ⟨z, z1, z2, z3, z4⟩
        · refine ⟨0, by decide, Or.inr ⟨b, rfl⟩, ?_⟩
          rw [dg3, ← hg, a, b]
          rfl
        · refine ⟨z, z1, Or.inl z3, ?_⟩
          rw [dg3, ← hg, z2, z3, tn_nI (by omega)]
          unfold neg1
          rw [if_neg (nI_pos (by omega))]
          exact dg1_cong z4
      match r, hr with
      | 0, _ => exact mm_run 60 (And.intro (fun z => absurd z (by decide)) (fun _ => ⟨vp_in_nI (by decide) (by decide), 46, rfl, x_digestFrom_46 hz zl (ih _ _ _ (nI_1 0) ez)⟩))
      | 1, _ => exact mm_run 60 (And.intro (fun z => absurd z (by decide)) (fun _ => ⟨vp_in_nI (by decide) (by decide), 48, rfl, x_digestFrom_48 hz zl (ih _ _ _ (nI_1 1) ez)⟩))
      | 2, _ => exact mm_run 60 (And.intro (fun z => absurd z (by decide)) (fun _ => ⟨vp_in_nI (by decide) (by decide), 50, rfl, x_digestFrom_50 hz zl (ih _ _ _ (nI_1 2) ez)⟩))
      | 3, _ => exact mm_run 60 (And.intro (fun z => absurd z (by decide)) (fun _ => ⟨vp_in_nI (by decide) (by decide), 52, rfl, x_digestFrom_52 hz zl (ih _ _ _ (nI_1 3) ez)⟩))
  have L4 : ∀ (w4 : Value), mm_Ex (d + 5) k_X5_digest 71 (0, 0) [.ref 2, .long h3, .null, .int 0, w4] [] (hH L xs J s F) K := by
    refine fun w4 => lp (n := 6) (P := fun r => ∀ x g (w4 : Value), x = nI r → g = dg3 (F 76) (fun r k => F 77 (40 * r + k)) h3 r → mm_Ex (d + 5) k_X5_digest 71 (0, 0) [.ref 2, .long g, .null, .int x, w4] [] (hH L xs J s F) K) ?_ ?_ 0 h3 w4 rfl rfl
    · intro x g w4 hx1 hg
      subst hx1
      rw [e4] at hg
      subst hg
      exact mm_run 60 (And.intro (fun _ => L5 _) (fun z => absurd (by decide) z))
    · intro r hr ih x g w4 hx1 hg
      subst hx1
      have hR := hx.1 r hr
      obtain ⟨z, zl, hz, ez⟩ : ∃ z, z ≤ 40 ∧ (F (34 + 2 * r) 1 = nI z ∨ F (34 + 2 * r) 1 = -1 ∧ z = 0) ∧ dg1 (F (35 + 2 * r)) (31 * g + (F (34 + 2 * r) 1).toInt64) z = dg3 (F 76) (fun r k => F 77 (40 * r + k)) h3 (r + 1) := by
        rcases hR with ⟨a, b⟩ | ⟨z, z1, z2, z3, z4⟩
        · refine ⟨0, by decide, Or.inr ⟨b, rfl⟩, ?_⟩
          rw [dg3, ← hg, a, b]
          rfl
        · refine ⟨z, z1, Or.inl z3, ?_⟩
          rw [dg3, ← hg, z2, z3, tn_nI (by omega)]
          unfold neg1
          rw [if_neg (nI_pos (by omega))]
          exact dg1_cong z4
      match r, hr with
      | 0, _ => exact mm_run 60 (And.intro (fun z => absurd z (by decide)) (fun _ => ⟨vp_in_nI (by decide) (by decide), 34, rfl, x_digestFrom_34 hz zl (ih _ _ _ (nI_1 0) ez)⟩))
      | 1, _ => exact mm_run 60 (And.intro (fun z => absurd z (by decide)) (fun _ => ⟨vp_in_nI (by decide) (by decide), 36, rfl, x_digestFrom_36 hz zl (ih _ _ _ (nI_1 1) ez)⟩))
      | 2, _ => exact mm_run 60 (And.intro (fun z => absurd z (by decide)) (fun _ => ⟨vp_in_nI (by decide) (by decide), 38, rfl, x_digestFrom_38 hz zl (ih _ _ _ (nI_1 2) ez)⟩))
      | 3, _ => exact mm_run 60 (And.intro (fun z => absurd z (by decide)) (fun _ => ⟨vp_in_nI (by decide) (by decide), 40, rfl, x_digestFrom_40 hz zl (ih _ _ _ (nI_1 3) ez)⟩))
      | 4, _ => exact mm_run 60 (And.intro (fun z => absurd z (by decide)) (fun _ => ⟨vp_in_nI (by decide) (by decide), 42, rfl, x_digestFrom_42 hz zl (ih _ _ _ (nI_1 4) ez)⟩))
      | 5, _ => exact mm_run 60 (And.intro (fun z => absurd z (by decide)) (fun _ => ⟨vp_in_nI (by decide) (by decide), 44, rfl, x_digestFrom_44 hz zl (ih _ _ _ (nI_1 5) ez)⟩))
  have L3 : ∀ (w4 : Value), mm_Ex (d + 5) k_X5_digest 47 (0, 0) [.ref 2, .long h2, .null, .int 0, w4] [] (hH L xs J s F) K := by
    refine fun w4 => lp (n := 3) (P := fun k => ∀ x g (w4 : Value), x = nI k → g = dg1 (fun k => neg1 (F 88 k)) h2 k → mm_Ex (d + 5) k_X5_digest 47 (0, 0) [.ref 2, .long g, .null, .int x, w4] [] (hH L xs J s F) K) ?_ ?_ 0 h2 w4 rfl rfl
    · intro x g w4 hx1 hg
      subst hx1
      rw [e3] at hg
      subst hg
      exact mm_run 60 (And.intro (fun _ => L4 _) (fun z => absurd (by decide) z))
    · intro k hk1 ih x g w4 hx1 hg
      subst hx1
      have hs := (hx.2.2.2.1 k hk1).sz.2
      have J64 : ∀ v, v = neg1 (F 88 k) → mm_Ex (d + 5) k_X5_digest 64 (0, 0) [.ref 2, .long g, .null, .int (nI k), w4] [.int v, .long (31 * g)] (hH L xs J s F) K := fun v e => mm_run 20 (ih _ _ _ (nI_1 k) (by rw [dg1, ← hg, e]))
      have Y : 0 < F (54 + 7 * k) 6 → F (54 + 7 * k) 6 = neg1 (F 88 k) := fun y => by rw [← hs, if_pos y]
      have N : ¬ 0 < F (54 + 7 * k) 6 → -1 = neg1 (F 88 k) := fun y => by rw [← hs, if_neg y]
      match k, hk1 with
      | 0, _ => exact mm_run 60 (And.intro (fun z => absurd z (by decide)) (fun _ => x_isKept_0 (And.intro (fun z => J64 _ (N (b2i_0.mp z))) (fun z => ⟨vp_in_nI (by decide) (by decide), 54, rfl, J64 _ (Y (b2i_p z))⟩))))
      | 1, _ => exact mm_run 60 (And.intro (fun z => absurd z (by decide)) (fun _ => x_isKept_1 (And.intro (fun z => J64 _ (N (b2i_0.mp z))) (fun z => ⟨vp_in_nI (by decide) (by decide), 61, rfl, J64 _ (Y (b2i_p z))⟩))))
      | 2, _ => exact mm_run 60 (And.intro (fun z => absurd z (by decide)) (fun _ => x_isKept_2 (And.intro (fun z => J64 _ (N (b2i_0.mp z))) (fun z => ⟨vp_in_nI (by decide) (by decide), 68, rfl, J64 _ (Y (b2i_p z))⟩))))
  have L2 : ∀ (w4 : Value), mm_Ex (d + 5) k_X5_digest 20 (0, 0) [.ref 2, .long h1, .null, .int 0, w4] [] (hH L xs J s F) K := by
    refine fun w4 => lp (n := n) (P := fun i => ∀ x g (w4 : Value), x = nI i → g = dg2 (fun i w => toldV n (mq F) (nI i) (nI w)) h1 i → mm_Ex (d + 5) k_X5_digest 20 (0, 0) [.ref 2, .long g, .null, .int x, w4] [] (hH L xs J s F) K) ?_ ?_ 0 h1 w4 rfl rfl
    · intro x g w4 hx1 hg
      subst hx1
      rw [e2] at hg
      subst hg
      exact mm_run 60 (And.intro (fun _ => L3 _) (fun z => absurd hcc.ge z))
    · intro i hi ih x g w4 hx1 hg
      subst hx1
      refine mm_run 60 (And.intro (fun z => absurd z (hcc.lt hi)) (fun _ => ?_))
      refine lp (n := 7) (P := fun w => ∀ y g', y = nI w → g' = dg1 (fun w => toldV n (mq F) (nI i) (nI w)) g w → mm_Ex (d + 5) k_X5_digest 27 (0, 0) [.ref 2, .long g', .null, .int (nI i), .int y] [] (hH L xs J s F) K) ?_ ?_ 0 g rfl rfl
      · intro y g' hy hg'
        subst hy
        exact mm_run 60 (And.intro (fun _ => ih _ _ _ (nI_1 i) (by rw [dg2, ← hg, hg'])) (fun z => absurd (by decide) z))
      · intro w hw ihw y g' hy hg'
        subst hy
        exact mm_run 60 (And.intro (fun z => absurd z (nleI (b := 7) hw (by decide))) (fun _ => x_detail hcc hi (ihw _ _ (nI_1 w) (by rw [dg1, ← hg']))))
  refine mm_run 60 (lp (n := 8) (P := fun w => ∀ x g (w4 : Value), x = nI w → g = dg1 (fun w => nI (ctN F n (nI w))) 17 w → mm_Ex (d + 5) k_X5_digest 4 (0, 0) [.ref 2, .long g, .null, .int x, w4] [] (hH L xs J s F) K) ?_ ?_ 0 17 _ rfl rfl)
  · intro x g w4 hx1 hg
    subst hx1
    rw [e1] at hg
    subst hg
    exact mm_run 60 (And.intro (fun _ => L2 _) (fun z => absurd (by decide) z))
  · intro w hw ih x g w4 hx1 hg
    subst hx1
    exact mm_run 60 (And.intro (fun z => absurd z (nleI (b := 8) hw (by decide))) (fun _ => x_countOf hx hn hc (ih _ _ _ (nI_1 w) (by rw [dg1, ← hg]))))
end XDg
