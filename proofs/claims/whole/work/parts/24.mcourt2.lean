/-! the reference: told, ruling, depends, days, reverse, marks -/
def S_ruling (F : Nat → Nat → Int32) (i what : Int32) : Int32 × (Nat → Nat → Int32) :=
  if (0 ≤ i ∧ i ≤ F 75 10 - 1) ∧ (0 ≤ what ∧ what ≤ 6) then (1, S_te F (toldV (F 75 10).toNatClampNeg (mq F) i what)) else (-1, F)
def S_reverse (F : Nat → Nat → Int32) (i v : Int32) : Int32 × (Nat → Nat → Int32) :=
  if (0 ≤ i ∧ i ≤ F 75 10 - 1) ∧ (0 ≤ v ∧ v ≤ 1) then (F 84 i.toNatClampNeg, up2 F 84 i.toNatClampNeg v) else (-1, F)
def S_marks (F : Nat → Nat → Int32) (i v : Int32) : Int32 × (Nat → Nat → Int32) :=
  if (0 ≤ i ∧ i ≤ F 75 10 - 1) ∧ (0 ≤ v ∧ v ≤ 31) then (F 87 i.toNatClampNeg, up2 F 87 i.toNatClampNeg v) else (-1, F)
section MK2
variable {d L s : Nat} {xs : Nat → Int32} {J : Nat → Int64} {F : Nat → Nat → Int32} {K : mm_K} {h : mm_H} {n : Nat}
theorem vpi {i : Int32} (hn : F 75 10 = nI n) (h9 : n ≤ 9) (c : ¬ b2i (0 ≤ i ∧ i ≤ F 75 10 - 1) = 0) : vp_in i 9 := by
  rw [hn] at c
  obtain ⟨j, hj, rfl⟩ := isRu_of h9 c
  exact vp_in_nI (by omega) (by decide)
theorem s_told (hn : F 75 10 = nI n) (h9 : n ≤ 9) {i what : Int32} (hi : vp_in i 9) (hk : K (some (.int (toldV n (mq F) i what))) (hH L xs J s F)) : mm_call mm_Ex (d + 1) k_X6_told [.ref 75, .int i, .int what] (hH L xs J s F) K := by
  unfold toldV at hk
  have E51 : ∀ v, K (some (.int v)) (hH L xs J s F) → mm_Ex (d + 1) k_X6_told 51 (0, 0) [.ref 75, .int i, .int what] [.int v] (hH L xs J s F) K := fun v q => mm_run 5 q
  refine mm_run 60 (And.intro (fun c0 => ?_) (fun c0 => ?_))
  · rw [if_neg c0] at hk
    refine And.intro (fun c1 => ?_) (fun c1 => ?_)
    · rw [if_neg c1] at hk
      refine And.intro (fun c2 => ?_) (fun c2 => ?_)
      · rw [if_neg c2] at hk
        refine And.intro (fun c3 => ?_) (fun c3 => ?_)
        · rw [if_neg c3] at hk
          refine And.intro (fun c4 => ?_) (fun c4 => ?_)
          · rw [if_neg c4] at hk
            refine And.intro (fun c5 => ?_) (fun c5 => ?_)
            · rw [if_neg c5] at hk
              exact s_citing hn h9 (E51 _ hk)
            · rw [if_pos c5] at hk
              exact ⟨hi, E51 _ hk⟩
          · rw [if_pos c4] at hk
            exact ⟨hi, E51 _ hk⟩
        · rw [if_pos c3] at hk
          exact ⟨hi, E51 _ hk⟩
      · rw [if_pos c2] at hk
        exact ⟨hi, E51 _ hk⟩
    · rw [if_pos c1] at hk
      exact ⟨hi, E51 _ hk⟩
  · rw [if_pos c0] at hk
    exact ⟨hi, E51 _ hk⟩
theorem m_ruling (hn : F 75 10 = nI n) (h9 : n ≤ 9) {i what : Int32} (hk : K (some (.int (S_ruling F i what).1)) (hH L xs J s (S_ruling F i what).2)) : mm_call mm_Ex (d + 2) k_X6_ruling [.ref 75, .int i, .int what] (hH L xs J s F) K := by
  unfold S_ruling at hk
  have en : (F 75 10).toNatClampNeg = n := by rw [hn]; exact tn_nI (by omega)
  rw [en] at hk
  have B : ¬ ((0 ≤ i ∧ i ≤ F 75 10 - 1) ∧ (0 ≤ what ∧ what ≤ 6)) → mm_Ex (d + 2) k_X6_ruling 16 (0, 0) [.ref 75, .int i, .int what] [] (hH L xs J s F) K := by
    intro c
    rw [if_neg c] at hk
    exact mm_run 5 (mm_run 5 hk)
  refine mm_run 60 (s_isRuling (And.intro (fun c => B fun q => b2i_0.mp c q.1) (fun c => s_in (And.intro (fun c2 => B fun q => b2i_0.mp c2 q.2) (fun c2 => ?_)))))
  rw [if_pos ⟨not_not_b c, not_not_b c2⟩] at hk
  exact s_told hn h9 (vpi hn h9 c) (s_tells (mm_run 5 hk))
theorem m_reverse (hn : F 75 10 = nI n) (h9 : n ≤ 9) {i v : Int32} (hk : K (some (.int (S_reverse F i v).1)) (hH L xs J s (S_reverse F i v).2)) : mm_call mm_Ex (d + 2) k_X6_reverse [.ref 75, .int i, .int v] (hH L xs J s F) K := by
  unfold S_reverse at hk
  have B : ¬ ((0 ≤ i ∧ i ≤ F 75 10 - 1) ∧ (0 ≤ v ∧ v ≤ 1)) → mm_Ex (d + 2) k_X6_reverse 9 (0, 0) [.ref 75, .int i, .int v, .null] [] (hH L xs J s F) K := by
    intro c
    rw [if_neg c] at hk
    exact mm_run 5 hk
  refine mm_run 60 (s_isRuling (And.intro (fun c => B fun q => b2i_0.mp c q.1) (fun c => s_in (And.intro (fun c2 => ?_) (fun c2 => B fun q => b2i_0.mp c2 q.2)))))
  rw [if_pos ⟨not_not_b c, not_not_b c2⟩] at hk
  exact ⟨vpi hn h9 c, vpi hn h9 c, kh (hp1 rfl) hk⟩
theorem m_marks (hn : F 75 10 = nI n) (h9 : n ≤ 9) {i v : Int32} (hk : K (some (.int (S_marks F i v).1)) (hH L xs J s (S_marks F i v).2)) : mm_call mm_Ex (d + 2) k_X6_marks [.ref 75, .int i, .int v] (hH L xs J s F) K := by
  unfold S_marks at hk
  have B : ¬ ((0 ≤ i ∧ i ≤ F 75 10 - 1) ∧ (0 ≤ v ∧ v ≤ 31)) → mm_Ex (d + 2) k_X6_marks 9 (0, 0) [.ref 75, .int i, .int v, .null] [] (hH L xs J s F) K := by
    intro c
    rw [if_neg c] at hk
    exact mm_run 5 hk
  refine mm_run 60 (s_isRuling (And.intro (fun c => B fun q => b2i_0.mp c q.1) (fun c => s_in (And.intro (fun c2 => ?_) (fun c2 => B fun q => b2i_0.mp c2 q.2)))))
  rw [if_pos ⟨not_not_b c, not_not_b c2⟩] at hk
  exact ⟨vpi hn h9 c, vpi hn h9 c, kh (hp1 rfl) hk⟩
theorem s_depends (hc : Cw n (mq F)) {i : Nat} (hi : i < n) (hk : K (some (.int (nI (depN (mq F) n (mq F 3 i))))) (hH L xs J s F)) : mm_call mm_Ex d k_X6_depends [.ref 75, .int (nI i)] (hH L xs J s F) K := by
  have h9 := hc.1
  have LP : ∀ f c a x, (c = -9 ∨ ∃ j, j < f ∧ j < n ∧ c = nI j) → x = nI a → a + depN (mq F) f c = depN (mq F) n (mq F 3 i) → mm_Ex d k_X6_depends 7 (0, 0) [.ref 75, .int (nI i), .int x, .int c] [] (hH L xs J s F) K := by
    intro f
    induction f with
    | zero =>
      intro c a x hcc hx e
      subst hx
      rcases hcc with rfl | ⟨j, h1, -⟩
      · refine mm_run 60 (And.intro (fun _ => ?_) (fun c => absurd rfl c))
        have e2 : a = depN (mq F) n (mq F 3 i) := e
        show K (some (.int (nI a))) _
        rw [e2]
        exact hk
      · omega
    | succ f ih =>
      intro c a x hcc hx e
      subst hx
      rw [depN] at e
      refine mm_run 60 (And.intro (fun c1 => ?_) (fun c1 => ?_))
      · rw [if_pos c1] at e
        have e2 : a = depN (mq F) n (mq F 3 i) := e
        show K (some (.int (nI a))) _
        rw [e2]
        exact hk
      · rw [if_neg c1] at e
        rcases hcc with hcc | ⟨j, h1, h2, rfl⟩
        · exact absurd hcc c1
        · refine ⟨vp_in_nI (by omega) (by decide), ?_⟩
          have ej : (nI j).toNatClampNeg = j := tn_nI (by omega)
          refine ih _ (a + 1) _ ?_ (nI_1 a) ?_
          · rw [ej]
            obtain ⟨-, -, -, q4, -⟩ := hc.2 j h2
            rcases q4 with ⟨q, -⟩ | ⟨k, k1, k2, -⟩
            · exact Or.inl q
            · exact Or.inr ⟨k, by omega, by omega, k2⟩
          · show a + 1 + depN (mq F) f (mq F 3 (nI j).toNatClampNeg) = _
            omega
  have ei : (nI i).toNatClampNeg = i := tn_nI (by omega)
  refine mm_run 60 ⟨vp_in_nI (by omega) (by decide), ?_⟩
  refine LP n _ 0 0 ?_ rfl ?_
  · rw [ei]
    obtain ⟨-, -, -, q4, -⟩ := hc.2 i hi
    rcases q4 with ⟨q, -⟩ | ⟨k, k1, k2, -⟩
    · exact Or.inl q
    · exact Or.inr ⟨k, by omega, by omega, k2⟩
  · rw [ei]
    exact Nat.zero_add _
theorem s_ofItsDay (hn : F 75 10 = nI n) (h9 : n ≤ 9) {i : Nat} (hi : i < n) (hk : K (some (.int (nI (dayN n (mq F) i)))) (hH L xs J s F)) : mm_call mm_Ex d k_X6_ofItsDay [.ref 75, .int (nI i)] (hH L xs J s F) K := by
  refine mm_run 50 (lp (n := n) (P := fun j => ∀ x a, x = nI j → a = nI (dayN j (mq F) i) → mm_Ex d k_X6_ofItsDay 4 (0, 0) [.ref 75, .int (nI i), .int a, .int x] [] (hH L xs J s F) K) ?_ ?_ 0 0 rfl rfl)
  · intro x a hx ha
    subst hx ha
    refine mm_run 50 (And.intro (fun _ => hk) (fun c => ?_))
    rw [hn] at c
    exact absurd ((nI_leI (by omega) (by omega)).mpr (Nat.le_refl n)) c
  · intro j hj ih x a hx ha
    subst hx ha
    have ej : (nI j).toNatClampNeg = j := tn_nI (by omega)
    have ei : (nI i).toNatClampNeg = i := tn_nI (by omega)
    have JJ : ∀ v, v = b2i ((!decide (j = i) && decide (mq F 1 j = mq F 1 i)) = true) → mm_Ex d k_X6_ofItsDay 24 (0, 0) [.ref 75, .int (nI i), .int (nI (dayN j (mq F) i)), .int (nI j)] [.int v, .int (nI (dayN j (mq F) i))] (hH L xs J s F) K := fun v e => by
      subst e
      refine mm_run 50 (ih _ _ (nI_1 j) ?_)
      unfold b2i dayN
      rw [fa_cnt]
      split
      · exact nI_1 _
      · exact Int32.add_zero _
    have J0 : ¬ (!decide (j = i) && decide (mq F 1 j = mq F 1 i)) = true → mm_Ex d k_X6_ofItsDay 23 (0, 0) [.ref 75, .int (nI i), .int (nI (dayN j (mq F) i)), .int (nI j)] [.int (nI (dayN j (mq F) i))] (hH L xs J s F) K := fun c => mm_run 5 (JJ 0 (b2i_f c).symm)
    have hv : vp_in (nI j) 9 := vp_in_nI (by omega) (by decide)
    have hvi : vp_in (nI i) 9 := vp_in_nI (by omega) (by decide)
    refine mm_run 50 (And.intro (fun c => ?_) (fun c => And.intro (fun c1 => J0 ?_) (fun c1 => ⟨hv, hvi, And.intro (fun c2 => J0 ?_) (fun c2 => JJ 1 (b2i_t ?_).symm)⟩)))
    · rw [hn] at c
      exact absurd c (nleI hj (by omega))
    · have := (nI_eq (a := j) (b := i) (by omega) (by omega)).mp c1
      simp [this]
    · rw [ej, ei] at c2
      have c2 : ¬ mq F 1 j = mq F 1 i := c2
      simp [c2]
    · rw [ej, ei] at c2
      have c2 : mq F 1 j = mq F 1 i := c2
      have : ¬ j = i := fun q => c1 (by rw [q])
      simp [c2, this]
end MK2
