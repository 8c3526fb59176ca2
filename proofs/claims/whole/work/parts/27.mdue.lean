/-! the reference: on, what is due, ways -/
section MH
variable {d L s : Nat} {xs : Nat → Int32} {J : Nat → Int64} {F : Nat → Nat → Int32} {K : mm_K} {h : mm_H} {n : Nat}
theorem m_on (hK : ∀ k, k < 3 → szOk (F 88 k) 9) {k : Int32} (hk : K (some (.int (S_on F k).1)) (hH L xs J s (S_on F k).2)) : mm_call mm_Ex (d + 2) k_X6_on [.ref 75, .int k] (hH L xs J s F) K := by
  unfold S_on at hk
  refine mm_run 60 (s_in (And.intro (fun c => ?_) (fun c => ?_)))
  · obtain ⟨j, hj, rfl⟩ := isK_of c
    have ej : (nI j).toNatClampNeg = j := tn_nI (by omega)
    rw [if_pos (not_not_b c), ej] at hk
    have hv : vp_in (nI j) 3 := vp_in_nI hj (by decide)
    refine ⟨hv, And.intro (fun c2 => ?_) (fun c2 => ?_)⟩
    · rw [ej] at c2
      rw [if_pos c2] at hk
      obtain ⟨m, hm, em⟩ := sz_pos (hK j hj) (by decide) c2
      have em2 : (F 88 j).toNatClampNeg = m := by rw [em]; exact tn_nI (by omega)
      rw [em2] at hk
      refine lp (n := m) (P := fun i => ∀ x (w : Value) h, x = nI i → h = hH L xs J s (onF F j i) → mm_Ex (d + 2) k_X6_on 21 (0, 0) [.ref 75, .int (nI j), .int x, w] [] h K) ?_ ?_ 0 _ _ rfl ?_
      · intro x w h hx hh
        subst hx hh
        refine mm_run 60 ⟨hv, And.intro (fun _ => ?_) (fun c => absurd ?_ c)⟩
        · show K (some (.int (nI m))) _
          rw [← em]
          exact hk
        · show F 88 (nI j).toNatClampNeg ≤ nI m
          rw [ej, em]
          exact (nI_leI (by omega) (by omega)).mpr (Nat.le_refl m)
      · intro i hi ih x w h hx hh
        subst hx hh
        have e1 : (54 : Int32) * nI j + 6 * nI i = nI (54 * j + 6 * i) := by
          rw [show (6 : Int32) * nI i = nI (6 * i) from pk_mul 6 i]
          exact ix (c := 54)
        have vq : ∀ w, w < 6 → vp_in (nI (54 * j + 6 * i + w)) 162 := fun w hw => vp_in_nI (by omega) (by decide)
        have ev : ∀ w, w < 6 → (nI (54 * j + 6 * i + w)).toNatClampNeg = 54 * j + 6 * i + w := fun w hw => tn_nI (by omega)
        have eq0 : (54 : Int32) * nI j + 6 * nI i = nI (54 * j + 6 * i + 0) := e1
        have eq1 : (54 : Int32) * nI j + 6 * nI i + 1 = nI (54 * j + 6 * i + 1) := by rw [e1, nI_1]
        have eq2 : (54 : Int32) * nI j + 6 * nI i + 2 = nI (54 * j + 6 * i + 2) := by rw [e1]; exact nI_add _ 2
        have eq3 : (54 : Int32) * nI j + 6 * nI i + 3 = nI (54 * j + 6 * i + 3) := by rw [e1]; exact nI_add _ 3
        have eq4 : (54 : Int32) * nI j + 6 * nI i + 4 = nI (54 * j + 6 * i + 4) := by rw [e1]; exact nI_add _ 4
        have eq5 : (54 : Int32) * nI j + 6 * nI i + 5 = nI (54 * j + 6 * i + 5) := by rw [e1]; exact nI_add _ 5
        refine mm_run 60 ⟨hv, And.intro (fun c => ?_) (fun c => ⟨by rw [eq0]; exact vq 0 (by decide), by rw [eq1]; exact vq 1 (by decide), by rw [eq2]; exact vq 2 (by decide), by rw [eq3]; exact vq 3 (by decide), by rw [eq4]; exact vq 4 (by decide), by rw [eq5]; exact vq 5 (by decide), s_adds (n := i) rfl (by omega) (ih _ _ _ (nI_1 i) (hHx fun a => ?_))⟩)⟩
        · have c : F 88 (nI j).toNatClampNeg ≤ nI i := c
          rw [ej, em] at c
          exact absurd c (nleI hi (by omega))
        · rw [eq5, eq4, eq3, eq2, eq1, eq0, ev 0 (by decide), ev 1 (by decide), ev 2 (by decide), ev 3 (by decide), ev 4 (by decide), ev 5 (by decide)]
          unfold S_adds onF
          simp only [up2, upF]
          by_cases h75 : a = 75
          · subst h75
            simp
            exact fa_upd_twice (F 75) 10 (nI i) (nI (i + 1))
          by_cases h82 : a = 82
          · subst h82
            simp
            exact fa_fill_succ (fun i => F 89 (54 * j + 6 * i)) (F 82) i
          by_cases h83 : a = 83
          · subst h83
            simp
            exact fa_fill_succ (fun i => F 89 (54 * j + 6 * i + 1)) (F 83) i
          by_cases h84 : a = 84
          · subst h84
            simp
            exact fa_fill_succ (fun i => F 89 (54 * j + 6 * i + 2)) (F 84) i
          by_cases h85 : a = 85
          · subst h85
            simp
            exact fa_fill_succ (fun i => F 89 (54 * j + 6 * i + 3)) (F 85) i
          by_cases h86 : a = 86
          · subst h86
            simp
            exact fa_fill_succ (fun i => F 89 (54 * j + 6 * i + 4)) (F 86) i
          by_cases h87 : a = 87
          · subst h87
            simp
            exact fa_fill_succ (fun i => F 89 (54 * j + 6 * i + 5)) (F 87) i
          simp [h75, h82, h83, h84, h85, h86, h87]
      · refine (hp1 (g := upd (F 75) 10 0) rfl).trans (hHx fun a => ?_)
        unfold onF
        rw [fa_fill_0, fa_fill_0, fa_fill_0, fa_fill_0, fa_fill_0, fa_fill_0]
        simp only [up2, upF]
        by_cases h75 : a = 75
        · subst h75
          rfl
        by_cases h82 : a = 82
        · subst h82
          rfl
        by_cases h83 : a = 83
        · subst h83
          rfl
        by_cases h84 : a = 84
        · subst h84
          rfl
        by_cases h85 : a = 85
        · subst h85
          rfl
        by_cases h86 : a = 86
        · subst h86
          rfl
        by_cases h87 : a = 87
        · subst h87
          rfl
        simp [h75, h82, h83, h84, h85, h86, h87]
    · rw [ej] at c2
      rw [if_neg c2] at hk
      exact s_finds (w := 1) (by decide) hk
  · rw [if_neg (b2i_0.mp c)] at hk
    exact hk
end MH
