theorem s_in {d : Nat} {v lo hi : Int32} {h : mm_H} {K : mm_K} (hk : K (some (.int (b2i (lo ≤ v ∧ v ≤ hi)))) h) : mm_call mm_Ex d k_X6_in [.int v, .int lo, .int hi] h K := by
  have J : ∀ x, x = b2i (lo ≤ v ∧ v ≤ hi) → mm_Ex d k_X6_in 9 (0, 0) [.int v, .int lo, .int hi] [.int x] h K := fun x e => by
    refine mm_run 5 ⟨?_, ?_⟩
    · rw [e]; exact b2i_01
    · rw [e]; exact hk
  refine mm_run 50 (And.intro (fun c => ?_) (fun c => And.intro (fun c2 => ?_) (fun c2 => ?_)))
  · refine mm_run 50 (J 0 (b2i_f ?_).symm)
    exact fun q => Int32.not_le.mpr c q.1
  · refine mm_run 50 (J 0 (b2i_f ?_).symm)
    exact fun q => Int32.not_le.mpr c2 q.2
  · exact J 1 (b2i_t ⟨Int32.not_lt.mp c, Int32.not_lt.mp c2⟩).symm
theorem s_finds {d L s : Nat} {xs : Nat → Int32} {J : Nat → Int64} {F : Nat → Nat → Int32} {K : mm_K} {w : Int32} (hw : vp_in w 6) (hk : K (some (.int (-3))) (hH L xs J s (up2 (up2 F 75 5 w) 81 w.toNatClampNeg (F 81 w.toNatClampNeg + 1)))) : mm_call mm_Ex d k_X6_finds [.ref 75, .int w] (hH L xs J s F) K := by
  refine mm_run 50 ⟨hw, hw, ?_⟩
  exact kh (hp2 rfl rfl) hk
