/-! the class: rows and texts, each -/
section XRw
variable {d L s : Nat} {xs : Nat → Int32} {J : Nat → Int64} {F : Nat → Nat → Int32} {K : mm_K} {h : mm_H}
theorem x_isMissing_34 (hk : K (some (.int (b2i (F 34 1 < 0)))) (hH L xs J s F)) : mm_call mm_Ex d k_X3_isMissing [.ref 34] (hH L xs J s F) K := by
  refine mm_run 20 (And.intro (fun q => mm_run 5 ⟨Or.inl rfl, ?_⟩) (fun q => mm_run 5 ⟨Or.inr rfl, ?_⟩))
  · rw [b2i_f (Int32.not_lt.mpr q)] at hk
    exact hk
  · rw [b2i_t (Int32.not_le.mp q)] at hk
    exact hk
theorem x_has_34 {i : Int32} (hk : K (some (.int (b2i (0 ≤ i ∧ i < F 34 1)))) (hH L xs J s F)) : mm_call mm_Ex (d + 1) k_X3_has [.ref 34, .int i] (hH L xs J s F) K := mm_run 20 (x_within ⟨b2i_01, hk⟩)
theorem x_hasRun_34 {i n : Int32} (hk : K (some (.int (b2i (0 ≤ i ∧ i ≤ F 34 1 ∧ 0 ≤ n ∧ n ≤ F 34 1 - i)))) (hH L xs J s F)) : mm_call mm_Ex d k_X3_hasRun [.ref 34, .int i, .int n] (hH L xs J s F) K := by
  have J17 : ∀ x, x = b2i (0 ≤ i ∧ i ≤ F 34 1 ∧ 0 ≤ n ∧ n ≤ F 34 1 - i) → mm_Ex d k_X3_hasRun 17 (0, 0) [.ref 34, .int i, .int n] [.int x] (hH L xs J s F) K := fun x e => by
    refine mm_run 5 ⟨?_, ?_⟩
    · rw [e]; exact b2i_01
    · rw [e]; exact hk
  have J16 : ¬ (0 ≤ i ∧ i ≤ F 34 1 ∧ 0 ≤ n ∧ n ≤ F 34 1 - i) → mm_Ex d k_X3_hasRun 16 (0, 0) [.ref 34, .int i, .int n] [] (hH L xs J s F) K := fun q => mm_run 5 (J17 0 (b2i_f q).symm)
  exact mm_run 50 (And.intro (fun c => J16 fun q => Int32.not_le.mpr c q.1) (fun c => And.intro (fun c2 => J16 fun q => Int32.not_le.mpr c2 q.2.1) (fun c2 => And.intro (fun c3 => J16 fun q => Int32.not_le.mpr c3 q.2.2.1) (fun c3 => And.intro (fun c4 => J16 fun q => Int32.not_le.mpr c4 q.2.2.2) (fun c4 => J17 1 (b2i_t ⟨Int32.not_lt.mp c, Int32.not_lt.mp c2, Int32.not_lt.mp c3, Int32.not_lt.mp c4⟩).symm)))))
theorem x_value_34 {i : Int32} {z : Nat} (hz : F 34 1 = nI z) (hl : z ≤ 40) (hk : K (some (.int (if 0 ≤ i ∧ i < F 34 1 then F 35 i.toNatClampNeg else 0))) (hH L xs J s F)) : mm_call mm_Ex (d + 2) k_X3_value [.ref 34, .int i] (hH L xs J s F) K := by
  refine mm_run 20 (x_has_34 (And.intro (fun q => mm_run 5 ?_) (fun q => ⟨?_, mm_run 5 ?_⟩)))
  · rw [if_neg (b2i_0.mp q)] at hk
    exact hk
  · have q := b2i_p q
    rw [hz] at q
    obtain ⟨j, hj, rfl⟩ := lt_nI (by omega) q.1 q.2
    exact vp_in_nI (by omega) (by decide)
  · rw [if_pos (b2i_p q)] at hk
    exact hk
theorem x_swap_34 {z j : Nat} {v : Int32} (hz : F 34 1 = nI z) (hl : z ≤ 40) (hj : j < z) (hk : K (some (.int (F 35 j))) (hH L xs J s (up2 F 35 j v))) : mm_call mm_Ex (d + 3) k_X3_swap [.ref 34, .int (nI j), .int v] (hH L xs J s F) K := by
  have hin : 0 ≤ nI j ∧ nI j < F 34 1 := by
    rw [hz]
    exact ⟨nle0 (by omega), (nI_ltI (by omega) (by omega)).mpr hj⟩
  have ej : (nI j).toNatClampNeg = j := tn_nI (by omega)
  refine mm_run 20 (x_value_34 hz hl ?_)
  rw [if_pos hin, ej]
  refine x_has_34 (And.intro (fun q => absurd hin (b2i_0.mp q)) (fun q => ⟨vp_in_nI (by omega) (by decide), ?_⟩))
  refine kx ((hp1 (g := upd (F 35) (nI j).toNatClampNeg v) rfl).trans (hHx (F' := up2 F 35 j v) fun a => by rw [ej]; rfl)) (mm_run 5 hk)
theorem x_renew_34 {m : Nat} {v : Int32} (hm : m ≤ 40) (hk : K none (hH L xs J s (upF (up2 F 34 1 (nI m)) 35 (fil (F 35) 0 m v)))) : mm_call mm_Ex (d + 1) k_X3_renew [.ref 34, .int (nI m), .int v] (hH L xs J s F) K := by
  refine mm_run 20 ?_
  have e : (if nI 40 < nI m then nI 40 else nI m) = nI m := if_neg (fun q => absurd ((nI_ltI (by omega) (by omega)).mp q) (by omega))
  refine kx ((hp1 (g := upd (F 34) 1 (if nI 40 < nI m then nI 40 else nI m)) rfl).trans (hHx (F' := up2 F 34 1 (nI m)) fun a => by rw [e]; rfl)) ?_
  refine lp (n := m) (P := fun k => ∀ x h, x = nI k → h = hH L xs J s (upF (up2 F 34 1 (nI m)) 35 (fil (F 35) 0 k v)) → mm_Ex (d + 1) k_X3_renew 9 (0, 0) [.ref 34, .int (nI m), .int v, .int x] [] h K) ?_ ?_ 0 _ rfl ?_
  · intro x h hx hh
    subst hx hh
    exact mm_run 20 (And.intro (fun _ => hk) (fun q => absurd ((nI_leI (by omega) (by omega)).mpr (Nat.le_refl m)) q))
  · intro k hk1 ih x h hx hh
    subst hx hh
    refine mm_run 20 (And.intro (fun q => absurd q (nleI hk1 (by omega))) (fun _ => ⟨vp_in_nI (by omega) (by decide), ih _ _ (nI_1 k) ?_⟩))
    refine (hp1 (g := upd (fil (F 35) 0 k v) (nI k).toNatClampNeg v) rfl).trans (hHx fun a => ?_)
    have := fil_s (f := F 35) (lo := 0) (n := k) (v := v)
    rw [Nat.zero_add] at this
    rw [upF_same, tn_nI (by omega), this]
  · refine hHx fun a => ?_
    rw [fil_0]
    exact congrFun (upF_id (F := up2 F 34 1 (nI m)) (k := 35)).symm a
theorem x_remove_34 (hk : K none (hH L xs J s (up2 F 34 1 (-1)))) : mm_call mm_Ex d k_X3_remove [.ref 34] (hH L xs J s F) K := mm_run 20 (kh (hp1 (g := upd (F 34) 1 (-1)) rfl) hk)
theorem x_sum_34 {z : Nat} (hz : F 34 1 = nI z) (hl : z ≤ 40) (hk : K (some (.long (sumL (F 35) z))) (hH L xs J s F)) : mm_call mm_Ex d k_X3_sum [.ref 34] (hH L xs J s F) K := by
  refine mm_run 20 (lp (n := z) (P := fun k => ∀ x a, x = nI k → a = sumL (F 35) k → mm_Ex d k_X3_sum 4 (0, 0) [.ref 34, .long a, .null, .int x] [] (hH L xs J s F) K) ?_ ?_ 0 0 rfl rfl)
  · intro x a hx ha
    subst hx ha
    refine mm_run 20 (And.intro (fun _ => hk) (fun q => absurd ?_ q))
    show F 34 1 ≤ nI z
    rw [hz]
    exact (nI_leI (by omega) (by omega)).mpr (Nat.le_refl z)
  · intro k hk1 ih x a hx ha
    subst hx ha
    refine mm_run 20 (And.intro (fun q => ?_) (fun _ => ⟨vp_in_nI (by omega) (by decide), ih _ _ (nI_1 k) ?_⟩))
    · have q : F 34 1 ≤ nI k := q
      rw [hz] at q
      exact absurd q (nleI hk1 (by omega))
    · rw [tn_nI (by omega)]
      rfl
theorem x_digestFrom_34 {z : Nat} {g : Int64} (hz : F 34 1 = nI z ∨ F 34 1 = -1 ∧ z = 0) (hl : z ≤ 40) (hk : K (some (.long (dg1 (F 35) (31 * g + (F 34 1).toInt64) z))) (hH L xs J s F)) : mm_call mm_Ex d k_X3_digestFrom [.ref 34, .long g] (hH L xs J s F) K := by
  have hle : F 34 1 ≤ nI z := by
    rcases hz with hz | ⟨hz, h0⟩
    · rw [hz]
      exact (nI_leI (by omega) (by omega)).mpr (Nat.le_refl z)
    · rw [hz, h0]
      decide
  refine mm_run 20 (lp (n := z) (P := fun k => ∀ x a, x = nI k → a = dg1 (F 35) (31 * g + (F 34 1).toInt64) k → mm_Ex d k_X3_digestFrom 10 (0, 0) [.ref 34, .long g, .null, .long a, .null, .int x] [] (hH L xs J s F) K) ?_ ?_ 0 _ rfl rfl)
  · intro x a hx ha
    subst hx ha
    exact mm_run 20 (And.intro (fun _ => hk) (fun q => absurd hle q))
  · intro k hk1 ih x a hx ha
    subst hx ha
    refine mm_run 20 (And.intro (fun q => ?_) (fun _ => ⟨vp_in_nI (by omega) (by decide), ih _ _ (nI_1 k) ?_⟩))
    · have q : F 34 1 ≤ nI k := q
      rcases hz with hz | ⟨hz, h0⟩
      · rw [hz] at q
        exact absurd q (nleI hk1 (by omega))
      · omega
    · rw [tn_nI (by omega)]
      rfl
theorem x_isMissing_36 (hk : K (some (.int (b2i (F 36 1 < 0)))) (hH L xs J s F)) : mm_call mm_Ex d k_X3_isMissing [.ref 36] (hH L xs J s F) K := by
  refine mm_run 20 (And.intro (fun q => mm_run 5 ⟨Or.inl rfl, ?_⟩) (fun q => mm_run 5 ⟨Or.inr rfl, ?_⟩))
  · rw [b2i_f (Int32.not_lt.mpr q)] at hk
    exact hk
  · rw [b2i_t (Int32.not_le.mp q)] at hk
    exact hk
theorem x_has_36 {i : Int32} (hk : K (some (.int (b2i (0 ≤ i ∧ i < F 36 1)))) (hH L xs J s F)) : mm_call mm_Ex (d + 1) k_X3_has [.ref 36, .int i] (hH L xs J s F) K := mm_run 20 (x_within ⟨b2i_01, hk⟩)
theorem x_hasRun_36 {i n : Int32} (hk : K (some (.int (b2i (0 ≤ i ∧ i ≤ F 36 1 ∧ 0 ≤ n ∧ n ≤ F 36 1 - i)))) (hH L xs J s F)) : mm_call mm_Ex d k_X3_hasRun [.ref 36, .int i, .int n] (hH L xs J s F) K := by
  have J17 : ∀ x, x = b2i (0 ≤ i ∧ i ≤ F 36 1 ∧ 0 ≤ n ∧ n ≤ F 36 1 - i) → mm_Ex d k_X3_hasRun 17 (0, 0) [.ref 36, .int i, .int n] [.int x] (hH L xs J s F) K := fun x e => by
    refine mm_run 5 ⟨?_, ?_⟩
    · rw [e]; exact b2i_01
    · rw [e]; exact hk
  have J16 : ¬ (0 ≤ i ∧ i ≤ F 36 1 ∧ 0 ≤ n ∧ n ≤ F 36 1 - i) → mm_Ex d k_X3_hasRun 16 (0, 0) [.ref 36, .int i, .int n] [] (hH L xs J s F) K := fun q => mm_run 5 (J17 0 (b2i_f q).symm)
  exact mm_run 50 (And.intro (fun c => J16 fun q => Int32.not_le.mpr c q.1) (fun c => And.intro (fun c2 => J16 fun q => Int32.not_le.mpr c2 q.2.1) (fun c2 => And.intro (fun c3 => J16 fun q => Int32.not_le.mpr c3 q.2.2.1) (fun c3 => And.intro (fun c4 => J16 fun q => Int32.not_le.mpr c4 q.2.2.2) (fun c4 => J17 1 (b2i_t ⟨Int32.not_lt.mp c, Int32.not_lt.mp c2, Int32.not_lt.mp c3, Int32.not_lt.mp c4⟩).symm)))))
theorem x_value_36 {i : Int32} {z : Nat} (hz : F 36 1 = nI z) (hl : z ≤ 40) (hk : K (some (.int (if 0 ≤ i ∧ i < F 36 1 then F 37 i.toNatClampNeg else 0))) (hH L xs J s F)) : mm_call mm_Ex (d + 2) k_X3_value [.ref 36, .int i] (hH L xs J s F) K := by
  refine mm_run 20 (x_has_36 (And.intro (fun q => mm_run 5 ?_) (fun q => ⟨?_, mm_run 5 ?_⟩)))
  · rw [if_neg (b2i_0.mp q)] at hk
    exact hk
  · have q := b2i_p q
    rw [hz] at q
    obtain ⟨j, hj, rfl⟩ := lt_nI (by omega) q.1 q.2
    exact vp_in_nI (by omega) (by decide)
  · rw [if_pos (b2i_p q)] at hk
    exact hk
theorem x_swap_36 {z j : Nat} {v : Int32} (hz : F 36 1 = nI z) (hl : z ≤ 40) (hj : j < z) (hk : K (some (.int (F 37 j))) (hH L xs J s (up2 F 37 j v))) : mm_call mm_Ex (d + 3) k_X3_swap [.ref 36, .int (nI j), .int v] (hH L xs J s F) K := by
  have hin : 0 ≤ nI j ∧ nI j < F 36 1 := by
    rw [hz]
    exact ⟨nle0 (by omega), (nI_ltI (by omega) (by omega)).mpr hj⟩
  have ej : (nI j).toNatClampNeg = j := tn_nI (by omega)
  refine mm_run 20 (x_value_36 hz hl ?_)
  rw [if_pos hin, ej]
  refine x_has_36 (And.intro (fun q => absurd hin (b2i_0.mp q)) (fun q => ⟨vp_in_nI (by omega) (by decide), ?_⟩))
  refine kx ((hp1 (g := upd (F 37) (nI j).toNatClampNeg v) rfl).trans (hHx (F' := up2 F 37 j v) fun a => by rw [ej]; rfl)) (mm_run 5 hk)
theorem x_renew_36 {m : Nat} {v : Int32} (hm : m ≤ 40) (hk : K none (hH L xs J s (upF (up2 F 36 1 (nI m)) 37 (fil (F 37) 0 m v)))) : mm_call mm_Ex (d + 1) k_X3_renew [.ref 36, .int (nI m), .int v] (hH L xs J s F) K := by
  refine mm_run 20 ?_
  have e : (if nI 40 < nI m then nI 40 else nI m) = nI m := if_neg (fun q => absurd ((nI_ltI (by omega) (by omega)).mp q) (by omega))
  refine kx ((hp1 (g := upd (F 36) 1 (if nI 40 < nI m then nI 40 else nI m)) rfl).trans (hHx (F' := up2 F 36 1 (nI m)) fun a => by rw [e]; rfl)) ?_
  refine lp (n := m) (P := fun k => ∀ x h, x = nI k → h = hH L xs J s (upF (up2 F 36 1 (nI m)) 37 (fil (F 37) 0 k v)) → mm_Ex (d + 1) k_X3_renew 9 (0, 0) [.ref 36, .int (nI m), .int v, .int x] [] h K) ?_ ?_ 0 _ rfl ?_
  · intro x h hx hh
    subst hx hh
    exact mm_run 20 (And.intro (fun _ => hk) (fun q => absurd ((nI_leI (by omega) (by omega)).mpr (Nat.le_refl m)) q))
  · intro k hk1 ih x h hx hh
    subst hx hh
    refine mm_run 20 (And.intro (fun q => absurd q (nleI hk1 (by omega))) (fun _ => ⟨vp_in_nI (by omega) (by decide), ih _ _ (nI_1 k) ?_⟩))
    refine (hp1 (g := upd (fil (F 37) 0 k v) (nI k).toNatClampNeg v) rfl).trans (hHx fun a => ?_)
    have := fil_s (f := F 37) (lo := 0) (n := k) (v := v)
    rw [Nat.zero_add] at this
    rw [upF_same, tn_nI (by omega), this]
  · refine hHx fun a => ?_
    rw [fil_0]
    exact congrFun (upF_id (F := up2 F 36 1 (nI m)) (k := 37)).symm a
theorem x_remove_36 (hk : K none (hH L xs J s (up2 F 36 1 (-1)))) : mm_call mm_Ex d k_X3_remove [.ref 36] (hH L xs J s F) K := mm_run 20 (kh (hp1 (g := upd (F 36) 1 (-1)) rfl) hk)
theorem x_sum_36 {z : Nat} (hz : F 36 1 = nI z) (hl : z ≤ 40) (hk : K (some (.long (sumL (F 37) z))) (hH L xs J s F)) : mm_call mm_Ex d k_X3_sum [.ref 36] (hH L xs J s F) K := by
  refine mm_run 20 (lp (n := z) (P := fun k => ∀ x a, x = nI k → a = sumL (F 37) k → mm_Ex d k_X3_sum 4 (0, 0) [.ref 36, .long a, .null, .int x] [] (hH L xs J s F) K) ?_ ?_ 0 0 rfl rfl)
  · intro x a hx ha
    subst hx ha
    refine mm_run 20 (And.intro (fun _ => hk) (fun q => absurd ?_ q))
    show F 36 1 ≤ nI z
    rw [hz]
    exact (nI_leI (by omega) (by omega)).mpr (Nat.le_refl z)
  · intro k hk1 ih x a hx ha
    subst hx ha
    refine mm_run 20 (And.intro (fun q => ?_) (fun _ => ⟨vp_in_nI (by omega) (by decide), ih _ _ (nI_1 k) ?_⟩))
    · have q : F 36 1 ≤ nI k := q
      rw [hz] at q
      exact absurd q (nleI hk1 (by omega))
    · rw [tn_nI (by omega)]
      rfl
theorem x_digestFrom_36 {z : Nat} {g : Int64} (hz : F 36 1 = nI z ∨ F 36 1 = -1 ∧ z = 0) (hl : z ≤ 40) (hk : K (some (.long (dg1 (F 37) (31 * g + (F 36 1).toInt64) z))) (hH L xs J s F)) : mm_call mm_Ex d k_X3_digestFrom [.ref 36, .long g] (hH L xs J s F) K := by
  have hle : F 36 1 ≤ nI z := by
    rcases hz with hz | ⟨hz, h0⟩
    · rw [hz]
      exact (nI_leI (by omega) (by omega)).mpr (Nat.le_refl z)
    · rw [hz, h0]
      decide
  refine mm_run 20 (lp (n := z) (P := fun k => ∀ x a, x = nI k → a = dg1 (F 37) (31 * g + (F 36 1).toInt64) k → mm_Ex d k_X3_digestFrom 10 (0, 0) [.ref 36, .long g, .null, .long a, .null, .int x] [] (hH L xs J s F) K) ?_ ?_ 0 _ rfl rfl)
  · intro x a hx ha
    subst hx ha
    exact mm_run 20 (And.intro (fun _ => hk) (fun q => absurd hle q))
  · intro k hk1 ih x a hx ha
    subst hx ha
    refine mm_run 20 (And.intro (fun q => ?_) (fun _ => ⟨vp_in_nI (by omega) (by decide), ih _ _ (nI_1 k) ?_⟩))
    · have q : F 36 1 ≤ nI k := q
      rcases hz with hz | ⟨hz, h0⟩
      · rw [hz] at q
        exact absurd q (nleI hk1 (by omega))
      · omega
    · rw [tn_nI (by omega)]
      rfl
theorem x_isMissing_38 (hk : K (some (.int (b2i (F 38 1 < 0)))) (hH L xs J s F)) : mm_call mm_Ex d k_X3_isMissing [.ref 38] (hH L xs J s F) K := by
  refine mm_run 20 (And.intro (fun q => mm_run 5 ⟨Or.inl rfl, ?_⟩) (fun q => mm_run 5 ⟨Or.inr rfl, ?_⟩))
  · rw [b2i_f (Int32.not_lt.mpr q)] at hk
    exact hk
  · rw [b2i_t (Int32.not_le.mp q)] at hk
    exact hk
theorem x_has_38 {i : Int32} (hk : K (some (.int (b2i (0 ≤ i ∧ i < F 38 1)))) (hH L xs J s F)) : mm_call mm_Ex (d + 1) k_X3_has [.ref 38, .int i] (hH L xs J s F) K := mm_run 20 (x_within ⟨b2i_01, hk⟩)
theorem x_hasRun_38 {i n : Int32} (hk : K (some (.int (b2i (0 ≤ i ∧ i ≤ F 38 1 ∧ 0 ≤ n ∧ n ≤ F 38 1 - i)))) (hH L xs J s F)) : mm_call mm_Ex d k_X3_hasRun [.ref 38, .int i, .int n] (hH L xs J s F) K := by
  have J17 : ∀ x, x = b2i (0 ≤ i ∧ i ≤ F 38 1 ∧ 0 ≤ n ∧ n ≤ F 38 1 - i) → mm_Ex d k_X3_hasRun 17 (0, 0) [.ref 38, .int i, .int n] [.int x] (hH L xs J s F) K := fun x e => by
    refine mm_run 5 ⟨?_, ?_⟩
    · rw [e]; exact b2i_01
    · rw [e]; exact hk
  have J16 : ¬ (0 ≤ i ∧ i ≤ F 38 1 ∧ 0 ≤ n ∧ n ≤ F 38 1 - i) → mm_Ex d k_X3_hasRun 16 (0, 0) [.ref 38, .int i, .int n] [] (hH L xs J s F) K := fun q => mm_run 5 (J17 0 (b2i_f q).symm)
  exact mm_run 50 (And.intro (fun c => J16 fun q => Int32.not_le.mpr c q.1) (fun c => And.intro (fun c2 => J16 fun q => Int32.not_le.mpr c2 q.2.1) (fun c2 => And.intro (fun c3 => J16 fun q => Int32.not_le.mpr c3 q.2.2.1) (fun c3 => And.intro (fun c4 => J16 fun q => Int32.not_le.mpr c4 q.2.2.2) (fun c4 => J17 1 (b2i_t ⟨Int32.not_lt.mp c, Int32.not_lt.mp c2, Int32.not_lt.mp c3, Int32.not_lt.mp c4⟩).symm)))))
theorem x_value_38 {i : Int32} {z : Nat} (hz : F 38 1 = nI z) (hl : z ≤ 40) (hk : K (some (.int (if 0 ≤ i ∧ i < F 38 1 then F 39 i.toNatClampNeg else 0))) (hH L xs J s F)) : mm_call mm_Ex (d + 2) k_X3_value [.ref 38, .int i] (hH L xs J s F) K := by
  refine mm_run 20 (x_has_38 (And.intro (fun q => mm_run 5 ?_) (fun q => ⟨?_, mm_run 5 ?_⟩)))
  · rw [if_neg (b2i_0.mp q)] at hk
    exact hk
  · have q := b2i_p q
    rw [hz] at q
    obtain ⟨j, hj, rfl⟩ := lt_nI (by omega) q.1 q.2
    exact vp_in_nI (by omega) (by decide)
  · rw [if_pos (b2i_p q)] at hk
    exact hk
theorem x_swap_38 {z j : Nat} {v : Int32} (hz : F 38 1 = nI z) (hl : z ≤ 40) (hj : j < z) (hk : K (some (.int (F 39 j))) (hH L xs J s (up2 F 39 j v))) : mm_call mm_Ex (d + 3) k_X3_swap [.ref 38, .int (nI j), .int v] (hH L xs J s F) K := by
  have hin : 0 ≤ nI j ∧ nI j < F 38 1 := by
    rw [hz]
    exact ⟨nle0 (by omega), (nI_ltI (by omega) (by omega)).mpr hj⟩
  have ej : (nI j).toNatClampNeg = j := tn_nI (by omega)
  refine mm_run 20 (x_value_38 hz hl ?_)
  rw [if_pos hin, ej]
  refine x_has_38 (And.intro (fun q => absurd hin (b2i_0.mp q)) (fun q => ⟨vp_in_nI (by omega) (by decide), ?_⟩))
  refine kx ((hp1 (g := upd (F 39) (nI j).toNatClampNeg v) rfl).trans (hHx (F' := up2 F 39 j v) fun a => by rw [ej]; rfl)) (mm_run 5 hk)
theorem x_renew_38 {m : Nat} {v : Int32} (hm : m ≤ 40) (hk : K none (hH L xs J s (upF (up2 F 38 1 (nI m)) 39 (fil (F 39) 0 m v)))) : mm_call mm_Ex (d + 1) k_X3_renew [.ref 38, .int (nI m), .int v] (hH L xs J s F) K := by
  refine mm_run 20 ?_
  have e : (if nI 40 < nI m then nI 40 else nI m) = nI m := if_neg (fun q => absurd ((nI_ltI (by omega) (by omega)).mp q) (by omega))
  refine kx ((hp1 (g := upd (F 38) 1 (if nI 40 < nI m then nI 40 else nI m)) rfl).trans (hHx (F' := up2 F 38 1 (nI m)) fun a => by rw [e]; rfl)) ?_
  refine lp (n := m) (P := fun k => ∀ x h, x = nI k → h = hH L xs J s (upF (up2 F 38 1 (nI m)) 39 (fil (F 39) 0 k v)) → mm_Ex (d + 1) k_X3_renew 9 (0, 0) [.ref 38, .int (nI m), .int v, .int x] [] h K) ?_ ?_ 0 _ rfl ?_
  · intro x h hx hh
    subst hx hh
    exact mm_run 20 (And.intro (fun _ => hk) (fun q => absurd ((nI_leI (by omega) (by omega)).mpr (Nat.le_refl m)) q))
  · intro k hk1 ih x h hx hh
    subst hx hh
    refine mm_run 20 (And.intro (fun q => absurd q (nleI hk1 (by omega))) (fun _ => ⟨vp_in_nI (by omega) (by decide), ih _ _ (nI_1 k) ?_⟩))
    refine (hp1 (g := upd (fil (F 39) 0 k v) (nI k).toNatClampNeg v) rfl).trans (hHx fun a => ?_)
    have := fil_s (f := F 39) (lo := 0) (n := k) (v := v)
    rw [Nat.zero_add] at this
    rw [upF_same, tn_nI (by omega), this]
  · refine hHx fun a => ?_
    rw [fil_0]
    exact congrFun (upF_id (F := up2 F 38 1 (nI m)) (k := 39)).symm a
theorem x_remove_38 (hk : K none (hH L xs J s (up2 F 38 1 (-1)))) : mm_call mm_Ex d k_X3_remove [.ref 38] (hH L xs J s F) K := mm_run 20 (kh (hp1 (g := upd (F 38) 1 (-1)) rfl) hk)
theorem x_sum_38 {z : Nat} (hz : F 38 1 = nI z) (hl : z ≤ 40) (hk : K (some (.long (sumL (F 39) z))) (hH L xs J s F)) : mm_call mm_Ex d k_X3_sum [.ref 38] (hH L xs J s F) K := by
  refine mm_run 20 (lp (n := z) (P := fun k => ∀ x a, x = nI k → a = sumL (F 39) k → mm_Ex d k_X3_sum 4 (0, 0) [.ref 38, .long a, .null, .int x] [] (hH L xs J s F) K) ?_ ?_ 0 0 rfl rfl)
  · intro x a hx ha
    subst hx ha
    refine mm_run 20 (And.intro (fun _ => hk) (fun q => absurd ?_ q))
    show F 38 1 ≤ nI z
    rw [hz]
    exact (nI_leI (by omega) (by omega)).mpr (Nat.le_refl z)
  · intro k hk1 ih x a hx ha
    subst hx ha
    refine mm_run 20 (And.intro (fun q => ?_) (fun _ => ⟨vp_in_nI (by omega) (by decide), ih _ _ (nI_1 k) ?_⟩))
    · have q : F 38 1 ≤ nI k := q
      rw [hz] at q
      exact absurd q (nleI hk1 (by omega))
    · rw [tn_nI (by omega)]
      rfl
theorem x_digestFrom_38 {z : Nat} {g : Int64} (hz : F 38 1 = nI z ∨ F 38 1 = -1 ∧ z = 0) (hl : z ≤ 40) (hk : K (some (.long (dg1 (F 39) (31 * g + (F 38 1).toInt64) z))) (hH L xs J s F)) : mm_call mm_Ex d k_X3_digestFrom [.ref 38, .long g] (hH L xs J s F) K := by
  have hle : F 38 1 ≤ nI z := by
    rcases hz with hz | ⟨hz, h0⟩
    · rw [hz]
      exact (nI_leI (by omega) (by omega)).mpr (Nat.le_refl z)
    · rw [hz, h0]
      decide
  refine mm_run 20 (lp (n := z) (P := fun k => ∀ x a, x = nI k → a = dg1 (F 39) (31 * g + (F 38 1).toInt64) k → mm_Ex d k_X3_digestFrom 10 (0, 0) [.ref 38, .long g, .null, .long a, .null, .int x] [] (hH L xs J s F) K) ?_ ?_ 0 _ rfl rfl)
  · intro x a hx ha
    subst hx ha
    exact mm_run 20 (And.intro (fun _ => hk) (fun q => absurd hle q))
  · intro k hk1 ih x a hx ha
    subst hx ha
    refine mm_run 20 (And.intro (fun q => ?_) (fun _ => ⟨vp_in_nI (by omega) (by decide), ih _ _ (nI_1 k) ?_⟩))
    · have q : F 38 1 ≤ nI k := q
      rcases hz with hz | ⟨hz, h0⟩
      · rw [hz] at q
        exact absurd q (nleI hk1 (by omega))
      · omega
    · rw [tn_nI (by omega)]
      rfl
theorem x_isMissing_40 (hk : K (some (.int (b2i (F 40 1 < 0)))) (hH L xs J s F)) : mm_call mm_Ex d k_X3_isMissing [.ref 40] (hH L xs J s F) K := by
  refine mm_run 20 (And.intro (fun q => mm_run 5 ⟨Or.inl rfl, ?_⟩) (fun q => mm_run 5 ⟨Or.inr rfl, ?_⟩))
  · rw [b2i_f (Int32.not_lt.mpr q)] at hk
    exact hk
  · rw [b2i_t (Int32.not_le.mp q)] at hk
    exact hk
theorem x_has_40 {i : Int32} (hk : K (some (.int (b2i (0 ≤ i ∧ i < F 40 1)))) (hH L xs J s F)) : mm_call mm_Ex (d + 1) k_X3_has [.ref 40, .int i] (hH L xs J s F) K := mm_run 20 (x_within ⟨b2i_01, hk⟩)
theorem x_hasRun_40 {i n : Int32} (hk : K (some (.int (b2i (0 ≤ i ∧ i ≤ F 40 1 ∧ 0 ≤ n ∧ n ≤ F 40 1 - i)))) (hH L xs J s F)) : mm_call mm_Ex d k_X3_hasRun [.ref 40, .int i, .int n] (hH L xs J s F) K := by
  have J17 : ∀ x, x = b2i (0 ≤ i ∧ i ≤ F 40 1 ∧ 0 ≤ n ∧ n ≤ F 40 1 - i) → mm_Ex d k_X3_hasRun 17 (0, 0) [.ref 40, .int i, .int n] [.int x] (hH L xs J s F) K := fun x e => by
    refine mm_run 5 ⟨?_, ?_⟩
    · rw [e]; exact b2i_01
    · rw [e]; exact hk
  have J16 : ¬ (0 ≤ i ∧ i ≤ F 40 1 ∧ 0 ≤ n ∧ n ≤ F 40 1 - i) → mm_Ex d k_X3_hasRun 16 (0, 0) [.ref 40, .int i, .int n] [] (hH L xs J s F) K := fun q => mm_run 5 (J17 0 (b2i_f q).symm)
  exact mm_run 50 (And.intro (fun c => J16 fun q => Int32.not_le.mpr c q.1) (fun c => And.intro (fun c2 => J16 fun q => Int32.not_le.mpr c2 q.2.1) (fun c2 => And.intro (fun c3 => J16 fun q => Int32.not_le.mpr c3 q.2.2.1) (fun c3 => And.intro (fun c4 => J16 fun q => Int32.not_le.mpr c4 q.2.2.2) (fun c4 => J17 1 (b2i_t ⟨Int32.not_lt.mp c, Int32.not_lt.mp c2, Int32.not_lt.mp c3, Int32.not_lt.mp c4⟩).symm)))))
theorem x_value_40 {i : Int32} {z : Nat} (hz : F 40 1 = nI z) (hl : z ≤ 40) (hk : K (some (.int (if 0 ≤ i ∧ i < F 40 1 then F 41 i.toNatClampNeg else 0))) (hH L xs J s F)) : mm_call mm_Ex (d + 2) k_X3_value [.ref 40, .int i] (hH L xs J s F) K := by
  refine mm_run 20 (x_has_40 (And.intro (fun q => mm_run 5 ?_) (fun q => ⟨?_, mm_run 5 ?_⟩)))
  · rw [if_neg (b2i_0.mp q)] at hk
    exact hk
  · have q := b2i_p q
    rw [hz] at q
    obtain ⟨j, hj, rfl⟩ := lt_nI (by omega) q.1 q.2
    exact vp_in_nI (by omega) (by decide)
  · rw [if_pos (b2i_p q)] at hk
    exact hk
theorem x_swap_40 {z j : Nat} {v : Int32} (hz : F 40 1 = nI z) (hl : z ≤ 40) (hj : j < z) (hk : K (some (.int (F 41 j))) (hH L xs J s (up2 F 41 j v))) : mm_call mm_Ex (d + 3) k_X3_swap [.ref 40, .int (nI j), .int v] (hH L xs J s F) K := by
  have hin : 0 ≤ nI j ∧ nI j < F 40 1 := by
    rw [hz]
    exact ⟨nle0 (by omega), (nI_ltI (by omega) (by omega)).mpr hj⟩
  have ej : (nI j).toNatClampNeg = j := tn_nI (by omega)
  refine mm_run 20 (x_value_40 hz hl ?_)
  rw [if_pos hin, ej]
  refine x_has_40 (And.intro (fun q => absurd hin (b2i_0.mp q)) (fun q => ⟨vp_in_nI (by omega) (by decide), ?_⟩))
  refine kx ((hp1 (g := upd (F 41) (nI j).toNatClampNeg v) rfl).trans (hHx (F' := up2 F 41 j v) fun a => by rw [ej]; rfl)) (mm_run 5 hk)
theorem x_renew_40 {m : Nat} {v : Int32} (hm : m ≤ 40) (hk : K none (hH L xs J s (upF (up2 F 40 1 (nI m)) 41 (fil (F 41) 0 m v)))) : mm_call mm_Ex (d + 1) k_X3_renew [.ref 40, .int (nI m), .int v] (hH L xs J s F) K := by
  refine mm_run 20 ?_
  have e : (if nI 40 < nI m then nI 40 else nI m) = nI m := if_neg (fun q => absurd ((nI_ltI (by omega) (by omega)).mp q) (by omega))
  refine kx ((hp1 (g := upd (F 40) 1 (if nI 40 < nI m then nI 40 else nI m)) rfl).trans (hHx (F' := up2 F 40 1 (nI m)) fun a => by rw [e]; rfl)) ?_
  refine lp (n := m) (P := fun k => ∀ x h, x = nI k → h = hH L xs J s (upF (up2 F 40 1 (nI m)) 41 (fil (F 41) 0 k v)) → mm_Ex (d + 1) k_X3_renew 9 (0, 0) [.ref 40, .int (nI m), .int v, .int x] [] h K) ?_ ?_ 0 _ rfl ?_
  · intro x h hx hh
    subst hx hh
    exact mm_run 20 (And.intro (fun _ => hk) (fun q => absurd ((nI_leI (by omega) (by omega)).mpr (Nat.le_refl m)) q))
  · intro k hk1 ih x h hx hh
    subst hx hh
    refine mm_run 20 (And.intro (fun q => absurd q (nleI hk1 (by omega))) (fun _ => ⟨vp_in_nI (by omega) (by decide), ih _ _ (nI_1 k) ?_⟩))
    refine (hp1 (g := upd (fil (F 41) 0 k v) (nI k).toNatClampNeg v) rfl).trans (hHx fun a => ?_)
    have := fil_s (f := F 41) (lo := 0) (n := k) (v := v)
    rw [Nat.zero_add] at this
    rw [upF_same, tn_nI (by omega), this]
  · refine hHx fun a => ?_
    rw [fil_0]
    exact congrFun (upF_id (F := up2 F 40 1 (nI m)) (k := 41)).symm a
theorem x_remove_40 (hk : K none (hH L xs J s (up2 F 40 1 (-1)))) : mm_call mm_Ex d k_X3_remove [.ref 40] (hH L xs J s F) K := mm_run 20 (kh (hp1 (g := upd (F 40) 1 (-1)) rfl) hk)
theorem x_sum_40 {z : Nat} (hz : F 40 1 = nI z) (hl : z ≤ 40) (hk : K (some (.long (sumL (F 41) z))) (hH L xs J s F)) : mm_call mm_Ex d k_X3_sum [.ref 40] (hH L xs J s F) K := by
  refine mm_run 20 (lp (n := z) (P := fun k => ∀ x a, x = nI k → a = sumL (F 41) k → mm_Ex d k_X3_sum 4 (0, 0) [.ref 40, .long a, .null, .int x] [] (hH L xs J s F) K) ?_ ?_ 0 0 rfl rfl)
  · intro x a hx ha
    subst hx ha
    refine mm_run 20 (And.intro (fun _ => hk) (fun q => absurd ?_ q))
    show F 40 1 ≤ nI z
    rw [hz]
    exact (nI_leI (by omega) (by omega)).mpr (Nat.le_refl z)
  · intro k hk1 ih x a hx ha
    subst hx ha
    refine mm_run 20 (And.intro (fun q => ?_) (fun _ => ⟨vp_in_nI (by omega) (by decide), ih _ _ (nI_1 k) ?_⟩))
    · have q : F 40 1 ≤ nI k := q
      rw [hz] at q
      exact absurd q (nleI hk1 (by omega))
    · rw [tn_nI (by omega)]
      rfl
theorem x_digestFrom_40 {z : Nat} {g : Int64} (hz : F 40 1 = nI z ∨ F 40 1 = -1 ∧ z = 0) (hl : z ≤ 40) (hk : K (some (.long (dg1 (F 41) (31 * g + (F 40 1).toInt64) z))) (hH L xs J s F)) : mm_call mm_Ex d k_X3_digestFrom [.ref 40, .long g] (hH L xs J s F) K := by
  have hle : F 40 1 ≤ nI z := by
    rcases hz with hz | ⟨hz, h0⟩
    · rw [hz]
      exact (nI_leI (by omega) (by omega)).mpr (Nat.le_refl z)
    · rw [hz, h0]
      decide
  refine mm_run 20 (lp (n := z) (P := fun k => ∀ x a, x = nI k → a = dg1 (F 41) (31 * g + (F 40 1).toInt64) k → mm_Ex d k_X3_digestFrom 10 (0, 0) [.ref 40, .long g, .null, .long a, .null, .int x] [] (hH L xs J s F) K) ?_ ?_ 0 _ rfl rfl)
  · intro x a hx ha
    subst hx ha
    exact mm_run 20 (And.intro (fun _ => hk) (fun q => absurd hle q))
  · intro k hk1 ih x a hx ha
    subst hx ha
    refine mm_run 20 (And.intro (fun q => ?_) (fun _ => ⟨vp_in_nI (by omega) (by decide), ih _ _ (nI_1 k) ?_⟩))
    · have q : F 40 1 ≤ nI k := q
      rcases hz with hz | ⟨hz, h0⟩
      · rw [hz] at q
        exact absurd q (nleI hk1 (by omega))
      · omega
    · rw [tn_nI (by omega)]
      rfl
theorem x_isMissing_42 (hk : K (some (.int (b2i (F 42 1 < 0)))) (hH L xs J s F)) : mm_call mm_Ex d k_X3_isMissing [.ref 42] (hH L xs J s F) K := by
  refine mm_run 20 (And.intro (fun q => mm_run 5 ⟨Or.inl rfl, ?_⟩) (fun q => mm_run 5 ⟨Or.inr rfl, ?_⟩))
  · rw [b2i_f (Int32.not_lt.mpr q)] at hk
    exact hk
  · rw [b2i_t (Int32.not_le.mp q)] at hk
    exact hk
theorem x_has_42 {i : Int32} (hk : K (some (.int (b2i (0 ≤ i ∧ i < F 42 1)))) (hH L xs J s F)) : mm_call mm_Ex (d + 1) k_X3_has [.ref 42, .int i] (hH L xs J s F) K := mm_run 20 (x_within ⟨b2i_01, hk⟩)
theorem x_hasRun_42 {i n : Int32} (hk : K (some (.int (b2i (0 ≤ i ∧ i ≤ F 42 1 ∧ 0 ≤ n ∧ n ≤ F 42 1 - i)))) (hH L xs J s F)) : mm_call mm_Ex d k_X3_hasRun [.ref 42, .int i, .int n] (hH L xs J s F) K := by
  have J17 : ∀ x, x = b2i (0 ≤ i ∧ i ≤ F 42 1 ∧ 0 ≤ n ∧ n ≤ F 42 1 - i) → mm_Ex d k_X3_hasRun 17 (0, 0) [.ref 42, .int i, .int n] [.int x] (hH L xs J s F) K := fun x e => by
    refine mm_run 5 ⟨?_, ?_⟩
    · rw [e]; exact b2i_01
    · rw [e]; exact hk
  have J16 : ¬ (0 ≤ i ∧ i ≤ F 42 1 ∧ 0 ≤ n ∧ n ≤ F 42 1 - i) → mm_Ex d k_X3_hasRun 16 (0, 0) [.ref 42, .int i, .int n] [] (hH L xs J s F) K := fun q => mm_run 5 (J17 0 (b2i_f q).symm)
  exact mm_run 50 (And.intro (fun c => J16 fun q => Int32.not_le.mpr c q.1) (fun c => And.intro (fun c2 => J16 fun q => Int32.not_le.mpr c2 q.2.1) (fun c2 => And.intro (fun c3 => J16 fun q => Int32.not_le.mpr c3 q.2.2.1) (fun c3 => And.intro (fun c4 => J16 fun q => Int32.not_le.mpr c4 q.2.2.2) (fun c4 => J17 1 (b2i_t ⟨Int32.not_lt.mp c, Int32.not_lt.mp c2, Int32.not_lt.mp c3, Int32.not_lt.mp c4⟩).symm)))))
theorem x_value_42 {i : Int32} {z : Nat} (hz : F 42 1 = nI z) (hl : z ≤ 40) (hk : K (some (.int (if 0 ≤ i ∧ i < F 42 1 then F 43 i.toNatClampNeg else 0))) (hH L xs J s F)) : mm_call mm_Ex (d + 2) k_X3_value [.ref 42, .int i] (hH L xs J s F) K := by
  refine mm_run 20 (x_has_42 (And.intro (fun q => mm_run 5 ?_) (fun q => ⟨?_, mm_run 5 ?_⟩)))
  · rw [if_neg (b2i_0.mp q)] at hk
    exact hk
  · have q := b2i_p q
    rw [hz] at q
    obtain ⟨j, hj, rfl⟩ := lt_nI (by omega) q.1 q.2
    exact vp_in_nI (by omega) (by decide)
  · rw [if_pos (b2i_p q)] at hk
    exact hk
theorem x_swap_42 {z j : Nat} {v : Int32} (hz : F 42 1 = nI z) (hl : z ≤ 40) (hj : j < z) (hk : K (some (.int (F 43 j))) (hH L xs J s (up2 F 43 j v))) : mm_call mm_Ex (d + 3) k_X3_swap [.ref 42, .int (nI j), .int v] (hH L xs J s F) K := by
  have hin : 0 ≤ nI j ∧ nI j < F 42 1 := by
    rw [hz]
    exact ⟨nle0 (by omega), (nI_ltI (by omega) (by omega)).mpr hj⟩
  have ej : (nI j).toNatClampNeg = j := tn_nI (by omega)
  refine mm_run 20 (x_value_42 hz hl ?_)
  rw [if_pos hin, ej]
  refine x_has_42 (And.intro (fun q => absurd hin (b2i_0.mp q)) (fun q => ⟨vp_in_nI (by omega) (by decide), ?_⟩))
  refine kx ((hp1 (g := upd (F 43) (nI j).toNatClampNeg v) rfl).trans (hHx (F' := up2 F 43 j v) fun a => by rw [ej]; rfl)) (mm_run 5 hk)
theorem x_renew_42 {m : Nat} {v : Int32} (hm : m ≤ 40) (hk : K none (hH L xs J s (upF (up2 F 42 1 (nI m)) 43 (fil (F 43) 0 m v)))) : mm_call mm_Ex (d + 1) k_X3_renew [.ref 42, .int (nI m), .int v] (hH L xs J s F) K := by
  refine mm_run 20 ?_
  have e : (if nI 40 < nI m then nI 40 else nI m) = nI m := if_neg (fun q => absurd ((nI_ltI (by omega) (by omega)).mp q) (by omega))
  refine kx ((hp1 (g := upd (F 42) 1 (if nI 40 < nI m then nI 40 else nI m)) rfl).trans (hHx (F' := up2 F 42 1 (nI m)) fun a => by rw [e]; rfl)) ?_
  refine lp (n := m) (P := fun k => ∀ x h, x = nI k → h = hH L xs J s (upF (up2 F 42 1 (nI m)) 43 (fil (F 43) 0 k v)) → mm_Ex (d + 1) k_X3_renew 9 (0, 0) [.ref 42, .int (nI m), .int v, .int x] [] h K) ?_ ?_ 0 _ rfl ?_
  · intro x h hx hh
    subst hx hh
    exact mm_run 20 (And.intro (fun _ => hk) (fun q => absurd ((nI_leI (by omega) (by omega)).mpr (Nat.le_refl m)) q))
  · intro k hk1 ih x h hx hh
    subst hx hh
    refine mm_run 20 (And.intro (fun q => absurd q (nleI hk1 (by omega))) (fun _ => ⟨vp_in_nI (by omega) (by decide), ih _ _ (nI_1 k) ?_⟩))
    refine (hp1 (g := upd (fil (F 43) 0 k v) (nI k).toNatClampNeg v) rfl).trans (hHx fun a => ?_)
    have := fil_s (f := F 43) (lo := 0) (n := k) (v := v)
    rw [Nat.zero_add] at this
    rw [upF_same, tn_nI (by omega), this]
  · refine hHx fun a => ?_
    rw [fil_0]
    exact congrFun (upF_id (F := up2 F 42 1 (nI m)) (k := 43)).symm a
theorem x_remove_42 (hk : K none (hH L xs J s (up2 F 42 1 (-1)))) : mm_call mm_Ex d k_X3_remove [.ref 42] (hH L xs J s F) K := mm_run 20 (kh (hp1 (g := upd (F 42) 1 (-1)) rfl) hk)
theorem x_sum_42 {z : Nat} (hz : F 42 1 = nI z) (hl : z ≤ 40) (hk : K (some (.long (sumL (F 43) z))) (hH L xs J s F)) : mm_call mm_Ex d k_X3_sum [.ref 42] (hH L xs J s F) K := by
  refine mm_run 20 (lp (n := z) (P := fun k => ∀ x a, x = nI k → a = sumL (F 43) k → mm_Ex d k_X3_sum 4 (0, 0) [.ref 42, .long a, .null, .int x] [] (hH L xs J s F) K) ?_ ?_ 0 0 rfl rfl)
  · intro x a hx ha
    subst hx ha
    refine mm_run 20 (And.intro (fun _ => hk) (fun q => absurd ?_ q))
    show F 42 1 ≤ nI z
    rw [hz]
    exact (nI_leI (by omega) (by omega)).mpr (Nat.le_refl z)
  · intro k hk1 ih x a hx ha
    subst hx ha
    refine mm_run 20 (And.intro (fun q => ?_) (fun _ => ⟨vp_in_nI (by omega) (by decide), ih _ _ (nI_1 k) ?_⟩))
    · have q : F 42 1 ≤ nI k := q
      rw [hz] at q
      exact absurd q (nleI hk1 (by omega))
    · rw [tn_nI (by omega)]
      rfl
theorem x_digestFrom_42 {z : Nat} {g : Int64} (hz : F 42 1 = nI z ∨ F 42 1 = -1 ∧ z = 0) (hl : z ≤ 40) (hk : K (some (.long (dg1 (F 43) (31 * g + (F 42 1).toInt64) z))) (hH L xs J s F)) : mm_call mm_Ex d k_X3_digestFrom [.ref 42, .long g] (hH L xs J s F) K := by
  have hle : F 42 1 ≤ nI z := by
    rcases hz with hz | ⟨hz, h0⟩
    · rw [hz]
      exact (nI_leI (by omega) (by omega)).mpr (Nat.le_refl z)
    · rw [hz, h0]
      decide
  refine mm_run 20 (lp (n := z) (P := fun k => ∀ x a, x = nI k → a = dg1 (F 43) (31 * g + (F 42 1).toInt64) k → mm_Ex d k_X3_digestFrom 10 (0, 0) [.ref 42, .long g, .null, .long a, .null, .int x] [] (hH L xs J s F) K) ?_ ?_ 0 _ rfl rfl)
  · intro x a hx ha
    subst hx ha
    exact mm_run 20 (And.intro (fun _ => hk) (fun q => absurd hle q))
  · intro k hk1 ih x a hx ha
    subst hx ha
    refine mm_run 20 (And.intro (fun q => ?_) (fun _ => ⟨vp_in_nI (by omega) (by decide), ih _ _ (nI_1 k) ?_⟩))
    · have q : F 42 1 ≤ nI k := q
      rcases hz with hz | ⟨hz, h0⟩
      · rw [hz] at q
        exact absurd q (nleI hk1 (by omega))
      · omega
    · rw [tn_nI (by omega)]
      rfl
theorem x_isMissing_44 (hk : K (some (.int (b2i (F 44 1 < 0)))) (hH L xs J s F)) : mm_call mm_Ex d k_X3_isMissing [.ref 44] (hH L xs J s F) K := by
  refine mm_run 20 (And.intro (fun q => mm_run 5 ⟨Or.inl rfl, ?_⟩) (fun q => mm_run 5 ⟨Or.inr rfl, ?_⟩))
  · rw [b2i_f (Int32.not_lt.mpr q)] at hk
    exact hk
  · rw [b2i_t (Int32.not_le.mp q)] at hk
    exact hk
theorem x_has_44 {i : Int32} (hk : K (some (.int (b2i (0 ≤ i ∧ i < F 44 1)))) (hH L xs J s F)) : mm_call mm_Ex (d + 1) k_X3_has [.ref 44, .int i] (hH L xs J s F) K := mm_run 20 (x_within ⟨b2i_01, hk⟩)
theorem x_hasRun_44 {i n : Int32} (hk : K (some (.int (b2i (0 ≤ i ∧ i ≤ F 44 1 ∧ 0 ≤ n ∧ n ≤ F 44 1 - i)))) (hH L xs J s F)) : mm_call mm_Ex d k_X3_hasRun [.ref 44, .int i, .int n] (hH L xs J s F) K := by
  have J17 : ∀ x, x = b2i (0 ≤ i ∧ i ≤ F 44 1 ∧ 0 ≤ n ∧ n ≤ F 44 1 - i) → mm_Ex d k_X3_hasRun 17 (0, 0) [.ref 44, .int i, .int n] [.int x] (hH L xs J s F) K := fun x e => by
    refine mm_run 5 ⟨?_, ?_⟩
    · rw [e]; exact b2i_01
    · rw [e]; exact hk
  have J16 : ¬ (0 ≤ i ∧ i ≤ F 44 1 ∧ 0 ≤ n ∧ n ≤ F 44 1 - i) → mm_Ex d k_X3_hasRun 16 (0, 0) [.ref 44, .int i, .int n] [] (hH L xs J s F) K := fun q => mm_run 5 (J17 0 (b2i_f q).symm)
  exact mm_run 50 (And.intro (fun c => J16 fun q => Int32.not_le.mpr c q.1) (fun c => And.intro (fun c2 => J16 fun q => Int32.not_le.mpr c2 q.2.1) (fun c2 => And.intro (fun c3 => J16 fun q => Int32.not_le.mpr c3 q.2.2.1) (fun c3 => And.intro (fun c4 => J16 fun q => Int32.not_le.mpr c4 q.2.2.2) (fun c4 => J17 1 (b2i_t ⟨Int32.not_lt.mp c, Int32.not_lt.mp c2, Int32.not_lt.mp c3, Int32.not_lt.mp c4⟩).symm)))))
theorem x_value_44 {i : Int32} {z : Nat} (hz : F 44 1 = nI z) (hl : z ≤ 40) (hk : K (some (.int (if 0 ≤ i ∧ i < F 44 1 then F 45 i.toNatClampNeg else 0))) (hH L xs J s F)) : mm_call mm_Ex (d + 2) k_X3_value [.ref 44, .int i] (hH L xs J s F) K := by
  refine mm_run 20 (x_has_44 (And.intro (fun q => mm_run 5 ?_) (fun q => ⟨?_, mm_run 5 ?_⟩)))
  · rw [if_neg (b2i_0.mp q)] at hk
    exact hk
  · have q := b2i_p q
    rw [hz] at q
    obtain ⟨j, hj, rfl⟩ := lt_nI (by omega) q.1 q.2
    exact vp_in_nI (by omega) (by decide)
  · rw [if_pos (b2i_p q)] at hk
    exact hk
theorem x_swap_44 {z j : Nat} {v : Int32} (hz : F 44 1 = nI z) (hl : z ≤ 40) (hj : j < z) (hk : K (some (.int (F 45 j))) (hH L xs J s (up2 F 45 j v))) : mm_call mm_Ex (d + 3) k_X3_swap [.ref 44, .int (nI j), .int v] (hH L xs J s F) K := by
  have hin : 0 ≤ nI j ∧ nI j < F 44 1 := by
    rw [hz]
    exact ⟨nle0 (by omega), (nI_ltI (by omega) (by omega)).mpr hj⟩
  have ej : (nI j).toNatClampNeg = j := tn_nI (by omega)
  refine mm_run 20 (x_value_44 hz hl ?_)
  rw [if_pos hin, ej]
  refine x_has_44 (And.intro (fun q => absurd hin (b2i_0.mp q)) (fun q => ⟨vp_in_nI (by omega) (by decide), ?_⟩))
  refine kx ((hp1 (g := upd (F 45) (nI j).toNatClampNeg v) rfl).trans (hHx (F' := up2 F 45 j v) fun a => by rw [ej]; rfl)) (mm_run 5 hk)
theorem x_renew_44 {m : Nat} {v : Int32} (hm : m ≤ 40) (hk : K none (hH L xs J s (upF (up2 F 44 1 (nI m)) 45 (fil (F 45) 0 m v)))) : mm_call mm_Ex (d + 1) k_X3_renew [.ref 44, .int (nI m), .int v] (hH L xs J s F) K := by
  refine mm_run 20 ?_
  have e : (if nI 40 < nI m then nI 40 else nI m) = nI m := if_neg (fun q => absurd ((nI_ltI (by omega) (by omega)).mp q) (by omega))
  refine kx ((hp1 (g := upd (F 44) 1 (if nI 40 < nI m then nI 40 else nI m)) rfl).trans (hHx (F' := up2 F 44 1 (nI m)) fun a => by rw [e]; rfl)) ?_
  refine lp (n := m) (P := fun k => ∀ x h, x = nI k → h = hH L xs J s (upF (up2 F 44 1 (nI m)) 45 (fil (F 45) 0 k v)) → mm_Ex (d + 1) k_X3_renew 9 (0, 0) [.ref 44, .int (nI m), .int v, .int x] [] h K) ?_ ?_ 0 _ rfl ?_
  · intro x h hx hh
    subst hx hh
    exact mm_run 20 (And.intro (fun _ => hk) (fun q => absurd ((nI_leI (by omega) (by omega)).mpr (Nat.le_refl m)) q))
  · intro k hk1 ih x h hx hh
    subst hx hh
    refine mm_run 20 (And.intro (fun q => absurd q (nleI hk1 (by omega))) (fun _ => ⟨vp_in_nI (by omega) (by decide), ih _ _ (nI_1 k) ?_⟩))
    refine (hp1 (g := upd (fil (F 45) 0 k v) (nI k).toNatClampNeg v) rfl).trans (hHx fun a => ?_)
    have := fil_s (f := F 45) (lo := 0) (n := k) (v := v)
    rw [Nat.zero_add] at this
    rw [upF_same, tn_nI (by omega), this]
  · refine hHx fun a => ?_
    rw [fil_0]
    exact congrFun (upF_id (F := up2 F 44 1 (nI m)) (k := 45)).symm a
theorem x_remove_44 (hk : K none (hH L xs J s (up2 F 44 1 (-1)))) : mm_call mm_Ex d k_X3_remove [.ref 44] (hH L xs J s F) K := mm_run 20 (kh (hp1 (g := upd (F 44) 1 (-1)) rfl) hk)
theorem x_sum_44 {z : Nat} (hz : F 44 1 = nI z) (hl : z ≤ 40) (hk : K (some (.long (sumL (F 45) z))) (hH L xs J s F)) : mm_call mm_Ex d k_X3_sum [.ref 44] (hH L xs J s F) K := by
  refine mm_run 20 (lp (n := z) (P := fun k => ∀ x a, x = nI k → a = sumL (F 45) k → mm_Ex d k_X3_sum 4 (0, 0) [.ref 44, .long a, .null, .int x] [] (hH L xs J s F) K) ?_ ?_ 0 0 rfl rfl)
  · intro x a hx ha
    subst hx ha
    refine mm_run 20 (And.intro (fun _ => hk) (fun q => absurd ?_ q))
    show F 44 1 ≤ nI z
    rw [hz]
    exact (nI_leI (by omega) (by omega)).mpr (Nat.le_refl z)
  · intro k hk1 ih x a hx ha
    subst hx ha
    refine mm_run 20 (And.intro (fun q => ?_) (fun _ => ⟨vp_in_nI (by omega) (by decide), ih _ _ (nI_1 k) ?_⟩))
    · have q : F 44 1 ≤ nI k := q
      rw [hz] at q
      exact absurd q (nleI hk1 (by omega))
    · rw [tn_nI (by omega)]
      rfl
theorem x_digestFrom_44 {z : Nat} {g : Int64} (hz : F 44 1 = nI z ∨ F 44 1 = -1 ∧ z = 0) (hl : z ≤ 40) (hk : K (some (.long (dg1 (F 45) (31 * g + (F 44 1).toInt64) z))) (hH L xs J s F)) : mm_call mm_Ex d k_X3_digestFrom [.ref 44, .long g] (hH L xs J s F) K := by
  have hle : F 44 1 ≤ nI z := by
    rcases hz with hz | ⟨hz, h0⟩
    · rw [hz]
      exact (nI_leI (by omega) (by omega)).mpr (Nat.le_refl z)
    · rw [hz, h0]
      decide
  refine mm_run 20 (lp (n := z) (P := fun k => ∀ x a, x = nI k → a = dg1 (F 45) (31 * g + (F 44 1).toInt64) k → mm_Ex d k_X3_digestFrom 10 (0, 0) [.ref 44, .long g, .null, .long a, .null, .int x] [] (hH L xs J s F) K) ?_ ?_ 0 _ rfl rfl)
  · intro x a hx ha
    subst hx ha
    exact mm_run 20 (And.intro (fun _ => hk) (fun q => absurd hle q))
  · intro k hk1 ih x a hx ha
    subst hx ha
    refine mm_run 20 (And.intro (fun q => ?_) (fun _ => ⟨vp_in_nI (by omega) (by decide), ih _ _ (nI_1 k) ?_⟩))
    · have q : F 44 1 ≤ nI k := q
      rcases hz with hz | ⟨hz, h0⟩
      · rw [hz] at q
        exact absurd q (nleI hk1 (by omega))
      · omega
    · rw [tn_nI (by omega)]
      rfl
theorem x_isMissing_46 (hk : K (some (.int (b2i (F 46 1 < 0)))) (hH L xs J s F)) : mm_call mm_Ex d k_X3_isMissing [.ref 46] (hH L xs J s F) K := by
  refine mm_run 20 (And.intro (fun q => mm_run 5 ⟨Or.inl rfl, ?_⟩) (fun q => mm_run 5 ⟨Or.inr rfl, ?_⟩))
  · rw [b2i_f (Int32.not_lt.mpr q)] at hk
    exact hk
  · rw [b2i_t (Int32.not_le.mp q)] at hk
    exact hk
theorem x_has_46 {i : Int32} (hk : K (some (.int (b2i (0 ≤ i ∧ i < F 46 1)))) (hH L xs J s F)) : mm_call mm_Ex (d + 1) k_X3_has [.ref 46, .int i] (hH L xs J s F) K := mm_run 20 (x_within ⟨b2i_01, hk⟩)
theorem x_hasRun_46 {i n : Int32} (hk : K (some (.int (b2i (0 ≤ i ∧ i ≤ F 46 1 ∧ 0 ≤ n ∧ n ≤ F 46 1 - i)))) (hH L xs J s F)) : mm_call mm_Ex d k_X3_hasRun [.ref 46, .int i, .int n] (hH L xs J s F) K := by
  have J17 : ∀ x, x = b2i (0 ≤ i ∧ i ≤ F 46 1 ∧ 0 ≤ n ∧ n ≤ F 46 1 - i) → mm_Ex d k_X3_hasRun 17 (0, 0) [.ref 46, .int i, .int n] [.int x] (hH L xs J s F) K := fun x e => by
    refine mm_run 5 ⟨?_, ?_⟩
    · rw [e]; exact b2i_01
    · rw [e]; exact hk
  have J16 : ¬ (0 ≤ i ∧ i ≤ F 46 1 ∧ 0 ≤ n ∧ n ≤ F 46 1 - i) → mm_Ex d k_X3_hasRun 16 (0, 0) [.ref 46, .int i, .int n] [] (hH L xs J s F) K := fun q => mm_run 5 (J17 0 (b2i_f q).symm)
  exact mm_run 50 (And.intro (fun c => J16 fun q => Int32.not_le.mpr c q.1) (fun c => And.intro (fun c2 => J16 fun q => Int32.not_le.mpr c2 q.2.1) (fun c2 => And.intro (fun c3 => J16 fun q => Int32.not_le.mpr c3 q.2.2.1) (fun c3 => And.intro (fun c4 => J16 fun q => Int32.not_le.mpr c4 q.2.2.2) (fun c4 => J17 1 (b2i_t ⟨Int32.not_lt.mp c, Int32.not_lt.mp c2, Int32.not_lt.mp c3, Int32.not_lt.mp c4⟩).symm)))))
theorem x_value_46 {i : Int32} {z : Nat} (hz : F 46 1 = nI z) (hl : z ≤ 80) (hk : K (some (.int (if 0 ≤ i ∧ i < F 46 1 then F 47 i.toNatClampNeg else 0))) (hH L xs J s F)) : mm_call mm_Ex (d + 2) k_X3_value [.ref 46, .int i] (hH L xs J s F) K := by
  refine mm_run 20 (x_has_46 (And.intro (fun q => mm_run 5 ?_) (fun q => ⟨?_, mm_run 5 ?_⟩)))
  · rw [if_neg (b2i_0.mp q)] at hk
    exact hk
  · have q := b2i_p q
    rw [hz] at q
    obtain ⟨j, hj, rfl⟩ := lt_nI (by omega) q.1 q.2
    exact vp_in_nI (by omega) (by decide)
  · rw [if_pos (b2i_p q)] at hk
    exact hk
theorem x_swap_46 {z j : Nat} {v : Int32} (hz : F 46 1 = nI z) (hl : z ≤ 80) (hj : j < z) (hk : K (some (.int (F 47 j))) (hH L xs J s (up2 F 47 j v))) : mm_call mm_Ex (d + 3) k_X3_swap [.ref 46, .int (nI j), .int v] (hH L xs J s F) K := by
  have hin : 0 ≤ nI j ∧ nI j < F 46 1 := by
    rw [hz]
    exact ⟨nle0 (by omega), (nI_ltI (by omega) (by omega)).mpr hj⟩
  have ej : (nI j).toNatClampNeg = j := tn_nI (by omega)
  refine mm_run 20 (x_value_46 hz hl ?_)
  rw [if_pos hin, ej]
  refine x_has_46 (And.intro (fun q => absurd hin (b2i_0.mp q)) (fun q => ⟨vp_in_nI (by omega) (by decide), ?_⟩))
  refine kx ((hp1 (g := upd (F 47) (nI j).toNatClampNeg v) rfl).trans (hHx (F' := up2 F 47 j v) fun a => by rw [ej]; rfl)) (mm_run 5 hk)
theorem x_renew_46 {m : Nat} {v : Int32} (hm : m ≤ 80) (hk : K none (hH L xs J s (upF (up2 F 46 1 (nI m)) 47 (fil (F 47) 0 m v)))) : mm_call mm_Ex (d + 1) k_X3_renew [.ref 46, .int (nI m), .int v] (hH L xs J s F) K := by
  refine mm_run 20 ?_
  have e : (if nI 80 < nI m then nI 80 else nI m) = nI m := if_neg (fun q => absurd ((nI_ltI (by omega) (by omega)).mp q) (by omega))
  refine kx ((hp1 (g := upd (F 46) 1 (if nI 80 < nI m then nI 80 else nI m)) rfl).trans (hHx (F' := up2 F 46 1 (nI m)) fun a => by rw [e]; rfl)) ?_
  refine lp (n := m) (P := fun k => ∀ x h, x = nI k → h = hH L xs J s (upF (up2 F 46 1 (nI m)) 47 (fil (F 47) 0 k v)) → mm_Ex (d + 1) k_X3_renew 9 (0, 0) [.ref 46, .int (nI m), .int v, .int x] [] h K) ?_ ?_ 0 _ rfl ?_
  · intro x h hx hh
    subst hx hh
    exact mm_run 20 (And.intro (fun _ => hk) (fun q => absurd ((nI_leI (by omega) (by omega)).mpr (Nat.le_refl m)) q))
  · intro k hk1 ih x h hx hh
    subst hx hh
    refine mm_run 20 (And.intro (fun q => absurd q (nleI hk1 (by omega))) (fun _ => ⟨vp_in_nI (by omega) (by decide), ih _ _ (nI_1 k) ?_⟩))
    refine (hp1 (g := upd (fil (F 47) 0 k v) (nI k).toNatClampNeg v) rfl).trans (hHx fun a => ?_)
    have := fil_s (f := F 47) (lo := 0) (n := k) (v := v)
    rw [Nat.zero_add] at this
    rw [upF_same, tn_nI (by omega), this]
  · refine hHx fun a => ?_
    rw [fil_0]
    exact congrFun (upF_id (F := up2 F 46 1 (nI m)) (k := 47)).symm a
theorem x_remove_46 (hk : K none (hH L xs J s (up2 F 46 1 (-1)))) : mm_call mm_Ex d k_X3_remove [.ref 46] (hH L xs J s F) K := mm_run 20 (kh (hp1 (g := upd (F 46) 1 (-1)) rfl) hk)
theorem x_sum_46 {z : Nat} (hz : F 46 1 = nI z) (hl : z ≤ 80) (hk : K (some (.long (sumL (F 47) z))) (hH L xs J s F)) : mm_call mm_Ex d k_X3_sum [.ref 46] (hH L xs J s F) K := by
  refine mm_run 20 (lp (n := z) (P := fun k => ∀ x a, x = nI k → a = sumL (F 47) k → mm_Ex d k_X3_sum 4 (0, 0) [.ref 46, .long a, .null, .int x] [] (hH L xs J s F) K) ?_ ?_ 0 0 rfl rfl)
  · intro x a hx ha
    subst hx ha
    refine mm_run 20 (And.intro (fun _ => hk) (fun q => absurd ?_ q))
    show F 46 1 ≤ nI z
    rw [hz]
    exact (nI_leI (by omega) (by omega)).mpr (Nat.le_refl z)
  · intro k hk1 ih x a hx ha
    subst hx ha
    refine mm_run 20 (And.intro (fun q => ?_) (fun _ => ⟨vp_in_nI (by omega) (by decide), ih _ _ (nI_1 k) ?_⟩))
    · have q : F 46 1 ≤ nI k := q
      rw [hz] at q
      exact absurd q (nleI hk1 (by omega))
    · rw [tn_nI (by omega)]
      rfl
theorem x_digestFrom_46 {z : Nat} {g : Int64} (hz : F 46 1 = nI z ∨ F 46 1 = -1 ∧ z = 0) (hl : z ≤ 80) (hk : K (some (.long (dg1 (F 47) (31 * g + (F 46 1).toInt64) z))) (hH L xs J s F)) : mm_call mm_Ex d k_X3_digestFrom [.ref 46, .long g] (hH L xs J s F) K := by
  have hle : F 46 1 ≤ nI z := by
    rcases hz with hz | ⟨hz, h0⟩
    · rw [hz]
      exact (nI_leI (by omega) (by omega)).mpr (Nat.le_refl z)
    · rw [hz, h0]
      decide
  refine mm_run 20 (lp (n := z) (P := fun k => ∀ x a, x = nI k → a = dg1 (F 47) (31 * g + (F 46 1).toInt64) k → mm_Ex d k_X3_digestFrom 10 (0, 0) [.ref 46, .long g, .null, .long a, .null, .int x] [] (hH L xs J s F) K) ?_ ?_ 0 _ rfl rfl)
  · intro x a hx ha
    subst hx ha
    exact mm_run 20 (And.intro (fun _ => hk) (fun q => absurd hle q))
  · intro k hk1 ih x a hx ha
    subst hx ha
    refine mm_run 20 (And.intro (fun q => ?_) (fun _ => ⟨vp_in_nI (by omega) (by decide), ih _ _ (nI_1 k) ?_⟩))
    · have q : F 46 1 ≤ nI k := q
      rcases hz with hz | ⟨hz, h0⟩
      · rw [hz] at q
        exact absurd q (nleI hk1 (by omega))
      · omega
    · rw [tn_nI (by omega)]
      rfl
theorem x_isMissing_48 (hk : K (some (.int (b2i (F 48 1 < 0)))) (hH L xs J s F)) : mm_call mm_Ex d k_X3_isMissing [.ref 48] (hH L xs J s F) K := by
  refine mm_run 20 (And.intro (fun q => mm_run 5 ⟨Or.inl rfl, ?_⟩) (fun q => mm_run 5 ⟨Or.inr rfl, ?_⟩))
  · rw [b2i_f (Int32.not_lt.mpr q)] at hk
    exact hk
  · rw [b2i_t (Int32.not_le.mp q)] at hk
    exact hk
theorem x_has_48 {i : Int32} (hk : K (some (.int (b2i (0 ≤ i ∧ i < F 48 1)))) (hH L xs J s F)) : mm_call mm_Ex (d + 1) k_X3_has [.ref 48, .int i] (hH L xs J s F) K := mm_run 20 (x_within ⟨b2i_01, hk⟩)
theorem x_hasRun_48 {i n : Int32} (hk : K (some (.int (b2i (0 ≤ i ∧ i ≤ F 48 1 ∧ 0 ≤ n ∧ n ≤ F 48 1 - i)))) (hH L xs J s F)) : mm_call mm_Ex d k_X3_hasRun [.ref 48, .int i, .int n] (hH L xs J s F) K := by
  have J17 : ∀ x, x = b2i (0 ≤ i ∧ i ≤ F 48 1 ∧ 0 ≤ n ∧ n ≤ F 48 1 - i) → mm_Ex d k_X3_hasRun 17 (0, 0) [.ref 48, .int i, .int n] [.int x] (hH L xs J s F) K := fun x e => by
    refine mm_run 5 ⟨?_, ?_⟩
    · rw [e]; exact b2i_01
    · rw [e]; exact hk
  have J16 : ¬ (0 ≤ i ∧ i ≤ F 48 1 ∧ 0 ≤ n ∧ n ≤ F 48 1 - i) → mm_Ex d k_X3_hasRun 16 (0, 0) [.ref 48, .int i, .int n] [] (hH L xs J s F) K := fun q => mm_run 5 (J17 0 (b2i_f q).symm)
  exact mm_run 50 (And.intro (fun c => J16 fun q => Int32.not_le.mpr c q.1) (fun c => And.intro (fun c2 => J16 fun q => Int32.not_le.mpr c2 q.2.1) (fun c2 => And.intro (fun c3 => J16 fun q => Int32.not_le.mpr c3 q.2.2.1) (fun c3 => And.intro (fun c4 => J16 fun q => Int32.not_le.mpr c4 q.2.2.2) (fun c4 => J17 1 (b2i_t ⟨Int32.not_lt.mp c, Int32.not_lt.mp c2, Int32.not_lt.mp c3, Int32.not_lt.mp c4⟩).symm)))))
theorem x_value_48 {i : Int32} {z : Nat} (hz : F 48 1 = nI z) (hl : z ≤ 80) (hk : K (some (.int (if 0 ≤ i ∧ i < F 48 1 then F 49 i.toNatClampNeg else 0))) (hH L xs J s F)) : mm_call mm_Ex (d + 2) k_X3_value [.ref 48, .int i] (hH L xs J s F) K := by
  refine mm_run 20 (x_has_48 (And.intro (fun q => mm_run 5 ?_) (fun q => ⟨?_, mm_run 5 ?_⟩)))
  · rw [if_neg (b2i_0.mp q)] at hk
    exact hk
  · have q := b2i_p q
    rw [hz] at q
    obtain ⟨j, hj, rfl⟩ := lt_nI (by omega) q.1 q.2
    exact vp_in_nI (by omega) (by decide)
  · rw [if_pos (b2i_p q)] at hk
    exact hk
theorem x_swap_48 {z j : Nat} {v : Int32} (hz : F 48 1 = nI z) (hl : z ≤ 80) (hj : j < z) (hk : K (some (.int (F 49 j))) (hH L xs J s (up2 F 49 j v))) : mm_call mm_Ex (d + 3) k_X3_swap [.ref 48, .int (nI j), .int v] (hH L xs J s F) K := by
  have hin : 0 ≤ nI j ∧ nI j < F 48 1 := by
    rw [hz]
    exact ⟨nle0 (by omega), (nI_ltI (by omega) (by omega)).mpr hj⟩
  have ej : (nI j).toNatClampNeg = j := tn_nI (by omega)
  refine mm_run 20 (x_value_48 hz hl ?_)
  rw [if_pos hin, ej]
  refine x_has_48 (And.intro (fun q => absurd hin (b2i_0.mp q)) (fun q => ⟨vp_in_nI (by omega) (by decide), ?_⟩))
  refine kx ((hp1 (g := upd (F 49) (nI j).toNatClampNeg v) rfl).trans (hHx (F' := up2 F 49 j v) fun a => by rw [ej]; rfl)) (mm_run 5 hk)
theorem x_renew_48 {m : Nat} {v : Int32} (hm : m ≤ 80) (hk : K none (hH L xs J s (upF (up2 F 48 1 (nI m)) 49 (fil (F 49) 0 m v)))) : mm_call mm_Ex (d + 1) k_X3_renew [.ref 48, .int (nI m), .int v] (hH L xs J s F) K := by
  refine mm_run 20 ?_
  have e : (if nI 80 < nI m then nI 80 else nI m) = nI m := if_neg (fun q => absurd ((nI_ltI (by omega) (by omega)).mp q) (by omega))
  refine kx ((hp1 (g := upd (F 48) 1 (if nI 80 < nI m then nI 80 else nI m)) rfl).trans (hHx (F' := up2 F 48 1 (nI m)) fun a => by rw [e]; rfl)) ?_
  refine lp (n := m) (P := fun k => ∀ x h, x = nI k → h = hH L xs J s (upF (up2 F 48 1 (nI m)) 49 (fil (F 49) 0 k v)) → mm_Ex (d + 1) k_X3_renew 9 (0, 0) [.ref 48, .int (nI m), .int v, .int x] [] h K) ?_ ?_ 0 _ rfl ?_
  · intro x h hx hh
    subst hx hh
    exact mm_run 20 (And.intro (fun _ => hk) (fun q => absurd ((nI_leI (by omega) (by omega)).mpr (Nat.le_refl m)) q))
  · intro k hk1 ih x h hx hh
    subst hx hh
    refine mm_run 20 (And.intro (fun q => absurd q (nleI hk1 (by omega))) (fun _ => ⟨vp_in_nI (by omega) (by decide), ih _ _ (nI_1 k) ?_⟩))
    refine (hp1 (g := upd (fil (F 49) 0 k v) (nI k).toNatClampNeg v) rfl).trans (hHx fun a => ?_)
    have := fil_s (f := F 49) (lo := 0) (n := k) (v := v)
    rw [Nat.zero_add] at this
    rw [upF_same, tn_nI (by omega), this]
  · refine hHx fun a => ?_
    rw [fil_0]
    exact congrFun (upF_id (F := up2 F 48 1 (nI m)) (k := 49)).symm a
theorem x_remove_48 (hk : K none (hH L xs J s (up2 F 48 1 (-1)))) : mm_call mm_Ex d k_X3_remove [.ref 48] (hH L xs J s F) K := mm_run 20 (kh (hp1 (g := upd (F 48) 1 (-1)) rfl) hk)
theorem x_sum_48 {z : Nat} (hz : F 48 1 = nI z) (hl : z ≤ 80) (hk : K (some (.long (sumL (F 49) z))) (hH L xs J s F)) : mm_call mm_Ex d k_X3_sum [.ref 48] (hH L xs J s F) K := by
  refine mm_run 20 (lp (n := z) (P := fun k => ∀ x a, x = nI k → a = sumL (F 49) k → mm_Ex d k_X3_sum 4 (0, 0) [.ref 48, .long a, .null, .int x] [] (hH L xs J s F) K) ?_ ?_ 0 0 rfl rfl)
  · intro x a hx ha
    subst hx ha
    refine mm_run 20 (And.intro (fun _ => hk) (fun q => absurd ?_ q))
    show F 48 1 ≤ nI z
    rw [hz]
    exact (nI_leI (by omega) (by omega)).mpr (Nat.le_refl z)
  · intro k hk1 ih x a hx ha
    subst hx ha
    refine mm_run 20 (And.intro (fun q => ?_) (fun _ => ⟨vp_in_nI (by omega) (by decide), ih _ _ (nI_1 k) ?_⟩))
    · have q : F 48 1 ≤ nI k := q
      rw [hz] at q
      exact absurd q (nleI hk1 (by omega))
    · rw [tn_nI (by omega)]
      rfl
theorem x_digestFrom_48 {z : Nat} {g : Int64} (hz : F 48 1 = nI z ∨ F 48 1 = -1 ∧ z = 0) (hl : z ≤ 80) (hk : K (some (.long (dg1 (F 49) (31 * g + (F 48 1).toInt64) z))) (hH L xs J s F)) : mm_call mm_Ex d k_X3_digestFrom [.ref 48, .long g] (hH L xs J s F) K := by
  have hle : F 48 1 ≤ nI z := by
    rcases hz with hz | ⟨hz, h0⟩
    · rw [hz]
      exact (nI_leI (by omega) (by omega)).mpr (Nat.le_refl z)
    · rw [hz, h0]
      decide
  refine mm_run 20 (lp (n := z) (P := fun k => ∀ x a, x = nI k → a = dg1 (F 49) (31 * g + (F 48 1).toInt64) k → mm_Ex d k_X3_digestFrom 10 (0, 0) [.ref 48, .long g, .null, .long a, .null, .int x] [] (hH L xs J s F) K) ?_ ?_ 0 _ rfl rfl)
  · intro x a hx ha
    subst hx ha
    exact mm_run 20 (And.intro (fun _ => hk) (fun q => absurd hle q))
  · intro k hk1 ih x a hx ha
    subst hx ha
    refine mm_run 20 (And.intro (fun q => ?_) (fun _ => ⟨vp_in_nI (by omega) (by decide), ih _ _ (nI_1 k) ?_⟩))
    · have q : F 48 1 ≤ nI k := q
      rcases hz with hz | ⟨hz, h0⟩
      · rw [hz] at q
        exact absurd q (nleI hk1 (by omega))
      · omega
    · rw [tn_nI (by omega)]
      rfl
theorem x_isMissing_50 (hk : K (some (.int (b2i (F 50 1 < 0)))) (hH L xs J s F)) : mm_call mm_Ex d k_X3_isMissing [.ref 50] (hH L xs J s F) K := by
  refine mm_run 20 (And.intro (fun q => mm_run 5 ⟨Or.inl rfl, ?_⟩) (fun q => mm_run 5 ⟨Or.inr rfl, ?_⟩))
  · rw [b2i_f (Int32.not_lt.mpr q)] at hk
    exact hk
  · rw [b2i_t (Int32.not_le.mp q)] at hk
    exact hk
theorem x_has_50 {i : Int32} (hk : K (some (.int (b2i (0 ≤ i ∧ i < F 50 1)))) (hH L xs J s F)) : mm_call mm_Ex (d + 1) k_X3_has [.ref 50, .int i] (hH L xs J s F) K := mm_run 20 (x_within ⟨b2i_01, hk⟩)
theorem x_hasRun_50 {i n : Int32} (hk : K (some (.int (b2i (0 ≤ i ∧ i ≤ F 50 1 ∧ 0 ≤ n ∧ n ≤ F 50 1 - i)))) (hH L xs J s F)) : mm_call mm_Ex d k_X3_hasRun [.ref 50, .int i, .int n] (hH L xs J s F) K := by
  have J17 : ∀ x, x = b2i (0 ≤ i ∧ i ≤ F 50 1 ∧ 0 ≤ n ∧ n ≤ F 50 1 - i) → mm_Ex d k_X3_hasRun 17 (0, 0) [.ref 50, .int i, .int n] [.int x] (hH L xs J s F) K := fun x e => by
    refine mm_run 5 ⟨?_, ?_⟩
    · rw [e]; exact b2i_01
    · rw [e]; exact hk
  have J16 : ¬ (0 ≤ i ∧ i ≤ F 50 1 ∧ 0 ≤ n ∧ n ≤ F 50 1 - i) → mm_Ex d k_X3_hasRun 16 (0, 0) [.ref 50, .int i, .int n] [] (hH L xs J s F) K := fun q => mm_run 5 (J17 0 (b2i_f q).symm)
  exact mm_run 50 (And.intro (fun c => J16 fun q => Int32.not_le.mpr c q.1) (fun c => And.intro (fun c2 => J16 fun q => Int32.not_le.mpr c2 q.2.1) (fun c2 => And.intro (fun c3 => J16 fun q => Int32.not_le.mpr c3 q.2.2.1) (fun c3 => And.intro (fun c4 => J16 fun q => Int32.not_le.mpr c4 q.2.2.2) (fun c4 => J17 1 (b2i_t ⟨Int32.not_lt.mp c, Int32.not_lt.mp c2, Int32.not_lt.mp c3, Int32.not_lt.mp c4⟩).symm)))))
theorem x_value_50 {i : Int32} {z : Nat} (hz : F 50 1 = nI z) (hl : z ≤ 80) (hk : K (some (.int (if 0 ≤ i ∧ i < F 50 1 then F 51 i.toNatClampNeg else 0))) (hH L xs J s F)) : mm_call mm_Ex (d + 2) k_X3_value [.ref 50, .int i] (hH L xs J s F) K := by
  refine mm_run 20 (x_has_50 (And.intro (fun q => mm_run 5 ?_) (fun q => ⟨?_, mm_run 5 ?_⟩)))
  · rw [if_neg (b2i_0.mp q)] at hk
    exact hk
  · have q := b2i_p q
    rw [hz] at q
    obtain ⟨j, hj, rfl⟩ := lt_nI (by omega) q.1 q.2
    exact vp_in_nI (by omega) (by decide)
  · rw [if_pos (b2i_p q)] at hk
    exact hk
theorem x_swap_50 {z j : Nat} {v : Int32} (hz : F 50 1 = nI z) (hl : z ≤ 80) (hj : j < z) (hk : K (some (.int (F 51 j))) (hH L xs J s (up2 F 51 j v))) : mm_call mm_Ex (d + 3) k_X3_swap [.ref 50, .int (nI j), .int v] (hH L xs J s F) K := by
  have hin : 0 ≤ nI j ∧ nI j < F 50 1 := by
    rw [hz]
    exact ⟨nle0 (by omega), (nI_ltI (by omega) (by omega)).mpr hj⟩
  have ej : (nI j).toNatClampNeg = j := tn_nI (by omega)
  refine mm_run 20 (x_value_50 hz hl ?_)
  rw [if_pos hin, ej]
  refine x_has_50 (And.intro (fun q => absurd hin (b2i_0.mp q)) (fun q => ⟨vp_in_nI (by omega) (by decide), ?_⟩))
  refine kx ((hp1 (g := upd (F 51) (nI j).toNatClampNeg v) rfl).trans (hHx (F' := up2 F 51 j v) fun a => by rw [ej]; rfl)) (mm_run 5 hk)
theorem x_renew_50 {m : Nat} {v : Int32} (hm : m ≤ 80) (hk : K none (hH L xs J s (upF (up2 F 50 1 (nI m)) 51 (fil (F 51) 0 m v)))) : mm_call mm_Ex (d + 1) k_X3_renew [.ref 50, .int (nI m), .int v] (hH L xs J s F) K := by
  refine mm_run 20 ?_
  have e : (if nI 80 < nI m then nI 80 else nI m) = nI m := if_neg (fun q => absurd ((nI_ltI (by omega) (by omega)).mp q) (by omega))
  refine kx ((hp1 (g := upd (F 50) 1 (if nI 80 < nI m then nI 80 else nI m)) rfl).trans (hHx (F' := up2 F 50 1 (nI m)) fun a => by rw [e]; rfl)) ?_
  refine lp (n := m) (P := fun k => ∀ x h, x = nI k → h = hH L xs J s (upF (up2 F 50 1 (nI m)) 51 (fil (F 51) 0 k v)) → mm_Ex (d + 1) k_X3_renew 9 (0, 0) [.ref 50, .int (nI m), .int v, .int x] [] h K) ?_ ?_ 0 _ rfl ?_
  · intro x h hx hh
    subst hx hh
    exact mm_run 20 (And.intro (fun _ => hk) (fun q => absurd ((nI_leI (by omega) (by omega)).mpr (Nat.le_refl m)) q))
  · intro k hk1 ih x h hx hh
    subst hx hh
    refine mm_run 20 (And.intro (fun q => absurd q (nleI hk1 (by omega))) (fun _ => ⟨vp_in_nI (by omega) (by decide), ih _ _ (nI_1 k) ?_⟩))
    refine (hp1 (g := upd (fil (F 51) 0 k v) (nI k).toNatClampNeg v) rfl).trans (hHx fun a => ?_)
    have := fil_s (f := F 51) (lo := 0) (n := k) (v := v)
    rw [Nat.zero_add] at this
    rw [upF_same, tn_nI (by omega), this]
  · refine hHx fun a => ?_
    rw [fil_0]
    exact congrFun (upF_id (F := up2 F 50 1 (nI m)) (k := 51)).symm a
theorem x_remove_50 (hk : K none (hH L xs J s (up2 F 50 1 (-1)))) : mm_call mm_Ex d k_X3_remove [.ref 50] (hH L xs J s F) K := mm_run 20 (kh (hp1 (g := upd (F 50) 1 (-1)) rfl) hk)
theorem x_sum_50 {z : Nat} (hz : F 50 1 = nI z) (hl : z ≤ 80) (hk : K (some (.long (sumL (F 51) z))) (hH L xs J s F)) : mm_call mm_Ex d k_X3_sum [.ref 50] (hH L xs J s F) K := by
  refine mm_run 20 (lp (n := z) (P := fun k => ∀ x a, x = nI k → a = sumL (F 51) k → mm_Ex d k_X3_sum 4 (0, 0) [.ref 50, .long a, .null, .int x] [] (hH L xs J s F) K) ?_ ?_ 0 0 rfl rfl)
  · intro x a hx ha
    subst hx ha
    refine mm_run 20 (And.intro (fun _ => hk) (fun q => absurd ?_ q))
    show F 50 1 ≤ nI z
    rw [hz]
    exact (nI_leI (by omega) (by omega)).mpr (Nat.le_refl z)
  · intro k hk1 ih x a hx ha
    subst hx ha
    refine mm_run 20 (And.intro (fun q => ?_) (fun _ => ⟨vp_in_nI (by omega) (by decide), ih _ _ (nI_1 k) ?_⟩))
    · have q : F 50 1 ≤ nI k := q
      rw [hz] at q
      exact absurd q (nleI hk1 (by omega))
    · rw [tn_nI (by omega)]
      rfl
theorem x_digestFrom_50 {z : Nat} {g : Int64} (hz : F 50 1 = nI z ∨ F 50 1 = -1 ∧ z = 0) (hl : z ≤ 80) (hk : K (some (.long (dg1 (F 51) (31 * g + (F 50 1).toInt64) z))) (hH L xs J s F)) : mm_call mm_Ex d k_X3_digestFrom [.ref 50, .long g] (hH L xs J s F) K := by
  have hle : F 50 1 ≤ nI z := by
    rcases hz with hz | ⟨hz, h0⟩
    · rw [hz]
      exact (nI_leI (by omega) (by omega)).mpr (Nat.le_refl z)
    · rw [hz, h0]
      decide
  refine mm_run 20 (lp (n := z) (P := fun k => ∀ x a, x = nI k → a = dg1 (F 51) (31 * g + (F 50 1).toInt64) k → mm_Ex d k_X3_digestFrom 10 (0, 0) [.ref 50, .long g, .null, .long a, .null, .int x] [] (hH L xs J s F) K) ?_ ?_ 0 _ rfl rfl)
  · intro x a hx ha
    subst hx ha
    exact mm_run 20 (And.intro (fun _ => hk) (fun q => absurd hle q))
  · intro k hk1 ih x a hx ha
    subst hx ha
    refine mm_run 20 (And.intro (fun q => ?_) (fun _ => ⟨vp_in_nI (by omega) (by decide), ih _ _ (nI_1 k) ?_⟩))
    · have q : F 50 1 ≤ nI k := q
      rcases hz with hz | ⟨hz, h0⟩
      · rw [hz] at q
        exact absurd q (nleI hk1 (by omega))
      · omega
    · rw [tn_nI (by omega)]
      rfl
theorem x_isMissing_52 (hk : K (some (.int (b2i (F 52 1 < 0)))) (hH L xs J s F)) : mm_call mm_Ex d k_X3_isMissing [.ref 52] (hH L xs J s F) K := by
  refine mm_run 20 (And.intro (fun q => mm_run 5 ⟨Or.inl rfl, ?_⟩) (fun q => mm_run 5 ⟨Or.inr rfl, ?_⟩))
  · rw [b2i_f (Int32.not_lt.mpr q)] at hk
    exact hk
  · rw [b2i_t (Int32.not_le.mp q)] at hk
    exact hk
theorem x_has_52 {i : Int32} (hk : K (some (.int (b2i (0 ≤ i ∧ i < F 52 1)))) (hH L xs J s F)) : mm_call mm_Ex (d + 1) k_X3_has [.ref 52, .int i] (hH L xs J s F) K := mm_run 20 (x_within ⟨b2i_01, hk⟩)
theorem x_hasRun_52 {i n : Int32} (hk : K (some (.int (b2i (0 ≤ i ∧ i ≤ F 52 1 ∧ 0 ≤ n ∧ n ≤ F 52 1 - i)))) (hH L xs J s F)) : mm_call mm_Ex d k_X3_hasRun [.ref 52, .int i, .int n] (hH L xs J s F) K := by
  have J17 : ∀ x, x = b2i (0 ≤ i ∧ i ≤ F 52 1 ∧ 0 ≤ n ∧ n ≤ F 52 1 - i) → mm_Ex d k_X3_hasRun 17 (0, 0) [.ref 52, .int i, .int n] [.int x] (hH L xs J s F) K := fun x e => by
    refine mm_run 5 ⟨?_, ?_⟩
    · rw [e]; exact b2i_01
    · rw [e]; exact hk
  have J16 : ¬ (0 ≤ i ∧ i ≤ F 52 1 ∧ 0 ≤ n ∧ n ≤ F 52 1 - i) → mm_Ex d k_X3_hasRun 16 (0, 0) [.ref 52, .int i, .int n] [] (hH L xs J s F) K := fun q => mm_run 5 (J17 0 (b2i_f q).symm)
  exact mm_run 50 (And.intro (fun c => J16 fun q => Int32.not_le.mpr c q.1) (fun c => And.intro (fun c2 => J16 fun q => Int32.not_le.mpr c2 q.2.1) (fun c2 => And.intro (fun c3 => J16 fun q => Int32.not_le.mpr c3 q.2.2.1) (fun c3 => And.intro (fun c4 => J16 fun q => Int32.not_le.mpr c4 q.2.2.2) (fun c4 => J17 1 (b2i_t ⟨Int32.not_lt.mp c, Int32.not_lt.mp c2, Int32.not_lt.mp c3, Int32.not_lt.mp c4⟩).symm)))))
theorem x_value_52 {i : Int32} {z : Nat} (hz : F 52 1 = nI z) (hl : z ≤ 80) (hk : K (some (.int (if 0 ≤ i ∧ i < F 52 1 then F 53 i.toNatClampNeg else 0))) (hH L xs J s F)) : mm_call mm_Ex (d + 2) k_X3_value [.ref 52, .int i] (hH L xs J s F) K := by
  refine mm_run 20 (x_has_52 (And.intro (fun q => mm_run 5 ?_) (fun q => ⟨?_, mm_run 5 ?_⟩)))
  · rw [if_neg (b2i_0.mp q)] at hk
    exact hk
  · have q := b2i_p q
    rw [hz] at q
    obtain ⟨j, hj, rfl⟩ := lt_nI (by omega) q.1 q.2
    exact vp_in_nI (by omega) (by decide)
  · rw [if_pos (b2i_p q)] at hk
    exact hk
theorem x_swap_52 {z j : Nat} {v : Int32} (hz : F 52 1 = nI z) (hl : z ≤ 80) (hj : j < z) (hk : K (some (.int (F 53 j))) (hH L xs J s (up2 F 53 j v))) : mm_call mm_Ex (d + 3) k_X3_swap [.ref 52, .int (nI j), .int v] (hH L xs J s F) K := by
  have hin : 0 ≤ nI j ∧ nI j < F 52 1 := by
    rw [hz]
    exact ⟨nle0 (by omega), (nI_ltI (by omega) (by omega)).mpr hj⟩
  have ej : (nI j).toNatClampNeg = j := tn_nI (by omega)
  refine mm_run 20 (x_value_52 hz hl ?_)
  rw [if_pos hin, ej]
  refine x_has_52 (And.intro (fun q => absurd hin (b2i_0.mp q)) (fun q => ⟨vp_in_nI (by omega) (by decide), ?_⟩))
  refine kx ((hp1 (g := upd (F 53) (nI j).toNatClampNeg v) rfl).trans (hHx (F' := up2 F 53 j v) fun a => by rw [ej]; rfl)) (mm_run 5 hk)
theorem x_renew_52 {m : Nat} {v : Int32} (hm : m ≤ 80) (hk : K none (hH L xs J s (upF (up2 F 52 1 (nI m)) 53 (fil (F 53) 0 m v)))) : mm_call mm_Ex (d + 1) k_X3_renew [.ref 52, .int (nI m), .int v] (hH L xs J s F) K := by
  refine mm_run 20 ?_
  have e : (if nI 80 < nI m then nI 80 else nI m) = nI m := if_neg (fun q => absurd ((nI_ltI (by omega) (by omega)).mp q) (by omega))
  refine kx ((hp1 (g := upd (F 52) 1 (if nI 80 < nI m then nI 80 else nI m)) rfl).trans (hHx (F' := up2 F 52 1 (nI m)) fun a => by rw [e]; rfl)) ?_
  refine lp (n := m) (P := fun k => ∀ x h, x = nI k → h = hH L xs J s (upF (up2 F 52 1 (nI m)) 53 (fil (F 53) 0 k v)) → mm_Ex (d + 1) k_X3_renew 9 (0, 0) [.ref 52, .int (nI m), .int v, .int x] [] h K) ?_ ?_ 0 _ rfl ?_
  · intro x h hx hh
    subst hx hh
    exact mm_run 20 (And.intro (fun _ => hk) (fun q => absurd ((nI_leI (by omega) (by omega)).mpr (Nat.le_refl m)) q))
  · intro k hk1 ih x h hx hh
    subst hx hh
    refine mm_run 20 (And.intro (fun q => absurd q (nleI hk1 (by omega))) (fun _ => ⟨vp_in_nI (by omega) (by decide), ih _ _ (nI_1 k) ?_⟩))
    refine (hp1 (g := upd (fil (F 53) 0 k v) (nI k).toNatClampNeg v) rfl).trans (hHx fun a => ?_)
    have := fil_s (f := F 53) (lo := 0) (n := k) (v := v)
    rw [Nat.zero_add] at this
    rw [upF_same, tn_nI (by omega), this]
  · refine hHx fun a => ?_
    rw [fil_0]
    exact congrFun (upF_id (F := up2 F 52 1 (nI m)) (k := 53)).symm a
theorem x_remove_52 (hk : K none (hH L xs J s (up2 F 52 1 (-1)))) : mm_call mm_Ex d k_X3_remove [.ref 52] (hH L xs J s F) K := mm_run 20 (kh (hp1 (g := upd (F 52) 1 (-1)) rfl) hk)
theorem x_sum_52 {z : Nat} (hz : F 52 1 = nI z) (hl : z ≤ 80) (hk : K (some (.long (sumL (F 53) z))) (hH L xs J s F)) : mm_call mm_Ex d k_X3_sum [.ref 52] (hH L xs J s F) K := by
  refine mm_run 20 (lp (n := z) (P := fun k => ∀ x a, x = nI k → a = sumL (F 53) k → mm_Ex d k_X3_sum 4 (0, 0) [.ref 52, .long a, .null, .int x] [] (hH L xs J s F) K) ?_ ?_ 0 0 rfl rfl)
  · intro x a hx ha
    subst hx ha
    refine mm_run 20 (And.intro (fun _ => hk) (fun q => absurd ?_ q))
    show F 52 1 ≤ nI z
    rw [hz]
    exact (nI_leI (by omega) (by omega)).mpr (Nat.le_refl z)
  · intro k hk1 ih x a hx ha
    subst hx ha
    refine mm_run 20 (And.intro (fun q => ?_) (fun _ => ⟨vp_in_nI (by omega) (by decide), ih _ _ (nI_1 k) ?_⟩))
    · have q : F 52 1 ≤ nI k := q
      rw [hz] at q
      exact absurd q (nleI hk1 (by omega))
    · rw [tn_nI (by omega)]
      rfl
theorem x_digestFrom_52 {z : Nat} {g : Int64} (hz : F 52 1 = nI z ∨ F 52 1 = -1 ∧ z = 0) (hl : z ≤ 80) (hk : K (some (.long (dg1 (F 53) (31 * g + (F 52 1).toInt64) z))) (hH L xs J s F)) : mm_call mm_Ex d k_X3_digestFrom [.ref 52, .long g] (hH L xs J s F) K := by
  have hle : F 52 1 ≤ nI z := by
    rcases hz with hz | ⟨hz, h0⟩
    · rw [hz]
      exact (nI_leI (by omega) (by omega)).mpr (Nat.le_refl z)
    · rw [hz, h0]
      decide
  refine mm_run 20 (lp (n := z) (P := fun k => ∀ x a, x = nI k → a = dg1 (F 53) (31 * g + (F 52 1).toInt64) k → mm_Ex d k_X3_digestFrom 10 (0, 0) [.ref 52, .long g, .null, .long a, .null, .int x] [] (hH L xs J s F) K) ?_ ?_ 0 _ rfl rfl)
  · intro x a hx ha
    subst hx ha
    exact mm_run 20 (And.intro (fun _ => hk) (fun q => absurd hle q))
  · intro k hk1 ih x a hx ha
    subst hx ha
    refine mm_run 20 (And.intro (fun q => ?_) (fun _ => ⟨vp_in_nI (by omega) (by decide), ih _ _ (nI_1 k) ?_⟩))
    · have q : F 52 1 ≤ nI k := q
      rcases hz with hz | ⟨hz, h0⟩
      · rw [hz] at q
        exact absurd q (nleI hk1 (by omega))
      · omega
    · rw [tn_nI (by omega)]
      rfl
end XRw
