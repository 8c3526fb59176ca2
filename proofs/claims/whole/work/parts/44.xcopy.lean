/-! the class: copy -/
theorem XT.copy {F : Nat → Nat → Int32} (hx : XRc F F) {r t p q m y z : Nat} (hr : r < 6) (ht : t < 6) (hy : y ≤ 40) (hz : z ≤ 40) (er : F (34 + 2 * r) 1 = nI y) (et : F (34 + 2 * t) 1 = nI z) (h1 : p + m ≤ y) (h2 : q + m ≤ z) : XT F (upF F (35 + 2 * t) (va_cpy (F (35 + 2 * r)) (F (35 + 2 * t)) p q m)) (upF F 77 (va_cpy (F 77) (F 77) (40 * r + p) (40 * t + q) m)) := by
  refine ⟨fun k hk => upF_ne (by omega), hx.rowU ht (fun k h1 h2 h3 => upF_ne h3) (fun k h1 h2 h3 => upF_ne h3) (fun j hj => rfl) (fun x hx => ?_) ?_⟩
  · show va_cpy (F 77) (F 77) (40 * r + p) (40 * t + q) m x = F 77 x
    exact pk_cpy_out (by omega)
  · rcases hx.1 t ht with ⟨a, b⟩ | ⟨w, w1, w2, w3, w4⟩
    · rw [b] at et
      exact absurd et.symm (fun e => by
        have := nle0 (n := z) (by omega)
        rw [e] at this
        exact absurd this (by decide))
    · have ew : w = z := (nI_eq (by omega) (by omega)).mp (w3.symm.trans et)
      subst ew
      refine Or.inr ⟨w, w1, w2, by rw [upF_ne (by omega)]; exact w3, fun k hk => ?_⟩
      show upF F (35 + 2 * t) (va_cpy (F (35 + 2 * r)) (F (35 + 2 * t)) p q m) (35 + 2 * t) k = va_cpy (F 77) (F 77) (40 * r + p) (40 * t + q) m (40 * t + k)
      unfold upF
      rw [if_pos rfl]
      by_cases c : q ≤ k ∧ k < q + m
      · rw [pk_cpy_in c.1 c.2, pk_cpy_in (by omega) (by omega)]
        rcases hx.1 r hr with ⟨a, b⟩ | ⟨v, v1, v2, v3, v4⟩
        · rw [b] at er
          exact absurd er.symm (fun e => by
            have := nle0 (n := y) (by omega)
            rw [e] at this
            exact absurd this (by decide))
        · have ev : v = y := (nI_eq (by omega) (by omega)).mp (v3.symm.trans er)
          subst ev
          rw [v4 _ (by omega)]
          congr 1
          omega
      · rw [pk_cpy_out (by omega), pk_cpy_out (by omega)]
        exact w4 k hk
theorem XRow.sz {F M : Nat → Nat → Int32} {r : Nat} (h : XRow F M r) : (F (34 + 2 * r) 1 < 0 ↔ ¬ 0 ≤ M 76 r) ∧ (¬ F (34 + 2 * r) 1 < 0 → ∃ z, z ≤ 40 ∧ M 76 r = nI z ∧ F (34 + 2 * r) 1 = nI z) := by
  rcases h with ⟨a, b⟩ | ⟨z, z1, z2, z3, z4⟩
  · rw [a, b]
    exact ⟨⟨fun _ => by decide, fun _ => by decide⟩, fun h => absurd (by decide) h⟩
  · rw [z2, z3]
    have := nle0 (n := z) (by omega)
    exact ⟨⟨fun h => absurd h (nI_pos (by omega)), fun h => absurd this h⟩, fun _ => ⟨z, z1, rfl, rfl⟩⟩
section XCp
variable {d L s : Nat} {xs : Nat → Int32} {J : Nat → Int64} {F : Nat → Nat → Int32} {K : mm_K} {h : mm_H}
theorem x_copy_0_0 (hx : XRc F F) {i j n : Int32} (hk : ∀ F1, XT F F1 (S_copy F (nI 0) i (nI 0) j n).2 → K (some (.int (S_copy F (nI 0) i (nI 0) j n).1)) (hH L xs J s F1)) : mm_call mm_Ex (d + 4) k_X5_copy [.ref 2, .int (nI 0), .int i, .int (nI 0), .int j, .int n] (hH L xs J s F) K := by
  unfold S_copy at hk
  have eR : (nI 0).toNatClampNeg = 0 := tn_nI (by decide)
  have eT : (nI 0).toNatClampNeg = 0 := tn_nI (by decide)
  have vR : vp_in (nI 0) 6 := vp_in_nI (by decide) (by decide)
  have vT : vp_in (nI 0) 6 := vp_in_nI (by decide) (by decide)
  rw [if_pos ⟨by decide, by decide⟩] at hk
  simp only [eR, eT] at hk
  have hs := (hx.1 0 (by decide)).sz
  have ht := (hx.1 0 (by decide)).sz
  have hR : F 34 1 < 0 ↔ ¬ 0 ≤ F 76 0 := hs.1
  have hT : F 34 1 < 0 ↔ ¬ 0 ≤ F 76 0 := ht.1
  have J28 : 0 ≤ n → (F 34 1 < 0 ∨ F 34 1 < 0) → mm_Ex (d + 4) k_X5_copy 28 (0, 0) [.ref 2, .int (nI 0), .int i, .int (nI 0), .int j, .int n] [] (hH L xs J s F) K := fun hn q => by
    rw [if_pos hn, if_neg (fun z => q.elim (fun y => hR.mp y z.1) (fun y => hT.mp y z.2))] at hk
    exact mm_run 20 (x_refuse (w := 1) (by decide) (hk _ ((XT.same hx).fi (by decide))))
  refine mm_run 120 (x_within (And.intro (fun q => absurd q (by decide)) (fun _ => x_within (And.intro (fun _ => And.intro (fun c => ⟨vR, 34, rfl, x_isMissing_34 (And.intro (fun m => J28 c (Or.inl (b2i_p m))) (fun m => ⟨vT, 34, rfl, x_isMissing_34 (And.intro (fun m2 => ⟨vR, 34, rfl, x_hasRun_34 ?_⟩) (fun m2 => J28 c (Or.inr (b2i_p m2))))⟩))⟩) (fun c => ?_)) (fun q => absurd q (by decide))))))
  · have m := b2i_0.mp m
    have m2 := b2i_0.mp m2
    obtain ⟨y, y1, y2, y3⟩ := hs.2 m
    have y3 : F 34 1 = nI y := y3
    rw [if_pos c, if_pos ⟨Classical.not_not.mp (fun q => m (hR.mpr q)), Classical.not_not.mp (fun q => m2 (hT.mpr q))⟩, y2] at hk
    have J48 : ¬ ((0 ≤ i ∧ i ≤ nI y ∧ n ≤ nI y - i) ∧ (0 ≤ j ∧ j ≤ nI y ∧ n ≤ nI y - j)) → mm_Ex (d + 4) k_X5_copy 48 (0, 0) [.ref 2, .int (nI 0), .int i, .int (nI 0), .int j, .int n] [] (hH L xs J s F) K := fun q => by
      rw [if_neg q] at hk
      exact mm_run 20 (x_refuse (w := 2) (by decide) (hk _ ((XT.same hx).fi (by decide))))
    refine And.intro (fun g => J48 fun q => b2i_0.mp g (by rw [y3]; exact ⟨q.1.1, q.1.2.1, c, q.1.2.2⟩)) (fun g => ⟨vT, 34, rfl, x_hasRun_34 (And.intro (fun g2 => ⟨vR, 34, rfl, vT, 34, rfl, ?_⟩) (fun g2 => J48 fun q => b2i_0.mp g2 (by rw [y3]; exact ⟨q.2.1, q.2.2.1, c, q.2.2.2⟩)))⟩)
    have g := b2i_p g
    have g2 := b2i_p g2
    rw [y3] at g
    rw [y3] at g2
    obtain ⟨p, m, rfl, rfl, hpm⟩ := part_of rfl y1 c ⟨g.1, g.2.1, g.2.2.2⟩
    obtain ⟨p2, m', rfl, em, hpm2⟩ := part_of rfl y1 c ⟨g2.1, g2.2.1, g2.2.2.2⟩
    have em : m = m' := (nI_eq (by omega) (by omega)).mp em
    subst em
    rw [if_pos ⟨⟨g.1, g.2.1, g.2.2.2⟩, ⟨g2.1, g2.2.1, g2.2.2.2⟩⟩, tn_nI (n := p) (by omega), tn_nI (n := m) (by omega), tn_nI (n := p2) (by omega)] at hk
    refine ⟨Nat.le_refl _, ⟨nI_pos (by omega), nI_pos (by omega), nI_pos (by omega), by rw [tn_nI (by omega), tn_nI (by omega)]; omega, by rw [tn_nI (by omega), tn_nI (by omega)]; omega⟩, ?_⟩
    rw [tn_nI (n := p) (by omega), tn_nI (n := m) (by omega), tn_nI (n := p2) (by omega)]
    exact kh (hp1 (g := va_cpy (F 35) (F 35) p p2 m) rfl) (hk _ (XT.copy hx (r := 0) (t := 0) (by decide) (by decide) y1 y1 y3 y3 hpm hpm2))
  · rw [if_neg c] at hk
    exact x_refuse (w := 5) (by decide) (hk _ ((XT.same hx).fi (by decide)))
theorem x_copy_0_1 (hx : XRc F F) {i j n : Int32} (hk : ∀ F1, XT F F1 (S_copy F (nI 0) i (nI 1) j n).2 → K (some (.int (S_copy F (nI 0) i (nI 1) j n).1)) (hH L xs J s F1)) : mm_call mm_Ex (d + 4) k_X5_copy [.ref 2, .int (nI 0), .int i, .int (nI 1), .int j, .int n] (hH L xs J s F) K := by
  unfold S_copy at hk
  have eR : (nI 0).toNatClampNeg = 0 := tn_nI (by decide)
  have eT : (nI 1).toNatClampNeg = 1 := tn_nI (by decide)
  have vR : vp_in (nI 0) 6 := vp_in_nI (by decide) (by decide)
  have vT : vp_in (nI 1) 6 := vp_in_nI (by decide) (by decide)
  rw [if_pos ⟨by decide, by decide⟩] at hk
  simp only [eR, eT] at hk
  have hs := (hx.1 0 (by decide)).sz
  have ht := (hx.1 1 (by decide)).sz
  have hR : F 34 1 < 0 ↔ ¬ 0 ≤ F 76 0 := hs.1
  have hT : F 36 1 < 0 ↔ ¬ 0 ≤ F 76 1 := ht.1
  have J28 : 0 ≤ n → (F 34 1 < 0 ∨ F 36 1 < 0) → mm_Ex (d + 4) k_X5_copy 28 (0, 0) [.ref 2, .int (nI 0), .int i, .int (nI 1), .int j, .int n] [] (hH L xs J s F) K := fun hn q => by
    rw [if_pos hn, if_neg (fun z => q.elim (fun y => hR.mp y z.1) (fun y => hT.mp y z.2))] at hk
    exact mm_run 20 (x_refuse (w := 1) (by decide) (hk _ ((XT.same hx).fi (by decide))))
  refine mm_run 120 (x_within (And.intro (fun q => absurd q (by decide)) (fun _ => x_within (And.intro (fun _ => And.intro (fun c => ⟨vR, 34, rfl, x_isMissing_34 (And.intro (fun m => J28 c (Or.inl (b2i_p m))) (fun m => ⟨vT, 36, rfl, x_isMissing_36 (And.intro (fun m2 => ⟨vR, 34, rfl, x_hasRun_34 ?_⟩) (fun m2 => J28 c (Or.inr (b2i_p m2))))⟩))⟩) (fun c => ?_)) (fun q => absurd q (by decide))))))
  · have m := b2i_0.mp m
    have m2 := b2i_0.mp m2
    obtain ⟨y, y1, y2, y3⟩ := hs.2 m
    obtain ⟨z, z1, z2, z3⟩ := ht.2 m2
    have y3 : F 34 1 = nI y := y3
    have z3 : F 36 1 = nI z := z3
    rw [if_pos c, if_pos ⟨Classical.not_not.mp (fun q => m (hR.mpr q)), Classical.not_not.mp (fun q => m2 (hT.mpr q))⟩, y2, z2] at hk
    have J48 : ¬ ((0 ≤ i ∧ i ≤ nI y ∧ n ≤ nI y - i) ∧ (0 ≤ j ∧ j ≤ nI z ∧ n ≤ nI z - j)) → mm_Ex (d + 4) k_X5_copy 48 (0, 0) [.ref 2, .int (nI 0), .int i, .int (nI 1), .int j, .int n] [] (hH L xs J s F) K := fun q => by
      rw [if_neg q] at hk
      exact mm_run 20 (x_refuse (w := 2) (by decide) (hk _ ((XT.same hx).fi (by decide))))
    refine And.intro (fun g => J48 fun q => b2i_0.mp g (by rw [y3]; exact ⟨q.1.1, q.1.2.1, c, q.1.2.2⟩)) (fun g => ⟨vT, 36, rfl, x_hasRun_36 (And.intro (fun g2 => ⟨vR, 34, rfl, vT, 36, rfl, ?_⟩) (fun g2 => J48 fun q => b2i_0.mp g2 (by rw [z3]; exact ⟨q.2.1, q.2.2.1, c, q.2.2.2⟩)))⟩)
    have g := b2i_p g
    have g2 := b2i_p g2
    rw [y3] at g
    rw [z3] at g2
    obtain ⟨p, m, rfl, rfl, hpm⟩ := part_of rfl y1 c ⟨g.1, g.2.1, g.2.2.2⟩
    obtain ⟨p2, m', rfl, em, hpm2⟩ := part_of rfl z1 c ⟨g2.1, g2.2.1, g2.2.2.2⟩
    have em : m = m' := (nI_eq (by omega) (by omega)).mp em
    subst em
    rw [if_pos ⟨⟨g.1, g.2.1, g.2.2.2⟩, ⟨g2.1, g2.2.1, g2.2.2.2⟩⟩, tn_nI (n := p) (by omega), tn_nI (n := m) (by omega), tn_nI (n := p2) (by omega)] at hk
    refine ⟨Nat.le_refl _, ⟨nI_pos (by omega), nI_pos (by omega), nI_pos (by omega), by rw [tn_nI (by omega), tn_nI (by omega)]; omega, by rw [tn_nI (by omega), tn_nI (by omega)]; omega⟩, ?_⟩
    rw [tn_nI (n := p) (by omega), tn_nI (n := m) (by omega), tn_nI (n := p2) (by omega)]
    exact kh (hp1 (g := va_cpy (F 35) (F 37) p p2 m) rfl) (hk _ (XT.copy hx (r := 0) (t := 1) (by decide) (by decide) y1 z1 y3 z3 hpm hpm2))
  · rw [if_neg c] at hk
    exact x_refuse (w := 5) (by decide) (hk _ ((XT.same hx).fi (by decide)))
theorem x_copy_0_2 (hx : XRc F F) {i j n : Int32} (hk : ∀ F1, XT F F1 (S_copy F (nI 0) i (nI 2) j n).2 → K (some (.int (S_copy F (nI 0) i (nI 2) j n).1)) (hH L xs J s F1)) : mm_call mm_Ex (d + 4) k_X5_copy [.ref 2, .int (nI 0), .int i, .int (nI 2), .int j, .int n] (hH L xs J s F) K := by
  unfold S_copy at hk
  have eR : (nI 0).toNatClampNeg = 0 := tn_nI (by decide)
  have eT : (nI 2).toNatClampNeg = 2 := tn_nI (by decide)
  have vR : vp_in (nI 0) 6 := vp_in_nI (by decide) (by decide)
  have vT : vp_in (nI 2) 6 := vp_in_nI (by decide) (by decide)
  rw [if_pos ⟨by decide, by decide⟩] at hk
  simp only [eR, eT] at hk
  have hs := (hx.1 0 (by decide)).sz
  have ht := (hx.1 2 (by decide)).sz
  have hR : F 34 1 < 0 ↔ ¬ 0 ≤ F 76 0 := hs.1
  have hT : F 38 1 < 0 ↔ ¬ 0 ≤ F 76 2 := ht.1
  have J28 : 0 ≤ n → (F 34 1 < 0 ∨ F 38 1 < 0) → mm_Ex (d + 4) k_X5_copy 28 (0, 0) [.ref 2, .int (nI 0), .int i, .int (nI 2), .int j, .int n] [] (hH L xs J s F) K := fun hn q => by
    rw [if_pos hn, if_neg (fun z => q.elim (fun y => hR.mp y z.1) (fun y => hT.mp y z.2))] at hk
    exact mm_run 20 (x_refuse (w := 1) (by decide) (hk _ ((XT.same hx).fi (by decide))))
  refine mm_run 120 (x_within (And.intro (fun q => absurd q (by decide)) (fun _ => x_within (And.intro (fun _ => And.intro (fun c => ⟨vR, 34, rfl, x_isMissing_34 (And.intro (fun m => J28 c (Or.inl (b2i_p m))) (fun m => ⟨vT, 38, rfl, x_isMissing_38 (And.intro (fun m2 => ⟨vR, 34, rfl, x_hasRun_34 ?_⟩) (fun m2 => J28 c (Or.inr (b2i_p m2))))⟩))⟩) (fun c => ?_)) (fun q => absurd q (by decide))))))
  · have m := b2i_0.mp m
    have m2 := b2i_0.mp m2
    obtain ⟨y, y1, y2, y3⟩ := hs.2 m
    obtain ⟨z, z1, z2, z3⟩ := ht.2 m2
    have y3 : F 34 1 = nI y := y3
    have z3 : F 38 1 = nI z := z3
    rw [if_pos c, if_pos ⟨Classical.not_not.mp (fun q => m (hR.mpr q)), Classical.not_not.mp (fun q => m2 (hT.mpr q))⟩, y2, z2] at hk
    have J48 : ¬ ((0 ≤ i ∧ i ≤ nI y ∧ n ≤ nI y - i) ∧ (0 ≤ j ∧ j ≤ nI z ∧ n ≤ nI z - j)) → mm_Ex (d + 4) k_X5_copy 48 (0, 0) [.ref 2, .int (nI 0), .int i, .int (nI 2), .int j, .int n] [] (hH L xs J s F) K := fun q => by
      rw [if_neg q] at hk
      exact mm_run 20 (x_refuse (w := 2) (by decide) (hk _ ((XT.same hx).fi (by decide))))
    refine And.intro (fun g => J48 fun q => b2i_0.mp g (by rw [y3]; exact ⟨q.1.1, q.1.2.1, c, q.1.2.2⟩)) (fun g => ⟨vT, 38, rfl, x_hasRun_38 (And.intro (fun g2 => ⟨vR, 34, rfl, vT, 38, rfl, ?_⟩) (fun g2 => J48 fun q => b2i_0.mp g2 (by rw [z3]; exact ⟨q.2.1, q.2.2.1, c, q.2.2.2⟩)))⟩)
    have g := b2i_p g
    have g2 := b2i_p g2
    rw [y3] at g
    rw [z3] at g2
    obtain ⟨p, m, rfl, rfl, hpm⟩ := part_of rfl y1 c ⟨g.1, g.2.1, g.2.2.2⟩
    obtain ⟨p2, m', rfl, em, hpm2⟩ := part_of rfl z1 c ⟨g2.1, g2.2.1, g2.2.2.2⟩
    have em : m = m' := (nI_eq (by omega) (by omega)).mp em
    subst em
    rw [if_pos ⟨⟨g.1, g.2.1, g.2.2.2⟩, ⟨g2.1, g2.2.1, g2.2.2.2⟩⟩, tn_nI (n := p) (by omega), tn_nI (n := m) (by omega), tn_nI (n := p2) (by omega)] at hk
    refine ⟨Nat.le_refl _, ⟨nI_pos (by omega), nI_pos (by omega), nI_pos (by omega), by rw [tn_nI (by omega), tn_nI (by omega)]; omega, by rw [tn_nI (by omega), tn_nI (by omega)]; omega⟩, ?_⟩
    rw [tn_nI (n := p) (by omega), tn_nI (n := m) (by omega), tn_nI (n := p2) (by omega)]
    exact kh (hp1 (g := va_cpy (F 35) (F 39) p p2 m) rfl) (hk _ (XT.copy hx (r := 0) (t := 2) (by decide) (by decide) y1 z1 y3 z3 hpm hpm2))
  · rw [if_neg c] at hk
    exact x_refuse (w := 5) (by decide) (hk _ ((XT.same hx).fi (by decide)))
theorem x_copy_0_3 (hx : XRc F F) {i j n : Int32} (hk : ∀ F1, XT F F1 (S_copy F (nI 0) i (nI 3) j n).2 → K (some (.int (S_copy F (nI 0) i (nI 3) j n).1)) (hH L xs J s F1)) : mm_call mm_Ex (d + 4) k_X5_copy [.ref 2, .int (nI 0), .int i, .int (nI 3), .int j, .int n] (hH L xs J s F) K := by
  unfold S_copy at hk
  have eR : (nI 0).toNatClampNeg = 0 := tn_nI (by decide)
  have eT : (nI 3).toNatClampNeg = 3 := tn_nI (by decide)
  have vR : vp_in (nI 0) 6 := vp_in_nI (by decide) (by decide)
  have vT : vp_in (nI 3) 6 := vp_in_nI (by decide) (by decide)
  rw [if_pos ⟨by decide, by decide⟩] at hk
  simp only [eR, eT] at hk
  have hs := (hx.1 0 (by decide)).sz
  have ht := (hx.1 3 (by decide)).sz
  have hR : F 34 1 < 0 ↔ ¬ 0 ≤ F 76 0 := hs.1
  have hT : F 40 1 < 0 ↔ ¬ 0 ≤ F 76 3 := ht.1
  have J28 : 0 ≤ n → (F 34 1 < 0 ∨ F 40 1 < 0) → mm_Ex (d + 4) k_X5_copy 28 (0, 0) [.ref 2, .int (nI 0), .int i, .int (nI 3), .int j, .int n] [] (hH L xs J s F) K := fun hn q => by
    rw [if_pos hn, if_neg (fun z => q.elim (fun y => hR.mp y z.1) (fun y => hT.mp y z.2))] at hk
    exact mm_run 20 (x_refuse (w := 1) (by decide) (hk _ ((XT.same hx).fi (by decide))))
  refine mm_run 120 (x_within (And.intro (fun q => absurd q (by decide)) (fun _ => x_within (And.intro (fun _ => And.intro (fun c => ⟨vR, 34, rfl, x_isMissing_34 (And.intro (fun m => J28 c (Or.inl (b2i_p m))) (fun m => ⟨vT, 40, rfl, x_isMissing_40 (And.intro (fun m2 => ⟨vR, 34, rfl, x_hasRun_34 ?_⟩) (fun m2 => J28 c (Or.inr (b2i_p m2))))⟩))⟩) (fun c => ?_)) (fun q => absurd q (by decide))))))
  · have m := b2i_0.mp m
    have m2 := b2i_0.mp m2
    obtain ⟨y, y1, y2, y3⟩ := hs.2 m
    obtain ⟨z, z1, z2, z3⟩ := ht.2 m2
    have y3 : F 34 1 = nI y := y3
    have z3 : F 40 1 = nI z := z3
    rw [if_pos c, if_pos ⟨Classical.not_not.mp (fun q => m (hR.mpr q)), Classical.not_not.mp (fun q => m2 (hT.mpr q))⟩, y2, z2] at hk
    have J48 : ¬ ((0 ≤ i ∧ i ≤ nI y ∧ n ≤ nI y - i) ∧ (0 ≤ j ∧ j ≤ nI z ∧ n ≤ nI z - j)) → mm_Ex (d + 4) k_X5_copy 48 (0, 0) [.ref 2, .int (nI 0), .int i, .int (nI 3), .int j, .int n] [] (hH L xs J s F) K := fun q => by
      rw [if_neg q] at hk
      exact mm_run 20 (x_refuse (w := 2) (by decide) (hk _ ((XT.same hx).fi (by decide))))
    refine And.intro (fun g => J48 fun q => b2i_0.mp g (by rw [y3]; exact ⟨q.1.1, q.1.2.1, c, q.1.2.2⟩)) (fun g => ⟨vT, 40, rfl, x_hasRun_40 (And.intro (fun g2 => ⟨vR, 34, rfl, vT, 40, rfl, ?_⟩) (fun g2 => J48 fun q => b2i_0.mp g2 (by rw [z3]; exact ⟨q.2.1, q.2.2.1, c, q.2.2.2⟩)))⟩)
    have g := b2i_p g
    have g2 := b2i_p g2
    rw [y3] at g
    rw [z3] at g2
    obtain ⟨p, m, rfl, rfl, hpm⟩ := part_of rfl y1 c ⟨g.1, g.2.1, g.2.2.2⟩
    obtain ⟨p2, m', rfl, em, hpm2⟩ := part_of rfl z1 c ⟨g2.1, g2.2.1, g2.2.2.2⟩
    have em : m = m' := (nI_eq (by omega) (by omega)).mp em
    subst em
    rw [if_pos ⟨⟨g.1, g.2.1, g.2.2.2⟩, ⟨g2.1, g2.2.1, g2.2.2.2⟩⟩, tn_nI (n := p) (by omega), tn_nI (n := m) (by omega), tn_nI (n := p2) (by omega)] at hk
    refine ⟨Nat.le_refl _, ⟨nI_pos (by omega), nI_pos (by omega), nI_pos (by omega), by rw [tn_nI (by omega), tn_nI (by omega)]; omega, by rw [tn_nI (by omega), tn_nI (by omega)]; omega⟩, ?_⟩
    rw [tn_nI (n := p) (by omega), tn_nI (n := m) (by omega), tn_nI (n := p2) (by omega)]
    exact kh (hp1 (g := va_cpy (F 35) (F 41) p p2 m) rfl) (hk _ (XT.copy hx (r := 0) (t := 3) (by decide) (by decide) y1 z1 y3 z3 hpm hpm2))
  · rw [if_neg c] at hk
    exact x_refuse (w := 5) (by decide) (hk _ ((XT.same hx).fi (by decide)))
theorem x_copy_0_4 (hx : XRc F F) {i j n : Int32} (hk : ∀ F1, XT F F1 (S_copy F (nI 0) i (nI 4) j n).2 → K (some (.int (S_copy F (nI 0) i (nI 4) j n).1)) (hH L xs J s F1)) : mm_call mm_Ex (d + 4) k_X5_copy [.ref 2, .int (nI 0), .int i, .int (nI 4), .int j, .int n] (hH L xs J s F) K := by
  unfold S_copy at hk
  have eR : (nI 0).toNatClampNeg = 0 := tn_nI (by decide)
  have eT : (nI 4).toNatClampNeg = 4 := tn_nI (by decide)
  have vR : vp_in (nI 0) 6 := vp_in_nI (by decide) (by decide)
  have vT : vp_in (nI 4) 6 := vp_in_nI (by decide) (by decide)
  rw [if_pos ⟨by decide, by decide⟩] at hk
  simp only [eR, eT] at hk
  have hs := (hx.1 0 (by decide)).sz
  have ht := (hx.1 4 (by decide)).sz
  have hR : F 34 1 < 0 ↔ ¬ 0 ≤ F 76 0 := hs.1
  have hT : F 42 1 < 0 ↔ ¬ 0 ≤ F 76 4 := ht.1
  have J28 : 0 ≤ n → (F 34 1 < 0 ∨ F 42 1 < 0) → mm_Ex (d + 4) k_X5_copy 28 (0, 0) [.ref 2, .int (nI 0), .int i, .int (nI 4), .int j, .int n] [] (hH L xs J s F) K := fun hn q => by
    rw [if_pos hn, if_neg (fun z => q.elim (fun y => hR.mp y z.1) (fun y => hT.mp y z.2))] at hk
    exact mm_run 20 (x_refuse (w := 1) (by decide) (hk _ ((XT.same hx).fi (by decide))))
  refine mm_run 120 (x_within (And.intro (fun q => absurd q (by decide)) (fun _ => x_within (And.intro (fun _ => And.intro (fun c => ⟨vR, 34, rfl, x_isMissing_34 (And.intro (fun m => J28 c (Or.inl (b2i_p m))) (fun m => ⟨vT, 42, rfl, x_isMissing_42 (And.intro (fun m2 => ⟨vR, 34, rfl, x_hasRun_34 ?_⟩) (fun m2 => J28 c (Or.inr (b2i_p m2))))⟩))⟩) (fun c => ?_)) (fun q => absurd q (by decide))))))
  · have m := b2i_0.mp m
    have m2 := b2i_0.mp m2
    obtain ⟨y, y1, y2, y3⟩ := hs.2 m
    obtain ⟨z, z1, z2, z3⟩ := ht.2 m2
    have y3 : F 34 1 = nI y := y3
    have z3 : F 42 1 = nI z := z3
    rw [if_pos c, if_pos ⟨Classical.not_not.mp (fun q => m (hR.mpr q)), Classical.not_not.mp (fun q => m2 (hT.mpr q))⟩, y2, z2] at hk
    have J48 : ¬ ((0 ≤ i ∧ i ≤ nI y ∧ n ≤ nI y - i) ∧ (0 ≤ j ∧ j ≤ nI z ∧ n ≤ nI z - j)) → mm_Ex (d + 4) k_X5_copy 48 (0, 0) [.ref 2, .int (nI 0), .int i, .int (nI 4), .int j, .int n] [] (hH L xs J s F) K := fun q => by
      rw [if_neg q] at hk
      exact mm_run 20 (x_refuse (w := 2) (by decide) (hk _ ((XT.same hx).fi (by decide))))
    refine And.intro (fun g => J48 fun q => b2i_0.mp g (by rw [y3]; exact ⟨q.1.1, q.1.2.1, c, q.1.2.2⟩)) (fun g => ⟨vT, 42, rfl, x_hasRun_42 (And.intro (fun g2 => ⟨vR, 34, rfl, vT, 42, rfl, ?_⟩) (fun g2 => J48 fun q => b2i_0.mp g2 (by rw [z3]; exact ⟨q.2.1, q.2.2.1, c, q.2.2.2⟩)))⟩)
    have g := b2i_p g
    have g2 := b2i_p g2
    rw [y3] at g
    rw [z3] at g2
    obtain ⟨p, m, rfl, rfl, hpm⟩ := part_of rfl y1 c ⟨g.1, g.2.1, g.2.2.2⟩
    obtain ⟨p2, m', rfl, em, hpm2⟩ := part_of rfl z1 c ⟨g2.1, g2.2.1, g2.2.2.2⟩
    have em : m = m' := (nI_eq (by omega) (by omega)).mp em
    subst em
    rw [if_pos ⟨⟨g.1, g.2.1, g.2.2.2⟩, ⟨g2.1, g2.2.1, g2.2.2.2⟩⟩, tn_nI (n := p) (by omega), tn_nI (n := m) (by omega), tn_nI (n := p2) (by omega)] at hk
    refine ⟨Nat.le_refl _, ⟨nI_pos (by omega), nI_pos (by omega), nI_pos (by omega), by rw [tn_nI (by omega), tn_nI (by omega)]; omega, by rw [tn_nI (by omega), tn_nI (by omega)]; omega⟩, ?_⟩
    rw [tn_nI (n := p) (by omega), tn_nI (n := m) (by omega), tn_nI (n := p2) (by omega)]
    exact kh (hp1 (g := va_cpy (F 35) (F 43) p p2 m) rfl) (hk _ (XT.copy hx (r := 0) (t := 4) (by decide) (by decide) y1 z1 y3 z3 hpm hpm2))
  · rw [if_neg c] at hk
    exact x_refuse (w := 5) (by decide) (hk _ ((XT.same hx).fi (by decide)))
theorem x_copy_0_5 (hx : XRc F F) {i j n : Int32} (hk : ∀ F1, XT F F1 (S_copy F (nI 0) i (nI 5) j n).2 → K (some (.int (S_copy F (nI 0) i (nI 5) j n).1)) (hH L xs J s F1)) : mm_call mm_Ex (d + 4) k_X5_copy [.ref 2, .int (nI 0), .int i, .int (nI 5), .int j, .int n] (hH L xs J s F) K := by
  unfold S_copy at hk
  have eR : (nI 0).toNatClampNeg = 0 := tn_nI (by decide)
  have eT : (nI 5).toNatClampNeg = 5 := tn_nI (by decide)
  have vR : vp_in (nI 0) 6 := vp_in_nI (by decide) (by decide)
  have vT : vp_in (nI 5) 6 := vp_in_nI (by decide) (by decide)
  rw [if_pos ⟨by decide, by decide⟩] at hk
  simp only [eR, eT] at hk
  have hs := (hx.1 0 (by decide)).sz
  have ht := (hx.1 5 (by decide)).sz
  have hR : F 34 1 < 0 ↔ ¬ 0 ≤ F 76 0 := hs.1
  have hT : F 44 1 < 0 ↔ ¬ 0 ≤ F 76 5 := ht.1
  have J28 : 0 ≤ n → (F 34 1 < 0 ∨ F 44 1 < 0) → mm_Ex (d + 4) k_X5_copy 28 (0, 0) [.ref 2, .int (nI 0), .int i, .int (nI 5), .int j, .int n] [] (hH L xs J s F) K := fun hn q => by
    rw [if_pos hn, if_neg (fun z => q.elim (fun y => hR.mp y z.1) (fun y => hT.mp y z.2))] at hk
    exact mm_run 20 (x_refuse (w := 1) (by decide) (hk _ ((XT.same hx).fi (by decide))))
  refine mm_run 120 (x_within (And.intro (fun q => absurd q (by decide)) (fun _ => x_within (And.intro (fun _ => And.intro (fun c => ⟨vR, 34, rfl, x_isMissing_34 (And.intro (fun m => J28 c (Or.inl (b2i_p m))) (fun m => ⟨vT, 44, rfl, x_isMissing_44 (And.intro (fun m2 => ⟨vR, 34, rfl, x_hasRun_34 ?_⟩) (fun m2 => J28 c (Or.inr (b2i_p m2))))⟩))⟩) (fun c => ?_)) (fun q => absurd q (by decide))))))
  · have m := b2i_0.mp m
    have m2 := b2i_0.mp m2
    obtain ⟨y, y1, y2, y3⟩ := hs.2 m
    obtain ⟨z, z1, z2, z3⟩ := ht.2 m2
    have y3 : F 34 1 = nI y := y3
    have z3 : F 44 1 = nI z := z3
    rw [if_pos c, if_pos ⟨Classical.not_not.mp (fun q => m (hR.mpr q)), Classical.not_not.mp (fun q => m2 (hT.mpr q))⟩, y2, z2] at hk
    have J48 : ¬ ((0 ≤ i ∧ i ≤ nI y ∧ n ≤ nI y - i) ∧ (0 ≤ j ∧ j ≤ nI z ∧ n ≤ nI z - j)) → mm_Ex (d + 4) k_X5_copy 48 (0, 0) [.ref 2, .int (nI 0), .int i, .int (nI 5), .int j, .int n] [] (hH L xs J s F) K := fun q => by
      rw [if_neg q] at hk
      exact mm_run 20 (x_refuse (w := 2) (by decide) (hk _ ((XT.same hx).fi (by decide))))
    refine And.intro (fun g => J48 fun q => b2i_0.mp g (by rw [y3]; exact ⟨q.1.1, q.1.2.1, c, q.1.2.2⟩)) (fun g => ⟨vT, 44, rfl, x_hasRun_44 (And.intro (fun g2 => ⟨vR, 34, rfl, vT, 44, rfl, ?_⟩) (fun g2 => J48 fun q => b2i_0.mp g2 (by rw [z3]; exact ⟨q.2.1, q.2.2.1, c, q.2.2.2⟩)))⟩)
    have g := b2i_p g
    have g2 := b2i_p g2
    rw [y3] at g
    rw [z3] at g2
    obtain ⟨p, m, rfl, rfl, hpm⟩ := part_of rfl y1 c ⟨g.1, g.2.1, g.2.2.2⟩
    obtain ⟨p2, m', rfl, em, hpm2⟩ := part_of rfl z1 c ⟨g2.1, g2.2.1, g2.2.2.2⟩
    have em : m = m' := (nI_eq (by omega) (by omega)).mp em
    subst em
    rw [if_pos ⟨⟨g.1, g.2.1, g.2.2.2⟩, ⟨g2.1, g2.2.1, g2.2.2.2⟩⟩, tn_nI (n := p) (by omega), tn_nI (n := m) (by omega), tn_nI (n := p2) (by omega)] at hk
    refine ⟨Nat.le_refl _, ⟨nI_pos (by omega), nI_pos (by omega), nI_pos (by omega), by rw [tn_nI (by omega), tn_nI (by omega)]; omega, by rw [tn_nI (by omega), tn_nI (by omega)]; omega⟩, ?_⟩
    rw [tn_nI (n := p) (by omega), tn_nI (n := m) (by omega), tn_nI (n := p2) (by omega)]
    exact kh (hp1 (g := va_cpy (F 35) (F 45) p p2 m) rfl) (hk _ (XT.copy hx (r := 0) (t := 5) (by decide) (by decide) y1 z1 y3 z3 hpm hpm2))
  · rw [if_neg c] at hk
    exact x_refuse (w := 5) (by decide) (hk _ ((XT.same hx).fi (by decide)))
theorem x_copy_1_0 (hx : XRc F F) {i j n : Int32} (hk : ∀ F1, XT F F1 (S_copy F (nI 1) i (nI 0) j n).2 → K (some (.int (S_copy F (nI 1) i (nI 0) j n).1)) (hH L xs J s F1)) : mm_call mm_Ex (d + 4) k_X5_copy [.ref 2, .int (nI 1), .int i, .int (nI 0), .int j, .int n] (hH L xs J s F) K := by
  unfold S_copy at hk
  have eR : (nI 1).toNatClampNeg = 1 := tn_nI (by decide)
  have eT : (nI 0).toNatClampNeg = 0 := tn_nI (by decide)
  have vR : vp_in (nI 1) 6 := vp_in_nI (by decide) (by decide)
  have vT : vp_in (nI 0) 6 := vp_in_nI (by decide) (by decide)
  rw [if_pos ⟨by decide, by decide⟩] at hk
  simp only [eR, eT] at hk
  have hs := (hx.1 1 (by decide)).sz
  have ht := (hx.1 0 (by decide)).sz
  have hR : F 36 1 < 0 ↔ ¬ 0 ≤ F 76 1 := hs.1
  have hT : F 34 1 < 0 ↔ ¬ 0 ≤ F 76 0 := ht.1
  have J28 : 0 ≤ n → (F 36 1 < 0 ∨ F 34 1 < 0) → mm_Ex (d + 4) k_X5_copy 28 (0, 0) [.ref 2, .int (nI 1), .int i, .int (nI 0), .int j, .int n] [] (hH L xs J s F) K := fun hn q => by
    rw [if_pos hn, if_neg (fun z => q.elim (fun y => hR.mp y z.1) (fun y => hT.mp y z.2))] at hk
    exact mm_run 20 (x_refuse (w := 1) (by decide) (hk _ ((XT.same hx).fi (by decide))))
  refine mm_run 120 (x_within (And.intro (fun q => absurd q (by decide)) (fun _ => x_within (And.intro (fun _ => And.intro (fun c => ⟨vR, 36, rfl, x_isMissing_36 (And.intro (fun m => J28 c (Or.inl (b2i_p m))) (fun m => ⟨vT, 34, rfl, x_isMissing_34 (And.intro (fun m2 => ⟨vR, 36, rfl, x_hasRun_36 ?_⟩) (fun m2 => J28 c (Or.inr (b2i_p m2))))⟩))⟩) (fun c => ?_)) (fun q => absurd q (by decide))))))
  · have m := b2i_0.mp m
    have m2 := b2i_0.mp m2
    obtain ⟨y, y1, y2, y3⟩ := hs.2 m
    obtain ⟨z, z1, z2, z3⟩ := ht.2 m2
    have y3 : F 36 1 = nI y := y3
    have z3 : F 34 1 = nI z := z3
    rw [if_pos c, if_pos ⟨Classical.not_not.mp (fun q => m (hR.mpr q)), Classical.not_not.mp (fun q => m2 (hT.mpr q))⟩, y2, z2] at hk
    have J48 : ¬ ((0 ≤ i ∧ i ≤ nI y ∧ n ≤ nI y - i) ∧ (0 ≤ j ∧ j ≤ nI z ∧ n ≤ nI z - j)) → mm_Ex (d + 4) k_X5_copy 48 (0, 0) [.ref 2, .int (nI 1), .int i, .int (nI 0), .int j, .int n] [] (hH L xs J s F) K := fun q => by
      rw [if_neg q] at hk
      exact mm_run 20 (x_refuse (w := 2) (by decide) (hk _ ((XT.same hx).fi (by decide))))
    refine And.intro (fun g => J48 fun q => b2i_0.mp g (by rw [y3]; exact ⟨q.1.1, q.1.2.1, c, q.1.2.2⟩)) (fun g => ⟨vT, 34, rfl, x_hasRun_34 (And.intro (fun g2 => ⟨vR, 36, rfl, vT, 34, rfl, ?_⟩) (fun g2 => J48 fun q => b2i_0.mp g2 (by rw [z3]; exact ⟨q.2.1, q.2.2.1, c, q.2.2.2⟩)))⟩)
    have g := b2i_p g
    have g2 := b2i_p g2
    rw [y3] at g
    rw [z3] at g2
    obtain ⟨p, m, rfl, rfl, hpm⟩ := part_of rfl y1 c ⟨g.1, g.2.1, g.2.2.2⟩
    obtain ⟨p2, m', rfl, em, hpm2⟩ := part_of rfl z1 c ⟨g2.1, g2.2.1, g2.2.2.2⟩
    have em : m = m' := (nI_eq (by omega) (by omega)).mp em
    subst em
    rw [if_pos ⟨⟨g.1, g.2.1, g.2.2.2⟩, ⟨g2.1, g2.2.1, g2.2.2.2⟩⟩, tn_nI (n := p) (by omega), tn_nI (n := m) (by omega), tn_nI (n := p2) (by omega)] at hk
    refine ⟨Nat.le_refl _, ⟨nI_pos (by omega), nI_pos (by omega), nI_pos (by omega), by rw [tn_nI (by omega), tn_nI (by omega)]; omega, by rw [tn_nI (by omega), tn_nI (by omega)]; omega⟩, ?_⟩
    rw [tn_nI (n := p) (by omega), tn_nI (n := m) (by omega), tn_nI (n := p2) (by omega)]
    exact kh (hp1 (g := va_cpy (F 37) (F 35) p p2 m) rfl) (hk _ (XT.copy hx (r := 1) (t := 0) (by decide) (by decide) y1 z1 y3 z3 hpm hpm2))
  · rw [if_neg c] at hk
    exact x_refuse (w := 5) (by decide) (hk _ ((XT.same hx).fi (by decide)))
theorem x_copy_1_1 (hx : XRc F F) {i j n : Int32} (hk : ∀ F1, XT F F1 (S_copy F (nI 1) i (nI 1) j n).2 → K (some (.int (S_copy F (nI 1) i (nI 1) j n).1)) (hH L xs J s F1)) : mm_call mm_Ex (d + 4) k_X5_copy [.ref 2, .int (nI 1), .int i, .int (nI 1), .int j, .int n] (hH L xs J s F) K := by
  unfold S_copy at hk
  have eR : (nI 1).toNatClampNeg = 1 := tn_nI (by decide)
  have eT : (nI 1).toNatClampNeg = 1 := tn_nI (by decide)
  have vR : vp_in (nI 1) 6 := vp_in_nI (by decide) (by decide)
  have vT : vp_in (nI 1) 6 := vp_in_nI (by decide) (by decide)
  rw [if_pos ⟨by decide, by decide⟩] at hk
  simp only [eR, eT] at hk
  have hs := (hx.1 1 (by decide)).sz
  have ht := (hx.1 1 (by decide)).sz
  have hR : F 36 1 < 0 ↔ ¬ 0 ≤ F 76 1 := hs.1
  have hT : F 36 1 < 0 ↔ ¬ 0 ≤ F 76 1 := ht.1
  have J28 : 0 ≤ n → (F 36 1 < 0 ∨ F 36 1 < 0) → mm_Ex (d + 4) k_X5_copy 28 (0, 0) [.ref 2, .int (nI 1), .int i, .int (nI 1), .int j, .int n] [] (hH L xs J s F) K := fun hn q => by
    rw [if_pos hn, if_neg (fun z => q.elim (fun y => hR.mp y z.1) (fun y => hT.mp y z.2))] at hk
    exact mm_run 20 (x_refuse (w := 1) (by decide) (hk _ ((XT.same hx).fi (by decide))))
  refine mm_run 120 (x_within (And.intro (fun q => absurd q (by decide)) (fun _ => x_within (And.intro (fun _ => And.intro (fun c => ⟨vR, 36, rfl, x_isMissing_36 (And.intro (fun m => J28 c (Or.inl (b2i_p m))) (fun m => ⟨vT, 36, rfl, x_isMissing_36 (And.intro (fun m2 => ⟨vR, 36, rfl, x_hasRun_36 ?_⟩) (fun m2 => J28 c (Or.inr (b2i_p m2))))⟩))⟩) (fun c => ?_)) (fun q => absurd q (by decide))))))
  · have m := b2i_0.mp m
    have m2 := b2i_0.mp m2
    obtain ⟨y, y1, y2, y3⟩ := hs.2 m
    have y3 : F 36 1 = nI y := y3
    rw [if_pos c, if_pos ⟨Classical.not_not.mp (fun q => m (hR.mpr q)), Classical.not_not.mp (fun q => m2 (hT.mpr q))⟩, y2] at hk
    have J48 : ¬ ((0 ≤ i ∧ i ≤ nI y ∧ n ≤ nI y - i) ∧ (0 ≤ j ∧ j ≤ nI y ∧ n ≤ nI y - j)) → mm_Ex (d + 4) k_X5_copy 48 (0, 0) [.ref 2, .int (nI 1), .int i, .int (nI 1), .int j, .int n] [] (hH L xs J s F) K := fun q => by
      rw [if_neg q] at hk
      exact mm_run 20 (x_refuse (w := 2) (by decide) (hk _ ((XT.same hx).fi (by decide))))
    refine And.intro (fun g => J48 fun q => b2i_0.mp g (by rw [y3]; exact ⟨q.1.1, q.1.2.1, c, q.1.2.2⟩)) (fun g => ⟨vT, 36, rfl, x_hasRun_36 (And.intro (fun g2 => ⟨vR, 36, rfl, vT, 36, rfl, ?_⟩) (fun g2 => J48 fun q => b2i_0.mp g2 (by rw [y3]; exact ⟨q.2.1, q.2.2.1, c, q.2.2.2⟩)))⟩)
    have g := b2i_p g
    have g2 := b2i_p g2
    rw [y3] at g
    rw [y3] at g2
    obtain ⟨p, m, rfl, rfl, hpm⟩ := part_of rfl y1 c ⟨g.1, g.2.1, g.2.2.2⟩
    obtain ⟨p2, m', rfl, em, hpm2⟩ := part_of rfl y1 c ⟨g2.1, g2.2.1, g2.2.2.2⟩
    have em : m = m' := (nI_eq (by omega) (by omega)).mp em
    subst em
    rw [if_pos ⟨⟨g.1, g.2.1, g.2.2.2⟩, ⟨g2.1, g2.2.1, g2.2.2.2⟩⟩, tn_nI (n := p) (by omega), tn_nI (n := m) (by omega), tn_nI (n := p2) (by omega)] at hk
    refine ⟨Nat.le_refl _, ⟨nI_pos (by omega), nI_pos (by omega), nI_pos (by omega), by rw [tn_nI (by omega), tn_nI (by omega)]; omega, by rw [tn_nI (by omega), tn_nI (by omega)]; omega⟩, ?_⟩
    rw [tn_nI (n := p) (by omega), tn_nI (n := m) (by omega), tn_nI (n := p2) (by omega)]
    exact kh (hp1 (g := va_cpy (F 37) (F 37) p p2 m) rfl) (hk _ (XT.copy hx (r := 1) (t := 1) (by decide) (by decide) y1 y1 y3 y3 hpm hpm2))
  · rw [if_neg c] at hk
    exact x_refuse (w := 5) (by decide) (hk _ ((XT.same hx).fi (by decide)))
theorem x_copy_1_2 (hx : XRc F F) {i j n : Int32} (hk : ∀ F1, XT F F1 (S_copy F (nI 1) i (nI 2) j n).2 → K (some (.int (S_copy F (nI 1) i (nI 2) j n).1)) (hH L xs J s F1)) : mm_call mm_Ex (d + 4) k_X5_copy [.ref 2, .int (nI 1), .int i, .int (nI 2), .int j, .int n] (hH L xs J s F) K := by
  unfold S_copy at hk
  have eR : (nI 1).toNatClampNeg = 1 := tn_nI (by decide)
  have eT : (nI 2).toNatClampNeg = 2 := tn_nI (by decide)
  have vR : vp_in (nI 1) 6 := vp_in_nI (by decide) (by decide)
  have vT : vp_in (nI 2) 6 := vp_in_nI (by decide) (by decide)
  rw [if_pos ⟨by decide, by decide⟩] at hk
  simp only [eR, eT] at hk
  have hs := (hx.1 1 (by decide)).sz
  have ht := (hx.1 2 (by decide)).sz
  have hR : F 36 1 < 0 ↔ ¬ 0 ≤ F 76 1 := hs.1
  have hT : F 38 1 < 0 ↔ ¬ 0 ≤ F 76 2 := ht.1
  have J28 : 0 ≤ n → (F 36 1 < 0 ∨ F 38 1 < 0) → mm_Ex (d + 4) k_X5_copy 28 (0, 0) [.ref 2, .int (nI 1), .int i, .int (nI 2), .int j, .int n] [] (hH L xs J s F) K := fun hn q => by
    rw [if_pos hn, if_neg (fun z => q.elim (fun y => hR.mp y z.1) (fun y => hT.mp y z.2))] at hk
    exact mm_run 20 (x_refuse (w := 1) (by decide) (hk _ ((XT.same hx).fi (by decide))))
  refine mm_run 120 (x_within (And.intro (fun q => absurd q (by decide)) (fun _ => x_within (And.intro (fun _ => And.intro (fun c => ⟨vR, 36, rfl, x_isMissing_36 (And.intro (fun m => J28 c (Or.inl (b2i_p m))) (fun m => ⟨vT, 38, rfl, x_isMissing_38 (And.intro (fun m2 => ⟨vR, 36, rfl, x_hasRun_36 ?_⟩) (fun m2 => J28 c (Or.inr (b2i_p m2))))⟩))⟩) (fun c => ?_)) (fun q => absurd q (by decide))))))
  · have m := b2i_0.mp m
    have m2 := b2i_0.mp m2
    obtain ⟨y, y1, y2, y3⟩ := hs.2 m
    obtain ⟨z, z1, z2, z3⟩ := ht.2 m2
    have y3 : F 36 1 = nI y := y3
    have z3 : F 38 1 = nI z := z3
    rw [if_pos c, if_pos ⟨Classical.not_not.mp (fun q => m (hR.mpr q)), Classical.not_not.mp (fun q => m2 (hT.mpr q))⟩, y2, z2] at hk
    have J48 : ¬ ((0 ≤ i ∧ i ≤ nI y ∧ n ≤ nI y - i) ∧ (0 ≤ j ∧ j ≤ nI z ∧ n ≤ nI z - j)) → mm_Ex (d + 4) k_X5_copy 48 (0, 0) [.ref 2, .int (nI 1), .int i, .int (nI 2), .int j, .int n] [] (hH L xs J s F) K := fun q => by
      rw [if_neg q] at hk
      exact mm_run 20 (x_refuse (w := 2) (by decide) (hk _ ((XT.same hx).fi (by decide))))
    refine And.intro (fun g => J48 fun q => b2i_0.mp g (by rw [y3]; exact ⟨q.1.1, q.1.2.1, c, q.1.2.2⟩)) (fun g => ⟨vT, 38, rfl, x_hasRun_38 (And.intro (fun g2 => ⟨vR, 36, rfl, vT, 38, rfl, ?_⟩) (fun g2 => J48 fun q => b2i_0.mp g2 (by rw [z3]; exact ⟨q.2.1, q.2.2.1, c, q.2.2.2⟩)))⟩)
    have g := b2i_p g
    have g2 := b2i_p g2
    rw [y3] at g
    rw [z3] at g2
    obtain ⟨p, m, rfl, rfl, hpm⟩ := part_of rfl y1 c ⟨g.1, g.2.1, g.2.2.2⟩
    obtain ⟨p2, m', rfl, em, hpm2⟩ := part_of rfl z1 c ⟨g2.1, g2.2.1, g2.2.2.2⟩
    have em : m = m' := (nI_eq (by omega) (by omega)).mp em
    subst em
    rw [if_pos ⟨⟨g.1, g.2.1, g.2.2.2⟩, ⟨g2.1, g2.2.1, g2.2.2.2⟩⟩, tn_nI (n := p) (by omega), tn_nI (n := m) (by omega), tn_nI (n := p2) (by omega)] at hk
    refine ⟨Nat.le_refl _, ⟨nI_pos (by omega), nI_pos (by omega), nI_pos (by omega), by rw [tn_nI (by omega), tn_nI (by omega)]; omega, by rw [tn_nI (by omega), tn_nI (by omega)]; omega⟩, ?_⟩
    rw [tn_nI (n := p) (by omega), tn_nI (n := m) (by omega), tn_nI (n := p2) (by omega)]
    exact kh (hp1 (g := va_cpy (F 37) (F 39) p p2 m) rfl) (hk _ (XT.copy hx (r := 1) (t := 2) (by decide) (by decide) y1 z1 y3 z3 hpm hpm2))
  · rw [if_neg c] at hk
    exact x_refuse (w := 5) (by decide) (hk _ ((XT.same hx).fi (by decide)))
theorem x_copy_1_3 (hx : XRc F F) {i j n : Int32} (hk : ∀ F1, XT F F1 (S_copy F (nI 1) i (nI 3) j n).2 → K (some (.int (S_copy F (nI 1) i (nI 3) j n).1)) (hH L xs J s F1)) : mm_call mm_Ex (d + 4) k_X5_copy [.ref 2, .int (nI 1), .int i, .int (nI 3), .int j, .int n] (hH L xs J s F) K := by
  unfold S_copy at hk
  have eR : (nI 1).toNatClampNeg = 1 := tn_nI (by decide)
  have eT : (nI 3).toNatClampNeg = 3 := tn_nI (by decide)
  have vR : vp_in (nI 1) 6 := vp_in_nI (by decide) (by decide)
  have vT : vp_in (nI 3) 6 := vp_in_nI (by decide) (by decide)
  rw [if_pos ⟨by decide, by decide⟩] at hk
  simp only [eR, eT] at hk
  have hs := (hx.1 1 (by decide)).sz
  have ht := (hx.1 3 (by decide)).sz
  have hR : F 36 1 < 0 ↔ ¬ 0 ≤ F 76 1 := hs.1
  have hT : F 40 1 < 0 ↔ ¬ 0 ≤ F 76 3 := ht.1
  have J28 : 0 ≤ n → (F 36 1 < 0 ∨ F 40 1 < 0) → mm_Ex (d + 4) k_X5_copy 28 (0, 0) [.ref 2, .int (nI 1), .int i, .int (nI 3), .int j, .int n] [] (hH L xs J s F) K := fun hn q => by
    rw [if_pos hn, if_neg (fun z => q.elim (fun y => hR.mp y z.1) (fun y => hT.mp y z.2))] at hk
    exact mm_run 20 (x_refuse (w := 1) (by decide) (hk _ ((XT.same hx).fi (by decide))))
  refine mm_run 120 (x_within (And.intro (fun q => absurd q (by decide)) (fun _ => x_within (And.intro (fun _ => And.intro (fun c => ⟨vR, 36, rfl, x_isMissing_36 (And.intro (fun m => J28 c (Or.inl (b2i_p m))) (fun m => ⟨vT, 40, rfl, x_isMissing_40 (And.intro (fun m2 => ⟨vR, 36, rfl, x_hasRun_36 ?_⟩) (fun m2 => J28 c (Or.inr (b2i_p m2))))⟩))⟩) (fun c => ?_)) (fun q => absurd q (by decide))))))
  · have m := b2i_0.mp m
    have m2 := b2i_0.mp m2
    obtain ⟨y, y1, y2, y3⟩ := hs.2 m
    obtain ⟨z, z1, z2, z3⟩ := ht.2 m2
    have y3 : F 36 1 = nI y := y3
    have z3 : F 40 1 = nI z := z3
    rw [if_pos c, if_pos ⟨Classical.not_not.mp (fun q => m (hR.mpr q)), Classical.not_not.mp (fun q => m2 (hT.mpr q))⟩, y2, z2] at hk
    have J48 : ¬ ((0 ≤ i ∧ i ≤ nI y ∧ n ≤ nI y - i) ∧ (0 ≤ j ∧ j ≤ nI z ∧ n ≤ nI z - j)) → mm_Ex (d + 4) k_X5_copy 48 (0, 0) [.ref 2, .int (nI 1), .int i, .int (nI 3), .int j, .int n] [] (hH L xs J s F) K := fun q => by
      rw [if_neg q] at hk
      exact mm_run 20 (x_refuse (w := 2) (by decide) (hk _ ((XT.same hx).fi (by decide))))
    refine And.intro (fun g => J48 fun q => b2i_0.mp g (by rw [y3]; exact ⟨q.1.1, q.1.2.1, c, q.1.2.2⟩)) (fun g => ⟨vT, 40, rfl, x_hasRun_40 (And.intro (fun g2 => ⟨vR, 36, rfl, vT, 40, rfl, ?_⟩) (fun g2 => J48 fun q => b2i_0.mp g2 (by rw [z3]; exact ⟨q.2.1, q.2.2.1, c, q.2.2.2⟩)))⟩)
    have g := b2i_p g
    have g2 := b2i_p g2
    rw [y3] at g
    rw [z3] at g2
    obtain ⟨p, m, rfl, rfl, hpm⟩ := part_of rfl y1 c ⟨g.1, g.2.1, g.2.2.2⟩
    obtain ⟨p2, m', rfl, em, hpm2⟩ := part_of rfl z1 c ⟨g2.1, g2.2.1, g2.2.2.2⟩
    have em : m = m' := (nI_eq (by omega) (by omega)).mp em
    subst em
    rw [if_pos ⟨⟨g.1, g.2.1, g.2.2.2⟩, ⟨g2.1, g2.2.1, g2.2.2.2⟩⟩, tn_nI (n := p) (by omega), tn_nI (n := m) (by omega), tn_nI (n := p2) (by omega)] at hk
    refine ⟨Nat.le_refl _, ⟨nI_pos (by omega), nI_pos (by omega), nI_pos (by omega), by rw [tn_nI (by omega), tn_nI (by omega)]; omega, by rw [tn_nI (by omega), tn_nI (by omega)]; omega⟩, ?_⟩
    rw [tn_nI (n := p) (by omega), tn_nI (n := m) (by omega), tn_nI (n := p2) (by omega)]
    exact kh (hp1 (g := va_cpy (F 37) (F 41) p p2 m) rfl) (hk _ (XT.copy hx (r := 1) (t := 3) (by decide) (by decide) y1 z1 y3 z3 hpm hpm2))
  · rw [if_neg c] at hk
    exact x_refuse (w := 5) (by decide) (hk _ ((XT.same hx).fi (by decide)))
theorem x_copy_1_4 (hx : XRc F F) {i j n : Int32} (hk : ∀ F1, XT F F1 (S_copy F (nI 1) i (nI 4) j n).2 → K (some (.int (S_copy F (nI 1) i (nI 4) j n).1)) (hH L xs J s F1)) : mm_call mm_Ex (d + 4) k_X5_copy [.ref 2, .int (nI 1), .int i, .int (nI 4), .int j, .int n] (hH L xs J s F) K := by
  unfold S_copy at hk
  have eR : (nI 1).toNatClampNeg = 1 := tn_nI (by decide)
  have eT : (nI 4).toNatClampNeg = 4 := tn_nI (by decide)
  have vR : vp_in (nI 1) 6 := vp_in_nI (by decide) (by decide)
  have vT : vp_in (nI 4) 6 := vp_in_nI (by decide) (by decide)
  rw [if_pos ⟨by decide, by decide⟩] at hk
  simp only [eR, eT] at hk
  have hs := (hx.1 1 (by decide)).sz
  have ht := (hx.1 4 (by decide)).sz
  have hR : F 36 1 < 0 ↔ ¬ 0 ≤ F 76 1 := hs.1
  have hT : F 42 1 < 0 ↔ ¬ 0 ≤ F 76 4 := ht.1
  have J28 : 0 ≤ n → (F 36 1 < 0 ∨ F 42 1 < 0) → mm_Ex (d + 4) k_X5_copy 28 (0, 0) [.ref 2, .int (nI 1), .int i, .int (nI 4), .int j, .int n] [] (hH L xs J s F) K := fun hn q => by
    rw [if_pos hn, if_neg (fun z => q.elim (fun y => hR.mp y z.1) (fun y => hT.mp y z.2))] at hk
    exact mm_run 20 (x_refuse (w := 1) (by decide) (hk _ ((XT.same hx).fi (by decide))))
  refine mm_run 120 (x_within (And.intro (fun q => absurd q (by decide)) (fun _ => x_within (And.intro (fun _ => And.intro (fun c => ⟨vR, 36, rfl, x_isMissing_36 (And.intro (fun m => J28 c (Or.inl (b2i_p m))) (fun m => ⟨vT, 42, rfl, x_isMissing_42 (And.intro (fun m2 => ⟨vR, 36, rfl, x_hasRun_36 ?_⟩) (fun m2 => J28 c (Or.inr (b2i_p m2))))⟩))⟩) (fun c => ?_)) (fun q => absurd q (by decide))))))
  · have m := b2i_0.mp m
    have m2 := b2i_0.mp m2
    obtain ⟨y, y1, y2, y3⟩ := hs.2 m
    obtain ⟨z, z1, z2, z3⟩ := ht.2 m2
    have y3 : F 36 1 = nI y := y3
    have z3 : F 42 1 = nI z := z3
    rw [if_pos c, if_pos ⟨Classical.not_not.mp (fun q => m (hR.mpr q)), Classical.not_not.mp (fun q => m2 (hT.mpr q))⟩, y2, z2] at hk
    have J48 : ¬ ((0 ≤ i ∧ i ≤ nI y ∧ n ≤ nI y - i) ∧ (0 ≤ j ∧ j ≤ nI z ∧ n ≤ nI z - j)) → mm_Ex (d + 4) k_X5_copy 48 (0, 0) [.ref 2, .int (nI 1), .int i, .int (nI 4), .int j, .int n] [] (hH L xs J s F) K := fun q => by
      rw [if_neg q] at hk
      exact mm_run 20 (x_refuse (w := 2) (by decide) (hk _ ((XT.same hx).fi (by decide))))
    refine And.intro (fun g => J48 fun q => b2i_0.mp g (by rw [y3]; exact ⟨q.1.1, q.1.2.1, c, q.1.2.2⟩)) (fun g => ⟨vT, 42, rfl, x_hasRun_42 (And.intro (fun g2 => ⟨vR, 36, rfl, vT, 42, rfl, ?_⟩) (fun g2 => J48 fun q => b2i_0.mp g2 (by rw [z3]; exact ⟨q.2.1, q.2.2.1, c, q.2.2.2⟩)))⟩)
    have g := b2i_p g
    have g2 := b2i_p g2
    rw [y3] at g
    rw [z3] at g2
    obtain ⟨p, m, rfl, rfl, hpm⟩ := part_of rfl y1 c ⟨g.1, g.2.1, g.2.2.2⟩
    obtain ⟨p2, m', rfl, em, hpm2⟩ := part_of rfl z1 c ⟨g2.1, g2.2.1, g2.2.2.2⟩
    have em : m = m' := (nI_eq (by omega) (by omega)).mp em
    subst em
    rw [if_pos ⟨⟨g.1, g.2.1, g.2.2.2⟩, ⟨g2.1, g2.2.1, g2.2.2.2⟩⟩, tn_nI (n := p) (by omega), tn_nI (n := m) (by omega), tn_nI (n := p2) (by omega)] at hk
    refine ⟨Nat.le_refl _, ⟨nI_pos (by omega), nI_pos (by omega), nI_pos (by omega), by rw [tn_nI (by omega), tn_nI (by omega)]; omega, by rw [tn_nI (by omega), tn_nI (by omega)]; omega⟩, ?_⟩
    rw [tn_nI (n := p) (by omega), tn_nI (n := m) (by omega), tn_nI (n := p2) (by omega)]
    exact kh (hp1 (g := va_cpy (F 37) (F 43) p p2 m) rfl) (hk _ (XT.copy hx (r := 1) (t := 4) (by decide) (by decide) y1 z1 y3 z3 hpm hpm2))
  · rw [if_neg c] at hk
    exact x_refuse (w := 5) (by decide) (hk _ ((XT.same hx).fi (by decide)))
theorem x_copy_1_5 (hx : XRc F F) {i j n : Int32} (hk : ∀ F1, XT F F1 (S_copy F (nI 1) i (nI 5) j n).2 → K (some (.int (S_copy F (nI 1) i (nI 5) j n).1)) (hH L xs J s F1)) : mm_call mm_Ex (d + 4) k_X5_copy [.ref 2, .int (nI 1), .int i, .int (nI 5), .int j, .int n] (hH L xs J s F) K := by
  unfold S_copy at hk
  have eR : (nI 1).toNatClampNeg = 1 := tn_nI (by decide)
  have eT : (nI 5).toNatClampNeg = 5 := tn_nI (by decide)
  have vR : vp_in (nI 1) 6 := vp_in_nI (by decide) (by decide)
  have vT : vp_in (nI 5) 6 := vp_in_nI (by decide) (by decide)
  rw [if_pos ⟨by decide, by decide⟩] at hk
  simp only [eR, eT] at hk
  have hs := (hx.1 1 (by decide)).sz
  have ht := (hx.1 5 (by decide)).sz
  have hR : F 36 1 < 0 ↔ ¬ 0 ≤ F 76 1 := hs.1
  have hT : F 44 1 < 0 ↔ ¬ 0 ≤ F 76 5 := ht.1
  have J28 : 0 ≤ n → (F 36 1 < 0 ∨ F 44 1 < 0) → mm_Ex (d + 4) k_X5_copy 28 (0, 0) [.ref 2, .int (nI 1), .int i, .int (nI 5), .int j, .int n] [] (hH L xs J s F) K := fun hn q => by
    rw [if_pos hn, if_neg (fun z => q.elim (fun y => hR.mp y z.1) (fun y => hT.mp y z.2))] at hk
    exact mm_run 20 (x_refuse (w := 1) (by decide) (hk _ ((XT.same hx).fi (by decide))))
  refine mm_run 120 (x_within (And.intro (fun q => absurd q (by decide)) (fun _ => x_within (And.intro (fun _ => And.intro (fun c => ⟨vR, 36, rfl, x_isMissing_36 (And.intro (fun m => J28 c (Or.inl (b2i_p m))) (fun m => ⟨vT, 44, rfl, x_isMissing_44 (And.intro (fun m2 => ⟨vR, 36, rfl, x_hasRun_36 ?_⟩) (fun m2 => J28 c (Or.inr (b2i_p m2))))⟩))⟩) (fun c => ?_)) (fun q => absurd q (by decide))))))
  · have m := b2i_0.mp m
    have m2 := b2i_0.mp m2
    obtain ⟨y, y1, y2, y3⟩ := hs.2 m
    obtain ⟨z, z1, z2, z3⟩ := ht.2 m2
    have y3 : F 36 1 = nI y := y3
    have z3 : F 44 1 = nI z := z3
    rw [if_pos c, if_pos ⟨Classical.not_not.mp (fun q => m (hR.mpr q)), Classical.not_not.mp (fun q => m2 (hT.mpr q))⟩, y2, z2] at hk
    have J48 : ¬ ((0 ≤ i ∧ i ≤ nI y ∧ n ≤ nI y - i) ∧ (0 ≤ j ∧ j ≤ nI z ∧ n ≤ nI z - j)) → mm_Ex (d + 4) k_X5_copy 48 (0, 0) [.ref 2, .int (nI 1), .int i, .int (nI 5), .int j, .int n] [] (hH L xs J s F) K := fun q => by
      rw [if_neg q] at hk
      exact mm_run 20 (x_refuse (w := 2) (by decide) (hk _ ((XT.same hx).fi (by decide))))
    refine And.intro (fun g => J48 fun q => b2i_0.mp g (by rw [y3]; exact ⟨q.1.1, q.1.2.1, c, q.1.2.2⟩)) (fun g => ⟨vT, 44, rfl, x_hasRun_44 (And.intro (fun g2 => ⟨vR, 36, rfl, vT, 44, rfl, ?_⟩) (fun g2 => J48 fun q => b2i_0.mp g2 (by rw [z3]; exact ⟨q.2.1, q.2.2.1, c, q.2.2.2⟩)))⟩)
    have g := b2i_p g
    have g2 := b2i_p g2
    rw [y3] at g
    rw [z3] at g2
    obtain ⟨p, m, rfl, rfl, hpm⟩ := part_of rfl y1 c ⟨g.1, g.2.1, g.2.2.2⟩
    obtain ⟨p2, m', rfl, em, hpm2⟩ := part_of rfl z1 c ⟨g2.1, g2.2.1, g2.2.2.2⟩
    have em : m = m' := (nI_eq (by omega) (by omega)).mp em
    subst em
    rw [if_pos ⟨⟨g.1, g.2.1, g.2.2.2⟩, ⟨g2.1, g2.2.1, g2.2.2.2⟩⟩, tn_nI (n := p) (by omega), tn_nI (n := m) (by omega), tn_nI (n := p2) (by omega)] at hk
    refine ⟨Nat.le_refl _, ⟨nI_pos (by omega), nI_pos (by omega), nI_pos (by omega), by rw [tn_nI (by omega), tn_nI (by omega)]; omega, by rw [tn_nI (by omega), tn_nI (by omega)]; omega⟩, ?_⟩
    rw [tn_nI (n := p) (by omega), tn_nI (n := m) (by omega), tn_nI (n := p2) (by omega)]
    exact kh (hp1 (g := va_cpy (F 37) (F 45) p p2 m) rfl) (hk _ (XT.copy hx (r := 1) (t := 5) (by decide) (by decide) y1 z1 y3 z3 hpm hpm2))
  · rw [if_neg c] at hk
    exact x_refuse (w := 5) (by decide) (hk _ ((XT.same hx).fi (by decide)))
theorem x_copy_2_0 (hx : XRc F F) {i j n : Int32} (hk : ∀ F1, XT F F1 (S_copy F (nI 2) i (nI 0) j n).2 → K (some (.int (S_copy F (nI 2) i (nI 0) j n).1)) (hH L xs J s F1)) : mm_call mm_Ex (d + 4) k_X5_copy [.ref 2, .int (nI 2), .int i, .int (nI 0), .int j, .int n] (hH L xs J s F) K := by
  unfold S_copy at hk
  have eR : (nI 2).toNatClampNeg = 2 := tn_nI (by decide)
  have eT : (nI 0).toNatClampNeg = 0 := tn_nI (by decide)
  have vR : vp_in (nI 2) 6 := vp_in_nI (by decide) (by decide)
  have vT : vp_in (nI 0) 6 := vp_in_nI (by decide) (by decide)
  rw [if_pos ⟨by decide, by decide⟩] at hk
  simp only [eR, eT] at hk
  have hs := (hx.1 2 (by decide)).sz
  have ht := (hx.1 0 (by decide)).sz
  have hR : F 38 1 < 0 ↔ ¬ 0 ≤ F 76 2 := hs.1
  have hT : F 34 1 < 0 ↔ ¬ 0 ≤ F 76 0 := ht.1
  have J28 : 0 ≤ n → (F 38 1 < 0 ∨ F 34 1 < 0) → mm_Ex (d + 4) k_X5_copy 28 (0, 0) [.ref 2, .int (nI 2), .int i, .int (nI 0), .int j, .int n] [] (hH L xs J s F) K := fun hn q => by
    rw [if_pos hn, if_neg (fun z => q.elim (fun y => hR.mp y z.1) (fun y => hT.mp y z.2))] at hk
    exact mm_run 20 (x_refuse (w := 1) (by decide) (hk _ ((XT.same hx).fi (by decide))))
  refine mm_run 120 (x_within (And.intro (fun q => absurd q (by decide)) (fun _ => x_within (And.intro (fun _ => And.intro (fun c => ⟨vR, 38, rfl, x_isMissing_38 (And.intro (fun m => J28 c (Or.inl (b2i_p m))) (fun m => ⟨vT, 34, rfl, x_isMissing_34 (And.intro (fun m2 => ⟨vR, 38, rfl, x_hasRun_38 ?_⟩) (fun m2 => J28 c (Or.inr (b2i_p m2))))⟩))⟩) (fun c => ?_)) (fun q => absurd q (by decide))))))
  · have m := b2i_0.mp m
    have m2 := b2i_0.mp m2
    obtain ⟨y, y1, y2, y3⟩ := hs.2 m
    obtain ⟨z, z1, z2, z3⟩ := ht.2 m2
    have y3 : F 38 1 = nI y := y3
    have z3 : F 34 1 = nI z := z3
    rw [if_pos c, if_pos ⟨Classical.not_not.mp (fun q => m (hR.mpr q)), Classical.not_not.mp (fun q => m2 (hT.mpr q))⟩, y2, z2] at hk
    have J48 : ¬ ((0 ≤ i ∧ i ≤ nI y ∧ n ≤ nI y - i) ∧ (0 ≤ j ∧ j ≤ nI z ∧ n ≤ nI z - j)) → mm_Ex (d + 4) k_X5_copy 48 (0, 0) [.ref 2, .int (nI 2), .int i, .int (nI 0), .int j, .int n] [] (hH L xs J s F) K := fun q => by
      rw [if_neg q] at hk
      exact mm_run 20 (x_refuse (w := 2) (by decide) (hk _ ((XT.same hx).fi (by decide))))
    refine And.intro (fun g => J48 fun q => b2i_0.mp g (by rw [y3]; exact ⟨q.1.1, q.1.2.1, c, q.1.2.2⟩)) (fun g => ⟨vT, 34, rfl, x_hasRun_34 (And.intro (fun g2 => ⟨vR, 38, rfl, vT, 34, rfl, ?_⟩) (fun g2 => J48 fun q => b2i_0.mp g2 (by rw [z3]; exact ⟨q.2.1, q.2.2.1, c, q.2.2.2⟩)))⟩)
    have g := b2i_p g
    have g2 := b2i_p g2
    rw [y3] at g
    rw [z3] at g2
    obtain ⟨p, m, rfl, rfl, hpm⟩ := part_of rfl y1 c ⟨g.1, g.2.1, g.2.2.2⟩
    obtain ⟨p2, m', rfl, em, hpm2⟩ := part_of rfl z1 c ⟨g2.1, g2.2.1, g2.2.2.2⟩
    have em : m = m' := (nI_eq (by omega) (by omega)).mp em
    subst em
    rw [if_pos ⟨⟨g.1, g.2.1, g.2.2.2⟩, ⟨g2.1, g2.2.1, g2.2.2.2⟩⟩, tn_nI (n := p) (by omega), tn_nI (n := m) (by omega), tn_nI (n := p2) (by omega)] at hk
    refine ⟨Nat.le_refl _, ⟨nI_pos (by omega), nI_pos (by omega), nI_pos (by omega), by rw [tn_nI (by omega), tn_nI (by omega)]; omega, by rw [tn_nI (by omega), tn_nI (by omega)]; omega⟩, ?_⟩
    rw [tn_nI (n := p) (by omega), tn_nI (n := m) (by omega), tn_nI (n := p2) (by omega)]
    exact kh (hp1 (g := va_cpy (F 39) (F 35) p p2 m) rfl) (hk _ (XT.copy hx (r := 2) (t := 0) (by decide) (by decide) y1 z1 y3 z3 hpm hpm2))
  · rw [if_neg c] at hk
    exact x_refuse (w := 5) (by decide) (hk _ ((XT.same hx).fi (by decide)))
theorem x_copy_2_1 (hx : XRc F F) {i j n : Int32} (hk : ∀ F1, XT F F1 (S_copy F (nI 2) i (nI 1) j n).2 → K (some (.int (S_copy F (nI 2) i (nI 1) j n).1)) (hH L xs J s F1)) : mm_call mm_Ex (d + 4) k_X5_copy [.ref 2, .int (nI 2), .int i, .int (nI 1), .int j, .int n] (hH L xs J s F) K := by
  unfold S_copy at hk
  have eR : (nI 2).toNatClampNeg = 2 := tn_nI (by decide)
  have eT : (nI 1).toNatClampNeg = 1 := tn_nI (by decide)
  have vR : vp_in (nI 2) 6 := vp_in_nI (by decide) (by decide)
  have vT : vp_in (nI 1) 6 := vp_in_nI (by decide) (by decide)
  rw [if_pos ⟨by decide, by decide⟩] at hk
  simp only [eR, eT] at hk
  have hs := (hx.1 2 (by decide)).sz
  have ht := (hx.1 1 (by decide)).sz
  have hR : F 38 1 < 0 ↔ ¬ 0 ≤ F 76 2 := hs.1
  have hT : F 36 1 < 0 ↔ ¬ 0 ≤ F 76 1 := ht.1
  have J28 : 0 ≤ n → (F 38 1 < 0 ∨ F 36 1 < 0) → mm_Ex (d + 4) k_X5_copy 28 (0, 0) [.ref 2, .int (nI 2), .int i, .int (nI 1), .int j, .int n] [] (hH L xs J s F) K := fun hn q => by
    rw [if_pos hn, if_neg (fun z => q.elim (fun y => hR.mp y z.1) (fun y => hT.mp y z.2))] at hk
    exact mm_run 20 (x_refuse (w := 1) (by decide) (hk _ ((XT.same hx).fi (by decide))))
  refine mm_run 120 (x_within (And.intro (fun q => absurd q (by decide)) (fun _ => x_within (And.intro (fun _ => And.intro (fun c => ⟨vR, 38, rfl, x_isMissing_38 (And.intro (fun m => J28 c (Or.inl (b2i_p m))) (fun m => ⟨vT, 36, rfl, x_isMissing_36 (And.intro (fun m2 => ⟨vR, 38, rfl, x_hasRun_38 ?_⟩) (fun m2 => J28 c (Or.inr (b2i_p m2))))⟩))⟩) (fun c => ?_)) (fun q => absurd q (by decide))))))
  · have m := b2i_0.mp m
    have m2 := b2i_0.mp m2
    obtain ⟨y, y1, y2, y3⟩ := hs.2 m
    obtain ⟨z, z1, z2, z3⟩ := ht.2 m2
    have y3 : F 38 1 = nI y := y3
    have z3 : F 36 1 = nI z := z3
    rw [if_pos c, if_pos ⟨Classical.not_not.mp (fun q => m (hR.mpr q)), Classical.not_not.mp (fun q => m2 (hT.mpr q))⟩, y2, z2] at hk
    have J48 : ¬ ((0 ≤ i ∧ i ≤ nI y ∧ n ≤ nI y - i) ∧ (0 ≤ j ∧ j ≤ nI z ∧ n ≤ nI z - j)) → mm_Ex (d + 4) k_X5_copy 48 (0, 0) [.ref 2, .int (nI 2), .int i, .int (nI 1), .int j, .int n] [] (hH L xs J s F) K := fun q => by
      rw [if_neg q] at hk
      exact mm_run 20 (x_refuse (w := 2) (by decide) (hk _ ((XT.same hx).fi (by decide))))
    refine And.intro (fun g => J48 fun q => b2i_0.mp g (by rw [y3]; exact ⟨q.1.1, q.1.2.1, c, q.1.2.2⟩)) (fun g => ⟨vT, 36, rfl, x_hasRun_36 (And.intro (fun g2 => ⟨vR, 38, rfl, vT, 36, rfl, ?_⟩) (fun g2 => J48 fun q => b2i_0.mp g2 (by rw [z3]; exact ⟨q.2.1, q.2.2.1, c, q.2.2.2⟩)))⟩)
    have g := b2i_p g
    have g2 := b2i_p g2
    rw [y3] at g
    rw [z3] at g2
    obtain ⟨p, m, rfl, rfl, hpm⟩ := part_of rfl y1 c ⟨g.1, g.2.1, g.2.2.2⟩
    obtain ⟨p2, m', rfl, em, hpm2⟩ := part_of rfl z1 c ⟨g2.1, g2.2.1, g2.2.2.2⟩
    have em : m = m' := (nI_eq (by omega) (by omega)).mp em
    subst em
    rw [if_pos ⟨⟨g.1, g.2.1, g.2.2.2⟩, ⟨g2.1, g2.2.1, g2.2.2.2⟩⟩, tn_nI (n := p) (by omega), tn_nI (n := m) (by omega), tn_nI (n := p2) (by omega)] at hk
    refine ⟨Nat.le_refl _, ⟨nI_pos (by omega), nI_pos (by omega), nI_pos (by omega), by rw [tn_nI (by omega), tn_nI (by omega)]; omega, by rw [tn_nI (by omega), tn_nI (by omega)]; omega⟩, ?_⟩
    rw [tn_nI (n := p) (by omega), tn_nI (n := m) (by omega), tn_nI (n := p2) (by omega)]
    exact kh (hp1 (g := va_cpy (F 39) (F 37) p p2 m) rfl) (hk _ (XT.copy hx (r := 2) (t := 1) (by decide) (by decide) y1 z1 y3 z3 hpm hpm2))
  · rw [if_neg c] at hk
    exact x_refuse (w := 5) (by decide) (hk _ ((XT.same hx).fi (by decide)))
theorem x_copy_2_2 (hx : XRc F F) {i j n : Int32} (hk : ∀ F1, XT F F1 (S_copy F (nI 2) i (nI 2) j n).2 → K (some (.int (S_copy F (nI 2) i (nI 2) j n).1)) (hH L xs J s F1)) : mm_call mm_Ex (d + 4) k_X5_copy [.ref 2, .int (nI 2), .int i, .int (nI 2), .int j, .int n] (hH L xs J s F) K := by
  unfold S_copy at hk
  have eR : (nI 2).toNatClampNeg = 2 := tn_nI (by decide)
  have eT : (nI 2).toNatClampNeg = 2 := tn_nI (by decide)
  have vR : vp_in (nI 2) 6 := vp_in_nI (by decide) (by decide)
  have vT : vp_in (nI 2) 6 := vp_in_nI (by decide) (by decide)
  rw [if_pos ⟨by decide, by decide⟩] at hk
  simp only [eR, eT] at hk
  have hs := (hx.1 2 (by decide)).sz
  have ht := (hx.1 2 (by decide)).sz
  have hR : F 38 1 < 0 ↔ ¬ 0 ≤ F 76 2 := hs.1
  have hT : F 38 1 < 0 ↔ ¬ 0 ≤ F 76 2 := ht.1
  have J28 : 0 ≤ n → (F 38 1 < 0 ∨ F 38 1 < 0) → mm_Ex (d + 4) k_X5_copy 28 (0, 0) [.ref 2, .int (nI 2), .int i, .int (nI 2), .int j, .int n] [] (hH L xs J s F) K := fun hn q => by
    rw [if_pos hn, if_neg (fun z => q.elim (fun y => hR.mp y z.1) (fun y => hT.mp y z.2))] at hk
    exact mm_run 20 (x_refuse (w := 1) (by decide) (hk _ ((XT.same hx).fi (by decide))))
  refine mm_run 120 (x_within (And.intro (fun q => absurd q (by decide)) (fun _ => x_within (And.intro (fun _ => And.intro (fun c => ⟨vR, 38, rfl, x_isMissing_38 (And.intro (fun m => J28 c (Or.inl (b2i_p m))) (fun m => ⟨vT, 38, rfl, x_isMissing_38 (And.intro (fun m2 => ⟨vR, 38, rfl, x_hasRun_38 ?_⟩) (fun m2 => J28 c (Or.inr (b2i_p m2))))⟩))⟩) (fun c => ?_)) (fun q => absurd q (by decide))))))
  · have m := b2i_0.mp m
    have m2 := b2i_0.mp m2
    obtain ⟨y, y1, y2, y3⟩ := hs.2 m
    have y3 : F 38 1 = nI y := y3
    rw [if_pos c, if_pos ⟨Classical.not_not.mp (fun q => m (hR.mpr q)), Classical.not_not.mp (fun q => m2 (hT.mpr q))⟩, y2] at hk
    have J48 : ¬ ((0 ≤ i ∧ i ≤ nI y ∧ n ≤ nI y - i) ∧ (0 ≤ j ∧ j ≤ nI y ∧ n ≤ nI y - j)) → mm_Ex (d + 4) k_X5_copy 48 (0, 0) [.ref 2, .int (nI 2), .int i, .int (nI 2), .int j, .int n] [] (hH L xs J s F) K := fun q => by
      rw [if_neg q] at hk
      exact mm_run 20 (x_refuse (w := 2) (by decide) (hk _ ((XT.same hx).fi (by decide))))
    refine And.intro (fun g => J48 fun q => b2i_0.mp g (by rw [y3]; exact ⟨q.1.1, q.1.2.1, c, q.1.2.2⟩)) (fun g => ⟨vT, 38, rfl, x_hasRun_38 (And.intro (fun g2 => ⟨vR, 38, rfl, vT, 38, rfl, ?_⟩) (fun g2 => J48 fun q => b2i_0.mp g2 (by rw [y3]; exact ⟨q.2.1, q.2.2.1, c, q.2.2.2⟩)))⟩)
    have g := b2i_p g
    have g2 := b2i_p g2
    rw [y3] at g
    rw [y3] at g2
    obtain ⟨p, m, rfl, rfl, hpm⟩ := part_of rfl y1 c ⟨g.1, g.2.1, g.2.2.2⟩
    obtain ⟨p2, m', rfl, em, hpm2⟩ := part_of rfl y1 c ⟨g2.1, g2.2.1, g2.2.2.2⟩
    have em : m = m' := (nI_eq (by omega) (by omega)).mp em
    subst em
    rw [if_pos ⟨⟨g.1, g.2.1, g.2.2.2⟩, ⟨g2.1, g2.2.1, g2.2.2.2⟩⟩, tn_nI (n := p) (by omega), tn_nI (n := m) (by omega), tn_nI (n := p2) (by omega)] at hk
    refine ⟨Nat.le_refl _, ⟨nI_pos (by omega), nI_pos (by omega), nI_pos (by omega), by rw [tn_nI (by omega), tn_nI (by omega)]; omega, by rw [tn_nI (by omega), tn_nI (by omega)]; omega⟩, ?_⟩
    rw [tn_nI (n := p) (by omega), tn_nI (n := m) (by omega), tn_nI (n := p2) (by omega)]
    exact kh (hp1 (g := va_cpy (F 39) (F 39) p p2 m) rfl) (hk _ (XT.copy hx (r := 2) (t := 2) (by decide) (by decide) y1 y1 y3 y3 hpm hpm2))
  · rw [if_neg c] at hk
    exact x_refuse (w := 5) (by decide) (hk _ ((XT.same hx).fi (by decide)))
theorem x_copy_2_3 (hx : XRc F F) {i j n : Int32} (hk : ∀ F1, XT F F1 (S_copy F (nI 2) i (nI 3) j n).2 → K (some (.int (S_copy F (nI 2) i (nI 3) j n).1)) (hH L xs J s F1)) : mm_call mm_Ex (d + 4) k_X5_copy [.ref 2, .int (nI 2), .int i, .int (nI 3), .int j, .int n] (hH L xs J s F) K := by
  unfold S_copy at hk
  have eR : (nI 2).toNatClampNeg = 2 := tn_nI (by decide)
  have eT : (nI 3).toNatClampNeg = 3 := tn_nI (by decide)
  have vR : vp_in (nI 2) 6 := vp_in_nI (by decide) (by decide)
  have vT : vp_in (nI 3) 6 := vp_in_nI (by decide) (by decide)
  rw [if_pos ⟨by decide, by decide⟩] at hk
  simp only [eR, eT] at hk
  have hs := (hx.1 2 (by decide)).sz
  have ht := (hx.1 3 (by decide)).sz
  have hR : F 38 1 < 0 ↔ ¬ 0 ≤ F 76 2 := hs.1
  have hT : F 40 1 < 0 ↔ ¬ 0 ≤ F 76 3 := ht.1
  have J28 : 0 ≤ n → (F 38 1 < 0 ∨ F 40 1 < 0) → mm_Ex (d + 4) k_X5_copy 28 (0, 0) [.ref 2, .int (nI 2), .int i, .int (nI 3), .int j, .int n] [] (hH L xs J s F) K := fun hn q => by
    rw [if_pos hn, if_neg (fun z => q.elim (fun y => hR.mp y z.1) (fun y => hT.mp y z.2))] at hk
    exact mm_run 20 (x_refuse (w := 1) (by decide) (hk _ ((XT.same hx).fi (by decide))))
  refine mm_run 120 (x_within (And.intro (fun q => absurd q (by decide)) (fun _ => x_within (And.intro (fun _ => And.intro (fun c => ⟨vR, 38, rfl, x_isMissing_38 (And.intro (fun m => J28 c (Or.inl (b2i_p m))) (fun m => ⟨vT, 40, rfl, x_isMissing_40 (And.intro (fun m2 => ⟨vR, 38, rfl, x_hasRun_38 ?_⟩) (fun m2 => J28 c (Or.inr (b2i_p m2))))⟩))⟩) (fun c => ?_)) (fun q => absurd q (by decide))))))
  · have m := b2i_0.mp m
    have m2 := b2i_0.mp m2
    obtain ⟨y, y1, y2, y3⟩ := hs.2 m
    obtain ⟨z, z1, z2, z3⟩ := ht.2 m2
    have y3 : F 38 1 = nI y := y3
    have z3 : F 40 1 = nI z := z3
    rw [if_pos c, if_pos ⟨Classical.not_not.mp (fun q => m (hR.mpr q)), Classical.not_not.mp (fun q => m2 (hT.mpr q))⟩, y2, z2] at hk
    have J48 : ¬ ((0 ≤ i ∧ i ≤ nI y ∧ n ≤ nI y - i) ∧ (0 ≤ j ∧ j ≤ nI z ∧ n ≤ nI z - j)) → mm_Ex (d + 4) k_X5_copy 48 (0, 0) [.ref 2, .int (nI 2), .int i, .int (nI 3), .int j, .int n] [] (hH L xs J s F) K := fun q => by
      rw [if_neg q] at hk
      exact mm_run 20 (x_refuse (w := 2) (by decide) (hk _ ((XT.same hx).fi (by decide))))
    refine And.intro (fun g => J48 fun q => b2i_0.mp g (by rw [y3]; exact ⟨q.1.1, q.1.2.1, c, q.1.2.2⟩)) (fun g => ⟨vT, 40, rfl, x_hasRun_40 (And.intro (fun g2 => ⟨vR, 38, rfl, vT, 40, rfl, ?_⟩) (fun g2 => J48 fun q => b2i_0.mp g2 (by rw [z3]; exact ⟨q.2.1, q.2.2.1, c, q.2.2.2⟩)))⟩)
    have g := b2i_p g
    have g2 := b2i_p g2
    rw [y3] at g
    rw [z3] at g2
    obtain ⟨p, m, rfl, rfl, hpm⟩ := part_of rfl y1 c ⟨g.1, g.2.1, g.2.2.2⟩
    obtain ⟨p2, m', rfl, em, hpm2⟩ := part_of rfl z1 c ⟨g2.1, g2.2.1, g2.2.2.2⟩
    have em : m = m' := (nI_eq (by omega) (by omega)).mp em
    subst em
    rw [if_pos ⟨⟨g.1, g.2.1, g.2.2.2⟩, ⟨g2.1, g2.2.1, g2.2.2.2⟩⟩, tn_nI (n := p) (by omega), tn_nI (n := m) (by omega), tn_nI (n := p2) (by omega)] at hk
    refine ⟨Nat.le_refl _, ⟨nI_pos (by omega), nI_pos (by omega), nI_pos (by omega), by rw [tn_nI (by omega), tn_nI (by omega)]; omega, by rw [tn_nI (by omega), tn_nI (by omega)]; omega⟩, ?_⟩
    rw [tn_nI (n := p) (by omega), tn_nI (n := m) (by omega), tn_nI (n := p2) (by omega)]
    exact kh (hp1 (g := va_cpy (F 39) (F 41) p p2 m) rfl) (hk _ (XT.copy hx (r := 2) (t := 3) (by decide) (by decide) y1 z1 y3 z3 hpm hpm2))
  · rw [if_neg c] at hk
    exact x_refuse (w := 5) (by decide) (hk _ ((XT.same hx).fi (by decide)))
theorem x_copy_2_4 (hx : XRc F F) {i j n : Int32} (hk : ∀ F1, XT F F1 (S_copy F (nI 2) i (nI 4) j n).2 → K (some (.int (S_copy F (nI 2) i (nI 4) j n).1)) (hH L xs J s F1)) : mm_call mm_Ex (d + 4) k_X5_copy [.ref 2, .int (nI 2), .int i, .int (nI 4), .int j, .int n] (hH L xs J s F) K := by
  unfold S_copy at hk
  have eR : (nI 2).toNatClampNeg = 2 := tn_nI (by decide)
  have eT : (nI 4).toNatClampNeg = 4 := tn_nI (by decide)
  have vR : vp_in (nI 2) 6 := vp_in_nI (by decide) (by decide)
  have vT : vp_in (nI 4) 6 := vp_in_nI (by decide) (by decide)
  rw [if_pos ⟨by decide, by decide⟩] at hk
  simp only [eR, eT] at hk
  have hs := (hx.1 2 (by decide)).sz
  have ht := (hx.1 4 (by decide)).sz
  have hR : F 38 1 < 0 ↔ ¬ 0 ≤ F 76 2 := hs.1
  have hT : F 42 1 < 0 ↔ ¬ 0 ≤ F 76 4 := ht.1
  have J28 : 0 ≤ n → (F 38 1 < 0 ∨ F 42 1 < 0) → mm_Ex (d + 4) k_X5_copy 28 (0, 0) [.ref 2, .int (nI 2), .int i, .int (nI 4), .int j, .int n] [] (hH L xs J s F) K := fun hn q => by
    rw [if_pos hn, if_neg (fun z => q.elim (fun y => hR.mp y z.1) (fun y => hT.mp y z.2))] at hk
    exact mm_run 20 (x_refuse (w := 1) (by decide) (hk _ ((XT.same hx).fi (by decide))))
  refine mm_run 120 (x_within (And.intro (fun q => absurd q (by decide)) (fun _ => x_within (And.intro (fun _ => And.intro (fun c => ⟨vR, 38, rfl, x_isMissing_38 (And.intro (fun m => J28 c (Or.inl (b2i_p m))) (fun m => ⟨vT, 42, rfl, x_isMissing_42 (And.intro (fun m2 => ⟨vR, 38, rfl, x_hasRun_38 ?_⟩) (fun m2 => J28 c (Or.inr (b2i_p m2))))⟩))⟩) (fun c => ?_)) (fun q => absurd q (by decide))))))
  · have m := b2i_0.mp m
    have m2 := b2i_0.mp m2
    obtain ⟨y, y1, y2, y3⟩ := hs.2 m
    obtain ⟨z, z1, z2, z3⟩ := ht.2 m2
    have y3 : F 38 1 = nI y := y3
    have z3 : F 42 1 = nI z := z3
    rw [if_pos c, if_pos ⟨Classical.not_not.mp (fun q => m (hR.mpr q)), Classical.not_not.mp (fun q => m2 (hT.mpr q))⟩, y2, z2] at hk
    have J48 : ¬ ((0 ≤ i ∧ i ≤ nI y ∧ n ≤ nI y - i) ∧ (0 ≤ j ∧ j ≤ nI z ∧ n ≤ nI z - j)) → mm_Ex (d + 4) k_X5_copy 48 (0, 0) [.ref 2, .int (nI 2), .int i, .int (nI 4), .int j, .int n] [] (hH L xs J s F) K := fun q => by
      rw [if_neg q] at hk
      exact mm_run 20 (x_refuse (w := 2) (by decide) (hk _ ((XT.same hx).fi (by decide))))
    refine And.intro (fun g => J48 fun q => b2i_0.mp g (by rw [y3]; exact ⟨q.1.1, q.1.2.1, c, q.1.2.2⟩)) (fun g => ⟨vT, 42, rfl, x_hasRun_42 (And.intro (fun g2 => ⟨vR, 38, rfl, vT, 42, rfl, ?_⟩) (fun g2 => J48 fun q => b2i_0.mp g2 (by rw [z3]; exact ⟨q.2.1, q.2.2.1, c, q.2.2.2⟩)))⟩)
    have g := b2i_p g
    have g2 := b2i_p g2
    rw [y3] at g
    rw [z3] at g2
    obtain ⟨p, m, rfl, rfl, hpm⟩ := part_of rfl y1 c ⟨g.1, g.2.1, g.2.2.2⟩
    obtain ⟨p2, m', rfl, em, hpm2⟩ := part_of rfl z1 c ⟨g2.1, g2.2.1, g2.2.2.2⟩
    have em : m = m' := (nI_eq (by omega) (by omega)).mp em
    subst em
    rw [if_pos ⟨⟨g.1, g.2.1, g.2.2.2⟩, ⟨g2.1, g2.2.1, g2.2.2.2⟩⟩, tn_nI (n := p) (by omega), tn_nI (n := m) (by omega), tn_nI (n := p2) (by omega)] at hk
    refine ⟨Nat.le_refl _, ⟨nI_pos (by omega), nI_pos (by omega), nI_pos (by omega), by rw [tn_nI (by omega), tn_nI (by omega)]; omega, by rw [tn_nI (by omega), tn_nI (by omega)]; omega⟩, ?_⟩
    rw [tn_nI (n := p) (by omega), tn_nI (n := m) (by omega), tn_nI (n := p2) (by omega)]
    exact kh (hp1 (g := va_cpy (F 39) (F 43) p p2 m) rfl) (hk _ (XT.copy hx (r := 2) (t := 4) (by decide) (by decide) y1 z1 y3 z3 hpm hpm2))
  · rw [if_neg c] at hk
    exact x_refuse (w := 5) (by decide) (hk _ ((XT.same hx).fi (by decide)))
theorem x_copy_2_5 (hx : XRc F F) {i j n : Int32} (hk : ∀ F1, XT F F1 (S_copy F (nI 2) i (nI 5) j n).2 → K (some (.int (S_copy F (nI 2) i (nI 5) j n).1)) (hH L xs J s F1)) : mm_call mm_Ex (d + 4) k_X5_copy [.ref 2, .int (nI 2), .int i, .int (nI 5), .int j, .int n] (hH L xs J s F) K := by
  unfold S_copy at hk
  have eR : (nI 2).toNatClampNeg = 2 := tn_nI (by decide)
  have eT : (nI 5).toNatClampNeg = 5 := tn_nI (by decide)
  have vR : vp_in (nI 2) 6 := vp_in_nI (by decide) (by decide)
  have vT : vp_in (nI 5) 6 := vp_in_nI (by decide) (by decide)
  rw [if_pos ⟨by decide, by decide⟩] at hk
  simp only [eR, eT] at hk
  have hs := (hx.1 2 (by decide)).sz
  have ht := (hx.1 5 (by decide)).sz
  have hR : F 38 1 < 0 ↔ ¬ 0 ≤ F 76 2 := hs.1
  have hT : F 44 1 < 0 ↔ ¬ 0 ≤ F 76 5 := ht.1
  have J28 : 0 ≤ n → (F 38 1 < 0 ∨ F 44 1 < 0) → mm_Ex (d + 4) k_X5_copy 28 (0, 0) [.ref 2, .int (nI 2), .int i, .int (nI 5), .int j, .int n] [] (hH L xs J s F) K := fun hn q => by
    rw [if_pos hn, if_neg (fun z => q.elim (fun y => hR.mp y z.1) (fun y => hT.mp y z.2))] at hk
    exact mm_run 20 (x_refuse (w := 1) (by decide) (hk _ ((XT.same hx).fi (by decide))))
  refine mm_run 120 (x_within (And.intro (fun q => absurd q (by decide)) (fun _ => x_within (And.intro (fun _ => And.intro (fun c => ⟨vR, 38, rfl, x_isMissing_38 (And.intro (fun m => J28 c (Or.inl (b2i_p m))) (fun m => ⟨vT, 44, rfl, x_isMissing_44 (And.intro (fun m2 => ⟨vR, 38, rfl, x_hasRun_38 ?_⟩) (fun m2 => J28 c (Or.inr (b2i_p m2))))⟩))⟩) (fun c => ?_)) (fun q => absurd q (by decide))))))
  · have m := b2i_0.mp m
    have m2 := b2i_0.mp m2
    obtain ⟨y, y1, y2, y3⟩ := hs.2 m
    obtain ⟨z, z1, z2, z3⟩ := ht.2 m2
    have y3 : F 38 1 = nI y := y3
    have z3 : F 44 1 = nI z := z3
    rw [if_pos c, if_pos ⟨Classical.not_not.mp (fun q => m (hR.mpr q)), Classical.not_not.mp (fun q => m2 (hT.mpr q))⟩, y2, z2] at hk
    have J48 : ¬ ((0 ≤ i ∧ i ≤ nI y ∧ n ≤ nI y - i) ∧ (0 ≤ j ∧ j ≤ nI z ∧ n ≤ nI z - j)) → mm_Ex (d + 4) k_X5_copy 48 (0, 0) [.ref 2, .int (nI 2), .int i, .int (nI 5), .int j, .int n] [] (hH L xs J s F) K := fun q => by
      rw [if_neg q] at hk
      exact mm_run 20 (x_refuse (w := 2) (by decide) (hk _ ((XT.same hx).fi (by decide))))
    refine And.intro (fun g => J48 fun q => b2i_0.mp g (by rw [y3]; exact ⟨q.1.1, q.1.2.1, c, q.1.2.2⟩)) (fun g => ⟨vT, 44, rfl, x_hasRun_44 (And.intro (fun g2 => ⟨vR, 38, rfl, vT, 44, rfl, ?_⟩) (fun g2 => J48 fun q => b2i_0.mp g2 (by rw [z3]; exact ⟨q.2.1, q.2.2.1, c, q.2.2.2⟩)))⟩)
    have g := b2i_p g
    have g2 := b2i_p g2
    rw [y3] at g
    rw [z3] at g2
    obtain ⟨p, m, rfl, rfl, hpm⟩ := part_of rfl y1 c ⟨g.1, g.2.1, g.2.2.2⟩
    obtain ⟨p2, m', rfl, em, hpm2⟩ := part_of rfl z1 c ⟨g2.1, g2.2.1, g2.2.2.2⟩
    have em : m = m' := (nI_eq (by omega) (by omega)).mp em
    subst em
    rw [if_pos ⟨⟨g.1, g.2.1, g.2.2.2⟩, ⟨g2.1, g2.2.1, g2.2.2.2⟩⟩, tn_nI (n := p) (by omega), tn_nI (n := m) (by omega), tn_nI (n := p2) (by omega)] at hk
    refine ⟨Nat.le_refl _, ⟨nI_pos (by omega), nI_pos (by omega), nI_pos (by omega), by rw [tn_nI (by omega), tn_nI (by omega)]; omega, by rw [tn_nI (by omega), tn_nI (by omega)]; omega⟩, ?_⟩
    rw [tn_nI (n := p) (by omega), tn_nI (n := m) (by omega), tn_nI (n := p2) (by omega)]
    exact kh (hp1 (g := va_cpy (F 39) (F 45) p p2 m) rfl) (hk _ (XT.copy hx (r := 2) (t := 5) (by decide) (by decide) y1 z1 y3 z3 hpm hpm2))
  · rw [if_neg c] at hk
    exact x_refuse (w := 5) (by decide) (hk _ ((XT.same hx).fi (by decide)))
theorem x_copy_3_0 (hx : XRc F F) {i j n : Int32} (hk : ∀ F1, XT F F1 (S_copy F (nI 3) i (nI 0) j n).2 → K (some (.int (S_copy F (nI 3) i (nI 0) j n).1)) (hH L xs J s F1)) : mm_call mm_Ex (d + 4) k_X5_copy [.ref 2, .int (nI 3), .int i, .int (nI 0), .int j, .int n] (hH L xs J s F) K := by
  unfold S_copy at hk
  have eR : (nI 3).toNatClampNeg = 3 := tn_nI (by decide)
  have eT : (nI 0).toNatClampNeg = 0 := tn_nI (by decide)
  have vR : vp_in (nI 3) 6 := vp_in_nI (by decide) (by decide)
  have vT : vp_in (nI 0) 6 := vp_in_nI (by decide) (by decide)
  rw [if_pos ⟨by decide, by decide⟩] at hk
  simp only [eR, eT] at hk
  have hs := (hx.1 3 (by decide)).sz
  have ht := (hx.1 0 (by decide)).sz
  have hR : F 40 1 < 0 ↔ ¬ 0 ≤ F 76 3 := hs.1
  have hT : F 34 1 < 0 ↔ ¬ 0 ≤ F 76 0 := ht.1
  have J28 : 0 ≤ n → (F 40 1 < 0 ∨ F 34 1 < 0) → mm_Ex (d + 4) k_X5_copy 28 (0, 0) [.ref 2, .int (nI 3), .int i, .int (nI 0), .int j, .int n] [] (hH L xs J s F) K := fun hn q => by
    rw [if_pos hn, if_neg (fun z => q.elim (fun y => hR.mp y z.1) (fun y => hT.mp y z.2))] at hk
    exact mm_run 20 (x_refuse (w := 1) (by decide) (hk _ ((XT.same hx).fi (by decide))))
  refine mm_run 120 (x_within (And.intro (fun q => absurd q (by decide)) (fun _ => x_within (And.intro (fun _ => And.intro (fun c => ⟨vR, 40, rfl, x_isMissing_40 (And.intro (fun m => J28 c (Or.inl (b2i_p m))) (fun m => ⟨vT, 34, rfl, x_isMissing_34 (And.intro (fun m2 => ⟨vR, 40, rfl, x_hasRun_40 ?_⟩) (fun m2 => J28 c (Or.inr (b2i_p m2))))⟩))⟩) (fun c => ?_)) (fun q => absurd q (by decide))))))
  · have m := b2i_0.mp m
    have m2 := b2i_0.mp m2
    obtain ⟨y, y1, y2, y3⟩ := hs.2 m
    obtain ⟨z, z1, z2, z3⟩ := ht.2 m2
    have y3 : F 40 1 = nI y := y3
    have z3 : F 34 1 = nI z := z3
    rw [if_pos c, if_pos ⟨Classical.not_not.mp (fun q => m (hR.mpr q)), Classical.not_not.mp (fun q => m2 (hT.mpr q))⟩, y2, z2] at hk
    have J48 : ¬ ((0 ≤ i ∧ i ≤ nI y ∧ n ≤ nI y - i) ∧ (0 ≤ j ∧ j ≤ nI z ∧ n ≤ nI z - j)) → mm_Ex (d + 4) k_X5_copy 48 (0, 0) [.ref 2, .int (nI 3), .int i, .int (nI 0), .int j, .int n] [] (hH L xs J s F) K := fun q => by
      rw [if_neg q] at hk
      exact mm_run 20 (x_refuse (w := 2) (by decide) (hk _ ((XT.same hx).fi (by decide))))
    refine And.intro (fun g => J48 fun q => b2i_0.mp g (by rw [y3]; exact ⟨q.1.1, q.1.2.1, c, q.1.2.2⟩)) (fun g => ⟨vT, 34, rfl, x_hasRun_34 (And.intro (fun g2 => ⟨vR, 40, rfl, vT, 34, rfl, ?_⟩) (fun g2 => J48 fun q => b2i_0.mp g2 (by rw [z3]; exact ⟨q.2.1, q.2.2.1, c, q.2.2.2⟩)))⟩)
    have g := b2i_p g
    have g2 := b2i_p g2
    rw [y3] at g
    rw [z3] at g2
    obtain ⟨p, m, rfl, rfl, hpm⟩ := part_of rfl y1 c ⟨g.1, g.2.1, g.2.2.2⟩
    obtain ⟨p2, m', rfl, em, hpm2⟩ := part_of rfl z1 c ⟨g2.1, g2.2.1, g2.2.2.2⟩
    have em : m = m' := (nI_eq (by omega) (by omega)).mp em
    subst em
    rw [if_pos ⟨⟨g.1, g.2.1, g.2.2.2⟩, ⟨g2.1, g2.2.1, g2.2.2.2⟩⟩, tn_nI (n := p) (by omega), tn_nI (n := m) (by omega), tn_nI (n := p2) (by omega)] at hk
    refine ⟨Nat.le_refl _, ⟨nI_pos (by omega), nI_pos (by omega), nI_pos (by omega), by rw [tn_nI (by omega), tn_nI (by omega)]; omega, by rw [tn_nI (by omega), tn_nI (by omega)]; omega⟩, ?_⟩
    rw [tn_nI (n := p) (by omega), tn_nI (n := m) (by omega), tn_nI (n := p2) (by omega)]
    exact kh (hp1 (g := va_cpy (F 41) (F 35) p p2 m) rfl) (hk _ (XT.copy hx (r := 3) (t := 0) (by decide) (by decide) y1 z1 y3 z3 hpm hpm2))
  · rw [if_neg c] at hk
    exact x_refuse (w := 5) (by decide) (hk _ ((XT.same hx).fi (by decide)))
theorem x_copy_3_1 (hx : XRc F F) {i j n : Int32} (hk : ∀ F1, XT F F1 (S_copy F (nI 3) i (nI 1) j n).2 → K (some (.int (S_copy F (nI 3) i (nI 1) j n).1)) (hH L xs J s F1)) : mm_call mm_Ex (d + 4) k_X5_copy [.ref 2, .int (nI 3), .int i, .int (nI 1), .int j, .int n] (hH L xs J s F) K := by
  unfold S_copy at hk
  have eR : (nI 3).toNatClampNeg = 3 := tn_nI (by decide)
  have eT : (nI 1).toNatClampNeg = 1 := tn_nI (by decide)
  have vR : vp_in (nI 3) 6 := vp_in_nI (by decide) (by decide)
  have vT : vp_in (nI 1) 6 := vp_in_nI (by decide) (by decide)
  rw [if_pos ⟨by decide, by decide⟩] at hk
  simp only [eR, eT] at hk
  have hs := (hx.1 3 (by decide)).sz
  have ht := (hx.1 1 (by decide)).sz
  have hR : F 40 1 < 0 ↔ ¬ 0 ≤ F 76 3 := hs.1
  have hT : F 36 1 < 0 ↔ ¬ 0 ≤ F 76 1 := ht.1
  have J28 : 0 ≤ n → (F 40 1 < 0 ∨ F 36 1 < 0) → mm_Ex (d + 4) k_X5_copy 28 (0, 0) [.ref 2, .int (nI 3), .int i, .int (nI 1), .int j, .int n] [] (hH L xs J s F) K := fun hn q => by
    rw [if_pos hn, if_neg (fun z => q.elim (fun y => hR.mp y z.1) (fun y => hT.mp y z.2))] at hk
    exact mm_run 20 (x_refuse (w := 1) (by decide) (hk _ ((XT.same hx).fi (by decide))))
  refine mm_run 120 (x_within (And.intro (fun q => absurd q (by decide)) (fun _ => x_within (And.intro (fun _ => And.intro (fun c => ⟨vR, 40, rfl, x_isMissing_40 (And.intro (fun m => J28 c (Or.inl (b2i_p m))) (fun m => ⟨vT, 36, rfl, x_isMissing_36 (And.intro (fun m2 => ⟨vR, 40, rfl, x_hasRun_40 ?_⟩) (fun m2 => J28 c (Or.inr (b2i_p m2))))⟩))⟩) (fun c => ?_)) (fun q => absurd q (by decide))))))
  · have m := b2i_0.mp m
    have m2 := b2i_0.mp m2
    obtain ⟨y, y1, y2, y3⟩ := hs.2 m
    obtain ⟨z, z1, z2, z3⟩ := ht.2 m2
    have y3 : F 40 1 = nI y := y3
    have z3 : F 36 1 = nI z := z3
    rw [if_pos c, if_pos ⟨Classical.not_not.mp (fun q => m (hR.mpr q)), Classical.not_not.mp (fun q => m2 (hT.mpr q))⟩, y2, z2] at hk
    have J48 : ¬ ((0 ≤ i ∧ i ≤ nI y ∧ n ≤ nI y - i) ∧ (0 ≤ j ∧ j ≤ nI z ∧ n ≤ nI z - j)) → mm_Ex (d + 4) k_X5_copy 48 (0, 0) [.ref 2, .int (nI 3), .int i, .int (nI 1), .int j, .int n] [] (hH L xs J s F) K := fun q => by
      rw [if_neg q] at hk
      exact mm_run 20 (x_refuse (w := 2) (by decide) (hk _ ((XT.same hx).fi (by decide))))
    refine And.intro (fun g => J48 fun q => b2i_0.mp g (by rw [y3]; exact ⟨q.1.1, q.1.2.1, c, q.1.2.2⟩)) (fun g => ⟨vT, 36, rfl, x_hasRun_36 (And.intro (fun g2 => ⟨vR, 40, rfl, vT, 36, rfl, ?_⟩) (fun g2 => J48 fun q => b2i_0.mp g2 (by rw [z3]; exact ⟨q.2.1, q.2.2.1, c, q.2.2.2⟩)))⟩)
    have g := b2i_p g
    have g2 := b2i_p g2
    rw [y3] at g
    rw [z3] at g2
    obtain ⟨p, m, rfl, rfl, hpm⟩ := part_of rfl y1 c ⟨g.1, g.2.1, g.2.2.2⟩
    obtain ⟨p2, m', rfl, em, hpm2⟩ := part_of rfl z1 c ⟨g2.1, g2.2.1, g2.2.2.2⟩
    have em : m = m' := (nI_eq (by omega) (by omega)).mp em
    subst em
    rw [if_pos ⟨⟨g.1, g.2.1, g.2.2.2⟩, ⟨g2.1, g2.2.1, g2.2.2.2⟩⟩, tn_nI (n := p) (by omega), tn_nI (n := m) (by omega), tn_nI (n := p2) (by omega)] at hk
    refine ⟨Nat.le_refl _, ⟨nI_pos (by omega), nI_pos (by omega), nI_pos (by omega), by rw [tn_nI (by omega), tn_nI (by omega)]; omega, by rw [tn_nI (by omega), tn_nI (by omega)]; omega⟩, ?_⟩
    rw [tn_nI (n := p) (by omega), tn_nI (n := m) (by omega), tn_nI (n := p2) (by omega)]
    exact kh (hp1 (g := va_cpy (F 41) (F 37) p p2 m) rfl) (hk _ (XT.copy hx (r := 3) (t := 1) (by decide) (by decide) y1 z1 y3 z3 hpm hpm2))
  · rw [if_neg c] at hk
    exact x_refuse (w := 5) (by decide) (hk _ ((XT.same hx).fi (by decide)))
theorem x_copy_3_2 (hx : XRc F F) {i j n : Int32} (hk : ∀ F1, XT F F1 (S_copy F (nI 3) i (nI 2) j n).2 → K (some (.int (S_copy F (nI 3) i (nI 2) j n).1)) (hH L xs J s F1)) : mm_call mm_Ex (d + 4) k_X5_copy [.ref 2, .int (nI 3), .int i, .int (nI 2), .int j, .int n] (hH L xs J s F) K := by
  unfold S_copy at hk
  have eR : (nI 3).toNatClampNeg = 3 := tn_nI (by decide)
  have eT : (nI 2).toNatClampNeg = 2 := tn_nI (by decide)
  have vR : vp_in (nI 3) 6 := vp_in_nI (by decide) (by decide)
  have vT : vp_in (nI 2) 6 := vp_in_nI (by decide) (by decide)
  rw [if_pos ⟨by decide, by decide⟩] at hk
  simp only [eR, eT] at hk
  have hs := (hx.1 3 (by decide)).sz
  have ht := (hx.1 2 (by decide)).sz
  have hR : F 40 1 < 0 ↔ ¬ 0 ≤ F 76 3 := hs.1
  have hT : F 38 1 < 0 ↔ ¬ 0 ≤ F 76 2 := ht.1
  have J28 : 0 ≤ n → (F 40 1 < 0 ∨ F 38 1 < 0) → mm_Ex (d + 4) k_X5_copy 28 (0, 0) [.ref 2, .int (nI 3), .int i, .int (nI 2), .int j, .int n] [] (hH L xs J s F) K := fun hn q => by
    rw [if_pos hn, if_neg (fun z => q.elim (fun y => hR.mp y z.1) (fun y => hT.mp y z.2))] at hk
    exact mm_run 20 (x_refuse (w := 1) (by decide) (hk _ ((XT.same hx).fi (by decide))))
  refine mm_run 120 (x_within (And.intro (fun q => absurd q (by decide)) (fun _ => x_within (And.intro (fun _ => And.intro (fun c => ⟨vR, 40, rfl, x_isMissing_40 (And.intro (fun m => J28 c (Or.inl (b2i_p m))) (fun m => ⟨vT, 38, rfl, x_isMissing_38 (And.intro (fun m2 => ⟨vR, 40, rfl, x_hasRun_40 ?_⟩) (fun m2 => J28 c (Or.inr (b2i_p m2))))⟩))⟩) (fun c => ?_)) (fun q => absurd q (by decide))))))
  · have m := b2i_0.mp m
    have m2 := b2i_0.mp m2
    obtain ⟨y, y1, y2, y3⟩ := hs.2 m
    obtain ⟨z, z1, z2, z3⟩ := ht.2 m2
    have y3 : F 40 1 = nI y := y3
    have z3 : F 38 1 = nI z := z3
    rw [if_pos c, if_pos ⟨Classical.not_not.mp (fun q => m (hR.mpr q)), Classical.not_not.mp (fun q => m2 (hT.mpr q))⟩, y2, z2] at hk
    have J48 : ¬ ((0 ≤ i ∧ i ≤ nI y ∧ n ≤ nI y - i) ∧ (0 ≤ j ∧ j ≤ nI z ∧ n ≤ nI z - j)) → mm_Ex (d + 4) k_X5_copy 48 (0, 0) [.ref 2, .int (nI 3), .int i, .int (nI 2), .int j, .int n] [] (hH L xs J s F) K := fun q => by
      rw [if_neg q] at hk
      exact mm_run 20 (x_refuse (w := 2) (by decide) (hk _ ((XT.same hx).fi (by decide))))
    refine And.intro (fun g => J48 fun q => b2i_0.mp g (by rw [y3]; exact ⟨q.1.1, q.1.2.1, c, q.1.2.2⟩)) (fun g => ⟨vT, 38, rfl, x_hasRun_38 (And.intro (fun g2 => ⟨vR, 40, rfl, vT, 38, rfl, ?_⟩) (fun g2 => J48 fun q => b2i_0.mp g2 (by rw [z3]; exact ⟨q.2.1, q.2.2.1, c, q.2.2.2⟩)))⟩)
    have g := b2i_p g
    have g2 := b2i_p g2
    rw [y3] at g
    rw [z3] at g2
    obtain ⟨p, m, rfl, rfl, hpm⟩ := part_of rfl y1 c ⟨g.1, g.2.1, g.2.2.2⟩
    obtain ⟨p2, m', rfl, em, hpm2⟩ := part_of rfl z1 c ⟨g2.1, g2.2.1, g2.2.2.2⟩
    have em : m = m' := (nI_eq (by omega) (by omega)).mp em
    subst em
    rw [if_pos ⟨⟨g.1, g.2.1, g.2.2.2⟩, ⟨g2.1, g2.2.1, g2.2.2.2⟩⟩, tn_nI (n := p) (by omega), tn_nI (n := m) (by omega), tn_nI (n := p2) (by omega)] at hk
    refine ⟨Nat.le_refl _, ⟨nI_pos (by omega), nI_pos (by omega), nI_pos (by omega), by rw [tn_nI (by omega), tn_nI (by omega)]; omega, by rw [tn_nI (by omega), tn_nI (by omega)]; omega⟩, ?_⟩
    rw [tn_nI (n := p) (by omega), tn_nI (n := m) (by omega), tn_nI (n := p2) (by omega)]
    exact kh (hp1 (g := va_cpy (F 41) (F 39) p p2 m) rfl) (hk _ (XT.copy hx (r := 3) (t := 2) (by decide) (by decide) y1 z1 y3 z3 hpm hpm2))
  · rw [if_neg c] at hk
    exact x_refuse (w := 5) (by decide) (hk _ ((XT.same hx).fi (by decide)))
theorem x_copy_3_3 (hx : XRc F F) {i j n : Int32} (hk : ∀ F1, XT F F1 (S_copy F (nI 3) i (nI 3) j n).2 → K (some (.int (S_copy F (nI 3) i (nI 3) j n).1)) (hH L xs J s F1)) : mm_call mm_Ex (d + 4) k_X5_copy [.ref 2, .int (nI 3), .int i, .int (nI 3), .int j, .int n] (hH L xs J s F) K := by
  unfold S_copy at hk
  have eR : (nI 3).toNatClampNeg = 3 := tn_nI (by decide)
  have eT : (nI 3).toNatClampNeg = 3 := tn_nI (by decide)
  have vR : vp_in (nI 3) 6 := vp_in_nI (by decide) (by decide)
  have vT : vp_in (nI 3) 6 := vp_in_nI (by decide) (by decide)
  rw [if_pos ⟨by decide, by decide⟩] at hk
  simp only [eR, eT] at hk
  have hs := (hx.1 3 (by decide)).sz
  have ht := (hx.1 3 (by decide)).sz
  have hR : F 40 1 < 0 ↔ ¬ 0 ≤ F 76 3 := hs.1
  have hT : F 40 1 < 0 ↔ ¬ 0 ≤ F 76 3 := ht.1
  have J28 : 0 ≤ n → (F 40 1 < 0 ∨ F 40 1 < 0) → mm_Ex (d + 4) k_X5_copy 28 (0, 0) [.ref 2, .int (nI 3), .int i, .int (nI 3), .int j, .int n] [] (hH L xs J s F) K := fun hn q => by
    rw [if_pos hn, if_neg (fun z => q.elim (fun y => hR.mp y z.1) (fun y => hT.mp y z.2))] at hk
    exact mm_run 20 (x_refuse (w := 1) (by decide) (hk _ ((XT.same hx).fi (by decide))))
  refine mm_run 120 (x_within (And.intro (fun q => absurd q (by decide)) (fun _ => x_within (And.intro (fun _ => And.intro (fun c => ⟨vR, 40, rfl, x_isMissing_40 (And.intro (fun m => J28 c (Or.inl (b2i_p m))) (fun m => ⟨vT, 40, rfl, x_isMissing_40 (And.intro (fun m2 => ⟨vR, 40, rfl, x_hasRun_40 ?_⟩) (fun m2 => J28 c (Or.inr (b2i_p m2))))⟩))⟩) (fun c => ?_)) (fun q => absurd q (by decide))))))
  · have m := b2i_0.mp m
    have m2 := b2i_0.mp m2
    obtain ⟨y, y1, y2, y3⟩ := hs.2 m
    have y3 : F 40 1 = nI y := y3
    rw [if_pos c, if_pos ⟨Classical.not_not.mp (fun q => m (hR.mpr q)), Classical.not_not.mp (fun q => m2 (hT.mpr q))⟩, y2] at hk
    have J48 : ¬ ((0 ≤ i ∧ i ≤ nI y ∧ n ≤ nI y - i) ∧ (0 ≤ j ∧ j ≤ nI y ∧ n ≤ nI y - j)) → mm_Ex (d + 4) k_X5_copy 48 (0, 0) [.ref 2, .int (nI 3), .int i, .int (nI 3), .int j, .int n] [] (hH L xs J s F) K := fun q => by
      rw [if_neg q] at hk
      exact mm_run 20 (x_refuse (w := 2) (by decide) (hk _ ((XT.same hx).fi (by decide))))
    refine And.intro (fun g => J48 fun q => b2i_0.mp g (by rw [y3]; exact ⟨q.1.1, q.1.2.1, c, q.1.2.2⟩)) (fun g => ⟨vT, 40, rfl, x_hasRun_40 (And.intro (fun g2 => ⟨vR, 40, rfl, vT, 40, rfl, ?_⟩) (fun g2 => J48 fun q => b2i_0.mp g2 (by rw [y3]; exact ⟨q.2.1, q.2.2.1, c, q.2.2.2⟩)))⟩)
    have g := b2i_p g
    have g2 := b2i_p g2
    rw [y3] at g
    rw [y3] at g2
    obtain ⟨p, m, rfl, rfl, hpm⟩ := part_of rfl y1 c ⟨g.1, g.2.1, g.2.2.2⟩
    obtain ⟨p2, m', rfl, em, hpm2⟩ := part_of rfl y1 c ⟨g2.1, g2.2.1, g2.2.2.2⟩
    have em : m = m' := (nI_eq (by omega) (by omega)).mp em
    subst em
    rw [if_pos ⟨⟨g.1, g.2.1, g.2.2.2⟩, ⟨g2.1, g2.2.1, g2.2.2.2⟩⟩, tn_nI (n := p) (by omega), tn_nI (n := m) (by omega), tn_nI (n := p2) (by omega)] at hk
    refine ⟨Nat.le_refl _, ⟨nI_pos (by omega), nI_pos (by omega), nI_pos (by omega), by rw [tn_nI (by omega), tn_nI (by omega)]; omega, by rw [tn_nI (by omega), tn_nI (by omega)]; omega⟩, ?_⟩
    rw [tn_nI (n := p) (by omega), tn_nI (n := m) (by omega), tn_nI (n := p2) (by omega)]
    exact kh (hp1 (g := va_cpy (F 41) (F 41) p p2 m) rfl) (hk _ (XT.copy hx (r := 3) (t := 3) (by decide) (by decide) y1 y1 y3 y3 hpm hpm2))
  · rw [if_neg c] at hk
    exact x_refuse (w := 5) (by decide) (hk _ ((XT.same hx).fi (by decide)))
theorem x_copy_3_4 (hx : XRc F F) {i j n : Int32} (hk : ∀ F1, XT F F1 (S_copy F (nI 3) i (nI 4) j n).2 → K (some (.int (S_copy F (nI 3) i (nI 4) j n).1)) (hH L xs J s F1)) : mm_call mm_Ex (d + 4) k_X5_copy [.ref 2, .int (nI 3), .int i, .int (nI 4), .int j, .int n] (hH L xs J s F) K := by
  unfold S_copy at hk
  have eR : (nI 3).toNatClampNeg = 3 := tn_nI (by decide)
  have eT : (nI 4).toNatClampNeg = 4 := tn_nI (by decide)
  have vR : vp_in (nI 3) 6 := vp_in_nI (by decide) (by decide)
  have vT : vp_in (nI 4) 6 := vp_in_nI (by decide) (by decide)
  rw [if_pos ⟨by decide, by decide⟩] at hk
  simp only [eR, eT] at hk
  have hs := (hx.1 3 (by decide)).sz
  have ht := (hx.1 4 (by decide)).sz
  have hR : F 40 1 < 0 ↔ ¬ 0 ≤ F 76 3 := hs.1
  have hT : F 42 1 < 0 ↔ ¬ 0 ≤ F 76 4 := ht.1
  have J28 : 0 ≤ n → (F 40 1 < 0 ∨ F 42 1 < 0) → mm_Ex (d + 4) k_X5_copy 28 (0, 0) [.ref 2, .int (nI 3), .int i, .int (nI 4), .int j, .int n] [] (hH L xs J s F) K := fun hn q => by
    rw [if_pos hn, if_neg (fun z => q.elim (fun y => hR.mp y z.1) (fun y => hT.mp y z.2))] at hk
    exact mm_run 20 (x_refuse (w := 1) (by decide) (hk _ ((XT.same hx).fi (by decide))))
  refine mm_run 120 (x_within (And.intro (fun q => absurd q (by decide)) (fun _ => x_within (And.intro (fun _ => And.intro (fun c => ⟨vR, 40, rfl, x_isMissing_40 (And.intro (fun m => J28 c (Or.inl (b2i_p m))) (fun m => ⟨vT, 42, rfl, x_isMissing_42 (And.intro (fun m2 => ⟨vR, 40, rfl, x_hasRun_40 ?_⟩) (fun m2 => J28 c (Or.inr (b2i_p m2))))⟩))⟩) (fun c => ?_)) (fun q => absurd q (by decide))))))
  · have m := b2i_0.mp m
    have m2 := b2i_0.mp m2
    obtain ⟨y, y1, y2, y3⟩ := hs.2 m
    obtain ⟨z, z1, z2, z3⟩ := ht.2 m2
    have y3 : F 40 1 = nI y := y3
    have z3 : F 42 1 = nI z := z3
    rw [if_pos c, if_pos ⟨Classical.not_not.mp (fun q => m (hR.mpr q)), Classical.not_not.mp (fun q => m2 (hT.mpr q))⟩, y2, z2] at hk
    have J48 : ¬ ((0 ≤ i ∧ i ≤ nI y ∧ n ≤ nI y - i) ∧ (0 ≤ j ∧ j ≤ nI z ∧ n ≤ nI z - j)) → mm_Ex (d + 4) k_X5_copy 48 (0, 0) [.ref 2, .int (nI 3), .int i, .int (nI 4), .int j, .int n] [] (hH L xs J s F) K := fun q => by
      rw [if_neg q] at hk
      exact mm_run 20 (x_refuse (w := 2) (by decide) (hk _ ((XT.same hx).fi (by decide))))
    refine And.intro (fun g => J48 fun q => b2i_0.mp g (by rw [y3]; exact ⟨q.1.1, q.1.2.1, c, q.1.2.2⟩)) (fun g => ⟨vT, 42, rfl, x_hasRun_42 (And.intro (fun g2 => ⟨vR, 40, rfl, vT, 42, rfl, ?_⟩) (fun g2 => J48 fun q => b2i_0.mp g2 (by rw [z3]; exact ⟨q.2.1, q.2.2.1, c, q.2.2.2⟩)))⟩)
    have g := b2i_p g
    have g2 := b2i_p g2
    rw [y3] at g
    rw [z3] at g2
    obtain ⟨p, m, rfl, rfl, hpm⟩ := part_of rfl y1 c ⟨g.1, g.2.1, g.2.2.2⟩
    obtain ⟨p2, m', rfl, em, hpm2⟩ := part_of rfl z1 c ⟨g2.1, g2.2.1, g2.2.2.2⟩
    have em : m = m' := (nI_eq (by omega) (by omega)).mp em
    subst em
    rw [if_pos ⟨⟨g.1, g.2.1, g.2.2.2⟩, ⟨g2.1, g2.2.1, g2.2.2.2⟩⟩, tn_nI (n := p) (by omega), tn_nI (n := m) (by omega), tn_nI (n := p2) (by omega)] at hk
    refine ⟨Nat.le_refl _, ⟨nI_pos (by omega), nI_pos (by omega), nI_pos (by omega), by rw [tn_nI (by omega), tn_nI (by omega)]; omega, by rw [tn_nI (by omega), tn_nI (by omega)]; omega⟩, ?_⟩
    rw [tn_nI (n := p) (by omega), tn_nI (n := m) (by omega), tn_nI (n := p2) (by omega)]
    exact kh (hp1 (g := va_cpy (F 41) (F 43) p p2 m) rfl) (hk _ (XT.copy hx (r := 3) (t := 4) (by decide) (by decide) y1 z1 y3 z3 hpm hpm2))
  · rw [if_neg c] at hk
    exact x_refuse (w := 5) (by decide) (hk _ ((XT.same hx).fi (by decide)))
theorem x_copy_3_5 (hx : XRc F F) {i j n : Int32} (hk : ∀ F1, XT F F1 (S_copy F (nI 3) i (nI 5) j n).2 → K (some (.int (S_copy F (nI 3) i (nI 5) j n).1)) (hH L xs J s F1)) : mm_call mm_Ex (d + 4) k_X5_copy [.ref 2, .int (nI 3), .int i, .int (nI 5), .int j, .int n] (hH L xs J s F) K := by
  unfold S_copy at hk
  have eR : (nI 3).toNatClampNeg = 3 := tn_nI (by decide)
  have eT : (nI 5).toNatClampNeg = 5 := tn_nI (by decide)
  have vR : vp_in (nI 3) 6 := vp_in_nI (by decide) (by decide)
  have vT : vp_in (nI 5) 6 := vp_in_nI (by decide) (by decide)
  rw [if_pos ⟨by decide, by decide⟩] at hk
  simp only [eR, eT] at hk
  have hs := (hx.1 3 (by decide)).sz
  have ht := (hx.1 5 (by decide)).sz
  have hR : F 40 1 < 0 ↔ ¬ 0 ≤ F 76 3 := hs.1
  have hT : F 44 1 < 0 ↔ ¬ 0 ≤ F 76 5 := ht.1
  have J28 : 0 ≤ n → (F 40 1 < 0 ∨ F 44 1 < 0) → mm_Ex (d + 4) k_X5_copy 28 (0, 0) [.ref 2, .int (nI 3), .int i, .int (nI 5), .int j, .int n] [] (hH L xs J s F) K := fun hn q => by
    rw [if_pos hn, if_neg (fun z => q.elim (fun y => hR.mp y z.1) (fun y => hT.mp y z.2))] at hk
    exact mm_run 20 (x_refuse (w := 1) (by decide) (hk _ ((XT.same hx).fi (by decide))))
  refine mm_run 120 (x_within (And.intro (fun q => absurd q (by decide)) (fun _ => x_within (And.intro (fun _ => And.intro (fun c => ⟨vR, 40, rfl, x_isMissing_40 (And.intro (fun m => J28 c (Or.inl (b2i_p m))) (fun m => ⟨vT, 44, rfl, x_isMissing_44 (And.intro (fun m2 => ⟨vR, 40, rfl, x_hasRun_40 ?_⟩) (fun m2 => J28 c (Or.inr (b2i_p m2))))⟩))⟩) (fun c => ?_)) (fun q => absurd q (by decide))))))
  · have m := b2i_0.mp m
    have m2 := b2i_0.mp m2
    obtain ⟨y, y1, y2, y3⟩ := hs.2 m
    obtain ⟨z, z1, z2, z3⟩ := ht.2 m2
    have y3 : F 40 1 = nI y := y3
    have z3 : F 44 1 = nI z := z3
    rw [if_pos c, if_pos ⟨Classical.not_not.mp (fun q => m (hR.mpr q)), Classical.not_not.mp (fun q => m2 (hT.mpr q))⟩, y2, z2] at hk
    have J48 : ¬ ((0 ≤ i ∧ i ≤ nI y ∧ n ≤ nI y - i) ∧ (0 ≤ j ∧ j ≤ nI z ∧ n ≤ nI z - j)) → mm_Ex (d + 4) k_X5_copy 48 (0, 0) [.ref 2, .int (nI 3), .int i, .int (nI 5), .int j, .int n] [] (hH L xs J s F) K := fun q => by
      rw [if_neg q] at hk
      exact mm_run 20 (x_refuse (w := 2) (by decide) (hk _ ((XT.same hx).fi (by decide))))
    refine And.intro (fun g => J48 fun q => b2i_0.mp g (by rw [y3]; exact ⟨q.1.1, q.1.2.1, c, q.1.2.2⟩)) (fun g => ⟨vT, 44, rfl, x_hasRun_44 (And.intro (fun g2 => ⟨vR, 40, rfl, vT, 44, rfl, ?_⟩) (fun g2 => J48 fun q => b2i_0.mp g2 (by rw [z3]; exact ⟨q.2.1, q.2.2.1, c, q.2.2.2⟩)))⟩)
    have g := b2i_p g
    have g2 := b2i_p g2
    rw [y3] at g
    rw [z3] at g2
    obtain ⟨p, m, rfl, rfl, hpm⟩ := part_of rfl y1 c ⟨g.1, g.2.1, g.2.2.2⟩
    obtain ⟨p2, m', rfl, em, hpm2⟩ := part_of rfl z1 c ⟨g2.1, g2.2.1, g2.2.2.2⟩
    have em : m = m' := (nI_eq (by omega) (by omega)).mp em
    subst em
    rw [if_pos ⟨⟨g.1, g.2.1, g.2.2.2⟩, ⟨g2.1, g2.2.1, g2.2.2.2⟩⟩, tn_nI (n := p) (by omega), tn_nI (n := m) (by omega), tn_nI (n := p2) (by omega)] at hk
    refine ⟨Nat.le_refl _, ⟨nI_pos (by omega), nI_pos (by omega), nI_pos (by omega), by rw [tn_nI (by omega), tn_nI (by omega)]; omega, by rw [tn_nI (by omega), tn_nI (by omega)]; omega⟩, ?_⟩
    rw [tn_nI (n := p) (by omega), tn_nI (n := m) (by omega), tn_nI (n := p2) (by omega)]
    exact kh (hp1 (g := va_cpy (F 41) (F 45) p p2 m) rfl) (hk _ (XT.copy hx (r := 3) (t := 5) (by decide) (by decide) y1 z1 y3 z3 hpm hpm2))
  · rw [if_neg c] at hk
    exact x_refuse (w := 5) (by decide) (hk _ ((XT.same hx).fi (by decide)))
theorem x_copy_4_0 (hx : XRc F F) {i j n : Int32} (hk : ∀ F1, XT F F1 (S_copy F (nI 4) i (nI 0) j n).2 → K (some (.int (S_copy F (nI 4) i (nI 0) j n).1)) (hH L xs J s F1)) : mm_call mm_Ex (d + 4) k_X5_copy [.ref 2, .int (nI 4), .int i, .int (nI 0), .int j, .int n] (hH L xs J s F) K := by
  unfold S_copy at hk
  have eR : (nI 4).toNatClampNeg = 4 := tn_nI (by decide)
  have eT : (nI 0).toNatClampNeg = 0 := tn_nI (by decide)
  have vR : vp_in (nI 4) 6 := vp_in_nI (by decide) (by decide)
  have vT : vp_in (nI 0) 6 := vp_in_nI (by decide) (by decide)
  rw [if_pos ⟨by decide, by decide⟩] at hk
  simp only [eR, eT] at hk
  have hs := (hx.1 4 (by decide)).sz
  have ht := (hx.1 0 (by decide)).sz
  have hR : F 42 1 < 0 ↔ ¬ 0 ≤ F 76 4 := hs.1
  have hT : F 34 1 < 0 ↔ ¬ 0 ≤ F 76 0 := ht.1
  have J28 : 0 ≤ n → (F 42 1 < 0 ∨ F 34 1 < 0) → mm_Ex (d + 4) k_X5_copy 28 (0, 0) [.ref 2, .int (nI 4), .int i, .int (nI 0), .int j, .int n] [] (hH L xs J s F) K := fun hn q => by
    rw [if_pos hn, if_neg (fun z => q.elim (fun y => hR.mp y z.1) (fun y => hT.mp y z.2))] at hk
    exact mm_run 20 (x_refuse (w := 1) (by decide) (hk _ ((XT.same hx).fi (by decide))))
  refine mm_run 120 (x_within (And.intro (fun q => absurd q (by decide)) (fun _ => x_within (And.intro (fun _ => And.intro (fun c => ⟨vR, 42, rfl, x_isMissing_42 (And.intro (fun m => J28 c (Or.inl (b2i_p m))) (fun m => ⟨vT, 34, rfl, x_isMissing_34 (And.intro (fun m2 => ⟨vR, 42, rfl, x_hasRun_42 ?_⟩) (fun m2 => J28 c (Or.inr (b2i_p m2))))⟩))⟩) (fun c => ?_)) (fun q => absurd q (by decide))))))
  · have m := b2i_0.mp m
    have m2 := b2i_0.mp m2
    obtain ⟨y, y1, y2, y3⟩ := hs.2 m
    obtain ⟨z, z1, z2, z3⟩ := ht.2 m2
    have y3 : F 42 1 = nI y := y3
    have z3 : F 34 1 = nI z := z3
    rw [if_pos c, if_pos ⟨Classical.not_not.mp (fun q => m (hR.mpr q)), Classical.not_not.mp (fun q => m2 (hT.mpr q))⟩, y2, z2] at hk
    have J48 : ¬ ((0 ≤ i ∧ i ≤ nI y ∧ n ≤ nI y - i) ∧ (0 ≤ j ∧ j ≤ nI z ∧ n ≤ nI z - j)) → mm_Ex (d + 4) k_X5_copy 48 (0, 0) [.ref 2, .int (nI 4), .int i, .int (nI 0), .int j, .int n] [] (hH L xs J s F) K := fun q => by
      rw [if_neg q] at hk
      exact mm_run 20 (x_refuse (w := 2) (by decide) (hk _ ((XT.same hx).fi (by decide))))
    refine And.intro (fun g => J48 fun q => b2i_0.mp g (by rw [y3]; exact ⟨q.1.1, q.1.2.1, c, q.1.2.2⟩)) (fun g => ⟨vT, 34, rfl, x_hasRun_34 (And.intro (fun g2 => ⟨vR, 42, rfl, vT, 34, rfl, ?_⟩) (fun g2 => J48 fun q => b2i_0.mp g2 (by rw [z3]; exact ⟨q.2.1, q.2.2.1, c, q.2.2.2⟩)))⟩)
    have g := b2i_p g
    have g2 := b2i_p g2
    rw [y3] at g
    rw [z3] at g2
    obtain ⟨p, m, rfl, rfl, hpm⟩ := part_of rfl y1 c ⟨g.1, g.2.1, g.2.2.2⟩
    obtain ⟨p2, m', rfl, em, hpm2⟩ := part_of rfl z1 c ⟨g2.1, g2.2.1, g2.2.2.2⟩
    have em : m = m' := (nI_eq (by omega) (by omega)).mp em
    subst em
    rw [if_pos ⟨⟨g.1, g.2.1, g.2.2.2⟩, ⟨g2.1, g2.2.1, g2.2.2.2⟩⟩, tn_nI (n := p) (by omega), tn_nI (n := m) (by omega), tn_nI (n := p2) (by omega)] at hk
    refine ⟨Nat.le_refl _, ⟨nI_pos (by omega), nI_pos (by omega), nI_pos (by omega), by rw [tn_nI (by omega), tn_nI (by omega)]; omega, by rw [tn_nI (by omega), tn_nI (by omega)]; omega⟩, ?_⟩
    rw [tn_nI (n := p) (by omega), tn_nI (n := m) (by omega), tn_nI (n := p2) (by omega)]
    exact kh (hp1 (g := va_cpy (F 43) (F 35) p p2 m) rfl) (hk _ (XT.copy hx (r := 4) (t := 0) (by decide) (by decide) y1 z1 y3 z3 hpm hpm2))
  · rw [if_neg c] at hk
    exact x_refuse (w := 5) (by decide) (hk _ ((XT.same hx).fi (by decide)))
theorem x_copy_4_1 (hx : XRc F F) {i j n : Int32} (hk : ∀ F1, XT F F1 (S_copy F (nI 4) i (nI 1) j n).2 → K (some (.int (S_copy F (nI 4) i (nI 1) j n).1)) (hH L xs J s F1)) : mm_call mm_Ex (d + 4) k_X5_copy [.ref 2, .int (nI 4), .int i, .int (nI 1), .int j, .int n] (hH L xs J s F) K := by
  unfold S_copy at hk
  have eR : (nI 4).toNatClampNeg = 4 := tn_nI (by decide)
  have eT : (nI 1).toNatClampNeg = 1 := tn_nI (by decide)
  have vR : vp_in (nI 4) 6 := vp_in_nI (by decide) (by decide)
  have vT : vp_in (nI 1) 6 := vp_in_nI (by decide) (by decide)
  rw [if_pos ⟨by decide, by decide⟩] at hk
  simp only [eR, eT] at hk
  have hs := (hx.1 4 (by decide)).sz
  have ht := (hx.1 1 (by decide)).sz
  have hR : F 42 1 < 0 ↔ ¬ 0 ≤ F 76 4 := hs.1
  have hT : F 36 1 < 0 ↔ ¬ 0 ≤ F 76 1 := ht.1
  have J28 : 0 ≤ n → (F 42 1 < 0 ∨ F 36 1 < 0) → mm_Ex (d + 4) k_X5_copy 28 (0, 0) [.ref 2, .int (nI 4), .int i, .int (nI 1), .int j, .int n] [] (hH L xs J s F) K := fun hn q => by
    rw [if_pos hn, if_neg (fun z => q.elim (fun y => hR.mp y z.1) (fun y => hT.mp y z.2))] at hk
    exact mm_run 20 (x_refuse (w := 1) (by decide) (hk _ ((XT.same hx).fi (by decide))))
  refine mm_run 120 (x_within (And.intro (fun q => absurd q (by decide)) (fun _ => x_within (And.intro (fun _ => And.intro (fun c => ⟨vR, 42, rfl, x_isMissing_42 (And.intro (fun m => J28 c (Or.inl (b2i_p m))) (fun m => ⟨vT, 36, rfl, x_isMissing_36 (And.intro (fun m2 => ⟨vR, 42, rfl, x_hasRun_42 ?_⟩) (fun m2 => J28 c (Or.inr (b2i_p m2))))⟩))⟩) (fun c => ?_)) (fun q => absurd q (by decide))))))
  · have m := b2i_0.mp m
    have m2 := b2i_0.mp m2
    obtain ⟨y, y1, y2, y3⟩ := hs.2 m
    obtain ⟨z, z1, z2, z3⟩ := ht.2 m2
    have y3 : F 42 1 = nI y := y3
    have z3 : F 36 1 = nI z := z3
    rw [if_pos c, if_pos ⟨Classical.not_not.mp (fun q => m (hR.mpr q)), Classical.not_not.mp (fun q => m2 (hT.mpr q))⟩, y2, z2] at hk
    have J48 : ¬ ((0 ≤ i ∧ i ≤ nI y ∧ n ≤ nI y - i) ∧ (0 ≤ j ∧ j ≤ nI z ∧ n ≤ nI z - j)) → mm_Ex (d + 4) k_X5_copy 48 (0, 0) [.ref 2, .int (nI 4), .int i, .int (nI 1), .int j, .int n] [] (hH L xs J s F) K := fun q => by
      rw [if_neg q] at hk
      exact mm_run 20 (x_refuse (w := 2) (by decide) (hk _ ((XT.same hx).fi (by decide))))
    refine And.intro (fun g => J48 fun q => b2i_0.mp g (by rw [y3]; exact ⟨q.1.1, q.1.2.1, c, q.1.2.2⟩)) (fun g => ⟨vT, 36, rfl, x_hasRun_36 (And.intro (fun g2 => ⟨vR, 42, rfl, vT, 36, rfl, ?_⟩) (fun g2 => J48 fun q => b2i_0.mp g2 (by rw [z3]; exact ⟨q.2.1, q.2.2.1, c, q.2.2.2⟩)))⟩)
    have g := b2i_p g
    have g2 := b2i_p g2
    rw [y3] at g
    rw [z3] at g2
    obtain ⟨p, m, rfl, rfl, hpm⟩ := part_of rfl y1 c ⟨g.1, g.2.1, g.2.2.2⟩
    obtain ⟨p2, m', rfl, em, hpm2⟩ := part_of rfl z1 c ⟨g2.1, g2.2.1, g2.2.2.2⟩
    have em : m = m' := (nI_eq (by omega) (by omega)).mp em
    subst em
    rw [if_pos ⟨⟨g.1, g.2.1, g.2.2.2⟩, ⟨g2.1, g2.2.1, g2.2.2.2⟩⟩, tn_nI (n := p) (by omega), tn_nI (n := m) (by omega), tn_nI (n := p2) (by omega)] at hk
    refine ⟨Nat.le_refl _, ⟨nI_pos (by omega), nI_pos (by omega), nI_pos (by omega), by rw [tn_nI (by omega), tn_nI (by omega)]; omega, by rw [tn_nI (by omega), tn_nI (by omega)]; omega⟩, ?_⟩
    rw [tn_nI (n := p) (by omega), tn_nI (n := m) (by omega), tn_nI (n := p2) (by omega)]
    exact kh (hp1 (g := va_cpy (F 43) (F 37) p p2 m) rfl) (hk _ (XT.copy hx (r := 4) (t := 1) (by decide) (by decide) y1 z1 y3 z3 hpm hpm2))
  · rw [if_neg c] at hk
    exact x_refuse (w := 5) (by decide) (hk _ ((XT.same hx).fi (by decide)))
theorem x_copy_4_2 (hx : XRc F F) {i j n : Int32} (hk : ∀ F1, XT F F1 (S_copy F (nI 4) i (nI 2) j n).2 → K (some (.int (S_copy F (nI 4) i (nI 2) j n).1)) (hH L xs J s F1)) : mm_call mm_Ex (d + 4) k_X5_copy [.ref 2, .int (nI 4), .int i, .int (nI 2), .int j, .int n] (hH L xs J s F) K := by
  unfold S_copy at hk
  have eR : (nI 4).toNatClampNeg = 4 := tn_nI (by decide)
  have eT : (nI 2).toNatClampNeg = 2 := tn_nI (by decide)
  have vR : vp_in (nI 4) 6 := vp_in_nI (by decide) (by decide)
  have vT : vp_in (nI 2) 6 := vp_in_nI (by decide) (by decide)
  rw [if_pos ⟨by decide, by decide⟩] at hk
  simp only [eR, eT] at hk
  have hs := (hx.1 4 (by decide)).sz
  have ht := (hx.1 2 (by decide)).sz
  have hR : F 42 1 < 0 ↔ ¬ 0 ≤ F 76 4 := hs.1
  have hT : F 38 1 < 0 ↔ ¬ 0 ≤ F 76 2 := ht.1
  have J28 : 0 ≤ n → (F 42 1 < 0 ∨ F 38 1 < 0) → mm_Ex (d + 4) k_X5_copy 28 (0, 0) [.ref 2, .int (nI 4), .int i, .int (nI 2), .int j, .int n] [] (hH L xs J s F) K := fun hn q => by
    rw [if_pos hn, if_neg (fun z => q.elim (fun y => hR.mp y z.1) (fun y => hT.mp y z.2))] at hk
    exact mm_run 20 (x_refuse (w := 1) (by decide) (hk _ ((XT.same hx).fi (by decide))))
  refine mm_run 120 (x_within (And.intro (fun q => absurd q (by decide)) (fun _ => x_within (And.intro (fun _ => And.intro (fun c => ⟨vR, 42, rfl, x_isMissing_42 (And.intro (fun m => J28 c (Or.inl (b2i_p m))) (fun m => ⟨vT, 38, rfl, x_isMissing_38 (And.intro (fun m2 => ⟨vR, 42, rfl, x_hasRun_42 ?_⟩) (fun m2 => J28 c (Or.inr (b2i_p m2))))⟩))⟩) (fun c => ?_)) (fun q => absurd q (by decide))))))
  · have m := b2i_0.mp m
    have m2 := b2i_0.mp m2
    obtain ⟨y, y1, y2, y3⟩ := hs.2 m
    obtain ⟨z, z1, z2, z3⟩ := ht.2 m2
    have y3 : F 42 1 = nI y := y3
    have z3 : F 38 1 = nI z := z3
    rw [if_pos c, if_pos ⟨Classical.not_not.mp (fun q => m (hR.mpr q)), Classical.not_not.mp (fun q => m2 (hT.mpr q))⟩, y2, z2] at hk
    have J48 : ¬ ((0 ≤ i ∧ i ≤ nI y ∧ n ≤ nI y - i) ∧ (0 ≤ j ∧ j ≤ nI z ∧ n ≤ nI z - j)) → mm_Ex (d + 4) k_X5_copy 48 (0, 0) [.ref 2, .int (nI 4), .int i, .int (nI 2), .int j, .int n] [] (hH L xs J s F) K := fun q => by
      rw [if_neg q] at hk
      exact mm_run 20 (x_refuse (w := 2) (by decide) (hk _ ((XT.same hx).fi (by decide))))
    refine And.intro (fun g => J48 fun q => b2i_0.mp g (by rw [y3]; exact ⟨q.1.1, q.1.2.1, c, q.1.2.2⟩)) (fun g => ⟨vT, 38, rfl, x_hasRun_38 (And.intro (fun g2 => ⟨vR, 42, rfl, vT, 38, rfl, ?_⟩) (fun g2 => J48 fun q => b2i_0.mp g2 (by rw [z3]; exact ⟨q.2.1, q.2.2.1, c, q.2.2.2⟩)))⟩)
    have g := b2i_p g
    have g2 := b2i_p g2
    rw [y3] at g
    rw [z3] at g2
    obtain ⟨p, m, rfl, rfl, hpm⟩ := part_of rfl y1 c ⟨g.1, g.2.1, g.2.2.2⟩
    obtain ⟨p2, m', rfl, em, hpm2⟩ := part_of rfl z1 c ⟨g2.1, g2.2.1, g2.2.2.2⟩
    have em : m = m' := (nI_eq (by omega) (by omega)).mp em
    subst em
    rw [if_pos ⟨⟨g.1, g.2.1, g.2.2.2⟩, ⟨g2.1, g2.2.1, g2.2.2.2⟩⟩, tn_nI (n := p) (by omega), tn_nI (n := m) (by omega), tn_nI (n := p2) (by omega)] at hk
    refine ⟨Nat.le_refl _, ⟨nI_pos (by omega), nI_pos (by omega), nI_pos (by omega), by rw [tn_nI (by omega), tn_nI (by omega)]; omega, by rw [tn_nI (by omega), tn_nI (by omega)]; omega⟩, ?_⟩
    rw [tn_nI (n := p) (by omega), tn_nI (n := m) (by omega), tn_nI (n := p2) (by omega)]
    exact kh (hp1 (g := va_cpy (F 43) (F 39) p p2 m) rfl) (hk _ (XT.copy hx (r := 4) (t := 2) (by decide) (by decide) y1 z1 y3 z3 hpm hpm2))
  · rw [if_neg c] at hk
    exact x_refuse (w := 5) (by decide) (hk _ ((XT.same hx).fi (by decide)))
theorem x_copy_4_3 (hx : XRc F F) {i j n : Int32} (hk : ∀ F1, XT F F1 (S_copy F (nI 4) i (nI 3) j n).2 → K (some (.int (S_copy F (nI 4) i (nI 3) j n).1)) (hH L xs J s F1)) : mm_call mm_Ex (d + 4) k_X5_copy [.ref 2, .int (nI 4), .int i, .int (nI 3), .int j, .int n] (hH L xs J s F) K := by
  unfold S_copy at hk
  have eR : (nI 4).toNatClampNeg = 4 := tn_nI (by decide)
  have eT : (nI 3).toNatClampNeg = 3 := tn_nI (by decide)
  have vR : vp_in (nI 4) 6 := vp_in_nI (by decide) (by decide)
  have vT : vp_in (nI 3) 6 := vp_in_nI (by decide) (by decide)
  rw [if_pos ⟨by decide, by decide⟩] at hk
  simp only [eR, eT] at hk
  have hs := (hx.1 4 (by decide)).sz
  have ht := (hx.1 3 (by decide)).sz
  have hR : F 42 1 < 0 ↔ ¬ 0 ≤ F 76 4 := hs.1
  have hT : F 40 1 < 0 ↔ ¬ 0 ≤ F 76 3 := ht.1
  have J28 : 0 ≤ n → (F 42 1 < 0 ∨ F 40 1 < 0) → mm_Ex (d + 4) k_X5_copy 28 (0, 0) [.ref 2, .int (nI 4), .int i, .int (nI 3), .int j, .int n] [] (hH L xs J s F) K := fun hn q => by
    rw [if_pos hn, if_neg (fun z => q.elim (fun y => hR.mp y z.1) (fun y => hT.mp y z.2))] at hk
    exact mm_run 20 (x_refuse (w := 1) (by decide) (hk _ ((XT.same hx).fi (by decide))))
  refine mm_run 120 (x_within (And.intro (fun q => absurd q (by decide)) (fun _ => x_within (And.intro (fun _ => And.intro (fun c => ⟨vR, 42, rfl, x_isMissing_42 (And.intro (fun m => J28 c (Or.inl (b2i_p m))) (fun m => ⟨vT, 40, rfl, x_isMissing_40 (And.intro (fun m2 => ⟨vR, 42, rfl, x_hasRun_42 ?_⟩) (fun m2 => J28 c (Or.inr (b2i_p m2))))⟩))⟩) (fun c => ?_)) (fun q => absurd q (by decide))))))
  · have m := b2i_0.mp m
    have m2 := b2i_0.mp m2
    obtain ⟨y, y1, y2, y3⟩ := hs.2 m
    obtain ⟨z, z1, z2, z3⟩ := ht.2 m2
    have y3 : F 42 1 = nI y := y3
    have z3 : F 40 1 = nI z := z3
    rw [if_pos c, if_pos ⟨Classical.not_not.mp (fun q => m (hR.mpr q)), Classical.not_not.mp (fun q => m2 (hT.mpr q))⟩, y2, z2] at hk
    have J48 : ¬ ((0 ≤ i ∧ i ≤ nI y ∧ n ≤ nI y - i) ∧ (0 ≤ j ∧ j ≤ nI z ∧ n ≤ nI z - j)) → mm_Ex (d + 4) k_X5_copy 48 (0, 0) [.ref 2, .int (nI 4), .int i, .int (nI 3), .int j, .int n] [] (hH L xs J s F) K := fun q => by
      rw [if_neg q] at hk
      exact mm_run 20 (x_refuse (w := 2) (by decide) (hk _ ((XT.same hx).fi (by decide))))
    refine And.intro (fun g => J48 fun q => b2i_0.mp g (by rw [y3]; exact ⟨q.1.1, q.1.2.1, c, q.1.2.2⟩)) (fun g => ⟨vT, 40, rfl, x_hasRun_40 (And.intro (fun g2 => ⟨vR, 42, rfl, vT, 40, rfl, ?_⟩) (fun g2 => J48 fun q => b2i_0.mp g2 (by rw [z3]; exact ⟨q.2.1, q.2.2.1, c, q.2.2.2⟩)))⟩)
    have g := b2i_p g
    have g2 := b2i_p g2
    rw [y3] at g
    rw [z3] at g2
    obtain ⟨p, m, rfl, rfl, hpm⟩ := part_of rfl y1 c ⟨g.1, g.2.1, g.2.2.2⟩
    obtain ⟨p2, m', rfl, em, hpm2⟩ := part_of rfl z1 c ⟨g2.1, g2.2.1, g2.2.2.2⟩
    have em : m = m' := (nI_eq (by omega) (by omega)).mp em
    subst em
    rw [if_pos ⟨⟨g.1, g.2.1, g.2.2.2⟩, ⟨g2.1, g2.2.1, g2.2.2.2⟩⟩, tn_nI (n := p) (by omega), tn_nI (n := m) (by omega), tn_nI (n := p2) (by omega)] at hk
    refine ⟨Nat.le_refl _, ⟨nI_pos (by omega), nI_pos (by omega), nI_pos (by omega), by rw [tn_nI (by omega), tn_nI (by omega)]; omega, by rw [tn_nI (by omega), tn_nI (by omega)]; omega⟩, ?_⟩
    rw [tn_nI (n := p) (by omega), tn_nI (n := m) (by omega), tn_nI (n := p2) (by omega)]
    exact kh (hp1 (g := va_cpy (F 43) (F 41) p p2 m) rfl) (hk _ (XT.copy hx (r := 4) (t := 3) (by decide) (by decide) y1 z1 y3 z3 hpm hpm2))
  · rw [if_neg c] at hk
    exact x_refuse (w := 5) (by decide) (hk _ ((XT.same hx).fi (by decide)))
theorem x_copy_4_4 (hx : XRc F F) {i j n : Int32} (hk : ∀ F1, XT F F1 (S_copy F (nI 4) i (nI 4) j n).2 → K (some (.int (S_copy F (nI 4) i (nI 4) j n).1)) (hH L xs J s F1)) : mm_call mm_Ex (d + 4) k_X5_copy [.ref 2, .int (nI 4), .int i, .int (nI 4), .int j, .int n] (hH L xs J s F) K := by
  unfold S_copy at hk
  have eR : (nI 4).toNatClampNeg = 4 := tn_nI (by decide)
  have eT : (nI 4).toNatClampNeg = 4 := tn_nI (by decide)
  have vR : vp_in (nI 4) 6 := vp_in_nI (by decide) (by decide)
  have vT : vp_in (nI 4) 6 := vp_in_nI (by decide) (by decide)
  rw [if_pos ⟨by decide, by decide⟩] at hk
  simp only [eR, eT] at hk
  have hs := (hx.1 4 (by decide)).sz
  have ht := (hx.1 4 (by decide)).sz
  have hR : F 42 1 < 0 ↔ ¬ 0 ≤ F 76 4 := hs.1
  have hT : F 42 1 < 0 ↔ ¬ 0 ≤ F 76 4 := ht.1
  have J28 : 0 ≤ n → (F 42 1 < 0 ∨ F 42 1 < 0) → mm_Ex (d + 4) k_X5_copy 28 (0, 0) [.ref 2, .int (nI 4), .int i, .int (nI 4), .int j, .int n] [] (hH L xs J s F) K := fun hn q => by
    rw [if_pos hn, if_neg (fun z => q.elim (fun y => hR.mp y z.1) (fun y => hT.mp y z.2))] at hk
    exact mm_run 20 (x_refuse (w := 1) (by decide) (hk _ ((XT.same hx).fi (by decide))))
  refine mm_run 120 (x_within (And.intro (fun q => absurd q (by decide)) (fun _ => x_within (And.intro (fun _ => And.intro (fun c => ⟨vR, 42, rfl, x_isMissing_42 (And.intro (fun m => J28 c (Or.inl (b2i_p m))) (fun m => ⟨vT, 42, rfl, x_isMissing_42 (And.intro (fun m2 => ⟨vR, 42, rfl, x_hasRun_42 ?_⟩) (fun m2 => J28 c (Or.inr (b2i_p m2))))⟩))⟩) (fun c => ?_)) (fun q => absurd q (by decide))))))
  · have m := b2i_0.mp m
    have m2 := b2i_0.mp m2
    obtain ⟨y, y1, y2, y3⟩ := hs.2 m
    have y3 : F 42 1 = nI y := y3
    rw [if_pos c, if_pos ⟨Classical.not_not.mp (fun q => m (hR.mpr q)), Classical.not_not.mp (fun q => m2 (hT.mpr q))⟩, y2] at hk
    have J48 : ¬ ((0 ≤ i ∧ i ≤ nI y ∧ n ≤ nI y - i) ∧ (0 ≤ j ∧ j ≤ nI y ∧ n ≤ nI y - j)) → mm_Ex (d + 4) k_X5_copy 48 (0, 0) [.ref 2, .int (nI 4), .int i, .int (nI 4), .int j, .int n] [] (hH L xs J s F) K := fun q => by
      rw [if_neg q] at hk
      exact mm_run 20 (x_refuse (w := 2) (by decide) (hk _ ((XT.same hx).fi (by decide))))
    refine And.intro (fun g => J48 fun q => b2i_0.mp g (by rw [y3]; exact ⟨q.1.1, q.1.2.1, c, q.1.2.2⟩)) (fun g => ⟨vT, 42, rfl, x_hasRun_42 (And.intro (fun g2 => ⟨vR, 42, rfl, vT, 42, rfl, ?_⟩) (fun g2 => J48 fun q => b2i_0.mp g2 (by rw [y3]; exact ⟨q.2.1, q.2.2.1, c, q.2.2.2⟩)))⟩)
    have g := b2i_p g
    have g2 := b2i_p g2
    rw [y3] at g
    rw [y3] at g2
    obtain ⟨p, m, rfl, rfl, hpm⟩ := part_of rfl y1 c ⟨g.1, g.2.1, g.2.2.2⟩
    obtain ⟨p2, m', rfl, em, hpm2⟩ := part_of rfl y1 c ⟨g2.1, g2.2.1, g2.2.2.2⟩
    have em : m = m' := (nI_eq (by omega) (by omega)).mp em
    subst em
    rw [if_pos ⟨⟨g.1, g.2.1, g.2.2.2⟩, ⟨g2.1, g2.2.1, g2.2.2.2⟩⟩, tn_nI (n := p) (by omega), tn_nI (n := m) (by omega), tn_nI (n := p2) (by omega)] at hk
    refine ⟨Nat.le_refl _, ⟨nI_pos (by omega), nI_pos (by omega), nI_pos (by omega), by rw [tn_nI (by omega), tn_nI (by omega)]; omega, by rw [tn_nI (by omega), tn_nI (by omega)]; omega⟩, ?_⟩
    rw [tn_nI (n := p) (by omega), tn_nI (n := m) (by omega), tn_nI (n := p2) (by omega)]
    exact kh (hp1 (g := va_cpy (F 43) (F 43) p p2 m) rfl) (hk _ (XT.copy hx (r := 4) (t := 4) (by decide) (by decide) y1 y1 y3 y3 hpm hpm2))
  · rw [if_neg c] at hk
    exact x_refuse (w := 5) (by decide) (hk _ ((XT.same hx).fi (by decide)))
theorem x_copy_4_5 (hx : XRc F F) {i j n : Int32} (hk : ∀ F1, XT F F1 (S_copy F (nI 4) i (nI 5) j n).2 → K (some (.int (S_copy F (nI 4) i (nI 5) j n).1)) (hH L xs J s F1)) : mm_call mm_Ex (d + 4) k_X5_copy [.ref 2, .int (nI 4), .int i, .int (nI 5), .int j, .int n] (hH L xs J s F) K := by
  unfold S_copy at hk
  have eR : (nI 4).toNatClampNeg = 4 := tn_nI (by decide)
  have eT : (nI 5).toNatClampNeg = 5 := tn_nI (by decide)
  have vR : vp_in (nI 4) 6 := vp_in_nI (by decide) (by decide)
  have vT : vp_in (nI 5) 6 := vp_in_nI (by decide) (by decide)
  rw [if_pos ⟨by decide, by decide⟩] at hk
  simp only [eR, eT] at hk
  have hs := (hx.1 4 (by decide)).sz
  have ht := (hx.1 5 (by decide)).sz
  have hR : F 42 1 < 0 ↔ ¬ 0 ≤ F 76 4 := hs.1
  have hT : F 44 1 < 0 ↔ ¬ 0 ≤ F 76 5 := ht.1
  have J28 : 0 ≤ n → (F 42 1 < 0 ∨ F 44 1 < 0) → mm_Ex (d + 4) k_X5_copy 28 (0, 0) [.ref 2, .int (nI 4), .int i, .int (nI 5), .int j, .int n] [] (hH L xs J s F) K := fun hn q => by
    rw [if_pos hn, if_neg (fun z => q.elim (fun y => hR.mp y z.1) (fun y => hT.mp y z.2))] at hk
    exact mm_run 20 (x_refuse (w := 1) (by decide) (hk _ ((XT.same hx).fi (by decide))))
  refine mm_run 120 (x_within (And.intro (fun q => absurd q (by decide)) (fun _ => x_within (And.intro (fun _ => And.intro (fun c => ⟨vR, 42, rfl, x_isMissing_42 (And.intro (fun m => J28 c (Or.inl (b2i_p m))) (fun m => ⟨vT, 44, rfl, x_isMissing_44 (And.intro (fun m2 => ⟨vR, 42, rfl, x_hasRun_42 ?_⟩) (fun m2 => J28 c (Or.inr (b2i_p m2))))⟩))⟩) (fun c => ?_)) (fun q => absurd q (by decide))))))
  · have m := b2i_0.mp m
    have m2 := b2i_0.mp m2
    obtain ⟨y, y1, y2, y3⟩ := hs.2 m
    obtain ⟨z, z1, z2, z3⟩ := ht.2 m2
    have y3 : F 42 1 = nI y := y3
    have z3 : F 44 1 = nI z := z3
    rw [if_pos c, if_pos ⟨Classical.not_not.mp (fun q => m (hR.mpr q)), Classical.not_not.mp (fun q => m2 (hT.mpr q))⟩, y2, z2] at hk
    have J48 : ¬ ((0 ≤ i ∧ i ≤ nI y ∧ n ≤ nI y - i) ∧ (0 ≤ j ∧ j ≤ nI z ∧ n ≤ nI z - j)) → mm_Ex (d + 4) k_X5_copy 48 (0, 0) [.ref 2, .int (nI 4), .int i, .int (nI 5), .int j, .int n] [] (hH L xs J s F) K := fun q => by
      rw [if_neg q] at hk
      exact mm_run 20 (x_refuse (w := 2) (by decide) (hk _ ((XT.same hx).fi (by decide))))
    refine And.intro (fun g => J48 fun q => b2i_0.mp g (by rw [y3]; exact ⟨q.1.1, q.1.2.1, c, q.1.2.2⟩)) (fun g => ⟨vT, 44, rfl, x_hasRun_44 (And.intro (fun g2 => ⟨vR, 42, rfl, vT, 44, rfl, ?_⟩) (fun g2 => J48 fun q => b2i_0.mp g2 (by rw [z3]; exact ⟨q.2.1, q.2.2.1, c, q.2.2.2⟩)))⟩)
    have g := b2i_p g
    have g2 := b2i_p g2
    rw [y3] at g
    rw [z3] at g2
    obtain ⟨p, m, rfl, rfl, hpm⟩ := part_of rfl y1 c ⟨g.1, g.2.1, g.2.2.2⟩
    obtain ⟨p2, m', rfl, em, hpm2⟩ := part_of rfl z1 c ⟨g2.1, g2.2.1, g2.2.2.2⟩
    have em : m = m' := (nI_eq (by omega) (by omega)).mp em
    subst em
    rw [if_pos ⟨⟨g.1, g.2.1, g.2.2.2⟩, ⟨g2.1, g2.2.1, g2.2.2.2⟩⟩, tn_nI (n := p) (by omega), tn_nI (n := m) (by omega), tn_nI (n := p2) (by omega)] at hk
    refine ⟨Nat.le_refl _, ⟨nI_pos (by omega), nI_pos (by omega), nI_pos (by omega), by rw [tn_nI (by omega), tn_nI (by omega)]; omega, by rw [tn_nI (by omega), tn_nI (by omega)]; omega⟩, ?_⟩
    rw [tn_nI (n := p) (by omega), tn_nI (n := m) (by omega), tn_nI (n := p2) (by omega)]
    exact kh (hp1 (g := va_cpy (F 43) (F 45) p p2 m) rfl) (hk _ (XT.copy hx (r := 4) (t := 5) (by decide) (by decide) y1 z1 y3 z3 hpm hpm2))
  · rw [if_neg c] at hk
    exact x_refuse (w := 5) (by decide) (hk _ ((XT.same hx).fi (by decide)))
theorem x_copy_5_0 (hx : XRc F F) {i j n : Int32} (hk : ∀ F1, XT F F1 (S_copy F (nI 5) i (nI 0) j n).2 → K (some (.int (S_copy F (nI 5) i (nI 0) j n).1)) (hH L xs J s F1)) : mm_call mm_Ex (d + 4) k_X5_copy [.ref 2, .int (nI 5), .int i, .int (nI 0), .int j, .int n] (hH L xs J s F) K := by
  unfold S_copy at hk
  have eR : (nI 5).toNatClampNeg = 5 := tn_nI (by decide)
  have eT : (nI 0).toNatClampNeg = 0 := tn_nI (by decide)
  have vR : vp_in (nI 5) 6 := vp_in_nI (by decide) (by decide)
  have vT : vp_in (nI 0) 6 := vp_in_nI (by decide) (by decide)
  rw [if_pos ⟨by decide, by decide⟩] at hk
  simp only [eR, eT] at hk
  have hs := (hx.1 5 (by decide)).sz
  have ht := (hx.1 0 (by decide)).sz
  have hR : F 44 1 < 0 ↔ ¬ 0 ≤ F 76 5 := hs.1
  have hT : F 34 1 < 0 ↔ ¬ 0 ≤ F 76 0 := ht.1
  have J28 : 0 ≤ n → (F 44 1 < 0 ∨ F 34 1 < 0) → mm_Ex (d + 4) k_X5_copy 28 (0, 0) [.ref 2, .int (nI 5), .int i, .int (nI 0), .int j, .int n] [] (hH L xs J s F) K := fun hn q => by
    rw [if_pos hn, if_neg (fun z => q.elim (fun y => hR.mp y z.1) (fun y => hT.mp y z.2))] at hk
    exact mm_run 20 (x_refuse (w := 1) (by decide) (hk _ ((XT.same hx).fi (by decide))))
  refine mm_run 120 (x_within (And.intro (fun q => absurd q (by decide)) (fun _ => x_within (And.intro (fun _ => And.intro (fun c => ⟨vR, 44, rfl, x_isMissing_44 (And.intro (fun m => J28 c (Or.inl (b2i_p m))) (fun m => ⟨vT, 34, rfl, x_isMissing_34 (And.intro (fun m2 => ⟨vR, 44, rfl, x_hasRun_44 ?_⟩) (fun m2 => J28 c (Or.inr (b2i_p m2))))⟩))⟩) (fun c => ?_)) (fun q => absurd q (by decide))))))
  · have m := b2i_0.mp m
    have m2 := b2i_0.mp m2
    obtain ⟨y, y1, y2, y3⟩ := hs.2 m
    obtain ⟨z, z1, z2, z3⟩ := ht.2 m2
    have y3 : F 44 1 = nI y := y3
    have z3 : F 34 1 = nI z := z3
    rw [if_pos c, if_pos ⟨Classical.not_not.mp (fun q => m (hR.mpr q)), Classical.not_not.mp (fun q => m2 (hT.mpr q))⟩, y2, z2] at hk
    have J48 : ¬ ((0 ≤ i ∧ i ≤ nI y ∧ n ≤ nI y - i) ∧ (0 ≤ j ∧ j ≤ nI z ∧ n ≤ nI z - j)) → mm_Ex (d + 4) k_X5_copy 48 (0, 0) [.ref 2, .int (nI 5), .int i, .int (nI 0), .int j, .int n] [] (hH L xs J s F) K := fun q => by
      rw [if_neg q] at hk
      exact mm_run 20 (x_refuse (w := 2) (by decide) (hk _ ((XT.same hx).fi (by decide))))
    refine And.intro (fun g => J48 fun q => b2i_0.mp g (by rw [y3]; exact ⟨q.1.1, q.1.2.1, c, q.1.2.2⟩)) (fun g => ⟨vT, 34, rfl, x_hasRun_34 (And.intro (fun g2 => ⟨vR, 44, rfl, vT, 34, rfl, ?_⟩) (fun g2 => J48 fun q => b2i_0.mp g2 (by rw [z3]; exact ⟨q.2.1, q.2.2.1, c, q.2.2.2⟩)))⟩)
    have g := b2i_p g
    have g2 := b2i_p g2
    rw [y3] at g
    rw [z3] at g2
    obtain ⟨p, m, rfl, rfl, hpm⟩ := part_of rfl y1 c ⟨g.1, g.2.1, g.2.2.2⟩
    obtain ⟨p2, m', rfl, em, hpm2⟩ := part_of rfl z1 c ⟨g2.1, g2.2.1, g2.2.2.2⟩
    have em : m = m' := (nI_eq (by omega) (by omega)).mp em
    subst em
    rw [if_pos ⟨⟨g.1, g.2.1, g.2.2.2⟩, ⟨g2.1, g2.2.1, g2.2.2.2⟩⟩, tn_nI (n := p) (by omega), tn_nI (n := m) (by omega), tn_nI (n := p2) (by omega)] at hk
    refine ⟨Nat.le_refl _, ⟨nI_pos (by omega), nI_pos (by omega), nI_pos (by omega), by rw [tn_nI (by omega), tn_nI (by omega)]; omega, by rw [tn_nI (by omega), tn_nI (by omega)]; omega⟩, ?_⟩
    rw [tn_nI (n := p) (by omega), tn_nI (n := m) (by omega), tn_nI (n := p2) (by omega)]
    exact kh (hp1 (g := va_cpy (F 45) (F 35) p p2 m) rfl) (hk _ (XT.copy hx (r := 5) (t := 0) (by decide) (by decide) y1 z1 y3 z3 hpm hpm2))
  · rw [if_neg c] at hk
    exact x_refuse (w := 5) (by decide) (hk _ ((XT.same hx).fi (by decide)))
theorem x_copy_5_1 (hx : XRc F F) {i j n : Int32} (hk : ∀ F1, XT F F1 (S_copy F (nI 5) i (nI 1) j n).2 → K (some (.int (S_copy F (nI 5) i (nI 1) j n).1)) (hH L xs J s F1)) : mm_call mm_Ex (d + 4) k_X5_copy [.ref 2, .int (nI 5), .int i, .int (nI 1), .int j, .int n] (hH L xs J s F) K := by
  unfold S_copy at hk
  have eR : (nI 5).toNatClampNeg = 5 := tn_nI (by decide)
  have eT : (nI 1).toNatClampNeg = 1 := tn_nI (by decide)
  have vR : vp_in (nI 5) 6 := vp_in_nI (by decide) (by decide)
  have vT : vp_in (nI 1) 6 := vp_in_nI (by decide) (by decide)
  rw [if_pos ⟨by decide, by decide⟩] at hk
  simp only [eR, eT] at hk
  have hs := (hx.1 5 (by decide)).sz
  have ht := (hx.1 1 (by decide)).sz
  have hR : F 44 1 < 0 ↔ ¬ 0 ≤ F 76 5 := hs.1
  have hT : F 36 1 < 0 ↔ ¬ 0 ≤ F 76 1 := ht.1
  have J28 : 0 ≤ n → (F 44 1 < 0 ∨ F 36 1 < 0) → mm_Ex (d + 4) k_X5_copy 28 (0, 0) [.ref 2, .int (nI 5), .int i, .int (nI 1), .int j, .int n] [] (hH L xs J s F) K := fun hn q => by
    rw [if_pos hn, if_neg (fun z => q.elim (fun y => hR.mp y z.1) (fun y => hT.mp y z.2))] at hk
    exact mm_run 20 (x_refuse (w := 1) (by decide) (hk _ ((XT.same hx).fi (by decide))))
  refine mm_run 120 (x_within (And.intro (fun q => absurd q (by decide)) (fun _ => x_within (And.intro (fun _ => And.intro (fun c => ⟨vR, 44, rfl, x_isMissing_44 (And.intro (fun m => J28 c (Or.inl (b2i_p m))) (fun m => ⟨vT, 36, rfl, x_isMissing_36 (And.intro (fun m2 => ⟨vR, 44, rfl, x_hasRun_44 ?_⟩) (fun m2 => J28 c (Or.inr (b2i_p m2))))⟩))⟩) (fun c => ?_)) (fun q => absurd q (by decide))))))
  · have m := b2i_0.mp m
    have m2 := b2i_0.mp m2
    obtain ⟨y, y1, y2, y3⟩ := hs.2 m
    obtain ⟨z, z1, z2, z3⟩ := ht.2 m2
    have y3 : F 44 1 = nI y := y3
    have z3 : F 36 1 = nI z := z3
    rw [if_pos c, if_pos ⟨Classical.not_not.mp (fun q => m (hR.mpr q)), Classical.not_not.mp (fun q => m2 (hT.mpr q))⟩, y2, z2] at hk
    have J48 : ¬ ((0 ≤ i ∧ i ≤ nI y ∧ n ≤ nI y - i) ∧ (0 ≤ j ∧ j ≤ nI z ∧ n ≤ nI z - j)) → mm_Ex (d + 4) k_X5_copy 48 (0, 0) [.ref 2, .int (nI 5), .int i, .int (nI 1), .int j, .int n] [] (hH L xs J s F) K := fun q => by
      rw [if_neg q] at hk
      exact mm_run 20 (x_refuse (w := 2) (by decide) (hk _ ((XT.same hx).fi (by decide))))
    refine And.intro (fun g => J48 fun q => b2i_0.mp g (by rw [y3]; exact ⟨q.1.1, q.1.2.1, c, q.1.2.2⟩)) (fun g => ⟨vT, 36, rfl, x_hasRun_36 (And.intro (fun g2 => ⟨vR, 44, rfl, vT, 36, rfl, ?_⟩) (fun g2 => J48 fun q => b2i_0.mp g2 (by rw [z3]; exact ⟨q.2.1, q.2.2.1, c, q.2.2.2⟩)))⟩)
    have g := b2i_p g
    have g2 := b2i_p g2
    rw [y3] at g
    rw [z3] at g2
    obtain ⟨p, m, rfl, rfl, hpm⟩ := part_of rfl y1 c ⟨g.1, g.2.1, g.2.2.2⟩
    obtain ⟨p2, m', rfl, em, hpm2⟩ := part_of rfl z1 c ⟨g2.1, g2.2.1, g2.2.2.2⟩
    have em : m = m' := (nI_eq (by omega) (by omega)).mp em
    subst em
    rw [if_pos ⟨⟨g.1, g.2.1, g.2.2.2⟩, ⟨g2.1, g2.2.1, g2.2.2.2⟩⟩, tn_nI (n := p) (by omega), tn_nI (n := m) (by omega), tn_nI (n := p2) (by omega)] at hk
    refine ⟨Nat.le_refl _, ⟨nI_pos (by omega), nI_pos (by omega), nI_pos (by omega), by rw [tn_nI (by omega), tn_nI (by omega)]; omega, by rw [tn_nI (by omega), tn_nI (by omega)]; omega⟩, ?_⟩
    rw [tn_nI (n := p) (by omega), tn_nI (n := m) (by omega), tn_nI (n := p2) (by omega)]
    exact kh (hp1 (g := va_cpy (F 45) (F 37) p p2 m) rfl) (hk _ (XT.copy hx (r := 5) (t := 1) (by decide) (by decide) y1 z1 y3 z3 hpm hpm2))
  · rw [if_neg c] at hk
    exact x_refuse (w := 5) (by decide) (hk _ ((XT.same hx).fi (by decide)))
theorem x_copy_5_2 (hx : XRc F F) {i j n : Int32} (hk : ∀ F1, XT F F1 (S_copy F (nI 5) i (nI 2) j n).2 → K (some (.int (S_copy F (nI 5) i (nI 2) j n).1)) (hH L xs J s F1)) : mm_call mm_Ex (d + 4) k_X5_copy [.ref 2, .int (nI 5), .int i, .int (nI 2), .int j, .int n] (hH L xs J s F) K := by
  unfold S_copy at hk
  have eR : (nI 5).toNatClampNeg = 5 := tn_nI (by decide)
  have eT : (nI 2).toNatClampNeg = 2 := tn_nI (by decide)
  have vR : vp_in (nI 5) 6 := vp_in_nI (by decide) (by decide)
  have vT : vp_in (nI 2) 6 := vp_in_nI (by decide) (by decide)
  rw [if_pos ⟨by decide, by decide⟩] at hk
  simp only [eR, eT] at hk
  have hs := (hx.1 5 (by decide)).sz
  have ht := (hx.1 2 (by decide)).sz
  have hR : F 44 1 < 0 ↔ ¬ 0 ≤ F 76 5 := hs.1
  have hT : F 38 1 < 0 ↔ ¬ 0 ≤ F 76 2 := ht.1
  have J28 : 0 ≤ n → (F 44 1 < 0 ∨ F 38 1 < 0) → mm_Ex (d + 4) k_X5_copy 28 (0, 0) [.ref 2, .int (nI 5), .int i, .int (nI 2), .int j, .int n] [] (hH L xs J s F) K := fun hn q => by
    rw [if_pos hn, if_neg (fun z => q.elim (fun y => hR.mp y z.1) (fun y => hT.mp y z.2))] at hk
    exact mm_run 20 (x_refuse (w := 1) (by decide) (hk _ ((XT.same hx).fi (by decide))))
  refine mm_run 120 (x_within (And.intro (fun q => absurd q (by decide)) (fun _ => x_within (And.intro (fun _ => And.intro (fun c => ⟨vR, 44, rfl, x_isMissing_44 (And.intro (fun m => J28 c (Or.inl (b2i_p m))) (fun m => ⟨vT, 38, rfl, x_isMissing_38 (And.intro (fun m2 => ⟨vR, 44, rfl, x_hasRun_44 ?_⟩) (fun m2 => J28 c (Or.inr (b2i_p m2))))⟩))⟩) (fun c => ?_)) (fun q => absurd q (by decide))))))
  · have m := b2i_0.mp m
    have m2 := b2i_0.mp m2
    obtain ⟨y, y1, y2, y3⟩ := hs.2 m
    obtain ⟨z, z1, z2, z3⟩ := ht.2 m2
    have y3 : F 44 1 = nI y := y3
    have z3 : F 38 1 = nI z := z3
    rw [if_pos c, if_pos ⟨Classical.not_not.mp (fun q => m (hR.mpr q)), Classical.not_not.mp (fun q => m2 (hT.mpr q))⟩, y2, z2] at hk
    have J48 : ¬ ((0 ≤ i ∧ i ≤ nI y ∧ n ≤ nI y - i) ∧ (0 ≤ j ∧ j ≤ nI z ∧ n ≤ nI z - j)) → mm_Ex (d + 4) k_X5_copy 48 (0, 0) [.ref 2, .int (nI 5), .int i, .int (nI 2), .int j, .int n] [] (hH L xs J s F) K := fun q => by
      rw [if_neg q] at hk
      exact mm_run 20 (x_refuse (w := 2) (by decide) (hk _ ((XT.same hx).fi (by decide))))
    refine And.intro (fun g => J48 fun q => b2i_0.mp g (by rw [y3]; exact ⟨q.1.1, q.1.2.1, c, q.1.2.2⟩)) (fun g => ⟨vT, 38, rfl, x_hasRun_38 (And.intro (fun g2 => ⟨vR, 44, rfl, vT, 38, rfl, ?_⟩) (fun g2 => J48 fun q => b2i_0.mp g2 (by rw [z3]; exact ⟨q.2.1, q.2.2.1, c, q.2.2.2⟩)))⟩)
    have g := b2i_p g
    have g2 := b2i_p g2
    rw [y3] at g
    rw [z3] at g2
    obtain ⟨p, m, rfl, rfl, hpm⟩ := part_of rfl y1 c ⟨g.1, g.2.1, g.2.2.2⟩
    obtain ⟨p2, m', rfl, em, hpm2⟩ := part_of rfl z1 c ⟨g2.1, g2.2.1, g2.2.2.2⟩
    have em : m = m' := (nI_eq (by omega) (by omega)).mp em
    subst em
    rw [if_pos ⟨⟨g.1, g.2.1, g.2.2.2⟩, ⟨g2.1, g2.2.1, g2.2.2.2⟩⟩, tn_nI (n := p) (by omega), tn_nI (n := m) (by omega), tn_nI (n := p2) (by omega)] at hk
    refine ⟨Nat.le_refl _, ⟨nI_pos (by omega), nI_pos (by omega), nI_pos (by omega), by rw [tn_nI (by omega), tn_nI (by omega)]; omega, by rw [tn_nI (by omega), tn_nI (by omega)]; omega⟩, ?_⟩
    rw [tn_nI (n := p) (by omega), tn_nI (n := m) (by omega), tn_nI (n := p2) (by omega)]
    exact kh (hp1 (g := va_cpy (F 45) (F 39) p p2 m) rfl) (hk _ (XT.copy hx (r := 5) (t := 2) (by decide) (by decide) y1 z1 y3 z3 hpm hpm2))
  · rw [if_neg c] at hk
    exact x_refuse (w := 5) (by decide) (hk _ ((XT.same hx).fi (by decide)))
theorem x_copy_5_3 (hx : XRc F F) {i j n : Int32} (hk : ∀ F1, XT F F1 (S_copy F (nI 5) i (nI 3) j n).2 → K (some (.int (S_copy F (nI 5) i (nI 3) j n).1)) (hH L xs J s F1)) : mm_call mm_Ex (d + 4) k_X5_copy [.ref 2, .int (nI 5), .int i, .int (nI 3), .int j, .int n] (hH L xs J s F) K := by
  unfold S_copy at hk
  have eR : (nI 5).toNatClampNeg = 5 := tn_nI (by decide)
  have eT : (nI 3).toNatClampNeg = 3 := tn_nI (by decide)
  have vR : vp_in (nI 5) 6 := vp_in_nI (by decide) (by decide)
  have vT : vp_in (nI 3) 6 := vp_in_nI (by decide) (by decide)
  rw [if_pos ⟨by decide, by decide⟩] at hk
  simp only [eR, eT] at hk
  have hs := (hx.1 5 (by decide)).sz
  have ht := (hx.1 3 (by decide)).sz
  have hR : F 44 1 < 0 ↔ ¬ 0 ≤ F 76 5 := hs.1
  have hT : F 40 1 < 0 ↔ ¬ 0 ≤ F 76 3 := ht.1
  have J28 : 0 ≤ n → (F 44 1 < 0 ∨ F 40 1 < 0) → mm_Ex (d + 4) k_X5_copy 28 (0, 0) [.ref 2, .int (nI 5), .int i, .int (nI 3), .int j, .int n] [] (hH L xs J s F) K := fun hn q => by
    rw [if_pos hn, if_neg (fun z => q.elim (fun y => hR.mp y z.1) (fun y => hT.mp y z.2))] at hk
    exact mm_run 20 (x_refuse (w := 1) (by decide) (hk _ ((XT.same hx).fi (by decide))))
  refine mm_run 120 (x_within (And.intro (fun q => absurd q (by decide)) (fun _ => x_within (And.intro (fun _ => And.intro (fun c => ⟨vR, 44, rfl, x_isMissing_44 (And.intro (fun m => J28 c (Or.inl (b2i_p m))) (fun m => ⟨vT, 40, rfl, x_isMissing_40 (And.intro (fun m2 => ⟨vR, 44, rfl, x_hasRun_44 ?_⟩) (fun m2 => J28 c (Or.inr (b2i_p m2))))⟩))⟩) (fun c => ?_)) (fun q => absurd q (by decide))))))
  · have m := b2i_0.mp m
    have m2 := b2i_0.mp m2
    obtain ⟨y, y1, y2, y3⟩ := hs.2 m
    obtain ⟨z, z1, z2, z3⟩ := ht.2 m2
    have y3 : F 44 1 = nI y := y3
    have z3 : F 40 1 = nI z := z3
    rw [if_pos c, if_pos ⟨Classical.not_not.mp (fun q => m (hR.mpr q)), Classical.not_not.mp (fun q => m2 (hT.mpr q))⟩, y2, z2] at hk
    have J48 : ¬ ((0 ≤ i ∧ i ≤ nI y ∧ n ≤ nI y - i) ∧ (0 ≤ j ∧ j ≤ nI z ∧ n ≤ nI z - j)) → mm_Ex (d + 4) k_X5_copy 48 (0, 0) [.ref 2, .int (nI 5), .int i, .int (nI 3), .int j, .int n] [] (hH L xs J s F) K := fun q => by
      rw [if_neg q] at hk
      exact mm_run 20 (x_refuse (w := 2) (by decide) (hk _ ((XT.same hx).fi (by decide))))
    refine And.intro (fun g => J48 fun q => b2i_0.mp g (by rw [y3]; exact ⟨q.1.1, q.1.2.1, c, q.1.2.2⟩)) (fun g => ⟨vT, 40, rfl, x_hasRun_40 (And.intro (fun g2 => ⟨vR, 44, rfl, vT, 40, rfl, ?_⟩) (fun g2 => J48 fun q => b2i_0.mp g2 (by rw [z3]; exact ⟨q.2.1, q.2.2.1, c, q.2.2.2⟩)))⟩)
    have g := b2i_p g
    have g2 := b2i_p g2
    rw [y3] at g
    rw [z3] at g2
    obtain ⟨p, m, rfl, rfl, hpm⟩ := part_of rfl y1 c ⟨g.1, g.2.1, g.2.2.2⟩
    obtain ⟨p2, m', rfl, em, hpm2⟩ := part_of rfl z1 c ⟨g2.1, g2.2.1, g2.2.2.2⟩
    have em : m = m' := (nI_eq (by omega) (by omega)).mp em
    subst em
    rw [if_pos ⟨⟨g.1, g.2.1, g.2.2.2⟩, ⟨g2.1, g2.2.1, g2.2.2.2⟩⟩, tn_nI (n := p) (by omega), tn_nI (n := m) (by omega), tn_nI (n := p2) (by omega)] at hk
    refine ⟨Nat.le_refl _, ⟨nI_pos (by omega), nI_pos (by omega), nI_pos (by omega), by rw [tn_nI (by omega), tn_nI (by omega)]; omega, by rw [tn_nI (by omega), tn_nI (by omega)]; omega⟩, ?_⟩
    rw [tn_nI (n := p) (by omega), tn_nI (n := m) (by omega), tn_nI (n := p2) (by omega)]
    exact kh (hp1 (g := va_cpy (F 45) (F 41) p p2 m) rfl) (hk _ (XT.copy hx (r := 5) (t := 3) (by decide) (by decide) y1 z1 y3 z3 hpm hpm2))
  · rw [if_neg c] at hk
    exact x_refuse (w := 5) (by decide) (hk _ ((XT.same hx).fi (by decide)))
theorem x_copy_5_4 (hx : XRc F F) {i j n : Int32} (hk : ∀ F1, XT F F1 (S_copy F (nI 5) i (nI 4) j n).2 → K (some (.int (S_copy F (nI 5) i (nI 4) j n).1)) (hH L xs J s F1)) : mm_call mm_Ex (d + 4) k_X5_copy [.ref 2, .int (nI 5), .int i, .int (nI 4), .int j, .int n] (hH L xs J s F) K := by
  unfold S_copy at hk
  have eR : (nI 5).toNatClampNeg = 5 := tn_nI (by decide)
  have eT : (nI 4).toNatClampNeg = 4 := tn_nI (by decide)
  have vR : vp_in (nI 5) 6 := vp_in_nI (by decide) (by decide)
  have vT : vp_in (nI 4) 6 := vp_in_nI (by decide) (by decide)
  rw [if_pos ⟨by decide, by decide⟩] at hk
  simp only [eR, eT] at hk
  have hs := (hx.1 5 (by decide)).sz
  have ht := (hx.1 4 (by decide)).sz
  have hR : F 44 1 < 0 ↔ ¬ 0 ≤ F 76 5 := hs.1
  have hT : F 42 1 < 0 ↔ ¬ 0 ≤ F 76 4 := ht.1
  have J28 : 0 ≤ n → (F 44 1 < 0 ∨ F 42 1 < 0) → mm_Ex (d + 4) k_X5_copy 28 (0, 0) [.ref 2, .int (nI 5), .int i, .int (nI 4), .int j, .int n] [] (hH L xs J s F) K := fun hn q => by
    rw [if_pos hn, if_neg (fun z => q.elim (fun y => hR.mp y z.1) (fun y => hT.mp y z.2))] at hk
    exact mm_run 20 (x_refuse (w := 1) (by decide) (hk _ ((XT.same hx).fi (by decide))))
  refine mm_run 120 (x_within (And.intro (fun q => absurd q (by decide)) (fun _ => x_within (And.intro (fun _ => And.intro (fun c => ⟨vR, 44, rfl, x_isMissing_44 (And.intro (fun m => J28 c (Or.inl (b2i_p m))) (fun m => ⟨vT, 42, rfl, x_isMissing_42 (And.intro (fun m2 => ⟨vR, 44, rfl, x_hasRun_44 ?_⟩) (fun m2 => J28 c (Or.inr (b2i_p m2))))⟩))⟩) (fun c => ?_)) (fun q => absurd q (by decide))))))
  · have m := b2i_0.mp m
    have m2 := b2i_0.mp m2
    obtain ⟨y, y1, y2, y3⟩ := hs.2 m
    obtain ⟨z, z1, z2, z3⟩ := ht.2 m2
    have y3 : F 44 1 = nI y := y3
    have z3 : F 42 1 = nI z := z3
    rw [if_pos c, if_pos ⟨Classical.not_not.mp (fun q => m (hR.mpr q)), Classical.not_not.mp (fun q => m2 (hT.mpr q))⟩, y2, z2] at hk
    have J48 : ¬ ((0 ≤ i ∧ i ≤ nI y ∧ n ≤ nI y - i) ∧ (0 ≤ j ∧ j ≤ nI z ∧ n ≤ nI z - j)) → mm_Ex (d + 4) k_X5_copy 48 (0, 0) [.ref 2, .int (nI 5), .int i, .int (nI 4), .int j, .int n] [] (hH L xs J s F) K := fun q => by
      rw [if_neg q] at hk
      exact mm_run 20 (x_refuse (w := 2) (by decide) (hk _ ((XT.same hx).fi (by decide))))
    refine And.intro (fun g => J48 fun q => b2i_0.mp g (by rw [y3]; exact ⟨q.1.1, q.1.2.1, c, q.1.2.2⟩)) (fun g => ⟨vT, 42, rfl, x_hasRun_42 (And.intro (fun g2 => ⟨vR, 44, rfl, vT, 42, rfl, ?_⟩) (fun g2 => J48 fun q => b2i_0.mp g2 (by rw [z3]; exact ⟨q.2.1, q.2.2.1, c, q.2.2.2⟩)))⟩)
    have g := b2i_p g
    have g2 := b2i_p g2
    rw [y3] at g
    rw [z3] at g2
    obtain ⟨p, m, rfl, rfl, hpm⟩ := part_of rfl y1 c ⟨g.1, g.2.1, g.2.2.2⟩
    obtain ⟨p2, m', rfl, em, hpm2⟩ := part_of rfl z1 c ⟨g2.1, g2.2.1, g2.2.2.2⟩
    have em : m = m' := (nI_eq (by omega) (by omega)).mp em
    subst em
    rw [if_pos ⟨⟨g.1, g.2.1, g.2.2.2⟩, ⟨g2.1, g2.2.1, g2.2.2.2⟩⟩, tn_nI (n := p) (by omega), tn_nI (n := m) (by omega), tn_nI (n := p2) (by omega)] at hk
    refine ⟨Nat.le_refl _, ⟨nI_pos (by omega), nI_pos (by omega), nI_pos (by omega), by rw [tn_nI (by omega), tn_nI (by omega)]; omega, by rw [tn_nI (by omega), tn_nI (by omega)]; omega⟩, ?_⟩
    rw [tn_nI (n := p) (by omega), tn_nI (n := m) (by omega), tn_nI (n := p2) (by omega)]
    exact kh (hp1 (g := va_cpy (F 45) (F 43) p p2 m) rfl) (hk _ (XT.copy hx (r := 5) (t := 4) (by decide) (by decide) y1 z1 y3 z3 hpm hpm2))
  · rw [if_neg c] at hk
    exact x_refuse (w := 5) (by decide) (hk _ ((XT.same hx).fi (by decide)))
theorem x_copy_5_5 (hx : XRc F F) {i j n : Int32} (hk : ∀ F1, XT F F1 (S_copy F (nI 5) i (nI 5) j n).2 → K (some (.int (S_copy F (nI 5) i (nI 5) j n).1)) (hH L xs J s F1)) : mm_call mm_Ex (d + 4) k_X5_copy [.ref 2, .int (nI 5), .int i, .int (nI 5), .int j, .int n] (hH L xs J s F) K := by
  unfold S_copy at hk
  have eR : (nI 5).toNatClampNeg = 5 := tn_nI (by decide)
  have eT : (nI 5).toNatClampNeg = 5 := tn_nI (by decide)
  have vR : vp_in (nI 5) 6 := vp_in_nI (by decide) (by decide)
  have vT : vp_in (nI 5) 6 := vp_in_nI (by decide) (by decide)
  rw [if_pos ⟨by decide, by decide⟩] at hk
  simp only [eR, eT] at hk
  have hs := (hx.1 5 (by decide)).sz
  have ht := (hx.1 5 (by decide)).sz
  have hR : F 44 1 < 0 ↔ ¬ 0 ≤ F 76 5 := hs.1
  have hT : F 44 1 < 0 ↔ ¬ 0 ≤ F 76 5 := ht.1
  have J28 : 0 ≤ n → (F 44 1 < 0 ∨ F 44 1 < 0) → mm_Ex (d + 4) k_X5_copy 28 (0, 0) [.ref 2, .int (nI 5), .int i, .int (nI 5), .int j, .int n] [] (hH L xs J s F) K := fun hn q => by
    rw [if_pos hn, if_neg (fun z => q.elim (fun y => hR.mp y z.1) (fun y => hT.mp y z.2))] at hk
    exact mm_run 20 (x_refuse (w := 1) (by decide) (hk _ ((XT.same hx).fi (by decide))))
  refine mm_run 120 (x_within (And.intro (fun q => absurd q (by decide)) (fun _ => x_within (And.intro (fun _ => And.intro (fun c => ⟨vR, 44, rfl, x_isMissing_44 (And.intro (fun m => J28 c (Or.inl (b2i_p m))) (fun m => ⟨vT, 44, rfl, x_isMissing_44 (And.intro (fun m2 => ⟨vR, 44, rfl, x_hasRun_44 ?_⟩) (fun m2 => J28 c (Or.inr (b2i_p m2))))⟩))⟩) (fun c => ?_)) (fun q => absurd q (by decide))))))
  · have m := b2i_0.mp m
    have m2 := b2i_0.mp m2
    obtain ⟨y, y1, y2, y3⟩ := hs.2 m
    have y3 : F 44 1 = nI y := y3
    rw [if_pos c, if_pos ⟨Classical.not_not.mp (fun q => m (hR.mpr q)), Classical.not_not.mp (fun q => m2 (hT.mpr q))⟩, y2] at hk
    have J48 : ¬ ((0 ≤ i ∧ i ≤ nI y ∧ n ≤ nI y - i) ∧ (0 ≤ j ∧ j ≤ nI y ∧ n ≤ nI y - j)) → mm_Ex (d + 4) k_X5_copy 48 (0, 0) [.ref 2, .int (nI 5), .int i, .int (nI 5), .int j, .int n] [] (hH L xs J s F) K := fun q => by
      rw [if_neg q] at hk
      exact mm_run 20 (x_refuse (w := 2) (by decide) (hk _ ((XT.same hx).fi (by decide))))
    refine And.intro (fun g => J48 fun q => b2i_0.mp g (by rw [y3]; exact ⟨q.1.1, q.1.2.1, c, q.1.2.2⟩)) (fun g => ⟨vT, 44, rfl, x_hasRun_44 (And.intro (fun g2 => ⟨vR, 44, rfl, vT, 44, rfl, ?_⟩) (fun g2 => J48 fun q => b2i_0.mp g2 (by rw [y3]; exact ⟨q.2.1, q.2.2.1, c, q.2.2.2⟩)))⟩)
    have g := b2i_p g
    have g2 := b2i_p g2
    rw [y3] at g
    rw [y3] at g2
    obtain ⟨p, m, rfl, rfl, hpm⟩ := part_of rfl y1 c ⟨g.1, g.2.1, g.2.2.2⟩
    obtain ⟨p2, m', rfl, em, hpm2⟩ := part_of rfl y1 c ⟨g2.1, g2.2.1, g2.2.2.2⟩
    have em : m = m' := (nI_eq (by omega) (by omega)).mp em
    subst em
    rw [if_pos ⟨⟨g.1, g.2.1, g.2.2.2⟩, ⟨g2.1, g2.2.1, g2.2.2.2⟩⟩, tn_nI (n := p) (by omega), tn_nI (n := m) (by omega), tn_nI (n := p2) (by omega)] at hk
    refine ⟨Nat.le_refl _, ⟨nI_pos (by omega), nI_pos (by omega), nI_pos (by omega), by rw [tn_nI (by omega), tn_nI (by omega)]; omega, by rw [tn_nI (by omega), tn_nI (by omega)]; omega⟩, ?_⟩
    rw [tn_nI (n := p) (by omega), tn_nI (n := m) (by omega), tn_nI (n := p2) (by omega)]
    exact kh (hp1 (g := va_cpy (F 45) (F 45) p p2 m) rfl) (hk _ (XT.copy hx (r := 5) (t := 5) (by decide) (by decide) y1 y1 y3 y3 hpm hpm2))
  · rw [if_neg c] at hk
    exact x_refuse (w := 5) (by decide) (hk _ ((XT.same hx).fi (by decide)))
theorem x_copy (hx : XRc F F) {r i t j n : Int32} (hk : ∀ F1, XT F F1 (S_copy F r i t j n).2 → K (some (.int (S_copy F r i t j n).1)) (hH L xs J s F1)) : mm_call mm_Ex (d + 4) k_X5_copy [.ref 2, .int r, .int i, .int t, .int j, .int n] (hH L xs J s F) K := by
  by_cases c : (0 ≤ r ∧ r < 6) ∧ (0 ≤ t ∧ t < 6)
  · obtain ⟨a, ha, rfl⟩ := lt_nI (n := 6) (by decide) c.1.1 c.1.2
    obtain ⟨b, hb, rfl⟩ := lt_nI (n := 6) (by decide) c.2.1 c.2.2
    match a, ha, b, hb with
    | 0, _, 0, _ => exact x_copy_0_0 hx hk
    | 0, _, 1, _ => exact x_copy_0_1 hx hk
    | 0, _, 2, _ => exact x_copy_0_2 hx hk
    | 0, _, 3, _ => exact x_copy_0_3 hx hk
    | 0, _, 4, _ => exact x_copy_0_4 hx hk
    | 0, _, 5, _ => exact x_copy_0_5 hx hk
    | 1, _, 0, _ => exact x_copy_1_0 hx hk
    | 1, _, 1, _ => exact x_copy_1_1 hx hk
    | 1, _, 2, _ => exact x_copy_1_2 hx hk
    | 1, _, 3, _ => exact x_copy_1_3 hx hk
    | 1, _, 4, _ => exact x_copy_1_4 hx hk
    | 1, _, 5, _ => exact x_copy_1_5 hx hk
    | 2, _, 0, _ => exact x_copy_2_0 hx hk
    | 2, _, 1, _ => exact x_copy_2_1 hx hk
    | 2, _, 2, _ => exact x_copy_2_2 hx hk
    | 2, _, 3, _ => exact x_copy_2_3 hx hk
    | 2, _, 4, _ => exact x_copy_2_4 hx hk
    | 2, _, 5, _ => exact x_copy_2_5 hx hk
    | 3, _, 0, _ => exact x_copy_3_0 hx hk
    | 3, _, 1, _ => exact x_copy_3_1 hx hk
    | 3, _, 2, _ => exact x_copy_3_2 hx hk
    | 3, _, 3, _ => exact x_copy_3_3 hx hk
    | 3, _, 4, _ => exact x_copy_3_4 hx hk
    | 3, _, 5, _ => exact x_copy_3_5 hx hk
    | 4, _, 0, _ => exact x_copy_4_0 hx hk
    | 4, _, 1, _ => exact x_copy_4_1 hx hk
    | 4, _, 2, _ => exact x_copy_4_2 hx hk
    | 4, _, 3, _ => exact x_copy_4_3 hx hk
    | 4, _, 4, _ => exact x_copy_4_4 hx hk
    | 4, _, 5, _ => exact x_copy_4_5 hx hk
    | 5, _, 0, _ => exact x_copy_5_0 hx hk
    | 5, _, 1, _ => exact x_copy_5_1 hx hk
    | 5, _, 2, _ => exact x_copy_5_2 hx hk
    | 5, _, 3, _ => exact x_copy_5_3 hx hk
    | 5, _, 4, _ => exact x_copy_5_4 hx hk
    | 5, _, 5, _ => exact x_copy_5_5 hx hk
  · unfold S_copy at hk
    rw [if_neg (fun z => c ⟨⟨z.1.1, Int32.lt_of_le_of_lt z.1.2 (by decide)⟩, ⟨z.2.1, Int32.lt_of_le_of_lt z.2.2 (by decide)⟩⟩)] at hk
    have J8 : mm_Ex (d + 4) k_X5_copy 8 (0, 0) [.ref 2, .int r, .int i, .int t, .int j, .int n] [] (hH L xs J s F) K := mm_run 5 (hk _ (XT.same hx))
    exact mm_run 60 (x_within (And.intro (fun _ => J8) (fun q => x_within (And.intro (fun q2 => absurd ⟨b2i_p q, b2i_p q2⟩ c) (fun _ => J8)))))
end XCp
