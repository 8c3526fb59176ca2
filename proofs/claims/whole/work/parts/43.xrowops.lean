/-! the class: calls on rows and texts -/
theorem XRow.put {F M : Nat → Nat → Int32} {r p : Nat} {v : Int32} (h : XRow F M r) (hp : p < 40) : XRow (up2 F (35 + 2 * r) p v) (up2 M 77 (40 * r + p) v) r := by
  rcases h with ⟨a, b⟩ | ⟨z, z1, z2, z3, z4⟩
  · exact Or.inl ⟨a, by rw [up2_ne (by omega)]; exact b⟩
  · refine Or.inr ⟨z, z1, z2, by rw [up2_ne (by omega)]; exact z3, fun k hk => ?_⟩
    show upF F (35 + 2 * r) (upd (F (35 + 2 * r)) p v) (35 + 2 * r) k = upd (M 77) (40 * r + p) v (40 * r + k)
    unfold upF
    rw [if_pos rfl]
    unfold upd
    by_cases e : k = p
    · rw [if_pos e, if_pos (by omega)]
    · rw [if_neg e, if_neg (by omega)]
      exact z4 k hk
theorem XT.lay {F : Nat → Nat → Int32} (hx : XRc F F) {r p : Nat} {v : Int32} (hr : r < 6) (hp : p < 40) : XT F (up2 F (35 + 2 * r) p v) (up2 F 77 (40 * r + p) v) := by
  refine ⟨fun k hk => up2_ne (by omega), hx.rowU hr (fun k h1 h2 h3 => up2_ne h3) (fun k h1 h2 h3 => up2_ne h3) (fun j hj => rfl) (fun x hx => ?_) ((hx.1 r hr).put hp)⟩
  show upd (F 77) (40 * r + p) v x = F 77 x
  exact pk_un (by omega)
theorem XT.row {F : Nat → Nat → Int32} (hx : XRc F F) {r m : Nat} (hr : r < 6) (hm : m ≤ 40) : XT F (upF (up2 F (34 + 2 * r) 1 (nI m)) (35 + 2 * r) (fil (F (35 + 2 * r)) 0 m 0)) (upF (up2 F 76 r (nI m)) 77 (fil (F 77) (40 * r) 40 0)) := by
  refine ⟨fun k hk => by rw [upF_ne (by omega), up2_ne (by omega)], hx.rowU hr (fun k h1 h2 h3 => by rw [upF_ne h3, up2_ne h2]) (fun k h1 h2 h3 => by rw [upF_ne h3, up2_ne h2]) (fun j hj => ?_) (fun x hx => ?_) (Or.inr ⟨m, hm, ?_, ?_, fun k hk => ?_⟩)⟩
  · show upd (F 76) r (nI m) j = F 76 j
    exact pk_un hj
  · show fil (F 77) (40 * r) 40 0 x = F 77 x
    exact if_neg hx
  · show upd (F 76) r (nI m) r = nI m
    exact pk_us
  · rw [upF_ne (by omega)]
    exact up2_at
  · show upF _ (35 + 2 * r) (fil (F (35 + 2 * r)) 0 m 0) (35 + 2 * r) k = fil (F 77) (40 * r) 40 0 (40 * r + k)
    unfold upF fil
    rw [if_pos rfl, if_pos (by omega), if_pos (by omega)]
theorem XT.tear {F : Nat → Nat → Int32} (hx : XRc F F) {r : Nat} (hr : r < 6) : XT F (up2 F (34 + 2 * r) 1 (-1)) (up2 F 76 r (-9)) := by
  refine ⟨fun k hk => up2_ne (by omega), hx.rowU hr (fun k h1 h2 h3 => up2_ne h2) (fun k h1 h2 h3 => up2_ne h2) (fun j hj => ?_) (fun x hx => rfl) (Or.inl ⟨?_, up2_at⟩)⟩
  · show upd (F 76) r (-9) j = F 76 j
    exact pk_un hj
  · exact up2_at
theorem XT.text {F : Nat → Nat → Int32} (hx : XRc F F) {r m : Nat} (hr : r < 4) (hm : m ≤ 80) : XT F (upF (up2 F (46 + 2 * r) 1 (nI m)) (47 + 2 * r) (fil (F (47 + 2 * r)) 0 m 32)) (upF (up2 F 78 r (nI m)) 79 (fil (F 79) (80 * r) 80 32)) := by
  refine ⟨fun k hk => by rw [upF_ne (by omega), up2_ne (by omega)], hx.txtU hr (fun k h1 h2 h3 => by rw [upF_ne h3, up2_ne h2]) (fun k h1 h2 h3 => by rw [upF_ne h3, up2_ne h2]) (fun j hj => ?_) (fun x hx => ?_) (Or.inr ⟨m, hm, ?_, ?_, fun k hk => ?_⟩)⟩
  · show upd (F 78) r (nI m) j = F 78 j
    exact pk_un hj
  · show fil (F 79) (80 * r) 80 32 x = F 79 x
    exact if_neg hx
  · show upd (F 78) r (nI m) r = nI m
    exact pk_us
  · rw [upF_ne (by omega)]
    exact up2_at
  · show upF _ (47 + 2 * r) (fil (F (47 + 2 * r)) 0 m 32) (47 + 2 * r) k = fil (F 79) (80 * r) 80 32 (80 * r + k)
    unfold upF fil
    rw [if_pos rfl, if_pos (by omega), if_pos (by omega)]
theorem XT.put {F : Nat → Nat → Int32} (hx : XRc F F) {r p : Nat} {v : Int32} (hr : r < 4) (hp : p < 80) : XT F (up2 F (47 + 2 * r) p v) (up2 F 79 (80 * r + p) v) := by
  refine ⟨fun k hk => up2_ne (by omega), hx.txtU hr (fun k h1 h2 h3 => up2_ne h3) (fun k h1 h2 h3 => up2_ne h3) (fun j hj => rfl) (fun x hx => ?_) ?_⟩
  · show upd (F 79) (80 * r + p) v x = F 79 x
    exact pk_un (by omega)
  · rcases hx.2.1 r hr with ⟨a, b⟩ | ⟨z, z1, z2, z3, z4⟩
    · exact Or.inl ⟨a, by rw [up2_ne (by omega)]; exact b⟩
    · refine Or.inr ⟨z, z1, z2, by rw [up2_ne (by omega)]; exact z3, fun k hk => ?_⟩
      show upF F (47 + 2 * r) (upd (F (47 + 2 * r)) p v) (47 + 2 * r) k = upd (F 79) (80 * r + p) v (80 * r + k)
      unfold upF
      rw [if_pos rfl]
      unfold upd
      by_cases e : k = p
      · rw [if_pos e, if_pos (by omega)]
      · rw [if_neg e, if_neg (by omega)]
        exact z4 k hk
/-- a byte of an int -/
theorem byteI (v : Int32) : v.toInt8.toInt32 = v <<< (24 &&& 31) >>> (24 &&& 31) := by
  apply b_ext
  intro i hi
  rw [show (24 : Int32) = nI 24 from rfl, b_sshr 24 (by omega) _ hi]
  have e1 : bt v.toInt8.toInt32 i = if i < 8 then bt v i else bt v 7 := by
    unfold bt
    rw [Int8.toBitVec_toInt32, Int32.toBitVec_toInt8, BitVec.getLsbD_signExtend]
    by_cases h8 : i < 8
    · simp [hi, h8, BitVec.getLsbD_signExtend, BitVec.getElem_signExtend]
    · simp [hi, h8, BitVec.msb_eq_getLsbD_last, BitVec.getLsbD_signExtend, BitVec.getElem_signExtend]
  rw [e1]
  by_cases h8 : i < 8
  · rw [if_pos h8, if_pos (by omega), b_shl 24 (by omega) v (by omega)]
    simp
  · rw [if_neg h8, if_neg (by omega), b_shl 24 (by omega) v (by omega)]
    simp
theorem sumL_cong {f g : Nat → Int32} : ∀ {z : Nat}, (∀ k, k < z → f k = g k) → sumL f z = sumL g z
  | 0, _ => rfl
  | z + 1, h => by
    rw [sumL, sumL, sumL_cong (fun k hk => h k (by omega)), h z (by omega)]
section XOp
variable {d L s : Nat} {xs : Nat → Int32} {J : Nat → Int64} {F : Nat → Nat → Int32} {K : mm_K} {h : mm_H}
theorem x_refusal_34 {i : Int32} (h1 : F 34 1 < 0 → K (some (.int (-3))) (hH L xs J s (x_fi F 1))) (h2 : ¬ F 34 1 < 0 → (0 ≤ i ∧ i < F 34 1) → K (some (.int 0)) (hH L xs J s F)) (h3 : ¬ F 34 1 < 0 → ¬ (0 ≤ i ∧ i < F 34 1) → K (some (.int (-3))) (hH L xs J s (x_fi F 2))) : mm_call mm_Ex (d + 2) k_X5_refusalOfPlace [.ref 2, .ref 34, .int i] (hH L xs J s F) K := by
  refine mm_run 60 (x_isMissing_34 (And.intro (fun c => x_has_34 (And.intro (fun c2 => x_refuse (w := 2) (by decide) (mm_run 5 (h3 (b2i_0.mp c) (b2i_0.mp c2)))) (fun c2 => mm_run 5 (h2 (b2i_0.mp c) (b2i_p c2))))) (fun c => x_refuse (w := 1) (by decide) (h1 (b2i_p c)))))
theorem x_lay_0 (hx : XRc F F) {i v : Int32} (hk : ∀ F1, XT F F1 (S_lay F (nI 0) i v).2 → K (some (.int (S_lay F (nI 0) i v).1)) (hH L xs J s F1)) : mm_call mm_Ex (d + 4) k_X5_lay [.ref 2, .int (nI 0), .int i, .int v] (hH L xs J s F) K := by
  unfold S_lay at hk
  rw [if_pos (by decide), show (nI 0).toNatClampNeg = 0 from tn_nI (by decide)] at hk
  have hs := hx.1 0 (by decide)
  refine mm_run 60 (x_within (And.intro (fun _ => ⟨vp_in_nI (by decide) (by decide), 34, rfl, x_refusal_34 (fun c => ?_) (fun c c2 => ?_) (fun c c2 => ?_)⟩) (fun q => absurd q (by decide))))
  · refine And.intro (fun z => absurd z (by decide)) (fun _ => mm_run 5 ?_)
    rcases hs with ⟨m1, m2⟩ | ⟨z, z1, z2, z3, z4⟩
    · rw [m1, if_neg (by decide)] at hk
      exact hk _ ((XT.same hx).fi (by decide))
    · exact absurd ((show F 34 1 = nI z from z3) ▸ c) (nI_pos (by omega))
  · rcases hs with ⟨m1, m2⟩ | ⟨z, z1, z2, z3, z4⟩
    · exact absurd ((show F 34 1 = -1 from m2) ▸ (by decide : (-1 : Int32) < 0)) c
    · have z3 : F 34 1 = nI z := z3
      rw [z3] at c2
      have c3 := (lt_in (by omega)).mp c2
      obtain ⟨p, hp, rfl⟩ := lt_nI (by omega) c2.1 c2.2
      rw [z2, if_pos (nle0 (by omega)), if_pos c3, show (40 : Int32) * nI 0 + nI p = nI (40 * 0 + p) from ix (c := 40), tn_nI (by omega)] at hk
      refine And.intro (fun _ => ⟨vp_in_nI (by decide) (by decide), 34, rfl, x_swap_34 z3 z1 hp (x_tell (mm_run 5 ?_))⟩) (fun z => absurd rfl z)
      rw [show F 35 p = F 77 (40 * 0 + p) from z4 p hp]
      exact hk _ (XT.lay hx (r := 0) (by decide) (by omega)).te
  · refine And.intro (fun z => absurd z (by decide)) (fun _ => mm_run 5 ?_)
    rcases hs with ⟨m1, m2⟩ | ⟨z, z1, z2, z3, z4⟩
    · exact absurd ((show F 34 1 = -1 from m2) ▸ (by decide : (-1 : Int32) < 0)) c
    · have z3 : F 34 1 = nI z := z3
      rw [z3] at c2
      rw [z2, if_pos (nle0 (by omega)), if_neg (fun y => c2 ((lt_in (by omega)).mpr y))] at hk
      exact hk _ ((XT.same hx).fi (by decide))
theorem x_at_0 (hx : XRc F F) {i : Int32} (hk : ∀ F1, XT F F1 (S_at F (nI 0) i).2 → K (some (.int (S_at F (nI 0) i).1)) (hH L xs J s F1)) : mm_call mm_Ex (d + 4) k_X5_at [.ref 2, .int (nI 0), .int i] (hH L xs J s F) K := by
  unfold S_at at hk
  rw [if_pos (by decide), show (nI 0).toNatClampNeg = 0 from tn_nI (by decide)] at hk
  have hs := hx.1 0 (by decide)
  refine mm_run 60 (x_within (And.intro (fun _ => ⟨vp_in_nI (by decide) (by decide), 34, rfl, x_refusal_34 (fun c => ?_) (fun c c2 => ?_) (fun c c2 => ?_)⟩) (fun q => absurd q (by decide))))
  · refine And.intro (fun z => absurd z (by decide)) (fun _ => mm_run 5 ?_)
    rcases hs with ⟨m1, m2⟩ | ⟨z, z1, z2, z3, z4⟩
    · rw [m1, if_neg (by decide)] at hk
      exact hk _ ((XT.same hx).fi (by decide))
    · exact absurd ((show F 34 1 = nI z from z3) ▸ c) (nI_pos (by omega))
  · rcases hs with ⟨m1, m2⟩ | ⟨z, z1, z2, z3, z4⟩
    · exact absurd ((show F 34 1 = -1 from m2) ▸ (by decide : (-1 : Int32) < 0)) c
    · have z3 : F 34 1 = nI z := z3
      have c4 := c2
      rw [z3] at c2
      have c3 := (lt_in (by omega)).mp c2
      obtain ⟨p, hp, rfl⟩ := lt_nI (by omega) c2.1 c2.2
      rw [z2, if_pos (nle0 (by omega)), if_pos c3, show (40 : Int32) * nI 0 + nI p = nI (40 * 0 + p) from ix (c := 40), tn_nI (by omega)] at hk
      refine And.intro (fun _ => ⟨vp_in_nI (by decide) (by decide), 34, rfl, x_value_34 z3 z1 (x_tell (mm_run 5 ?_))⟩) (fun z => absurd rfl z)
      rw [if_pos c4, tn_nI (by omega), show F 35 p = F 77 (40 * 0 + p) from z4 p hp]
      exact hk _ (XT.same hx).te
  · refine And.intro (fun z => absurd z (by decide)) (fun _ => mm_run 5 ?_)
    rcases hs with ⟨m1, m2⟩ | ⟨z, z1, z2, z3, z4⟩
    · exact absurd ((show F 34 1 = -1 from m2) ▸ (by decide : (-1 : Int32) < 0)) c
    · have z3 : F 34 1 = nI z := z3
      rw [z3] at c2
      rw [z2, if_pos (nle0 (by omega)), if_neg (fun y => c2 ((lt_in (by omega)).mpr y))] at hk
      exact hk _ ((XT.same hx).fi (by decide))
theorem x_tear_0 (hx : XRc F F) (hk : ∀ F1, XT F F1 (S_tear F (nI 0)).2 → K (some (.int (S_tear F (nI 0)).1)) (hH L xs J s F1)) : mm_call mm_Ex (d + 4) k_X5_tear [.ref 2, .int (nI 0)] (hH L xs J s F) K := by
  unfold S_tear at hk
  rw [if_pos (by decide), show (nI 0).toNatClampNeg = 0 from tn_nI (by decide)] at hk
  have hs := hx.1 0 (by decide)
  refine mm_run 60 (x_within (And.intro (fun _ => ⟨vp_in_nI (by decide) (by decide), 34, rfl, x_isMissing_34 (And.intro (fun c => ⟨vp_in_nI (by decide) (by decide), 34, rfl, x_remove_34 ?_⟩) (fun c => x_refuse (w := 1) (by decide) ?_))⟩) (fun q => absurd q (by decide))))
  · rcases hs with ⟨m1, m2⟩ | ⟨z, z1, z2, z3, z4⟩
    · exact absurd ((show F 34 1 = -1 from m2) ▸ (by decide : (-1 : Int32) < 0)) (b2i_0.mp c)
    · rw [z2, if_pos (nle0 (by omega))] at hk
      exact hk _ (XT.tear hx (r := 0) (by decide))
  · rcases hs with ⟨m1, m2⟩ | ⟨z, z1, z2, z3, z4⟩
    · rw [m1, if_neg (by decide)] at hk
      exact hk _ ((XT.same hx).fi (by decide))
    · exact absurd ((show F 34 1 = nI z from z3) ▸ (b2i_p c)) (nI_pos (by omega))
theorem x_mean_0 (hx : XRc F F) (hk : ∀ F1, XT F F1 (S_mean F (nI 0)).2 → K (some (.int (S_mean F (nI 0)).1)) (hH L xs J s F1)) : mm_call mm_Ex (d + 4) k_X5_mean [.ref 2, .int (nI 0)] (hH L xs J s F) K := by
  unfold S_mean at hk
  rw [if_pos (by decide), show (nI 0).toNatClampNeg = 0 from tn_nI (by decide)] at hk
  have hs := hx.1 0 (by decide)
  refine mm_run 60 (x_within (And.intro (fun _ => ⟨vp_in_nI (by decide) (by decide), 34, rfl, x_isMissing_34 (And.intro (fun c => ⟨vp_in_nI (by decide) (by decide), 34, rfl, ?_⟩) (fun c => x_refuse (w := 1) (by decide) ?_))⟩) (fun q => absurd q (by decide))))
  · rcases hs with ⟨m1, m2⟩ | ⟨z, z1, z2, z3, z4⟩
    · exact absurd ((show F 34 1 = -1 from m2) ▸ (by decide : (-1 : Int32) < 0)) (b2i_0.mp c)
    · have z3 : F 34 1 = nI z := z3
      rw [z2, if_pos (nle0 (by omega))] at hk
      refine And.intro (fun c2 => ⟨vp_in_nI (by decide) (by decide), 34, rfl, x_sum_34 z3 z1 ?_⟩) (fun c2 => x_refuse (w := 4) (by decide) ?_)
      · have c2 : ¬ F 34 1 = 0 := c2
        rw [z3] at c2
        rw [if_neg c2, tn_nI (by omega)] at hk
        have es : sumL (F 35) z = sumL (fun k => F 77 (40 * 0 + k)) z := sumL_cong z4
        have e2 : ¬ (F 34 1).toInt64 = 0 := by
          rw [z3, nI_l (by omega)]
          exact fun y => c2 (by rw [(lN_eq (a := z) (b := 0) (by omega) (by decide)).mp y]; rfl)
        refine ⟨e2, x_tell ?_⟩
        rw [es, z3]
        exact hk _ (XT.same hx).te
      · have c2 : F 34 1 = 0 := c2
        rw [z3] at c2
        rw [if_pos c2] at hk
        exact hk _ ((XT.same hx).fi (by decide))
  · rcases hs with ⟨m1, m2⟩ | ⟨z, z1, z2, z3, z4⟩
    · rw [m1, if_neg (by decide)] at hk
      exact hk _ ((XT.same hx).fi (by decide))
    · exact absurd ((show F 34 1 = nI z from z3) ▸ (b2i_p c)) (nI_pos (by omega))
theorem x_row_0 (hx : XRc F F) {n : Int32} (hk : ∀ F1, XT F F1 (S_row F (nI 0) n).2 → K (some (.int (S_row F (nI 0) n).1)) (hH L xs J s F1)) : mm_call mm_Ex (d + 4) k_X5_row [.ref 2, .int (nI 0), .int n] (hH L xs J s F) K := by
  unfold S_row at hk
  rw [show (nI 0).toNatClampNeg = 0 from tn_nI (by decide)] at hk
  refine mm_run 60 (mm_run 60 (x_within (And.intro (fun q => absurd q (by decide)) (fun _ => ⟨vp_in_nI (by decide) (by decide), 34, rfl, And.intro (fun c => ?_) (fun c => ?_)⟩))))
  · rw [if_pos ⟨by decide, c⟩] at hk
    refine And.intro (fun c2 => ⟨vp_in_nI (by decide) (by decide), 34, rfl, ?_⟩) (fun c2 => x_refuse (w := 5) (by decide) ?_)
    · rw [if_pos c2] at hk
      obtain ⟨m, hm, rfl⟩ := in_nI (n := 40) (by decide) c2 c
      exact x_renew_34 hm (hk _ (XT.row hx (r := 0) (by decide) hm))
    · rw [if_neg c2] at hk
      exact hk _ ((XT.same hx).fi (by decide))
  · rw [if_neg (fun z => c z.2)] at hk
    exact mm_run 5 (hk _ (XT.same hx))
theorem x_refusal_36 {i : Int32} (h1 : F 36 1 < 0 → K (some (.int (-3))) (hH L xs J s (x_fi F 1))) (h2 : ¬ F 36 1 < 0 → (0 ≤ i ∧ i < F 36 1) → K (some (.int 0)) (hH L xs J s F)) (h3 : ¬ F 36 1 < 0 → ¬ (0 ≤ i ∧ i < F 36 1) → K (some (.int (-3))) (hH L xs J s (x_fi F 2))) : mm_call mm_Ex (d + 2) k_X5_refusalOfPlace [.ref 2, .ref 36, .int i] (hH L xs J s F) K := by
  refine mm_run 60 (x_isMissing_36 (And.intro (fun c => x_has_36 (And.intro (fun c2 => x_refuse (w := 2) (by decide) (mm_run 5 (h3 (b2i_0.mp c) (b2i_0.mp c2)))) (fun c2 => mm_run 5 (h2 (b2i_0.mp c) (b2i_p c2))))) (fun c => x_refuse (w := 1) (by decide) (h1 (b2i_p c)))))
theorem x_lay_1 (hx : XRc F F) {i v : Int32} (hk : ∀ F1, XT F F1 (S_lay F (nI 1) i v).2 → K (some (.int (S_lay F (nI 1) i v).1)) (hH L xs J s F1)) : mm_call mm_Ex (d + 4) k_X5_lay [.ref 2, .int (nI 1), .int i, .int v] (hH L xs J s F) K := by
  unfold S_lay at hk
  rw [if_pos (by decide), show (nI 1).toNatClampNeg = 1 from tn_nI (by decide)] at hk
  have hs := hx.1 1 (by decide)
  refine mm_run 60 (x_within (And.intro (fun _ => ⟨vp_in_nI (by decide) (by decide), 36, rfl, x_refusal_36 (fun c => ?_) (fun c c2 => ?_) (fun c c2 => ?_)⟩) (fun q => absurd q (by decide))))
  · refine And.intro (fun z => absurd z (by decide)) (fun _ => mm_run 5 ?_)
    rcases hs with ⟨m1, m2⟩ | ⟨z, z1, z2, z3, z4⟩
    · rw [m1, if_neg (by decide)] at hk
      exact hk _ ((XT.same hx).fi (by decide))
    · exact absurd ((show F 36 1 = nI z from z3) ▸ c) (nI_pos (by omega))
  · rcases hs with ⟨m1, m2⟩ | ⟨z, z1, z2, z3, z4⟩
    · exact absurd ((show F 36 1 = -1 from m2) ▸ (by decide : (-1 : Int32) < 0)) c
    · have z3 : F 36 1 = nI z := z3
      rw [z3] at c2
      have c3 := (lt_in (by omega)).mp c2
      obtain ⟨p, hp, rfl⟩ := lt_nI (by omega) c2.1 c2.2
      rw [z2, if_pos (nle0 (by omega)), if_pos c3, show (40 : Int32) * nI 1 + nI p = nI (40 * 1 + p) from ix (c := 40), tn_nI (by omega)] at hk
      refine And.intro (fun _ => ⟨vp_in_nI (by decide) (by decide), 36, rfl, x_swap_36 z3 z1 hp (x_tell (mm_run 5 ?_))⟩) (fun z => absurd rfl z)
      rw [show F 37 p = F 77 (40 * 1 + p) from z4 p hp]
      exact hk _ (XT.lay hx (r := 1) (by decide) (by omega)).te
  · refine And.intro (fun z => absurd z (by decide)) (fun _ => mm_run 5 ?_)
    rcases hs with ⟨m1, m2⟩ | ⟨z, z1, z2, z3, z4⟩
    · exact absurd ((show F 36 1 = -1 from m2) ▸ (by decide : (-1 : Int32) < 0)) c
    · have z3 : F 36 1 = nI z := z3
      rw [z3] at c2
      rw [z2, if_pos (nle0 (by omega)), if_neg (fun y => c2 ((lt_in (by omega)).mpr y))] at hk
      exact hk _ ((XT.same hx).fi (by decide))
theorem x_at_1 (hx : XRc F F) {i : Int32} (hk : ∀ F1, XT F F1 (S_at F (nI 1) i).2 → K (some (.int (S_at F (nI 1) i).1)) (hH L xs J s F1)) : mm_call mm_Ex (d + 4) k_X5_at [.ref 2, .int (nI 1), .int i] (hH L xs J s F) K := by
  unfold S_at at hk
  rw [if_pos (by decide), show (nI 1).toNatClampNeg = 1 from tn_nI (by decide)] at hk
  have hs := hx.1 1 (by decide)
  refine mm_run 60 (x_within (And.intro (fun _ => ⟨vp_in_nI (by decide) (by decide), 36, rfl, x_refusal_36 (fun c => ?_) (fun c c2 => ?_) (fun c c2 => ?_)⟩) (fun q => absurd q (by decide))))
  · refine And.intro (fun z => absurd z (by decide)) (fun _ => mm_run 5 ?_)
    rcases hs with ⟨m1, m2⟩ | ⟨z, z1, z2, z3, z4⟩
    · rw [m1, if_neg (by decide)] at hk
      exact hk _ ((XT.same hx).fi (by decide))
    · exact absurd ((show F 36 1 = nI z from z3) ▸ c) (nI_pos (by omega))
  · rcases hs with ⟨m1, m2⟩ | ⟨z, z1, z2, z3, z4⟩
    · exact absurd ((show F 36 1 = -1 from m2) ▸ (by decide : (-1 : Int32) < 0)) c
    · have z3 : F 36 1 = nI z := z3
      have c4 := c2
      rw [z3] at c2
      have c3 := (lt_in (by omega)).mp c2
      obtain ⟨p, hp, rfl⟩ := lt_nI (by omega) c2.1 c2.2
      rw [z2, if_pos (nle0 (by omega)), if_pos c3, show (40 : Int32) * nI 1 + nI p = nI (40 * 1 + p) from ix (c := 40), tn_nI (by omega)] at hk
      refine And.intro (fun _ => ⟨vp_in_nI (by decide) (by decide), 36, rfl, x_value_36 z3 z1 (x_tell (mm_run 5 ?_))⟩) (fun z => absurd rfl z)
      rw [if_pos c4, tn_nI (by omega), show F 37 p = F 77 (40 * 1 + p) from z4 p hp]
      exact hk _ (XT.same hx).te
  · refine And.intro (fun z => absurd z (by decide)) (fun _ => mm_run 5 ?_)
    rcases hs with ⟨m1, m2⟩ | ⟨z, z1, z2, z3, z4⟩
    · exact absurd ((show F 36 1 = -1 from m2) ▸ (by decide : (-1 : Int32) < 0)) c
    · have z3 : F 36 1 = nI z := z3
      rw [z3] at c2
      rw [z2, if_pos (nle0 (by omega)), if_neg (fun y => c2 ((lt_in (by omega)).mpr y))] at hk
      exact hk _ ((XT.same hx).fi (by decide))
theorem x_tear_1 (hx : XRc F F) (hk : ∀ F1, XT F F1 (S_tear F (nI 1)).2 → K (some (.int (S_tear F (nI 1)).1)) (hH L xs J s F1)) : mm_call mm_Ex (d + 4) k_X5_tear [.ref 2, .int (nI 1)] (hH L xs J s F) K := by
  unfold S_tear at hk
  rw [if_pos (by decide), show (nI 1).toNatClampNeg = 1 from tn_nI (by decide)] at hk
  have hs := hx.1 1 (by decide)
  refine mm_run 60 (x_within (And.intro (fun _ => ⟨vp_in_nI (by decide) (by decide), 36, rfl, x_isMissing_36 (And.intro (fun c => ⟨vp_in_nI (by decide) (by decide), 36, rfl, x_remove_36 ?_⟩) (fun c => x_refuse (w := 1) (by decide) ?_))⟩) (fun q => absurd q (by decide))))
  · rcases hs with ⟨m1, m2⟩ | ⟨z, z1, z2, z3, z4⟩
    · exact absurd ((show F 36 1 = -1 from m2) ▸ (by decide : (-1 : Int32) < 0)) (b2i_0.mp c)
    · rw [z2, if_pos (nle0 (by omega))] at hk
      exact hk _ (XT.tear hx (r := 1) (by decide))
  · rcases hs with ⟨m1, m2⟩ | ⟨z, z1, z2, z3, z4⟩
    · rw [m1, if_neg (by decide)] at hk
      exact hk _ ((XT.same hx).fi (by decide))
    · exact absurd ((show F 36 1 = nI z from z3) ▸ (b2i_p c)) (nI_pos (by omega))
theorem x_mean_1 (hx : XRc F F) (hk : ∀ F1, XT F F1 (S_mean F (nI 1)).2 → K (some (.int (S_mean F (nI 1)).1)) (hH L xs J s F1)) : mm_call mm_Ex (d + 4) k_X5_mean [.ref 2, .int (nI 1)] (hH L xs J s F) K := by
  unfold S_mean at hk
  rw [if_pos (by decide), show (nI 1).toNatClampNeg = 1 from tn_nI (by decide)] at hk
  have hs := hx.1 1 (by decide)
  refine mm_run 60 (x_within (And.intro (fun _ => ⟨vp_in_nI (by decide) (by decide), 36, rfl, x_isMissing_36 (And.intro (fun c => ⟨vp_in_nI (by decide) (by decide), 36, rfl, ?_⟩) (fun c => x_refuse (w := 1) (by decide) ?_))⟩) (fun q => absurd q (by decide))))
  · rcases hs with ⟨m1, m2⟩ | ⟨z, z1, z2, z3, z4⟩
    · exact absurd ((show F 36 1 = -1 from m2) ▸ (by decide : (-1 : Int32) < 0)) (b2i_0.mp c)
    · have z3 : F 36 1 = nI z := z3
      rw [z2, if_pos (nle0 (by omega))] at hk
      refine And.intro (fun c2 => ⟨vp_in_nI (by decide) (by decide), 36, rfl, x_sum_36 z3 z1 ?_⟩) (fun c2 => x_refuse (w := 4) (by decide) ?_)
      · have c2 : ¬ F 36 1 = 0 := c2
        rw [z3] at c2
        rw [if_neg c2, tn_nI (by omega)] at hk
        have es : sumL (F 37) z = sumL (fun k => F 77 (40 * 1 + k)) z := sumL_cong z4
        have e2 : ¬ (F 36 1).toInt64 = 0 := by
          rw [z3, nI_l (by omega)]
          exact fun y => c2 (by rw [(lN_eq (a := z) (b := 0) (by omega) (by decide)).mp y]; rfl)
        refine ⟨e2, x_tell ?_⟩
        rw [es, z3]
        exact hk _ (XT.same hx).te
      · have c2 : F 36 1 = 0 := c2
        rw [z3] at c2
        rw [if_pos c2] at hk
        exact hk _ ((XT.same hx).fi (by decide))
  · rcases hs with ⟨m1, m2⟩ | ⟨z, z1, z2, z3, z4⟩
    · rw [m1, if_neg (by decide)] at hk
      exact hk _ ((XT.same hx).fi (by decide))
    · exact absurd ((show F 36 1 = nI z from z3) ▸ (b2i_p c)) (nI_pos (by omega))
theorem x_row_1 (hx : XRc F F) {n : Int32} (hk : ∀ F1, XT F F1 (S_row F (nI 1) n).2 → K (some (.int (S_row F (nI 1) n).1)) (hH L xs J s F1)) : mm_call mm_Ex (d + 4) k_X5_row [.ref 2, .int (nI 1), .int n] (hH L xs J s F) K := by
  unfold S_row at hk
  rw [show (nI 1).toNatClampNeg = 1 from tn_nI (by decide)] at hk
  refine mm_run 60 (mm_run 60 (x_within (And.intro (fun q => absurd q (by decide)) (fun _ => ⟨vp_in_nI (by decide) (by decide), 36, rfl, And.intro (fun c => ?_) (fun c => ?_)⟩))))
  · rw [if_pos ⟨by decide, c⟩] at hk
    refine And.intro (fun c2 => ⟨vp_in_nI (by decide) (by decide), 36, rfl, ?_⟩) (fun c2 => x_refuse (w := 5) (by decide) ?_)
    · rw [if_pos c2] at hk
      obtain ⟨m, hm, rfl⟩ := in_nI (n := 40) (by decide) c2 c
      exact x_renew_36 hm (hk _ (XT.row hx (r := 1) (by decide) hm))
    · rw [if_neg c2] at hk
      exact hk _ ((XT.same hx).fi (by decide))
  · rw [if_neg (fun z => c z.2)] at hk
    exact mm_run 5 (hk _ (XT.same hx))
theorem x_refusal_38 {i : Int32} (h1 : F 38 1 < 0 → K (some (.int (-3))) (hH L xs J s (x_fi F 1))) (h2 : ¬ F 38 1 < 0 → (0 ≤ i ∧ i < F 38 1) → K (some (.int 0)) (hH L xs J s F)) (h3 : ¬ F 38 1 < 0 → ¬ (0 ≤ i ∧ i < F 38 1) → K (some (.int (-3))) (hH L xs J s (x_fi F 2))) : mm_call mm_Ex (d + 2) k_X5_refusalOfPlace [.ref 2, .ref 38, .int i] (hH L xs J s F) K := by
  refine mm_run 60 (x_isMissing_38 (And.intro (fun c => x_has_38 (And.intro (fun c2 => x_refuse (w := 2) (by decide) (mm_run 5 (h3 (b2i_0.mp c) (b2i_0.mp c2)))) (fun c2 => mm_run 5 (h2 (b2i_0.mp c) (b2i_p c2))))) (fun c => x_refuse (w := 1) (by decide) (h1 (b2i_p c)))))
theorem x_lay_2 (hx : XRc F F) {i v : Int32} (hk : ∀ F1, XT F F1 (S_lay F (nI 2) i v).2 → K (some (.int (S_lay F (nI 2) i v).1)) (hH L xs J s F1)) : mm_call mm_Ex (d + 4) k_X5_lay [.ref 2, .int (nI 2), .int i, .int v] (hH L xs J s F) K := by
  unfold S_lay at hk
  rw [if_pos (by decide), show (nI 2).toNatClampNeg = 2 from tn_nI (by decide)] at hk
  have hs := hx.1 2 (by decide)
  refine mm_run 60 (x_within (And.intro (fun _ => ⟨vp_in_nI (by decide) (by decide), 38, rfl, x_refusal_38 (fun c => ?_) (fun c c2 => ?_) (fun c c2 => ?_)⟩) (fun q => absurd q (by decide))))
  · refine And.intro (fun z => absurd z (by decide)) (fun _ => mm_run 5 ?_)
    rcases hs with ⟨m1, m2⟩ | ⟨z, z1, z2, z3, z4⟩
    · rw [m1, if_neg (by decide)] at hk
      exact hk _ ((XT.same hx).fi (by decide))
    · exact absurd ((show F 38 1 = nI z from z3) ▸ c) (nI_pos (by omega))
  · rcases hs with ⟨m1, m2⟩ | ⟨z, z1, z2, z3, z4⟩
    · exact absurd ((show F 38 1 = -1 from m2) ▸ (by decide : (-1 : Int32) < 0)) c
    · have z3 : F 38 1 = nI z := z3
      rw [z3] at c2
      have c3 := (lt_in (by omega)).mp c2
      obtain ⟨p, hp, rfl⟩ := lt_nI (by omega) c2.1 c2.2
      rw [z2, if_pos (nle0 (by omega)), if_pos c3, show (40 : Int32) * nI 2 + nI p = nI (40 * 2 + p) from ix (c := 40), tn_nI (by omega)] at hk
      refine And.intro (fun _ => ⟨vp_in_nI (by decide) (by decide), 38, rfl, x_swap_38 z3 z1 hp (x_tell (mm_run 5 ?_))⟩) (fun z => absurd rfl z)
      rw [show F 39 p = F 77 (40 * 2 + p) from z4 p hp]
      exact hk _ (XT.lay hx (r := 2) (by decide) (by omega)).te
  · refine And.intro (fun z => absurd z (by decide)) (fun _ => mm_run 5 ?_)
    rcases hs with ⟨m1, m2⟩ | ⟨z, z1, z2, z3, z4⟩
    · exact absurd ((show F 38 1 = -1 from m2) ▸ (by decide : (-1 : Int32) < 0)) c
    · have z3 : F 38 1 = nI z := z3
      rw [z3] at c2
      rw [z2, if_pos (nle0 (by omega)), if_neg (fun y => c2 ((lt_in (by omega)).mpr y))] at hk
      exact hk _ ((XT.same hx).fi (by decide))
theorem x_at_2 (hx : XRc F F) {i : Int32} (hk : ∀ F1, XT F F1 (S_at F (nI 2) i).2 → K (some (.int (S_at F (nI 2) i).1)) (hH L xs J s F1)) : mm_call mm_Ex (d + 4) k_X5_at [.ref 2, .int (nI 2), .int i] (hH L xs J s F) K := by
  unfold S_at at hk
  rw [if_pos (by decide), show (nI 2).toNatClampNeg = 2 from tn_nI (by decide)] at hk
  have hs := hx.1 2 (by decide)
  refine mm_run 60 (x_within (And.intro (fun _ => ⟨vp_in_nI (by decide) (by decide), 38, rfl, x_refusal_38 (fun c => ?_) (fun c c2 => ?_) (fun c c2 => ?_)⟩) (fun q => absurd q (by decide))))
  · refine And.intro (fun z => absurd z (by decide)) (fun _ => mm_run 5 ?_)
    rcases hs with ⟨m1, m2⟩ | ⟨z, z1, z2, z3, z4⟩
    · rw [m1, if_neg (by decide)] at hk
      exact hk _ ((XT.same hx).fi (by decide))
    · exact absurd ((show F 38 1 = nI z from z3) ▸ c) (nI_pos (by omega))
  · rcases hs with ⟨m1, m2⟩ | ⟨z, z1, z2, z3, z4⟩
    · exact absurd ((show F 38 1 = -1 from m2) ▸ (by decide : (-1 : Int32) < 0)) c
    · have z3 : F 38 1 = nI z := z3
      have c4 := c2
      rw [z3] at c2
      have c3 := (lt_in (by omega)).mp c2
      obtain ⟨p, hp, rfl⟩ := lt_nI (by omega) c2.1 c2.2
      rw [z2, if_pos (nle0 (by omega)), if_pos c3, show (40 : Int32) * nI 2 + nI p = nI (40 * 2 + p) from ix (c := 40), tn_nI (by omega)] at hk
      refine And.intro (fun _ => ⟨vp_in_nI (by decide) (by decide), 38, rfl, x_value_38 z3 z1 (x_tell (mm_run 5 ?_))⟩) (fun z => absurd rfl z)
      rw [if_pos c4, tn_nI (by omega), show F 39 p = F 77 (40 * 2 + p) from z4 p hp]
      exact hk _ (XT.same hx).te
  · refine And.intro (fun z => absurd z (by decide)) (fun _ => mm_run 5 ?_)
    rcases hs with ⟨m1, m2⟩ | ⟨z, z1, z2, z3, z4⟩
    · exact absurd ((show F 38 1 = -1 from m2) ▸ (by decide : (-1 : Int32) < 0)) c
    · have z3 : F 38 1 = nI z := z3
      rw [z3] at c2
      rw [z2, if_pos (nle0 (by omega)), if_neg (fun y => c2 ((lt_in (by omega)).mpr y))] at hk
      exact hk _ ((XT.same hx).fi (by decide))
theorem x_tear_2 (hx : XRc F F) (hk : ∀ F1, XT F F1 (S_tear F (nI 2)).2 → K (some (.int (S_tear F (nI 2)).1)) (hH L xs J s F1)) : mm_call mm_Ex (d + 4) k_X5_tear [.ref 2, .int (nI 2)] (hH L xs J s F) K := by
  unfold S_tear at hk
  rw [if_pos (by decide), show (nI 2).toNatClampNeg = 2 from tn_nI (by decide)] at hk
  have hs := hx.1 2 (by decide)
  refine mm_run 60 (x_within (And.intro (fun _ => ⟨vp_in_nI (by decide) (by decide), 38, rfl, x_isMissing_38 (And.intro (fun c => ⟨vp_in_nI (by decide) (by decide), 38, rfl, x_remove_38 ?_⟩) (fun c => x_refuse (w := 1) (by decide) ?_))⟩) (fun q => absurd q (by decide))))
  · rcases hs with ⟨m1, m2⟩ | ⟨z, z1, z2, z3, z4⟩
    · exact absurd ((show F 38 1 = -1 from m2) ▸ (by decide : (-1 : Int32) < 0)) (b2i_0.mp c)
    · rw [z2, if_pos (nle0 (by omega))] at hk
      exact hk _ (XT.tear hx (r := 2) (by decide))
  · rcases hs with ⟨m1, m2⟩ | ⟨z, z1, z2, z3, z4⟩
    · rw [m1, if_neg (by decide)] at hk
      exact hk _ ((XT.same hx).fi (by decide))
    · exact absurd ((show F 38 1 = nI z from z3) ▸ (b2i_p c)) (nI_pos (by omega))
theorem x_mean_2 (hx : XRc F F) (hk : ∀ F1, XT F F1 (S_mean F (nI 2)).2 → K (some (.int (S_mean F (nI 2)).1)) (hH L xs J s F1)) : mm_call mm_Ex (d + 4) k_X5_mean [.ref 2, .int (nI 2)] (hH L xs J s F) K := by
  unfold S_mean at hk
  rw [if_pos (by decide), show (nI 2).toNatClampNeg = 2 from tn_nI (by decide)] at hk
  have hs := hx.1 2 (by decide)
  refine mm_run 60 (x_within (And.intro (fun _ => ⟨vp_in_nI (by decide) (by decide), 38, rfl, x_isMissing_38 (And.intro (fun c => ⟨vp_in_nI (by decide) (by decide), 38, rfl, ?_⟩) (fun c => x_refuse (w := 1) (by decide) ?_))⟩) (fun q => absurd q (by decide))))
  · rcases hs with ⟨m1, m2⟩ | ⟨z, z1, z2, z3, z4⟩
    · exact absurd ((show F 38 1 = -1 from m2) ▸ (by decide : (-1 : Int32) < 0)) (b2i_0.mp c)
    · have z3 : F 38 1 = nI z := z3
      rw [z2, if_pos (nle0 (by omega))] at hk
      refine And.intro (fun c2 => ⟨vp_in_nI (by decide) (by decide), 38, rfl, x_sum_38 z3 z1 ?_⟩) (fun c2 => x_refuse (w := 4) (by decide) ?_)
      · have c2 : ¬ F 38 1 = 0 := c2
        rw [z3] at c2
        rw [if_neg c2, tn_nI (by omega)] at hk
        have es : sumL (F 39) z = sumL (fun k => F 77 (40 * 2 + k)) z := sumL_cong z4
        have e2 : ¬ (F 38 1).toInt64 = 0 := by
          rw [z3, nI_l (by omega)]
          exact fun y => c2 (by rw [(lN_eq (a := z) (b := 0) (by omega) (by decide)).mp y]; rfl)
        refine ⟨e2, x_tell ?_⟩
        rw [es, z3]
        exact hk _ (XT.same hx).te
      · have c2 : F 38 1 = 0 := c2
        rw [z3] at c2
        rw [if_pos c2] at hk
        exact hk _ ((XT.same hx).fi (by decide))
  · rcases hs with ⟨m1, m2⟩ | ⟨z, z1, z2, z3, z4⟩
    · rw [m1, if_neg (by decide)] at hk
      exact hk _ ((XT.same hx).fi (by decide))
    · exact absurd ((show F 38 1 = nI z from z3) ▸ (b2i_p c)) (nI_pos (by omega))
theorem x_row_2 (hx : XRc F F) {n : Int32} (hk : ∀ F1, XT F F1 (S_row F (nI 2) n).2 → K (some (.int (S_row F (nI 2) n).1)) (hH L xs J s F1)) : mm_call mm_Ex (d + 4) k_X5_row [.ref 2, .int (nI 2), .int n] (hH L xs J s F) K := by
  unfold S_row at hk
  rw [show (nI 2).toNatClampNeg = 2 from tn_nI (by decide)] at hk
  refine mm_run 60 (mm_run 60 (x_within (And.intro (fun q => absurd q (by decide)) (fun _ => ⟨vp_in_nI (by decide) (by decide), 38, rfl, And.intro (fun c => ?_) (fun c => ?_)⟩))))
  · rw [if_pos ⟨by decide, c⟩] at hk
    refine And.intro (fun c2 => ⟨vp_in_nI (by decide) (by decide), 38, rfl, ?_⟩) (fun c2 => x_refuse (w := 5) (by decide) ?_)
    · rw [if_pos c2] at hk
      obtain ⟨m, hm, rfl⟩ := in_nI (n := 40) (by decide) c2 c
      exact x_renew_38 hm (hk _ (XT.row hx (r := 2) (by decide) hm))
    · rw [if_neg c2] at hk
      exact hk _ ((XT.same hx).fi (by decide))
  · rw [if_neg (fun z => c z.2)] at hk
    exact mm_run 5 (hk _ (XT.same hx))
theorem x_refusal_40 {i : Int32} (h1 : F 40 1 < 0 → K (some (.int (-3))) (hH L xs J s (x_fi F 1))) (h2 : ¬ F 40 1 < 0 → (0 ≤ i ∧ i < F 40 1) → K (some (.int 0)) (hH L xs J s F)) (h3 : ¬ F 40 1 < 0 → ¬ (0 ≤ i ∧ i < F 40 1) → K (some (.int (-3))) (hH L xs J s (x_fi F 2))) : mm_call mm_Ex (d + 2) k_X5_refusalOfPlace [.ref 2, .ref 40, .int i] (hH L xs J s F) K := by
  refine mm_run 60 (x_isMissing_40 (And.intro (fun c => x_has_40 (And.intro (fun c2 => x_refuse (w := 2) (by decide) (mm_run 5 (h3 (b2i_0.mp c) (b2i_0.mp c2)))) (fun c2 => mm_run 5 (h2 (b2i_0.mp c) (b2i_p c2))))) (fun c => x_refuse (w := 1) (by decide) (h1 (b2i_p c)))))
theorem x_lay_3 (hx : XRc F F) {i v : Int32} (hk : ∀ F1, XT F F1 (S_lay F (nI 3) i v).2 → K (some (.int (S_lay F (nI 3) i v).1)) (hH L xs J s F1)) : mm_call mm_Ex (d + 4) k_X5_lay [.ref 2, .int (nI 3), .int i, .int v] (hH L xs J s F) K := by
  unfold S_lay at hk
  rw [if_pos (by decide), show (nI 3).toNatClampNeg = 3 from tn_nI (by decide)] at hk
  have hs := hx.1 3 (by decide)
  refine mm_run 60 (x_within (And.intro (fun _ => ⟨vp_in_nI (by decide) (by decide), 40, rfl, x_refusal_40 (fun c => ?_) (fun c c2 => ?_) (fun c c2 => ?_)⟩) (fun q => absurd q (by decide))))
  · refine And.intro (fun z => absurd z (by decide)) (fun _ => mm_run 5 ?_)
    rcases hs with ⟨m1, m2⟩ | ⟨z, z1, z2, z3, z4⟩
    · rw [m1, if_neg (by decide)] at hk
      exact hk _ ((XT.same hx).fi (by decide))
    · exact absurd ((show F 40 1 = nI z from z3) ▸ c) (nI_pos (by omega))
  · rcases hs with ⟨m1, m2⟩ | ⟨z, z1, z2, z3, z4⟩
    · exact absurd ((show F 40 1 = -1 from m2) ▸ (by decide : (-1 : Int32) < 0)) c
    · have z3 : F 40 1 = nI z := z3
      rw [z3] at c2
      have c3 := (lt_in (by omega)).mp c2
      obtain ⟨p, hp, rfl⟩ := lt_nI (by omega) c2.1 c2.2
      rw [z2, if_pos (nle0 (by omega)), if_pos c3, show (40 : Int32) * nI 3 + nI p = nI (40 * 3 + p) from ix (c := 40), tn_nI (by omega)] at hk
      refine And.intro (fun _ => ⟨vp_in_nI (by decide) (by decide), 40, rfl, x_swap_40 z3 z1 hp (x_tell (mm_run 5 ?_))⟩) (fun z => absurd rfl z)
      rw [show F 41 p = F 77 (40 * 3 + p) from z4 p hp]
      exact hk _ (XT.lay hx (r := 3) (by decide) (by omega)).te
  · refine And.intro (fun z => absurd z (by decide)) (fun _ => mm_run 5 ?_)
    rcases hs with ⟨m1, m2⟩ | ⟨z, z1, z2, z3, z4⟩
    · exact absurd ((show F 40 1 = -1 from m2) ▸ (by decide : (-1 : Int32) < 0)) c
    · have z3 : F 40 1 = nI z := z3
      rw [z3] at c2
      rw [z2, if_pos (nle0 (by omega)), if_neg (fun y => c2 ((lt_in (by omega)).mpr y))] at hk
      exact hk _ ((XT.same hx).fi (by decide))
theorem x_at_3 (hx : XRc F F) {i : Int32} (hk : ∀ F1, XT F F1 (S_at F (nI 3) i).2 → K (some (.int (S_at F (nI 3) i).1)) (hH L xs J s F1)) : mm_call mm_Ex (d + 4) k_X5_at [.ref 2, .int (nI 3), .int i] (hH L xs J s F) K := by
  unfold S_at at hk
  rw [if_pos (by decide), show (nI 3).toNatClampNeg = 3 from tn_nI (by decide)] at hk
  have hs := hx.1 3 (by decide)
  refine mm_run 60 (x_within (And.intro (fun _ => ⟨vp_in_nI (by decide) (by decide), 40, rfl, x_refusal_40 (fun c => ?_) (fun c c2 => ?_) (fun c c2 => ?_)⟩) (fun q => absurd q (by decide))))
  · refine And.intro (fun z => absurd z (by decide)) (fun _ => mm_run 5 ?_)
    rcases hs with ⟨m1, m2⟩ | ⟨z, z1, z2, z3, z4⟩
    · rw [m1, if_neg (by decide)] at hk
      exact hk _ ((XT.same hx).fi (by decide))
    · exact absurd ((show F 40 1 = nI z from z3) ▸ c) (nI_pos (by omega))
  · rcases hs with ⟨m1, m2⟩ | ⟨z, z1, z2, z3, z4⟩
    · exact absurd ((show F 40 1 = -1 from m2) ▸ (by decide : (-1 : Int32) < 0)) c
    · have z3 : F 40 1 = nI z := z3
      have c4 := c2
      rw [z3] at c2
      have c3 := (lt_in (by omega)).mp c2
      obtain ⟨p, hp, rfl⟩ := lt_nI (by omega) c2.1 c2.2
      rw [z2, if_pos (nle0 (by omega)), if_pos c3, show (40 : Int32) * nI 3 + nI p = nI (40 * 3 + p) from ix (c := 40), tn_nI (by omega)] at hk
      refine And.intro (fun _ => ⟨vp_in_nI (by decide) (by decide), 40, rfl, x_value_40 z3 z1 (x_tell (mm_run 5 ?_))⟩) (fun z => absurd rfl z)
      rw [if_pos c4, tn_nI (by omega), show F 41 p = F 77 (40 * 3 + p) from z4 p hp]
      exact hk _ (XT.same hx).te
  · refine And.intro (fun z => absurd z (by decide)) (fun _ => mm_run 5 ?_)
    rcases hs with ⟨m1, m2⟩ | ⟨z, z1, z2, z3, z4⟩
    · exact absurd ((show F 40 1 = -1 from m2) ▸ (by decide : (-1 : Int32) < 0)) c
    · have z3 : F 40 1 = nI z := z3
      rw [z3] at c2
      rw [z2, if_pos (nle0 (by omega)), if_neg (fun y => c2 ((lt_in (by omega)).mpr y))] at hk
      exact hk _ ((XT.same hx).fi (by decide))
theorem x_tear_3 (hx : XRc F F) (hk : ∀ F1, XT F F1 (S_tear F (nI 3)).2 → K (some (.int (S_tear F (nI 3)).1)) (hH L xs J s F1)) : mm_call mm_Ex (d + 4) k_X5_tear [.ref 2, .int (nI 3)] (hH L xs J s F) K := by
  unfold S_tear at hk
  rw [if_pos (by decide), show (nI 3).toNatClampNeg = 3 from tn_nI (by decide)] at hk
  have hs := hx.1 3 (by decide)
  refine mm_run 60 (x_within (And.intro (fun _ => ⟨vp_in_nI (by decide) (by decide), 40, rfl, x_isMissing_40 (And.intro (fun c => ⟨vp_in_nI (by decide) (by decide), 40, rfl, x_remove_40 ?_⟩) (fun c => x_refuse (w := 1) (by decide) ?_))⟩) (fun q => absurd q (by decide))))
  · rcases hs with ⟨m1, m2⟩ | ⟨z, z1, z2, z3, z4⟩
    · exact absurd ((show F 40 1 = -1 from m2) ▸ (by decide : (-1 : Int32) < 0)) (b2i_0.mp c)
    · rw [z2, if_pos (nle0 (by omega))] at hk
      exact hk _ (XT.tear hx (r := 3) (by decide))
  · rcases hs with ⟨m1, m2⟩ | ⟨z, z1, z2, z3, z4⟩
    · rw [m1, if_neg (by decide)] at hk
      exact hk _ ((XT.same hx).fi (by decide))
    · exact absurd ((show F 40 1 = nI z from z3) ▸ (b2i_p c)) (nI_pos (by omega))
theorem x_mean_3 (hx : XRc F F) (hk : ∀ F1, XT F F1 (S_mean F (nI 3)).2 → K (some (.int (S_mean F (nI 3)).1)) (hH L xs J s F1)) : mm_call mm_Ex (d + 4) k_X5_mean [.ref 2, .int (nI 3)] (hH L xs J s F) K := by
  unfold S_mean at hk
  rw [if_pos (by decide), show (nI 3).toNatClampNeg = 3 from tn_nI (by decide)] at hk
  have hs := hx.1 3 (by decide)
  refine mm_run 60 (x_within (And.intro (fun _ => ⟨vp_in_nI (by decide) (by decide), 40, rfl, x_isMissing_40 (And.intro (fun c => ⟨vp_in_nI (by decide) (by decide), 40, rfl, ?_⟩) (fun c => x_refuse (w := 1) (by decide) ?_))⟩) (fun q => absurd q (by decide))))
  · rcases hs with ⟨m1, m2⟩ | ⟨z, z1, z2, z3, z4⟩
    · exact absurd ((show F 40 1 = -1 from m2) ▸ (by decide : (-1 : Int32) < 0)) (b2i_0.mp c)
    · have z3 : F 40 1 = nI z := z3
      rw [z2, if_pos (nle0 (by omega))] at hk
      refine And.intro (fun c2 => ⟨vp_in_nI (by decide) (by decide), 40, rfl, x_sum_40 z3 z1 ?_⟩) (fun c2 => x_refuse (w := 4) (by decide) ?_)
      · have c2 : ¬ F 40 1 = 0 := c2
        rw [z3] at c2
        rw [if_neg c2, tn_nI (by omega)] at hk
        have es : sumL (F 41) z = sumL (fun k => F 77 (40 * 3 + k)) z := sumL_cong z4
        have e2 : ¬ (F 40 1).toInt64 = 0 := by
          rw [z3, nI_l (by omega)]
          exact fun y => c2 (by rw [(lN_eq (a := z) (b := 0) (by omega) (by decide)).mp y]; rfl)
        refine ⟨e2, x_tell ?_⟩
        rw [es, z3]
        exact hk _ (XT.same hx).te
      · have c2 : F 40 1 = 0 := c2
        rw [z3] at c2
        rw [if_pos c2] at hk
        exact hk _ ((XT.same hx).fi (by decide))
  · rcases hs with ⟨m1, m2⟩ | ⟨z, z1, z2, z3, z4⟩
    · rw [m1, if_neg (by decide)] at hk
      exact hk _ ((XT.same hx).fi (by decide))
    · exact absurd ((show F 40 1 = nI z from z3) ▸ (b2i_p c)) (nI_pos (by omega))
theorem x_row_3 (hx : XRc F F) {n : Int32} (hk : ∀ F1, XT F F1 (S_row F (nI 3) n).2 → K (some (.int (S_row F (nI 3) n).1)) (hH L xs J s F1)) : mm_call mm_Ex (d + 4) k_X5_row [.ref 2, .int (nI 3), .int n] (hH L xs J s F) K := by
  unfold S_row at hk
  rw [show (nI 3).toNatClampNeg = 3 from tn_nI (by decide)] at hk
  refine mm_run 60 (mm_run 60 (x_within (And.intro (fun q => absurd q (by decide)) (fun _ => ⟨vp_in_nI (by decide) (by decide), 40, rfl, And.intro (fun c => ?_) (fun c => ?_)⟩))))
  · rw [if_pos ⟨by decide, c⟩] at hk
    refine And.intro (fun c2 => ⟨vp_in_nI (by decide) (by decide), 40, rfl, ?_⟩) (fun c2 => x_refuse (w := 5) (by decide) ?_)
    · rw [if_pos c2] at hk
      obtain ⟨m, hm, rfl⟩ := in_nI (n := 40) (by decide) c2 c
      exact x_renew_40 hm (hk _ (XT.row hx (r := 3) (by decide) hm))
    · rw [if_neg c2] at hk
      exact hk _ ((XT.same hx).fi (by decide))
  · rw [if_neg (fun z => c z.2)] at hk
    exact mm_run 5 (hk _ (XT.same hx))
theorem x_refusal_42 {i : Int32} (h1 : F 42 1 < 0 → K (some (.int (-3))) (hH L xs J s (x_fi F 1))) (h2 : ¬ F 42 1 < 0 → (0 ≤ i ∧ i < F 42 1) → K (some (.int 0)) (hH L xs J s F)) (h3 : ¬ F 42 1 < 0 → ¬ (0 ≤ i ∧ i < F 42 1) → K (some (.int (-3))) (hH L xs J s (x_fi F 2))) : mm_call mm_Ex (d + 2) k_X5_refusalOfPlace [.ref 2, .ref 42, .int i] (hH L xs J s F) K := by
  refine mm_run 60 (x_isMissing_42 (And.intro (fun c => x_has_42 (And.intro (fun c2 => x_refuse (w := 2) (by decide) (mm_run 5 (h3 (b2i_0.mp c) (b2i_0.mp c2)))) (fun c2 => mm_run 5 (h2 (b2i_0.mp c) (b2i_p c2))))) (fun c => x_refuse (w := 1) (by decide) (h1 (b2i_p c)))))
theorem x_lay_4 (hx : XRc F F) {i v : Int32} (hk : ∀ F1, XT F F1 (S_lay F (nI 4) i v).2 → K (some (.int (S_lay F (nI 4) i v).1)) (hH L xs J s F1)) : mm_call mm_Ex (d + 4) k_X5_lay [.ref 2, .int (nI 4), .int i, .int v] (hH L xs J s F) K := by
  unfold S_lay at hk
  rw [if_pos (by decide), show (nI 4).toNatClampNeg = 4 from tn_nI (by decide)] at hk
  have hs := hx.1 4 (by decide)
  refine mm_run 60 (x_within (And.intro (fun _ => ⟨vp_in_nI (by decide) (by decide), 42, rfl, x_refusal_42 (fun c => ?_) (fun c c2 => ?_) (fun c c2 => ?_)⟩) (fun q => absurd q (by decide))))
  · refine And.intro (fun z => absurd z (by decide)) (fun _ => mm_run 5 ?_)
    rcases hs with ⟨m1, m2⟩ | ⟨z, z1, z2, z3, z4⟩
    · rw [m1, if_neg (by decide)] at hk
      exact hk _ ((XT.same hx).fi (by decide))
    · exact absurd ((show F 42 1 = nI z from z3) ▸ c) (nI_pos (by omega))
  · rcases hs with ⟨m1, m2⟩ | ⟨z, z1, z2, z3, z4⟩
    · exact absurd ((show F 42 1 = -1 from m2) ▸ (by decide : (-1 : Int32) < 0)) c
    · have z3 : F 42 1 = nI z := z3
      rw [z3] at c2
      have c3 := (lt_in (by omega)).mp c2
      obtain ⟨p, hp, rfl⟩ := lt_nI (by omega) c2.1 c2.2
      rw [z2, if_pos (nle0 (by omega)), if_pos c3, show (40 : Int32) * nI 4 + nI p = nI (40 * 4 + p) from ix (c := 40), tn_nI (by omega)] at hk
      refine And.intro (fun _ => ⟨vp_in_nI (by decide) (by decide), 42, rfl, x_swap_42 z3 z1 hp (x_tell (mm_run 5 ?_))⟩) (fun z => absurd rfl z)
      rw [show F 43 p = F 77 (40 * 4 + p) from z4 p hp]
      exact hk _ (XT.lay hx (r := 4) (by decide) (by omega)).te
  · refine And.intro (fun z => absurd z (by decide)) (fun _ => mm_run 5 ?_)
    rcases hs with ⟨m1, m2⟩ | ⟨z, z1, z2, z3, z4⟩
    · exact absurd ((show F 42 1 = -1 from m2) ▸ (by decide : (-1 : Int32) < 0)) c
    · have z3 : F 42 1 = nI z := z3
      rw [z3] at c2
      rw [z2, if_pos (nle0 (by omega)), if_neg (fun y => c2 ((lt_in (by omega)).mpr y))] at hk
      exact hk _ ((XT.same hx).fi (by decide))
theorem x_at_4 (hx : XRc F F) {i : Int32} (hk : ∀ F1, XT F F1 (S_at F (nI 4) i).2 → K (some (.int (S_at F (nI 4) i).1)) (hH L xs J s F1)) : mm_call mm_Ex (d + 4) k_X5_at [.ref 2, .int (nI 4), .int i] (hH L xs J s F) K := by
  unfold S_at at hk
  rw [if_pos (by decide), show (nI 4).toNatClampNeg = 4 from tn_nI (by decide)] at hk
  have hs := hx.1 4 (by decide)
  refine mm_run 60 (x_within (And.intro (fun _ => ⟨vp_in_nI (by decide) (by decide), 42, rfl, x_refusal_42 (fun c => ?_) (fun c c2 => ?_) (fun c c2 => ?_)⟩) (fun q => absurd q (by decide))))
  · refine And.intro (fun z => absurd z (by decide)) (fun _ => mm_run 5 ?_)
    rcases hs with ⟨m1, m2⟩ | ⟨z, z1, z2, z3, z4⟩
    · rw [m1, if_neg (by decide)] at hk
      exact hk _ ((XT.same hx).fi (by decide))
    · exact absurd ((show F 42 1 = nI z from z3) ▸ c) (nI_pos (by omega))
  · rcases hs with ⟨m1, m2⟩ | ⟨z, z1, z2, z3, z4⟩
    · exact absurd ((show F 42 1 = -1 from m2) ▸ (by decide : (-1 : Int32) < 0)) c
    · have z3 : F 42 1 = nI z := z3
      have c4 := c2
      rw [z3] at c2
      have c3 := (lt_in (by omega)).mp c2
      obtain ⟨p, hp, rfl⟩ := lt_nI (by omega) c2.1 c2.2
      rw [z2, if_pos (nle0 (by omega)), if_pos c3, show (40 : Int32) * nI 4 + nI p = nI (40 * 4 + p) from ix (c := 40), tn_nI (by omega)] at hk
      refine And.intro (fun _ => ⟨vp_in_nI (by decide) (by decide), 42, rfl, x_value_42 z3 z1 (x_tell (mm_run 5 ?_))⟩) (fun z => absurd rfl z)
      rw [if_pos c4, tn_nI (by omega), show F 43 p = F 77 (40 * 4 + p) from z4 p hp]
      exact hk _ (XT.same hx).te
  · refine And.intro (fun z => absurd z (by decide)) (fun _ => mm_run 5 ?_)
    rcases hs with ⟨m1, m2⟩ | ⟨z, z1, z2, z3, z4⟩
    · exact absurd ((show F 42 1 = -1 from m2) ▸ (by decide : (-1 : Int32) < 0)) c
    · have z3 : F 42 1 = nI z := z3
      rw [z3] at c2
      rw [z2, if_pos (nle0 (by omega)), if_neg (fun y => c2 ((lt_in (by omega)).mpr y))] at hk
      exact hk _ ((XT.same hx).fi (by decide))
theorem x_tear_4 (hx : XRc F F) (hk : ∀ F1, XT F F1 (S_tear F (nI 4)).2 → K (some (.int (S_tear F (nI 4)).1)) (hH L xs J s F1)) : mm_call mm_Ex (d + 4) k_X5_tear [.ref 2, .int (nI 4)] (hH L xs J s F) K := by
  unfold S_tear at hk
  rw [if_pos (by decide), show (nI 4).toNatClampNeg = 4 from tn_nI (by decide)] at hk
  have hs := hx.1 4 (by decide)
  refine mm_run 60 (x_within (And.intro (fun _ => ⟨vp_in_nI (by decide) (by decide), 42, rfl, x_isMissing_42 (And.intro (fun c => ⟨vp_in_nI (by decide) (by decide), 42, rfl, x_remove_42 ?_⟩) (fun c => x_refuse (w := 1) (by decide) ?_))⟩) (fun q => absurd q (by decide))))
  · rcases hs with ⟨m1, m2⟩ | ⟨z, z1, z2, z3, z4⟩
    · exact absurd ((show F 42 1 = -1 from m2) ▸ (by decide : (-1 : Int32) < 0)) (b2i_0.mp c)
    · rw [z2, if_pos (nle0 (by omega))] at hk
      exact hk _ (XT.tear hx (r := 4) (by decide))
  · rcases hs with ⟨m1, m2⟩ | ⟨z, z1, z2, z3, z4⟩
    · rw [m1, if_neg (by decide)] at hk
      exact hk _ ((XT.same hx).fi (by decide))
    · exact absurd ((show F 42 1 = nI z from z3) ▸ (b2i_p c)) (nI_pos (by omega))
theorem x_mean_4 (hx : XRc F F) (hk : ∀ F1, XT F F1 (S_mean F (nI 4)).2 → K (some (.int (S_mean F (nI 4)).1)) (hH L xs J s F1)) : mm_call mm_Ex (d + 4) k_X5_mean [.ref 2, .int (nI 4)] (hH L xs J s F) K := by
  unfold S_mean at hk
  rw [if_pos (by decide), show (nI 4).toNatClampNeg = 4 from tn_nI (by decide)] at hk
  have hs := hx.1 4 (by decide)
  refine mm_run 60 (x_within (And.intro (fun _ => ⟨vp_in_nI (by decide) (by decide), 42, rfl, x_isMissing_42 (And.intro (fun c => ⟨vp_in_nI (by decide) (by decide), 42, rfl, ?_⟩) (fun c => x_refuse (w := 1) (by decide) ?_))⟩) (fun q => absurd q (by decide))))
  · rcases hs with ⟨m1, m2⟩ | ⟨z, z1, z2, z3, z4⟩
    · exact absurd ((show F 42 1 = -1 from m2) ▸ (by decide : (-1 : Int32) < 0)) (b2i_0.mp c)
    · have z3 : F 42 1 = nI z := z3
      rw [z2, if_pos (nle0 (by omega))] at hk
      refine And.intro (fun c2 => ⟨vp_in_nI (by decide) (by decide), 42, rfl, x_sum_42 z3 z1 ?_⟩) (fun c2 => x_refuse (w := 4) (by decide) ?_)
      · have c2 : ¬ F 42 1 = 0 := c2
        rw [z3] at c2
        rw [if_neg c2, tn_nI (by omega)] at hk
        have es : sumL (F 43) z = sumL (fun k => F 77 (40 * 4 + k)) z := sumL_cong z4
        have e2 : ¬ (F 42 1).toInt64 = 0 := by
          rw [z3, nI_l (by omega)]
          exact fun y => c2 (by rw [(lN_eq (a := z) (b := 0) (by omega) (by decide)).mp y]; rfl)
        refine ⟨e2, x_tell ?_⟩
        rw [es, z3]
        exact hk _ (XT.same hx).te
      · have c2 : F 42 1 = 0 := c2
        rw [z3] at c2
        rw [if_pos c2] at hk
        exact hk _ ((XT.same hx).fi (by decide))
  · rcases hs with ⟨m1, m2⟩ | ⟨z, z1, z2, z3, z4⟩
    · rw [m1, if_neg (by decide)] at hk
      exact hk _ ((XT.same hx).fi (by decide))
    · exact absurd ((show F 42 1 = nI z from z3) ▸ (b2i_p c)) (nI_pos (by omega))
theorem x_row_4 (hx : XRc F F) {n : Int32} (hk : ∀ F1, XT F F1 (S_row F (nI 4) n).2 → K (some (.int (S_row F (nI 4) n).1)) (hH L xs J s F1)) : mm_call mm_Ex (d + 4) k_X5_row [.ref 2, .int (nI 4), .int n] (hH L xs J s F) K := by
  unfold S_row at hk
  rw [show (nI 4).toNatClampNeg = 4 from tn_nI (by decide)] at hk
  refine mm_run 60 (mm_run 60 (x_within (And.intro (fun q => absurd q (by decide)) (fun _ => ⟨vp_in_nI (by decide) (by decide), 42, rfl, And.intro (fun c => ?_) (fun c => ?_)⟩))))
  · rw [if_pos ⟨by decide, c⟩] at hk
    refine And.intro (fun c2 => ⟨vp_in_nI (by decide) (by decide), 42, rfl, ?_⟩) (fun c2 => x_refuse (w := 5) (by decide) ?_)
    · rw [if_pos c2] at hk
      obtain ⟨m, hm, rfl⟩ := in_nI (n := 40) (by decide) c2 c
      exact x_renew_42 hm (hk _ (XT.row hx (r := 4) (by decide) hm))
    · rw [if_neg c2] at hk
      exact hk _ ((XT.same hx).fi (by decide))
  · rw [if_neg (fun z => c z.2)] at hk
    exact mm_run 5 (hk _ (XT.same hx))
theorem x_refusal_44 {i : Int32} (h1 : F 44 1 < 0 → K (some (.int (-3))) (hH L xs J s (x_fi F 1))) (h2 : ¬ F 44 1 < 0 → (0 ≤ i ∧ i < F 44 1) → K (some (.int 0)) (hH L xs J s F)) (h3 : ¬ F 44 1 < 0 → ¬ (0 ≤ i ∧ i < F 44 1) → K (some (.int (-3))) (hH L xs J s (x_fi F 2))) : mm_call mm_Ex (d + 2) k_X5_refusalOfPlace [.ref 2, .ref 44, .int i] (hH L xs J s F) K := by
  refine mm_run 60 (x_isMissing_44 (And.intro (fun c => x_has_44 (And.intro (fun c2 => x_refuse (w := 2) (by decide) (mm_run 5 (h3 (b2i_0.mp c) (b2i_0.mp c2)))) (fun c2 => mm_run 5 (h2 (b2i_0.mp c) (b2i_p c2))))) (fun c => x_refuse (w := 1) (by decide) (h1 (b2i_p c)))))
theorem x_lay_5 (hx : XRc F F) {i v : Int32} (hk : ∀ F1, XT F F1 (S_lay F (nI 5) i v).2 → K (some (.int (S_lay F (nI 5) i v).1)) (hH L xs J s F1)) : mm_call mm_Ex (d + 4) k_X5_lay [.ref 2, .int (nI 5), .int i, .int v] (hH L xs J s F) K := by
  unfold S_lay at hk
  rw [if_pos (by decide), show (nI 5).toNatClampNeg = 5 from tn_nI (by decide)] at hk
  have hs := hx.1 5 (by decide)
  refine mm_run 60 (x_within (And.intro (fun _ => ⟨vp_in_nI (by decide) (by decide), 44, rfl, x_refusal_44 (fun c => ?_) (fun c c2 => ?_) (fun c c2 => ?_)⟩) (fun q => absurd q (by decide))))
  · refine And.intro (fun z => absurd z (by decide)) (fun _ => mm_run 5 ?_)
    rcases hs with ⟨m1, m2⟩ | ⟨z, z1, z2, z3, z4⟩
    · rw [m1, if_neg (by decide)] at hk
      exact hk _ ((XT.same hx).fi (by decide))
    · exact absurd ((show F 44 1 = nI z from z3) ▸ c) (nI_pos (by omega))
  · rcases hs with ⟨m1, m2⟩ | ⟨z, z1, z2, z3, z4⟩
    · exact absurd ((show F 44 1 = -1 from m2) ▸ (by decide : (-1 : Int32) < 0)) c
    · have z3 : F 44 1 = nI z := z3
      rw [z3] at c2
      have c3 := (lt_in (by omega)).mp c2
      obtain ⟨p, hp, rfl⟩ := lt_nI (by omega) c2.1 c2.2
      rw [z2, if_pos (nle0 (by omega)), if_pos c3, show (40 : Int32) * nI 5 + nI p = nI (40 * 5 + p) from ix (c := 40), tn_nI (by omega)] at hk
      refine And.intro (fun _ => ⟨vp_in_nI (by decide) (by decide), 44, rfl, x_swap_44 z3 z1 hp (x_tell (mm_run 5 ?_))⟩) (fun z => absurd rfl z)
      rw [show F 45 p = F 77 (40 * 5 + p) from z4 p hp]
      exact hk _ (XT.lay hx (r := 5) (by decide) (by omega)).te
  · refine And.intro (fun z => absurd z (by decide)) (fun _ => mm_run 5 ?_)
    rcases hs with ⟨m1, m2⟩ | ⟨z, z1, z2, z3, z4⟩
    · exact absurd ((show F 44 1 = -1 from m2) ▸ (by decide : (-1 : Int32) < 0)) c
    · have z3 : F 44 1 = nI z := z3
      rw [z3] at c2
      rw [z2, if_pos (nle0 (by omega)), if_neg (fun y => c2 ((lt_in (by omega)).mpr y))] at hk
      exact hk _ ((XT.same hx).fi (by decide))
theorem x_at_5 (hx : XRc F F) {i : Int32} (hk : ∀ F1, XT F F1 (S_at F (nI 5) i).2 → K (some (.int (S_at F (nI 5) i).1)) (hH L xs J s F1)) : mm_call mm_Ex (d + 4) k_X5_at [.ref 2, .int (nI 5), .int i] (hH L xs J s F) K := by
  unfold S_at at hk
  rw [if_pos (by decide), show (nI 5).toNatClampNeg = 5 from tn_nI (by decide)] at hk
  have hs := hx.1 5 (by decide)
  refine mm_run 60 (x_within (And.intro (fun _ => ⟨vp_in_nI (by decide) (by decide), 44, rfl, x_refusal_44 (fun c => ?_) (fun c c2 => ?_) (fun c c2 => ?_)⟩) (fun q => absurd q (by decide))))
  · refine And.intro (fun z => absurd z (by decide)) (fun _ => mm_run 5 ?_)
    rcases hs with ⟨m1, m2⟩ | ⟨z, z1, z2, z3, z4⟩
    · rw [m1, if_neg (by decide)] at hk
      exact hk _ ((XT.same hx).fi (by decide))
    · exact absurd ((show F 44 1 = nI z from z3) ▸ c) (nI_pos (by omega))
  · rcases hs with ⟨m1, m2⟩ | ⟨z, z1, z2, z3, z4⟩
    · exact absurd ((show F 44 1 = -1 from m2) ▸ (by decide : (-1 : Int32) < 0)) c
    · have z3 : F 44 1 = nI z := z3
      have c4 := c2
      rw [z3] at c2
      have c3 := (lt_in (by omega)).mp c2
      obtain ⟨p, hp, rfl⟩ := lt_nI (by omega) c2.1 c2.2
      rw [z2, if_pos (nle0 (by omega)), if_pos c3, show (40 : Int32) * nI 5 + nI p = nI (40 * 5 + p) from ix (c := 40), tn_nI (by omega)] at hk
      refine And.intro (fun _ => ⟨vp_in_nI (by decide) (by decide), 44, rfl, x_value_44 z3 z1 (x_tell (mm_run 5 ?_))⟩) (fun z => absurd rfl z)
      rw [if_pos c4, tn_nI (by omega), show F 45 p = F 77 (40 * 5 + p) from z4 p hp]
      exact hk _ (XT.same hx).te
  · refine And.intro (fun z => absurd z (by decide)) (fun _ => mm_run 5 ?_)
    rcases hs with ⟨m1, m2⟩ | ⟨z, z1, z2, z3, z4⟩
    · exact absurd ((show F 44 1 = -1 from m2) ▸ (by decide : (-1 : Int32) < 0)) c
    · have z3 : F 44 1 = nI z := z3
      rw [z3] at c2
      rw [z2, if_pos (nle0 (by omega)), if_neg (fun y => c2 ((lt_in (by omega)).mpr y))] at hk
      exact hk _ ((XT.same hx).fi (by decide))
theorem x_tear_5 (hx : XRc F F) (hk : ∀ F1, XT F F1 (S_tear F (nI 5)).2 → K (some (.int (S_tear F (nI 5)).1)) (hH L xs J s F1)) : mm_call mm_Ex (d + 4) k_X5_tear [.ref 2, .int (nI 5)] (hH L xs J s F) K := by
  unfold S_tear at hk
  rw [if_pos (by decide), show (nI 5).toNatClampNeg = 5 from tn_nI (by decide)] at hk
  have hs := hx.1 5 (by decide)
  refine mm_run 60 (x_within (And.intro (fun _ => ⟨vp_in_nI (by decide) (by decide), 44, rfl, x_isMissing_44 (And.intro (fun c => ⟨vp_in_nI (by decide) (by decide), 44, rfl, x_remove_44 ?_⟩) (fun c => x_refuse (w := 1) (by decide) ?_))⟩) (fun q => absurd q (by decide))))
  · rcases hs with ⟨m1, m2⟩ | ⟨z, z1, z2, z3, z4⟩
    · exact absurd ((show F 44 1 = -1 from m2) ▸ (by decide : (-1 : Int32) < 0)) (b2i_0.mp c)
    · rw [z2, if_pos (nle0 (by omega))] at hk
      exact hk _ (XT.tear hx (r := 5) (by decide))
  · rcases hs with ⟨m1, m2⟩ | ⟨z, z1, z2, z3, z4⟩
    · rw [m1, if_neg (by decide)] at hk
      exact hk _ ((XT.same hx).fi (by decide))
    · exact absurd ((show F 44 1 = nI z from z3) ▸ (b2i_p c)) (nI_pos (by omega))
theorem x_mean_5 (hx : XRc F F) (hk : ∀ F1, XT F F1 (S_mean F (nI 5)).2 → K (some (.int (S_mean F (nI 5)).1)) (hH L xs J s F1)) : mm_call mm_Ex (d + 4) k_X5_mean [.ref 2, .int (nI 5)] (hH L xs J s F) K := by
  unfold S_mean at hk
  rw [if_pos (by decide), show (nI 5).toNatClampNeg = 5 from tn_nI (by decide)] at hk
  have hs := hx.1 5 (by decide)
  refine mm_run 60 (x_within (And.intro (fun _ => ⟨vp_in_nI (by decide) (by decide), 44, rfl, x_isMissing_44 (And.intro (fun c => ⟨vp_in_nI (by decide) (by decide), 44, rfl, ?_⟩) (fun c => x_refuse (w := 1) (by decide) ?_))⟩) (fun q => absurd q (by decide))))
  · rcases hs with ⟨m1, m2⟩ | ⟨z, z1, z2, z3, z4⟩
    · exact absurd ((show F 44 1 = -1 from m2) ▸ (by decide : (-1 : Int32) < 0)) (b2i_0.mp c)
    · have z3 : F 44 1 = nI z := z3
      rw [z2, if_pos (nle0 (by omega))] at hk
      refine And.intro (fun c2 => ⟨vp_in_nI (by decide) (by decide), 44, rfl, x_sum_44 z3 z1 ?_⟩) (fun c2 => x_refuse (w := 4) (by decide) ?_)
      · have c2 : ¬ F 44 1 = 0 := c2
        rw [z3] at c2
        rw [if_neg c2, tn_nI (by omega)] at hk
        have es : sumL (F 45) z = sumL (fun k => F 77 (40 * 5 + k)) z := sumL_cong z4
        have e2 : ¬ (F 44 1).toInt64 = 0 := by
          rw [z3, nI_l (by omega)]
          exact fun y => c2 (by rw [(lN_eq (a := z) (b := 0) (by omega) (by decide)).mp y]; rfl)
        refine ⟨e2, x_tell ?_⟩
        rw [es, z3]
        exact hk _ (XT.same hx).te
      · have c2 : F 44 1 = 0 := c2
        rw [z3] at c2
        rw [if_pos c2] at hk
        exact hk _ ((XT.same hx).fi (by decide))
  · rcases hs with ⟨m1, m2⟩ | ⟨z, z1, z2, z3, z4⟩
    · rw [m1, if_neg (by decide)] at hk
      exact hk _ ((XT.same hx).fi (by decide))
    · exact absurd ((show F 44 1 = nI z from z3) ▸ (b2i_p c)) (nI_pos (by omega))
theorem x_row_5 (hx : XRc F F) {n : Int32} (hk : ∀ F1, XT F F1 (S_row F (nI 5) n).2 → K (some (.int (S_row F (nI 5) n).1)) (hH L xs J s F1)) : mm_call mm_Ex (d + 4) k_X5_row [.ref 2, .int (nI 5), .int n] (hH L xs J s F) K := by
  unfold S_row at hk
  rw [show (nI 5).toNatClampNeg = 5 from tn_nI (by decide)] at hk
  refine mm_run 60 (mm_run 60 (x_within (And.intro (fun q => absurd q (by decide)) (fun _ => ⟨vp_in_nI (by decide) (by decide), 44, rfl, And.intro (fun c => ?_) (fun c => ?_)⟩))))
  · rw [if_pos ⟨by decide, c⟩] at hk
    refine And.intro (fun c2 => ⟨vp_in_nI (by decide) (by decide), 44, rfl, ?_⟩) (fun c2 => x_refuse (w := 5) (by decide) ?_)
    · rw [if_pos c2] at hk
      obtain ⟨m, hm, rfl⟩ := in_nI (n := 40) (by decide) c2 c
      exact x_renew_44 hm (hk _ (XT.row hx (r := 5) (by decide) hm))
    · rw [if_neg c2] at hk
      exact hk _ ((XT.same hx).fi (by decide))
  · rw [if_neg (fun z => c z.2)] at hk
    exact mm_run 5 (hk _ (XT.same hx))
theorem x_refusal_46 {i : Int32} (h1 : F 46 1 < 0 → K (some (.int (-3))) (hH L xs J s (x_fi F 1))) (h2 : ¬ F 46 1 < 0 → (0 ≤ i ∧ i < F 46 1) → K (some (.int 0)) (hH L xs J s F)) (h3 : ¬ F 46 1 < 0 → ¬ (0 ≤ i ∧ i < F 46 1) → K (some (.int (-3))) (hH L xs J s (x_fi F 2))) : mm_call mm_Ex (d + 2) k_X5_refusalOfPlace [.ref 2, .ref 46, .int i] (hH L xs J s F) K := by
  refine mm_run 60 (x_isMissing_46 (And.intro (fun c => x_has_46 (And.intro (fun c2 => x_refuse (w := 2) (by decide) (mm_run 5 (h3 (b2i_0.mp c) (b2i_0.mp c2)))) (fun c2 => mm_run 5 (h2 (b2i_0.mp c) (b2i_p c2))))) (fun c => x_refuse (w := 1) (by decide) (h1 (b2i_p c)))))
theorem x_text_0 (hx : XRc F F) {n : Int32} (hk : ∀ F1, XT F F1 (S_text F (nI 0) n).2 → K (some (.int (S_text F (nI 0) n).1)) (hH L xs J s F1)) : mm_call mm_Ex (d + 4) k_X5_text [.ref 2, .int (nI 0), .int n] (hH L xs J s F) K := by
  unfold S_text at hk
  rw [show (nI 0).toNatClampNeg = 0 from tn_nI (by decide)] at hk
  refine mm_run 60 (mm_run 60 (x_within (And.intro (fun q => absurd q (by decide)) (fun _ => ⟨vp_in_nI (by decide) (by decide), 46, rfl, And.intro (fun c => ?_) (fun c => ?_)⟩))))
  · rw [if_pos ⟨by decide, c⟩] at hk
    refine And.intro (fun c2 => ⟨vp_in_nI (by decide) (by decide), 46, rfl, ?_⟩) (fun c2 => x_refuse (w := 5) (by decide) ?_)
    · rw [if_pos c2] at hk
      obtain ⟨m, hm, rfl⟩ := in_nI (n := 80) (by decide) c2 c
      exact x_renew_46 hm (hk _ (XT.text hx (r := 0) (by decide) hm))
    · rw [if_neg c2] at hk
      exact hk _ ((XT.same hx).fi (by decide))
  · rw [if_neg (fun z => c z.2)] at hk
    exact mm_run 5 (hk _ (XT.same hx))
theorem x_put_0 (hx : XRc F F) {i v : Int32} (hk : ∀ F1, XT F F1 (S_put F (nI 0) i v).2 → K (some (.int (S_put F (nI 0) i v).1)) (hH L xs J s F1)) : mm_call mm_Ex (d + 4) k_X5_put [.ref 2, .int (nI 0), .int i, .int v] (hH L xs J s F) K := by
  unfold S_put at hk
  rw [if_pos (by decide), show (nI 0).toNatClampNeg = 0 from tn_nI (by decide)] at hk
  have hs := hx.2.1 0 (by decide)
  refine mm_run 60 (x_within (And.intro (fun _ => ⟨vp_in_nI (by decide) (by decide), 46, rfl, x_refusal_46 (fun c => ?_) (fun c c2 => ?_) (fun c c2 => ?_)⟩) (fun q => absurd q (by decide))))
  · refine And.intro (fun z => absurd z (by decide)) (fun _ => mm_run 5 ?_)
    rcases hs with ⟨m1, m2⟩ | ⟨z, z1, z2, z3, z4⟩
    · rw [m1, if_neg (by decide)] at hk
      exact hk _ ((XT.same hx).fi (by decide))
    · exact absurd ((show F 46 1 = nI z from z3) ▸ c) (nI_pos (by omega))
  · rcases hs with ⟨m1, m2⟩ | ⟨z, z1, z2, z3, z4⟩
    · exact absurd ((show F 46 1 = -1 from m2) ▸ (by decide : (-1 : Int32) < 0)) c
    · have z3 : F 46 1 = nI z := z3
      rw [z3] at c2
      have c3 := (lt_in (by omega)).mp c2
      obtain ⟨p, hp, rfl⟩ := lt_nI (by omega) c2.1 c2.2
      rw [z2, if_pos (nle0 (by omega)), if_pos c3, show (80 : Int32) * nI 0 + nI p = nI (80 * 0 + p) from ix (c := 80), tn_nI (by omega)] at hk
      refine And.intro (fun _ => ⟨vp_in_nI (by decide) (by decide), 46, rfl, x_swap_46 z3 z1 hp (mm_run 5 ?_)⟩) (fun z => absurd rfl z)
      rw [show F 47 p = F 79 (80 * 0 + p) from z4 p hp, byteI, Int32.add_comm]
      exact hk _ (XT.put hx (r := 0) (by decide) (by omega))
  · refine And.intro (fun z => absurd z (by decide)) (fun _ => mm_run 5 ?_)
    rcases hs with ⟨m1, m2⟩ | ⟨z, z1, z2, z3, z4⟩
    · exact absurd ((show F 46 1 = -1 from m2) ▸ (by decide : (-1 : Int32) < 0)) c
    · have z3 : F 46 1 = nI z := z3
      rw [z3] at c2
      rw [z2, if_pos (nle0 (by omega)), if_neg (fun y => c2 ((lt_in (by omega)).mpr y))] at hk
      exact hk _ ((XT.same hx).fi (by decide))
theorem x_refusal_48 {i : Int32} (h1 : F 48 1 < 0 → K (some (.int (-3))) (hH L xs J s (x_fi F 1))) (h2 : ¬ F 48 1 < 0 → (0 ≤ i ∧ i < F 48 1) → K (some (.int 0)) (hH L xs J s F)) (h3 : ¬ F 48 1 < 0 → ¬ (0 ≤ i ∧ i < F 48 1) → K (some (.int (-3))) (hH L xs J s (x_fi F 2))) : mm_call mm_Ex (d + 2) k_X5_refusalOfPlace [.ref 2, .ref 48, .int i] (hH L xs J s F) K := by
  refine mm_run 60 (x_isMissing_48 (And.intro (fun c => x_has_48 (And.intro (fun c2 => x_refuse (w := 2) (by decide) (mm_run 5 (h3 (b2i_0.mp c) (b2i_0.mp c2)))) (fun c2 => mm_run 5 (h2 (b2i_0.mp c) (b2i_p c2))))) (fun c => x_refuse (w := 1) (by decide) (h1 (b2i_p c)))))
theorem x_text_1 (hx : XRc F F) {n : Int32} (hk : ∀ F1, XT F F1 (S_text F (nI 1) n).2 → K (some (.int (S_text F (nI 1) n).1)) (hH L xs J s F1)) : mm_call mm_Ex (d + 4) k_X5_text [.ref 2, .int (nI 1), .int n] (hH L xs J s F) K := by
  unfold S_text at hk
  rw [show (nI 1).toNatClampNeg = 1 from tn_nI (by decide)] at hk
  refine mm_run 60 (mm_run 60 (x_within (And.intro (fun q => absurd q (by decide)) (fun _ => ⟨vp_in_nI (by decide) (by decide), 48, rfl, And.intro (fun c => ?_) (fun c => ?_)⟩))))
  · rw [if_pos ⟨by decide, c⟩] at hk
    refine And.intro (fun c2 => ⟨vp_in_nI (by decide) (by decide), 48, rfl, ?_⟩) (fun c2 => x_refuse (w := 5) (by decide) ?_)
    · rw [if_pos c2] at hk
      obtain ⟨m, hm, rfl⟩ := in_nI (n := 80) (by decide) c2 c
      exact x_renew_48 hm (hk _ (XT.text hx (r := 1) (by decide) hm))
    · rw [if_neg c2] at hk
      exact hk _ ((XT.same hx).fi (by decide))
  · rw [if_neg (fun z => c z.2)] at hk
    exact mm_run 5 (hk _ (XT.same hx))
theorem x_put_1 (hx : XRc F F) {i v : Int32} (hk : ∀ F1, XT F F1 (S_put F (nI 1) i v).2 → K (some (.int (S_put F (nI 1) i v).1)) (hH L xs J s F1)) : mm_call mm_Ex (d + 4) k_X5_put [.ref 2, .int (nI 1), .int i, .int v] (hH L xs J s F) K := by
  unfold S_put at hk
  rw [if_pos (by decide), show (nI 1).toNatClampNeg = 1 from tn_nI (by decide)] at hk
  have hs := hx.2.1 1 (by decide)
  refine mm_run 60 (x_within (And.intro (fun _ => ⟨vp_in_nI (by decide) (by decide), 48, rfl, x_refusal_48 (fun c => ?_) (fun c c2 => ?_) (fun c c2 => ?_)⟩) (fun q => absurd q (by decide))))
  · refine And.intro (fun z => absurd z (by decide)) (fun _ => mm_run 5 ?_)
    rcases hs with ⟨m1, m2⟩ | ⟨z, z1, z2, z3, z4⟩
    · rw [m1, if_neg (by decide)] at hk
      exact hk _ ((XT.same hx).fi (by decide))
    · exact absurd ((show F 48 1 = nI z from z3) ▸ c) (nI_pos (by omega))
  · rcases hs with ⟨m1, m2⟩ | ⟨z, z1, z2, z3, z4⟩
    · exact absurd ((show F 48 1 = -1 from m2) ▸ (by decide : (-1 : Int32) < 0)) c
    · have z3 : F 48 1 = nI z := z3
      rw [z3] at c2
      have c3 := (lt_in (by omega)).mp c2
      obtain ⟨p, hp, rfl⟩ := lt_nI (by omega) c2.1 c2.2
      rw [z2, if_pos (nle0 (by omega)), if_pos c3, show (80 : Int32) * nI 1 + nI p = nI (80 * 1 + p) from ix (c := 80), tn_nI (by omega)] at hk
      refine And.intro (fun _ => ⟨vp_in_nI (by decide) (by decide), 48, rfl, x_swap_48 z3 z1 hp (mm_run 5 ?_)⟩) (fun z => absurd rfl z)
      rw [show F 49 p = F 79 (80 * 1 + p) from z4 p hp, byteI, Int32.add_comm]
      exact hk _ (XT.put hx (r := 1) (by decide) (by omega))
  · refine And.intro (fun z => absurd z (by decide)) (fun _ => mm_run 5 ?_)
    rcases hs with ⟨m1, m2⟩ | ⟨z, z1, z2, z3, z4⟩
    · exact absurd ((show F 48 1 = -1 from m2) ▸ (by decide : (-1 : Int32) < 0)) c
    · have z3 : F 48 1 = nI z := z3
      rw [z3] at c2
      rw [z2, if_pos (nle0 (by omega)), if_neg (fun y => c2 ((lt_in (by omega)).mpr y))] at hk
      exact hk _ ((XT.same hx).fi (by decide))
theorem x_refusal_50 {i : Int32} (h1 : F 50 1 < 0 → K (some (.int (-3))) (hH L xs J s (x_fi F 1))) (h2 : ¬ F 50 1 < 0 → (0 ≤ i ∧ i < F 50 1) → K (some (.int 0)) (hH L xs J s F)) (h3 : ¬ F 50 1 < 0 → ¬ (0 ≤ i ∧ i < F 50 1) → K (some (.int (-3))) (hH L xs J s (x_fi F 2))) : mm_call mm_Ex (d + 2) k_X5_refusalOfPlace [.ref 2, .ref 50, .int i] (hH L xs J s F) K := by
  refine mm_run 60 (x_isMissing_50 (And.intro (fun c => x_has_50 (And.intro (fun c2 => x_refuse (w := 2) (by decide) (mm_run 5 (h3 (b2i_0.mp c) (b2i_0.mp c2)))) (fun c2 => mm_run 5 (h2 (b2i_0.mp c) (b2i_p c2))))) (fun c => x_refuse (w := 1) (by decide) (h1 (b2i_p c)))))
theorem x_text_2 (hx : XRc F F) {n : Int32} (hk : ∀ F1, XT F F1 (S_text F (nI 2) n).2 → K (some (.int (S_text F (nI 2) n).1)) (hH L xs J s F1)) : mm_call mm_Ex (d + 4) k_X5_text [.ref 2, .int (nI 2), .int n] (hH L xs J s F) K := by
  unfold S_text at hk
  rw [show (nI 2).toNatClampNeg = 2 from tn_nI (by decide)] at hk
  refine mm_run 60 (mm_run 60 (x_within (And.intro (fun q => absurd q (by decide)) (fun _ => ⟨vp_in_nI (by decide) (by decide), 50, rfl, And.intro (fun c => ?_) (fun c => ?_)⟩))))
  · rw [if_pos ⟨by decide, c⟩] at hk
    refine And.intro (fun c2 => ⟨vp_in_nI (by decide) (by decide), 50, rfl, ?_⟩) (fun c2 => x_refuse (w := 5) (by decide) ?_)
    · rw [if_pos c2] at hk
      obtain ⟨m, hm, rfl⟩ := in_nI (n := 80) (by decide) c2 c
      exact x_renew_50 hm (hk _ (XT.text hx (r := 2) (by decide) hm))
    · rw [if_neg c2] at hk
      exact hk _ ((XT.same hx).fi (by decide))
  · rw [if_neg (fun z => c z.2)] at hk
    exact mm_run 5 (hk _ (XT.same hx))
theorem x_put_2 (hx : XRc F F) {i v : Int32} (hk : ∀ F1, XT F F1 (S_put F (nI 2) i v).2 → K (some (.int (S_put F (nI 2) i v).1)) (hH L xs J s F1)) : mm_call mm_Ex (d + 4) k_X5_put [.ref 2, .int (nI 2), .int i, .int v] (hH L xs J s F) K := by
  unfold S_put at hk
  rw [if_pos (by decide), show (nI 2).toNatClampNeg = 2 from tn_nI (by decide)] at hk
  have hs := hx.2.1 2 (by decide)
  refine mm_run 60 (x_within (And.intro (fun _ => ⟨vp_in_nI (by decide) (by decide), 50, rfl, x_refusal_50 (fun c => ?_) (fun c c2 => ?_) (fun c c2 => ?_)⟩) (fun q => absurd q (by decide))))
  · refine And.intro (fun z => absurd z (by decide)) (fun _ => mm_run 5 ?_)
    rcases hs with ⟨m1, m2⟩ | ⟨z, z1, z2, z3, z4⟩
    · rw [m1, if_neg (by decide)] at hk
      exact hk _ ((XT.same hx).fi (by decide))
    · exact absurd ((show F 50 1 = nI z from z3) ▸ c) (nI_pos (by omega))
  · rcases hs with ⟨m1, m2⟩ | ⟨z, z1, z2, z3, z4⟩
    · exact absurd ((show F 50 1 = -1 from m2) ▸ (by decide : (-1 : Int32) < 0)) c
    · have z3 : F 50 1 = nI z := z3
      rw [z3] at c2
      have c3 := (lt_in (by omega)).mp c2
      obtain ⟨p, hp, rfl⟩ := lt_nI (by omega) c2.1 c2.2
      rw [z2, if_pos (nle0 (by omega)), if_pos c3, show (80 : Int32) * nI 2 + nI p = nI (80 * 2 + p) from ix (c := 80), tn_nI (by omega)] at hk
      refine And.intro (fun _ => ⟨vp_in_nI (by decide) (by decide), 50, rfl, x_swap_50 z3 z1 hp (mm_run 5 ?_)⟩) (fun z => absurd rfl z)
      rw [show F 51 p = F 79 (80 * 2 + p) from z4 p hp, byteI, Int32.add_comm]
      exact hk _ (XT.put hx (r := 2) (by decide) (by omega))
  · refine And.intro (fun z => absurd z (by decide)) (fun _ => mm_run 5 ?_)
    rcases hs with ⟨m1, m2⟩ | ⟨z, z1, z2, z3, z4⟩
    · exact absurd ((show F 50 1 = -1 from m2) ▸ (by decide : (-1 : Int32) < 0)) c
    · have z3 : F 50 1 = nI z := z3
      rw [z3] at c2
      rw [z2, if_pos (nle0 (by omega)), if_neg (fun y => c2 ((lt_in (by omega)).mpr y))] at hk
      exact hk _ ((XT.same hx).fi (by decide))
theorem x_refusal_52 {i : Int32} (h1 : F 52 1 < 0 → K (some (.int (-3))) (hH L xs J s (x_fi F 1))) (h2 : ¬ F 52 1 < 0 → (0 ≤ i ∧ i < F 52 1) → K (some (.int 0)) (hH L xs J s F)) (h3 : ¬ F 52 1 < 0 → ¬ (0 ≤ i ∧ i < F 52 1) → K (some (.int (-3))) (hH L xs J s (x_fi F 2))) : mm_call mm_Ex (d + 2) k_X5_refusalOfPlace [.ref 2, .ref 52, .int i] (hH L xs J s F) K := by
  refine mm_run 60 (x_isMissing_52 (And.intro (fun c => x_has_52 (And.intro (fun c2 => x_refuse (w := 2) (by decide) (mm_run 5 (h3 (b2i_0.mp c) (b2i_0.mp c2)))) (fun c2 => mm_run 5 (h2 (b2i_0.mp c) (b2i_p c2))))) (fun c => x_refuse (w := 1) (by decide) (h1 (b2i_p c)))))
theorem x_text_3 (hx : XRc F F) {n : Int32} (hk : ∀ F1, XT F F1 (S_text F (nI 3) n).2 → K (some (.int (S_text F (nI 3) n).1)) (hH L xs J s F1)) : mm_call mm_Ex (d + 4) k_X5_text [.ref 2, .int (nI 3), .int n] (hH L xs J s F) K := by
  unfold S_text at hk
  rw [show (nI 3).toNatClampNeg = 3 from tn_nI (by decide)] at hk
  refine mm_run 60 (mm_run 60 (x_within (And.intro (fun q => absurd q (by decide)) (fun _ => ⟨vp_in_nI (by decide) (by decide), 52, rfl, And.intro (fun c => ?_) (fun c => ?_)⟩))))
  · rw [if_pos ⟨by decide, c⟩] at hk
    refine And.intro (fun c2 => ⟨vp_in_nI (by decide) (by decide), 52, rfl, ?_⟩) (fun c2 => x_refuse (w := 5) (by decide) ?_)
    · rw [if_pos c2] at hk
      obtain ⟨m, hm, rfl⟩ := in_nI (n := 80) (by decide) c2 c
      exact x_renew_52 hm (hk _ (XT.text hx (r := 3) (by decide) hm))
    · rw [if_neg c2] at hk
      exact hk _ ((XT.same hx).fi (by decide))
  · rw [if_neg (fun z => c z.2)] at hk
    exact mm_run 5 (hk _ (XT.same hx))
theorem x_put_3 (hx : XRc F F) {i v : Int32} (hk : ∀ F1, XT F F1 (S_put F (nI 3) i v).2 → K (some (.int (S_put F (nI 3) i v).1)) (hH L xs J s F1)) : mm_call mm_Ex (d + 4) k_X5_put [.ref 2, .int (nI 3), .int i, .int v] (hH L xs J s F) K := by
  unfold S_put at hk
  rw [if_pos (by decide), show (nI 3).toNatClampNeg = 3 from tn_nI (by decide)] at hk
  have hs := hx.2.1 3 (by decide)
  refine mm_run 60 (x_within (And.intro (fun _ => ⟨vp_in_nI (by decide) (by decide), 52, rfl, x_refusal_52 (fun c => ?_) (fun c c2 => ?_) (fun c c2 => ?_)⟩) (fun q => absurd q (by decide))))
  · refine And.intro (fun z => absurd z (by decide)) (fun _ => mm_run 5 ?_)
    rcases hs with ⟨m1, m2⟩ | ⟨z, z1, z2, z3, z4⟩
    · rw [m1, if_neg (by decide)] at hk
      exact hk _ ((XT.same hx).fi (by decide))
    · exact absurd ((show F 52 1 = nI z from z3) ▸ c) (nI_pos (by omega))
  · rcases hs with ⟨m1, m2⟩ | ⟨z, z1, z2, z3, z4⟩
    · exact absurd ((show F 52 1 = -1 from m2) ▸ (by decide : (-1 : Int32) < 0)) c
    · have z3 : F 52 1 = nI z := z3
      rw [z3] at c2
      have c3 := (lt_in (by omega)).mp c2
      obtain ⟨p, hp, rfl⟩ := lt_nI (by omega) c2.1 c2.2
      rw [z2, if_pos (nle0 (by omega)), if_pos c3, show (80 : Int32) * nI 3 + nI p = nI (80 * 3 + p) from ix (c := 80), tn_nI (by omega)] at hk
      refine And.intro (fun _ => ⟨vp_in_nI (by decide) (by decide), 52, rfl, x_swap_52 z3 z1 hp (mm_run 5 ?_)⟩) (fun z => absurd rfl z)
      rw [show F 53 p = F 79 (80 * 3 + p) from z4 p hp, byteI, Int32.add_comm]
      exact hk _ (XT.put hx (r := 3) (by decide) (by omega))
  · refine And.intro (fun z => absurd z (by decide)) (fun _ => mm_run 5 ?_)
    rcases hs with ⟨m1, m2⟩ | ⟨z, z1, z2, z3, z4⟩
    · exact absurd ((show F 52 1 = -1 from m2) ▸ (by decide : (-1 : Int32) < 0)) c
    · have z3 : F 52 1 = nI z := z3
      rw [z3] at c2
      rw [z2, if_pos (nle0 (by omega)), if_neg (fun y => c2 ((lt_in (by omega)).mpr y))] at hk
      exact hk _ ((XT.same hx).fi (by decide))
theorem x_row (hx : XRc F F) {r n : Int32} (hk : ∀ F1, XT F F1 (S_row F r n).2 → K (some (.int (S_row F r n).1)) (hH L xs J s F1)) : mm_call mm_Ex (d + 4) k_X5_row [.ref 2, .int r, .int n] (hH L xs J s F) K := by
  by_cases c : 0 ≤ r ∧ r < 6
  · obtain ⟨j, hj, rfl⟩ := lt_nI (n := 6) (by decide) c.1 c.2
    match j, hj with
    | 0, _ => exact x_row_0 hx hk
    | 1, _ => exact x_row_1 hx hk
    | 2, _ => exact x_row_2 hx hk
    | 3, _ => exact x_row_3 hx hk
    | 4, _ => exact x_row_4 hx hk
    | 5, _ => exact x_row_5 hx hk
  · unfold S_row at hk
    rw [if_neg (fun z => c ⟨z.1.1, Int32.lt_of_le_of_lt z.1.2 (by decide)⟩)] at hk
    exact mm_run 60 (mm_run 60 (x_within (And.intro (fun _ => mm_run 5 (hk _ (XT.same hx))) (fun q => absurd (b2i_p q) c))))
theorem x_lay (hx : XRc F F) {r i v : Int32} (hk : ∀ F1, XT F F1 (S_lay F r i v).2 → K (some (.int (S_lay F r i v).1)) (hH L xs J s F1)) : mm_call mm_Ex (d + 4) k_X5_lay [.ref 2, .int r, .int i, .int v] (hH L xs J s F) K := by
  by_cases c : 0 ≤ r ∧ r < 6
  · obtain ⟨j, hj, rfl⟩ := lt_nI (n := 6) (by decide) c.1 c.2
    match j, hj with
    | 0, _ => exact x_lay_0 hx hk
    | 1, _ => exact x_lay_1 hx hk
    | 2, _ => exact x_lay_2 hx hk
    | 3, _ => exact x_lay_3 hx hk
    | 4, _ => exact x_lay_4 hx hk
    | 5, _ => exact x_lay_5 hx hk
  · unfold S_lay at hk
    rw [if_neg (fun z => c ⟨z.1, Int32.lt_of_le_of_lt z.2 (by decide)⟩)] at hk
    exact mm_run 60 (x_within (And.intro (fun q => absurd (b2i_p q) c) (fun _ => hk _ (XT.same hx))))
theorem x_at (hx : XRc F F) {r i : Int32} (hk : ∀ F1, XT F F1 (S_at F r i).2 → K (some (.int (S_at F r i).1)) (hH L xs J s F1)) : mm_call mm_Ex (d + 4) k_X5_at [.ref 2, .int r, .int i] (hH L xs J s F) K := by
  by_cases c : 0 ≤ r ∧ r < 6
  · obtain ⟨j, hj, rfl⟩ := lt_nI (n := 6) (by decide) c.1 c.2
    match j, hj with
    | 0, _ => exact x_at_0 hx hk
    | 1, _ => exact x_at_1 hx hk
    | 2, _ => exact x_at_2 hx hk
    | 3, _ => exact x_at_3 hx hk
    | 4, _ => exact x_at_4 hx hk
    | 5, _ => exact x_at_5 hx hk
  · unfold S_at at hk
    rw [if_neg (fun z => c ⟨z.1, Int32.lt_of_le_of_lt z.2 (by decide)⟩)] at hk
    exact mm_run 60 (x_within (And.intro (fun q => absurd (b2i_p q) c) (fun _ => hk _ (XT.same hx))))
theorem x_tear (hx : XRc F F) {r : Int32} (hk : ∀ F1, XT F F1 (S_tear F r).2 → K (some (.int (S_tear F r).1)) (hH L xs J s F1)) : mm_call mm_Ex (d + 4) k_X5_tear [.ref 2, .int r] (hH L xs J s F) K := by
  by_cases c : 0 ≤ r ∧ r < 6
  · obtain ⟨j, hj, rfl⟩ := lt_nI (n := 6) (by decide) c.1 c.2
    match j, hj with
    | 0, _ => exact x_tear_0 hx hk
    | 1, _ => exact x_tear_1 hx hk
    | 2, _ => exact x_tear_2 hx hk
    | 3, _ => exact x_tear_3 hx hk
    | 4, _ => exact x_tear_4 hx hk
    | 5, _ => exact x_tear_5 hx hk
  · unfold S_tear at hk
    rw [if_neg (fun z => c ⟨z.1, Int32.lt_of_le_of_lt z.2 (by decide)⟩)] at hk
    exact mm_run 60 (x_within (And.intro (fun q => absurd (b2i_p q) c) (fun _ => hk _ (XT.same hx))))
theorem x_mean (hx : XRc F F) {r : Int32} (hk : ∀ F1, XT F F1 (S_mean F r).2 → K (some (.int (S_mean F r).1)) (hH L xs J s F1)) : mm_call mm_Ex (d + 4) k_X5_mean [.ref 2, .int r] (hH L xs J s F) K := by
  by_cases c : 0 ≤ r ∧ r < 6
  · obtain ⟨j, hj, rfl⟩ := lt_nI (n := 6) (by decide) c.1 c.2
    match j, hj with
    | 0, _ => exact x_mean_0 hx hk
    | 1, _ => exact x_mean_1 hx hk
    | 2, _ => exact x_mean_2 hx hk
    | 3, _ => exact x_mean_3 hx hk
    | 4, _ => exact x_mean_4 hx hk
    | 5, _ => exact x_mean_5 hx hk
  · unfold S_mean at hk
    rw [if_neg (fun z => c ⟨z.1, Int32.lt_of_le_of_lt z.2 (by decide)⟩)] at hk
    exact mm_run 60 (x_within (And.intro (fun q => absurd (b2i_p q) c) (fun _ => hk _ (XT.same hx))))
theorem x_text (hx : XRc F F) {r n : Int32} (hk : ∀ F1, XT F F1 (S_text F r n).2 → K (some (.int (S_text F r n).1)) (hH L xs J s F1)) : mm_call mm_Ex (d + 4) k_X5_text [.ref 2, .int r, .int n] (hH L xs J s F) K := by
  by_cases c : 0 ≤ r ∧ r < 4
  · obtain ⟨j, hj, rfl⟩ := lt_nI (n := 4) (by decide) c.1 c.2
    match j, hj with
    | 0, _ => exact x_text_0 hx hk
    | 1, _ => exact x_text_1 hx hk
    | 2, _ => exact x_text_2 hx hk
    | 3, _ => exact x_text_3 hx hk
  · unfold S_text at hk
    rw [if_neg (fun z => c ⟨z.1.1, Int32.lt_of_le_of_lt z.1.2 (by decide)⟩)] at hk
    exact mm_run 60 (mm_run 60 (x_within (And.intro (fun _ => mm_run 5 (hk _ (XT.same hx))) (fun q => absurd (b2i_p q) c))))
theorem x_put (hx : XRc F F) {r i v : Int32} (hk : ∀ F1, XT F F1 (S_put F r i v).2 → K (some (.int (S_put F r i v).1)) (hH L xs J s F1)) : mm_call mm_Ex (d + 4) k_X5_put [.ref 2, .int r, .int i, .int v] (hH L xs J s F) K := by
  by_cases c : 0 ≤ r ∧ r < 4
  · obtain ⟨j, hj, rfl⟩ := lt_nI (n := 4) (by decide) c.1 c.2
    match j, hj with
    | 0, _ => exact x_put_0 hx hk
    | 1, _ => exact x_put_1 hx hk
    | 2, _ => exact x_put_2 hx hk
    | 3, _ => exact x_put_3 hx hk
  · unfold S_put at hk
    rw [if_neg (fun z => c ⟨z.1, Int32.lt_of_le_of_lt z.2 (by decide)⟩)] at hk
    exact mm_run 60 (x_within (And.intro (fun q => absurd (b2i_p q) c) (fun _ => hk _ (XT.same hx))))
end XOp
