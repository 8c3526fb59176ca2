/-! the reference: copy, mean, texts -/
/-- equal but for what the reference keeps as scratch -/
def CE (F F' : Nat → Nat → Int32) : Prop := (∀ k, k ≠ 75 → k ≠ 80 → k ≠ 90 → k ≠ 91 → k ≠ 92 → F k = F' k) ∧ ∀ j, j ≠ 19 → j ≠ 21 → j ≠ 22 → j ≠ 25 → j ≠ 26 → F 75 j = F' 75 j
theorem CE.rf {F : Nat → Nat → Int32} : CE F F := ⟨fun _ _ _ _ _ _ => rfl, fun _ _ _ _ _ _ => rfl⟩
def part (z i n : Int32) : Prop := 0 ≤ i ∧ i ≤ z ∧ n ≤ z - i
def S_copy (F : Nat → Nat → Int32) (r i to j n : Int32) : Int32 × (Nat → Nat → Int32) :=
  if (0 ≤ r ∧ r ≤ 5) ∧ (0 ≤ to ∧ to ≤ 5) then (if 0 ≤ n then (if 0 ≤ F 76 (r.toNatClampNeg) ∧ 0 ≤ F 76 (to.toNatClampNeg) then (if (0 ≤ i ∧ i ≤ F 76 (r.toNatClampNeg) ∧ n ≤ F 76 (r.toNatClampNeg) - i) ∧ (0 ≤ j ∧ j ≤ F 76 (to.toNatClampNeg) ∧ n ≤ F 76 (to.toNatClampNeg) - j) then (1, upF F 77 (va_cpy (F 77) (F 77) (40 * r.toNatClampNeg + i.toNatClampNeg) (40 * to.toNatClampNeg + j.toNatClampNeg) (n.toNatClampNeg))) else (-3, S_fi F 2)) else (-3, S_fi F 1)) else (-3, S_fi F 5)) else (-1, F)
def sumL (f : Nat → Int32) : Nat → Int64
  | 0 => 0
  | n + 1 => sumL f n + (f n).toInt64
def S_mean (F : Nat → Nat → Int32) (r : Int32) : Int32 × (Nat → Nat → Int32) :=
  if 0 ≤ r ∧ r ≤ 5 then (if 0 ≤ F 76 (r.toNatClampNeg) then (if F 76 (r.toNatClampNeg) = 0 then (-3, S_fi F 4) else (1, S_te F (sumL (fun k => F 77 (40 * r.toNatClampNeg + k)) ((F 76 (r.toNatClampNeg)).toNatClampNeg) / (F 76 (r.toNatClampNeg)).toInt64).toInt32)) else (-3, S_fi F 1)) else (-1, F)
def S_text (F : Nat → Nat → Int32) (t n : Int32) : Int32 × (Nat → Nat → Int32) :=
  if (0 ≤ t ∧ t ≤ 3) ∧ n ≤ 80 then (if 0 ≤ n then (n, upF (up2 F 78 (t.toNatClampNeg) n) 79 (fil (F 79) (80 * t.toNatClampNeg) 80 32)) else (-3, S_fi F 5)) else (-1, F)
def S_put (F : Nat → Nat → Int32) (t i v : Int32) : Int32 × (Nat → Nat → Int32) :=
  if 0 ≤ t ∧ t ≤ 3 then (if 0 ≤ F 78 (t.toNatClampNeg) then (if 0 ≤ i ∧ i ≤ F 78 (t.toNatClampNeg) - 1 then (1000 + F 79 ((80 * t + i).toNatClampNeg), up2 F 79 ((80 * t + i).toNatClampNeg) (v <<< (24 &&& 31) >>> (24 &&& 31))) else (-3, S_fi F 2)) else (-3, S_fi F 1)) else (-1, F)
theorem vpPt {F : Nat → Nat → Int32} (hG : G_sz F) {r i : Int32} (c : ¬ b2i (0 ≤ r ∧ r ≤ 3) = 0) (c3 : 0 ≤ F 78 (r.toNatClampNeg)) (c4 : ¬ b2i (0 ≤ i ∧ i ≤ F 78 (r.toNatClampNeg) - 1) = 0) : ∃ j p z, r = nI j ∧ i = nI p ∧ F 78 j = nI z ∧ j < 4 ∧ p < z ∧ z ≤ 80 ∧ 80 * r + i = nI (80 * j + p) ∧ vp_in (80 * r + i) 320 := by
  obtain ⟨j, hj, rfl⟩ := isText_of c
  have e : (nI j).toNatClampNeg = j := tn_nI (by omega)
  rw [e] at c3 c4
  obtain ⟨z, hz, ez⟩ := sz_pos (hG.2 j hj) (by decide) c3
  have c6 := not_not_b c4
  rw [ez] at c6
  obtain ⟨p, hp', rfl⟩ := pl_of (by omega) c6
  have e2 : (80 : Int32) * nI j + nI p = nI (80 * j + p) := ix (c := 80)
  refine ⟨j, p, z, rfl, rfl, ez, hj, hp', hz, e2, ?_⟩
  rw [e2]
  exact vp_in_nI (by omega) (by decide)
/-- a run of places within a row -/
theorem part_of {z i n : Int32} {Z : Nat} (hz : z = nI Z) (hZ : Z ≤ 40) (hn : 0 ≤ n) (h : 0 ≤ i ∧ i ≤ z ∧ n ≤ z - i) : ∃ p q, i = nI p ∧ n = nI q ∧ p + q ≤ Z := by
  obtain ⟨h0, h1, h2⟩ := h
  subst hz
  obtain ⟨p, hp, rfl⟩ := in_nI (by omega) h0 h1
  rw [pk_sub hp] at h2
  obtain ⟨q, hq, rfl⟩ := in_nI (by omega) hn h2
  exact ⟨p, q, rfl, rfl, by omega⟩
section MR2
variable {d L s : Nat} {xs : Nat → Int32} {J : Nat → Int64} {F : Nat → Nat → Int32} {K : mm_K} {h : mm_H}
theorem m_text {r n : Int32} (hk : K (some (.int (S_text F r n).1)) (hH L xs J s (S_text F r n).2)) : mm_call mm_Ex (d + 2) k_X6_text [.ref 75, .int r, .int n] (hH L xs J s F) K := by
  unfold S_text at hk
  have B : ¬ ((0 ≤ r ∧ r ≤ 3) ∧ n ≤ 80) → mm_Ex (d + 2) k_X6_text 6 (0, 0) [.ref 75, .int r, .int n, .null] [] (hH L xs J s F) K := by
    intro c
    rw [if_neg c] at hk
    exact mm_run 5 hk
  refine mm_run 50 (s_isText (And.intro (fun c => B (fun q => b2i_0.mp c q.1)) (fun c => And.intro (fun c2 => ?_) (fun c2 => B (fun q => c2 q.2)))))
  rw [if_pos ⟨not_not_b c, c2⟩] at hk
  refine And.intro (fun c3 => ⟨vpT c, ?_⟩) (fun c3 => ?_)
  · rw [if_pos c3] at hk
    obtain ⟨j, hj, rfl⟩ := isText_of c
    have ej : (nI j).toNatClampNeg = j := tn_nI (by omega)
    rw [ej] at hk
    refine lp (n := 80) (P := fun i => ∀ x h, x = nI i → h = hH L xs J s (upF (up2 F 78 j n) 79 (fil (F 79) (80 * j) i 32)) → mm_Ex (d + 2) k_X6_text 21 (0, 0) [.ref 75, .int (nI j), .int n, .int x] [] h K) ?_ ?_ 0 _ rfl ?_
    · intro x h hx hh
      subst hx hh
      exact mm_run 50 (And.intro (fun _ => hk) (fun c => absurd (show (80 : Int32) ≤ nI 80 by decide) c))
    · intro i hi ih x h hx hh
      subst hx hh
      have e : (80 : Int32) * nI j + nI i = nI (80 * j + i) := ix (c := 80)
      have e2 : ((80 : Int32) * nI j + nI i).toNatClampNeg = 80 * j + i := by rw [e]; exact tn_nI (by omega)
      refine mm_run 50 (And.intro (fun c => absurd c (nleI (b := 80) hi (by decide))) (fun c => ⟨by rw [e]; exact vp_in_nI (by omega) (by decide), ?_⟩))
      refine ih _ _ (nI_1 i) ((hp1 rfl).trans (hHx fun a => ?_))
      rw [upF_same]
      show upF _ 79 (upd (fil (F 79) (80 * j) i 32) (((80 : Int32) * nI j + nI i).toNatClampNeg) 32) a = _
      rw [e2, fil_s]
    · rw [fil_0]
      refine (hp1 rfl).trans (hHx fun a => ?_)
      show up2 F 78 ((nI j).toNatClampNeg) n a = _
      rw [ej]
      exact congrFun (upF_id (F := up2 F 78 j n) (k := 79)).symm a
  · rw [if_neg c3] at hk
    exact s_finds (w := 5) (by decide) hk
theorem m_put (hG : G_sz F) {r i v : Int32} (hk : K (some (.int (S_put F r i v).1)) (hH L xs J s (S_put F r i v).2)) : mm_call mm_Ex (d + 2) k_X6_put [.ref 75, .int r, .int i, .int v] (hH L xs J s F) K := by
  unfold S_put at hk
  refine mm_run 60 (s_isText (And.intro (fun c => ⟨vpT c, And.intro (fun c3 => ⟨vpT c, s_in (And.intro (fun c4 => ?_) (fun c4 => ?_))⟩) (fun c3 => ?_)⟩) (fun c => ?_)))
  · obtain ⟨j, p, z, e1, e2, e3, e4, e5, e6, e7, hv⟩ := vpPt hG c c3 c4
    rw [if_pos (not_not_b c), if_pos c3, if_pos (not_not_b c4)] at hk
    refine ⟨hv, hv, ?_⟩
    exact kh (hp1 rfl) hk
  · rw [if_pos (not_not_b c), if_pos c3, if_neg (b2i_0.mp c4)] at hk
    exact s_finds (w := 2) (by decide) hk
  · rw [if_pos (not_not_b c), if_neg c3] at hk
    exact s_finds (w := 1) (by decide) hk
  · rw [if_neg (b2i_0.mp c)] at hk
    exact hk
theorem m_mean (hG : G_sz F) {r : Int32} (hk : K (some (.int (S_mean F r).1)) (hH L xs J s (S_mean F r).2)) : mm_call mm_Ex (d + 2) k_X6_mean [.ref 75, .int r] (hH L xs J s F) K := by
  unfold S_mean at hk
  refine mm_run 60 (s_isRow (And.intro (fun c => ⟨vpR c, And.intro (fun c3 => ⟨vpR c, And.intro (fun c4 => ?_) (fun c4 => ?_)⟩) (fun c3 => ?_)⟩) (fun c => ?_)))
  · rw [if_pos (not_not_b c), if_pos c3, if_neg c4] at hk
    have c9 := c
    obtain ⟨j, hj, rfl⟩ := isRow_of c
    have ej : (nI j).toNatClampNeg = j := tn_nI (by omega)
    have ej2 : (nI j).toNatClampNeg = j := ej
    rw [ej] at hk
    rw [ej2] at c3 c4
    obtain ⟨z, hz, ez⟩ := sz_pos (hG.1 j hj) (by decide) c3
    have ez2 : (F 76 j).toNatClampNeg = z := by rw [ez]; exact tn_nI (by omega)
    rw [ez2] at hk
    refine lp (n := z) (P := fun i => ∀ x a, x = nI i → a = sumL (fun k => F 77 (40 * j + k)) i → mm_Ex (d + 2) k_X6_mean 27 (0, 0) [.ref 75, .int (nI j), .long a, .null, .int x] [] (hH L xs J s F) K) ?_ ?_ 0 0 rfl rfl
    · intro x a hx ha
      subst hx ha
      refine mm_run 60 ⟨vpR c9, And.intro (fun _ => ⟨vpR c9, ?_⟩) (fun c => ?_)⟩
      · refine And.intro (fun q => c4 ?_) (s_tells ?_)
        · rw [ej2, ez, nI_l (by omega)] at q
          rw [ez, (lN_eq (a := z) (b := 0) (by omega) (by decide)).mp q]
          rfl
        · rw [ej2]
          exact hk
      · rw [ej2, ez] at c
        exact absurd ((nI_leI (by omega) (by omega)).mpr (Nat.le_refl z)) c
    · intro i hi ih x a hx ha
      subst hx ha
      have e : (40 : Int32) * nI j + nI i = nI (40 * j + i) := ix (c := 40)
      have e2 : ((40 : Int32) * nI j + nI i).toNatClampNeg = 40 * j + i := by rw [e]; exact tn_nI (by omega)
      refine mm_run 60 ⟨vpR c9, And.intro (fun c => ?_) (fun c => ⟨by rw [e]; exact vp_in_nI (by omega) (by decide), ih _ _ (nI_1 i) ?_⟩)⟩
      · rw [ej2, ez] at c
        exact absurd c (nleI hi (by omega))
      · rw [e2]
        rfl
  · rw [if_pos (not_not_b c), if_pos c3, if_pos c4] at hk
    exact s_finds (w := 4) (by decide) hk
  · rw [if_pos (not_not_b c), if_neg c3] at hk
    exact s_finds (w := 1) (by decide) hk
  · rw [if_neg (b2i_0.mp c)] at hk
    exact hk
theorem s_isPart {r i n : Int32} (hr : vp_in r 6) (hk : K (some (.int (b2i (0 ≤ i ∧ i ≤ F 76 (r.toNatClampNeg) ∧ n ≤ F 76 (r.toNatClampNeg) - i)))) (hH L xs J s F)) : mm_call mm_Ex d k_X6_isPart [.ref 75, .int r, .int i, .int n] (hH L xs J s F) K := by
  have JJ : ∀ x, x = b2i (0 ≤ i ∧ i ≤ F 76 (r.toNatClampNeg) ∧ n ≤ F 76 (r.toNatClampNeg) - i) → mm_Ex d k_X6_isPart 19 (0, 0) [.ref 75, .int r, .int i, .int n] [.int x] (hH L xs J s F) K := fun x e => by
    refine mm_run 5 ⟨?_, ?_⟩
    · rw [e]; exact b2i_01
    · rw [e]; exact hk
  have J0 : ¬ (0 ≤ i ∧ i ≤ F 76 (r.toNatClampNeg) ∧ n ≤ F 76 (r.toNatClampNeg) - i) → mm_Ex d k_X6_isPart 18 (0, 0) [.ref 75, .int r, .int i, .int n] [] (hH L xs J s F) K := fun c => mm_run 5 (JJ 0 (b2i_f c).symm)
  refine mm_run 60 (And.intro (fun c => J0 fun q => Int32.not_le.mpr c q.1) (fun c => ⟨hr, And.intro (fun c2 => J0 fun q => Int32.not_le.mpr c2 q.2.1) (fun c2 => ⟨hr, And.intro (fun c3 => J0 fun q => Int32.not_le.mpr c3 q.2.2) (fun c3 => JJ 1 (b2i_t ⟨Int32.not_lt.mp c, Int32.not_lt.mp c2, Int32.not_lt.mp c3⟩).symm)⟩)⟩))
theorem m_copy (hG : G_sz F) {r i to j n : Int32} (hk : ∀ F', CE F' (S_copy F r i to j n).2 → (∀ k, k < 75 → F' k = F k) → K (some (.int (S_copy F r i to j n).1)) (hH L xs J s F')) : mm_call mm_Ex (d + 2) k_X6_copy [.ref 75, .int r, .int i, .int to, .int j, .int n] (hH L xs J s F) K := by
  unfold S_copy at hk
  have B6 : ¬ ((0 ≤ r ∧ r ≤ 5) ∧ (0 ≤ to ∧ to ≤ 5)) → mm_Ex (d + 2) k_X6_copy 6 (0, 0) [.ref 75, .int r, .int i, .int to, .int j, .int n, .null] [] (hH L xs J s F) K := by
    intro c
    rw [if_neg c] at hk
    exact mm_run 5 (hk F CE.rf (fun _ _ => rfl))
  refine mm_run 60 (s_isRow (And.intro (fun c => B6 (fun q => b2i_0.mp c q.1)) (fun c => s_isRow (And.intro (fun c2 => ?_) (fun c2 => B6 (fun q => b2i_0.mp c2 q.2))))))
  rw [if_pos ⟨not_not_b c, not_not_b c2⟩] at hk
  refine And.intro (fun c3 => ⟨vpR c, ?_⟩) (fun c3 => ?_)
  · rw [if_pos c3] at hk
    have B24 : ¬ (0 ≤ F 76 (r.toNatClampNeg) ∧ 0 ≤ F 76 (to.toNatClampNeg)) → mm_Ex (d + 2) k_X6_copy 24 (0, 0) [.ref 75, .int r, .int i, .int to, .int j, .int n, .null] [] (hH L xs J s F) K := by
      intro c
      rw [if_neg c] at hk
      exact mm_run 5 (s_finds (w := 1) (by decide) (hk _ CE.rf (fun k hk => by simp only [S_fi, up2, upF]; rw [if_neg (by omega), if_neg (by omega)])))
    refine And.intro (fun c4 => B24 (fun q => Int32.not_le.mpr c4 q.1)) (fun c4 => ⟨vpR c2, And.intro (fun c5 => ?_) (fun c5 => B24 (fun q => c5 q.2))⟩)
    have c4 := Int32.not_lt.mp c4
    rw [if_pos ⟨c4, c5⟩] at hk
    have B40 : ¬ ((0 ≤ i ∧ i ≤ F 76 (r.toNatClampNeg) ∧ n ≤ F 76 (r.toNatClampNeg) - i) ∧ (0 ≤ j ∧ j ≤ F 76 (to.toNatClampNeg) ∧ n ≤ F 76 (to.toNatClampNeg) - j)) → mm_Ex (d + 2) k_X6_copy 40 (0, 0) [.ref 75, .int r, .int i, .int to, .int j, .int n, .null] [] (hH L xs J s F) K := by
      intro c
      rw [if_neg c] at hk
      exact mm_run 5 (s_finds (w := 2) (by decide) (hk _ CE.rf (fun k hk => by simp only [S_fi, up2, upF]; rw [if_neg (by omega), if_neg (by omega)])))
    refine s_isPart (vpR c) (And.intro (fun c6 => B40 (fun q => b2i_0.mp c6 q.1)) (fun c6 => s_isPart (vpR c2) (And.intro (fun c7 => ?_) (fun c7 => B40 (fun q => b2i_0.mp c7 q.2)))))
    have p6 := not_not_b c6
    have p7 := not_not_b c7
    rw [if_pos ⟨p6, p7⟩] at hk
    obtain ⟨a, ha, rfl⟩ := isRow_of c
    obtain ⟨b, hb, rfl⟩ := isRow_of c2
    have ea : (nI a).toNatClampNeg = a := tn_nI (by omega)
    have eb : (nI b).toNatClampNeg = b := tn_nI (by omega)
    rw [ea] at c4 p6
    rw [eb] at c5 p7
    obtain ⟨z, hz, ez⟩ := sz_pos (hG.1 a ha) (by decide) c4
    obtain ⟨z2, hz2, ez2⟩ := sz_pos (hG.1 b hb) (by decide) c5
    obtain ⟨p, q, rfl, rfl, h1⟩ := part_of ez hz c3 p6
    obtain ⟨p2, q2, rfl, hq2, h2⟩ := part_of ez2 hz2 c3 p7
    have hqq : q = q2 := (nI_eq (by omega) (by omega)).mp hq2
    subst hqq
    rw [ea, eb, tn_nI (by omega), tn_nI (by omega), tn_nI (by omega)] at hk
    refine lp (n := q) (P := fun i => ∀ x h, x = nI i → h = hH L xs J s (upF F 80 (fun y => if y < i then F 77 (40 * a + p + y) else F 80 y)) → mm_Ex (d + 2) k_X6_copy 46 (0, 0) [.ref 75, .int (nI a), .int (nI p), .int (nI b), .int (nI p2), .int (nI q), .int x] [] h K) ?_ ?_ 0 _ rfl ?_
    · intro x h hx hh
      subst hx hh
      refine mm_run 60 (And.intro (fun _ => ?_) (fun c => absurd ((nI_leI (by omega) (by omega)).mpr (Nat.le_refl q)) c))
      refine lp (n := q) (P := fun i => ∀ x h, x = nI i → h = hH L xs J s (upF (upF F 80 (fun y => if y < q then F 77 (40 * a + p + y) else F 80 y)) 77 (va_cpy (F 77) (F 77) (40 * a + p) (40 * b + p2) i)) → mm_Ex (d + 2) k_X6_copy 67 (0, 0) [.ref 75, .int (nI a), .int (nI p), .int (nI b), .int (nI p2), .int (nI q), .int x] [] h K) ?_ ?_ 0 _ rfl ?_
      · intro x h hx hh
        subst hx hh
        refine mm_run 60 (And.intro (fun _ => hk _ ⟨fun k k1 k2 k3 k4 k5 => ?_, fun k k1 k2 k3 k4 k5 => ?_⟩ (fun k h0 => ?_)) (fun c => absurd ((nI_leI (by omega) (by omega)).mpr (Nat.le_refl q)) c))
        · simp only [upF, if_neg k2]
        · simp only [upF]
          rfl
        · simp only [upF]
          rw [if_neg (by omega), if_neg (by omega)]
      · intro i hi ih x h hx hh
        subst hx hh
        have e : (40 : Int32) * nI b + nI p2 + nI i = nI (40 * b + p2 + i) := by rw [show (40 : Int32) * nI b + nI p2 = nI (40 * b + p2) from ix (c := 40), nI_add]
        have e2 : ((40 : Int32) * nI b + nI p2 + nI i).toNatClampNeg = 40 * b + p2 + i := by rw [e]; exact tn_nI (by omega)
        have e3 : (nI i).toNatClampNeg = i := tn_nI (by omega)
        refine mm_run 60 (And.intro (fun c => absurd c (nleI hi (by omega))) (fun c => ⟨vp_in_nI (by omega) (by decide), by rw [e]; exact vp_in_nI (by omega) (by decide), ?_⟩))
        refine ih _ _ (nI_1 i) ((hp1 rfl).trans (hHx fun k => ?_))
        rw [upF_same]
        congr 1
        funext y
        show upd (va_cpy (F 77) (F 77) (40 * a + p) (40 * b + p2) i) _ (if (nI i).toNatClampNeg < q then F 77 (40 * a + p + (nI i).toNatClampNeg) else F 80 (nI i).toNatClampNeg) y = _
        rw [e2, e3, if_pos hi]
        simp only [upd, va_cpy]
        by_cases hy : y = 40 * b + p2 + i
        · subst hy
          rw [if_pos rfl, if_pos (by omega)]
          congr 1
          omega
        · rw [if_neg hy]
          by_cases h3 : 40 * b + p2 ≤ y ∧ y < 40 * b + p2 + i
          · rw [if_pos h3, if_pos (by omega)]
          · rw [if_neg h3, if_neg (by omega)]
      · refine hHx fun k => ?_
        have e0 : va_cpy (F 77) (F 77) (40 * a + p) (40 * b + p2) 0 = F 77 := by
          funext y
          simp only [va_cpy]
          rw [if_neg (by omega)]
        rw [e0]
        exact congrFun (upF_id (F := upF F 80 (fun y => if y < q then F 77 (40 * a + p + y) else F 80 y)) (k := 77)).symm k
    · intro i hi ih x h hx hh
      subst hx hh
      have e : (40 : Int32) * nI a + nI p + nI i = nI (40 * a + p + i) := by rw [show (40 : Int32) * nI a + nI p = nI (40 * a + p) from ix (c := 40), nI_add]
      have e2 : ((40 : Int32) * nI a + nI p + nI i).toNatClampNeg = 40 * a + p + i := by rw [e]; exact tn_nI (by omega)
      have e3 : (nI i).toNatClampNeg = i := tn_nI (by omega)
      refine mm_run 60 (And.intro (fun c => absurd c (nleI hi (by omega))) (fun c => ⟨by rw [e]; exact vp_in_nI (by omega) (by decide), vp_in_nI (by omega) (by decide), ?_⟩))
      refine ih _ _ (nI_1 i) ((hp1 rfl).trans (hHx fun k => ?_))
      rw [upF_same]
      congr 1
      funext y
      show upd (fun y => if y < i then F 77 (40 * a + p + y) else F 80 y) (nI i).toNatClampNeg (F 77 ((40 : Int32) * nI a + nI p + nI i).toNatClampNeg) y = _
      rw [e2, e3]
      simp only [upd]
      by_cases hy : y = i
      · subst hy
        rw [if_pos rfl, if_pos (by omega)]
      · rw [if_neg hy]
        by_cases h3 : y < i
        · rw [if_pos h3, if_pos (by omega)]
        · rw [if_neg h3, if_neg (by omega)]
    · refine hHx fun k => ?_
      simp only [upF]
      split
      · rename_i e9
        subst e9
        funext y
        rw [if_neg (by omega)]
      · rfl
  · rw [if_neg c3] at hk
    exact s_finds (w := 5) (by decide) (hk _ CE.rf (fun k hk => by simp only [S_fi, up2, upF]; rw [if_neg (by omega), if_neg (by omega)]))
end MR2
