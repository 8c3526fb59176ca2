/-! the reference: what is due, ways -/
theorem b2i_b (b : Bool) : b2i (b = true) = if b then 1 else 0 := by cases b <;> rfl
theorem nI_b (a : Nat) (p : Nat → Bool) (j : Nat) : nI (a + fa_cnt p j) + b2i (p j = true) = nI (a + fa_cnt p (j + 1)) := by
  rw [fa_cnt, b2i_b]
  cases p j
  · exact Int32.add_zero _
  · show nI (a + fa_cnt p j) + 1 = nI (a + (fa_cnt p j + 1))
    rw [nI_1]
    rfl
theorem b2i_p {c : Prop} [Decidable c] (h : ¬ b2i c = 0) : c := not_not_b h
/-- what the scratch of the reference says: who is there, what more is against whom -/
def G_t (F : Nat → Nat → Int32) (t : Nat) (sk : Nat → Nat) : Prop := F 75 19 = nI t ∧ ∀ i, i < 9 → F 90 i = nI (sk i) ∧ sk i ≤ 9
section MD
variable {d L s : Nat} {xs : Nat → Int32} {J : Nat → Int64} {F : Nat → Nat → Int32} {K : mm_K} {h : mm_H} {n t : Nat} {sk : Nat → Nat}
set_option maxHeartbeats 1000000 in
theorem s_isDue (hn : F 75 10 = nI n) (hc : Cw n (mq F)) (ht : G_t F t sk) {S i : Nat} (hi : i < n) {its cited left : Int32} (hcd : cited = -9 ∨ ∃ c, c < 31 ∧ cited = nI c)
    (hk : K (some (.int (b2i (dueB n (mq F) sk (S &&& t) i its cited left = true)))) (hH L xs J s F)) : mm_call mm_Ex (d + 1) k_X6_isDue [.ref 75, .int (nI i), .int (nI S), .int its, .int cited, .int left] (hH L xs J s F) K := by
  have h9 := hc.1
  have ei : (nI i).toNatClampNeg = i := tn_nI (by omega)
  have hvi : vp_in (nI i) 9 := vp_in_nI (by omega) (by decide)
  have hand : nI S &&& nI t = nI (S &&& t) := fa_and S t
  obtain ⟨u, hu⟩ : ∃ u, u = S &&& t := ⟨_, rfl⟩
  rw [← hu] at hk hand
  have hski := (ht.2 i (by omega)).2
  have ha9 : ∀ j, j ≤ n → agN j (mq F) u i left ≤ 9 := fun j hj => Nat.le_trans (fa_cnt_le _ _) (by omega)
  have hp9 : ∀ j, j ≤ n → prN j (mq F) u i left ≤ 9 := fun j hj => Nat.le_trans (fa_cnt_le _ _) (by omega)
  refine mm_run 60 ⟨hvi, ?_⟩
  have e0 : F 90 (nI i).toNatClampNeg = nI (sk i) := by rw [ei]; exact (ht.2 i (by omega)).1
  refine lp (n := n) (P := fun j => ∀ (x a b c : Int32) (w1 w2 : Value), x = nI j → a = nI (sk i + agN j (mq F) u i left) → b = nI (prN j (mq F) u i left) → c = b2i (otB j (mq F) u i = true) → mm_Ex (d + 1) k_X6_isDue 11 (0, 0) [.ref 75, .int (nI i), .int (nI S), .int its, .int cited, .int left, .int a, .int b, .int c, .int x, w1, w2] [] (hH L xs J s F) K) ?_ ?_ _ _ _ _ _ _ rfl (by rw [e0]; rfl) rfl rfl
  · intro x a b c w1 w2 hx ha hb hcc
    subst hx
    have hA := ha9 n (Nat.le_refl n)
    have hP := hp9 n (Nat.le_refl n)
    -- the end: by kind
    have a0 : (a = 0 ↔ sk i + agN n (mq F) u i left = 0) := by
      rw [ha]
      exact nI_eq (b := 0) (by omega) (by decide)
    have a2 : ((2 : Int32) ≤ a ↔ ¬ sk i + agN n (mq F) u i left < 2) := by
      rw [ha]
      refine (nI_leI (a := 2) (by decide) (by omega)).trans ?_
      omega
    have b0 : (b ≤ 0 ↔ ¬ 0 < prN n (mq F) u i left) := by
      rw [hb]
      refine (nI_leI (b := 0) (by omega) (by decide)).trans ?_
      omega
    have J98 : ∀ y, y = b2i (bdB u cited = true) → mm_Ex (d + 1) k_X6_isDue 98 (0, 0) [.ref 75, .int (nI i), .int (nI S), .int its, .int cited, .int left, .int a, .int b, .int c, .int (nI n), w1, w2] [.int y] (hH L xs J s F) K := by
      intro y hy
      unfold dueB dueK at hk
      have y0 : y = 0 ↔ ¬ bdB u cited = true := by rw [hy]; exact b2i_0
      have c0 : c = 0 ↔ ¬ otB n (mq F) u i = true := by rw [hcc]; exact b2i_0
      have R : ∀ (ip : Nat) (v : Int32) (z : Bool), v = b2i (z = true) → K (some (.int (b2i (z = true)))) (hH L xs J s F) → (v = 0 ∨ v = 1) ∧ K (some (.int v)) (hH L xs J s F) := fun ip v z e q => by
        subst e
        exact ⟨b2i_01, q⟩
      refine mm_run 60 (And.intro (fun k1 => ?_) (fun k1 => And.intro (fun k2 => ?_) (fun k2 => And.intro (fun k3 => ?_) (fun k3 => And.intro (fun k4 => ?_) (fun k4 => And.intro (fun k5 => ?_) (fun k5 => ?_))))))
      · rw [if_pos k1] at hk
        have Z : ¬ (decide (sk i + agN n (mq F) u i left = 0) && bdB u cited) = true → mm_Ex (d + 1) k_X6_isDue 107 (0, 0) [.ref 75, .int (nI i), .int (nI S), .int its, .int cited, .int left, .int a, .int b, .int c, .int y, w1, w2] [] (hH L xs J s F) K := fun q => mm_run 5 (mm_run 5 (R 0 0 _ (b2i_f q).symm hk))
        refine And.intro (fun q => Z ?_) (fun q => And.intro (fun q2 => Z ?_) (fun q2 => mm_run 5 (R 0 1 _ (b2i_t ?_).symm hk)))
        · rw [a0] at q
          rw [decide_eq_false q]
          simp
        · rw [y0] at q2
          simp [q2]
        · rw [a0] at q
          rw [y0] at q2
          simp only [Classical.not_not] at q2
          simp [q, q2]
      · rw [if_neg k1, if_pos k2] at hk
        refine And.intro (fun q => mm_run 5 (R 0 0 _ (b2i_f ?_).symm hk)) (fun q => mm_run 5 (R 0 1 _ (b2i_t ?_).symm hk))
        · rw [a2] at q
          simpa using q
        · rw [a2, Classical.not_not] at q
          simpa using q
      · rw [if_neg k1, if_neg k2, if_pos k3] at hk
        have Z : ¬ (decide (sk i + agN n (mq F) u i left = 0) && decide (0 < prN n (mq F) u i left)) = true → mm_Ex (d + 1) k_X6_isDue 122 (0, 0) [.ref 75, .int (nI i), .int (nI S), .int its, .int cited, .int left, .int a, .int b, .int c, .int y, w1, w2] [] (hH L xs J s F) K := fun q => mm_run 5 (mm_run 5 (R 0 0 _ (b2i_f q).symm hk))
        refine And.intro (fun q => Z ?_) (fun q => And.intro (fun q2 => Z ?_) (fun q2 => mm_run 5 (R 0 1 _ (b2i_t ?_).symm hk)))
        · rw [a0] at q
          rw [decide_eq_false q]
          simp
        · rw [b0] at q2
          simp [q2]
        · rw [a0] at q
          rw [b0, Classical.not_not] at q2
          simp [q, q2]
      · rw [if_neg k1, if_neg k2, if_neg k3, if_pos k4] at hk
        have Z : ¬ (decide (sk i + agN n (mq F) u i left = 0) && (bdB u cited && otB n (mq F) u i)) = true → mm_Ex (d + 1) k_X6_isDue 132 (0, 0) [.ref 75, .int (nI i), .int (nI S), .int its, .int cited, .int left, .int a, .int b, .int c, .int y, w1, w2] [] (hH L xs J s F) K := fun q => mm_run 5 (mm_run 5 (R 0 0 _ (b2i_f q).symm hk))
        refine And.intro (fun q => Z ?_) (fun q => And.intro (fun q2 => Z ?_) (fun q2 => And.intro (fun q3 => Z ?_) (fun q3 => mm_run 5 (R 0 1 _ (b2i_t ?_).symm hk))))
        · rw [a0] at q
          rw [decide_eq_false q]
          simp
        · rw [y0] at q2
          simp [q2]
        · rw [c0] at q3
          simp [q3]
        · rw [a0] at q
          rw [y0, Classical.not_not] at q2
          rw [c0, Classical.not_not] at q3
          simp [q, q2, q3]
      · rw [if_neg k1, if_neg k2, if_neg k3, if_neg k4, if_pos k5] at hk
        exact R 0 1 true rfl hk
      · rw [if_neg k1, if_neg k2, if_neg k3, if_neg k4, if_neg k5] at hk
        refine And.intro (fun q => mm_run 5 (R 0 0 _ (b2i_f ?_).symm hk)) (fun q => mm_run 5 (R 0 1 _ (b2i_t ?_).symm hk))
        · rw [a0] at q
          simpa using q
        · rw [a0] at q
          simpa using q
    have J95 : bdB u cited = true → mm_Ex (d + 1) k_X6_isDue 95 (0, 0) [.ref 75, .int (nI i), .int (nI S), .int its, .int cited, .int left, .int a, .int b, .int c, .int (nI n), w1, w2] [] (hH L xs J s F) K := fun q => mm_run 5 (J98 1 (b2i_t q).symm)
    refine mm_run 60 (And.intro (fun _ => And.intro (fun q => J95 ?_) (fun q => ?_)) (fun c => absurd ?_ c))
    · simp [bdB, q]
    · rcases hcd with hcd | ⟨cc, hc1, rfl⟩
      · exact absurd hcd q
      · have ecc : (nI cc).toNatClampNeg = cc := tn_nI (by omega)
        show mm_call mm_Ex d k_X6_has [.int (nI S &&& F 75 19), .int (nI cc)] _ _
        rw [ht.1, hand]
        refine s_hasN hc1 (And.intro (fun q2 => J98 0 (b2i_f ?_).symm) (fun q2 => J95 ?_))
        · rw [b2i_0] at q2
          simp [bdB, q, ecc, q2]
        · have := b2i_p q2
          simp [bdB, ecc, this]
    · show F 75 10 ≤ nI n
      rw [hn]
      exact (nI_leI (by omega) (by omega)).mpr (Nat.le_refl n)
  · intro j hj ih x a b c w1 w2 hx ha hb hcc
    subst hx
    have ej : (nI j).toNatClampNeg = j := tn_nI (by omega)
    have hv : vp_in (nI j) 9 := vp_in_nI (by omega) (by decide)
    refine mm_run 60 (And.intro (fun q => ?_) (fun q => ?_))
    · have q : F 75 10 ≤ nI j := q
      rw [hn] at q
      exact absurd q (nleI hj (by omega))
    · show mm_call mm_Ex d k_X6_has [.int (nI S &&& F 75 19), .int (nI j)] _ _
      rw [ht.1, hand]
      refine s_hasN (by omega) ?_
      -- names
      obtain ⟨nm, hnm⟩ : ∃ nm : Bool, nm = (u.testBit j && (decide (mq F 3 j = nI i) && !decide (nI j = left))) := ⟨_, rfl⟩
      obtain ⟨st, hst⟩ : ∃ st : Int32, st = b2i (u.testBit j = true) := ⟨_, rfl⟩
      have J82 : ∀ y, y = b2i (otB (j + 1) (mq F) u i = true) → mm_Ex (d + 1) k_X6_isDue 82 (0, 0) [.ref 75, .int (nI i), .int (nI S), .int its, .int cited, .int left, .int (nI (sk i + agN (j + 1) (mq F) u i left)), .int (nI (prN (j + 1) (mq F) u i left)), .int c, .int (nI j), .int st, .int (b2i (nm = true))] [.int y] (hH L xs J s F) K := fun y hy => mm_run 60 (ih _ _ _ _ _ _ (nI_1 j) rfl rfl hy)
      have J61 : ∀ y, y = b2i ((nm && decide (0 < mq F 4 j)) = true) → mm_Ex (d + 1) k_X6_isDue 61 (0, 0) [.ref 75, .int (nI i), .int (nI S), .int its, .int cited, .int left, .int (nI (sk i + agN (j + 1) (mq F) u i left)), .int b, .int c, .int (nI j), .int st, .int (b2i (nm = true))] [.int y, .int b] (hH L xs J s F) K := by
        intro y hy
        have e1 : b + y = nI (prN (j + 1) (mq F) u i left) := by
          have := nI_b 0 (fun j => (u.testBit j && (decide (mq F 3 j = nI i) && !decide (nI j = left))) && decide (0 < mq F 4 j)) j
          rw [Nat.zero_add, Nat.zero_add] at this
          rw [hy, hb, hnm]
          exact this
        have J79 : otB (j + 1) (mq F) u i = true → mm_Ex (d + 1) k_X6_isDue 79 (0, 0) [.ref 75, .int (nI i), .int (nI S), .int its, .int cited, .int left, .int (nI (sk i + agN (j + 1) (mq F) u i left)), .int (nI (prN (j + 1) (mq F) u i left)), .int c, .int (nI j), .int st, .int (b2i (nm = true))] [] (hH L xs J s F) K := fun q => mm_run 5 (J82 1 (b2i_t q).symm)
        have J81 : ¬ otB (j + 1) (mq F) u i = true → mm_Ex (d + 1) k_X6_isDue 81 (0, 0) [.ref 75, .int (nI i), .int (nI S), .int its, .int cited, .int left, .int (nI (sk i + agN (j + 1) (mq F) u i left)), .int (nI (prN (j + 1) (mq F) u i left)), .int c, .int (nI j), .int st, .int (b2i (nm = true))] [] (hH L xs J s F) K := fun q => mm_run 5 (J82 0 (b2i_f q).symm)
        have eot : otB (j + 1) (mq F) u i = (otB j (mq F) u i || (u.testBit j && (!decide (j = i) && decide (mq F 1 j = mq F 1 i)))) := rfl
        rw [← e1] at J79 J81
        refine mm_run 60 (And.intro (fun q => J79 ?_) (fun q => And.intro (fun q2 => J81 ?_) (fun q2 => And.intro (fun q3 => J81 ?_) (fun q3 => ⟨hv, hvi, And.intro (fun q4 => J81 ?_) (fun q4 => J79 ?_)⟩))))
        · rw [hcc] at q
          rw [eot, b2i_p q]
          rfl
        · rw [hcc, b2i_0] at q
          rw [hst, b2i_0] at q2
          rw [eot]
          simp [q, q2]
        · rw [hcc, b2i_0] at q
          have q3 := (nI_eq (a := j) (b := i) (by omega) (by omega)).mp q3
          rw [eot]
          simp [q3]
          subst q3
          simpa using q
        · rw [hcc, b2i_0] at q
          rw [ej, ei] at q4
          have q4 : ¬ mq F 1 j = mq F 1 i := q4
          rw [eot]
          simp [q4]
          simpa using q
        · rw [ej, ei] at q4
          have q4 : mq F 1 j = mq F 1 i := q4
          rw [hst] at q2
          have q2 := b2i_p q2
          have q3 : ¬ j = i := fun z => q3 (by rw [z])
          rw [eot]
          simp [q2, q3, q4]
      have J48 : ∀ y, y = b2i ((nm && decide (mq F 4 j < 0)) = true) → mm_Ex (d + 1) k_X6_isDue 48 (0, 0) [.ref 75, .int (nI i), .int (nI S), .int its, .int cited, .int left, .int a, .int b, .int c, .int (nI j), .int st, .int (b2i (nm = true))] [.int y, .int a] (hH L xs J s F) K := by
        intro y hy
        have e1 : a + y = nI (sk i + agN (j + 1) (mq F) u i left) := by
          have := nI_b (sk i) (fun j => (u.testBit j && (decide (mq F 3 j = nI i) && !decide (nI j = left))) && decide (mq F 4 j < 0)) j
          rw [hy, ha, hnm]
          exact this
        have J60 : ¬ (nm && decide (0 < mq F 4 j)) = true → mm_Ex (d + 1) k_X6_isDue 60 (0, 0) [.ref 75, .int (nI i), .int (nI S), .int its, .int cited, .int left, .int (a + y), .int b, .int c, .int (nI j), .int st, .int (b2i (nm = true))] [.int b] (hH L xs J s F) K := fun q => by
          rw [e1]
          exact mm_run 5 (J61 0 (b2i_f q).symm)
        rw [← e1] at J61
        refine mm_run 60 (And.intro (fun q => J60 ?_) (fun q => ⟨hv, And.intro (fun q2 => J60 ?_) (fun q2 => J61 1 (b2i_t ?_).symm)⟩))
        · rw [b2i_0] at q
          simp [q]
        · rw [ej] at q2
          have q2 : mq F 4 j ≤ 0 := q2
          simp [Int32.not_lt.mpr q2]
        · rw [ej] at q2
          have q2 : ¬ mq F 4 j ≤ 0 := q2
          have q := b2i_p q
          simp [q, Int32.not_le.mp q2]
      have J36 : ∀ y, y = b2i (nm = true) → mm_Ex (d + 1) k_X6_isDue 36 (0, 0) [.ref 75, .int (nI i), .int (nI S), .int its, .int cited, .int left, .int a, .int b, .int c, .int (nI j), .int st, w2] [.int y] (hH L xs J s F) K := by
        intro y hy
        subst hy
        have J47 : ¬ (nm && decide (mq F 4 j < 0)) = true → mm_Ex (d + 1) k_X6_isDue 47 (0, 0) [.ref 75, .int (nI i), .int (nI S), .int its, .int cited, .int left, .int a, .int b, .int c, .int (nI j), .int st, .int (b2i (nm = true))] [.int a] (hH L xs J s F) K := fun q => mm_run 5 (J48 0 (b2i_f q).symm)
        refine mm_run 60 (And.intro (fun q => J47 ?_) (fun q => ⟨hv, And.intro (fun q2 => J47 ?_) (fun q2 => J48 1 (b2i_t ?_).symm)⟩))
        · rw [b2i_0] at q
          simp [q]
        · rw [ej] at q2
          have q2 : 0 ≤ mq F 4 j := q2
          simp [Int32.not_lt.mpr q2]
        · rw [ej] at q2
          have q2 : ¬ 0 ≤ mq F 4 j := q2
          have q := b2i_p q
          simp [q, Int32.not_le.mp q2]
      have J35 : ¬ nm = true → mm_Ex (d + 1) k_X6_isDue 35 (0, 0) [.ref 75, .int (nI i), .int (nI S), .int its, .int cited, .int left, .int a, .int b, .int c, .int (nI j), .int st, w2] [] (hH L xs J s F) K := fun q => mm_run 5 (J36 0 (b2i_f q).symm)
      rw [← hst]
      refine And.intro (fun q => J35 ?_) (fun q => ⟨hv, And.intro (fun q2 => J35 ?_) (fun q2 => And.intro (fun q3 => J35 ?_) (fun q3 => J36 1 (b2i_t ?_).symm))⟩)
      · rw [hst, b2i_0] at q
        rw [hnm]
        simp [q]
      · rw [ej] at q2
        have q2 : ¬ mq F 3 j = nI i := q2
        rw [hnm]
        simp [q2]
      · rw [hnm]
        simp [q3]
      · rw [ej] at q2
        have q2 : mq F 3 j = nI i := q2
        rw [hst] at q
        have q := b2i_p q
        rw [hnm]
        simp [q, q2, q3]
theorem wayB_lt {S : Nat} (h : wayB n (mq F) sk t S = true) (hn : n ≤ 9) : S < 2 ^ n := by
  unfold wayB at h
  simp only [Bool.and_eq_true, decide_eq_true_eq] at h
  rw [← h.2]
  exact setB_lt _ _
theorem s_dueBy (hn : F 75 10 = nI n) (hc : Cw n (mq F)) (ht : G_t F t sk) {S : Nat} (hk : K (some (.int (nI (dueS n (mq F) sk t S)))) (hH L xs J s F)) : mm_call mm_Ex (d + 2) k_X6_dueBy [.ref 75, .int (nI S)] (hH L xs J s F) K := by
  have h9 := hc.1
  refine mm_run 60 (lp (n := n) (P := fun i => ∀ x a, x = nI i → a = nI (setB (fun i => t.testBit i && dueB n (mq F) sk (S &&& t) i (mq F 0 i) (mq F 3 i) (-9)) i) → mm_Ex (d + 2) k_X6_dueBy 4 (0, 0) [.ref 75, .int (nI S), .int a, .int x] [] (hH L xs J s F) K) ?_ ?_ 0 0 rfl rfl)
  · intro x a hx ha
    subst hx ha
    refine mm_run 60 (And.intro (fun _ => hk) (fun c => absurd ?_ c))
    show F 75 10 ≤ nI n
    rw [hn]
    exact (nI_leI (by omega) (by omega)).mpr (Nat.le_refl n)
  · intro i hi ih x a hx ha
    subst hx
    have ei : (nI i).toNatClampNeg = i := tn_nI (by omega)
    have hv : vp_in (nI i) 9 := vp_in_nI (by omega) (by decide)
    obtain ⟨p, hp'⟩ : ∃ p : Bool, p = (t.testBit i && dueB n (mq F) sk (S &&& t) i (mq F 0 i) (mq F 3 i) (-9)) := ⟨_, rfl⟩
    have J33 : ∀ y, y = nI (if p then 2 ^ i else 0) → mm_Ex (d + 2) k_X6_dueBy 33 (0, 0) [.ref 75, .int (nI S), .int a, .int (nI i)] [.int y, .int a] (hH L xs J s F) K := fun y hy => by
      refine mm_run 60 (ih _ _ (nI_1 i) ?_)
      rw [ha, hy, fa_or, hp']
      rfl
    have J32 : p = false → mm_Ex (d + 2) k_X6_dueBy 32 (0, 0) [.ref 75, .int (nI S), .int a, .int (nI i)] [.int a] (hH L xs J s F) K := fun q => mm_run 5 (J33 0 (by rw [q]; rfl))
    refine mm_run 60 (And.intro (fun q => ?_) (fun q => ?_))
    · have q : F 75 10 ≤ nI i := q
      rw [hn] at q
      exact absurd q (nleI hi (by omega))
    · show mm_call mm_Ex (d + 1) k_X6_has [.int (F 75 19), .int (nI i)] _ _
      rw [ht.1]
      refine s_hasN (by omega) (And.intro (fun q => J32 ?_) (fun q => ⟨hv, hv, ?_⟩))
      · rw [b2i_0] at q
        rw [hp']
        simp [q]
      · show mm_call mm_Ex (d + 1) k_X6_isDue [.ref 75, .int (nI i), .int (nI S), .int (F 82 (nI i).toNatClampNeg), .int (F 85 (nI i).toNatClampNeg), .int (-9)] _ _
        rw [ei]
        have q := b2i_p q
        refine s_isDue hn hc ht hi ?_ (And.intro (fun q2 => J32 ?_) (fun q2 => J33 _ ?_))
        · obtain ⟨-, -, -, q4, -⟩ := hc.2 i hi
          rcases q4 with ⟨z, -⟩ | ⟨j, j1, j2, -⟩
          · exact Or.inl z
          · exact Or.inr ⟨j, by omega, j2⟩
        · rw [b2i_0] at q2
          have q2 : ¬ dueB n (mq F) sk (S &&& t) i (mq F 0 i) (mq F 3 i) (-9) = true := q2
          rw [hp']
          simp [q2]
        · have q2 : dueB n (mq F) sk (S &&& t) i (mq F 0 i) (mq F 3 i) (-9) = true := b2i_p q2
          rw [hp', q, q2]
          exact shl1 (by omega)
theorem s_isWay (hn : F 75 10 = nI n) (hc : Cw n (mq F)) (ht : G_t F t sk) (ht9 : t < 2 ^ 31) {S : Nat} (hS : S < 2 ^ 31) (hk : K (some (.int (b2i (wayB n (mq F) sk t S = true)))) (hH L xs J s F)) : mm_call mm_Ex (d + 3) k_X6_isWay [.ref 75, .int (nI S)] (hH L xs J s F) K := by
  have h9 := hc.1
  have hlt := setB_lt (fun i => t.testBit i && dueB n (mq F) sk (S &&& t) i (mq F 0 i) (mq F 3 i) (-9)) n
  have hp9 := pw9 h9
  have J15 : ∀ y, y = b2i (wayB n (mq F) sk t S = true) → mm_Ex (d + 3) k_X6_isWay 15 (0, 0) [.ref 75, .int (nI S)] [.int y] (hH L xs J s F) K := fun y hy => by
    subst hy
    exact mm_run 5 ⟨b2i_01, hk⟩
  have J14 : ¬ wayB n (mq F) sk t S = true → mm_Ex (d + 3) k_X6_isWay 14 (0, 0) [.ref 75, .int (nI S)] [] (hH L xs J s F) K := fun q => mm_run 5 (J15 0 (b2i_f q).symm)
  have hd : (nI S &&& (F 75 19 ^^^ (-1)) = 0) ↔ dif S t = 0 := by
    rw [ht.1, difI]
    exact nI_eq (b := 0) (dif_le S t hS) (by decide)
  refine mm_run 60 (And.intro (fun q => J14 ?_) (fun q => s_dueBy hn hc ht (And.intro (fun q2 => J14 ?_) (fun q2 => J15 1 (b2i_t ?_).symm))))
  · rw [hd] at q
    simp [wayB, q]
  · have : ¬ dueS n (mq F) sk t S = S := fun z => q2 (by rw [z])
    simp [wayB, this]
  · rw [hd] at q
    have : dueS n (mq F) sk t S = S := (nI_eq (Nat.lt_of_lt_of_le hlt (by omega)) hS).mp q2
    simp [wayB, q, this]
theorem pwI (hn : F 75 10 = nI n) (h9 : n ≤ 9) : (1 : Int32) <<< (F 75 10 &&& 31) = nI (2 ^ n) := by rw [hn, shl1 (by omega)]
theorem s_wayMany (hn : F 75 10 = nI n) (hc : Cw n (mq F)) (ht : G_t F t sk) (ht9 : t < 2 ^ 31) (hk : K (some (.int (nI (fa_cnt (wayB n (mq F) sk t) (2 ^ n))))) (hH L xs J s F)) : mm_call mm_Ex (d + 4) k_X6_wayMany [.ref 75] (hH L xs J s F) K := by
  have h9 := hc.1
  have hp9 := pw9 h9
  have hpw := pwI hn h9
  refine mm_run 60 (lp (n := 2 ^ n) (P := fun S => ∀ x a, x = nI S → a = nI (0 + fa_cnt (wayB n (mq F) sk t) S) → mm_Ex (d + 4) k_X6_wayMany 4 (0, 0) [.ref 75, .int a, .int x] [] (hH L xs J s F) K) ?_ ?_ 0 0 rfl rfl)
  · intro x a hx ha
    subst hx
    rw [Nat.zero_add] at ha
    subst ha
    refine mm_run 60 (And.intro (fun _ => hk) (fun c => absurd ?_ c))
    show (1 : Int32) <<< (F 75 10 &&& 31) ≤ nI (2 ^ n)
    rw [hpw]
    exact (nI_leI (by omega) (by omega)).mpr (Nat.le_refl _)
  · intro S hS ih x a hx ha
    subst hx
    have J18 : ∀ y, y = b2i (wayB n (mq F) sk t S = true) → mm_Ex (d + 4) k_X6_wayMany 18 (0, 0) [.ref 75, .int a, .int (nI S)] [.int y, .int a] (hH L xs J s F) K := fun y hy => by
      refine mm_run 60 (ih _ _ (nI_1 S) ?_)
      rw [ha, hy]
      exact nI_b 0 _ S
    refine mm_run 60 (And.intro (fun q => ?_) (fun q => s_isWay hn hc ht ht9 (by omega) (And.intro (fun q2 => J18 0 (b2i_f (b2i_0.mp q2)).symm) (fun q2 => J18 1 (b2i_t (b2i_p q2)).symm))))
    have q : (1 : Int32) <<< (F 75 10 &&& 31) ≤ nI S := q
    rw [hpw] at q
    exact absurd q (nleI hS (by omega))
/-- the first way, or none -/
def frst (n : Nat) (p : Nat → Bool) : Int32 := if fa_first p (2 ^ n) < 2 ^ n then nI (fa_first p (2 ^ n)) else -9
theorem s_firstWay (hn : F 75 10 = nI n) (hc : Cw n (mq F)) (ht : G_t F t sk) (ht9 : t < 2 ^ 31) (hk : K (some (.int (frst n (wayB n (mq F) sk t)))) (hH L xs J s F)) : mm_call mm_Ex (d + 4) k_X6_firstWay [.ref 75] (hH L xs J s F) K := by
  have h9 := hc.1
  have hp9 := pw9 h9
  have hpw := pwI hn h9
  have hle := fa_first_le (wayB n (mq F) sk t) (2 ^ n)
  unfold frst at hk
  have J14 : ∀ S, S = fa_first (wayB n (mq F) sk t) (2 ^ n) → mm_Ex (d + 4) k_X6_firstWay 14 (0, 0) [.ref 75, .int (nI S)] [] (hH L xs J s F) K := by
    intro S hS
    rw [← hS] at hk hle
    refine mm_run 60 (And.intro (fun q => ?_) (fun q => ?_))
    · have q : (1 : Int32) <<< (F 75 10 &&& 31) ≤ nI S := q
      rw [hpw] at q
      have q := (nI_leI (by omega) (by omega)).mp q
      rw [if_neg (by omega)] at hk
      exact mm_run 5 hk
    · have q : ¬ (1 : Int32) <<< (F 75 10 &&& 31) ≤ nI S := q
      rw [hpw] at q
      have : S < 2 ^ n := Nat.lt_of_not_le fun z => q ((nI_leI (by omega) (by omega)).mpr z)
      rw [if_pos this] at hk
      exact mm_run 5 hk
  refine mm_run 60 (lp (n := fa_first (wayB n (mq F) sk t) (2 ^ n)) (P := fun S => ∀ x, x = nI S → mm_Ex (d + 4) k_X6_firstWay 2 (0, 0) [.ref 75, .int x] [] (hH L xs J s F) K) ?_ ?_ 0 rfl)
  · intro x hx
    subst hx
    refine mm_run 60 (And.intro (fun _ => J14 _ rfl) (fun q => s_isWay hn hc ht ht9 (by omega) (And.intro (fun _ => J14 _ rfl) (fun q2 => ?_))))
    have q : ¬ (1 : Int32) <<< (F 75 10 &&& 31) ≤ nI _ := q
    rw [hpw] at q
    have hlt : fa_first (wayB n (mq F) sk t) (2 ^ n) < 2 ^ n := Nat.lt_of_not_le fun z => q ((nI_leI (by omega) (by omega)).mpr z)
    exact absurd (fa_first_yes _ _ hlt) (b2i_0.mp q2)
  · intro S hS ih x hx
    subst hx
    have hno := fa_first_no _ _ _ hS
    refine mm_run 60 (And.intro (fun q => ?_) (fun q => s_isWay hn hc ht ht9 (by omega) (And.intro (fun q2 => ?_) (fun q2 => ih _ (nI_1 S)))))
    · have q : (1 : Int32) <<< (F 75 10 &&& 31) ≤ nI S := q
      rw [hpw] at q
      exact absurd q (nleI (by omega) (by omega))
    · have := b2i_p q2
      rw [hno] at this
      cases this
theorem s_standsIn (hn : F 75 10 = nI n) (hc : Cw n (mq F)) (ht : G_t F t sk) (ht9 : t < 2 ^ 31) {i : Nat} (hi : i < n) (hk : K (some (.int (nI (fa_cnt (fun S => S.testBit i && wayB n (mq F) sk t S) (2 ^ n))))) (hH L xs J s F)) : mm_call mm_Ex (d + 4) k_X6_standsIn [.ref 75, .int (nI i)] (hH L xs J s F) K := by
  have h9 := hc.1
  have hp9 := pw9 h9
  have hpw := pwI hn h9
  refine mm_run 60 (lp (n := 2 ^ n) (P := fun S => ∀ x a, x = nI S → a = nI (0 + fa_cnt (fun S => S.testBit i && wayB n (mq F) sk t S) S) → mm_Ex (d + 4) k_X6_standsIn 4 (0, 0) [.ref 75, .int (nI i), .int a, .int x] [] (hH L xs J s F) K) ?_ ?_ 0 0 rfl rfl)
  · intro x a hx ha
    subst hx
    rw [Nat.zero_add] at ha
    subst ha
    refine mm_run 60 (And.intro (fun _ => hk) (fun c => absurd ?_ c))
    show (1 : Int32) <<< (F 75 10 &&& 31) ≤ nI (2 ^ n)
    rw [hpw]
    exact (nI_leI (by omega) (by omega)).mpr (Nat.le_refl _)
  · intro S hS ih x a hx ha
    subst hx
    have J22 : ∀ y, y = b2i ((S.testBit i && wayB n (mq F) sk t S) = true) → mm_Ex (d + 4) k_X6_standsIn 22 (0, 0) [.ref 75, .int (nI i), .int a, .int (nI S)] [.int y, .int a] (hH L xs J s F) K := fun y hy => by
      refine mm_run 60 (ih _ _ (nI_1 S) ?_)
      rw [ha, hy]
      exact nI_b 0 (fun S => S.testBit i && wayB n (mq F) sk t S) S
    have J21 : ¬ (S.testBit i && wayB n (mq F) sk t S) = true → mm_Ex (d + 4) k_X6_standsIn 21 (0, 0) [.ref 75, .int (nI i), .int a, .int (nI S)] [.int a] (hH L xs J s F) K := fun q => mm_run 5 (J22 0 (b2i_f q).symm)
    refine mm_run 60 (And.intro (fun q => ?_) (fun q => s_hasN (by omega) (And.intro (fun q2 => J21 ?_) (fun q2 => s_isWay hn hc ht ht9 (by omega) (And.intro (fun q3 => J21 ?_) (fun q3 => J22 1 (b2i_t ?_).symm))))))
    · have q : (1 : Int32) <<< (F 75 10 &&& 31) ≤ nI S := q
      rw [hpw] at q
      exact absurd q (nleI hS (by omega))
    · rw [b2i_0] at q2
      simp [q2]
    · rw [b2i_0] at q3
      simp [q3]
    · simp [b2i_p q2, b2i_p q3]
end MD
