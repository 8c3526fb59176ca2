/-! the reference: counts, what is told, digest, odds -/
def upJ (J : Nat → Int64) (j : Nat) (a : Int64) : Nat → Int64 := fun k => if k = j then a else J k
theorem hc_J {L : Nat} {xs : Nat → Int32} {J J' : Nat → Int64} {s k : Nat} {f : Nat → Int32} (h : (k ≠ 75 ∧ J 0 = J' 0 ∧ J 1 = J' 1) ∨ (k ≠ 2 ∧ J 2 = J' 2 ∧ J 3 = J' 3)) : hc L xs J s k f = hc L xs J' s k f := by
  rcases h with ⟨h1, h2, h3⟩ | ⟨h1, h2, h3⟩
  · have e : Nat.beq k 75 = false := by
      cases hb : Nat.beq k 75
      · rfl
      · exact absurd (Nat.eq_of_beq_eq_true hb) h1
    unfold hc
    rw [h2, h3, e]
    rfl
  · by_cases h5 : k < 5
    · match k, h5, h1 with
      | 0, _, _ => rfl
      | 1, _, _ => rfl
      | 3, _, _ => rfl
      | 4, _, _ => rfl
    · have e : Nat.blt k 5 = false := by
        cases hb : Nat.blt k 5
        · rfl
        · have : k < 5 := Nat.lt_succ_of_le (by simpa [Nat.blt, Nat.ble_eq] using hb)
          exact absurd this h5
      unfold hc
      rw [h2, h3, e]
      rfl
theorem hpJ {L : Nat} {xs : Nat → Int32} {J J' : Nat → Int64} {s : Nat} {F : Nat → Nat → Int32} {c : mm_C} (e : hc L xs J' s 75 (F 75) = c) (h0 : J 0 = J' 0) (h1 : J 1 = J' 1) : ((93, mU (hH L xs J s F).2 75 c) : mm_H) = hH L xs J' s F := by
  show (93, _) = (93, _)
  congr 1
  funext a
  by_cases h : a = 75
  · subst h
    show (if 75 = 75 then c else _) = hc L xs J' s 75 (F 75)
    rw [if_pos rfl, e]
  · simp only [mU, if_neg h]
    exact hc_J (Or.inl ⟨h, h0, h1⟩)
/-- its part of all ways -/
def S_odds (F : Nat → Nat → Int32) (J : Nat → Int64) (i : Int32) : Int32 × (Nat → Nat → Int32) × (Nat → Int64) :=
  let n := (F 75 10).toNatClampNeg
  let N := fa_cnt (W0 F n) (2 ^ n)
  let I := fa_cnt (fun S => S.testBit i.toNatClampNeg && W0 F n S) (2 ^ n)
  if 0 ≤ i ∧ i ≤ F 75 10 - 1 then (if N = 0 then (-3, S_fi F 4, J) else (1, F, upJ (upJ J 2 (lN (I / Nat.gcd I N))) 3 (lN (N / Nat.gcd I N)))) else (-1, F, J)
section MC
variable {d L s : Nat} {xs : Nat → Int32} {J : Nat → Int64} {F : Nat → Nat → Int32} {K : mm_K} {h : mm_H} {n t : Nat} {sk : Nat → Nat}
theorem s_counted (hn : F 75 10 = nI n) (h9 : n ≤ 9) {what : Int32} (hk : K (some (.int (nI (ctN F n what)))) (hH L xs J s F)) : mm_call mm_Ex (d + 1) k_X6_counted [.ref 75, .int what] (hH L xs J s F) K := by
  obtain ⟨C, hC⟩ : ∃ C, fa_cnt (ctB (mq F) what) n = C := ⟨_, rfl⟩
  obtain ⟨R5, hR5⟩ : ∃ R, (if what = 5 then fa_cnt (thB (F 76)) 6 else 0) = R := ⟨_, rfl⟩
  obtain ⟨R6, hR6⟩ : ∃ R, (if what = 6 then fa_cnt (thB (F 78)) 4 else 0) = R := ⟨_, rfl⟩
  obtain ⟨R7, hR7⟩ : ∃ R, (if what = 7 then fa_cnt (thB (F 88)) 3 else 0) = R := ⟨_, rfl⟩
  have ect : ctN F n what = C + R5 + R6 + R7 := by
    unfold ctN
    rw [hC, ← hR5, ← hR6, ← hR7]
    by_cases h5 : what = 5
    · subst h5
      simp
    · by_cases h6 : what = 6
      · subst h6
        simp
      · by_cases h7 : what = 7
        · subst h7
          simp
        · simp [h5, h6, h7]
  rw [ect] at hk
  have J124 : ∀ a x (w : Value), a = nI (C + R5 + R6 + R7) → mm_Ex (d + 1) k_X6_counted 124 (0, 0) [.ref 75, .int what, .int a, .int x, w] [] (hH L xs J s F) K := fun a x w ha => by
    rw [ha]
    exact mm_run 5 hk
  have J103 : ∀ a x (w : Value), a = nI (C + R5 + R6) → mm_Ex (d + 1) k_X6_counted 103 (0, 0) [.ref 75, .int what, .int a, .int x, w] [] (hH L xs J s F) K := fun a x w ha => by
    by_cases h7 : what = 7
    · rw [if_pos h7] at hR7
      refine mm_run 60 (lp (n := 3) (P := fun k => ∀ x a, x = nI k → a = nI (C + R5 + R6 + fa_cnt (thB (F 88)) k) → mm_Ex (d + 1) k_X6_counted 105 (0, 0) [.ref 75, .int what, .int a, .int x, w] [] (hH L xs J s F) K) ?_ ?_ 0 a rfl ha)
      · intro x a hx ha
        subst hx
        exact mm_run 60 (And.intro (fun _ => J124 _ _ _ (by rw [ha, hR7])) (fun q => absurd (show (3 : Int32) ≤ nI 3 by decide) q))
      · intro k hk1 ih x a hx ha
        subst hx
        have ek : (nI k).toNatClampNeg = k := tn_nI (by omega)
        have J120 : ∀ y, y = b2i (thB (F 88) k = true) → mm_Ex (d + 1) k_X6_counted 120 (0, 0) [.ref 75, .int what, .int a, .int (nI k), w] [.int y, .int a] (hH L xs J s F) K := fun y hy => mm_run 60 (ih _ _ (nI_1 k) (by rw [ha, hy]; exact nI_b _ (thB (F 88)) k))
        refine mm_run 60 (And.intro (fun q => absurd q (nleI (b := 3) hk1 (by decide))) (fun _ => And.intro (fun q => absurd h7 q) (fun _ => ⟨vp_in_nI hk1 (by decide), And.intro (fun q => J120 1 (b2i_t ?_).symm) (fun q => J120 0 (b2i_f ?_).symm)⟩)))
        · rw [ek] at q
          have q : 0 ≤ F 88 k := q
          simpa [thB] using q
        · rw [ek] at q
          have q : ¬ 0 ≤ F 88 k := q
          simpa [thB] using q
    · rw [if_neg h7] at hR7
      refine mm_run 60 (mm_run 60 (And.intro (fun q => absurd q (by decide)) (fun _ => And.intro (fun _ => J124 _ _ _ ?_) (fun q => absurd q h7))))
      rw [ha, ← hR7]
      rfl
  have J82 : ∀ a x (w : Value), a = nI (C + R5) → mm_Ex (d + 1) k_X6_counted 82 (0, 0) [.ref 75, .int what, .int a, .int x, w] [] (hH L xs J s F) K := fun a x w ha => by
    by_cases h7 : what = 6
    · rw [if_pos h7] at hR6
      refine mm_run 60 (lp (n := 4) (P := fun k => ∀ x a, x = nI k → a = nI (C + R5 + fa_cnt (thB (F 78)) k) → mm_Ex (d + 1) k_X6_counted 84 (0, 0) [.ref 75, .int what, .int a, .int x, w] [] (hH L xs J s F) K) ?_ ?_ 0 a rfl ha)
      · intro x a hx ha
        subst hx
        exact mm_run 60 (And.intro (fun _ => J103 _ _ _ (by rw [ha, hR6])) (fun q => absurd (show (4 : Int32) ≤ nI 4 by decide) q))
      · intro k hk1 ih x a hx ha
        subst hx
        have ek : (nI k).toNatClampNeg = k := tn_nI (by omega)
        have J99 : ∀ y, y = b2i (thB (F 78) k = true) → mm_Ex (d + 1) k_X6_counted 99 (0, 0) [.ref 75, .int what, .int a, .int (nI k), w] [.int y, .int a] (hH L xs J s F) K := fun y hy => mm_run 60 (ih _ _ (nI_1 k) (by rw [ha, hy]; exact nI_b _ (thB (F 78)) k))
        refine mm_run 60 (And.intro (fun q => absurd q (nleI (b := 4) hk1 (by decide))) (fun _ => And.intro (fun q => absurd h7 q) (fun _ => ⟨vp_in_nI hk1 (by decide), And.intro (fun q => J99 1 (b2i_t ?_).symm) (fun q => J99 0 (b2i_f ?_).symm)⟩)))
        · rw [ek] at q
          have q : 0 ≤ F 78 k := q
          simpa [thB] using q
        · rw [ek] at q
          have q : ¬ 0 ≤ F 78 k := q
          simpa [thB] using q
    · rw [if_neg h7] at hR6
      refine mm_run 60 (mm_run 60 (And.intro (fun q => absurd q (by decide)) (fun _ => And.intro (fun _ => J103 _ _ _ ?_) (fun q => absurd q h7))))
      rw [ha, ← hR6]
      rfl
  refine mm_run 60 (lp (n := n) (P := fun i => ∀ (x a : Int32) (w : Value), x = nI i → a = nI (0 + fa_cnt (ctB (mq F) what) i) → mm_Ex (d + 1) k_X6_counted 4 (0, 0) [.ref 75, .int what, .int a, .int x, w] [] (hH L xs J s F) K) ?_ ?_ _ _ _ rfl rfl)
  · intro x a w hx ha
    subst hx
    rw [Nat.zero_add, hC] at ha
    refine mm_run 60 (And.intro (fun _ => ?_) (fun q => absurd (nge hn h9) q))
    show mm_Ex _ _ 63 _ _ _ _ _
    by_cases h7 : what = 5
    · rw [if_pos h7] at hR5
      refine lp (n := 6) (P := fun k => ∀ x a, x = nI k → a = nI (C + fa_cnt (thB (F 76)) k) → mm_Ex (d + 1) k_X6_counted 63 (0, 0) [.ref 75, .int what, .int a, .int x, w] [] (hH L xs J s F) K) ?_ ?_ 0 a rfl ha
      · intro x a hx ha
        subst hx
        exact mm_run 60 (And.intro (fun _ => J82 _ _ _ (by rw [ha, hR5])) (fun q => absurd (show (6 : Int32) ≤ nI 6 by decide) q))
      · intro k hk1 ih x a hx ha
        subst hx
        have ek : (nI k).toNatClampNeg = k := tn_nI (by omega)
        have J78 : ∀ y, y = b2i (thB (F 76) k = true) → mm_Ex (d + 1) k_X6_counted 78 (0, 0) [.ref 75, .int what, .int a, .int (nI k), w] [.int y, .int a] (hH L xs J s F) K := fun y hy => mm_run 60 (ih _ _ (nI_1 k) (by rw [ha, hy]; exact nI_b _ (thB (F 76)) k))
        refine mm_run 60 (And.intro (fun q => absurd q (nleI (b := 6) hk1 (by decide))) (fun _ => And.intro (fun q => absurd h7 q) (fun _ => ⟨vp_in_nI hk1 (by decide), And.intro (fun q => J78 1 (b2i_t ?_).symm) (fun q => J78 0 (b2i_f ?_).symm)⟩)))
        · rw [ek] at q
          have q : 0 ≤ F 76 k := q
          simpa [thB] using q
        · rw [ek] at q
          have q : ¬ 0 ≤ F 76 k := q
          simpa [thB] using q
    · rw [if_neg h7] at hR5
      refine mm_run 60 (And.intro (fun q => absurd q (by decide)) (fun _ => And.intro (fun _ => J82 _ _ _ ?_) (fun q => absurd q h7)))
      rw [ha, ← hR5]
      rfl
  · intro i hi ih x a w hx ha
    subst hx
    have ei : (nI i).toNatClampNeg = i := tn_nI (by omega)
    have hv : vp_in (nI i) 9 := vp_in_nI (by omega) (by decide)
    have J57 : ∀ y z, y = b2i (ctB (mq F) what i = true) → mm_Ex (d + 1) k_X6_counted 57 (0, 0) [.ref 75, .int what, .int a, .int (nI i), .int z] [.int y, .int a] (hH L xs J s F) K := fun y z hy => mm_run 60 (ih _ _ _ (nI_1 i) (by rw [ha, hy]; exact nI_b 0 (ctB (mq F) what) i))
    have J50 : ∀ y (w : Value), y = b2i (ctB (mq F) what i = true) → mm_Ex (d + 1) k_X6_counted 50 (0, 0) [.ref 75, .int what, .int a, .int (nI i), w] [.int y] (hH L xs J s F) K := fun y w hy => by
      refine mm_run 60 (And.intro (fun q => ?_) (fun q => ?_))
      · exact J57 0 _ (q ▸ hy)
      · refine J57 1 _ ?_
        rcases b2i_01 (c := ctB (mq F) what i = true) with z | z
        · exact absurd (hy.trans z) q
        · exact z.symm
    have J47 : ctB (mq F) what i = true → mm_Ex (d + 1) k_X6_counted 47 (0, 0) [.ref 75, .int what, .int a, .int (nI i), w] [] (hH L xs J s F) K := fun q => mm_run 5 (J50 1 _ (b2i_t q).symm)
    have J49 : ¬ ctB (mq F) what i = true → mm_Ex (d + 1) k_X6_counted 49 (0, 0) [.ref 75, .int what, .int a, .int (nI i), w] [] (hH L xs J s F) K := fun q => mm_run 5 (J50 0 _ (b2i_f q).symm)
    have J37 : ¬ what = 0 → ¬ (what = 1 ∧ ¬ mq F 3 i = -9) → ¬ (what = 2 ∧ mq F 4 i < 0) → ¬ (what = 3 ∧ isOfB (mq F 0 i) 1 = true) → mm_Ex (d + 1) k_X6_counted 37 (0, 0) [.ref 75, .int what, .int a, .int (nI i), w] [] (hH L xs J s F) K := fun q0 q1 q2 q3 => by
      have e : ctB (mq F) what i = (decide (what = 4) && isOfB (mq F 0 i) 2) := by
        unfold ctB
        have e1 : (decide (what = 1) && !decide (mq F 3 i = -9)) = false := by simpa using q1
        have e2 : (decide (what = 2) && decide (mq F 4 i < 0)) = false := by simpa using q2
        have e3 : (decide (what = 3) && isOfB (mq F 0 i) 1) = false := by simpa using q3
        rw [e1, e2, e3]
        simp [q0]
      rw [e] at J47 J49
      refine mm_run 60 (And.intro (fun q => J49 ?_) (fun q => ⟨hv, s_isOf (And.intro (fun z => J49 ?_) (fun z => J47 ?_))⟩))
      · simp [q]
      · rw [b2i_0, ei] at z
        have z : ¬ isOfB (mq F 0 i) 2 = true := z
        simp [z]
      · have z := b2i_p z
        rw [ei] at z
        have z : isOfB (mq F 0 i) 2 = true := z
        simp [z, q]
    have J27 : ¬ what = 0 → ¬ (what = 1 ∧ ¬ mq F 3 i = -9) → ¬ (what = 2 ∧ mq F 4 i < 0) → mm_Ex (d + 1) k_X6_counted 27 (0, 0) [.ref 75, .int what, .int a, .int (nI i), w] [] (hH L xs J s F) K := fun q0 q1 q2 => by
      refine mm_run 60 (And.intro (fun q => J37 q0 q1 q2 (fun z => q z.1)) (fun q => ⟨hv, s_isOf (And.intro (fun z => J47 ?_) (fun z => J37 q0 q1 q2 fun y => ?_))⟩))
      · have z := b2i_p z
        rw [ei] at z
        have z : isOfB (mq F 0 i) 1 = true := z
        simp [ctB, z, q]
      · rw [b2i_0, ei] at z
        exact z y.2
    have J19 : ¬ what = 0 → ¬ (what = 1 ∧ ¬ mq F 3 i = -9) → mm_Ex (d + 1) k_X6_counted 19 (0, 0) [.ref 75, .int what, .int a, .int (nI i), w] [] (hH L xs J s F) K := fun q0 q1 => by
      refine mm_run 60 (And.intro (fun q => J27 q0 q1 (fun z => q z.1)) (fun q => ⟨hv, And.intro (fun z => J47 ?_) (fun z => J27 q0 q1 fun y => ?_)⟩))
      · rw [ei] at z
        have z : mq F 4 i < 0 := z
        simp [ctB, z, q]
      · rw [ei] at z
        exact z y.2
    refine mm_run 60 (And.intro (fun q => absurd q (nlt hn h9 hi)) (fun _ => And.intro (fun q => J47 ?_) (fun q => And.intro (fun q1 => J19 q fun z => q1 z.1) (fun q1 => ⟨hv, And.intro (fun z => J47 ?_) (fun z => J19 q fun y => ?_)⟩))))
    · simp [ctB, q]
    · rw [ei] at z
      have z : ¬ mq F 3 i = -9 := z
      simp [ctB, z, q1]
    · rw [ei] at z
      exact y.2 z
theorem m_count (hn : F 75 10 = nI n) (h9 : n ≤ 9) {what : Int32} (hk : K (some (.int (S_count F what).1)) (hH L xs J s (S_count F what).2)) : mm_call mm_Ex (d + 2) k_X6_count [.ref 75, .int what] (hH L xs J s F) K := by
  have en : (F 75 10).toNatClampNeg = n := by rw [hn]; exact tn_nI (by omega)
  unfold S_count at hk
  rw [en] at hk
  refine mm_run 60 (s_in (And.intro (fun c => ?_) (fun c => s_counted hn h9 ?_)))
  · rw [if_neg (b2i_0.mp c)] at hk
    exact mm_run 5 hk
  · rw [if_pos (not_not_b c)] at hk
    exact mm_run 5 hk
theorem m_asked (hk : K (some (.int (F 75 7))) (hH L xs J s F)) : mm_call mm_Ex d k_X6_asked [.ref 75] (hH L xs J s F) K := mm_run 10 hk
theorem m_upper (hk : K (some (.long (J 2))) (hH L xs J s F)) : mm_call mm_Ex d k_X6_upper [.ref 75] (hH L xs J s F) K := mm_run 10 hk
theorem m_lower (hk : K (some (.long (J 3))) (hH L xs J s F)) : mm_call mm_Ex d k_X6_lower [.ref 75] (hH L xs J s F) K := mm_run 10 hk
theorem m_finding (hk : K (some (.int (F 75 5))) (hH L xs J s F)) : mm_call mm_Ex d k_X6_finding [.ref 75] (hH L xs J s F) K := mm_run 10 hk
theorem m_findings {f : Int32} (hk : K (some (.int (S_findings F f).1)) (hH L xs J s (S_findings F f).2)) : mm_call mm_Ex (d + 1) k_X6_findings [.ref 75, .int f] (hH L xs J s F) K := by
  unfold S_findings at hk
  refine mm_run 60 (s_in (And.intro (fun c => ?_) (fun c => ⟨?_, ?_⟩)))
  · rw [if_neg (b2i_0.mp c)] at hk
    exact mm_run 5 hk
  · have c := not_not_b c
    obtain ⟨k, hk5, rfl⟩ := in_nI (n := 5) (by decide) (Int32.le_trans (by decide) c.1) c.2
    exact vp_in_nI (by omega) (by decide)
  · rw [if_pos (not_not_b c)] at hk
    exact mm_run 5 hk
theorem hJ2 {a b : Int64} : hH L xs (upJ (upJ J 2 a) 3 b) s F = (93, mU (mU (hH L xs J s F).2 75 (hc L xs (upJ J 2 a) s 75 (F 75))) 75 (hc L xs (upJ (upJ J 2 a) 3 b) s 75 (F 75))) := by
  have e1 := hpJ (L := L) (xs := xs) (J := J) (J' := upJ J 2 a) (s := s) (F := F) rfl rfl rfl
  have e2 := hpJ (L := L) (xs := xs) (J := upJ J 2 a) (J' := upJ (upJ J 2 a) 3 b) (s := s) (F := F) rfl rfl rfl
  rw [← e2, ← e1]
theorem odds_loop {j N I : Nat} (hN : 0 < N) (hNl : N ≤ 512) (hIl : I ≤ 512) (hk : K (some (.int 1)) (hH L xs (upJ (upJ J 2 (lN (I / Nat.gcd I N))) 3 (lN (N / Nat.gcd I N))) s F)) : ∀ m b a (w6 : Value), b ≤ m → a ≤ 512 → b ≤ 512 → Nat.gcd a b = Nat.gcd I N → mm_Ex (d + 5) k_X6_odds 25 (0, 0) [.ref 75, .int (nI j), .int (nI N), .int (nI I), .int (nI a), .int (nI b), w6] [] (hH L xs J s F) K := by
  have hgl : Nat.gcd I N ≤ N := Nat.le_of_dvd (by omega) (Nat.gcd_dvd_right I N)
  have hg0 : 0 < Nat.gcd I N := Nat.gcd_pos_of_pos_right I (by omega)
  obtain ⟨g, hg⟩ : ∃ g, Nat.gcd I N = g := ⟨_, rfl⟩
  rw [hg] at hk hgl hg0 ⊢
  have eI : (nI (I / g)).toInt64 = lN (I / g) := nI_l (Nat.lt_of_le_of_lt (Nat.div_le_self _ _) (by omega))
  have eN : (nI (N / g)).toInt64 = lN (N / g) := nI_l (Nat.lt_of_le_of_lt (Nat.div_le_self _ _) (by omega))
  have e1 : nI I / nI g = nI (I / g) := pk_div (by omega) hg0 (by omega)
  have e2 : nI N / nI g = nI (N / g) := pk_div (by omega) hg0 (by omega)
  rw [← eI, ← eN, ← e1, ← e2, hJ2] at hk
  intro m
  induction m with
  | zero =>
    intro b a w6 hb ha hb2 hg
    have hb : b = 0 := Nat.le_zero.mp hb
    subst hb
    rw [Nat.gcd_zero_right] at hg
    subst hg
    exact mm_run 60 (And.intro (fun _ => ⟨nI_ne0 hg0 (by omega), nI_ne0 hg0 (by omega), hk⟩) (fun q => absurd rfl q))
  | succ m ihm =>
    intro b a w6 hb ha hb2 hg
    by_cases hb0 : b = 0
    · exact ihm b a w6 (by omega) ha hb2 hg
    · refine mm_run 60 (And.intro (fun z => absurd z (nI_ne0 (by omega) (by omega))) (fun z => ⟨z, ?_⟩))
      rw [pk_rem (by omega) (by omega) (by omega)]
      have hml := Nat.mod_lt a (y := b) (by omega)
      refine ihm (a % b) b _ (by omega) hb2 (by omega) ?_
      rw [Nat.gcd_comm, ← Nat.gcd_rec, Nat.gcd_comm]
      exact hg
theorem m_odds (hn : F 75 10 = nI n) (hc : Cw n (mq F)) {i : Int32} (hk : ∀ F', CE F' (S_odds F J i).2.1 → K (some (.int (S_odds F J i).1)) (hH L xs (S_odds F J i).2.2 s F')) : mm_call mm_Ex (d + 5) k_X6_odds [.ref 75, .int i] (hH L xs J s F) K := by
  have h9 := hc.1
  have hp9 := pw9 h9
  have en : (F 75 10).toNatClampNeg = n := by rw [hn]; exact tn_nI (by omega)
  have hx := Cx.all hn hc
  unfold S_odds at hk
  dsimp only at hk
  rw [en] at hk
  obtain ⟨w, hw⟩ : ∃ w, wayB n (mq F) (fun _ => 0) (2 ^ n - 1) = w := ⟨_, rfl⟩
  rw [show W0 F n = w from hw] at hk
  refine mm_run 60 (s_isRuling (And.intro (fun c => s_all hn h9 (s_wayMany hx.1 hx.2.1 hx.2.2.1 hx.t31 ?_)) (fun c => ?_)))
  · rw [if_pos (not_not_b c)] at hk
    rw [hn] at c
    obtain ⟨j, hj, rfl⟩ := isRu_of h9 c
    rw [tn_nI (by omega)] at hk
    rw [mq_all, hw]
    obtain ⟨N, hN⟩ : ∃ N, fa_cnt w (2 ^ n) = N := ⟨_, rfl⟩
    have hNl : N ≤ 512 := by
      rw [← hN]
      exact Nat.le_trans (fa_cnt_le _ _) hp9
    obtain ⟨I, hI⟩ : ∃ I, fa_cnt (fun S => S.testBit j && w S) (2 ^ n) = I := ⟨_, rfl⟩
    have hIl : I ≤ 512 := by
      rw [← hI]
      exact Nat.le_trans (fa_cnt_le _ _) hp9
    rw [hN, hI] at hk
    rw [hN]
    refine And.intro (fun q => s_standsIn hx.1 hx.2.1 hx.2.2.1 hx.t31 hj ?_) (fun q => ?_)
    · have q : ¬ N = 0 := fun z => q (by rw [z]; rfl)
      rw [if_neg q] at hk
      rw [mq_all, hw, hI]
      exact odds_loop (by omega) hNl hIl (hk _ CE.all) 512 N I _ hNl hIl hNl rfl
    · have q : N = 0 := (nI_eq (b := 0) (by omega) (by decide)).mp q
      rw [if_pos q] at hk
      exact s_finds (w := 4) (by decide) (hk _ (CE.all.fi 4))
  · rw [if_neg (b2i_0.mp c)] at hk
    exact hk _ CE.rf
theorem m_digest (hn : F 75 10 = nI n) (h9 : n ≤ 9) (hG : G_sz F) (hk : K (some (.long (S_digest F))) (hH L xs J s F)) : mm_call mm_Ex (d + 2) k_X6_digest [.ref 75] (hH L xs J s F) K := by
  have en : (F 75 10).toNatClampNeg = n := by rw [hn]; exact tn_nI (by omega)
  unfold S_digest at hk
  dsimp only at hk
  rw [en] at hk
  obtain ⟨f1, hf1⟩ : ∃ f : Nat → Int32, (fun w => nI (ctN F n (nI w))) = f := ⟨_, rfl⟩
  obtain ⟨f2, hf2⟩ : ∃ f : Nat → Nat → Int32, (fun i w => toldV n (mq F) (nI i) (nI w)) = f := ⟨_, rfl⟩
  obtain ⟨f3, hf3⟩ : ∃ f : Nat → Int32, (fun k => neg1 (F 88 k)) = f := ⟨_, rfl⟩
  obtain ⟨f4, hf4⟩ : ∃ f : Nat → Nat → Int32, (fun r k => F 77 (40 * r + k)) = f := ⟨_, rfl⟩
  obtain ⟨f5, hf5⟩ : ∃ f : Nat → Nat → Int32, (fun t k => F 79 (80 * t + k)) = f := ⟨_, rfl⟩
  rw [hf1, hf2, hf3, hf4, hf5] at hk
  obtain ⟨h1, hh1⟩ : ∃ h, dg1 f1 17 8 = h := ⟨_, rfl⟩
  rw [hh1] at hk
  obtain ⟨h2, hh2⟩ : ∃ h, dg2 f2 h1 n = h := ⟨_, rfl⟩
  rw [hh2] at hk
  obtain ⟨h3, hh3⟩ : ∃ h, dg1 f3 h2 3 = h := ⟨_, rfl⟩
  rw [hh3] at hk
  obtain ⟨h4, hh4⟩ : ∃ h, dg3 (F 76) f4 h3 6 = h := ⟨_, rfl⟩
  rw [hh4] at hk
  have L5 : ∀ (w : Value), mm_Ex (d + 2) k_X6_digest 117 (0, 0) [.ref 75, .long h4, .null, .int 0, w] [] (hH L xs J s F) K := fun w => by
    refine lp (n := 4) (P := fun t => ∀ (x : Int32) (a : Int64) (w : Value), x = nI t → a = dg3 (F 78) f5 h4 t → mm_Ex (d + 2) k_X6_digest 117 (0, 0) [.ref 75, .long a, .null, .int x, w] [] (hH L xs J s F) K) ?_ ?_ _ _ _ rfl rfl
    · intro x a w hx ha
      subst hx ha
      exact mm_run 60 (And.intro (fun _ => hk) (fun q => absurd (show (4 : Int32) ≤ nI 4 by decide) q))
    · intro t ht ih x a w hx ha
      subst hx
      have et : (nI t).toNatClampNeg = t := tn_nI (by omega)
      have hv : vp_in (nI t) 4 := vp_in_nI ht (by decide)
      obtain ⟨b, hb⟩ : ∃ b, 31 * dg3 (F 78) f5 h4 t + (neg1 (F 78 t)).toInt64 = b := ⟨_, rfl⟩
      have I139 : ∀ b', b' = b → mm_Ex (d + 2) k_X6_digest 139 (0, 0) [.ref 75, .long b', .null, .int (nI t), .int 0] [] (hH L xs J s F) K := fun b' hb' => by
        rcases hG.2 t ht with ez | ⟨z, hz, ez⟩
        · refine mm_run 60 ⟨hv, And.intro (fun _ => ih _ _ _ (nI_1 t) ?_) (fun q => absurd ?_ q)⟩
          · rw [dg3, ez, hb']
            show b = dg1 _ _ 0
            rw [dg1, ← hb, ez]
          · rw [et]
            show F 78 t ≤ 0
            rw [ez]
            decide
        · refine lp (n := z) (P := fun k => ∀ x b', x = nI k → b' = dg1 (f5 t) b k → mm_Ex (d + 2) k_X6_digest 139 (0, 0) [.ref 75, .long b', .null, .int (nI t), .int x] [] (hH L xs J s F) K) ?_ ?_ 0 _ rfl hb'
          · intro x b' hx hb'
            subst hx
            refine mm_run 60 ⟨hv, And.intro (fun _ => ih _ _ _ (nI_1 t) ?_) (fun q => absurd ?_ q)⟩
            · rw [dg3, hb, hb', ez, tn_nI (by omega)]
            · rw [et]
              show F 78 t ≤ nI z
              rw [ez]
              exact (nI_leI (by omega) (by omega)).mpr (Nat.le_refl z)
          · intro k hk1 ih2 x b' hx hb'
            subst hx
            have e : (80 : Int32) * nI t + nI k = nI (80 * t + k) := ix (c := 80)
            refine mm_run 60 ⟨hv, And.intro (fun q => ?_) (fun _ => ⟨by rw [e]; exact vp_in_nI (by omega) (by decide), ih2 _ _ (nI_1 k) ?_⟩)⟩
            · rw [et] at q
              have q : F 78 t ≤ nI k := q
              rw [ez] at q
              exact absurd q (nleI hk1 (by omega))
            · rw [e, tn_nI (by omega), dg1, hb', ← hf5]
      have J134 : ∀ y (w : Value), y = neg1 (F 78 t) → mm_Ex (d + 2) k_X6_digest 134 (0, 0) [.ref 75, .long a, .null, .int (nI t), w] [.int y, .long (31 * a)] (hH L xs J s F) K := fun y w hy => mm_run 60 (I139 _ (by rw [hy, ha, ← hb]))
      refine mm_run 60 (And.intro (fun q => absurd q (nleI (b := 4) ht (by decide))) (fun _ => ⟨hv, And.intro (fun q => ⟨hv, J134 _ _ ?_⟩) (fun q => J134 _ _ ?_)⟩))
      · rw [et] at q ⊢
        exact (if_neg (Int32.not_lt.mpr q)).symm
      · rw [et] at q
        exact (if_pos (Int32.not_le.mp q)).symm
  have L4 : ∀ (w : Value), mm_Ex (d + 2) k_X6_digest 69 (0, 0) [.ref 75, .long h3, .null, .int 0, w] [] (hH L xs J s F) K := fun w => by
    refine lp (n := 6) (P := fun t => ∀ (x : Int32) (a : Int64) (w : Value), x = nI t → a = dg3 (F 76) f4 h3 t → mm_Ex (d + 2) k_X6_digest 69 (0, 0) [.ref 75, .long a, .null, .int x, w] [] (hH L xs J s F) K) ?_ ?_ _ _ _ rfl rfl
    · intro x a w hx ha
      rw [hh4] at ha
      subst hx ha
      exact mm_run 60 (And.intro (fun _ => L5 _) (fun q => absurd (show (6 : Int32) ≤ nI 6 by decide) q))
    · intro t ht ih x a w hx ha
      subst hx
      have et : (nI t).toNatClampNeg = t := tn_nI (by omega)
      have hv : vp_in (nI t) 6 := vp_in_nI ht (by decide)
      obtain ⟨b, hb⟩ : ∃ b, 31 * dg3 (F 76) f4 h3 t + (neg1 (F 76 t)).toInt64 = b := ⟨_, rfl⟩
      have I91 : ∀ b', b' = b → mm_Ex (d + 2) k_X6_digest 91 (0, 0) [.ref 75, .long b', .null, .int (nI t), .int 0] [] (hH L xs J s F) K := fun b' hb' => by
        rcases hG.1 t ht with ez | ⟨z, hz, ez⟩
        · refine mm_run 60 ⟨hv, And.intro (fun _ => ih _ _ _ (nI_1 t) ?_) (fun q => absurd ?_ q)⟩
          · rw [dg3, ez, hb']
            show b = dg1 _ _ 0
            rw [dg1, ← hb, ez]
          · rw [et]
            show F 76 t ≤ 0
            rw [ez]
            decide
        · refine lp (n := z) (P := fun k => ∀ x b', x = nI k → b' = dg1 (f4 t) b k → mm_Ex (d + 2) k_X6_digest 91 (0, 0) [.ref 75, .long b', .null, .int (nI t), .int x] [] (hH L xs J s F) K) ?_ ?_ 0 _ rfl hb'
          · intro x b' hx hb'
            subst hx
            refine mm_run 60 ⟨hv, And.intro (fun _ => ih _ _ _ (nI_1 t) ?_) (fun q => absurd ?_ q)⟩
            · rw [dg3, hb, hb', ez, tn_nI (by omega)]
            · rw [et]
              show F 76 t ≤ nI z
              rw [ez]
              exact (nI_leI (by omega) (by omega)).mpr (Nat.le_refl z)
          · intro k hk1 ih2 x b' hx hb'
            subst hx
            have e : (40 : Int32) * nI t + nI k = nI (40 * t + k) := ix (c := 40)
            refine mm_run 60 ⟨hv, And.intro (fun q => ?_) (fun _ => ⟨by rw [e]; exact vp_in_nI (by omega) (by decide), ih2 _ _ (nI_1 k) ?_⟩)⟩
            · rw [et] at q
              have q : F 76 t ≤ nI k := q
              rw [ez] at q
              exact absurd q (nleI hk1 (by omega))
            · rw [e, tn_nI (by omega), dg1, hb', ← hf4]
      have J86 : ∀ y (w : Value), y = neg1 (F 76 t) → mm_Ex (d + 2) k_X6_digest 86 (0, 0) [.ref 75, .long a, .null, .int (nI t), w] [.int y, .long (31 * a)] (hH L xs J s F) K := fun y w hy => mm_run 60 (I91 _ (by rw [hy, ha, ← hb]))
      refine mm_run 60 (And.intro (fun q => absurd q (nleI (b := 6) ht (by decide))) (fun _ => ⟨hv, And.intro (fun q => ⟨hv, J86 _ _ ?_⟩) (fun q => J86 _ _ ?_)⟩))
      · rw [et] at q ⊢
        exact (if_neg (Int32.not_lt.mpr q)).symm
      · rw [et] at q
        exact (if_pos (Int32.not_le.mp q)).symm
  have L3 : ∀ (w : Value), mm_Ex (d + 2) k_X6_digest 45 (0, 0) [.ref 75, .long h2, .null, .int 0, w] [] (hH L xs J s F) K := fun w => by
    refine lp (n := 3) (P := fun t => ∀ (x : Int32) (a : Int64), x = nI t → a = dg1 f3 h2 t → mm_Ex (d + 2) k_X6_digest 45 (0, 0) [.ref 75, .long a, .null, .int x, w] [] (hH L xs J s F) K) ?_ ?_ _ _ rfl rfl
    · intro x a hx ha
      rw [hh3] at ha
      subst hx ha
      exact mm_run 60 (And.intro (fun _ => L4 _) (fun q => absurd (show (3 : Int32) ≤ nI 3 by decide) q))
    · intro t ht ih x a hx ha
      subst hx
      have et : (nI t).toNatClampNeg = t := tn_nI (by omega)
      have hv : vp_in (nI t) 3 := vp_in_nI ht (by decide)
      have J62 : ∀ y, y = neg1 (F 88 t) → mm_Ex (d + 2) k_X6_digest 62 (0, 0) [.ref 75, .long a, .null, .int (nI t), w] [.int y, .long (31 * a)] (hH L xs J s F) K := fun y hy => mm_run 60 (ih _ _ (nI_1 t) (by rw [hy, ha, dg1, ← hf3]))
      refine mm_run 60 (And.intro (fun q => absurd q (nleI (b := 3) ht (by decide))) (fun _ => ⟨hv, And.intro (fun q => ⟨hv, J62 _ ?_⟩) (fun q => J62 _ ?_)⟩))
      · rw [et] at q ⊢
        exact (if_neg (Int32.not_lt.mpr q)).symm
      · rw [et] at q
        exact (if_pos (Int32.not_le.mp q)).symm
  have L2 : ∀ (w : Value), mm_Ex (d + 2) k_X6_digest 20 (0, 0) [.ref 75, .long h1, .null, .int 0, w] [] (hH L xs J s F) K := fun w => by
    refine lp (n := n) (P := fun t => ∀ (x : Int32) (a : Int64) (w : Value), x = nI t → a = dg2 f2 h1 t → mm_Ex (d + 2) k_X6_digest 20 (0, 0) [.ref 75, .long a, .null, .int x, w] [] (hH L xs J s F) K) ?_ ?_ _ _ _ rfl rfl
    · intro x a w hx ha
      rw [hh2] at ha
      subst hx ha
      exact mm_run 60 (And.intro (fun _ => L3 _) (fun q => absurd (nge hn h9) q))
    · intro t ht ih x a w hx ha
      subst hx
      have hv : vp_in (nI t) 9 := vp_in_nI (by omega) (by decide)
      refine mm_run 60 (And.intro (fun q => absurd q (nlt hn h9 ht)) (fun _ => ?_))
      refine lp (n := 7) (P := fun k => ∀ x b, x = nI k → b = dg1 (f2 t) (dg2 f2 h1 t) k → mm_Ex (d + 2) k_X6_digest 26 (0, 0) [.ref 75, .long b, .null, .int (nI t), .int x] [] (hH L xs J s F) K) ?_ ?_ 0 _ rfl ha
      · intro x b hx hb
        subst hx
        exact mm_run 60 (And.intro (fun _ => ih _ _ _ (nI_1 t) hb) (fun q => absurd (show (7 : Int32) ≤ nI 7 by decide) q))
      · intro k hk1 ih2 x b hx hb
        subst hx
        refine mm_run 60 (And.intro (fun q => absurd q (nleI (b := 7) hk1 (by decide))) (fun _ => s_told hn h9 hv (ih2 _ _ (nI_1 k) ?_)))
        rw [hb, dg1, ← hf2]
  refine mm_run 60 (lp (n := 8) (P := fun t => ∀ (x : Int32) (a : Int64), x = nI t → a = dg1 f1 17 t → mm_Ex (d + 2) k_X6_digest 4 (0, 0) [.ref 75, .long a, .null, .int x, .null] [] (hH L xs J s F) K) ?_ ?_ _ _ rfl rfl)
  · intro x a hx ha
    rw [hh1] at ha
    subst hx ha
    exact mm_run 60 (And.intro (fun _ => L2 _) (fun q => absurd (show (8 : Int32) ≤ nI 8 by decide) q))
  · intro t ht ih x a hx ha
    subst hx
    refine mm_run 60 (And.intro (fun q => absurd q (nleI (b := 8) ht (by decide))) (fun _ => s_counted hn h9 (ih _ _ (nI_1 t) ?_)))
    rw [ha, dg1, ← hf1]
end MC
