/-! the reference: lots, what is told, digest, odds -/
def ahB (q : Rq) (of : Int32) : Nat → Bool := fun i => decide (q 1 i < of)
def nthA (n : Nat) (q : Rq) (of : Int32) (wh : Nat) : Int32 :=
  let p := fun i => ahB q of i && decide (fa_cnt (ahB q of) i = wh)
  if fa_first p n < n then nI (fa_first p n) else -9
def lot1 (F : Nat → Nat → Int32) (n x : Nat) : Nat → Nat → Int32 :=
  let A := fa_cnt (ahB (mq F) (nI (x / 8 % 10))) n
  S_adds F n (nI (x % 6)) (nI (x / 8 % 10)) (nI (x / 128 % 2)) (if A = 0 then -9 else nthA n (mq F) (nI (x / 8 % 10)) (x / 256 % A)) (if A = 0 then 0 else if x / 16384 % 2 = 0 then -1 else 1) 0
def lotX (x : Nat) : Nat → Nat
  | 0 => x
  | k + 1 => lotX x k * 48271 % 2147483647
def lotF (F : Nat → Nat → Int32) (n x : Nat) : Nat → Nat → Nat → Int32
  | 0 => F
  | k + 1 => lot1 (lotF F n x k) (n + k) (lotX x (k + 1))
def S_lots (F : Nat → Nat → Int32) (m seed : Int32) : Int32 × (Nat → Nat → Int32) :=
  if (1 ≤ m ∧ m ≤ 9) ∧ (1 ≤ seed ∧ seed ≤ 2147483646) then (if F 75 10 + m ≤ 9 then (F 75 10 + m, lotF F (F 75 10).toNatClampNeg seed.toNatClampNeg m.toNatClampNeg) else (-2, F)) else (-1, F)
def ctB (q : Rq) (what : Int32) (i : Nat) : Bool := decide (what = 0) || (decide (what = 1) && !decide (q 3 i = -9)) || (decide (what = 2) && decide (q 4 i < 0)) || (decide (what = 3) && isOfB (q 0 i) 1) || (decide (what = 4) && isOfB (q 0 i) 2)
def thB (f : Nat → Int32) (i : Nat) : Bool := decide (0 ≤ f i)
def ctN (F : Nat → Nat → Int32) (n : Nat) (what : Int32) : Nat := fa_cnt (ctB (mq F) what) n + (if what = 5 then fa_cnt (thB (F 76)) 6 else if what = 6 then fa_cnt (thB (F 78)) 4 else if what = 7 then fa_cnt (thB (F 88)) 3 else 0)
def S_count (F : Nat → Nat → Int32) (what : Int32) : Int32 × (Nat → Nat → Int32) :=
  if 0 ≤ what ∧ what ≤ 7 then (nI (ctN F (F 75 10).toNatClampNeg what), F) else (-1, F)
def S_findings (F : Nat → Nat → Int32) (f : Int32) : Int32 × (Nat → Nat → Int32) :=
  if 1 ≤ f ∧ f ≤ 5 then (F 81 f.toNatClampNeg, F) else (-1, F)
def dg1 (f : Nat → Int32) (h : Int64) : Nat → Int64
  | 0 => h
  | k + 1 => 31 * dg1 f h k + (f k).toInt64
def dg2 (f : Nat → Nat → Int32) (h : Int64) : Nat → Int64
  | 0 => h
  | i + 1 => dg1 (f i) (dg2 f h i) 7
def neg1 (x : Int32) : Int32 := if x < 0 then -1 else x
def dg3 (z : Nat → Int32) (v : Nat → Nat → Int32) (h : Int64) : Nat → Int64
  | 0 => h
  | r + 1 => dg1 (v r) (31 * dg3 z v h r + (neg1 (z r)).toInt64) (z r).toNatClampNeg
def S_digest (F : Nat → Nat → Int32) : Int64 :=
  let n := (F 75 10).toNatClampNeg
  dg3 (F 78) (fun t k => F 79 (80 * t + k)) (dg3 (F 76) (fun r k => F 77 (40 * r + k)) (dg1 (fun k => neg1 (F 88 k)) (dg2 (fun i w => toldV n (mq F) (nI i) (nI w)) (dg1 (fun w => nI (ctN F n (nI w))) 17 8) n) 3) 6) 4
section ML
variable {d L s : Nat} {xs : Nat → Int32} {J : Nat → Int64} {F : Nat → Nat → Int32} {K : mm_K} {h : mm_H} {n t : Nat} {sk : Nat → Nat}
theorem nge (hn : F 75 10 = nI n) (h9 : n ≤ 9) : F 75 10 ≤ nI n := by
  rw [hn]
  exact (nI_leI (by omega) (by omega)).mpr (Nat.le_refl n)
theorem nlt (hn : F 75 10 = nI n) (h9 : n ≤ 9) {i : Nat} (hi : i < n) : ¬ F 75 10 ≤ nI i := by
  rw [hn]
  exact nleI hi (by omega)
theorem s_ahead (hn : F 75 10 = nI n) (h9 : n ≤ 9) {of : Int32} (hk : K (some (.int (nI (fa_cnt (ahB (mq F) of) n)))) (hH L xs J s F)) : mm_call mm_Ex d k_X6_ahead [.ref 75, .int of] (hH L xs J s F) K := by
  refine mm_run 60 (lp (n := n) (P := fun i => ∀ x a, x = nI i → a = nI (0 + fa_cnt (ahB (mq F) of) i) → mm_Ex d k_X6_ahead 4 (0, 0) [.ref 75, .int of, .int a, .int x] [] (hH L xs J s F) K) ?_ ?_ 0 0 rfl rfl)
  · intro x a hx ha
    rw [Nat.zero_add] at ha
    subst hx ha
    exact mm_run 60 (And.intro (fun _ => hk) (fun q => absurd (nge hn h9) q))
  · intro i hi ih x a hx ha
    subst hx
    have ei : (nI i).toNatClampNeg = i := tn_nI (by omega)
    have J18 : ∀ y, y = b2i (ahB (mq F) of i = true) → mm_Ex d k_X6_ahead 18 (0, 0) [.ref 75, .int of, .int a, .int (nI i)] [.int y, .int a] (hH L xs J s F) K := fun y hy => by
      refine mm_run 60 (ih _ _ (nI_1 i) ?_)
      rw [ha, hy]
      exact nI_b 0 (ahB (mq F) of) i
    refine mm_run 60 (And.intro (fun q => absurd q (nlt hn h9 hi)) (fun _ => ⟨vp_in_nI (by omega) (by decide), And.intro (fun q => J18 0 (b2i_f ?_).symm) (fun q => J18 1 (b2i_t ?_).symm)⟩))
    · rw [ei] at q
      have q : of ≤ mq F 1 i := q
      simpa [ahB] using q
    · rw [ei] at q
      have q : ¬ of ≤ mq F 1 i := q
      simpa [ahB] using q
theorem s_nthAhead (hn : F 75 10 = nI n) (h9 : n ≤ 9) {of : Int32} {wh : Nat} (hw : wh < 2 ^ 31) (hk : K (some (.int (nthA n (mq F) of wh))) (hH L xs J s F)) : mm_call mm_Ex d k_X6_nthAhead [.ref 75, .int of, .int (nI wh)] (hH L xs J s F) K := by
  unfold nthA at hk
  dsimp only at hk
  obtain ⟨p, hp'⟩ : ∃ p : Nat → Bool, (fun i => ahB (mq F) of i && decide (fa_cnt (ahB (mq F) of) i = wh)) = p := ⟨_, rfl⟩
  rw [hp'] at hk
  have hle := fa_first_le p n
  refine mm_run 60 (lp (n := fa_first p n) (P := fun i => ∀ x a, x = nI i → a = nI (0 + fa_cnt (ahB (mq F) of) i) → mm_Ex d k_X6_nthAhead 4 (0, 0) [.ref 75, .int of, .int (nI wh), .int a, .int x] [] (hH L xs J s F) K) ?_ ?_ 0 0 rfl rfl)
  · intro x a hx ha
    subst hx
    have hcl := fa_cnt_le (ahB (mq F) of) (fa_first p n)
    refine mm_run 60 (And.intro (fun q => ?_) (fun q => ?_))
    · have q : F 75 10 ≤ nI (fa_first p n) := q
      rw [hn] at q
      have q := (nI_leI (by omega) (by omega)).mp q
      rw [if_neg (by omega)] at hk
      exact hk
    · have q : ¬ F 75 10 ≤ nI (fa_first p n) := q
      rw [hn] at q
      have hlt : fa_first p n < n := Nat.lt_of_not_le fun z => q ((nI_leI (by omega) (by omega)).mpr z)
      rw [if_pos hlt] at hk
      have hy := fa_first_yes p n hlt
      have hy : (ahB (mq F) of (fa_first p n) && decide (fa_cnt (ahB (mq F) of) (fa_first p n) = wh)) = true := by
        rw [← hp'] at hy ⊢
        exact hy
      rw [Bool.and_eq_true, decide_eq_true_eq] at hy
      refine ⟨vp_in_nI (by omega) (by decide), And.intro (fun z => ?_) (fun _ => And.intro (fun z => absurd ?_ z) (fun _ => hk))⟩
      · exfalso
        have z : of ≤ F 83 (nI (fa_first p n)).toNatClampNeg := z
        rw [tn_nI (by omega)] at z
        have z : of ≤ mq F 1 (fa_first p n) := z
        have := hy.1
        simp only [ahB, decide_eq_true_eq] at this
        exact Int32.not_lt.mpr z this
      · rw [ha, Nat.zero_add, hy.2]
  · intro i hi ih x a hx ha
    subst hx
    have hno := fa_first_no p n i hi
    have hno : (ahB (mq F) of i && decide (fa_cnt (ahB (mq F) of) i = wh)) = false := by
      rw [← hp'] at hno
      exact hno
    have hcl := fa_cnt_le (ahB (mq F) of) i
    have ei : (nI i).toNatClampNeg = i := tn_nI (by omega)
    have J20 : ∀ y, y = nI (0 + fa_cnt (ahB (mq F) of) (i + 1)) → mm_Ex d k_X6_nthAhead 20 (0, 0) [.ref 75, .int of, .int (nI wh), .int y, .int (nI i)] [] (hH L xs J s F) K := fun y hy => mm_run 60 (ih _ _ (nI_1 i) hy)
    refine mm_run 60 (And.intro (fun q => absurd q (nlt hn h9 (by omega))) (fun _ => ⟨vp_in_nI (by omega) (by decide), And.intro (fun q => J20 _ ?_) (fun q => And.intro (fun q2 => J20 _ ?_) (fun q2 => ?_))⟩))
    · rw [ei] at q
      have q : of ≤ mq F 1 i := q
      have : ahB (mq F) of i = false := by simpa [ahB] using q
      rw [ha, fa_cnt_no this]
    · rw [ei] at q
      have q : ¬ of ≤ mq F 1 i := q
      have : ahB (mq F) of i = true := by simpa [ahB] using q
      rw [ha, fa_cnt_yes this]
      exact nI_1 _
    · exfalso
      rw [ei] at q
      have q : ¬ of ≤ mq F 1 i := q
      have : ahB (mq F) of i = true := by simpa [ahB] using q
      rw [ha, Nat.zero_add] at q2
      have q2 := (nI_eq (by omega) (by omega)).mp q2
      rw [this, q2] at hno
      simp at hno
theorem lotX_lt {x : Nat} (h : x < 2147483647) : ∀ k, lotX x k < 2147483647
  | 0 => h
  | k + 1 => Nat.mod_lt _ (by decide)
theorem lotF_n {F : Nat → Nat → Int32} {n x : Nat} (hn : F 75 10 = nI n) : ∀ k, lotF F n x k 75 10 = nI (n + k)
  | 0 => hn
  | k + 1 => rfl
theorem remI {a d : Nat} (ha : a < 2 ^ 31) (h0 : 0 < d) (hd : d < 2 ^ 31) : nI a - nI a / nI d * nI d = nI (a % d) := pk_rem ha h0 hd
theorem m_lots (hn : F 75 10 = nI n) (h9 : n ≤ 9) {m seed : Int32} (hk : K (some (.int (S_lots F m seed).1)) (hH L xs J s (S_lots F m seed).2)) : mm_call mm_Ex (d + 2) k_X6_lots [.ref 75, .int m, .int seed] (hH L xs J s F) K := by
  have en : (F 75 10).toNatClampNeg = n := by rw [hn]; exact tn_nI (by omega)
  unfold S_lots at hk
  rw [en] at hk
  have B : ¬ ((1 ≤ m ∧ m ≤ 9) ∧ (1 ≤ seed ∧ seed ≤ 2147483646)) → mm_Ex (d + 2) k_X6_lots 10 (0, 0) [.ref 75, .int m, .int seed, .null, .null, .null, .null, .null, .null, .null] [] (hH L xs J s F) K := by
    intro c
    rw [if_neg c] at hk
    exact mm_run 5 hk
  refine mm_run 60 (s_in (And.intro (fun c => B fun q => b2i_0.mp c q.1) (fun c => s_in (And.intro (fun c2 => ?_) (fun c2 => B fun q => b2i_0.mp c2 q.2)))))
  have c := not_not_b c
  have c2 := not_not_b c2
  rw [if_pos ⟨c, c2⟩] at hk
  refine And.intro (fun c3 => ?_) (fun c3 => ?_)
  · have c3 : F 75 10 + m ≤ 9 := c3
    rw [if_pos c3] at hk
    obtain ⟨M, hM, rfl⟩ := in_nI (n := 9) (by decide) (Int32.le_trans (by decide) c.1) c.2
    obtain ⟨X, hX, rfl⟩ := in_nI (n := 2147483646) (by decide) (Int32.le_trans (by decide) c2.1) c2.2
    rw [tn_nI (n := M) (by omega), tn_nI (n := X) (by omega)] at hk
    rw [hn, nI_add] at c3
    have c3 := (nI_leI (b := 9) (by omega) (by decide)).mp c3
    have hXl : X < 2147483647 := by omega
    refine lp (n := M) (P := fun k => ∀ (x : Int32) (y : Int64) (w6 w7 w8 w9 : Value) h, x = nI k → y = lN (lotX X k) → h = hH L xs J s (lotF F n X k) → mm_Ex (d + 2) k_X6_lots 25 (0, 0) [.ref 75, .int (nI M), .int (nI X), .long y, .null, .int x, w6, w7, w8, w9] [] h K) ?_ ?_ _ _ _ _ _ _ _ rfl (nI_l (by omega)) rfl
    · intro x y w6 w7 w8 w9 h hx hy hh
      subst hx hh
      refine mm_run 60 (And.intro (fun _ => ?_) (fun q => absurd ((nI_leI (by omega) (by omega)).mpr (Nat.le_refl M)) q))
      show K (some (.int (lotF F n X M 75 10))) _
      rw [lotF_n hn, ← nI_add, ← hn]
      exact hk
    · intro k hk1 ih x y w6 w7 w8 w9 h hx hy hh
      subst hx hh hy
      have hG := lotF_n (x := X) hn k
      obtain ⟨G, hG'⟩ : ∃ G, lotF F n X k = G := ⟨_, rfl⟩
      rw [hG'] at hG ⊢
      have hxk := lotX_lt hXl k
      obtain ⟨Y, hY⟩ : ∃ Y, lotX X (k + 1) = Y := ⟨_, rfl⟩
      have hYl : Y < 2147483647 := hY ▸ lotX_lt hXl (k + 1)
      have eY : lN (lotX X k) * 48271 - lN (lotX X k) * 48271 / 2147483647 * 2147483647 = lN Y := by
        show lN (lotX X k) * lN 48271 - lN (lotX X k) * lN 48271 / lN 2147483647 * lN 2147483647 = lN Y
        rw [lN_mul, pk_lRem (by omega) (by omega) (by omega), ← hY]
        rfl
      have e8 : nI Y / 8 - nI Y / 8 / 10 * 10 = nI (Y / 8 % 10) := by
        show nI Y / nI 8 - nI Y / nI 8 / nI 10 * nI 10 = _
        rw [pk_div (by omega) (by decide) (by decide), pk_rem (by omega) (by decide) (by decide)]
      have e6 : nI Y - nI Y / 6 * 6 = nI (Y % 6) := pk_rem (d := 6) (by omega) (by decide) (by decide)
      have e128 : nI Y / 128 - nI Y / 128 / 2 * 2 = nI (Y / 128 % 2) := by
        show nI Y / nI 128 - nI Y / nI 128 / nI 2 * nI 2 = _
        rw [pk_div (by omega) (by decide) (by decide), pk_rem (by omega) (by decide) (by decide)]
      have e16 : nI Y / 16384 - nI Y / 16384 / 2 * 2 = nI (Y / 16384 % 2) := by
        show nI Y / nI 16384 - nI Y / nI 16384 / nI 2 * nI 2 = _
        rw [pk_div (by omega) (by decide) (by decide), pk_rem (by omega) (by decide) (by decide)]
      obtain ⟨A, hA⟩ : ∃ A, fa_cnt (ahB (mq G) (nI (Y / 8 % 10))) (n + k) = A := ⟨_, rfl⟩
      have hAl : A ≤ 9 := by
        rw [← hA]
        exact Nat.le_trans (fa_cnt_le _ _) (by omega)
      have eL : lotF F n X (k + 1) = S_adds G (n + k) (nI (Y % 6)) (nI (Y / 8 % 10)) (nI (Y / 128 % 2)) (if A = 0 then -9 else nthA (n + k) (mq G) (nI (Y / 8 % 10)) (Y / 256 % A)) (if A = 0 then 0 else if Y / 16384 % 2 = 0 then -1 else 1) 0 := by
        rw [← hA, ← hY, ← hG']
        rfl
      have J84 : ∀ y c2, y = (if A = 0 then 0 else if Y / 16384 % 2 = 0 then -1 else 1) → c2 = (if A = 0 then -9 else nthA (n + k) (mq G) (nI (Y / 8 % 10)) (Y / 256 % A)) → mm_Ex (d + 2) k_X6_lots 84 (0, 0) [.ref 75, .int (nI M), .int (nI X), .long (lN Y), .null, .int (nI k), .int (nI Y), .int (nI (Y / 8 % 10)), .int (nI A), .int c2] [.int y, .int c2, .int (nI (Y / 128 % 2)), .int (nI (Y / 8 % 10)), .int (nI (Y % 6)), .ref 75] (hH L xs J s G) K := fun y c2 hy hc2 => by
        refine mm_run 60 (s_adds (n := n + k) hG (by omega) ?_)
        refine ih _ _ _ _ _ _ _ (nI_1 k) (by rw [hY]) ?_
        rw [eL, hy, hc2]
      have J59 : ∀ c2 (w9 : Value), c2 = (if A = 0 then -9 else nthA (n + k) (mq G) (nI (Y / 8 % 10)) (Y / 256 % A)) → mm_Ex (d + 2) k_X6_lots 59 (0, 0) [.ref 75, .int (nI M), .int (nI X), .long (lN Y), .null, .int (nI k), .int (nI Y), .int (nI (Y / 8 % 10)), .int (nI A), w9] [.int c2] (hH L xs J s G) K := fun c2 w9 hc2 => by
        refine mm_run 60 ⟨by decide, by decide, by decide, And.intro (fun q => ⟨by decide, by decide, And.intro (fun q2 => ?_) (fun q2 => ?_)⟩) (fun q => ?_)⟩
        · have q : ¬ A = 0 := fun z => q (by rw [z]; rfl)
          show mm_Ex _ _ 84 _ _ [.int 1, .int c2, .int (nI Y / 128 - nI Y / 128 / 2 * 2), .int (nI (Y / 8 % 10)), .int (nI Y - nI Y / 6 * 6), .ref 75] _ _
          rw [e6, e128]
          refine J84 _ _ ?_ hc2
          have q2 : ¬ nI Y / 16384 - nI Y / 16384 / 2 * 2 = 0 := q2
          rw [e16] at q2
          rw [if_neg q, if_neg (fun z => q2 (by rw [z]; rfl))]
        · have q : ¬ A = 0 := fun z => q (by rw [z]; rfl)
          show mm_Ex _ _ 84 _ _ [.int (-1), .int c2, .int (nI Y / 128 - nI Y / 128 / 2 * 2), .int (nI (Y / 8 % 10)), .int (nI Y - nI Y / 6 * 6), .ref 75] _ _
          rw [e6, e128]
          refine J84 _ _ ?_ hc2
          have q2 : nI Y / 16384 - nI Y / 16384 / 2 * 2 = 0 := q2
          rw [e16] at q2
          rw [if_neg q, if_pos ((nI_eq (b := 0) (by omega) (by decide)).mp q2)]
        · have q : A = 0 := (nI_eq (b := 0) (by omega) (by decide)).mp q
          show mm_Ex _ _ 84 _ _ [.int 0, .int c2, .int (nI Y / 128 - nI Y / 128 / 2 * 2), .int (nI (Y / 8 % 10)), .int (nI Y - nI Y / 6 * 6), .ref 75] _ _
          rw [e6, e128]
          refine J84 _ _ ?_ hc2
          rw [if_pos q]
      refine mm_run 60 (And.intro (fun q => absurd q (nleI hk1 (by omega))) (fun _ => ⟨by decide, by decide, by decide, ?_⟩))
      show mm_call mm_Ex (d + 1) k_X6_ahead [.ref 75, .int ((lN (lotX X k) * 48271 - lN (lotX X k) * 48271 / 2147483647 * 2147483647).toInt32 / 8 - (lN (lotX X k) * 48271 - lN (lotX X k) * 48271 / 2147483647 * 2147483647).toInt32 / 8 / 10 * 10)] _ _
      rw [eY, lN_i, e8]
      refine s_ahead hG (by omega) ?_
      rw [hA]
      refine And.intro (fun q => ⟨by decide, ?_, ?_⟩) (fun q => J59 _ _ ?_)
      · exact q
      · have q : ¬ A = 0 := fun z => q (by rw [z]; rfl)
        show mm_call mm_Ex (d + 1) k_X6_nthAhead [.ref 75, .int (nI (Y / 8 % 10)), .int (nI Y / nI 256 - nI Y / nI 256 / nI A * nI A)] _ _
        rw [pk_div (by omega) (by decide) (by decide), pk_rem (by omega) (by omega) (by omega)]
        refine s_nthAhead hG (by omega) (Nat.lt_trans (Nat.mod_lt _ (by omega)) (by omega)) (J59 _ _ ?_)
        rw [if_neg q]
      · have q : A = 0 := (nI_eq (b := 0) (by omega) (by decide)).mp q
        rw [if_pos q]
  · have c3 : ¬ F 75 10 + m ≤ 9 := c3
    rw [if_neg c3] at hk
    exact hk
end ML
