/-! the reference: nth, together, till, flips, jam -/
abbrev W0 (F : Nat → Nat → Int32) (n : Nat) : Nat → Bool := wayB n (mq F) (fun _ => 0) (2 ^ n - 1)
theorem mq_all {F : Nat → Nat → Int32} {n : Nat} : mq (S_all F n) = mq F := by
  unfold S_all
  rw [mq_up (by decide), mq_75]
def S_nth (F : Nat → Nat → Int32) (i : Int32) : Int32 × (Nat → Nat → Int32) :=
  let n := (F 75 10).toNatClampNeg
  let p := fun S => W0 F n S && decide (nI (fa_cnt (W0 F n) S) = i)
  if 0 ≤ i then (if fa_first p (2 ^ n) < 2 ^ n then (nI (fa_first p (2 ^ n)), F) else (-3, S_fi F 4)) else (-1, F)
def tgN (t : Nat) (w : Nat → Bool) (i : Nat) : Nat → Nat
  | 0 => t
  | S + 1 => if w S then (if S.testBit i then tgN t w i S &&& S else dif (tgN t w i S) S) else tgN t w i S
def S_together (F : Nat → Nat → Int32) (i : Int32) : Int32 × (Nat → Nat → Int32) :=
  let n := (F 75 10).toNatClampNeg
  if 0 ≤ i ∧ i ≤ F 75 10 - 1 then (if anyB (W0 F n) (2 ^ n) then (nI (tgN (2 ^ n - 1) (W0 F n) i.toNatClampNeg (2 ^ n)), F) else (-3, S_fi F 4)) else (-1, F)
/-- those of days no later than one, of the first i -/
def tU (n : Nat) (q : Rq) (last : Int32) : Nat → Nat
  | 0 => 2 ^ n - 1
  | i + 1 => if last < q 1 i then dif (tU n q last i) (2 ^ i) else tU n q last i
theorem tU_lt (n : Nat) (q : Rq) (last : Int32) : ∀ i, tU n q last i < 2 ^ n
  | 0 => by
    have := Nat.two_pow_pos n
    unfold tU
    omega
  | i + 1 => by
    have := tU_lt n q last i
    unfold tU
    split
    · exact dif_le _ _ this
    · exact this
/-- ways of rulings of days no later than one -/
abbrev WU (n : Nat) (q : Rq) (last : Int32) : Nat → Bool := wayB n q (fun _ => 0) (tU n q last n)
def S_till (F : Nat → Nat → Int32) (day : Int32) : Int32 × (Nat → Nat → Int32) :=
  let n := (F 75 10).toNatClampNeg
  if 0 ≤ day ∧ day ≤ 9 then (nI (fa_cnt (WU n (mq F) day) (2 ^ n)), S_te F (frst n (WU n (mq F) day))) else (-1, F)
def isF (n : Nat) (q : Rq) (i : Nat) (day : Int32) : Int32 :=
  if (stS n (tU n q day n) (WU n q day)).testBit i then 1 else if (flS n (tU n q day n) (WU n q day)).testBit i then -1 else 0
def flp (f : Nat → Int32) (d0 : Nat) : Nat → Int32 × Int32
  | 0 => (0, 0)
  | k + 1 => ((flp f d0 k).1 + b2i (¬ f (d0 + k) = 0 ∧ ¬ (flp f d0 k).2 = 0 ∧ ¬ f (d0 + k) = (flp f d0 k).2), if f (d0 + k) = 0 then (flp f d0 k).2 else f (d0 + k))
def S_flips (F : Nat → Nat → Int32) (i : Int32) : Int32 × (Nat → Nat → Int32) :=
  let n := (F 75 10).toNatClampNeg
  let d0 := (F 83 i.toNatClampNeg).toNatClampNeg
  if 0 ≤ i ∧ i ≤ F 75 10 - 1 then ((flp (fun e => isF n (mq F) i.toNatClampNeg (nI e)) d0 (10 - d0)).1, F) else (-1, F)
def S_jam (F : Nat → Nat → Int32) : Int32 × (Nat → Nat → Int32) :=
  let n := (F 75 10).toNatClampNeg
  let p := fun e => decide (frst n (WU n (mq F) (nI e)) = -9)
  (if fa_first p 10 < 10 then nI (fa_first p 10) else -9, F)
section MT
variable {d L s : Nat} {xs : Nat → Int32} {J : Nat → Int64} {F : Nat → Nat → Int32} {K : mm_K} {h : mm_H} {n t : Nat} {sk : Nat → Nat}
theorem m_nth (hn : F 75 10 = nI n) (hc : Cw n (mq F)) {i : Int32} (hk : ∀ F', CE F' (S_nth F i).2 → K (some (.int (S_nth F i).1)) (hH L xs J s F')) : mm_call mm_Ex (d + 5) k_X6_nth [.ref 75, .int i] (hH L xs J s F) K := by
  have h9 := hc.1
  have hp9 := pw9 h9
  have en : (F 75 10).toNatClampNeg = n := by rw [hn]; exact tn_nI (by omega)
  have hx := Cx.all hn hc
  have hpw := pwI hx.1 h9
  unfold S_nth at hk
  dsimp only at hk
  rw [en] at hk
  obtain ⟨w, hw⟩ : ∃ w, w = W0 F n := ⟨_, rfl⟩
  rw [← hw] at hk
  have hw' : wayB n (mq F) (fun _ => 0) (2 ^ n - 1) = w := hw.symm
  refine mm_run 60 (And.intro (fun c => s_all hn h9 ?_) (fun c => ?_))
  · rw [if_pos c] at hk
    obtain ⟨p, hp'⟩ : ∃ p, p = fun S => w S && decide (nI (fa_cnt w S) = i) := ⟨_, rfl⟩
    rw [← hp'] at hk
    have hle := fa_first_le p (2 ^ n)
    refine lp (n := fa_first p (2 ^ n)) (P := fun S => ∀ x a, x = nI S → a = nI (0 + fa_cnt w S) → mm_Ex (d + 5) k_X6_nth 10 (0, 0) [.ref 75, .int i, .int a, .int x] [] (hH L xs J s (S_all F n)) K) ?_ ?_ 0 0 rfl rfl
    · intro x a hx1 ha
      subst hx1
      refine mm_run 60 (And.intro (fun q => ?_) (fun q => s_isWay hx.1 hx.2.1 hx.2.2.1 hx.t31 (by omega) ?_))
      · have q : (1 : Int32) <<< ((S_all F n) 75 10 &&& 31) ≤ nI _ := q
        rw [hpw] at q
        have q := (nI_leI (by omega) (by omega)).mp q
        rw [if_neg (by omega)] at hk
        exact s_finds (w := 4) (by decide) (hk _ (CE.all.fi 4))
      · have q : ¬ (1 : Int32) <<< ((S_all F n) 75 10 &&& 31) ≤ nI _ := q
        rw [hpw] at q
        have hlt : fa_first p (2 ^ n) < 2 ^ n := Nat.lt_of_not_le fun z => q ((nI_leI (by omega) (by omega)).mpr z)
        rw [if_pos hlt] at hk
        have hy := fa_first_yes p (2 ^ n) hlt
        have hy2 : (w (fa_first p (2 ^ n)) && decide (nI (fa_cnt w (fa_first p (2 ^ n))) = i)) = true := by rw [hp'] at hy ⊢; exact hy
        rw [Bool.and_eq_true, decide_eq_true_eq] at hy2
        rw [mq_all, hw', b2i_t hy2.1]
        refine And.intro (fun z => absurd z (by decide)) (fun _ => And.intro (fun z => absurd ?_ z) (fun _ => hk _ CE.all))
        rw [ha, Nat.zero_add]
        exact hy2.2
    · intro S hS ih x a hx1 ha
      subst hx1
      have hno := fa_first_no p (2 ^ n) S hS
      have hno2 : (w S && decide (nI (fa_cnt w S) = i)) = false := by rw [hp'] at hno; exact hno
      refine mm_run 60 (And.intro (fun q => ?_) (fun q => s_isWay hx.1 hx.2.1 hx.2.2.1 hx.t31 (by omega) ?_))
      · have q : (1 : Int32) <<< ((S_all F n) 75 10 &&& 31) ≤ nI S := q
        rw [hpw] at q
        exact absurd q (nleI (by omega) (by omega))
      · rw [mq_all, hw']
        have e1 : ∀ b : Bool, w S = b → mm_Ex (d + 5) k_X6_nth 26 (0, 0) [.ref 75, .int i, .int (a + b2i (b = true)), .int (nI S)] [] (hH L xs J s (S_all F n)) K := fun b hb => mm_run 60 (ih _ _ (nI_1 S) (by rw [ha, ← hb]; exact nI_b 0 w S))
        refine And.intro (fun q2 => ?_) (fun q2 => And.intro (fun q3 => ?_) (fun q3 => ?_))
        · rw [b2i_0] at q2
          have := e1 false (by simpa using q2)
          have ea : a + b2i (false = true) = a := Int32.add_zero a
          rw [ea] at this
          exact this
        · exact e1 true (b2i_p q2)
        · exfalso
          rw [b2i_p q2] at hno2
          rw [ha, Nat.zero_add] at q3
          simp [q3] at hno2
  · rw [if_neg c] at hk
    exact hk _ CE.rf
theorem m_together (hn : F 75 10 = nI n) (hc : Cw n (mq F)) {i : Int32} (hk : ∀ F', CE F' (S_together F i).2 → K (some (.int (S_together F i).1)) (hH L xs J s F')) : mm_call mm_Ex (d + 5) k_X6_together [.ref 75, .int i] (hH L xs J s F) K := by
  have h9 := hc.1
  have hp9 := pw9 h9
  have en : (F 75 10).toNatClampNeg = n := by rw [hn]; exact tn_nI (by omega)
  have hx := Cx.all hn hc
  have hpw := pwI hx.1 h9
  unfold S_together at hk
  dsimp only at hk
  rw [en] at hk
  obtain ⟨w, hw⟩ : ∃ w, w = W0 F n := ⟨_, rfl⟩
  rw [← hw] at hk
  have hw' : wayB n (mq F) (fun _ => 0) (2 ^ n - 1) = w := hw.symm
  refine mm_run 60 (s_isRuling (And.intro (fun c => s_all hn h9 ?_) (fun c => ?_)))
  · rw [if_pos (not_not_b c)] at hk
    have c2 := c
    rw [hn] at c2
    obtain ⟨j, hj, rfl⟩ := isRu_of h9 c2
    rw [tn_nI (by omega)] at hk
    refine lp (n := 2 ^ n) (P := fun S => ∀ x a b, x = nI S → a = nI (tgN (2 ^ n - 1) w j S) → b = b2i (anyB w S = true) → mm_Ex (d + 5) k_X6_together 15 (0, 0) [.ref 75, .int (nI j), .int a, .int b, .int x] [] (hH L xs J s (S_all F n)) K) ?_ ?_ 0 _ 0 rfl rfl rfl
    · intro x a b hx1 ha hb
      subst hx1
      refine mm_run 60 (And.intro (fun _ => And.intro (fun q => ?_) (fun q => ?_)) (fun q => absurd ?_ q))
      · rw [hb, b2i_0] at q
        rw [if_neg q] at hk
        exact s_finds (w := 4) (by decide) (mm_run 5 (hk _ (CE.all.fi 4)))
      · rw [hb] at q
        rw [if_pos (b2i_p q), ← ha] at hk
        exact mm_run 5 (hk _ CE.all)
      · show (1 : Int32) <<< ((S_all F n) 75 10 &&& 31) ≤ nI (2 ^ n)
        rw [hpw]
        exact (nI_leI (by omega) (by omega)).mpr (Nat.le_refl _)
    · intro S hS ih x a b hx1 ha hb
      subst hx1
      refine mm_run 60 (And.intro (fun q => ?_) (fun q => s_isWay hx.1 hx.2.1 hx.2.2.1 hx.t31 (by omega) ?_))
      · have q : (1 : Int32) <<< ((S_all F n) 75 10 &&& 31) ≤ nI S := q
        rw [hpw] at q
        exact absurd q (nleI hS (by omega))
      · rw [mq_all, hw']
        refine And.intro (fun q2 => ?_) (fun q2 => ?_)
        · rw [b2i_0] at q2
          refine mm_run 60 (ih _ _ _ (nI_1 S) ?_ ?_)
          · rw [ha, tgN, if_neg q2]
          · rw [hb, anyB]
            simp [q2]
        · have q2 := b2i_p q2
          have J37 : ∀ y, a &&& y = nI (tgN (2 ^ n - 1) w j (S + 1)) → mm_Ex (d + 5) k_X6_together 37 (0, 0) [.ref 75, .int (nI j), .int a, .int 1, .int (nI S)] [.int y, .int a] (hH L xs J s (S_all F n)) K := fun y hy => mm_run 60 (mm_run 60 (ih _ _ _ (nI_1 S) hy (by
            have : anyB w (S + 1) = true := by rw [anyB, q2]; simp
            rw [this]
            rfl)))
          refine s_hasN (by omega) (And.intro (fun q3 => J37 _ ?_) (fun q3 => J37 _ ?_))
          · rw [b2i_0] at q3
            rw [ha, tgN, if_pos q2, if_neg q3]
            exact difI _ _
          · rw [ha, tgN, if_pos q2, if_pos (b2i_p q3)]
            exact fa_and _ _
  · rw [if_neg (b2i_0.mp c)] at hk
    exact hk _ CE.rf
theorem s_upTo (hn : F 75 10 = nI n) (hc : Cw n (mq F)) {last : Int32} (hk : Cx (up2 (S_all F n) 75 19 (nI (tU n (mq F) last n))) n (tU n (mq F) last n) (fun _ => 0) → K none (hH L xs J s (up2 (S_all F n) 75 19 (nI (tU n (mq F) last n))))) : mm_call mm_Ex (d + 1) k_X6_upTo [.ref 75, .int last] (hH L xs J s F) K := by
  have h9 := hc.1
  have hp9 := pw9 h9
  have hx := Cx.all hn hc
  have hC : Cx (up2 (S_all F n) 75 19 (nI (tU n (mq F) last n))) n (tU n (mq F) last n) (fun _ => 0) := by
    refine ⟨hn, by rw [mq_75, mq_all]; exact hc, ⟨rfl, hx.2.2.1.2⟩, tU_lt _ _ _ _⟩
  have e19 : ∀ a b : Int32, up2 (up2 (S_all F n) 75 19 a) 75 19 b = up2 (S_all F n) 75 19 b := by
    intro a b
    unfold up2
    rw [upF_same]
    congr 1
    exact fa_upd_twice _ _ _ _
  refine mm_run 60 (s_all hn h9 ?_)
  refine lp (n := n) (P := fun i => ∀ x h, x = nI i → h = hH L xs J s (up2 (S_all F n) 75 19 (nI (tU n (mq F) last i))) → mm_Ex (d + 1) k_X6_upTo 4 (0, 0) [.ref 75, .int last, .int x] [] h K) ?_ ?_ 0 _ rfl ?_
  · intro x h hx1 hh
    subst hx1 hh
    refine mm_run 60 (And.intro (fun _ => hk hC) (fun q => absurd ?_ q))
    show F 75 10 ≤ nI n
    rw [hn]
    exact (nI_leI (by omega) (by omega)).mpr (Nat.le_refl n)
  · intro i hi ih x h hx1 hh
    subst hx1 hh
    have ei : (nI i).toNatClampNeg = i := tn_nI (by omega)
    have hv : vp_in (nI i) 9 := vp_in_nI (by omega) (by decide)
    have J25 : ∀ y, nI (tU n (mq F) last i) &&& y = nI (tU n (mq F) last (i + 1)) → mm_Ex (d + 1) k_X6_upTo 25 (0, 0) [.ref 75, .int last, .int (nI i)] [.int y, .int (nI (tU n (mq F) last i)), .ref 75] (hH L xs J s (up2 (S_all F n) 75 19 (nI (tU n (mq F) last i)))) K := fun y hy => by
      refine mm_run 60 (ih _ _ (nI_1 i) ?_)
      refine (hp1 (g := upd ((up2 (S_all F n) 75 19 (nI (tU n (mq F) last i))) 75) 19 (nI (tU n (mq F) last i) &&& y)) rfl).trans (hHx fun z => ?_)
      rw [hy]
      exact congrFun (e19 _ _) z
    refine mm_run 60 (And.intro (fun q => ?_) (fun q => ⟨hv, And.intro (fun q2 => J25 _ ?_) (fun q2 => J25 _ ?_)⟩))
    · have q : F 75 10 ≤ nI i := q
      rw [hn] at q
      exact absurd q (nleI hi (by omega))
    · have q2 : F 83 (nI i).toNatClampNeg ≤ last := q2
      rw [ei] at q2
      have q3 : ¬ last < mq F 1 i := Int32.not_lt.mpr q2
      rw [tU, if_neg q3]
      show nI _ &&& nI (tU n (mq F) last i) = _
      rw [fa_and, Nat.and_self]
    · have q2 : ¬ F 83 (nI i).toNatClampNeg ≤ last := q2
      rw [ei] at q2
      have q3 : last < mq F 1 i := Int32.not_le.mp q2
      rw [tU, if_pos q3, shl1 (by omega)]
      exact difI _ _
  · refine hHx fun z => ?_
    have e : (S_all F n) 75 19 = nI (tU n (mq F) last 0) := rfl
    rw [← e]
    have e2 : up2 (S_all F n) 75 19 ((S_all F n) 75 19) = S_all F n := by
      unfold up2
      rw [fa_upd_same rfl, upF_id]
    rw [e2]
theorem CE.up19 {F : Nat → Nat → Int32} {n : Nat} {x : Int32} : CE (up2 (S_all F n) 75 19 x) F := (CE.up (by decide)).trans CE.all
theorem m_till (hn : F 75 10 = nI n) (hc : Cw n (mq F)) {day : Int32} (hk : ∀ F', CE F' (S_till F day).2 → K (some (.int (S_till F day).1)) (hH L xs J s F')) : mm_call mm_Ex (d + 5) k_X6_till [.ref 75, .int day] (hH L xs J s F) K := by
  have h9 := hc.1
  have en : (F 75 10).toNatClampNeg = n := by rw [hn]; exact tn_nI (by omega)
  unfold S_till at hk
  dsimp only at hk
  rw [en] at hk
  refine mm_run 60 (s_in (And.intro (fun c => s_upTo hn hc fun hx => s_firstWay hx.1 hx.2.1 hx.2.2.1 hx.t31 ?_) (fun c => ?_)))
  · rw [if_pos (not_not_b c)] at hk
    rw [mq_75, mq_all]
    have hx2 := hx.up (j := 7) (x := frst n (WU n (mq F) day)) (by decide) (by decide)
    refine kc (hp1 (g := upd ((up2 (S_all F n) 75 19 (nI (tU n (mq F) day n))) 75) 7 (frst n (WU n (mq F) day))) rfl) (s_wayMany hx2.1 hx2.2.1 hx2.2.2.1 hx2.t31 ?_)
    have hm2 : mq (upF (up2 (S_all F n) 75 19 (nI (tU n (mq F) day n))) 75 (upd ((up2 (S_all F n) 75 19 (nI (tU n (mq F) day n))) 75) 7 (frst n (WU n (mq F) day)))) = mq F := by rw [mq_up (by decide), mq_75, mq_all]
    rw [hm2]
    exact hk _ (CE.up19.set 7 _)
  · rw [if_neg (b2i_0.mp c)] at hk
    exact hk _ CE.rf
end MT
