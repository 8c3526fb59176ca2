/-! bench and ways: the mathematics -/
def agS (n : Nat) (q : Rq) (lf : Int32) (i : Nat) : Nat := setB (fun j => (decide (q 3 j = nI i) && !decide (nI j = lf)) && decide (q 4 j < 0)) n
def prS (n : Nat) (q : Rq) (lf : Int32) (i : Nat) : Nat := setB (fun j => (decide (q 3 j = nI i) && !decide (nI j = lf)) && decide (0 < q 4 j)) n
def cdS (q : Rq) (lf : Int32) (i : Nat) : Nat := if q 3 i = -9 ∨ nI i = lf then 0 else 2 ^ (q 3 i).toNatClampNeg
def sdS (n : Nat) (q : Rq) (i : Nat) : Nat := dif (setB (fun j => decide (q 1 j = q 1 i)) n) (2 ^ i)
def cdI (q : Rq) (lf : Int32) (i : Nat) : Int32 := if nI i = lf then -9 else q 3 i
def stB (n : Nat) (q : Rq) (lf : Int32) (ab : Nat) (fl : Nat → Nat) (S i : Nat) : Bool := !ab.testBit i && dueB n q fl S i (q 0 i) (cdI q lf i) lf
def wB (n : Nat) (q : Rq) (lf : Int32) (ab : Nat) (fl : Nat → Nat) (S : Nat) : Bool := decide (setB (stB n q lf ab fl S) n = S)
theorem cnt_more {p : Nat → Bool} {n : Nat} (h : ∀ k, n ≤ k → p k = false) : ∀ m, fa_cnt p (n + m) = fa_cnt p n
  | 0 => rfl
  | m + 1 => by
    show fa_cnt p ((n + m) + 1) = _
    rw [fa_cnt_no (h _ (by omega)), cnt_more h m]
theorem cnt_mono (p : Nat → Bool) {m n : Nat} (h : m ≤ n) : fa_cnt p m ≤ fa_cnt p n := by
  obtain ⟨k, rfl⟩ : ∃ k, n = m + k := ⟨n - m, by omega⟩
  clear h
  induction k with
  | zero => exact Nat.le_refl _
  | succ k ih =>
    show _ ≤ fa_cnt p ((m + k) + 1)
    rw [fa_cnt]
    omega
theorem cnt_lt {p : Nat → Bool} {m n : Nat} (h : m < n) (hp : p m = true) : fa_cnt p m < fa_cnt p n := by
  have := cnt_mono p (m := m + 1) (n := n) (by omega)
  rw [fa_cnt_yes hp] at this
  omega
theorem ag_one {n : Nat} {q : Rq} {lf : Int32} {i S : Nat} (h9 : n ≤ 9) : oneN (agS n q lf i &&& S) = agN n q S i lf := by
  unfold oneN agN agS
  obtain ⟨m, hm⟩ : ∃ m, 9 = n + m := ⟨9 - n, by omega⟩
  rw [hm, cnt_more (fun k hk => by rw [Nat.testBit_and, setB_bit]; simp; omega)]
  refine fa_cnt_cong fun k hk => ?_
  rw [Nat.testBit_and, setB_bit]
  simp only [hk, decide_true, Bool.true_and]
  cases S.testBit k <;> simp
theorem nz_bit {x : Nat} : ¬ x = 0 ↔ ∃ k, x.testBit k = true := by
  constructor
  · intro h
    exact Nat.exists_testBit_of_ne_zero h
  · rintro ⟨k, hk⟩ h
    rw [h] at hk
    simp at hk
theorem pr_nz {n : Nat} {q : Rq} {lf : Int32} {i S : Nat} : ¬ prS n q lf i &&& S = 0 ↔ 0 < prN n q S i lf := by
  rw [nz_bit]
  unfold prS prN
  constructor
  · rintro ⟨k, hk⟩
    rw [Nat.testBit_and, setB_bit] at hk
    simp only [Bool.and_eq_true, decide_eq_true_eq] at hk
    refine Nat.pos_of_ne_zero fun h => ?_
    have := (cnt_0.mp h) k hk.1.1
    simp [hk.2, hk.1.2.1, hk.1.2.2] at this
  · intro h
    by_cases e : ∃ k, k < n ∧ (S.testBit k && (decide (q 3 k = nI i) && !decide (nI k = lf)) && decide (0 < q 4 k)) = true
    · obtain ⟨k, h1, h2⟩ := e
      refine ⟨k, ?_⟩
      rw [Nat.testBit_and, setB_bit]
      simp only [Bool.and_eq_true] at h2 ⊢
      exact ⟨⟨by simpa using h1, h2.1.2, h2.2⟩, h2.1.1⟩
    · have : fa_cnt (fun j => S.testBit j && (decide (q 3 j = nI i) && !decide (nI j = lf)) && decide (0 < q 4 j)) n = 0 := cnt_0.mpr fun j hj => by
        cases hb : (S.testBit j && (decide (q 3 j = nI i) && !decide (nI j = lf)) && decide (0 < q 4 j))
        · rfl
        · exact absurd ⟨j, hj, hb⟩ e
      omega
theorem sd_nz {n : Nat} {q : Rq} {i S : Nat} : ¬ sdS n q i &&& S = 0 ↔ otB n q S i = true := by
  rw [nz_bit]
  unfold sdS otB
  rw [anyB_iff]
  constructor
  · rintro ⟨k, hk⟩
    rw [Nat.testBit_and, dif_bit, setB_bit, Nat.testBit_two_pow] at hk
    simp only [Bool.and_eq_true, decide_eq_true_eq, Bool.not_eq_true', decide_eq_false_iff_not] at hk
    refine ⟨k, hk.1.1.1, ?_⟩
    simp only [Bool.and_eq_true, decide_eq_true_eq, Bool.not_eq_true', decide_eq_false_iff_not]
    exact ⟨hk.2, fun z => hk.1.2 z.symm, hk.1.1.2⟩
  · rintro ⟨k, h1, h2⟩
    simp only [Bool.and_eq_true, decide_eq_true_eq, Bool.not_eq_true', decide_eq_false_iff_not] at h2
    refine ⟨k, ?_⟩
    rw [Nat.testBit_and, dif_bit, setB_bit, Nat.testBit_two_pow]
    simp only [Bool.and_eq_true, decide_eq_true_eq, Bool.not_eq_true', decide_eq_false_iff_not]
    exact ⟨⟨⟨h1, h2.2.2⟩, fun z => h2.2.1 z.symm⟩, h2.1⟩
theorem cd_z {q : Rq} {lf : Int32} {i S : Nat} : dif (cdS q lf i) S = 0 ↔ bdB S (cdI q lf i) = true := by
  unfold cdS cdI bdB
  by_cases h1 : nI i = lf
  · simp [h1, dif]
  · by_cases h2 : q 3 i = -9
    · simp [h1, h2, dif]
    · rw [if_neg (fun z => z.elim h2 h1), if_neg h1, dif_0]
      simp only [h2, decide_false, Bool.false_or]
      constructor
      · intro h
        have := congrArg (fun x => Nat.testBit x (q 3 i).toNatClampNeg) h
        simp only [Nat.testBit_and, Nat.testBit_two_pow, decide_true, Bool.true_and] at this
        exact this
      · intro h
        apply Nat.eq_of_testBit_eq
        intro k
        rw [Nat.testBit_and, Nat.testBit_two_pow]
        by_cases e : (q 3 i).toNatClampNeg = k
        · subst e
          simp [h]
        · simp [e]
theorem nI_n9 {i : Nat} (h : i < 9) : ¬ nI i = -9 := ne9 (by omega)
theorem way_wB {n : Nat} {q : Rq} {ab : Nat} {fl : Nat → Nat} {S : Nat} (h9 : n ≤ 9) (hS : S < 2 ^ n) : wayB n q fl (dif (2 ^ n - 1) ab) S = wB n q (-9) ab fl S := by
  have key : dif S (dif (2 ^ n - 1) ab) = 0 → dueS n q fl (dif (2 ^ n - 1) ab) S = setB (stB n q (-9) ab fl S) n := by
    intro h
    rw [dif_0] at h
    unfold dueS
    rw [h]
    refine bits_ext (setB_lt _ _) (setB_lt _ _) fun i hi => ?_
    rw [setB_bit, setB_bit, dif_bit, all_bit]
    unfold stB cdI
    rw [if_neg (nI_n9 (by omega))]
    simp [hi]
  unfold wayB wB
  by_cases h : dif S (dif (2 ^ n - 1) ab) = 0
  · rw [key h]
    simp [h]
  · have : ¬ setB (stB n q (-9) ab fl S) n = S := fun e => h (by
      rw [dif_0]
      refine bits_ext (n := n) (Nat.lt_of_le_of_lt Nat.and_le_left hS) hS fun i hi => ?_
      rw [Nat.testBit_and, dif_bit, all_bit]
      have e2 := congrArg (fun x => Nat.testBit x i) e
      simp only [setB_bit, hi, decide_true, Bool.true_and] at e2
      unfold stB at e2
      rw [← e2]
      cases ab.testBit i <;> simp [hi])
    simp [h, this]
theorem wB_iff {n : Nat} {q : Rq} {lf : Int32} {ab : Nat} {fl : Nat → Nat} {S : Nat} (hS : S < 2 ^ n) : wB n q lf ab fl S = true ↔ ∀ i, i < n → stB n q lf ab fl S i = S.testBit i := by
  unfold wB
  rw [decide_eq_true_eq]
  constructor
  · intro e i hi
    have e2 := congrArg (fun x => Nat.testBit x i) e
    simpa only [setB_bit, hi, decide_true, Bool.true_and] using e2
  · intro h
    refine bits_ext (setB_lt _ _) hS fun i hi => ?_
    rw [setB_bit]
    simp [hi, h i hi]
/-- what matters to one -/
def mtS (n : Nat) (q : Rq) (lf : Int32) (i : Nat) : Nat := (2 ^ i ||| (if isOfB (q 0 i) 1 = true then cdS q lf i else 0)) ||| (if q 0 i = 4 then sdS n q i else 0)
def lowN (m : Nat) : Nat := fa_first (fun k => m.testBit k) 9
theorem low_I : ∀ m, m < 512 → ¬ m = 0 → nI m &&& (-(nI m)) = nI (2 ^ lowN m) := by decide +kernel
theorem low_9 : ∀ m, m < 512 → ¬ m = 0 → lowN m < 9 := by decide +kernel
theorem low_le {m k : Nat} (hk : m.testBit k = true) (h9 : k < 9) : lowN m ≤ k := by
  refine Nat.not_lt.mp fun h => ?_
  have := fa_first_no (fun k => m.testBit k) 9 k h
  rw [hk] at this
  cases this
theorem mt_lt {n : Nat} {q : Rq} {lf : Int32} {i : Nat} (hc : Cw n q) (hi : i < n) : mtS n q lf i < 512 := by
  have h9 := hc.1
  have a : ∀ k, k < 9 → 2 ^ k < 2 ^ 9 := fun k hk => Nat.pow_lt_pow_right (by decide) hk
  unfold mtS
  refine Nat.or_lt_two_pow (n := 9) (Nat.or_lt_two_pow (a i (by omega)) ?_) ?_
  · split
    · unfold cdS
      split
      · decide
      · rename_i z
        rcases (hc.2 i hi).2.2.2.1 with ⟨h, -⟩ | ⟨j, hj, e, -, -⟩
        · exact absurd (Or.inl h) z
        · rw [e, tn_nI (by omega)]
          exact a j (by omega)
    · decide
  · split
    · exact Nat.lt_of_lt_of_le (dif_le _ _ (setB_lt _ _)) (Nat.pow_le_pow_right (by decide) h9)
    · decide
theorem mt_i {n : Nat} {q : Rq} {lf : Int32} {i : Nat} : (mtS n q lf i).testBit i = true := by
  unfold mtS
  rw [Nat.testBit_or, Nat.testBit_or, Nat.testBit_two_pow]
  simp
theorem mt_nz {n : Nat} {q : Rq} {lf : Int32} {i : Nat} : ¬ mtS n q lf i = 0 := nz_bit.mpr ⟨i, mt_i⟩
theorem anyB_cong {p p' : Nat → Bool} : ∀ {n : Nat}, (∀ k, k < n → p k = p' k) → anyB p n = anyB p' n
  | 0, _ => rfl
  | n + 1, h => by rw [anyB, anyB, anyB_cong (n := n) (fun k hk => h k (by omega)), h n (by omega)]
theorem st_same {n : Nat} {q : Rq} {lf : Int32} {ab : Nat} {fl : Nat → Nat} {S S' i : Nat} (hc : Cw n q) (hi : i < n) (h : ∀ k, lowN (mtS n q lf i) ≤ k → S'.testBit k = S.testBit k) : stB n q lf ab fl S' i = stB n q lf ab fl S i := by
  have h9 := hc.1
  have li : lowN (mtS n q lf i) ≤ i := low_le mt_i (by omega)
  have cit : ∀ j, j < n → q 3 j = nI i → S'.testBit j = S.testBit j := fun j hj e => by
    refine h j ?_
    rcases (hc.2 j hj).2.2.2.1 with ⟨h3, -⟩ | ⟨i2, hj2, e2, -, -⟩
    · rw [h3] at e
      exact absurd e.symm (nI_n9 (by omega))
    · have : i2 = i := (nI_eq (by omega) (by omega)).mp (e2.symm.trans e)
      omega
  have eag : agN n q S' i lf = agN n q S i lf := by
    unfold agN
    refine fa_cnt_cong fun j hj => ?_
    by_cases e : q 3 j = nI i
    · rw [cit j hj e]
    · simp [e]
  have epr : prN n q S' i lf = prN n q S i lf := by
    unfold prN
    refine fa_cnt_cong fun j hj => ?_
    by_cases e : q 3 j = nI i
    · rw [cit j hj e]
    · simp [e]
  have ebd : (q 0 i = 1 ∨ q 0 i = 4) → bdB S' (cdI q lf i) = bdB S (cdI q lf i) := by
    intro hk
    unfold bdB cdI
    by_cases h1 : nI i = lf
    · simp [h1]
    · rw [if_neg h1]
      rcases (hc.2 i hi).2.2.2.1 with ⟨h3, -⟩ | ⟨j, hj, e, -, -⟩
      · simp [h3]
      · rw [e, tn_nI (by omega)]
        congr 1
        refine h j (low_le ?_ (by omega))
        have ecd : cdS q lf i = 2 ^ j := by
          unfold cdS
          rw [if_neg (fun z => z.elim (by rw [e]; exact nI_n9 (by omega)) h1), e, tn_nI (by omega)]
        unfold mtS
        rw [ecd]
        have : isOfB (q 0 i) 1 = true := by
          unfold isOfB
          rcases hk with z | z <;> simp [z]
        rw [if_pos this, Nat.testBit_or, Nat.testBit_or, Nat.testBit_two_pow (n := j)]
        simp
  have eot : q 0 i = 4 → otB n q S' i = otB n q S i := by
    intro hk
    unfold otB
    refine anyB_cong fun j hj => ?_
    by_cases e1 : j = i
    · simp [e1]
    · by_cases e2 : q 1 j = q 1 i
      · have : S'.testBit j = S.testBit j := by
          refine h j (low_le ?_ (by omega))
          unfold mtS sdS
          rw [if_pos hk, Nat.testBit_or, dif_bit, setB_bit, Nat.testBit_two_pow]
          have e3 : ¬ i = j := fun z => e1 z.symm
          simp [hj, e2, e3]
        rw [this]
      · simp [e2]
  unfold stB dueB
  rw [eag, epr]
  congr 1
  unfold dueK
  by_cases k1 : q 0 i = 1
  · rw [if_pos k1, if_pos k1, ebd (Or.inl k1)]
  · rw [if_neg k1, if_neg k1]
    by_cases k2 : q 0 i = 2
    · rw [if_pos k2, if_pos k2]
    · rw [if_neg k2, if_neg k2]
      by_cases k3 : q 0 i = 3
      · rw [if_pos k3, if_pos k3]
      · rw [if_neg k3, if_neg k3]
        by_cases k4 : q 0 i = 4
        · rw [if_pos k4, if_pos k4, ebd (Or.inr k4), eot k4]
        · rw [if_neg k4, if_neg k4]
/-- what a difference at one tells of others -/
theorem skip_no {n : Nat} {q : Rq} {lf : Int32} {ab : Nat} {fl : Nat → Nat} {S i : Nat} (hc : Cw n q) (hi : i < n) (hd : ¬ stB n q lf ab fl S i = S.testBit i) {S' : Nat} (hS' : S' < 2 ^ n) (h : S' / 2 ^ lowN (mtS n q lf i) = S / 2 ^ lowN (mtS n q lf i)) : wB n q lf ab fl S' = false := by
  have h9 := hc.1
  have hb : ∀ k, lowN (mtS n q lf i) ≤ k → S'.testBit k = S.testBit k := fun k hk => by
    have e := congrArg (fun x => Nat.testBit x (k - lowN (mtS n q lf i))) h
    simp only [Nat.testBit_div_two_pow] at e
    rw [show k - lowN (mtS n q lf i) + lowN (mtS n q lf i) = k by omega] at e
    exact e
  have li : lowN (mtS n q lf i) ≤ i := low_le mt_i (by omega)
  cases hw : wB n q lf ab fl S'
  · rfl
  · have := (wB_iff hS').mp hw i hi
    rw [st_same hc hi hb, hb i li] at this
    exact absurd this hd
/-- the end of those that are passed over -/
theorem skip_to (S p : Nat) : (S ||| (2 ^ p - 1)) + 1 = 2 ^ p * (S / 2 ^ p) + 2 ^ p := by
  have h1 : S ||| (2 ^ p - 1) = 2 ^ p * (S / 2 ^ p) + (2 ^ p - 1) := by
    have hp := Nat.two_pow_pos p
    rw [Nat.two_pow_add_eq_or_of_lt (by omega)]
    apply Nat.eq_of_testBit_eq
    intro k
    rw [Nat.testBit_or, Nat.testBit_or, all_bit, Nat.testBit_two_pow_mul, Nat.testBit_div_two_pow]
    by_cases hk : k < p
    · simp [hk]
    · have : p ≤ k := by omega
      simp only [hk, decide_false, Bool.or_false, this, decide_true, Bool.true_and]
      congr 1
      omega
  have hp := Nat.two_pow_pos p
  omega
theorem div_same {S S' p : Nat} (h1 : S ≤ S') (h2 : S' < 2 ^ p * (S / 2 ^ p) + 2 ^ p) : S' / 2 ^ p = S / 2 ^ p := by
  have hp := Nat.two_pow_pos p
  have a : S / 2 ^ p ≤ S' / 2 ^ p := Nat.div_le_div_right h1
  have b : S' / 2 ^ p < S / 2 ^ p + 1 := by
    rw [Nat.div_lt_iff_lt_mul hp, Nat.add_mul, Nat.one_mul, Nat.mul_comm]
    exact h2
  omega
/-- what some way has -/
def unN (w : Nat → Bool) : Nat → Nat
  | 0 => 0
  | N + 1 => if w N then unN w N ||| N else unN w N
theorem cnt_gap {w : Nat → Bool} {a : Nat} : ∀ m, (∀ S, a ≤ S → S < a + m → w S = false) → fa_cnt w (a + m) = fa_cnt w a
  | 0, _ => rfl
  | m + 1, h => by
    show fa_cnt w ((a + m) + 1) = _
    rw [fa_cnt_no (h _ (by omega) (by omega)), cnt_gap m (fun S h1 h2 => h S h1 (by omega))]
theorem st_gap {t : Nat} {w : Nat → Bool} {a : Nat} : ∀ m, (∀ S, a ≤ S → S < a + m → w S = false) → stN t w (a + m) = stN t w a
  | 0, _ => rfl
  | m + 1, h => by
    show stN t w ((a + m) + 1) = _
    rw [stN, h _ (by omega) (by omega), st_gap m (fun S h1 h2 => h S h1 (by omega))]
    rfl
theorem un_gap {w : Nat → Bool} {a : Nat} : ∀ m, (∀ S, a ≤ S → S < a + m → w S = false) → unN w (a + m) = unN w a
  | 0, _ => rfl
  | m + 1, h => by
    show unN w ((a + m) + 1) = _
    rw [unN, h _ (by omega) (by omega), un_gap m (fun S h1 h2 => h S h1 (by omega))]
    rfl
theorem un_lt {w : Nat → Bool} {n : Nat} : ∀ {N : Nat}, N ≤ 2 ^ n → unN w N < 2 ^ n
  | 0, _ => Nat.two_pow_pos n
  | N + 1, h => by
    have ih := un_lt (w := w) (n := n) (N := N) (by omega)
    unfold unN
    split
    · exact Nat.or_lt_two_pow ih (by omega)
    · exact ih
theorem st_bit {t : Nat} {w : Nat → Bool} {i : Nat} : ∀ {N : Nat}, (stN t w N).testBit i = true ↔ t.testBit i = true ∧ ∀ S, S < N → w S = true → S.testBit i = true
  | 0 => by simp [stN]
  | N + 1 => by
    have ih := st_bit (t := t) (w := w) (i := i) (N := N)
    rw [stN]
    by_cases hw : w N = true
    · rw [if_pos hw, Nat.testBit_and, Bool.and_eq_true, ih]
      constructor
      · rintro ⟨⟨a, b⟩, c⟩
        refine ⟨a, fun S hS h => ?_⟩
        by_cases e : S = N
        · rw [e]; exact c
        · exact b S (by omega) h
      · rintro ⟨a, b⟩
        exact ⟨⟨a, fun S hS h => b S (by omega) h⟩, b N (by omega) hw⟩
    · rw [if_neg hw, ih]
      constructor
      · rintro ⟨a, b⟩
        refine ⟨a, fun S hS h => ?_⟩
        by_cases e : S = N
        · rw [e] at h
          exact absurd h hw
        · exact b S (by omega) h
      · rintro ⟨a, b⟩
        exact ⟨a, fun S hS h => b S (by omega) h⟩
theorem fl_un {t : Nat} {w : Nat → Bool} : ∀ {N : Nat}, flN t w N = dif t (unN w N)
  | 0 => by simp [flN, unN, dif]
  | N + 1 => by
    rw [flN, unN, fl_un (N := N)]
    split
    · apply Nat.eq_of_testBit_eq
      intro k
      rw [dif_bit, dif_bit, dif_bit, Nat.testBit_or]
      cases t.testBit k <;> cases (unN w N).testBit k <;> cases N.testBit k <;> rfl
    · rfl
theorem any_cnt {w : Nat → Bool} {N : Nat} : anyB w N = true ↔ ¬ fa_cnt w N = 0 := by
  rw [anyB_iff, cnt_0]
  constructor
  · rintro ⟨k, h1, h2⟩ h
    rw [h k h1] at h2
    cases h2
  · intro h
    refine Classical.byContradiction fun z => h fun j hj => ?_
    cases hb : w j
    · rfl
    · exact absurd ⟨j, hj, hb⟩ z
theorem first_cnt {w : Nat → Bool} {N : Nat} : fa_first w N < N ↔ ¬ fa_cnt w N = 0 := by
  constructor
  · intro h z
    have := cnt_0.mp z _ h
    rw [fa_first_yes w N h] at this
    cases this
  · intro h
    refine Classical.byContradiction fun z => h (cnt_0.mpr fun j hj => fa_first_no w N j ?_)
    have := fa_first_le w N
    omega
theorem cnt_first {w : Nat → Bool} {N : Nat} : fa_cnt w (fa_first w N) = 0 := cnt_0.mpr fun j hj => fa_first_no w N j hj
/-- a loop over the ways -/
theorem wlp {P : Nat → Prop} {N : Nat} (w : Nat → Bool) (hN : P N) (hy : ∀ S, S < N → w S = true → P (S + 1) → P S) (hn : ∀ S, S < N → w S = false → P (S + 1) → P S) : P 0 := lp hN fun S hS ih => by
  cases hw : w S
  · exact hn S hS hw ih
  · exact hy S hS hw ih
theorem st_any {n t : Nat} {w : Nat → Bool} (ht : t < 2 ^ n) (hw : ∀ S, w S = true → S &&& t = S) : stS n t w = if fa_cnt w (2 ^ n) = 0 then 0 else stN (2 ^ n - 1) w (2 ^ n) := by
  unfold stS
  by_cases h : fa_cnt w (2 ^ n) = 0
  · rw [if_pos h, if_neg (fun z => any_cnt.mp z h)]
  · rw [if_neg h, if_pos (any_cnt.mpr h)]
    obtain ⟨S0, hS0, hw0⟩ := anyB_iff.mp (any_cnt.mpr h)
    refine bits_ext (stN_lt ht _) (stN_lt (by have := Nat.two_pow_pos n; omega) _) fun i hi => ?_
    rw [Bool.eq_iff_iff, st_bit, st_bit, all_bit]
    constructor
    · rintro ⟨a, b⟩
      exact ⟨by simpa using hi, b⟩
    · rintro ⟨a, b⟩
      refine ⟨?_, b⟩
      have e := congrArg (fun x => Nat.testBit x i) (hw S0 hw0)
      simp only [Nat.testBit_and, b S0 hS0 hw0, Bool.true_and] at e
      exact e
theorem fl_any {n t : Nat} {w : Nat → Bool} : flS n t w = if fa_cnt w (2 ^ n) = 0 then 0 else dif t (unN w (2 ^ n)) := by
  unfold flS
  by_cases h : fa_cnt w (2 ^ n) = 0
  · rw [if_pos h, if_neg (fun z => any_cnt.mp z h)]
  · rw [if_neg h, if_pos (any_cnt.mpr h), fl_un]
