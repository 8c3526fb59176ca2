/-! sets of bits: as ints, as numbers -/
theorem bt_nI (n i : Nat) : bt (nI n) i = (decide (i < 32) && n.testBit i) := by
  unfold bt
  show (BitVec.ofNat 32 n).getLsbD i = _
  rw [BitVec.getLsbD_ofNat]
/-- a bit of a set -/
theorem hasI {s k : Nat} (hk : k < 31) : ((nI s >>> (nI k &&& 31)) &&& 1 = 1) ↔ s.testBit k = true := by
  have h1 : ∀ i, i < 32 → bt ((nI s >>> (nI k &&& 31)) &&& 1) i = (decide (i = 0) && s.testBit k) := by
    intro i hi
    rw [b_and, b_sshr k (by omega) _ hi]
    have e1 : bt 1 i = decide (i = 0) := by
      have : ∀ i, i < 32 → bt 1 i = decide (i = 0) := by decide +kernel
      exact this i hi
    rw [e1]
    by_cases h0 : i = 0
    · subst h0
      rw [if_pos (by omega), bt_nI]
      simp
      omega
    · simp [h0]
  constructor
  · intro h
    have := h1 0 (by decide)
    rw [h] at this
    have e : bt 1 0 = true := by decide +kernel
    rw [e] at this
    simpa using this.symm
  · intro h
    apply b_ext
    intro i hi
    rw [h1 i hi, h]
    have : ∀ i, i < 32 → (decide (i = 0) && true) = bt 1 i := by decide +kernel
    exact this i hi
theorem shl1 {k : Nat} (hk : k < 31) : (1 : Int32) <<< (nI k &&& 31) = nI (2 ^ k) := by
  have : ∀ k, k < 31 → (1 : Int32) <<< (nI k &&& 31) = nI (2 ^ k) := by decide +kernel
  exact this k hk
/-- what is in one set and not in another -/
def dif (a b : Nat) : Nat := a ^^^ (a &&& b)
theorem dif_bit (a b i : Nat) : (dif a b).testBit i = (a.testBit i && !b.testBit i) := by
  unfold dif
  rw [Nat.testBit_xor, Nat.testBit_and]
  cases a.testBit i <;> cases b.testBit i <;> rfl
theorem difI (a b : Nat) : nI a &&& (nI b ^^^ (-1)) = nI (dif a b) := by
  apply b_ext
  intro i hi
  rw [b_and, b_xor, b_m1 i hi, bt_nI, bt_nI, bt_nI, dif_bit]
  simp [hi]
theorem bits_ext {a b n : Nat} (ha : a < 2 ^ n) (hb : b < 2 ^ n) (h : ∀ i, i < n → a.testBit i = b.testBit i) : a = b := by
  apply Nat.eq_of_testBit_eq
  intro i
  by_cases hi : i < n
  · exact h i hi
  · rw [Nat.testBit_lt_two_pow (Nat.lt_of_lt_of_le ha (Nat.pow_le_pow_right (by decide) (by omega))), Nat.testBit_lt_two_pow (Nat.lt_of_lt_of_le hb (Nat.pow_le_pow_right (by decide) (by omega)))]
theorem dif_0 {a b : Nat} : dif a b = 0 ↔ a &&& b = a := by
  unfold dif
  constructor
  · intro h
    have h2 : a ^^^ (a ^^^ (a &&& b)) = a ^^^ 0 := by rw [h]
    rw [← Nat.xor_assoc, Nat.xor_self, Nat.zero_xor, Nat.xor_zero] at h2
    exact h2
  · intro h
    rw [h, Nat.xor_self]
theorem dif_le (a b : Nat) {n : Nat} (h : a < 2 ^ n) : dif a b < 2 ^ n := Nat.xor_lt_two_pow h (Nat.lt_of_le_of_lt Nat.and_le_left h)
theorem all_bit {n i : Nat} : (2 ^ n - 1).testBit i = decide (i < n) := Nat.testBit_two_pow_sub_one n i
theorem and_all {a n : Nat} (h : a < 2 ^ n) : a &&& (2 ^ n - 1) = a := by rw [Nat.and_two_pow_sub_one_eq_mod, Nat.mod_eq_of_lt h]
theorem pw9 {n : Nat} (h : n ≤ 9) : 2 ^ n ≤ 512 := Nat.pow_le_pow_right (by decide) h
/-- (1 << n) - 1 -/
theorem all_I {n : Nat} (h : n ≤ 9) : (1 : Int32) <<< (nI n &&& 31) - 1 = nI (2 ^ n - 1) := by
  rw [shl1 (by omega)]
  have := Nat.two_pow_pos n
  obtain ⟨k, hk⟩ : ∃ k, 2 ^ n = k + 1 := ⟨2 ^ n - 1, by omega⟩
  rw [hk, nI_pred]
  rfl
/-- any of the first n -/
def anyB (p : Nat → Bool) : Nat → Bool
  | 0 => false
  | n + 1 => anyB p n || p n
theorem anyB_iff {p : Nat → Bool} : ∀ {n : Nat}, anyB p n = true ↔ ∃ k, k < n ∧ p k = true
  | 0 => by simp [anyB]
  | n + 1 => by
    have ih := anyB_iff (p := p) (n := n)
    simp only [anyB, Bool.or_eq_true, ih]
    constructor
    · rintro (⟨k, h1, h2⟩ | h)
      · exact ⟨k, by omega, h2⟩
      · exact ⟨n, by omega, h⟩
    · rintro ⟨k, h1, h2⟩
      by_cases e : k = n
      · subst e
        exact Or.inr h2
      · exact Or.inl ⟨k, by omega, h2⟩
/-- the first n bits by a predicate -/
def setB (p : Nat → Bool) : Nat → Nat
  | 0 => 0
  | n + 1 => setB p n ||| (if p n then 2 ^ n else 0)
theorem setB_bit (p : Nat → Bool) : ∀ (n i : Nat), (setB p n).testBit i = (decide (i < n) && p i)
  | 0, i => by simp [setB]
  | n + 1, i => by
    rw [setB, Nat.testBit_or, setB_bit p n i]
    by_cases h : p n
    · rw [if_pos h, Nat.testBit_two_pow]
      by_cases e : i = n
      · subst e
        simp [h]
      · have e2 : (i < n + 1) ↔ (i < n) := by omega
        have e3 : ¬ n = i := fun z => e z.symm
        simp [e2, e3]
    · rw [if_neg h]
      by_cases e : i = n
      · subst e
        simp [h]
      · have e2 : (i < n + 1) ↔ (i < n) := by omega
        simp [e2]
theorem setB_lt (p : Nat → Bool) : ∀ (n : Nat), setB p n < 2 ^ n
  | 0 => by simp [setB]
  | n + 1 => by
    have ih := setB_lt p n
    have : 2 ^ n < 2 ^ (n + 1) := Nat.pow_lt_pow_right (by decide) (by omega)
    refine Nat.or_lt_two_pow (by omega) ?_
    split
    · exact this
    · exact Nat.two_pow_pos _
/-! what is due, WAYS: of rulings q (kind, day, verdict, cites, how, marks), n of them; sk: more against; t: those that are there -/
abbrev Rq : Type := Nat → Nat → Int32
/-- how many of a set cite one against, for (but for one whose citation is left out) -/
def agN (n : Nat) (q : Rq) (u i : Nat) (left : Int32) : Nat := fa_cnt (fun j => (u.testBit j && (decide (q 3 j = nI i) && !decide (nI j = left))) && decide (q 4 j < 0)) n
def prN (n : Nat) (q : Rq) (u i : Nat) (left : Int32) : Nat := fa_cnt (fun j => (u.testBit j && (decide (q 3 j = nI i) && !decide (nI j = left))) && decide (0 < q 4 j)) n
def otB (n : Nat) (q : Rq) (u i : Nat) : Bool := anyB (fun j => u.testBit j && (!decide (j = i) && decide (q 1 j = q 1 i))) n
def bdB (u : Nat) (cited : Int32) : Bool := decide (cited = -9) || u.testBit cited.toNatClampNeg
def dueK (ag pr : Nat) (ot bd : Bool) (its : Int32) : Bool :=
  if its = 1 then decide (ag = 0) && bd else if its = 2 then decide (ag < 2) else if its = 3 then decide (ag = 0) && decide (0 < pr) else if its = 4 then decide (ag = 0) && (bd && ot) else if its = 5 then true else decide (ag = 0)
def dueB (n : Nat) (q : Rq) (sk : Nat → Nat) (u i : Nat) (its cited left : Int32) : Bool := dueK (sk i + agN n q u i left) (prN n q u i left) (otB n q u i) (bdB u cited) its
def dueS (n : Nat) (q : Rq) (sk : Nat → Nat) (t s : Nat) : Nat := setB (fun i => t.testBit i && dueB n q sk (s &&& t) i (q 0 i) (q 3 i) (-9)) n
def wayB (n : Nat) (q : Rq) (sk : Nat → Nat) (t s : Nat) : Bool := decide (dif s t = 0) && decide (dueS n q sk t s = s)
