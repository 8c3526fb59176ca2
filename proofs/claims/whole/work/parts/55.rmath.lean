/-! what to file: the mathematics -/
def limK (its : Int32) : Nat := if its = 5 then 0 else if its = 2 then 2 else 1
def bmp (fl : Nat → Nat) (c : Nat) : Nat → Nat := fun x => fl x + if c = x then 1 else 0
theorem due_cap {a b g pr : Nat} {ot bd : Bool} {its : Int32} (h : min a (limK its) = min b (limK its)) : dueK (a + g) pr ot bd its = dueK (b + g) pr ot bd its := by
  unfold dueK
  unfold limK at h
  by_cases k5 : its = 5
  · subst k5
    rfl
  · rw [if_neg k5] at h
    by_cases k2 : its = 2
    · subst k2
      rw [if_pos rfl] at h
      have e : (a + g < 2) ↔ (b + g < 2) := by omega
      simp [e]
    · rw [if_neg k2] at h
      have e : (a + g = 0) ↔ (b + g = 0) := by omega
      rw [if_neg k2, if_neg k2, if_neg k5, if_neg k5]
      rw [decide_eq_decide.mpr e]
theorem way_cap {n : Nat} {q : Rq} {sk sk' : Nat → Nat} {t : Nat} (h : ∀ c, c < n → min (sk c) (limK (q 0 c)) = min (sk' c) (limK (q 0 c))) : wayB n q sk t = wayB n q sk' t := by
  funext S
  have : dueS n q sk t S = dueS n q sk' t S := by
    unfold dueS
    refine bits_ext (setB_lt _ _) (setB_lt _ _) fun i hi => ?_
    rw [setB_bit, setB_bit]
    unfold dueB
    rw [due_cap (h i hi)]
  unfold wayB
  rw [this]
theorem rch_cap {n : Nat} {q : Rq} {sk sk' : Nat → Nat} {aim : Int32} {i : Nat} (h : ∀ c, c < n → min (sk c) (limK (q 0 c)) = min (sk' c) (limK (q 0 c))) : rchB n q sk aim i = rchB n q sk' aim i := by
  unfold rchB
  rw [way_cap h]
/-- a row without one of its places -/
def rmN (n code j : Nat) : Nat := code / n ^ (j + 1) * n ^ j + code % n ^ j
def remB (n m code j : Nat) : Bool := decide (rmN n code j < n ^ m) && (rsC n (rmN n code j) m && (List.range 9).all (fun x => decide (skC n (rmN n code j) m x + (if dgt n code j = x then 1 else 0) = skC n code (m + 1) x)))
theorem rem_b : ∀ n, n < 10 → ∀ m, m < 3 → ∀ code, code < n ^ (m + 1) → (!rsC n code (m + 1) || (List.range (m + 1)).all (remB n m code)) = true := by decide +kernel
theorem rem_ok (n : Nat) (hn : n < 10) (m : Nat) (hm : m < 3) (code : Nat) (hcd : code < n ^ (m + 1)) (hrs : rsC n code (m + 1) = true) (j : Nat) (hj : j < m + 1) : rmN n code j < n ^ m ∧ rsC n (rmN n code j) m = true ∧ ∀ x, x < 9 → skC n (rmN n code j) m x + (if dgt n code j = x then 1 else 0) = skC n code (m + 1) x := by
  have h := rem_b n hn m hm code hcd
  rw [hrs, Bool.not_true, Bool.false_or, List.all_eq_true] at h
  have h2 := h j (List.mem_range.mpr hj)
  unfold remB at h2
  rw [Bool.and_eq_true, Bool.and_eq_true, decide_eq_true_eq, List.all_eq_true] at h2
  exact ⟨h2.1, h2.2.1, fun x hx => of_decide_eq_true (h2.2.2 x (List.mem_range.mpr hx))⟩
theorem sk_pos {n code x : Nat} : ∀ {m : Nat}, 0 < skC n code m x → ∃ j, j < m ∧ dgt n code j = x
  | 0, h => absurd h (Nat.lt_irrefl 0)
  | m + 1, h => by
    rw [skC_s] at h
    by_cases e : dgt n code m = x
    · exact ⟨m, by omega, e⟩
    · rw [if_neg e] at h
      obtain ⟨j, a, b⟩ := sk_pos (m := m) (by omega)
      exact ⟨j, by omega, b⟩
/-- a row as one number of figures below nine: the bound of its next figure, whether it rises, the same row by n, and back -/
def mst (n f : Nat) : Nat → Nat
  | 0 => n
  | j + 1 => dgt 9 f j + 1
def okF (n f : Nat) : Nat → Bool
  | 0 => true
  | j + 1 => okF n f j && decide (dgt 9 f j < mst n f j)
def bkN (n f : Nat) : Nat → Nat
  | 0 => 0
  | j + 1 => bkN n f j + dgt 9 f j * n ^ j
def ckN (n code : Nat) : Nat → Nat
  | 0 => 0
  | j + 1 => ckN n code j + dgt n code j * 9 ^ j
def bkB (n f m : Nat) : Bool := decide (bkN n f m < n ^ m) && (rsC n (bkN n f m) m && (decide (ckN n (bkN n f m) m = f) && (List.range m).all (fun j => decide (dgt n (bkN n f m) j = dgt 9 f j) && decide (dgt 9 f j < n))))
theorem bk_b : ∀ n, n < 10 → ∀ m, m < 4 → ∀ f, f < 9 ^ m → (!okF n f m || bkB n f m) = true := by decide +kernel
theorem bk_ok {n m f : Nat} (h9 : n ≤ 9) (hm : m ≤ 3) (hf : f < 9 ^ m) (ok : okF n f m = true) : bkN n f m < n ^ m ∧ rsC n (bkN n f m) m = true ∧ ckN n (bkN n f m) m = f ∧ ∀ j, j < m → dgt n (bkN n f m) j = dgt 9 f j ∧ dgt 9 f j < n := by
  have h := bk_b n (by omega) m (by omega) f hf
  rw [ok, Bool.not_true, Bool.false_or] at h
  unfold bkB at h
  rw [Bool.and_eq_true, Bool.and_eq_true, Bool.and_eq_true, decide_eq_true_eq, decide_eq_true_eq, List.all_eq_true] at h
  refine ⟨h.1, h.2.1, h.2.2.1, fun j hj => ?_⟩
  have h2 := h.2.2.2 j (List.mem_range.mpr hj)
  rw [Bool.and_eq_true, decide_eq_true_eq, decide_eq_true_eq] at h2
  exact h2
theorem ck_b : ∀ n, n < 10 → ∀ m, m < 4 → ∀ code, code < n ^ m → (!rsC n code m || (decide (ckN n code m < 9 ^ m) && (okF n (ckN n code m) m && decide (bkN n (ckN n code m) m = code)))) = true := by decide +kernel
theorem ck_ok {n m code : Nat} (h9 : n ≤ 9) (hm : m ≤ 3) (hc : code < n ^ m) (rs : rsC n code m = true) : ckN n code m < 9 ^ m ∧ okF n (ckN n code m) m = true ∧ bkN n (ckN n code m) m = code := by
  have h := ck_b n (by omega) m (by omega) code hc
  rw [rs, Bool.not_true, Bool.false_or, Bool.and_eq_true, Bool.and_eq_true, decide_eq_true_eq, decide_eq_true_eq] at h
  exact ⟨h.1, h.2.1, h.2.2⟩
theorem ck_u : ∀ n, n < 10 → ∀ m, m < 4 → ∀ code, code < n ^ m - 1 → ckN n code m < ckN n (code + 1) m := by decide +kernel
theorem ck_lt {n m : Nat} (h9 : n ≤ 9) (hm : m ≤ 3) {a : Nat} : ∀ {b : Nat}, a < b → b < n ^ m → ckN n a m < ckN n b m
  | 0, h, _ => absurd h (Nat.not_lt_zero a)
  | b + 1, h, hb => by
    have h1 := ck_u n (by omega) m (by omega) b (by omega)
    by_cases e : a = b
    · rw [e]; exact h1
    · exact Nat.lt_trans (ck_lt h9 hm (b := b) (by omega) (by omega)) h1
/-- how often each stands in a row, told from its first on -/
def fcN (p : Nat → Nat) : Nat → Nat → Nat
  | 0, _ => 0
  | k + 1, c => fcN p k c + if p k = c then 1 else 0
theorem fc_le (p : Nat → Nat) (c : Nat) : ∀ k, fcN p k c ≤ k
  | 0 => Nat.le_refl 0
  | k + 1 => by
    have := fc_le p c k
    unfold fcN
    split <;> omega
theorem fc_mono {p : Nat → Nat} {c k : Nat} : ∀ {m : Nat}, k ≤ m → fcN p k c ≤ fcN p m c
  | 0, h => by
    have : k = 0 := by omega
    subst this
    exact Nat.le_refl _
  | m + 1, h => by
    by_cases e : k = m + 1
    · rw [e]
      exact Nat.le_refl _
    · exact Nat.le_trans (fc_mono (m := m) (by omega)) (Nat.le_add_right _ _)
theorem fc_sk {N f c : Nat} : ∀ m, m ≤ 3 → fcN (fun x => dgt N f (m - 1 - x)) m c = skC N f m c
  | 0, _ => rfl
  | 1, _ => rfl
  | 2, _ => by
    show 0 + (if dgt N f 1 = c then 1 else 0) + (if dgt N f 0 = c then 1 else 0) = 0 + (if dgt N f 0 = c then 1 else 0) + (if dgt N f 1 = c then 1 else 0)
    omega
  | 3, _ => by
    show 0 + (if dgt N f 2 = c then 1 else 0) + (if dgt N f 1 = c then 1 else 0) + (if dgt N f 0 = c then 1 else 0) = 0 + (if dgt N f 0 = c then 1 else 0) + (if dgt N f 1 = c then 1 else 0) + (if dgt N f 2 = c then 1 else 0)
    omega
  | m + 4, h => by omega
theorem sk_bk {n m f : Nat} (h9 : n ≤ 9) (hm : m ≤ 3) (hf : f < 9 ^ m) (ok : okF n f m = true) : skC n (bkN n f m) m = skC 9 f m := by
  have h := (bk_ok h9 hm hf ok).2.2.2
  funext c
  have H : ∀ k, k ≤ m → skC n (bkN n f m) k c = skC 9 f k c := by
    intro k
    induction k with
    | zero => intro _; rfl
    | succ k ih =>
      intro hk
      rw [skC_s, skC_s, ih (by omega), (h k (by omega)).1]
  exact H m (Nat.le_refl m)
section RM
variable {n : Nat} {q : Rq} {aim : Int32} {i : Nat}
/-- no row is reached by more than its limit, if no shorter one is -/
theorem no_more {m code : Nat} (h9 : n ≤ 9) (hm : m ≤ 3) (hlow : ∀ m', m' < m → ∀ code, code < n ^ m' → fiP n q aim i m' code = false) (hcd : code < n ^ m) (hT : fiP n q aim i m code = true) {x : Nat} (hx : x < n) : skC n code m x ≤ limK (q 0 x) := by
  refine Nat.le_of_not_lt fun hgt => ?_
  unfold fiP at hT
  rw [Bool.and_eq_true] at hT
  obtain ⟨j, hj, ej⟩ := sk_pos (n := n) (code := code) (x := x) (m := m) (by omega)
  rcases m with _ | m
  · omega
  · obtain ⟨a, b, c⟩ := rem_ok n (by omega) m (by omega) code hcd hT.1 j hj
    have := hlow m (by omega) _ a
    unfold fiP at this
    rw [b, Bool.true_and, rch_cap (sk' := skC n code (m + 1)) ?_, hT.2] at this
    · cases this
    · intro y hy
      have e := c y (by omega)
      rw [ej] at e
      by_cases e2 : x = y
      · subst e2
        rw [if_pos rfl] at e
        omega
      · rw [if_neg e2] at e
        rw [← e]
        rfl
/-- the first row that does it, among the numbers of figures -/
theorem lev_none {m : Nat} (h9 : n ≤ 9) (hm : m ≤ 3) (h : ∀ f, f < 9 ^ m → okF n f m = true → fiP n q aim i m (bkN n f m) = false) : ¬ lev n q aim i m < n ^ m := by
  unfold lev
  rw [first_N fun code hc => ?_]
  · exact Nat.lt_irrefl _
  · cases rs : rsC n code m
    · unfold fiP
      rw [rs, Bool.false_and]
    · obtain ⟨a, b, c⟩ := ck_ok h9 hm hc rs
      have := h _ a b
      rw [c] at this
      exact this
theorem lev_some {m f : Nat} (h9 : n ≤ 9) (hm : m ≤ 3) (hf : f < 9 ^ m) (ok : okF n f m = true) (hT : fiP n q aim i m (bkN n f m) = true) (h : ∀ f', f' < f → okF n f' m = true → fiP n q aim i m (bkN n f' m) = false) : lev n q aim i m = bkN n f m ∧ bkN n f m < n ^ m := by
  obtain ⟨a1, a2, a3, a4⟩ := bk_ok h9 hm hf ok
  refine ⟨?_, a1⟩
  unfold lev
  refine first_eq a1 hT fun code hc => ?_
  cases rs : rsC n code m
  · unfold fiP
    rw [rs, Bool.false_and]
  · obtain ⟨b1, b2, b3⟩ := ck_ok h9 hm (Nat.lt_trans hc a1) rs
    have hlt := ck_lt h9 hm hc a1
    rw [a3] at hlt
    have := h _ hlt b2
    rw [b3] at this
    exact this
end RM
