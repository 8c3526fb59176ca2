/-! what to file: the mathematics -/
def limK (its : Int32) : Nat := if its = 5 then 0 else if its = 2 then 2 else 1
def bmp (fl : Nat → Nat) (c : Nat) : Nat → Nat := fun x => fl x + if c = x then 1 else 0
/-- the search: so many more, none ahead of a first one; R says whether it is reached -/
def crL (n : Nat) (lim : Nat → Nat) (R : (Nat → Nat) → Bool) : Nat → Nat → (Nat → Nat) → Option Nat
  | 0, _, fl => if R fl then some 0 else none
  | k + 1, first, fl =>
    let p := fun c => decide (first ≤ c) && (decide (fl c < lim c) && (crL n lim R k c (bmp fl c)).isSome)
    if fa_first p n < n then (crL n lim R k (fa_first p n) (bmp fl (fa_first p n))).map (fun r => fa_first p n * n ^ k + r) else none
theorem due_cap {a b g pr : Nat} {ot bd : Bool} {its : Int32} (h : min a (limK its) = min b (limK its)) : dueK (a + g) pr ot bd its = dueK (b + g) pr ot bd its := by
  unfold dueK
  unfold limK at h
  by_cases k5 : its = 5
  · subst k5
    rfl
  · rw [if_neg k5] at h
    by_cases k2 : its = 2
    · subst k2
      rw [if_pos rfl] at h
      have e : (a + g < 2) ↔ (b + g < 2) := by omega
      simp [e]
    · rw [if_neg k2] at h
      have e : (a + g = 0) ↔ (b + g = 0) := by omega
      rw [if_neg k2, if_neg k2, if_neg k5, if_neg k5]
      rw [decide_eq_decide.mpr e]
theorem way_cap {n : Nat} {q : Rq} {sk sk' : Nat → Nat} {t : Nat} (h : ∀ c, c < n → min (sk c) (limK (q 0 c)) = min (sk' c) (limK (q 0 c))) : wayB n q sk t = wayB n q sk' t := by
  funext S
  have : dueS n q sk t S = dueS n q sk' t S := by
    unfold dueS
    refine bits_ext (setB_lt _ _) (setB_lt _ _) fun i hi => ?_
    rw [setB_bit, setB_bit]
    unfold dueB
    rw [due_cap (h i hi)]
  unfold wayB
  rw [this]
theorem rch_cap {n : Nat} {q : Rq} {sk sk' : Nat → Nat} {aim : Int32} {i : Nat} (h : ∀ c, c < n → min (sk c) (limK (q 0 c)) = min (sk' c) (limK (q 0 c))) : rchB n q sk aim i = rchB n q sk' aim i := by
  unfold rchB
  rw [way_cap h]
/-- a row without one of its places -/
def rmN (n code j : Nat) : Nat := code / n ^ (j + 1) * n ^ j + code % n ^ j
def remB (n m code j : Nat) : Bool := decide (rmN n code j < n ^ m) && (rsC n (rmN n code j) m && (List.range 9).all (fun x => decide (skC n (rmN n code j) m x + (if dgt n code j = x then 1 else 0) = skC n code (m + 1) x)))
theorem rem_b : ∀ n, n < 10 → ∀ m, m < 3 → ∀ code, code < n ^ (m + 1) → (!rsC n code (m + 1) || (List.range (m + 1)).all (remB n m code)) = true := by decide +kernel
theorem rem_ok (n : Nat) (hn : n < 10) (m : Nat) (hm : m < 3) (code : Nat) (hcd : code < n ^ (m + 1)) (hrs : rsC n code (m + 1) = true) (j : Nat) (hj : j < m + 1) : rmN n code j < n ^ m ∧ rsC n (rmN n code j) m = true ∧ ∀ x, x < 9 → skC n (rmN n code j) m x + (if dgt n code j = x then 1 else 0) = skC n code (m + 1) x := by
  have h := rem_b n hn m hm code hcd
  rw [hrs, Bool.not_true, Bool.false_or, List.all_eq_true] at h
  have h2 := h j (List.mem_range.mpr hj)
  unfold remB at h2
  rw [Bool.and_eq_true, Bool.and_eq_true, decide_eq_true_eq, List.all_eq_true] at h2
  exact ⟨h2.1, h2.2.1, fun x hx => of_decide_eq_true (h2.2.2 x (List.mem_range.mpr hx))⟩
theorem dgt_lo : ∀ n, n < 10 → ∀ c, c < n → ∀ k, k < 3 → ∀ r, r < n ^ k → (dgt n (c * n ^ k + r) k = c ∧ ∀ x, x < k → dgt n (c * n ^ k + r) x = dgt n r x) := by decide +kernel
theorem dgt_0 {n P c : Nat} (hc : c < n) : dgt n (P * n + c) 0 = c := by
  unfold dgt
  rw [Nat.pow_zero, Nat.div_one, Nat.add_comm, Nat.add_mul_mod_self_right, Nat.mod_eq_of_lt hc]
theorem dgt_s {n P c j : Nat} (hc : c < n) : dgt n (P * n + c) (j + 1) = dgt n P j := by
  unfold dgt
  have : (P * n + c) / n = P := by
    rw [Nat.add_comm, Nat.add_mul_div_right _ _ (by omega), Nat.div_eq_of_lt hc, Nat.zero_add]
  rw [Nat.pow_succ, Nat.mul_comm (n ^ j) n, ← Nat.div_div_eq_div_mul, this]
theorem dgt_up {n code k j : Nat} : dgt n code (k + j) = dgt n (code / n ^ k) j := by
  unfold dgt
  rw [Nat.pow_add, Nat.div_div_eq_div_mul]
theorem rs_iff {n code : Nat} : ∀ {m : Nat}, rsC n code m = true ↔ ∀ j, j + 1 < m → dgt n code (j + 1) ≤ dgt n code j
  | 0 => by simp [rsC]
  | 1 => by simp [rsC]
  | k + 2 => by
    rw [rsC, Bool.and_eq_true, decide_eq_true_eq, rs_iff (m := k + 1)]
    constructor
    · rintro ⟨a, b⟩ j hj
      by_cases e : j = k
      · rw [e]; exact b
      · exact a j (by omega)
    · intro h
      exact ⟨fun j hj => h j (by omega), h k (by omega)⟩
theorem sk_s {n P c l : Nat} (hc : c < n) : ∀ x, skC n (P * n + c) (l + 1) x = skC n P l x + if c = x then 1 else 0 := by
  induction l with
  | zero =>
    intro x
    rw [skC_s, dgt_0 hc]
    rfl
  | succ l ih =>
    intro x
    rw [skC_s, ih x, dgt_s hc, skC_s]
    omega
theorem sk_up {n code k x : Nat} : ∀ l, skC n code (k + l) x = skC n code k x + skC n (code / n ^ k) l x
  | 0 => rfl
  | l + 1 => by
    show skC n code ((k + l) + 1) x = _
    rw [skC_s, sk_up l, skC_s, dgt_up]
    omega
theorem sk_pos {n code x : Nat} : ∀ {m : Nat}, 0 < skC n code m x → ∃ j, j < m ∧ dgt n code j = x
  | 0, h => absurd h (Nat.lt_irrefl 0)
  | m + 1, h => by
    rw [skC_s] at h
    by_cases e : dgt n code m = x
    · exact ⟨m, by omega, e⟩
    · rw [if_neg e] at h
      obtain ⟨j, a, b⟩ := sk_pos (m := m) (by omega)
      exact ⟨j, by omega, b⟩
section RM
variable {n : Nat} {q : Rq} {aim : Int32} {i : Nat}
/-- no row is reached by more than its limit, if no shorter one is -/
theorem no_more {m code : Nat} (h9 : n ≤ 9) (hm : m ≤ 3) (hlow : ∀ m', m' < m → ∀ code, code < n ^ m' → fiP n q aim i m' code = false) (hcd : code < n ^ m) (hT : fiP n q aim i m code = true) {x : Nat} (hx : x < n) : skC n code m x ≤ limK (q 0 x) := by
  refine Nat.le_of_not_lt fun hgt => ?_
  unfold fiP at hT
  rw [Bool.and_eq_true] at hT
  obtain ⟨j, hj, ej⟩ := sk_pos (n := n) (code := code) (x := x) (m := m) (by omega)
  rcases m with _ | m
  · omega
  · obtain ⟨a, b, c⟩ := rem_ok n (by omega) m (by omega) code hcd hT.1 j hj
    have := hlow m (by omega) _ a
    unfold fiP at this
    rw [b, Bool.true_and, rch_cap (sk' := skC n code (m + 1)) ?_, hT.2] at this
    · cases this
    · intro y hy
      have e := c y (by omega)
      rw [ej] at e
      by_cases e2 : x = y
      · subst e2
        rw [if_pos rfl] at e
        omega
      · rw [if_neg e2] at e
        rw [← e]
        rfl
/-- what the search finds -/
theorem cr_ok {m : Nat} (h9 : n ≤ 9) (hm : m ≤ 3) (hlow : ∀ m', m' < m → ∀ code, code < n ^ m' → fiP n q aim i m' code = false) : ∀ k l P first, l + k = m → P < n ^ l → rsC n P l = true → (l = 0 → first = 0) → (∀ l', l = l' + 1 → first = dgt n P 0) →
    (∀ r, crL n (fun c => limK (q 0 c)) (fun fl => rchB n q fl aim i) k first (skC n P l) = some r → r < n ^ k ∧ fiP n q aim i m (P * n ^ k + r) = true ∧ ∀ r', r' < r → fiP n q aim i m (P * n ^ k + r') = false) ∧
    (crL n (fun c => limK (q 0 c)) (fun fl => rchB n q fl aim i) k first (skC n P l) = none → ∀ r', r' < n ^ k → fiP n q aim i m (P * n ^ k + r') = false) := by
  intro k
  induction k with
  | zero =>
    intro l P first hl hP hrs hf0 hf1
    have hl : l = m := hl
    subst hl
    have eT : fiP n q aim i l (P * n ^ 0 + 0) = rchB n q (skC n P l) aim i := by
      unfold fiP
      rw [Nat.pow_zero, Nat.mul_one, Nat.add_zero, hrs, Bool.true_and]
    unfold crL
    constructor
    · intro r hr
      split at hr
      · rename_i h
        cases hr
        exact ⟨by simp, eT.trans h, fun r' h => absurd h (Nat.not_lt_zero r')⟩
      · cases hr
    · intro hr r' hr'
      have : r' = 0 := by rw [Nat.pow_zero] at hr'; omega
      subst this
      rw [eT]
      split at hr
      · cases hr
      · rename_i h
        exact Bool.eq_false_iff.mpr h
  | succ k ih =>
    intro l P first hl hP hrs hf0 hf1
    have code_eq : ∀ c r, P * n ^ (k + 1) + (c * n ^ k + r) = (P * n + c) * n ^ k + r := fun c r => by
      rw [Nat.pow_succ, Nat.add_mul, Nat.mul_assoc, Nat.mul_comm n (n ^ k)]
      omega
    have Pc_lt : ∀ c, c < n → P * n + c < n ^ (l + 1) := fun c hc => by
      rw [Nat.pow_succ]
      have : (P + 1) * n ≤ n ^ l * n := Nat.mul_le_mul_right n hP
      rw [Nat.add_mul] at this
      omega
    have all_lt : ∀ c r, c < n → r < n ^ k → (P * n + c) * n ^ k + r < n ^ m := fun c r hc hr => by
      have h1 := Pc_lt c hc
      have e : n ^ m = n ^ (l + 1) * n ^ k := by rw [← Nat.pow_add]; congr 1; omega
      rw [e]
      have : (P * n + c + 1) * n ^ k ≤ n ^ (l + 1) * n ^ k := Nat.mul_le_mul_right _ h1
      rw [Nat.add_mul] at this
      omega
    have div_eq : ∀ c r, r < n ^ k → ((P * n + c) * n ^ k + r) / n ^ k = P * n + c := fun c r hr => by
      rw [Nat.add_comm, Nat.add_mul_div_right _ _ (by omega), Nat.div_eq_of_lt hr, Nat.zero_add]
    have sk_eq : ∀ c, c < n → bmp (skC n P l) c = skC n (P * n + c) (l + 1) := fun c hc => funext fun x => (sk_s hc x).symm
    have rs_eq : ∀ c, c < n → first ≤ c → rsC n (P * n + c) (l + 1) = true := fun c hc hfc => by
      rw [rs_iff]
      intro j hj
      rw [dgt_s hc]
      rcases j with _ | j
      · rw [dgt_0 hc]
        rcases l with _ | l
        · omega
        · rw [← hf1 l rfl]
          exact hfc
      · rw [dgt_s hc]
        exact rs_iff.mp hrs j (by omega)
    -- those that are passed over
    have NO : ∀ c r, c < n → r < n ^ k → (¬ first ≤ c ∨ ¬ skC n P l c < limK (q 0 c)) → fiP n q aim i m ((P * n + c) * n ^ k + r) = false := by
      intro c r hc hr hno
      cases hT : fiP n q aim i m ((P * n + c) * n ^ k + r)
      · rfl
      · exfalso
        rcases hno with hno | hno
        · unfold fiP at hT
          rw [Bool.and_eq_true] at hT
          rcases l with _ | l
          · rw [hf0 rfl] at hno
            omega
          · have := rs_iff.mp hT.1 k (by omega)
            have d1 : dgt n ((P * n + c) * n ^ k + r) k = c := (dgt_up (k := k) (j := 0)).trans (by rw [div_eq c r hr, dgt_0 hc])
            have d2 : dgt n ((P * n + c) * n ^ k + r) (k + 1) = dgt n P 0 := (dgt_up (k := k) (j := 1)).trans (by rw [div_eq c r hr, dgt_s hc])
            rw [d1, d2, ← hf1 l rfl] at this
            exact hno this
        · have := no_more h9 hm hlow (all_lt c r hc hr) hT hc
          rw [show m = k + (l + 1) by omega, sk_up, div_eq c r hr, sk_s hc, if_pos rfl] at this
          omega
    have IH := fun c (hc : c < n) (hfc : first ≤ c) => ih (l + 1) (P * n + c) c (by omega) (Pc_lt c hc) (rs_eq c hc hfc) (fun y => by omega) (fun l' _ => (dgt_0 hc).symm)
    have pd : ∀ r, r < n ^ (k + 1) → r = r / n ^ k * n ^ k + r % n ^ k ∧ r / n ^ k < n ∧ r % n ^ k < n ^ k := fun r hr => by
      rw [Nat.pow_succ] at hr
      have hk0 : 0 < n ^ k := by
        rcases Nat.eq_zero_or_pos (n ^ k) with z | z
        · rw [z] at hr; omega
        · exact z
      refine ⟨by rw [Nat.mul_comm]; exact (Nat.div_add_mod r (n ^ k)).symm, ?_, Nat.mod_lt _ hk0⟩
      rw [Nat.div_lt_iff_lt_mul hk0, Nat.mul_comm]
      exact hr
    have e0 : crL n (fun c => limK (q 0 c)) (fun fl => rchB n q fl aim i) (k + 1) first (skC n P l) = (if fa_first (fun c => decide (first ≤ c) && (decide (skC n P l c < limK (q 0 c)) && (crL n (fun c => limK (q 0 c)) (fun fl => rchB n q fl aim i) k c (bmp (skC n P l) c)).isSome)) n < n then (crL n (fun c => limK (q 0 c)) (fun fl => rchB n q fl aim i) k (fa_first (fun c => decide (first ≤ c) && (decide (skC n P l c < limK (q 0 c)) && (crL n (fun c => limK (q 0 c)) (fun fl => rchB n q fl aim i) k c (bmp (skC n P l) c)).isSome)) n) (bmp (skC n P l) (fa_first (fun c => decide (first ≤ c) && (decide (skC n P l c < limK (q 0 c)) && (crL n (fun c => limK (q 0 c)) (fun fl => rchB n q fl aim i) k c (bmp (skC n P l) c)).isSome)) n))).map (fun r => fa_first (fun c => decide (first ≤ c) && (decide (skC n P l c < limK (q 0 c)) && (crL n (fun c => limK (q 0 c)) (fun fl => rchB n q fl aim i) k c (bmp (skC n P l) c)).isSome)) n * n ^ k + r) else none) := rfl
    rw [e0]
    obtain ⟨p, hp⟩ : ∃ p : Nat → Bool, (fun c => decide (first ≤ c) && (decide (skC n P l c < limK (q 0 c)) && (crL n (fun c => limK (q 0 c)) (fun fl => rchB n q fl aim i) k c (bmp (skC n P l) c)).isSome)) = p := ⟨_, rfl⟩
    have ep : ∀ c, p c = (decide (first ≤ c) && (decide (skC n P l c < limK (q 0 c)) && (crL n (fun c => limK (q 0 c)) (fun fl => rchB n q fl aim i) k c (bmp (skC n P l) c)).isSome)) := fun c => by rw [← hp]
    rw [hp]
    -- nothing where p is false
    have PF : ∀ c r, c < n → r < n ^ k → p c = false → fiP n q aim i m ((P * n + c) * n ^ k + r) = false := fun c r hc hr hpc => by
      by_cases h1 : first ≤ c
      · by_cases h2 : skC n P l c < limK (q 0 c)
        · rw [ep] at hpc
          simp only [h1, h2, decide_true, Bool.true_and] at hpc
          have hnone := Option.isSome_eq_false_iff.mp hpc
          rw [sk_eq c hc] at hnone
          exact (IH c hc h1).2 (Option.isNone_iff_eq_none.mp hnone) r hr
        · exact NO c r hc hr (Or.inr h2)
      · exact NO c r hc hr (Or.inl h1)
    by_cases hfi : fa_first p n < n
    · rw [if_pos hfi]
      have hyes := fa_first_yes p n hfi
      obtain ⟨c0, hc0⟩ : ∃ c, fa_first p n = c := ⟨_, rfl⟩
      rw [hc0] at hfi hyes ⊢
      rw [ep] at hyes
      simp only [Bool.and_eq_true, decide_eq_true_eq] at hyes
      obtain ⟨r0, hr0⟩ := Option.isSome_iff_exists.mp hyes.2.2
      have hr0' := hr0
      rw [sk_eq c0 hfi] at hr0'
      obtain ⟨a1, a2, a3⟩ := (IH c0 hfi hyes.1).1 r0 hr0'
      rw [hr0]
      constructor
      · intro r hr
        have hr : c0 * n ^ k + r0 = r := Option.some.inj hr
        subst hr
        refine ⟨?_, by rw [code_eq]; exact a2, fun r' hr' => ?_⟩
        · rw [Nat.pow_succ]
          have : (c0 + 1) * n ^ k ≤ n * n ^ k := Nat.mul_le_mul_right _ hfi
          rw [Nat.add_mul, Nat.mul_comm n] at this
          omega
        · have hlt : r' < n ^ (k + 1) := by
            rw [Nat.pow_succ]
            have : (c0 + 1) * n ^ k ≤ n * n ^ k := Nat.mul_le_mul_right _ hfi
            rw [Nat.add_mul, Nat.mul_comm n] at this
            omega
          obtain ⟨b1, b2, b3⟩ := pd r' hlt
          obtain ⟨V, hV⟩ : ∃ V, r' / n ^ k = V := ⟨_, rfl⟩
          obtain ⟨W, hW⟩ : ∃ W, r' % n ^ k = W := ⟨_, rfl⟩
          rw [hV, hW] at b1
          rw [hV] at b2
          rw [hW] at b3
          rw [b1, code_eq]
          by_cases e : V = c0
          · rw [e]
            refine a3 _ ?_
            rw [e] at b1
            omega
          · have hlt2 : V < c0 := by
              refine Nat.lt_of_le_of_ne (Nat.le_of_not_lt fun y => ?_) e
              have : (c0 + 1) * n ^ k ≤ V * n ^ k := Nat.mul_le_mul_right _ y
              rw [Nat.add_mul] at this
              omega
            exact PF _ _ b2 b3 (fa_first_no p n _ (by rw [hc0]; exact hlt2))
      · intro hr
        cases hr
    · rw [if_neg hfi]
      constructor
      · intro r hr
        cases hr
      · intro _ r' hr'
        obtain ⟨b1, b2, b3⟩ := pd r' hr'
        rw [b1, code_eq]
        refine PF _ _ b2 b3 (fa_first_no p n _ ?_)
        have := fa_first_le p n
        omega
/-- at the level of the reference -/
theorem cr_lev {m : Nat} (h9 : n ≤ 9) (hm : m ≤ 3) (hlow : ∀ m', m' < m → ¬ lev n q aim i m' < n ^ m') : crL n (fun c => limK (q 0 c)) (fun fl => rchB n q fl aim i) m 0 (fun _ => 0) = if lev n q aim i m < n ^ m then some (lev n q aim i m) else none := by
  have hl2 : ∀ m', m' < m → ∀ code, code < n ^ m' → fiP n q aim i m' code = false := fun m' h1 code h2 => by
    have := hlow m' h1
    unfold lev at this
    refine fa_first_no _ (n ^ m') code ?_
    have := fa_first_le (fiP n q aim i m') (n ^ m')
    omega
  have H := cr_ok h9 hm hl2 m 0 0 0 (by omega) (by simp) rfl (fun _ => rfl) (fun l' y => by omega)
  have e : (skC n 0 0) = (fun _ => 0) := rfl
  rw [e] at H
  simp only [Nat.zero_mul, Nat.zero_add] at H
  unfold lev
  cases hc : crL n (fun c => limK (q 0 c)) (fun fl => rchB n q fl aim i) m 0 (fun _ => 0) with
  | none =>
    have := H.2 hc
    rw [first_N this, if_neg (Nat.lt_irrefl _)]
  | some r =>
    obtain ⟨a, b, c⟩ := H.1 r hc
    rw [first_eq a b c, if_pos a]
end RM
