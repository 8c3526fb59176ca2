/-! the reference: its court -/
def mq (F : Nat → Nat → Int32) : Rq
  | 0 => F 82
  | 1 => F 83
  | 2 => F 84
  | 3 => F 85
  | 4 => F 86
  | 5 => F 87
  | _ => fun _ => 0
/-- the court does not depend on other cells -/
theorem mq_c {F F' : Nat → Nat → Int32} (h : ∀ k, 82 ≤ k → k ≤ 87 → F k = F' k) : mq F = mq F' := by
  funext w
  rcases w with _ | _ | _ | _ | _ | _ | w
  · exact h 82 (by decide) (by decide)
  · exact h 83 (by decide) (by decide)
  · exact h 84 (by decide) (by decide)
  · exact h 85 (by decide) (by decide)
  · exact h 86 (by decide) (by decide)
  · exact h 87 (by decide) (by decide)
  · rfl
theorem mq_up {F : Nat → Nat → Int32} {k : Nat} {g : Nat → Int32} (h : k < 82 ∨ 87 < k) : mq (upF F k g) = mq F := mq_c fun a h1 h2 => by
  simp only [upF]
  rw [if_neg (by omega)]
def Cw (n : Nat) (q : Rq) : Prop := n ≤ 9 ∧ ∀ i, i < n → (∃ k, k ≤ 5 ∧ q 0 i = nI k) ∧ (∃ d, d ≤ 9 ∧ q 1 i = nI d) ∧ (q 2 i = 0 ∨ q 2 i = 1) ∧ ((q 3 i = -9 ∧ q 4 i = 0) ∨ ∃ j, j < i ∧ q 3 i = nI j ∧ (q 4 i = 1 ∨ q 4 i = -1) ∧ q 1 j < q 1 i) ∧ ∃ m, m < 32 ∧ q 5 i = nI m
theorem b2i_c {a b : Prop} [Decidable a] [Decidable b] (h : a ↔ b) : b2i a = b2i b := by
  unfold b2i
  simp only [h]
theorem nle0 {n : Nat} (h : n < 2 ^ 31) : 0 ≤ nI n := nI_pos' h
/-- a ruling's number -/
theorem isRu_of {i : Int32} {n : Nat} (hn : n ≤ 9) (c : ¬ b2i (0 ≤ i ∧ i ≤ nI n - 1) = 0) : ∃ j, j < n ∧ i = nI j := pl_of (by omega) (not_not_b c)
def citeN (n : Nat) (q : Rq) (i way : Int32) : Nat := fa_cnt (fun j => decide (q 3 j = i) && (decide (way = 0) || decide (q 4 j = way))) n
def toldV (n : Nat) (q : Rq) (i what : Int32) : Int32 := if what = 0 then q 0 i.toNatClampNeg else if what = 1 then q 1 i.toNatClampNeg else if what = 2 then q 2 i.toNatClampNeg else if what = 3 then q 3 i.toNatClampNeg else if what = 4 then q 4 i.toNatClampNeg else if what = 5 then q 5 i.toNatClampNeg else nI (citeN n q i 0)
def isOfB (its kind : Int32) : Bool := decide (its = kind) || ((decide (kind = 1) && decide (its = 4)) || (decide (kind = 2) && decide (its = 5)))
def depN (q : Rq) : Nat → Int32 → Nat
  | 0, _ => 0
  | f + 1, c => if c = -9 then 0 else depN q f (q 3 c.toNatClampNeg) + 1
def dayN (n : Nat) (q : Rq) (i : Nat) : Nat := fa_cnt (fun j => !decide (j = i) && decide (q 1 j = q 1 i)) n
section MK
variable {d L s : Nat} {xs : Nat → Int32} {J : Nat → Int64} {F : Nat → Nat → Int32} {K : mm_K} {h : mm_H} {n : Nat}
theorem s_has {x y : Int32} (hk : K (some (.int (b2i ((x >>> (y &&& 31)) &&& 1 = 1)))) h) : mm_call mm_Ex d k_X6_has [.int x, .int y] h K := by
  have JJ : ∀ v, v = b2i ((x >>> (y &&& 31)) &&& 1 = 1) → mm_Ex d k_X6_has 10 (0, 0) [.int x, .int y] [.int v] h K := fun v e => by
    refine mm_run 5 ⟨?_, ?_⟩
    · rw [e]; exact b2i_01
    · rw [e]; exact hk
  exact mm_run 50 (And.intro (fun c => JJ 0 (b2i_f c).symm) (fun c => JJ 1 (b2i_t c).symm))
theorem s_hasN {x k : Nat} (hk31 : k < 31) (hk : K (some (.int (b2i (x.testBit k = true)))) h) : mm_call mm_Ex d k_X6_has [.int (nI x), .int (nI k)] h K := by
  refine s_has ?_
  rw [b2i_c (hasI hk31)]
  exact hk
theorem s_isRuling {i : Int32} (hk : K (some (.int (b2i (0 ≤ i ∧ i ≤ F 75 10 - 1)))) (hH L xs J s F)) : mm_call mm_Ex (d + 1) k_X6_isRuling [.ref 75, .int i] (hH L xs J s F) K :=
  mm_run 50 (s_in ⟨b2i_01, hk⟩)
theorem s_isSet {i : Int32} (hk : K (some (.int (b2i (0 ≤ i ∧ i ≤ (1 : Int32) <<< (F 75 10 &&& 31) - 1)))) (hH L xs J s F)) : mm_call mm_Ex (d + 1) k_X6_isSet [.ref 75, .int i] (hH L xs J s F) K :=
  mm_run 50 (s_in ⟨b2i_01, hk⟩)
theorem s_isOf {a b : Int32} (hk : K (some (.int (b2i (isOfB a b = true)))) h) : mm_call mm_Ex d k_X6_isOf [.int a, .int b] h K := by
  have JJ : ∀ v, v = b2i (isOfB a b = true) → mm_Ex d k_X6_isOf 18 (0, 0) [.int a, .int b] [.int v] h K := fun v e => by
    refine mm_run 5 ⟨?_, ?_⟩
    · rw [e]; exact b2i_01
    · rw [e]; exact hk
  have J1 : isOfB a b = true → mm_Ex d k_X6_isOf 15 (0, 0) [.int a, .int b] [] h K := fun c => mm_run 5 (JJ 1 (b2i_t c).symm)
  have J0 : ¬ isOfB a b = true → mm_Ex d k_X6_isOf 17 (0, 0) [.int a, .int b] [] h K := fun c => mm_run 5 (JJ 0 (b2i_f c).symm)
  have J9 : ¬ a = b → ¬ (b = 1 ∧ a = 4) → mm_Ex d k_X6_isOf 9 (0, 0) [.int a, .int b] [] h K := fun c1 c2 => by
    refine mm_run 50 (And.intro (fun c => J0 ?_) (fun c => And.intro (fun c3 => J0 ?_) (fun c3 => J1 ?_)))
    · simp [isOfB, c1, c]
      exact fun x y => c2 ⟨x, y⟩
    · simp [isOfB, c1, c3]
      exact fun x y => c2 ⟨x, y⟩
    · simp [isOfB, c, c3]
  refine mm_run 50 (And.intro (fun c => J1 ?_) (fun c => And.intro (fun c2 => J9 c (fun z => c2 z.1)) (fun c2 => And.intro (fun c3 => J1 ?_) (fun c3 => J9 c (fun z => c3 z.2)))))
  · simp [isOfB, c]
  · simp [isOfB, c2, c3]
theorem s_citing (hn : F 75 10 = nI n) (h9 : n ≤ 9) {i way : Int32} (hk : K (some (.int (nI (citeN n (mq F) i way)))) (hH L xs J s F)) : mm_call mm_Ex d k_X6_citing [.ref 75, .int i, .int way] (hH L xs J s F) K := by
  refine mm_run 50 (lp (n := n) (P := fun j => ∀ x a, x = nI j → a = nI (citeN j (mq F) i way) → mm_Ex d k_X6_citing 4 (0, 0) [.ref 75, .int i, .int way, .int a, .int x] [] (hH L xs J s F) K) ?_ ?_ 0 0 rfl rfl)
  · intro x a hx ha
    subst hx ha
    refine mm_run 50 (And.intro (fun _ => hk) (fun c => ?_))
    rw [hn] at c
    exact absurd ((nI_leI (by omega) (by omega)).mpr (Nat.le_refl n)) c
  · intro j hj ih x a hx ha
    subst hx ha
    have ej : (nI j).toNatClampNeg = j := tn_nI (by omega)
    have JJ : ∀ v, v = b2i ((decide (mq F 3 j = i) && (decide (way = 0) || decide (mq F 4 j = way))) = true) → mm_Ex d k_X6_citing 26 (0, 0) [.ref 75, .int i, .int way, .int (nI (citeN j (mq F) i way)), .int (nI j)] [.int v, .int (nI (citeN j (mq F) i way))] (hH L xs J s F) K := fun v e => by
      subst e
      refine mm_run 50 (ih _ _ (nI_1 j) ?_)
      unfold b2i citeN
      rw [fa_cnt]
      split
      · exact nI_1 _
      · exact Int32.add_zero _
    have J1 : (decide (mq F 3 j = i) && (decide (way = 0) || decide (mq F 4 j = way))) = true → mm_Ex d k_X6_citing 23 (0, 0) [.ref 75, .int i, .int way, .int (nI (citeN j (mq F) i way)), .int (nI j)] [.int (nI (citeN j (mq F) i way))] (hH L xs J s F) K := fun c => mm_run 5 (JJ 1 (b2i_t c).symm)
    have J0 : ¬ (decide (mq F 3 j = i) && (decide (way = 0) || decide (mq F 4 j = way))) = true → mm_Ex d k_X6_citing 25 (0, 0) [.ref 75, .int i, .int way, .int (nI (citeN j (mq F) i way)), .int (nI j)] [.int (nI (citeN j (mq F) i way))] (hH L xs J s F) K := fun c => mm_run 5 (JJ 0 (b2i_f c).symm)
    have hv : vp_in (nI j) 9 := vp_in_nI (by omega) (by decide)
    refine mm_run 50 (And.intro (fun c => ?_) (fun c => ⟨hv, And.intro (fun c1 => J0 ?_) (fun c1 => And.intro (fun c2 => J1 ?_) (fun c2 => ⟨hv, And.intro (fun c3 => J0 ?_) (fun c3 => J1 ?_)⟩))⟩))
    · rw [hn] at c
      exact absurd c (nleI hj (by omega))
    · rw [ej] at c1
      have c1 : ¬ mq F 3 j = i := c1
      simp [c1]
    · rw [ej] at c1
      have c1 : mq F 3 j = i := c1
      simp [c1, c2]
    · rw [ej] at c1 c3
      have c3 : ¬ mq F 4 j = way := c3
      simp [c2, c3]
    · rw [ej] at c1 c3
      have c1 : mq F 3 j = i := c1
      have c3 : mq F 4 j = way := c3
      simp [c1, c3]
end MK
