/-! the class: small methods -/
def x_fi (F : Nat → Nat → Int32) (w : Nat) : Nat → Nat → Int32 := up2 (up2 F 2 9 (nI w)) 33 w (F 33 w + 1)
def x_te (F : Nat → Nat → Int32) (v : Int32) : Nat → Nat → Int32 := up2 F 2 10 v
theorem lt_in {i : Int32} {n : Nat} (h : n < 2 ^ 31) : (0 ≤ i ∧ i < nI n) ↔ (0 ≤ i ∧ i ≤ nI n - 1) := by
  constructor
  · rintro ⟨h0, h1⟩
    obtain ⟨j, hj, rfl⟩ := lt_nI h h0 h1
    refine ⟨h0, ?_⟩
    rcases n with _ | n
    · omega
    · rw [nI_pred]
      exact (nI_leI (by omega) (by omega)).mpr (by omega)
  · intro z
    obtain ⟨p, hp, rfl⟩ := pl_of h z
    exact ⟨z.1, (nI_ltI (by omega) h).mpr hp⟩
theorem set_in {S : Int32} {n : Nat} (h9 : n ≤ 9) : (0 ≤ S ∧ S < (1 : Int32) <<< (nI n &&& 31)) ↔ (0 ≤ S ∧ S ≤ (1 : Int32) <<< (nI n &&& 31) - 1) := by
  have hp9 := pw9 h9
  rw [shl1 (by omega)]
  exact lt_in (by omega)
section XB
variable {d L s : Nat} {xs : Nat → Int32} {J : Nat → Int64} {F : Nat → Nat → Int32} {K : mm_K} {h : mm_H}
theorem x_within {v b : Int32} (hk : K (some (.int (b2i (0 ≤ v ∧ v < b)))) h) : mm_call mm_Ex d k_X5_within [.int v, .int b] h K := by
  have J8 : ∀ x, x = b2i (0 ≤ v ∧ v < b) → mm_Ex d k_X5_within 8 (0, 0) [.int v, .int b] [.int x] h K := fun x e => by
    refine mm_run 5 ⟨?_, ?_⟩
    · rw [e]; exact b2i_01
    · rw [e]; exact hk
  have J7 : ¬ (0 ≤ v ∧ v < b) → mm_Ex d k_X5_within 7 (0, 0) [.int v, .int b] [] h K := fun q => mm_run 5 (J8 0 (b2i_f q).symm)
  refine mm_run 50 (And.intro (fun c => J7 fun q => Int32.not_le.mpr c q.1) (fun c => And.intro (fun c2 => J7 fun q => Int32.not_lt.mpr c2 q.2) (fun c2 => J8 1 (b2i_t ⟨Int32.not_lt.mp c, Int32.not_le.mp c2⟩).symm)))
theorem x_holds {x y : Int32} (hk : K (some (.int (b2i ((x >>> (y &&& 31)) &&& 1 = 1)))) h) : mm_call mm_Ex d k_X5_holds [.int x, .int y] h K := by
  refine mm_run 50 (And.intro (fun c => ?_) (fun c => ?_))
  · refine mm_run 5 ⟨Or.inl rfl, ?_⟩
    rw [b2i_f c] at hk
    exact hk
  · refine mm_run 5 ⟨Or.inr rfl, ?_⟩
    rw [b2i_t c] at hk
    exact hk
theorem x_holdsN {x k : Nat} (hk31 : k < 31) (hk : K (some (.int (b2i (x.testBit k = true)))) h) : mm_call mm_Ex d k_X5_holds [.int (nI x), .int (nI k)] h K := by
  refine x_holds ?_
  rw [b2i_c (hasI hk31)]
  exact hk
theorem x_isOfKind {a b : Int32} (hk : K (some (.int (b2i (isOfB a b = true)))) h) : mm_call mm_Ex d k_X5_isOfKind [.int a, .int b] h K := by
  have J18 : ∀ x, x = b2i (isOfB a b = true) → mm_Ex d k_X5_isOfKind 18 (0, 0) [.int a, .int b] [.int x] h K := fun x e => by
    refine mm_run 5 ⟨?_, ?_⟩
    · rw [e]; exact b2i_01
    · rw [e]; exact hk
  have J15 : isOfB a b = true → mm_Ex d k_X5_isOfKind 15 (0, 0) [.int a, .int b] [] h K := fun q => mm_run 5 (J18 1 (b2i_t q).symm)
  have J17 : ¬ isOfB a b = true → mm_Ex d k_X5_isOfKind 17 (0, 0) [.int a, .int b] [] h K := fun q => mm_run 5 (J18 0 (b2i_f q).symm)
  have J9 : ¬ a = b → ¬ (a = 4 ∧ b = 1) → mm_Ex d k_X5_isOfKind 9 (0, 0) [.int a, .int b] [] h K := fun q1 q2 => by
    refine mm_run 50 (And.intro (fun c => J17 ?_) (fun c => And.intro (fun c2 => J17 ?_) (fun c2 => J15 ?_)))
    · unfold isOfB
      simp only [Bool.or_eq_true, Bool.and_eq_true, decide_eq_true_eq]
      exact fun z => z.elim q1 (fun z => z.elim (fun z => q2 ⟨z.2, z.1⟩) (fun z => c z.2))
    · unfold isOfB
      simp only [Bool.or_eq_true, Bool.and_eq_true, decide_eq_true_eq]
      exact fun z => z.elim q1 (fun z => z.elim (fun z => q2 ⟨z.2, z.1⟩) (fun z => c2 z.1))
    · unfold isOfB
      simp [c, c2]
  refine mm_run 50 (And.intro (fun c => J15 ?_) (fun c => And.intro (fun c2 => J9 c fun z => c2 z.1) (fun c2 => And.intro (fun c3 => J15 ?_) (fun c3 => J9 c fun z => c3 z.2))))
  · unfold isOfB
    simp [c]
  · unfold isOfB
    simp [c2, c3]
theorem x_refuse {w : Nat} (hw : w < 6) (hk : K (some (.int (-3))) (hH L xs J s (x_fi F w))) : mm_call mm_Ex d k_X5_refuse [.ref 2, .int (nI w)] (hH L xs J s F) K := by
  have hv : vp_in (nI w) 6 := vp_in_nI hw (by decide)
  refine mm_run 50 ⟨hv, hv, ?_⟩
  have e : (nI w).toNatClampNeg = w := nI_clamp (by omega)
  rw [e]
  exact kh (hp2 (g := upd (F 2) 9 (nI w)) (g2 := upd (F 33) w (F 33 w + 1)) rfl rfl) hk
theorem x_tell {v : Int32} (hk : K (some (.int 1)) (hH L xs J s (x_te F v))) : mm_call mm_Ex d k_X5_tell [.ref 2, .int v] (hH L xs J s F) K := by
  refine mm_run 50 ?_
  exact kh (hp1 (g := upd (F 2) 10 v) rfl) hk
def bcV (x : Int32) : Int32 :=
  let a := x - ((x.toUInt32 >>> ((1 : Int32).toUInt32 &&& Int32.toUInt32 31)).toInt32 &&& 1431655765)
  let b := (a &&& 858993459) + ((a.toUInt32 >>> ((2 : Int32).toUInt32 &&& Int32.toUInt32 31)).toInt32 &&& 858993459)
  let c := (b + (b.toUInt32 >>> ((4 : Int32).toUInt32 &&& Int32.toUInt32 31)).toInt32) &&& 252645135
  let e := c + (c.toUInt32 >>> ((8 : Int32).toUInt32 &&& Int32.toUInt32 31)).toInt32
  let f := e + (e.toUInt32 >>> ((16 : Int32).toUInt32 &&& Int32.toUInt32 31)).toInt32
  f &&& 63
theorem bc_512 : ∀ x, x < 512 → bcV (nI x) = nI (oneN x) := by decide +kernel
theorem x_bitCount {x : Nat} (hx : x < 512) (hk : K (some (.int (nI (oneN x)))) h) : mm_call mm_Ex d k_J6_bitCount_0f7a4 [.int (nI x)] h K := by
  rw [← bc_512 x hx] at hk
  exact mm_run 60 hk
end XB
/-! the two sides: cells below 75 of one, others of the other -/
def cm (X M : Nat → Nat → Int32) : Nat → Nat → Int32 := fun k => bif Nat.blt k 75 then X k else M k
theorem cm_lo {X M : Nat → Nat → Int32} {k : Nat} (h : k < 75) : cm X M k = X k := by
  unfold cm
  have : Nat.blt k 75 = true := Nat.ble_eq.mpr h
  rw [this]
  rfl
theorem cm_hi {X M : Nat → Nat → Int32} {k : Nat} (h : 75 ≤ k) : cm X M k = M k := by
  unfold cm
  have : Nat.blt k 75 = false := by
    cases hb : Nat.blt k 75
    · rfl
    · have : k < 75 := Nat.ble_eq.mp hb
      omega
  rw [this]
  rfl
theorem cm_up {X M : Nat → Nat → Int32} {k : Nat} {g : Nat → Int32} (h : 75 ≤ k) : upF (cm X M) k g = cm X (upF M k g) := by
  funext a
  by_cases e : a = k
  · subst e
    rw [cm_hi h]
    show (if a = a then g else _) = (if a = a then g else _)
    rw [if_pos rfl, if_pos rfl]
  · by_cases h2 : a < 75
    · rw [cm_lo h2]
      simp only [upF, if_neg e]
      exact cm_lo h2
    · rw [cm_hi (by omega)]
      simp only [upF, if_neg e]
      exact cm_hi (by omega)
theorem cm_up2 {X M : Nat → Nat → Int32} {k j : Nat} {x : Int32} (h : 75 ≤ k) : up2 (cm X M) k j x = cm X (up2 M k j x) := by
  unfold up2
  rw [cm_hi h, cm_up h]
theorem cm_mq {X M : Nat → Nat → Int32} : mq (cm X M) = mq M := mq_c fun k h1 h2 => cm_hi (by omega)
theorem cm_fi {X M : Nat → Nat → Int32} {w : Nat} : S_fi (cm X M) w = cm X (S_fi M w) := by
  unfold S_fi
  rw [cm_up2 (by decide), cm_hi (by decide), cm_up2 (by decide)]
theorem cm_te {X M : Nat → Nat → Int32} {v : Int32} : S_te (cm X M) v = cm X (S_te M v) := cm_up2 (by decide)
