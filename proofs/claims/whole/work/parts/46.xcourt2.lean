/-! the class: the court, verdicts -/
theorem and_dist (a m c : Nat) : a &&& m &&& c = (a &&& c) &&& (m &&& c) := by
  apply Nat.eq_of_testBit_eq
  intro i
  simp only [Nat.testBit_and]
  cases a.testBit i <;> cases m.testBit i <;> cases c.testBit i <;> rfl
theorem xor_dist (a m c : Nat) : (a ^^^ m) &&& c = (a &&& c) ^^^ (m &&& c) := by
  apply Nat.eq_of_testBit_eq
  intro i
  simp only [Nat.testBit_and, Nat.testBit_xor]
  cases a.testBit i <;> cases m.testBit i <;> cases c.testBit i <;> rfl
section XCv
variable {d L s : Nat} {xs : Nat → Int32} {J : Nat → Int64} {F : Nat → Nat → Int32} {K : mm_K} {h : mm_H} {n : Nat} {q : Rq}
theorem x_likeness (hc : CC F n q) {i m c : Nat} (hi : i < n) (hcl : c < 32) (hk : K (some (.int (lkV q m c i))) (hH L xs J s F)) : mm_call mm_Ex (d + 1) k_X1_likeness [.ref 5, .int (nI i), .int (nI m), .int (nI c)] (hH L xs J s F) K := by
  have h9 := hc.2.1.1
  have ei : (nI i).toNatClampNeg = i := tn_nI (by omega)
  obtain ⟨a, ha, ea⟩ := (hc.2.1.2 i hi).2.2.2.2
  have e5 : F 11 i = nI a := (hc.2.2 5 (by decide) i hi).trans ea
  have hv : vp_in (nI i) 9 := vp_in_nI (by omega) (by decide)
  unfold lkV likeV at hk
  rw [ea, tn_nI (by omega), ← and_dist, ← xor_dist] at hk
  have h1 : a &&& m &&& c < 512 := Nat.lt_of_le_of_lt Nat.and_le_right (by omega)
  have h2 : (a ^^^ m) &&& c < 512 := Nat.lt_of_le_of_lt Nat.and_le_right (by omega)
  refine mm_run 60 ⟨hv, hv, ?_⟩
  show mm_call mm_Ex d k_J6_bitCount_0f7a4 [.int (F 11 (nI i).toNatClampNeg &&& nI m &&& nI c)] _ _
  rw [ei, e5, fa_and, fa_and]
  refine x_bitCount h1 ?_
  show mm_call mm_Ex d k_J6_bitCount_0f7a4 [.int ((nI a ^^^ nI m) &&& nI c)] _ _
  rw [xorI, fa_and]
  exact x_bitCount h2 hk
theorem x_decide (hc : CC F n q) {m S c : Nat} (hcl : c < 32) (hk : K (some (.int (verV n q m S c))) (hH L xs J s F)) : mm_call mm_Ex (d + 2) k_X1_decide [.ref 5, .int (nI m), .int (nI S), .int (nI c)] (hH L xs J s F) K := by
  have h9 := hc.2.1.1
  refine mm_run 60 (lp (n := n) (P := fun i => ∀ (x a b : Int32) (w7 : Value) (w8 : Value), x = nI i → a = oI (bestV q m S c i) → (∀ j, bestV q m S c i = some j → b = lkV q m c j) → mm_Ex (d + 2) k_X1_decide 6 (0, 0) [.ref 5, .int (nI m), .int (nI S), .int (nI c), .int a, .int b, .int x, w7, w8] [] (hH L xs J s F) K) ?_ ?_ _ _ _ _ _ rfl rfl (fun j hj => by cases hj))
  · intro x a b w7 w8 hx ha hb
    subst hx
    unfold verV at hk
    refine mm_run 60 (And.intro (fun _ => x_has5 ?_) (fun z => absurd hc.ge z))
    rw [hc.1]
    cases hbv : bestV q m S c n with
    | none =>
      rw [hbv] at hk ha
      have ha : a = -9 := ha
      refine And.intro (fun _ => mm_run 5 hk) (fun z => absurd (b2i_p z).1 (by rw [ha]; decide))
    | some j =>
      rw [hbv] at hk ha
      have hjl := bestV_lt hbv
      have ha : a = nI j := ha
      subst ha
      refine And.intro (fun z => absurd ⟨nle0 (by omega), (nI_ltI (by omega) (by omega)).mpr hjl⟩ (b2i_0.mp z)) (fun _ => ⟨vp_in_nI (by omega) (by decide), mm_run 5 ?_⟩)
      have e2 : F 8 j = q 2 j := hc.2.2 2 (by decide) j hjl
      rw [tn_nI (by omega)]
      show K (some (.int (F 8 j))) _
      rw [e2]
      exact hk
  · intro i hi ih x a b w7 w8 hx ha hb
    subst hx
    have ei : (nI i).toNatClampNeg = i := tn_nI (by omega)
    have hv : vp_in (nI i) 9 := vp_in_nI (by omega) (by decide)
    have J47 : ∀ (a b : Int32) (w7 w8 : Value), a = oI (bestV q m S c (i + 1)) → (∀ j, bestV q m S c (i + 1) = some j → b = lkV q m c j) → mm_Ex (d + 2) k_X1_decide 47 (0, 0) [.ref 5, .int (nI m), .int (nI S), .int (nI c), .int a, .int b, .int (nI i), w7, w8] [] (hH L xs J s F) K := fun a b w7 w8 h1 h2 => mm_run 60 (ih _ _ _ _ _ (nI_1 i) h1 h2)
    refine mm_run 60 (And.intro (fun z => absurd z (hc.lt hi)) (fun _ => x_holdsN (by omega) (And.intro (fun z => J47 _ _ _ _ ?_ ?_) (fun z => x_likeness hc hi hcl ?_))))
    · rw [b2i_0] at z
      rw [ha, bestV, if_neg z]
    · rw [b2i_0] at z
      rw [bestV, if_neg z]
      exact hb
    · have z := b2i_p z
      have J40 : ∀ (y : Int32) (w8 : Value), (y = 0 → bestV q m S c (i + 1) = bestV q m S c i) → (¬ y = 0 → bestV q m S c (i + 1) = some i) → mm_Ex (d + 2) k_X1_decide 40 (0, 0) [.ref 5, .int (nI m), .int (nI S), .int (nI c), .int a, .int b, .int (nI i), .int (lkV q m c i), w8] [.int y] (hH L xs J s F) K := fun y w8 h0 h1 => by
        refine mm_run 60 (And.intro (fun z => J47 _ _ _ _ ?_ ?_) (fun z => J47 _ _ _ _ ?_ ?_))
        · rw [h0 z]
          exact ha
        · rw [h0 z]
          exact hb
        · rw [h1 z]
          rfl
        · rw [h1 z]
          intro j hj
          cases hj
          rfl
      have J37 : ∀ (w8 : Value), bestV q m S c (i + 1) = some i → mm_Ex (d + 2) k_X1_decide 37 (0, 0) [.ref 5, .int (nI m), .int (nI S), .int (nI c), .int a, .int b, .int (nI i), .int (lkV q m c i), w8] [] (hH L xs J s F) K := fun w8 e => mm_run 5 (J40 1 _ (fun z => absurd z (by decide)) (fun _ => e))
      have J39 : ∀ (w8 : Value), bestV q m S c (i + 1) = bestV q m S c i → mm_Ex (d + 2) k_X1_decide 39 (0, 0) [.ref 5, .int (nI m), .int (nI S), .int (nI c), .int a, .int b, .int (nI i), .int (lkV q m c i), w8] [] (hH L xs J s F) K := fun w8 e => mm_run 5 (J40 0 _ (fun _ => e) (fun z => absurd rfl z))
      cases hbv : bestV q m S c i with
      | none =>
        rw [hbv] at ha
        have ha : a = -9 := ha
        refine And.intro (fun _ => J37 _ (by rw [bestV, if_pos z, hbv])) (fun y => absurd ?_ y)
        rw [ha]
        decide
      | some j =>
        have eb := hb j hbv
        rw [hbv] at ha
        have hjl := bestV_lt hbv
        have ha : a = nI j := ha
        subst ha eb
        have ej : (nI j).toNatClampNeg = j := tn_nI (by omega)
        have d1 : F 7 i = q 1 i := hc.2.2 1 (by decide) i hi
        have d2 : F 7 j = q 1 j := hc.2.2 1 (by decide) j (by omega)
        have e1 : bestV q m S c (i + 1) = if lkV q m c j < lkV q m c i ∨ (lkV q m c i = lkV q m c j ∧ q 1 j ≤ q 1 i) then some i else some j := by rw [bestV, if_pos z, hbv]
        refine And.intro (fun y => absurd y (nI_pos (by omega))) (fun _ => And.intro (fun g1 => J37 _ ?_) (fun g1 => And.intro (fun g2 => J39 _ ?_) (fun g2 => ⟨hv, vp_in_nI (by omega) (by decide), And.intro (fun g3 => J39 _ ?_) (fun g3 => J37 _ ?_)⟩)))
        · rw [e1, if_pos (Or.inl g1)]
        · rw [e1, if_neg (fun y => y.elim g1 (fun y => g2 y.1)), hbv]
        · rw [ei, ej] at g3
          have g3 : q 1 i < q 1 j := by rw [← d1, ← d2]; exact g3
          rw [e1, if_neg (fun y => y.elim g1 (fun y => Int32.not_le.mpr g3 y.2)), hbv]
        · rw [ei, ej] at g3
          have g3 : ¬ q 1 i < q 1 j := by rw [← d1, ← d2]; exact g3
          rw [e1, if_pos (Or.inr ⟨g2, Int32.not_lt.mp g3⟩)]
end XCv
