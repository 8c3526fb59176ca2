/-! the class: the court -/
def CC (F : Nat → Nat → Int32) (n : Nat) (q : Rq) : Prop := F 5 6 = nI n ∧ Cw n q ∧ ∀ w, w < 6 → ∀ i, i < n → F (6 + w) i = q w i
theorem XRc.cc {F M : Nat → Nat → Int32} (h : XRc F M) {n : Nat} (hn : M 75 10 = nI n) (hc : Cw n (mq M)) : CC F n (mq M) := by
  obtain ⟨m, m9, e1, e2, e3⟩ := h.2.2.1
  have h9 := hc.1
  have e : m = n := (nI_eq (by omega) (by omega)).mp (e2.symm.trans hn)
  subst e
  refine ⟨e1, hc, fun w hw i hi => ?_⟩
  match w, hw with
  | 0, _ => exact e3 0 (by decide) i hi
  | 1, _ => exact e3 1 (by decide) i hi
  | 2, _ => exact e3 2 (by decide) i hi
  | 3, _ => exact e3 3 (by decide) i hi
  | 4, _ => exact e3 4 (by decide) i hi
  | 5, _ => exact e3 5 (by decide) i hi
section XCo
variable {d L s : Nat} {xs : Nat → Int32} {J : Nat → Int64} {F : Nat → Nat → Int32} {K : mm_K} {h : mm_H} {n : Nat} {q : Rq}
theorem CC.ge (hc : CC F n q) : F 5 6 ≤ nI n := by
  have := hc.2.1.1
  rw [hc.1]
  exact (nI_leI (by omega) (by omega)).mpr (Nat.le_refl n)
theorem CC.lt (hc : CC F n q) {i : Nat} (hi : i < n) : ¬ F 5 6 ≤ nI i := by
  have := hc.2.1.1
  rw [hc.1]
  exact nleI hi (by omega)
theorem x_has5 {i : Int32} (hk : K (some (.int (b2i (0 ≤ i ∧ i < F 5 6)))) (hH L xs J s F)) : mm_call mm_Ex (d + 1) k_X1_has [.ref 5, .int i] (hH L xs J s F) K := mm_run 20 (x_within ⟨b2i_01, hk⟩)
theorem x_citations (hc : CC F n q) {i sg : Int32} (hk : K (some (.int (nI (fa_cnt (fun j => decide (q 3 j = i) && decide (q 4 j = sg)) n)))) (hH L xs J s F)) : mm_call mm_Ex d k_X1_citations [.ref 5, .int i, .int sg] (hH L xs J s F) K := by
  have h9 := hc.2.1.1
  obtain ⟨p, hp⟩ : ∃ p : Nat → Bool, (fun j => decide (q 3 j = i) && decide (q 4 j = sg)) = p := ⟨_, rfl⟩
  rw [hp] at hk
  refine mm_run 60 (lp (n := n) (P := fun j => ∀ x a, x = nI j → a = nI (0 + fa_cnt p j) → mm_Ex d k_X1_citations 4 (0, 0) [.ref 5, .int i, .int sg, .int a, .int x] [] (hH L xs J s F) K) ?_ ?_ 0 0 rfl rfl)
  · intro x a hx ha
    rw [Nat.zero_add] at ha
    subst hx ha
    exact mm_run 60 (And.intro (fun _ => hk) (fun z => absurd hc.ge z))
  · intro j hj ih x a hx ha
    subst hx
    have ej : (nI j).toNatClampNeg = j := tn_nI (by omega)
    have hv : vp_in (nI j) 9 := vp_in_nI (by omega) (by decide)
    have e3 : F 9 j = q 3 j := hc.2.2 3 (by decide) j hj
    have e4 : F 10 j = q 4 j := hc.2.2 4 (by decide) j hj
    have ep : p j = (decide (q 3 j = i) && decide (q 4 j = sg)) := by rw [← hp]
    have J24 : ∀ y, y = b2i (p j = true) → mm_Ex d k_X1_citations 24 (0, 0) [.ref 5, .int i, .int sg, .int a, .int (nI j)] [.int y, .int a] (hH L xs J s F) K := fun y hy => mm_run 60 (ih _ _ (nI_1 j) (by rw [ha, hy]; exact nI_b 0 p j))
    have J23 : ¬ p j = true → mm_Ex d k_X1_citations 23 (0, 0) [.ref 5, .int i, .int sg, .int a, .int (nI j)] [.int a] (hH L xs J s F) K := fun z => mm_run 5 (J24 0 (b2i_f z).symm)
    refine mm_run 60 (And.intro (fun z => absurd z (hc.lt hj)) (fun _ => ⟨hv, And.intro (fun z => J23 ?_) (fun z => ⟨hv, And.intro (fun z2 => J23 ?_) (fun z2 => J24 1 (b2i_t ?_).symm)⟩)⟩))
    · rw [ej] at z
      have z : ¬ q 3 j = i := fun y => z (e3.trans y)
      simp [ep, z]
    · rw [ej] at z2
      have z2 : ¬ q 4 j = sg := fun y => z2 (e4.trans y)
      simp [ep, z2]
    · rw [ej] at z z2
      have z : q 3 j = i := e3.symm.trans z
      have z2 : q 4 j = sg := e4.symm.trans z2
      simp [ep, z, z2]
theorem x_ofDay (hc : CC F n q) {dy : Int32} (hk : K (some (.int (nI (setB (fun i => decide (q 1 i = dy)) n)))) (hH L xs J s F)) : mm_call mm_Ex d k_X1_ofDay [.ref 5, .int dy] (hH L xs J s F) K := by
  have h9 := hc.2.1.1
  refine mm_run 60 (lp (n := n) (P := fun j => ∀ x a, x = nI j → a = nI (setB (fun i => decide (q 1 i = dy)) j) → mm_Ex d k_X1_ofDay 4 (0, 0) [.ref 5, .int dy, .int a, .int x] [] (hH L xs J s F) K) ?_ ?_ 0 0 rfl rfl)
  · intro x a hx ha
    subst hx ha
    exact mm_run 60 (And.intro (fun _ => hk) (fun z => absurd hc.ge z))
  · intro j hj ih x a hx ha
    subst hx
    have ej : (nI j).toNatClampNeg = j := tn_nI (by omega)
    have e1 : F 7 j = q 1 j := hc.2.2 1 (by decide) j hj
    have J20 : ∀ y, y = (if (fun i => decide (q 1 i = dy)) j = true then nI (2 ^ j) else 0) → mm_Ex d k_X1_ofDay 20 (0, 0) [.ref 5, .int dy, .int a, .int (nI j)] [.int y, .int a] (hH L xs J s F) K := fun y hy => mm_run 60 (ih _ _ (nI_1 j) (by rw [hy, ha]; exact setI _ j))
    refine mm_run 60 (And.intro (fun z => absurd z (hc.lt hj)) (fun _ => ⟨vp_in_nI (by omega) (by decide), And.intro (fun z => J20 _ ?_) (fun z => J20 _ ?_)⟩))
    · rw [ej] at z
      have z : ¬ q 1 j = dy := fun y => z (e1.trans y)
      rw [if_neg (by simpa using z)]
    · rw [ej] at z
      have z : q 1 j = dy := e1.symm.trans z
      rw [if_pos (by simpa using z), shl1 (by omega)]
theorem x_laterThan (hc : CC F n q) {la : Int32} (hk : K (some (.int (nI (setB (fun i => decide (la < q 1 i)) n)))) (hH L xs J s F)) : mm_call mm_Ex d k_X1_laterThan [.ref 5, .int la] (hH L xs J s F) K := by
  have h9 := hc.2.1.1
  refine mm_run 60 (lp (n := n) (P := fun j => ∀ x a, x = nI j → a = nI (setB (fun i => decide (la < q 1 i)) j) → mm_Ex d k_X1_laterThan 4 (0, 0) [.ref 5, .int la, .int a, .int x] [] (hH L xs J s F) K) ?_ ?_ 0 0 rfl rfl)
  · intro x a hx ha
    subst hx ha
    exact mm_run 60 (And.intro (fun _ => hk) (fun z => absurd hc.ge z))
  · intro j hj ih x a hx ha
    subst hx
    have ej : (nI j).toNatClampNeg = j := tn_nI (by omega)
    have e1 : F 7 j = q 1 j := hc.2.2 1 (by decide) j hj
    have J20 : ∀ y, y = (if (fun i => decide (la < q 1 i)) j = true then nI (2 ^ j) else 0) → mm_Ex d k_X1_laterThan 20 (0, 0) [.ref 5, .int la, .int a, .int (nI j)] [.int y, .int a] (hH L xs J s F) K := fun y hy => mm_run 60 (ih _ _ (nI_1 j) (by rw [hy, ha]; exact setI _ j))
    refine mm_run 60 (And.intro (fun z => absurd z (hc.lt hj)) (fun _ => ⟨vp_in_nI (by omega) (by decide), And.intro (fun z => J20 _ ?_) (fun z => J20 _ ?_)⟩))
    · rw [ej] at z
      have z : ¬ la < q 1 j := fun y => Int32.not_lt.mpr z (e1 ▸ y)
      rw [if_neg (by simpa using z)]
    · rw [ej] at z
      have z : la < q 1 j := e1 ▸ Int32.not_le.mp z
      rw [if_pos (by simpa using z), shl1 (by omega)]
theorem x_othersOfItsDay (hc : CC F n q) {i : Nat} (hi : i < n) (hk : K (some (.int (nI (dif (setB (fun j => decide (q 1 j = q 1 i)) n) (2 ^ i))))) (hH L xs J s F)) : mm_call mm_Ex (d + 1) k_X1_othersOfItsDay [.ref 5, .int (nI i)] (hH L xs J s F) K := by
  have h9 := hc.2.1.1
  have ei : (nI i).toNatClampNeg = i := tn_nI (by omega)
  have e1 : F 7 i = q 1 i := hc.2.2 1 (by decide) i hi
  refine mm_run 60 ⟨vp_in_nI (by omega) (by decide), ?_⟩
  show mm_call mm_Ex d k_X1_ofDay [.ref 5, .int (F 7 (nI i).toNatClampNeg)] _ _
  rw [ei, e1]
  refine x_ofDay hc ?_
  rw [← difI, ← shl1 (k := i) (by omega)] at hk
  exact hk
end XCo
