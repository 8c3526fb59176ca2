/-! class and reference hold the same -/
def XRow (F M : Nat → Nat → Int32) (r : Nat) : Prop := (M 76 r = -9 ∧ F (34 + 2 * r) 1 = -1) ∨ ∃ z, z ≤ 40 ∧ M 76 r = nI z ∧ F (34 + 2 * r) 1 = nI z ∧ ∀ k, k < z → F (35 + 2 * r) k = M 77 (40 * r + k)
def XTxt (F M : Nat → Nat → Int32) (t : Nat) : Prop := (M 78 t = -9 ∧ F (46 + 2 * t) 1 = -1) ∨ ∃ z, z ≤ 80 ∧ M 78 t = nI z ∧ F (46 + 2 * t) 1 = nI z ∧ ∀ k, k < z → F (47 + 2 * t) k = M 79 (80 * t + k)
def XCt (F M : Nat → Nat → Int32) : Prop := ∃ n, n ≤ 9 ∧ F 5 6 = nI n ∧ M 75 10 = nI n ∧ ∀ w, w < 6 → ∀ i, i < n → F (6 + w) i = M (82 + w) i
def XKp (F M : Nat → Nat → Int32) (k : Nat) : Prop := (M 88 k = -9 ∧ F (54 + 7 * k) 6 = 0) ∨ ∃ m, 0 < m ∧ m ≤ 9 ∧ M 88 k = nI m ∧ F (54 + 7 * k) 6 = nI m ∧ ∀ w, w < 6 → ∀ i, i < m → F (55 + 7 * k + w) i = M 89 (54 * k + 6 * i + w)
def XTd (F M : Nat → Nat → Int32) : Prop := F 2 9 = M 75 5 ∧ F 2 10 = M 75 7 ∧ ∀ f, f < 6 → F 33 f = M 81 f
def XRc (F M : Nat → Nat → Int32) : Prop := (∀ r, r < 6 → XRow F M r) ∧ (∀ t, t < 4 → XTxt F M t) ∧ XCt F M ∧ (∀ k, k < 3 → XKp F M k) ∧ XTd F M
def XT (F F1 M : Nat → Nat → Int32) : Prop := (∀ k, 75 ≤ k ∨ k = 14 → F1 k = F k) ∧ XRc F1 M
theorem XT.same {F M : Nat → Nat → Int32} (h : XRc F M) : XT F F M := ⟨fun _ _ => rfl, h⟩
/-- cells that matter -/
theorem XRc.cong {F F1 M M1 : Nat → Nat → Int32} (h : XRc F M) (h1 : ∀ k, k < 75 → k ≠ 2 → k ≠ 33 → ¬ (13 ≤ k ∧ k < 33) → F1 k = F k) (h2 : ∀ k, 76 ≤ k → k ≤ 89 → k ≠ 80 → k ≠ 81 → M1 k = M k) (h3 : M1 75 10 = M 75 10) (h4 : XTd F1 M1) : XRc F1 M1 := by
  obtain ⟨a, b, c, e, f⟩ := h
  refine ⟨fun r hr => ?_, fun t ht => ?_, ?_, fun k hk => ?_, h4⟩
  · have := a r hr
    unfold XRow at this ⊢
    rw [h1 (34 + 2 * r) (by omega) (by omega) (by omega) (by omega), h1 (35 + 2 * r) (by omega) (by omega) (by omega) (by omega), h2 76 (by decide) (by decide) (by decide) (by decide), h2 77 (by decide) (by decide) (by decide) (by decide)]
    exact this
  · have := b t ht
    unfold XTxt at this ⊢
    rw [h1 (46 + 2 * t) (by omega) (by omega) (by omega) (by omega), h1 (47 + 2 * t) (by omega) (by omega) (by omega) (by omega), h2 78 (by decide) (by decide) (by decide) (by decide), h2 79 (by decide) (by decide) (by decide) (by decide)]
    exact this
  · obtain ⟨n, n9, e1, e2, e3⟩ := c
    refine ⟨n, n9, ?_, ?_, fun w hw i hi => ?_⟩
    · rw [h1 5 (by decide) (by decide) (by decide) (by decide)]
      exact e1
    · rw [h3]
      exact e2
    · rw [h1 (6 + w) (by omega) (by omega) (by omega) (by omega), h2 (82 + w) (by omega) (by omega) (by omega) (by omega)]
      exact e3 w hw i hi
  · have := e k hk
    unfold XKp at this ⊢
    rw [h1 (54 + 7 * k) (by omega) (by omega) (by omega) (by omega), h2 88 (by decide) (by decide) (by decide) (by decide), h2 89 (by decide) (by decide) (by decide) (by decide)]
    rcases this with z | ⟨m, m0, m9, k1, k2, k3⟩
    · exact Or.inl z
    · refine Or.inr ⟨m, m0, m9, k1, k2, fun w hw i hi => ?_⟩
      rw [h1 (55 + 7 * k + w) (by omega) (by omega) (by omega) (by omega)]
      exact k3 w hw i hi
theorem up2_ne {F : Nat → Nat → Int32} {k j a : Nat} {x : Int32} (h : a ≠ k) : up2 F k j x a = F a := if_neg h
theorem upF_ne {F : Nat → Nat → Int32} {k a : Nat} {g : Nat → Int32} (h : a ≠ k) : upF F k g a = F a := if_neg h
theorem XRc.fi {F M : Nat → Nat → Int32} (h : XRc F M) {w : Nat} (hw : w < 6) : XRc (x_fi F w) (S_fi M w) := by
  refine h.cong (fun k h1 h2 h3 h4 => ?_) (fun k h1 h2 h3 h4 => ?_) ?_ ?_
  · unfold x_fi
    rw [up2_ne h3, up2_ne h2]
  · unfold S_fi
    rw [up2_ne h4, up2_ne (by omega)]
  · rfl
  · obtain ⟨a, b, c⟩ := h.2.2.2.2
    refine ⟨rfl, b, fun f hf => ?_⟩
    show upd (F 33) w (F 33 w + 1) f = upd (M 81) w (M 81 w + 1) f
    unfold upd
    rw [c w hw]
    split
    · rfl
    · exact c f hf
theorem XRc.te {F M : Nat → Nat → Int32} (h : XRc F M) {v : Int32} : XRc (x_te F v) (S_te M v) := by
  refine h.cong (fun k h1 h2 h3 h4 => ?_) (fun k h1 h2 h3 h4 => ?_) ?_ ?_
  · exact up2_ne h2
  · exact up2_ne (by omega)
  · rfl
  · obtain ⟨a, b, c⟩ := h.2.2.2.2
    exact ⟨a, rfl, c⟩
theorem XT.fi {F F1 M : Nat → Nat → Int32} (h : XT F F1 M) {w : Nat} (hw : w < 6) : XT F (x_fi F1 w) (S_fi M w) := by
  refine ⟨fun k hk => ?_, h.2.fi hw⟩
  unfold x_fi
  rw [up2_ne (by omega), up2_ne (by omega)]
  exact h.1 k hk
theorem XT.te {F F1 M : Nat → Nat → Int32} (h : XT F F1 M) {v : Int32} : XT F (x_te F1 v) (S_te M v) := by
  refine ⟨fun k hk => ?_, h.2.te⟩
  unfold x_te
  rw [up2_ne (by omega)]
  exact h.1 k hk
/-- one row is another -/
theorem XRc.rowU {F F1 M M1 : Nat → Nat → Int32} (h : XRc F M) {r : Nat} (hr : r < 6) (h1 : ∀ k, k < 75 → k ≠ 34 + 2 * r → k ≠ 35 + 2 * r → F1 k = F k) (h2 : ∀ k, 75 ≤ k → k ≠ 76 → k ≠ 77 → M1 k = M k) (h3 : ∀ j, j ≠ r → M1 76 j = M 76 j) (h4 : ∀ x, ¬ (40 * r ≤ x ∧ x < 40 * r + 40) → M1 77 x = M 77 x) (h5 : XRow F1 M1 r) : XRc F1 M1 := by
  obtain ⟨a, b, c, e, f⟩ := h
  refine ⟨fun r' hr' => ?_, fun t ht => ?_, ?_, fun k hk => ?_, ?_⟩
  · by_cases e1 : r' = r
    · rw [e1]
      exact h5
    · have := a r' hr'
      unfold XRow at this ⊢
      rw [h1 (34 + 2 * r') (by omega) (by omega) (by omega), h1 (35 + 2 * r') (by omega) (by omega) (by omega), h3 r' e1]
      rcases this with z | ⟨z, z1, z2, z3, z4⟩
      · exact Or.inl z
      · refine Or.inr ⟨z, z1, z2, z3, fun k hk => ?_⟩
        rw [h4 _ (by omega)]
        exact z4 k hk
  · have := b t ht
    unfold XTxt at this ⊢
    rw [h1 (46 + 2 * t) (by omega) (by omega) (by omega), h1 (47 + 2 * t) (by omega) (by omega) (by omega), h2 78 (by decide) (by decide) (by decide), h2 79 (by decide) (by decide) (by decide)]
    exact this
  · obtain ⟨n, n9, e1, e2, e3⟩ := c
    refine ⟨n, n9, ?_, ?_, fun w hw i hi => ?_⟩
    · rw [h1 5 (by decide) (by omega) (by omega)]
      exact e1
    · rw [h2 75 (by decide) (by decide) (by decide)]
      exact e2
    · rw [h1 (6 + w) (by omega) (by omega) (by omega), h2 (82 + w) (by omega) (by omega) (by omega)]
      exact e3 w hw i hi
  · have := e k hk
    unfold XKp at this ⊢
    rw [h1 (54 + 7 * k) (by omega) (by omega) (by omega), h2 88 (by decide) (by decide) (by decide), h2 89 (by decide) (by decide) (by decide)]
    rcases this with z | ⟨m, m0, m9, k1, k2, k3⟩
    · exact Or.inl z
    · refine Or.inr ⟨m, m0, m9, k1, k2, fun w hw i hi => ?_⟩
      rw [h1 (55 + 7 * k + w) (by omega) (by omega) (by omega)]
      exact k3 w hw i hi
  · unfold XTd at f ⊢
    rw [h1 2 (by decide) (by omega) (by omega), h1 33 (by decide) (by omega) (by omega), h2 75 (by decide) (by decide) (by decide), h2 81 (by decide) (by decide) (by decide)]
    exact f
/-- one text is another -/
theorem XRc.txtU {F F1 M M1 : Nat → Nat → Int32} (h : XRc F M) {r : Nat} (hr : r < 4) (h1 : ∀ k, k < 75 → k ≠ 46 + 2 * r → k ≠ 47 + 2 * r → F1 k = F k) (h2 : ∀ k, 75 ≤ k → k ≠ 78 → k ≠ 79 → M1 k = M k) (h3 : ∀ j, j ≠ r → M1 78 j = M 78 j) (h4 : ∀ x, ¬ (80 * r ≤ x ∧ x < 80 * r + 80) → M1 79 x = M 79 x) (h5 : XTxt F1 M1 r) : XRc F1 M1 := by
  obtain ⟨a, b, c, e, f⟩ := h
  refine ⟨fun r' hr' => ?_, fun t ht => ?_, ?_, fun k hk => ?_, ?_⟩
  · have := a r' hr'
    unfold XRow at this ⊢
    rw [h1 (34 + 2 * r') (by omega) (by omega) (by omega), h1 (35 + 2 * r') (by omega) (by omega) (by omega), h2 76 (by decide) (by decide) (by decide), h2 77 (by decide) (by decide) (by decide)]
    exact this
  · by_cases e1 : t = r
    · rw [e1]
      exact h5
    · have := b t ht
      unfold XTxt at this ⊢
      rw [h1 (46 + 2 * t) (by omega) (by omega) (by omega), h1 (47 + 2 * t) (by omega) (by omega) (by omega), h3 t e1]
      rcases this with z | ⟨z, z1, z2, z3, z4⟩
      · exact Or.inl z
      · refine Or.inr ⟨z, z1, z2, z3, fun k hk => ?_⟩
        rw [h4 _ (by omega)]
        exact z4 k hk
  · obtain ⟨n, n9, e1, e2, e3⟩ := c
    refine ⟨n, n9, ?_, ?_, fun w hw i hi => ?_⟩
    · rw [h1 5 (by decide) (by omega) (by omega)]
      exact e1
    · rw [h2 75 (by decide) (by decide) (by decide)]
      exact e2
    · rw [h1 (6 + w) (by omega) (by omega) (by omega), h2 (82 + w) (by omega) (by omega) (by omega)]
      exact e3 w hw i hi
  · have := e k hk
    unfold XKp at this ⊢
    rw [h1 (54 + 7 * k) (by omega) (by omega) (by omega), h2 88 (by decide) (by decide) (by decide), h2 89 (by decide) (by decide) (by decide)]
    rcases this with z | ⟨m, m0, m9, k1, k2, k3⟩
    · exact Or.inl z
    · refine Or.inr ⟨m, m0, m9, k1, k2, fun w hw i hi => ?_⟩
      rw [h1 (55 + 7 * k + w) (by omega) (by omega) (by omega)]
      exact k3 w hw i hi
  · unfold XTd at f ⊢
    rw [h1 2 (by decide) (by omega) (by omega), h1 33 (by decide) (by omega) (by omega), h2 75 (by decide) (by decide) (by decide), h2 81 (by decide) (by decide) (by decide)]
    exact f
