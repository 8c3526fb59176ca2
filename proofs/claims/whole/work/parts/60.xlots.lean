/-! the class: lots, keep, on, count, digest, what is told -/
theorem nthA_ok {n : Nat} {q : Rq} {of : Int32} {wh : Nat} (h : wh < fa_cnt (ahB q of) n) : ∃ j, j < n ∧ nthA n q of wh = nI j ∧ q 1 j < of := by
  obtain ⟨S, hS, hw, he⟩ := cnt_kth h
  have ef : fa_first (fun i => ahB q of i && decide (fa_cnt (ahB q of) i = wh)) n = S := first_eq hS (by simp [hw, he]) (fun j hj => by
    cases hb : ahB q of j
    · simp
    · have := cnt_lt hj hb
      simp only [Bool.true_and, decide_eq_false_iff_not]
      omega)
  refine ⟨S, hS, ?_, ?_⟩
  · unfold nthA
    dsimp only
    rw [ef, if_pos hS]
  · unfold ahB at hw
    simpa using hw
theorem XRc.kpU {F F1 M M1 : Nat → Nat → Int32} (h : XRc F M) {k : Nat} (hk : k < 3) (h1 : ∀ a, a < 75 → ¬ (54 + 7 * k ≤ a ∧ a ≤ 60 + 7 * k) → F1 a = F a) (h2 : ∀ a, 75 ≤ a → a ≠ 88 → a ≠ 89 → M1 a = M a) (h3 : ∀ j, j ≠ k → M1 88 j = M 88 j) (h4 : ∀ x, ¬ (54 * k ≤ x ∧ x < 54 * k + 54) → M1 89 x = M 89 x) (h5 : XKp F1 M1 k) : XRc F1 M1 := by
  obtain ⟨a, b, c, e, f⟩ := h
  refine ⟨fun r hr => ?_, fun t ht => ?_, ?_, fun k' hk' => ?_, ?_⟩
  · have := a r hr
    unfold XRow at this ⊢
    rw [h1 (34 + 2 * r) (by omega) (by omega), h1 (35 + 2 * r) (by omega) (by omega), h2 76 (by decide) (by decide) (by decide), h2 77 (by decide) (by decide) (by decide)]
    exact this
  · have := b t ht
    unfold XTxt at this ⊢
    rw [h1 (46 + 2 * t) (by omega) (by omega), h1 (47 + 2 * t) (by omega) (by omega), h2 78 (by decide) (by decide) (by decide), h2 79 (by decide) (by decide) (by decide)]
    exact this
  · obtain ⟨n, n9, e1, e2, e3⟩ := c
    refine ⟨n, n9, ?_, ?_, fun w hw i hi => ?_⟩
    · rw [h1 5 (by decide) (by omega)]
      exact e1
    · rw [h2 75 (by decide) (by decide) (by decide)]
      exact e2
    · rw [h1 (6 + w) (by omega) (by omega), h2 (82 + w) (by omega) (by omega) (by omega)]
      exact e3 w hw i hi
  · by_cases ek : k' = k
    · rw [ek]; exact h5
    · have := e k' hk'
      unfold XKp at this ⊢
      rw [h1 (54 + 7 * k') (by omega) (by omega), h3 k' ek]
      rcases this with z | ⟨m, m0, m9, k1, k2, k3⟩
      · exact Or.inl z
      · refine Or.inr ⟨m, m0, m9, k1, k2, fun w hw i hi => ?_⟩
        rw [h1 (55 + 7 * k' + w) (by omega) (by omega), h4 _ (by omega)]
        exact k3 w hw i hi
  · unfold XTd at f ⊢
    rw [h1 2 (by decide) (by omega), h1 33 (by decide) (by omega), h2 75 (by decide) (by decide) (by decide), h2 81 (by decide) (by decide) (by decide)]
    exact f
theorem onF_k {F : Nat → Nat → Int32} {k m : Nat} (a : Nat) : onF F k m a = if 82 ≤ a ∧ a ≤ 87 then fa_fill (fun i => F 89 (54 * k + 6 * i + (a - 82))) (F a) m else if a = 75 then upd (F 75) 10 (nI m) else F a := by
  unfold onF
  by_cases h1 : a = 87
  · subst h1; rfl
  by_cases h2 : a = 86
  · subst h2; rfl
  by_cases h3 : a = 85
  · subst h3; rfl
  by_cases h4 : a = 84
  · subst h4; rfl
  by_cases h5 : a = 83
  · subst h5; rfl
  by_cases h6 : a = 82
  · subst h6; rfl
  rw [upF_ne h1, upF_ne h2, upF_ne h3, upF_ne h4, upF_ne h5, upF_ne h6, if_neg (by omega)]
  by_cases h7 : a = 75
  · subst h7; rfl
  · rw [if_neg h7, up2_ne h7]
theorem keep_at {F : Nat → Nat → Int32} {k n w i : Nat} (hw : w < 6) (hi : i < n) : keepF F k n (54 * k + 6 * i + w) = mq F w i := by
  unfold keepF
  rw [if_pos (by omega), show 54 * k + 6 * i + w - 54 * k = 6 * i + w by omega, show (6 * i + w) % 6 = w by omega, show (6 * i + w) / 6 = i by omega]
theorem mq_w {F : Nat → Nat → Int32} {w : Nat} (hw : w < 6) : mq F w = F (82 + w) := by
  match w, hw with
  | 0, _ => rfl
  | 1, _ => rfl
  | 2, _ => rfl
  | 3, _ => rfl
  | 4, _ => rfl
  | 5, _ => rfl
theorem in3 {x : Int32} : (0 ≤ x ∧ x < 3) ↔ (0 ≤ x ∧ x ≤ 2) := lt_in (n := 3) (by decide)
theorem in8 {x : Int32} : (0 ≤ x ∧ x < 8) ↔ (0 ≤ x ∧ x ≤ 7) := lt_in (n := 8) (by decide)
section XLo
variable {d L s : Nat} {xs : Nat → Int32} {J : Nat → Int64} {F : Nat → Nat → Int32} {K : mm_K} {h : mm_H} {n : Nat} {q : Rq}
theorem x_canN (hc : CC F n q) {i : Nat} (hi : i < n) {of : Int32} (hk : K (some (.int (b2i (ahB q of i = true)))) (hH L xs J s F)) : mm_call mm_Ex (d + 2) k_X1_canBeCited [.ref 5, .int (nI i), .int of] (hH L xs J s F) K := by
  have h9 := hc.2.1.1
  refine x_canBeCited hc ?_
  have e : ((0 ≤ nI i ∧ nI i ≤ nI n - 1) ∧ q 1 (nI i).toNatClampNeg < of) ↔ ahB q of i = true := by
    rw [tn_nI (by omega)]
    unfold ahB
    rw [decide_eq_true_eq]
    exact ⟨fun y => y.2, fun y => ⟨(lt_in (by omega)).mp ⟨nle0 (by omega), (nI_ltI (by omega) (by omega)).mpr hi⟩, y⟩⟩
  rw [b2i_c e]
  exact hk
theorem x_citable (hc : CC F n q) {wh : Nat} {of : Int32} (hwh : wh ≤ 9) (hk : K (some (.int (nthA n q of wh))) (hH L xs J s F)) : mm_call mm_Ex (d + 3) k_X1_citable [.ref 5, .int (nI wh), .int of] (hH L xs J s F) K := by
  have h9 := hc.2.1.1
  unfold nthA at hk
  dsimp only at hk
  obtain ⟨p, hp⟩ : ∃ p : Nat → Bool, (fun i => ahB q of i && decide (fa_cnt (ahB q of) i = wh)) = p := ⟨_, rfl⟩
  rw [hp] at hk
  have ep : ∀ i, p i = (ahB q of i && decide (fa_cnt (ahB q of) i = wh)) := fun i => by rw [← hp]
  refine mm_run 60 (lp (n := n) (P := fun i => fa_cnt (ahB q of) i ≤ wh → (∀ j, j < i → p j = false) → ∀ x l, x = nI i → l = nI (wh - fa_cnt (ahB q of) i) → mm_Ex (d + 3) k_X1_citable 4 (0, 0) [.ref 5, .int (nI wh), .int of, .int l, .int x] [] (hH L xs J s F) K) ?_ ?_ (Nat.zero_le _) (fun j hj => absurd hj (Nat.not_lt_zero j)) 0 _ rfl rfl)
  · intro hle ha x l hx hl
    subst hx
    rw [first_N ha, if_neg (Nat.lt_irrefl _)] at hk
    exact mm_run 60 (And.intro (fun _ => hk) (fun z => absurd hc.ge z))
  · intro i hi ih hle ha x l hx hl
    subst hx
    have cl := fa_cnt_le (ahB q of) i
    have J18 : ∀ l, fa_cnt (ahB q of) (i + 1) ≤ wh → p i = false → l = nI (wh - fa_cnt (ahB q of) (i + 1)) → mm_Ex (d + 3) k_X1_citable 18 (0, 0) [.ref 5, .int (nI wh), .int of, .int l, .int (nI i)] [] (hH L xs J s F) K := fun l h1 h2 h3 => mm_run 10 (ih h1 (fun j hj => by
      by_cases e : j = i
      · rw [e]; exact h2
      · exact ha j (by omega)) _ _ (nI_1 i) h3)
    refine mm_run 60 (And.intro (fun z => absurd z (hc.lt hi)) (fun _ => x_canN hc hi (And.intro (fun z => J18 _ ?_ ?_ ?_) (fun z => And.intro (fun z2 => J18 _ ?_ ?_ ?_) (fun z2 => ?_)))))
    · have z : ahB q of i = false := Bool.eq_false_iff.mpr (b2i_0.mp z)
      rw [fa_cnt_no z]
      exact hle
    · have z : ahB q of i = false := Bool.eq_false_iff.mpr (b2i_0.mp z)
      rw [ep, z]
      rfl
    · have z : ahB q of i = false := Bool.eq_false_iff.mpr (b2i_0.mp z)
      rw [fa_cnt_no z]
      exact hl
    · have z := b2i_p z
      have z2 : ¬ wh - fa_cnt (ahB q of) i = 0 := fun y => z2 (by rw [hl, y]; rfl)
      rw [fa_cnt_yes z]
      omega
    · have z2 : ¬ wh - fa_cnt (ahB q of) i = 0 := fun y => z2 (by rw [hl, y]; rfl)
      rw [ep]
      have : ¬ fa_cnt (ahB q of) i = wh := by omega
      simp [this]
    · have z := b2i_p z
      have z2 : ¬ wh - fa_cnt (ahB q of) i = 0 := fun y => z2 (by rw [hl, y]; rfl)
      rw [fa_cnt_yes z, hl]
      obtain ⟨t, ht⟩ : ∃ t, wh - fa_cnt (ahB q of) i = t + 1 := ⟨wh - fa_cnt (ahB q of) i - 1, by omega⟩
      rw [ht, ← Int32.sub_eq_add_neg, nI_pred]
      congr 1
      omega
    · have z := b2i_p z
      rw [hl] at z2
      have z2 := (nI_z (by omega)).mp z2
      have : fa_cnt (ahB q of) i = wh := by omega
      rw [first_eq hi (by rw [ep, z]; simp [this]) ha, if_pos hi] at hk
      exact hk
def itL (q : Rq) (n x : Nat) : Nat → Int32 :=
  let A := fa_cnt (ahB q (nI (x / 8 % 10))) n
  itF (nI (x % 6)) (nI (x / 8 % 10)) (nI (x / 128 % 2)) (if A = 0 then -9 else nthA n q (nI (x / 8 % 10)) (x / 256 % A)) (if A = 0 then 0 else if x / 16384 % 2 = 0 then -1 else 1) 0
theorem x_fileByLot (hc : CC F n q) (h9 : n < 9) {x : Nat} (hx : x < 2147483647) (hk : K none (hH L xs J s (add7 F 5 n (itL q n x)))) : mm_call mm_Ex (d + 4) k_X5_fileByLot [.ref 2, .int (nI x)] (hH L xs J s F) K := by
  have e8 : nI x >>> (3 &&& 31) - nI x >>> (3 &&& 31) / 10 * 10 = nI (x / 8 % 10) := by
    show nI x >>> (nI 3 &&& 31) - nI x >>> (nI 3 &&& 31) / nI 10 * nI 10 = _
    rw [sshrI (by omega) (by decide), pk_rem (by omega) (by decide) (by decide)]
  have e6 : nI x - nI x / 6 * 6 = nI (x % 6) := pk_rem (d := 6) (by omega) (by decide) (by decide)
  have e128 : nI x >>> (7 &&& 31) - nI x >>> (7 &&& 31) / 2 * 2 = nI (x / 128 % 2) := by
    show nI x >>> (nI 7 &&& 31) - nI x >>> (nI 7 &&& 31) / nI 2 * nI 2 = _
    rw [sshrI (by omega) (by decide), pk_rem (by omega) (by decide) (by decide)]
  have e16 : nI x >>> (14 &&& 31) - nI x >>> (14 &&& 31) / 2 * 2 = nI (x / 16384 % 2) := by
    show nI x >>> (nI 14 &&& 31) - nI x >>> (nI 14 &&& 31) / nI 2 * nI 2 = _
    rw [sshrI (by omega) (by decide), pk_rem (by omega) (by decide) (by decide)]
  have e5 := hc.1
  obtain ⟨A, hA⟩ : ∃ A, fa_cnt (ahB q (nI (x / 8 % 10))) n = A := ⟨_, rfl⟩
  have hAl : A ≤ 9 := by rw [← hA]; exact Nat.le_trans (fa_cnt_le _ _) (by omega)
  unfold itL at hk
  dsimp only at hk
  rw [hA] at hk
  obtain ⟨D, hD⟩ : ∃ D, x / 8 % 10 = D := ⟨_, rfl⟩
  rw [hD] at hA hk e8
  have J55 : ∀ a b : Int32, a = (if A = 0 then -9 else nthA n q (nI D) (x / 256 % A)) → b = (if A = 0 then 0 else if x / 16384 % 2 = 0 then -1 else 1) → mm_Ex (d + 4) k_X5_fileByLot 55 (0, 0) [.ref 2, .int (nI x), .int (nI D), .int (nI A), .int a, .int b] [] (hH L xs J s F) K := fun a b ha hb => by
    refine mm_run 60 ⟨by decide, by decide, ?_⟩
    show mm_call mm_Ex (d + 3) k_X1_add [.ref 5, .int (nI x - nI x / 6 * 6), .int (nI D), .int (nI x >>> (7 &&& 31) - nI x >>> (7 &&& 31) / 2 * 2), .int a, .int b, .int 0] _ _
    rw [e6, e128]
    subst ha hb
    exact x_add_5 e5 h9 hk
  have J54 : ∀ a b : Int32, a = (if A = 0 then -9 else nthA n q (nI D) (x / 256 % A)) → b = (if A = 0 then 0 else if x / 16384 % 2 = 0 then -1 else 1) → mm_Ex (d + 4) k_X5_fileByLot 54 (0, 0) [.ref 2, .int (nI x), .int (nI D), .int (nI A), .int a, .int 0] [.int b] (hH L xs J s F) K := fun a b ha hb => mm_run 5 (J55 a b ha hb)
  refine mm_run 60 ⟨by decide, ?_⟩
  show mm_Ex _ _ 10 _ [.ref 2, .int (nI x), .int (nI x >>> (3 &&& 31) - nI x >>> (3 &&& 31) / 10 * 10), .int 0, .int 0, .null] _ _ _
  rw [e8]
  refine lp (n := n) (P := fun i => ∀ y a (w5 : Value), y = nI i → a = nI (0 + fa_cnt (ahB q (nI D)) i) → mm_Ex (d + 4) k_X5_fileByLot 10 (0, 0) [.ref 2, .int (nI x), .int (nI D), .int a, .int y, w5] [] (hH L xs J s F) K) ?_ ?_ 0 0 _ rfl rfl
  · intro y a w5 hy ha
    rw [Nat.zero_add, hA] at ha
    subst hy ha
    refine mm_run 60 (And.intro (fun _ => And.intro (fun z => J55 _ _ ?_ ?_) (fun z => ⟨?_, ?_⟩)) (fun z => absurd hc.ge z))
    · have z : A = 0 := Nat.le_zero.mp ((nI_leI (b := 0) (by omega) (by decide)).mp z)
      rw [if_pos z]
    · have z : A = 0 := Nat.le_zero.mp ((nI_leI (b := 0) (by omega) (by decide)).mp z)
      rw [if_pos z]
    · have z : ¬ A = 0 := fun y => z (by rw [y]; decide)
      exact nI_ne0 (by omega) (by omega)
    · have z : ¬ A = 0 := fun y => z (by rw [y]; decide)
      have e256 : nI x >>> (8 &&& 31) - nI x >>> (8 &&& 31) / nI A * nI A = nI (x / 256 % A) := by
        show nI x >>> (nI 8 &&& 31) - nI x >>> (nI 8 &&& 31) / nI A * nI A = _
        rw [sshrI (by omega) (by decide), pk_rem (by omega) (by omega) (by omega)]
      show mm_call mm_Ex (d + 3) k_X1_citable [.ref 5, .int (nI x >>> (8 &&& 31) - nI x >>> (8 &&& 31) / nI A * nI A), .int (nI D)] _ _
      rw [e256]
      refine x_citable hc (Nat.le_of_lt (Nat.lt_of_lt_of_le (Nat.mod_lt _ (by omega)) hAl)) ⟨by decide, And.intro (fun z2 => J54 _ _ ?_ ?_) (fun z2 => J54 _ _ ?_ ?_)⟩
      · rw [if_neg z]
      · have z2 : ¬ x / 16384 % 2 = 0 := fun y => z2 (e16.trans (by rw [y]; rfl))
        rw [if_neg z, if_neg z2]
      · rw [if_neg z]
      · have z2 : x / 16384 % 2 = 0 := (nI_z (by omega)).mp (e16.symm.trans z2)
        rw [if_neg z, if_pos z2]
  · intro i hi ih y a w5 hy ha
    subst hy
    have J25 : ∀ v, v = b2i (ahB q (nI D) i = true) → mm_Ex (d + 4) k_X5_fileByLot 25 (0, 0) [.ref 2, .int (nI x), .int (nI D), .int a, .int (nI i), w5] [.int v, .int a] (hH L xs J s F) K := fun v hv => mm_run 20 (ih _ _ _ (nI_1 i) (by rw [hv, ha]; exact nI_b 0 _ i))
    refine mm_run 60 (And.intro (fun z => absurd z (hc.lt hi)) (fun _ => x_canN hc hi (And.intro (fun z => J25 0 z.symm) (fun z => J25 1 ?_))))
    rw [b2i_t (b2i_p z)]
theorem lot1_eq {M : Nat → Nat → Int32} {n x : Nat} : lot1 M n x = S_adds M n (itL (mq M) n x 0) (itL (mq M) n x 1) (itL (mq M) n x 2) (itL (mq M) n x 3) (itL (mq M) n x 4) (itL (mq M) n x 5) := rfl
theorem itL_F {q : Rq} {n x : Nat} : itL q n x = itF (itL q n x 0) (itL q n x 1) (itL q n x 2) (itL q n x 3) (itL q n x 4) (itL q n x 5) := rfl
theorem Cw_lot {M : Nat → Nat → Int32} {n x : Nat} (h : Cw n (mq M)) (h9 : n < 9) : Cw (n + 1) (mq (lot1 M n x)) := by
  rw [lot1_eq]
  refine Cw_adds h h9 ⟨x % 6, by omega, rfl⟩ ⟨x / 8 % 10, by omega, rfl⟩ ?_ ?_ ⟨0, by decide, rfl⟩
  · show nI (x / 128 % 2) = 0 ∨ nI (x / 128 % 2) = 1
    rcases Nat.mod_two_eq_zero_or_one (x / 128) with e | e
    · rw [e]; exact Or.inl rfl
    · rw [e]; exact Or.inr rfl
  · show ((if fa_cnt (ahB (mq M) (nI (x / 8 % 10))) n = 0 then (-9 : Int32) else _) = -9 ∧ (if fa_cnt (ahB (mq M) (nI (x / 8 % 10))) n = 0 then (0 : Int32) else _) = 0) ∨ ∃ j, j < n ∧ (if fa_cnt (ahB (mq M) (nI (x / 8 % 10))) n = 0 then (-9 : Int32) else _) = nI j ∧ ((if fa_cnt (ahB (mq M) (nI (x / 8 % 10))) n = 0 then (0 : Int32) else if x / 16384 % 2 = 0 then -1 else 1) = 1 ∨ (if fa_cnt (ahB (mq M) (nI (x / 8 % 10))) n = 0 then (0 : Int32) else if x / 16384 % 2 = 0 then -1 else 1) = -1) ∧ mq M 1 j < nI (x / 8 % 10)
    by_cases c : fa_cnt (ahB (mq M) (nI (x / 8 % 10))) n = 0
    · rw [if_pos c, if_pos c]
      exact Or.inl ⟨rfl, rfl⟩
    · rw [if_neg c, if_neg c]
      obtain ⟨j, j1, j2, j3⟩ := nthA_ok (n := n) (q := mq M) (of := nI (x / 8 % 10)) (Nat.mod_lt (x / 256) (Nat.pos_of_ne_zero c))
      refine Or.inr ⟨j, j1, j2, ?_, j3⟩
      split
      · exact Or.inr rfl
      · exact Or.inl rfl
theorem Cw_lots {M : Nat → Nat → Int32} {n x : Nat} (h : Cw n (mq M)) : ∀ k, n + k ≤ 9 → Cw (n + k) (mq (lotF M n x k))
  | 0, _ => h
  | k + 1, hk => Cw_lot (M := lotF M n x k) (n := n + k) (Cw_lots h k (by omega)) (by omega)
theorem x_lots (hx : XRc F F) (hn : F 75 10 = nI n) (hc : Cw n (mq F)) {m seed : Int32} (hk : ∀ F1, XT F F1 (S_lots F m seed).2 → K (some (.int (S_lots F m seed).1)) (hH L xs J s F1)) : mm_call mm_Ex (d + 5) k_X5_lots [.ref 2, .int m, .int seed] (hH L xs J s F) K := by
  have hcc := hx.cc hn hc
  have h9 := hc.1
  have e5 := hcc.1
  unfold S_lots at hk
  rw [en_of hn h9, hn] at hk
  have B : ¬ ((1 ≤ m ∧ m ≤ 9) ∧ (1 ≤ seed ∧ seed ≤ 2147483646)) → mm_Ex (d + 5) k_X5_lots 12 (0, 0) [.ref 2, .int m, .int seed, .null, .null] [] (hH L xs J s F) K := fun c => by
    rw [if_neg c] at hk
    exact mm_run 5 (hk _ (XT.same hx))
  have smax : ∀ y : Int32, 0 ≤ y → (y < 2147483647 ↔ y ≤ 2147483646) := fun y hy => by
    rw [Int32.lt_iff_toInt_lt, Int32.le_iff_toInt_le]
    show y.toInt < 2147483647 ↔ y.toInt ≤ 2147483646
    omega
  refine mm_run 60 (And.intro (fun c => B fun y => Int32.not_le.mpr c y.1.1) (fun c1 => And.intro (fun c => B fun y => Int32.not_lt.mpr y.1.2 c) (fun c2 => And.intro (fun c => B fun y => Int32.not_le.mpr c y.2.1) (fun c3 => And.intro (fun c4 => ?_) (fun c => B fun y => c ((smax _ (Int32.le_trans (by decide) y.2.1)).mpr y.2.2))))))
  have c1 := Int32.not_lt.mp c1
  have c2 := Int32.not_lt.mp c2
  have c3 := Int32.not_lt.mp c3
  have c4 := (smax _ (Int32.le_trans (by decide) c3)).mp c4
  rw [if_pos ⟨⟨c1, c2⟩, c3, c4⟩] at hk
  obtain ⟨M, hM, rfl⟩ := in_nI (n := 9) (by decide) (Int32.le_trans (by decide) c1) c2
  obtain ⟨X, hX, rfl⟩ := in_nI (n := 2147483646) (by decide) (Int32.le_trans (by decide) c3) c4
  rw [tn_nI (n := M) (by omega), tn_nI (n := X) (by omega)] at hk
  refine And.intro (fun g => ?_) (fun g => ?_)
  · have g : F 5 6 + nI M ≤ 9 := g
    rw [e5] at g
    rw [if_pos g] at hk
    rw [nI_add] at g hk
    have g := (nI_leI (b := 9) (by omega) (by decide)).mp g
    have hXl : X < 2147483647 := by omega
    refine lp (n := M) (P := fun k => ∀ x y G, x = nI k → y = nI (lotX X k) → XT F G (lotF F n X k) → mm_Ex (d + 5) k_X5_lots 27 (0, 0) [.ref 2, .int (nI M), .int (nI X), .int y, .int x] [] (hH L xs J s G) K) ?_ ?_ _ _ F rfl rfl (XT.same hx)
    · intro x y G hx1 hy hG
      subst hx1
      obtain ⟨m', m9, e1, e2, e3⟩ := hG.2.2.2.1
      have eG : G 5 6 = nI (n + M) := by rw [e1, ← e2]; exact lotF_n hn M
      refine mm_run 60 (And.intro (fun _ => ?_) (fun c => absurd ((nI_leI (by omega) (by omega)).mpr (Nat.le_refl M)) c))
      have := hk _ hG
      rw [← eG] at this
      exact this
    · intro k hk1 ih x y G hx1 hy hG
      subst hx1
      have hxk := lotX_lt hXl k
      obtain ⟨Y, hY⟩ : ∃ Y, lotX X (k + 1) = Y := ⟨_, rfl⟩
      have hYl : Y < 2147483647 := hY ▸ lotX_lt hXl (k + 1)
      have eY : ((48271 : Int64) * (y.toInt64) - (48271 : Int64) * (y.toInt64) / 2147483647 * 2147483647).toInt32 = nI Y := by
        rw [hy, nI_l (by omega)]
        show (lN 48271 * lN (lotX X k) - lN 48271 * lN (lotX X k) / lN 2147483647 * lN 2147483647).toInt32 = nI Y
        rw [lN_mul, pk_lRem (by omega) (by omega) (by omega), ← hY, lN_i]
        show nI (48271 * lotX X k % 2147483647) = nI (lotX X k * 48271 % 2147483647)
        rw [Nat.mul_comm]
      have hcG := hG.2.cc (n := n + k) (lotF_n hn k) (Cw_lots hc k (by omega))
      refine mm_run 60 (And.intro (fun c => absurd c (nleI hk1 (by omega))) (fun _ => ⟨by decide, ?_⟩))
      show mm_call mm_Ex (d + 4) k_X5_fileByLot [.ref 2, .int ((48271 : Int64) * (y.toInt64) - (48271 : Int64) * (y.toInt64) / 2147483647 * 2147483647).toInt32] _ _
      rw [eY]
      refine x_fileByLot hcG (by omega) hYl (ih _ _ _ (nI_1 k) (by rw [hY]) ⟨fun k' hk' => ?_, ?_⟩)
      · unfold add7
        rw [if_neg (by omega), if_neg (by omega)]
        exact hG.1 k' hk'
      · rw [itL_F]
        have := hG.2.adds hcG.1 (by omega) (a := itL (mq (lotF F n X k)) (n + k) Y 0) (b := itL (mq (lotF F n X k)) (n + k) Y 1) (c := itL (mq (lotF F n X k)) (n + k) Y 2) (e := itL (mq (lotF F n X k)) (n + k) Y 3) (f := itL (mq (lotF F n X k)) (n + k) Y 4) (g := itL (mq (lotF F n X k)) (n + k) Y 5)
        rw [← lot1_eq] at this
        show XRc _ (lot1 (lotF F n X k) (n + k) (lotX X (k + 1)))
        rw [hY]
        exact this
  · have g : ¬ F 5 6 + nI M ≤ 9 := g
    rw [e5] at g
    rw [if_neg g] at hk
    exact hk _ (XT.same hx)
theorem x_isKept_0 (hk : K (some (.int (b2i (0 < F 54 6)))) (hH L xs J s F)) : mm_call mm_Ex d k_X5_isKept [.ref 2, .int (nI 0)] (hH L xs J s F) K := by
  have J9 : ∀ v, v = b2i (0 < F 54 6) → mm_Ex d k_X5_isKept 9 (0, 0) [.ref 2, .int (nI 0)] [.int v] (hH L xs J s F) K := fun v e => by
    refine mm_run 5 ⟨?_, ?_⟩
    · rw [e]; exact b2i_01
    · rw [e]; exact hk
  exact mm_run 20 ⟨vp_in_nI (by decide) (by decide), 54, rfl, And.intro (fun z => J9 0 (b2i_f (Int32.not_lt.mpr z)).symm) (fun z => J9 1 (b2i_t (Int32.not_le.mp z)).symm)⟩
theorem x_keep_0 (hx : XRc F F) (hn : F 75 10 = nI n) (hc : Cw n (mq F)) (hk : ∀ F1, XT F F1 (S_keep F (nI 0)).2 → K (some (.int (S_keep F (nI 0)).1)) (hH L xs J s F1)) : mm_call mm_Ex (d + 5) k_X5_keep [.ref 2, .int (nI 0)] (hH L xs J s F) K := by
  have hcc := hx.cc hn hc
  have h9 := hc.1
  have e5 := hcc.1
  unfold S_keep at hk
  rw [if_pos ⟨by decide, by decide⟩, en_of hn h9, hn, tn_nI (n := 0) (by decide)] at hk
  obtain ⟨m, hm9, em⟩ : ∃ m, m ≤ 9 ∧ F 54 6 = nI m := by
    rcases hx.2.2.2.1 0 (by decide) with ⟨a, b⟩ | ⟨m, m0, m9, k1, k2, k3⟩
    · exact ⟨0, by decide, b⟩
    · exact ⟨m, m9, k2⟩
  refine mm_run 60 (x_within (And.intro (fun _ => And.intro (fun c => ⟨vp_in_nI (by decide) (by decide), 54, rfl, x_become_54_5 em hm9 e5 h9 ?_⟩) (fun c => ?_)) (fun z => absurd z (by decide))))
  · have c : ¬ nI n = 0 := fun y => c (e5.trans y)
    have n0 : ¬ n = 0 := fun y => c (by rw [y]; rfl)
    rw [if_neg c] at hk
    dsimp only at hk
    have := hk (becF F 54 5 n) ⟨fun k hk => by unfold becF; rw [if_neg (by omega), if_neg (by omega)], ?_⟩
    · rw [← e5] at this
      exact this
    · refine hx.kpU (k := 0) (by decide) (fun a h1 h2 => by unfold becF; rw [if_neg (by omega), if_neg (by omega)]) (fun a h1 h2 h3 => by rw [upF_ne h3, up2_ne h2]) (fun j hj => by rw [upF_ne (by decide), up2_ne2 hj]) (fun x hx => ?_) (Or.inr ⟨n, by omega, h9, ?_, ?_, fun w hw i hi => ?_⟩)
      · rw [upF_at]
        unfold keepF
        rw [if_neg (by omega)]
      · rw [upF_ne (by decide)]
        exact up2_at
      · rfl
      · rw [upF_at, keep_at hw hi, mq_w hw]
        unfold becF
        rw [if_pos (by omega), fa_fill_in hi]
        obtain ⟨m', m9, e1, e2, e3⟩ := hx.2.2.1
        have en : m' = n := (nI_eq (by omega) (by omega)).mp (e1.symm.trans e5)
        rw [← e3 w hw i (by omega)]
        congr 1
        omega
  · have c : nI n = 0 := e5.symm.trans c
    rw [if_pos c] at hk
    exact hk _ (XT.same hx)
theorem x_on_0 (hx : XRc F F) (hn : F 75 10 = nI n) (hc : Cw n (mq F)) (hk : ∀ F1, XT F F1 (S_on F (nI 0)).2 → K (some (.int (S_on F (nI 0)).1)) (hH L xs J s F1)) : mm_call mm_Ex (d + 5) k_X5_on [.ref 2, .int (nI 0)] (hH L xs J s F) K := by
  have hcc := hx.cc hn hc
  have h9 := hc.1
  have e5 := hcc.1
  unfold S_on at hk
  rw [if_pos ⟨by decide, by decide⟩, tn_nI (n := 0) (by decide)] at hk
  refine mm_run 60 (x_within (And.intro (fun _ => x_isKept_0 ?_) (fun z => absurd z (by decide))))
  rcases hx.2.2.2.1 0 (by decide) with ⟨a, b⟩ | ⟨m, m0, m9, k1, k2, k3⟩
  · have b : F 54 6 = 0 := b
    rw [a, if_neg (by decide)] at hk
    rw [b]
    exact And.intro (fun z => absurd rfl z) (fun _ => x_refuse (w := 1) (by decide) (hk _ ((XT.same hx).fi (by decide))))
  · have k2 : F 54 6 = nI m := k2
    rw [k1, if_pos (nle0 (by omega)), tn_nI (by omega)] at hk
    dsimp only at hk
    rw [k2]
    refine And.intro (fun _ => ⟨vp_in_nI (by decide) (by decide), 54, rfl, x_become_5_54 e5 h9 k2 m9 ?_⟩) (fun z => absurd ((nI_ltI (a := 0) (by decide) (by omega)).mpr m0) (b2i_0.mp z))
    refine hk (becF F 5 54 m) ⟨fun k hk => by unfold becF; rw [if_neg (by omega), if_neg (by omega)], hx.ctU (fun k h1 h2 h3 => by unfold becF; rw [if_neg (by omega), if_neg (by omega)]) (fun k h1 h2 => by rw [onF_k, if_neg h2, if_neg (by omega)]) (by rw [onF_k]; rfl) (by rw [onF_k]; rfl) ⟨m, m9, rfl, by rw [onF_k]; rfl, fun w hw i hi => ?_⟩⟩
    rw [onF_k, if_pos (by omega), fa_fill_in hi]
    unfold becF
    rw [if_pos (by omega), fa_fill_in hi, show 82 + w - 82 = w by omega]
    have := k3 w hw i hi
    rw [← this]
    congr 1
    omega
theorem x_isKept_1 (hk : K (some (.int (b2i (0 < F 61 6)))) (hH L xs J s F)) : mm_call mm_Ex d k_X5_isKept [.ref 2, .int (nI 1)] (hH L xs J s F) K := by
  have J9 : ∀ v, v = b2i (0 < F 61 6) → mm_Ex d k_X5_isKept 9 (0, 0) [.ref 2, .int (nI 1)] [.int v] (hH L xs J s F) K := fun v e => by
    refine mm_run 5 ⟨?_, ?_⟩
    · rw [e]; exact b2i_01
    · rw [e]; exact hk
  exact mm_run 20 ⟨vp_in_nI (by decide) (by decide), 61, rfl, And.intro (fun z => J9 0 (b2i_f (Int32.not_lt.mpr z)).symm) (fun z => J9 1 (b2i_t (Int32.not_le.mp z)).symm)⟩
theorem x_keep_1 (hx : XRc F F) (hn : F 75 10 = nI n) (hc : Cw n (mq F)) (hk : ∀ F1, XT F F1 (S_keep F (nI 1)).2 → K (some (.int (S_keep F (nI 1)).1)) (hH L xs J s F1)) : mm_call mm_Ex (d + 5) k_X5_keep [.ref 2, .int (nI 1)] (hH L xs J s F) K := by
  have hcc := hx.cc hn hc
  have h9 := hc.1
  have e5 := hcc.1
  unfold S_keep at hk
  rw [if_pos ⟨by decide, by decide⟩, en_of hn h9, hn, tn_nI (n := 1) (by decide)] at hk
  obtain ⟨m, hm9, em⟩ : ∃ m, m ≤ 9 ∧ F 61 6 = nI m := by
    rcases hx.2.2.2.1 1 (by decide) with ⟨a, b⟩ | ⟨m, m0, m9, k1, k2, k3⟩
    · exact ⟨0, by decide, b⟩
    · exact ⟨m, m9, k2⟩
  refine mm_run 60 (x_within (And.intro (fun _ => And.intro (fun c => ⟨vp_in_nI (by decide) (by decide), 61, rfl, x_become_61_5 em hm9 e5 h9 ?_⟩) (fun c => ?_)) (fun z => absurd z (by decide))))
  · have c : ¬ nI n = 0 := fun y => c (e5.trans y)
    have n0 : ¬ n = 0 := fun y => c (by rw [y]; rfl)
    rw [if_neg c] at hk
    dsimp only at hk
    have := hk (becF F 61 5 n) ⟨fun k hk => by unfold becF; rw [if_neg (by omega), if_neg (by omega)], ?_⟩
    · rw [← e5] at this
      exact this
    · refine hx.kpU (k := 1) (by decide) (fun a h1 h2 => by unfold becF; rw [if_neg (by omega), if_neg (by omega)]) (fun a h1 h2 h3 => by rw [upF_ne h3, up2_ne h2]) (fun j hj => by rw [upF_ne (by decide), up2_ne2 hj]) (fun x hx => ?_) (Or.inr ⟨n, by omega, h9, ?_, ?_, fun w hw i hi => ?_⟩)
      · rw [upF_at]
        unfold keepF
        rw [if_neg (by omega)]
      · rw [upF_ne (by decide)]
        exact up2_at
      · rfl
      · rw [upF_at, keep_at hw hi, mq_w hw]
        unfold becF
        rw [if_pos (by omega), fa_fill_in hi]
        obtain ⟨m', m9, e1, e2, e3⟩ := hx.2.2.1
        have en : m' = n := (nI_eq (by omega) (by omega)).mp (e1.symm.trans e5)
        rw [← e3 w hw i (by omega)]
        congr 1
        omega
  · have c : nI n = 0 := e5.symm.trans c
    rw [if_pos c] at hk
    exact hk _ (XT.same hx)
theorem x_on_1 (hx : XRc F F) (hn : F 75 10 = nI n) (hc : Cw n (mq F)) (hk : ∀ F1, XT F F1 (S_on F (nI 1)).2 → K (some (.int (S_on F (nI 1)).1)) (hH L xs J s F1)) : mm_call mm_Ex (d + 5) k_X5_on [.ref 2, .int (nI 1)] (hH L xs J s F) K := by
  have hcc := hx.cc hn hc
  have h9 := hc.1
  have e5 := hcc.1
  unfold S_on at hk
  rw [if_pos ⟨by decide, by decide⟩, tn_nI (n := 1) (by decide)] at hk
  refine mm_run 60 (x_within (And.intro (fun _ => x_isKept_1 ?_) (fun z => absurd z (by decide))))
  rcases hx.2.2.2.1 1 (by decide) with ⟨a, b⟩ | ⟨m, m0, m9, k1, k2, k3⟩
  · have b : F 61 6 = 0 := b
    rw [a, if_neg (by decide)] at hk
    rw [b]
    exact And.intro (fun z => absurd rfl z) (fun _ => x_refuse (w := 1) (by decide) (hk _ ((XT.same hx).fi (by decide))))
  · have k2 : F 61 6 = nI m := k2
    rw [k1, if_pos (nle0 (by omega)), tn_nI (by omega)] at hk
    dsimp only at hk
    rw [k2]
    refine And.intro (fun _ => ⟨vp_in_nI (by decide) (by decide), 61, rfl, x_become_5_61 e5 h9 k2 m9 ?_⟩) (fun z => absurd ((nI_ltI (a := 0) (by decide) (by omega)).mpr m0) (b2i_0.mp z))
    refine hk (becF F 5 61 m) ⟨fun k hk => by unfold becF; rw [if_neg (by omega), if_neg (by omega)], hx.ctU (fun k h1 h2 h3 => by unfold becF; rw [if_neg (by omega), if_neg (by omega)]) (fun k h1 h2 => by rw [onF_k, if_neg h2, if_neg (by omega)]) (by rw [onF_k]; rfl) (by rw [onF_k]; rfl) ⟨m, m9, rfl, by rw [onF_k]; rfl, fun w hw i hi => ?_⟩⟩
    rw [onF_k, if_pos (by omega), fa_fill_in hi]
    unfold becF
    rw [if_pos (by omega), fa_fill_in hi, show 82 + w - 82 = w by omega]
    have := k3 w hw i hi
    rw [← this]
    congr 1
    omega
theorem x_isKept_2 (hk : K (some (.int (b2i (0 < F 68 6)))) (hH L xs J s F)) : mm_call mm_Ex d k_X5_isKept [.ref 2, .int (nI 2)] (hH L xs J s F) K := by
  have J9 : ∀ v, v = b2i (0 < F 68 6) → mm_Ex d k_X5_isKept 9 (0, 0) [.ref 2, .int (nI 2)] [.int v] (hH L xs J s F) K := fun v e => by
    refine mm_run 5 ⟨?_, ?_⟩
    · rw [e]; exact b2i_01
    · rw [e]; exact hk
  exact mm_run 20 ⟨vp_in_nI (by decide) (by decide), 68, rfl, And.intro (fun z => J9 0 (b2i_f (Int32.not_lt.mpr z)).symm) (fun z => J9 1 (b2i_t (Int32.not_le.mp z)).symm)⟩
theorem x_keep_2 (hx : XRc F F) (hn : F 75 10 = nI n) (hc : Cw n (mq F)) (hk : ∀ F1, XT F F1 (S_keep F (nI 2)).2 → K (some (.int (S_keep F (nI 2)).1)) (hH L xs J s F1)) : mm_call mm_Ex (d + 5) k_X5_keep [.ref 2, .int (nI 2)] (hH L xs J s F) K := by
  have hcc := hx.cc hn hc
  have h9 := hc.1
  have e5 := hcc.1
  unfold S_keep at hk
  rw [if_pos ⟨by decide, by decide⟩, en_of hn h9, hn, tn_nI (n := 2) (by decide)] at hk
  obtain ⟨m, hm9, em⟩ : ∃ m, m ≤ 9 ∧ F 68 6 = nI m := by
    rcases hx.2.2.2.1 2 (by decide) with ⟨a, b⟩ | ⟨m, m0, m9, k1, k2, k3⟩
    · exact ⟨0, by decide, b⟩
    · exact ⟨m, m9, k2⟩
  refine mm_run 60 (x_within (And.intro (fun _ => And.intro (fun c => ⟨vp_in_nI (by decide) (by decide), 68, rfl, x_become_68_5 em hm9 e5 h9 ?_⟩) (fun c => ?_)) (fun z => absurd z (by decide))))
  · have c : ¬ nI n = 0 := fun y => c (e5.trans y)
    have n0 : ¬ n = 0 := fun y => c (by rw [y]; rfl)
    rw [if_neg c] at hk
    dsimp only at hk
    have := hk (becF F 68 5 n) ⟨fun k hk => by unfold becF; rw [if_neg (by omega), if_neg (by omega)], ?_⟩
    · rw [← e5] at this
      exact this
    · refine hx.kpU (k := 2) (by decide) (fun a h1 h2 => by unfold becF; rw [if_neg (by omega), if_neg (by omega)]) (fun a h1 h2 h3 => by rw [upF_ne h3, up2_ne h2]) (fun j hj => by rw [upF_ne (by decide), up2_ne2 hj]) (fun x hx => ?_) (Or.inr ⟨n, by omega, h9, ?_, ?_, fun w hw i hi => ?_⟩)
      · rw [upF_at]
        unfold keepF
        rw [if_neg (by omega)]
      · rw [upF_ne (by decide)]
        exact up2_at
      · rfl
      · rw [upF_at, keep_at hw hi, mq_w hw]
        unfold becF
        rw [if_pos (by omega), fa_fill_in hi]
        obtain ⟨m', m9, e1, e2, e3⟩ := hx.2.2.1
        have en : m' = n := (nI_eq (by omega) (by omega)).mp (e1.symm.trans e5)
        rw [← e3 w hw i (by omega)]
        congr 1
        omega
  · have c : nI n = 0 := e5.symm.trans c
    rw [if_pos c] at hk
    exact hk _ (XT.same hx)
theorem x_on_2 (hx : XRc F F) (hn : F 75 10 = nI n) (hc : Cw n (mq F)) (hk : ∀ F1, XT F F1 (S_on F (nI 2)).2 → K (some (.int (S_on F (nI 2)).1)) (hH L xs J s F1)) : mm_call mm_Ex (d + 5) k_X5_on [.ref 2, .int (nI 2)] (hH L xs J s F) K := by
  have hcc := hx.cc hn hc
  have h9 := hc.1
  have e5 := hcc.1
  unfold S_on at hk
  rw [if_pos ⟨by decide, by decide⟩, tn_nI (n := 2) (by decide)] at hk
  refine mm_run 60 (x_within (And.intro (fun _ => x_isKept_2 ?_) (fun z => absurd z (by decide))))
  rcases hx.2.2.2.1 2 (by decide) with ⟨a, b⟩ | ⟨m, m0, m9, k1, k2, k3⟩
  · have b : F 68 6 = 0 := b
    rw [a, if_neg (by decide)] at hk
    rw [b]
    exact And.intro (fun z => absurd rfl z) (fun _ => x_refuse (w := 1) (by decide) (hk _ ((XT.same hx).fi (by decide))))
  · have k2 : F 68 6 = nI m := k2
    rw [k1, if_pos (nle0 (by omega)), tn_nI (by omega)] at hk
    dsimp only at hk
    rw [k2]
    refine And.intro (fun _ => ⟨vp_in_nI (by decide) (by decide), 68, rfl, x_become_5_68 e5 h9 k2 m9 ?_⟩) (fun z => absurd ((nI_ltI (a := 0) (by decide) (by omega)).mpr m0) (b2i_0.mp z))
    refine hk (becF F 5 68 m) ⟨fun k hk => by unfold becF; rw [if_neg (by omega), if_neg (by omega)], hx.ctU (fun k h1 h2 h3 => by unfold becF; rw [if_neg (by omega), if_neg (by omega)]) (fun k h1 h2 => by rw [onF_k, if_neg h2, if_neg (by omega)]) (by rw [onF_k]; rfl) (by rw [onF_k]; rfl) ⟨m, m9, rfl, by rw [onF_k]; rfl, fun w hw i hi => ?_⟩⟩
    rw [onF_k, if_pos (by omega), fa_fill_in hi]
    unfold becF
    rw [if_pos (by omega), fa_fill_in hi, show 82 + w - 82 = w by omega]
    have := k3 w hw i hi
    rw [← this]
    congr 1
    omega
theorem x_keep (hx : XRc F F) (hn : F 75 10 = nI n) (hc : Cw n (mq F)) {k : Int32} (hk : ∀ F1, XT F F1 (S_keep F k).2 → K (some (.int (S_keep F k).1)) (hH L xs J s F1)) : mm_call mm_Ex (d + 5) k_X5_keep [.ref 2, .int k] (hH L xs J s F) K := by
  by_cases c : 0 ≤ k ∧ k ≤ 2
  · obtain ⟨j, hj, rfl⟩ := in_nI (n := 2) (by decide) c.1 c.2
    match j, hj with
    | 0, _ => exact x_keep_0 hx hn hc hk
    | 1, _ => exact x_keep_1 hx hn hc hk
    | 2, _ => exact x_keep_2 hx hn hc hk
  · unfold S_keep at hk
    rw [if_neg c] at hk
    exact mm_run 60 (x_within (And.intro (fun z => absurd (in3.mp (b2i_p z)) c) (fun _ => hk _ (XT.same hx))))
theorem x_on (hx : XRc F F) (hn : F 75 10 = nI n) (hc : Cw n (mq F)) {k : Int32} (hk : ∀ F1, XT F F1 (S_on F k).2 → K (some (.int (S_on F k).1)) (hH L xs J s F1)) : mm_call mm_Ex (d + 5) k_X5_on [.ref 2, .int k] (hH L xs J s F) K := by
  by_cases c : 0 ≤ k ∧ k ≤ 2
  · obtain ⟨j, hj, rfl⟩ := in_nI (n := 2) (by decide) c.1 c.2
    match j, hj with
    | 0, _ => exact x_on_0 hx hn hc hk
    | 1, _ => exact x_on_1 hx hn hc hk
    | 2, _ => exact x_on_2 hx hn hc hk
  · unfold S_on at hk
    rw [if_neg c] at hk
    exact mm_run 60 (x_within (And.intro (fun z => absurd (in3.mp (b2i_p z)) c) (fun _ => hk _ (XT.same hx))))
end XLo
