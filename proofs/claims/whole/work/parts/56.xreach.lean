/-! the class: what can be reached by filing -/
theorem br_bmp {F : Nat → Nat → Int32} {n : Nat} {q : Rq} {lf : Int32} {ab : Nat} {fl : Nat → Nat} {c : Nat} {v : Int32} (hb : BR F n q lf ab fl) (hv : v = nI (fl c + 1)) (hl : fl c < 9) : BR (upF F 29 (upd (F 29) c v)) n q lf ab (bmp fl c) := by
  obtain ⟨a, b, e, f⟩ := hb
  refine ⟨a, b, e, fun i hi => ?_⟩
  obtain ⟨a1, a2, a3, a4, a5, a6, a7⟩ := f i hi
  refine ⟨a1, a2, a3, a4, a5, ?_, ?_⟩
  · show upd (F 29) c v i = _
    unfold bmp
    by_cases h : i = c
    · rw [h, upd_at, if_pos rfl]
      exact hv
    · rw [upd_ne h, if_neg (fun y => h y.symm)]
      exact a6
  · unfold bmp
    by_cases h : c = i
    · rw [if_pos h, ← h]
      omega
    · rw [if_neg h]
      exact a7
theorem br_unb {F : Nat → Nat → Int32} {n : Nat} {q : Rq} {lf : Int32} {ab : Nat} {fl : Nat → Nat} {c : Nat} {v : Int32} (hb : BR F n q lf ab (bmp fl c)) (hv : v = nI (fl c)) (hl : ∀ i, fl i ≤ 9) : BR (upF F 29 (upd (F 29) c v)) n q lf ab fl := by
  obtain ⟨a, b, e, f⟩ := hb
  refine ⟨a, b, e, fun i hi => ?_⟩
  obtain ⟨a1, a2, a3, a4, a5, a6, a7⟩ := f i hi
  refine ⟨a1, a2, a3, a4, a5, ?_, hl i⟩
  show upd (F 29) c v i = _
  by_cases h : i = c
  · rw [h, upd_at]
    exact hv
  · rw [upd_ne h, a6]
    unfold bmp
    rw [if_neg (fun y => h y.symm)]
    rfl
theorem BR.up32 {F : Nat → Nat → Int32} {n : Nat} {q : Rq} {lf : Int32} {ab : Nat} {fl : Nat → Nat} {g : Nat → Int32} (hb : BR F n q lf ab fl) : BR (upF F 32 g) n q lf ab fl := hb
theorem cr_lt {n : Nat} {lim : Nat → Nat} {R : (Nat → Nat) → Bool} : ∀ {k first : Nat} {fl : Nat → Nat} {r : Nat}, crL n lim R k first fl = some r → r < n ^ k
  | 0, first, fl, r, h => by
    unfold crL at h
    split at h
    · cases h
      simp
    · cases h
  | k + 1, first, fl, r, h => by
    unfold crL at h
    dsimp only at h
    split at h
    · rename_i hf
      obtain ⟨a, ha, hb⟩ := Option.map_eq_some_iff.mp h
      have := cr_lt ha
      rw [← hb, Nat.pow_succ]
      have h2 := Nat.mul_le_mul_right (n ^ k) (Nat.succ_le_of_lt hf)
      rw [Nat.succ_mul, Nat.mul_comm n] at h2
      omega
    · cases h
section XRe
variable {d L s : Nat} {xs : Nat → Int32} {J : Nat → Int64} {F : Nat → Nat → Int32} {K : mm_K} {h : mm_H} {n : Nat} {q : Rq}
theorem x_isMoved {fl : Nat → Nat} {lf : Int32} {ab : Nat} (hb : BR F n q lf ab fl) {c : Nat} (hc : c < n) (hk : K (some (.int (b2i (fl c < limK (q 0 c))))) (hH L xs J s F)) : mm_call mm_Ex d k_X0_isMovedByOneMore [.ref 23, .int (nI c)] (hH L xs J s F) K := by
  have h9 := hb.2.2.1.1
  obtain ⟨a1, a2, a3, a4, a5, a6, a7⟩ := hb.2.2.2 c hc
  have ec : (nI c).toNatClampNeg = c := tn_nI (by omega)
  have e0 : F 24 (nI c).toNatClampNeg = q 0 c := by rw [ec]; exact a1
  have e9 : F 29 (nI c).toNatClampNeg = nI (fl c) := by rw [ec]; exact a6
  have hv : vp_in (nI c) 9 := vp_in_nI (by omega) (by decide)
  unfold limK at hk
  have J23 : ∀ v, v = b2i (fl c < (if q 0 c = 5 then 0 else if q 0 c = 2 then 2 else 1)) → mm_Ex d k_X0_isMovedByOneMore 23 (0, 0) [.ref 23, .int (nI c)] [.int v] (hH L xs J s F) K := fun v e => by
    refine mm_run 5 ⟨?_, ?_⟩
    · rw [e]; exact b2i_01
    · rw [e]; exact hk
  have J22 : ¬ (fl c < (if q 0 c = 5 then 0 else if q 0 c = 2 then 2 else 1)) → mm_Ex d k_X0_isMovedByOneMore 22 (0, 0) [.ref 23, .int (nI c)] [] (hH L xs J s F) K := fun y => mm_run 5 (J23 0 (b2i_f y).symm)
  have J19 : ∀ l v y, ¬ q 0 c = 5 → l = (if q 0 c = 2 then 2 else 1) → v = nI l → y = nI (fl c) → l ≤ 2 → mm_Ex d k_X0_isMovedByOneMore 19 (0, 0) [.ref 23, .int (nI c)] [.int v, .int y] (hH L xs J s F) K := fun l v y h5 hl hv hy hl2 => by
    subst hv hy
    refine mm_run 10 (And.intro (fun z => J22 ?_) (fun z => J23 1 (b2i_t ?_).symm))
    · rw [if_neg h5, ← hl]
      have := (nI_leI (by omega) (by omega)).mp z
      omega
    · rw [if_neg h5, ← hl]
      exact Nat.lt_of_not_le fun y => z ((nI_leI (by omega) (by omega)).mpr y)
  refine mm_run 60 ⟨hv, And.intro (fun z => J22 ?_) (fun z => ⟨hv, hv, And.intro (fun z2 => J19 1 _ _ ?_ ?_ rfl e9 (by decide)) (fun z2 => J19 2 _ _ ?_ ?_ rfl e9 (by decide))⟩)⟩
  · have z : q 0 c = 5 := e0.symm.trans z
    rw [if_pos z]
    omega
  · exact fun y => z (e0.trans y)
  · rw [if_neg (fun y => z2 (e0.trans y))]
  · exact fun y => z (e0.trans y)
  · rw [if_pos (e0.symm.trans z2)]
theorem x_meets {fl : Nat → Nat} (h9 : n ≤ 9) (hw : WR F n (wayB n q fl (2 ^ n - 1))) {goal ii : Int32} {j : Nat} (hg : goal = 0 ∨ goal = 1 ∨ goal = 2) (hj : ¬ goal = 2 → j < n ∧ ii = nI j) (hk : K (some (.int (b2i (rchB n q fl goal j = true)))) (hH L xs J s F)) : mm_call mm_Ex (d + 1) k_X4_meets [.ref 30, .int goal, .int ii] (hH L xs J s F) K := by
  have hp9 := pw9 h9
  have hp := Nat.two_pow_pos n
  obtain ⟨w, hw0⟩ : ∃ w, wayB n q fl (2 ^ n - 1) = w := ⟨_, rfl⟩
  have est : stS n (2 ^ n - 1) (wayB n q fl (2 ^ n - 1)) = _ := st_any (by omega) (fun S hS => way_in hS)
  have efl : flS n (2 ^ n - 1) (wayB n q fl (2 ^ n - 1)) = _ := fl_any
  have er : rchB n q fl goal j = (if goal = 2 then decide (fa_cnt w (2 ^ n) = 1) else if goal = 0 then (if fa_cnt w (2 ^ n) = 0 then 0 else dif (2 ^ n - 1) (unN w (2 ^ n))).testBit j else (if fa_cnt w (2 ^ n) = 0 then 0 else stN (2 ^ n - 1) w (2 ^ n)).testBit j) := by
    unfold rchB
    dsimp only
    rw [est, efl, hw0]
  rw [er] at hk
  rw [hw0] at hw
  have cl := fa_cnt_le w (2 ^ n)
  have J10 : ∀ v, v = b2i (decide (fa_cnt w (2 ^ n) = 1) = true) → goal = 2 → mm_Ex (d + 1) k_X4_meets 10 (0, 0) [.ref 30, .int goal, .int ii] [.int v] (hH L xs J s F) K := fun v e h2 => by
    rw [if_pos h2] at hk
    refine mm_run 5 ⟨?_, ?_⟩
    · rw [e]; exact b2i_01
    · rw [e]; exact hk
  have J19 : ∀ v X, v = nI X → ¬ goal = 2 → (if goal = 2 then decide (fa_cnt w (2 ^ n) = 1) else if goal = 0 then (if fa_cnt w (2 ^ n) = 0 then 0 else dif (2 ^ n - 1) (unN w (2 ^ n))).testBit j else (if fa_cnt w (2 ^ n) = 0 then 0 else stN (2 ^ n - 1) w (2 ^ n)).testBit j) = X.testBit j → mm_Ex (d + 1) k_X4_meets 19 (0, 0) [.ref 30, .int goal, .int ii] [.int v] (hH L xs J s F) K := fun v X e h2 h3 => by
    subst e
    rw [h3] at hk
    obtain ⟨jn, ej⟩ := hj h2
    subst ej
    exact mm_run 10 (x_holdsN (by omega) ⟨b2i_01, hk⟩)
  have e30 : F 30 1 = nI (fa_cnt w (2 ^ n)) := hw.1
  refine mm_run 60 (And.intro (fun h2 => And.intro (fun h1 => x_surelyFalling h9 hw (J19 _ _ rfl h2 ?_)) (fun h1 => x_surelyStanding h9 hw (J19 _ _ rfl h2 ?_))) (fun h2 => And.intro (fun c => J10 0 (b2i_f ?_).symm h2) (fun c => J10 1 (b2i_t ?_).symm h2)))
  · have h0 : goal = 0 := by
      rcases hg with h0 | h0 | h0
      · exact h0
      · exact absurd h0 h1
      · exact absurd h0 h2
    rw [if_neg h2, if_pos h0]
  · rw [if_neg h2, if_neg (by rw [h1]; decide)]
  · have c : ¬ F 30 1 = nI 1 := c
    rw [e30] at c
    simp only [decide_eq_true_eq]
    exact fun y => c (by rw [y])
  · have c : F 30 1 = nI 1 := c
    rw [e30] at c
    simp only [decide_eq_true_eq]
    exact (nI_eq (by omega) (by decide)).mp c
theorem x_canReach (h9 : n ≤ 9) {goal ii : Int32} {j : Nat} (hg : goal = 0 ∨ goal = 1 ∨ goal = 2) (hj : ¬ goal = 2 → j < n ∧ ii = nI j) : ∀ k, k ≤ 3 → ∀ first fl G (K : mm_K), first ≤ n → (∀ c, fl c + k ≤ 3) → XS F G → BR G n q (-9) 0 fl →
    (crL n (fun c => limK (q 0 c)) (fun fl => rchB n q fl goal j) k first fl = none → ∀ G', XS F G' → BR G' n q (-9) 0 fl → K (some (.int 0)) (hH L xs J s G')) →
    (∀ r, crL n (fun c => limK (q 0 c)) (fun fl => rchB n q fl goal j) k first fl = some r → ∀ G', XS F G' → BR G' n q (-9) 0 fl → (∀ x, x < k → G' 32 x = nI (dgt n r x)) → K (some (.int 1)) (hH L xs J s G')) →
    mm_call mm_Ex (d + 4 + k) k_X5_canReach [.ref 2, .int goal, .int ii, .int (nI k), .int (nI first)] (hH L xs J s G) K := by
  intro k
  induction k with
  | zero =>
    intro _ first fl G K hf hfl hG hb h0 h1
    have J5 : mm_Ex (d + 4 + 0) k_X5_canReach 5 (0, 0) [.ref 2, .int goal, .int ii, .int (nI 0), .int (nI first), .null, .null] [] (hH L xs J s G) K := by
      refine mm_run 60 (x_find hb fun G2 hG2 hw => x_meets h9 (by rw [← W_eq0 h9]; exact hw) hg hj ⟨b2i_01, ?_⟩)
      have hG3 := hG.tr hG2.xs
      unfold crL at h0 h1
      by_cases c : rchB n q fl goal j = true
      · rw [b2i_t c]
        exact h1 0 (if_pos c) _ hG3 (hG2.br hb) (fun x hx => absurd hx (Nat.not_lt_zero x))
      · rw [b2i_f c]
        exact h0 (if_neg c) _ hG3 (hG2.br hb)
    exact mm_run 60 (And.intro (fun _ => J5) (fun c => absurd (show nI 0 ≤ 0 by decide) c))
  | succ k ih =>
    intro hk3 first fl G K hf hfl hG hb h0 h1
    have e0 : ∀ p : Nat → Bool, p = (fun c => decide (first ≤ c) && (decide (fl c < limK (q 0 c)) && (crL n (fun c => limK (q 0 c)) (fun fl => rchB n q fl goal j) k c (bmp fl c)).isSome)) → crL n (fun c => limK (q 0 c)) (fun fl => rchB n q fl goal j) (k + 1) first fl = if fa_first p n < n then (crL n (fun c => limK (q 0 c)) (fun fl => rchB n q fl goal j) k (fa_first p n) (bmp fl (fa_first p n))).map (fun r => fa_first p n * n ^ k + r) else none := fun p hp => by rw [hp]; rfl
    obtain ⟨p, hp⟩ : ∃ p : Nat → Bool, p = (fun c => decide (first ≤ c) && (decide (fl c < limK (q 0 c)) && (crL n (fun c => limK (q 0 c)) (fun fl => rchB n q fl goal j) k c (bmp fl c)).isSome)) := ⟨_, rfl⟩
    have ep : ∀ c, p c = (decide (first ≤ c) && (decide (fl c < limK (q 0 c)) && (crL n (fun c => limK (q 0 c)) (fun fl => rchB n q fl goal j) k c (bmp fl c)).isSome)) := fun c => by rw [hp]
    rw [e0 p hp] at h0 h1
    have ek1 : nI (k + 1) - 1 = nI k := nI_pred k
    have LOOP : ∀ x (w6 : Value) G, x = nI first → XS F G → BR G n q (-9) 0 fl → mm_Ex (d + 4 + (k + 1)) k_X5_canReach 18 (0, 0) [.ref 2, .int goal, .int ii, .int (nI (k + 1)), .int (nI first), .int x, w6] [] (hH L xs J s G) K := by
      refine fun x w6 G hx hG hb => lp (n := n - first) (P := fun e => (∀ c, c < first + e → p c = false) → ∀ x (w6 : Value) G, x = nI (first + e) → XS F G → BR G n q (-9) 0 fl → mm_Ex (d + 4 + (k + 1)) k_X5_canReach 18 (0, 0) [.ref 2, .int goal, .int ii, .int (nI (k + 1)), .int (nI first), .int x, w6] [] (hH L xs J s G) K) ?_ ?_ (fun c hc => ?_) x w6 G hx hG hb
      · intro ha x w6 G hx hG hb
        rw [show first + (n - first) = n by omega] at hx ha
        subst hx
        have e7 : G 23 7 = nI n := hb.1
        refine mm_run 60 (And.intro (fun _ => ⟨Or.inl rfl, ?_⟩) (fun c => absurd ?_ c))
        · refine h0 (if_neg ?_) _ hG hb
          rw [first_N ha]
          exact Nat.lt_irrefl _
        · show G 23 7 ≤ nI n
          rw [e7]
          exact (nI_leI (by omega) (by omega)).mpr (Nat.le_refl n)
      · intro e he ihe ha x w6 G hx hG hb
        obtain ⟨c, hc⟩ : ∃ c, first + e = c := ⟨_, rfl⟩
        rw [hc] at hx ha
        have hcn : c < n := by omega
        subst hx
        have e7 : G 23 7 = nI n := hb.1
        have ec : (nI c).toNatClampNeg = c := tn_nI (by omega)
        have hv : vp_in (nI c) 9 := vp_in_nI (by omega) (by decide)
        have J66 : ∀ (w6 : Value) G, p c = false → XS F G → BR G n q (-9) 0 fl → mm_Ex (d + 4 + (k + 1)) k_X5_canReach 66 (0, 0) [.ref 2, .int goal, .int ii, .int (nI (k + 1)), .int (nI first), .int (nI c), w6] [] (hH L xs J s G) K := fun w6 G hpc h1 h2 => mm_run 10 (ihe (fun c' hc' => by
          by_cases e2 : c' = c
          · rw [e2]; exact hpc
          · exact ha c' (by omega)) _ _ _ (by rw [nI_1, ← hc]; rfl) h1 h2)
        refine mm_run 60 (And.intro (fun z => absurd (show G 23 7 ≤ nI c from z) (by rw [e7]; exact nleI hcn (by omega))) (fun _ => x_isMoved hb hcn (And.intro (fun z => J66 _ _ ?_ hG hb) (fun z => ⟨hv, hv, ?_⟩))))
        · rw [ep]
          simp [b2i_0.mp z]
        · have z := b2i_p z
          obtain ⟨a1, a2, a3, a4, a5, a6, a7⟩ := hb.2.2.2 c hcn
          have f3 := hfl c
          have e9 : G 29 (nI c).toNatClampNeg + 1 = nI (fl c + 1) := by rw [ec, a6, nI_1]
          refine kc (hp1 (F := G) (k := 29) (g := upd (G 29) c (nI (fl c + 1))) (by show mI 9 (upd (G 29) c _) = mI 9 (upd (G 29) (nI c).toNatClampNeg (G 29 (nI c).toNatClampNeg + 1)); rw [e9, ec])) ?_
          show mm_call mm_Ex (d + 4 + k) k_X5_canReach [.ref 2, .int goal, .int ii, .int (nI (k + 1) - 1), .int (nI c)] _ _
          rw [ek1]
          refine ih (by omega) c (bmp fl c) _ _ (by omega) (fun x => ?_) (hG.tr (XS.up (by omega))) (br_bmp hb rfl (by omega)) (fun hnone G' hG' hb' => ?_) (fun r hsome G' hG' hb' hpk => ?_)
          · have := hfl x
            unfold bmp
            split <;> omega
          · obtain ⟨b1, b2, b3, b4, b5, b6, b7⟩ := hb'.2.2.2 c hcn
            have e9' : G' 29 (nI c).toNatClampNeg - 1 = nI (fl c) := by
              rw [ec, b6]
              unfold bmp
              rw [if_pos rfl, nI_pred]
            refine ⟨hv, hv, And.intro (fun _ => ?_) (fun y => absurd rfl y)⟩
            refine kx (hp1 (F := G') (k := 29) (g := upd (G' 29) c (nI (fl c))) (by show mI 9 (upd (G' 29) c _) = mI 9 (upd (G' 29) (nI c).toNatClampNeg (G' 29 (nI c).toNatClampNeg - 1)); rw [e9', ec])) (J66 _ _ ?_ (hG'.tr (XS.up (by omega))) (br_unb hb' rfl (fun i => by have := hfl i; omega)))
            rw [ep, hnone]
            simp
          · obtain ⟨b1, b2, b3, b4, b5, b6, b7⟩ := hb'.2.2.2 c hcn
            have e9' : G' 29 (nI c).toNatClampNeg - 1 = nI (fl c) := by
              rw [ec, b6]
              unfold bmp
              rw [if_pos rfl, nI_pred]
            have vk : vp_in (nI (k + 1) - 1) 3 := by rw [ek1]; exact vp_in_nI (by omega) (by decide)
            refine ⟨hv, hv, And.intro (fun y => absurd y (by decide)) (fun _ => ⟨vk, Or.inr rfl, ?_⟩)⟩
            have efirst : fa_first p n = c := first_eq hcn (by rw [ep, hsome]; simp [z]; omega) ha
            have hr := cr_lt hsome
            have hd := dgt_lo n (by omega) c hcn k (by omega) r hr
            refine kh (K := K) (hp2 (F := G') (k := 29) (k2 := 32) (g := upd (G' 29) c (nI (fl c))) (g2 := upd (G' 32) k (nI c)) (by show mI 9 (upd (G' 29) c _) = mI 9 (upd (G' 29) (nI c).toNatClampNeg (G' 29 (nI c).toNatClampNeg - 1)); rw [e9', ec]) (by show mI 3 (upd (G' 32) k _) = mI 3 (upd (G' 32) (nI (k + 1) - 1).toNatClampNeg (nI c)); rw [ek1, tn_nI (by omega)])) (h1 (c * n ^ k + r) ?_ _ ((hG'.tr (XS.up (by omega))).tr (XS.up (by omega))) (BR.up32 (br_unb hb' rfl (fun i => by have := hfl i; omega))) (fun x hx => ?_))
            · rw [efirst, if_pos hcn, hsome]
              rfl
            · show upd (G' 32) k (nI c) x = _
              by_cases e2 : x = k
              · rw [e2, upd_at, hd.1]
              · rw [upd_ne e2, hd.2 x (by omega)]
                exact hpk x (by omega)
      · rw [Nat.add_zero] at hc
        rw [ep]
        have : ¬ first ≤ c := by omega
        simp [this]
    refine mm_run 60 (And.intro (fun c => absurd ((nI_leI (b := 0) (by omega) (by decide)).mp c) (by omega)) (fun _ => And.intro (fun _ => LOOP _ _ G rfl hG hb) (fun c => absurd ((nI_leI (b := 3) (by omega) (by decide)).mpr (by omega)) c)))
end XRe
