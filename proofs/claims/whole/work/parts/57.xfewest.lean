/-! the class: what to file -/
theorem rw_out {g : Nat → Int32} {R m N code : Nat} (hm : m ≤ 3) {x : Nat} (h : ¬ (40 * R ≤ x ∧ x < 40 * R + 40)) : ∀ j, rwF g R m N code j x = g x
  | 0 => rfl
  | j + 1 => by
    rw [rwF, upd_ne (by omega)]
    exact rw_out hm h j
theorem rw_at {g : Nat → Int32} {R m N code : Nat} : ∀ {j x : Nat}, j ≤ m → m - j ≤ x → x < m → rwF g R m N code j (40 * R + x) = nI (dgt N code (m - 1 - x))
  | 0, x, _, h1, h2 => by omega
  | j + 1, x, hj, h1, h2 => by
    rw [rwF]
    by_cases e : x = m - 1 - j
    · rw [e, upd_at]
      congr 2
      omega
    · rw [upd_ne (by omega)]
      exact rw_at (by omega) (by omega) h2
theorem XT.files {F G : Nat → Nat → Int32} (hx : XRc F F) (hG : XS F G) {R m r n : Nat} (hR : R < 6) (hm : m ≤ 3) {g : Nat → Int32} (hg : ∀ y, y < m → g y = nI (dgt n r (m - 1 - y))) : XT F (upF (up2 G (34 + 2 * R) 1 (nI m)) (35 + 2 * R) g) (fiF F n R m r) := by
  obtain ⟨h1, h2⟩ := hG.xt hx
  refine ⟨fun k hk => by rw [upF_ne (by omega), up2_ne (by omega)]; exact h1 k hk, ?_⟩
  unfold fiF
  refine h2.rowU hR (fun k k1 k2 k3 => by rw [upF_ne k3, up2_ne k2]) (fun k k1 k2 k3 => by rw [upF_ne k3, up2_ne k2]) (fun j hj => ?_) (fun x hx => ?_) (Or.inr ⟨m, by omega, ?_, ?_, fun k hk => ?_⟩)
  · rw [upF_ne (by decide), up2_ne2 hj]
  · rw [upF_at, rw_out hm hx]
    unfold fil
    rw [if_neg (by omega)]
  · rw [upF_ne (by decide)]
    exact up2_at
  · rw [upF_ne (by omega)]
    exact up2_at
  · rw [upF_at, upF_at, hg k hk, rw_at (Nat.le_refl m) (by omega) hk]
section XFw
variable {d L s : Nat} {xs : Nat → Int32} {J : Nat → Int64} {F : Nat → Nat → Int32} {K : mm_K} {h : mm_H} {n : Nat} {q : Rq}
theorem x_fewest_0 (hx : XRc F F) (hn : F 75 10 = nI n) (hc : Cw n (mq F)) {goal ii : Int32} {j : Nat} (hg : goal = 0 ∨ goal = 1 ∨ goal = 2) (hj : ¬ goal = 2 → j < n ∧ ii = nI j) (hk : ∀ F1, XT F F1 (S_files F n j 0 goal).2 → K (some (.int (S_files F n j 0 goal).1)) (hH L xs J s F1)) : mm_call mm_Ex (d + 8) k_X5_fewest [.ref 2, .int goal, .int ii, .int (nI 0)] (hH L xs J s F) K := by
  have hcc := hx.cc hn hc
  have h9 := hc.1
  have vR : vp_in (nI 0) 6 := vp_in_nI (by decide) (by decide)
  unfold S_files at hk
  dsimp only at hk
  obtain ⟨p, hp⟩ : ∃ p : Nat → Bool, (fun m => decide (lev n (mq F) goal j m < n ^ m)) = p := ⟨_, rfl⟩
  rw [hp] at hk
  have ep : ∀ m, p m = decide (lev n (mq F) goal j m < n ^ m) := fun m => by rw [← hp]
  refine mm_run 60 (x_seat hcc fun G hG hb => ?_)
  refine lp (n := 4) (P := fun m => (∀ m', m' < m → p m' = false) → ∀ x G fl, x = nI m → XS F G → BR G n (mq F) (-9) 0 fl → mm_Ex (d + 8) k_X5_fewest 7 (0, 0) [.ref 2, .int goal, .int ii, .int (nI 0), .int x] [] (hH L xs J s G) K) ?_ ?_ (fun m' hm' => absurd hm' (Nat.not_lt_zero m')) _ G _ rfl hG hb
  · intro ha x G fl hx1 hG hb
    subst hx1
    rw [first_N ha, if_neg (by decide)] at hk
    exact mm_run 60 (And.intro (fun _ => hk _ (hG.xt hx)) (fun c => absurd (by decide) c))
  · intro m hm ihm ha x G fl hx1 hG hb
    subst hx1
    have hlow : ∀ m', m' < m → ∀ code, code < n ^ m' → fiP n (mq F) goal j m' code = false := fun m' h1 code h2 => by
      have h3 := ha m' h1
      rw [ep] at h3
      have h3 := of_decide_eq_false h3
      unfold lev at h3
      refine fa_first_no _ (n ^ m') code ?_
      have := fa_first_le (fiP n (mq F) goal j m') (n ^ m')
      omega
    refine mm_run 60 (And.intro (fun c => absurd ((nI_ltI (a := 3) (by decide) (by omega)).mp c) (by omega)) (fun _ => x_canReach (F := F) h9 hg hj (show m ≤ 3 by omega) hlow hcc.1 hG hb (fun hno G' fl' hG' hb' => ?_) (fun hyes G' hG' hpk => ?_)))
    · refine And.intro (fun _ => ihm (fun m' hm' => ?_) _ _ _ (nI_1 m) hG' hb') (fun c => absurd rfl c)
      by_cases e : m' = m
      · rw [e, ep]
        exact decide_eq_false hno
      · exact ha m' (by omega)
    · have ef : fa_first p 4 = m := first_eq hm (by rw [ep]; exact decide_eq_true hyes) ha
      rw [ef, if_pos hm] at hk
      obtain ⟨r, hr⟩ : ∃ r, lev n (mq F) goal j m = r := ⟨_, rfl⟩
      rw [hr] at hk hpk
      refine And.intro (fun y => absurd y (by decide)) (fun _ => ⟨vR, 34, rfl, x_renew_34 (m := m) (by omega) ⟨vR, 34, rfl, Nat.le_refl _, ⟨by decide, by decide, nI_pos (by omega), ?_, ?_⟩, ?_⟩⟩)
      · show (0 : Int32).toNatClampNeg + (nI m).toNatClampNeg ≤ 3
        rw [tn_nI (by omega)]
        show 0 + m ≤ 3
        omega
      · show (0 : Int32).toNatClampNeg + (nI m).toNatClampNeg ≤ 40
        rw [tn_nI (by omega)]
        show 0 + m ≤ 40
        omega
      · have em : (nI m).toNatClampNeg = m := tn_nI (by omega)
        refine kh (K := K) (hp1 (F := upF (up2 G' 34 1 (nI m)) 35 (fil (G' 35) 0 m 0)) (k := 35) (g := va_cpy (G' 32) (fil (G' 35) 0 m 0) 0 0 m) (by show mI 40 (va_cpy (G' 32) (fil (G' 35) 0 m 0) 0 0 m) = mI 40 (va_cpy (G' 32) (fil (G' 35) 0 m 0) (0 : Int32).toNatClampNeg (0 : Int32).toNatClampNeg (nI m).toNatClampNeg); rw [em]; rfl)) ?_
        rw [upF_same]
        refine hk _ (XT.files (R := 0) hx hG' (by decide) (by omega) (fun y hy => ?_))
        rw [pk_cpy_in (Nat.zero_le y) (by omega), Nat.zero_add, Nat.sub_zero]
        exact hpk y hy
theorem x_fewest_1 (hx : XRc F F) (hn : F 75 10 = nI n) (hc : Cw n (mq F)) {goal ii : Int32} {j : Nat} (hg : goal = 0 ∨ goal = 1 ∨ goal = 2) (hj : ¬ goal = 2 → j < n ∧ ii = nI j) (hk : ∀ F1, XT F F1 (S_files F n j 1 goal).2 → K (some (.int (S_files F n j 1 goal).1)) (hH L xs J s F1)) : mm_call mm_Ex (d + 8) k_X5_fewest [.ref 2, .int goal, .int ii, .int (nI 1)] (hH L xs J s F) K := by
  have hcc := hx.cc hn hc
  have h9 := hc.1
  have vR : vp_in (nI 1) 6 := vp_in_nI (by decide) (by decide)
  unfold S_files at hk
  dsimp only at hk
  obtain ⟨p, hp⟩ : ∃ p : Nat → Bool, (fun m => decide (lev n (mq F) goal j m < n ^ m)) = p := ⟨_, rfl⟩
  rw [hp] at hk
  have ep : ∀ m, p m = decide (lev n (mq F) goal j m < n ^ m) := fun m => by rw [← hp]
  refine mm_run 60 (x_seat hcc fun G hG hb => ?_)
  refine lp (n := 4) (P := fun m => (∀ m', m' < m → p m' = false) → ∀ x G fl, x = nI m → XS F G → BR G n (mq F) (-9) 0 fl → mm_Ex (d + 8) k_X5_fewest 7 (0, 0) [.ref 2, .int goal, .int ii, .int (nI 1), .int x] [] (hH L xs J s G) K) ?_ ?_ (fun m' hm' => absurd hm' (Nat.not_lt_zero m')) _ G _ rfl hG hb
  · intro ha x G fl hx1 hG hb
    subst hx1
    rw [first_N ha, if_neg (by decide)] at hk
    exact mm_run 60 (And.intro (fun _ => hk _ (hG.xt hx)) (fun c => absurd (by decide) c))
  · intro m hm ihm ha x G fl hx1 hG hb
    subst hx1
    have hlow : ∀ m', m' < m → ∀ code, code < n ^ m' → fiP n (mq F) goal j m' code = false := fun m' h1 code h2 => by
      have h3 := ha m' h1
      rw [ep] at h3
      have h3 := of_decide_eq_false h3
      unfold lev at h3
      refine fa_first_no _ (n ^ m') code ?_
      have := fa_first_le (fiP n (mq F) goal j m') (n ^ m')
      omega
    refine mm_run 60 (And.intro (fun c => absurd ((nI_ltI (a := 3) (by decide) (by omega)).mp c) (by omega)) (fun _ => x_canReach (F := F) h9 hg hj (show m ≤ 3 by omega) hlow hcc.1 hG hb (fun hno G' fl' hG' hb' => ?_) (fun hyes G' hG' hpk => ?_)))
    · refine And.intro (fun _ => ihm (fun m' hm' => ?_) _ _ _ (nI_1 m) hG' hb') (fun c => absurd rfl c)
      by_cases e : m' = m
      · rw [e, ep]
        exact decide_eq_false hno
      · exact ha m' (by omega)
    · have ef : fa_first p 4 = m := first_eq hm (by rw [ep]; exact decide_eq_true hyes) ha
      rw [ef, if_pos hm] at hk
      obtain ⟨r, hr⟩ : ∃ r, lev n (mq F) goal j m = r := ⟨_, rfl⟩
      rw [hr] at hk hpk
      refine And.intro (fun y => absurd y (by decide)) (fun _ => ⟨vR, 36, rfl, x_renew_36 (m := m) (by omega) ⟨vR, 36, rfl, Nat.le_refl _, ⟨by decide, by decide, nI_pos (by omega), ?_, ?_⟩, ?_⟩⟩)
      · show (0 : Int32).toNatClampNeg + (nI m).toNatClampNeg ≤ 3
        rw [tn_nI (by omega)]
        show 0 + m ≤ 3
        omega
      · show (0 : Int32).toNatClampNeg + (nI m).toNatClampNeg ≤ 40
        rw [tn_nI (by omega)]
        show 0 + m ≤ 40
        omega
      · have em : (nI m).toNatClampNeg = m := tn_nI (by omega)
        refine kh (K := K) (hp1 (F := upF (up2 G' 36 1 (nI m)) 37 (fil (G' 37) 0 m 0)) (k := 37) (g := va_cpy (G' 32) (fil (G' 37) 0 m 0) 0 0 m) (by show mI 40 (va_cpy (G' 32) (fil (G' 37) 0 m 0) 0 0 m) = mI 40 (va_cpy (G' 32) (fil (G' 37) 0 m 0) (0 : Int32).toNatClampNeg (0 : Int32).toNatClampNeg (nI m).toNatClampNeg); rw [em]; rfl)) ?_
        rw [upF_same]
        refine hk _ (XT.files (R := 1) hx hG' (by decide) (by omega) (fun y hy => ?_))
        rw [pk_cpy_in (Nat.zero_le y) (by omega), Nat.zero_add, Nat.sub_zero]
        exact hpk y hy
theorem x_fewest_2 (hx : XRc F F) (hn : F 75 10 = nI n) (hc : Cw n (mq F)) {goal ii : Int32} {j : Nat} (hg : goal = 0 ∨ goal = 1 ∨ goal = 2) (hj : ¬ goal = 2 → j < n ∧ ii = nI j) (hk : ∀ F1, XT F F1 (S_files F n j 2 goal).2 → K (some (.int (S_files F n j 2 goal).1)) (hH L xs J s F1)) : mm_call mm_Ex (d + 8) k_X5_fewest [.ref 2, .int goal, .int ii, .int (nI 2)] (hH L xs J s F) K := by
  have hcc := hx.cc hn hc
  have h9 := hc.1
  have vR : vp_in (nI 2) 6 := vp_in_nI (by decide) (by decide)
  unfold S_files at hk
  dsimp only at hk
  obtain ⟨p, hp⟩ : ∃ p : Nat → Bool, (fun m => decide (lev n (mq F) goal j m < n ^ m)) = p := ⟨_, rfl⟩
  rw [hp] at hk
  have ep : ∀ m, p m = decide (lev n (mq F) goal j m < n ^ m) := fun m => by rw [← hp]
  refine mm_run 60 (x_seat hcc fun G hG hb => ?_)
  refine lp (n := 4) (P := fun m => (∀ m', m' < m → p m' = false) → ∀ x G fl, x = nI m → XS F G → BR G n (mq F) (-9) 0 fl → mm_Ex (d + 8) k_X5_fewest 7 (0, 0) [.ref 2, .int goal, .int ii, .int (nI 2), .int x] [] (hH L xs J s G) K) ?_ ?_ (fun m' hm' => absurd hm' (Nat.not_lt_zero m')) _ G _ rfl hG hb
  · intro ha x G fl hx1 hG hb
    subst hx1
    rw [first_N ha, if_neg (by decide)] at hk
    exact mm_run 60 (And.intro (fun _ => hk _ (hG.xt hx)) (fun c => absurd (by decide) c))
  · intro m hm ihm ha x G fl hx1 hG hb
    subst hx1
    have hlow : ∀ m', m' < m → ∀ code, code < n ^ m' → fiP n (mq F) goal j m' code = false := fun m' h1 code h2 => by
      have h3 := ha m' h1
      rw [ep] at h3
      have h3 := of_decide_eq_false h3
      unfold lev at h3
      refine fa_first_no _ (n ^ m') code ?_
      have := fa_first_le (fiP n (mq F) goal j m') (n ^ m')
      omega
    refine mm_run 60 (And.intro (fun c => absurd ((nI_ltI (a := 3) (by decide) (by omega)).mp c) (by omega)) (fun _ => x_canReach (F := F) h9 hg hj (show m ≤ 3 by omega) hlow hcc.1 hG hb (fun hno G' fl' hG' hb' => ?_) (fun hyes G' hG' hpk => ?_)))
    · refine And.intro (fun _ => ihm (fun m' hm' => ?_) _ _ _ (nI_1 m) hG' hb') (fun c => absurd rfl c)
      by_cases e : m' = m
      · rw [e, ep]
        exact decide_eq_false hno
      · exact ha m' (by omega)
    · have ef : fa_first p 4 = m := first_eq hm (by rw [ep]; exact decide_eq_true hyes) ha
      rw [ef, if_pos hm] at hk
      obtain ⟨r, hr⟩ : ∃ r, lev n (mq F) goal j m = r := ⟨_, rfl⟩
      rw [hr] at hk hpk
      refine And.intro (fun y => absurd y (by decide)) (fun _ => ⟨vR, 38, rfl, x_renew_38 (m := m) (by omega) ⟨vR, 38, rfl, Nat.le_refl _, ⟨by decide, by decide, nI_pos (by omega), ?_, ?_⟩, ?_⟩⟩)
      · show (0 : Int32).toNatClampNeg + (nI m).toNatClampNeg ≤ 3
        rw [tn_nI (by omega)]
        show 0 + m ≤ 3
        omega
      · show (0 : Int32).toNatClampNeg + (nI m).toNatClampNeg ≤ 40
        rw [tn_nI (by omega)]
        show 0 + m ≤ 40
        omega
      · have em : (nI m).toNatClampNeg = m := tn_nI (by omega)
        refine kh (K := K) (hp1 (F := upF (up2 G' 38 1 (nI m)) 39 (fil (G' 39) 0 m 0)) (k := 39) (g := va_cpy (G' 32) (fil (G' 39) 0 m 0) 0 0 m) (by show mI 40 (va_cpy (G' 32) (fil (G' 39) 0 m 0) 0 0 m) = mI 40 (va_cpy (G' 32) (fil (G' 39) 0 m 0) (0 : Int32).toNatClampNeg (0 : Int32).toNatClampNeg (nI m).toNatClampNeg); rw [em]; rfl)) ?_
        rw [upF_same]
        refine hk _ (XT.files (R := 2) hx hG' (by decide) (by omega) (fun y hy => ?_))
        rw [pk_cpy_in (Nat.zero_le y) (by omega), Nat.zero_add, Nat.sub_zero]
        exact hpk y hy
theorem x_fewest_3 (hx : XRc F F) (hn : F 75 10 = nI n) (hc : Cw n (mq F)) {goal ii : Int32} {j : Nat} (hg : goal = 0 ∨ goal = 1 ∨ goal = 2) (hj : ¬ goal = 2 → j < n ∧ ii = nI j) (hk : ∀ F1, XT F F1 (S_files F n j 3 goal).2 → K (some (.int (S_files F n j 3 goal).1)) (hH L xs J s F1)) : mm_call mm_Ex (d + 8) k_X5_fewest [.ref 2, .int goal, .int ii, .int (nI 3)] (hH L xs J s F) K := by
  have hcc := hx.cc hn hc
  have h9 := hc.1
  have vR : vp_in (nI 3) 6 := vp_in_nI (by decide) (by decide)
  unfold S_files at hk
  dsimp only at hk
  obtain ⟨p, hp⟩ : ∃ p : Nat → Bool, (fun m => decide (lev n (mq F) goal j m < n ^ m)) = p := ⟨_, rfl⟩
  rw [hp] at hk
  have ep : ∀ m, p m = decide (lev n (mq F) goal j m < n ^ m) := fun m => by rw [← hp]
  refine mm_run 60 (x_seat hcc fun G hG hb => ?_)
  refine lp (n := 4) (P := fun m => (∀ m', m' < m → p m' = false) → ∀ x G fl, x = nI m → XS F G → BR G n (mq F) (-9) 0 fl → mm_Ex (d + 8) k_X5_fewest 7 (0, 0) [.ref 2, .int goal, .int ii, .int (nI 3), .int x] [] (hH L xs J s G) K) ?_ ?_ (fun m' hm' => absurd hm' (Nat.not_lt_zero m')) _ G _ rfl hG hb
  · intro ha x G fl hx1 hG hb
    subst hx1
    rw [first_N ha, if_neg (by decide)] at hk
    exact mm_run 60 (And.intro (fun _ => hk _ (hG.xt hx)) (fun c => absurd (by decide) c))
  · intro m hm ihm ha x G fl hx1 hG hb
    subst hx1
    have hlow : ∀ m', m' < m → ∀ code, code < n ^ m' → fiP n (mq F) goal j m' code = false := fun m' h1 code h2 => by
      have h3 := ha m' h1
      rw [ep] at h3
      have h3 := of_decide_eq_false h3
      unfold lev at h3
      refine fa_first_no _ (n ^ m') code ?_
      have := fa_first_le (fiP n (mq F) goal j m') (n ^ m')
      omega
    refine mm_run 60 (And.intro (fun c => absurd ((nI_ltI (a := 3) (by decide) (by omega)).mp c) (by omega)) (fun _ => x_canReach (F := F) h9 hg hj (show m ≤ 3 by omega) hlow hcc.1 hG hb (fun hno G' fl' hG' hb' => ?_) (fun hyes G' hG' hpk => ?_)))
    · refine And.intro (fun _ => ihm (fun m' hm' => ?_) _ _ _ (nI_1 m) hG' hb') (fun c => absurd rfl c)
      by_cases e : m' = m
      · rw [e, ep]
        exact decide_eq_false hno
      · exact ha m' (by omega)
    · have ef : fa_first p 4 = m := first_eq hm (by rw [ep]; exact decide_eq_true hyes) ha
      rw [ef, if_pos hm] at hk
      obtain ⟨r, hr⟩ : ∃ r, lev n (mq F) goal j m = r := ⟨_, rfl⟩
      rw [hr] at hk hpk
      refine And.intro (fun y => absurd y (by decide)) (fun _ => ⟨vR, 40, rfl, x_renew_40 (m := m) (by omega) ⟨vR, 40, rfl, Nat.le_refl _, ⟨by decide, by decide, nI_pos (by omega), ?_, ?_⟩, ?_⟩⟩)
      · show (0 : Int32).toNatClampNeg + (nI m).toNatClampNeg ≤ 3
        rw [tn_nI (by omega)]
        show 0 + m ≤ 3
        omega
      · show (0 : Int32).toNatClampNeg + (nI m).toNatClampNeg ≤ 40
        rw [tn_nI (by omega)]
        show 0 + m ≤ 40
        omega
      · have em : (nI m).toNatClampNeg = m := tn_nI (by omega)
        refine kh (K := K) (hp1 (F := upF (up2 G' 40 1 (nI m)) 41 (fil (G' 41) 0 m 0)) (k := 41) (g := va_cpy (G' 32) (fil (G' 41) 0 m 0) 0 0 m) (by show mI 40 (va_cpy (G' 32) (fil (G' 41) 0 m 0) 0 0 m) = mI 40 (va_cpy (G' 32) (fil (G' 41) 0 m 0) (0 : Int32).toNatClampNeg (0 : Int32).toNatClampNeg (nI m).toNatClampNeg); rw [em]; rfl)) ?_
        rw [upF_same]
        refine hk _ (XT.files (R := 3) hx hG' (by decide) (by omega) (fun y hy => ?_))
        rw [pk_cpy_in (Nat.zero_le y) (by omega), Nat.zero_add, Nat.sub_zero]
        exact hpk y hy
theorem x_fewest_4 (hx : XRc F F) (hn : F 75 10 = nI n) (hc : Cw n (mq F)) {goal ii : Int32} {j : Nat} (hg : goal = 0 ∨ goal = 1 ∨ goal = 2) (hj : ¬ goal = 2 → j < n ∧ ii = nI j) (hk : ∀ F1, XT F F1 (S_files F n j 4 goal).2 → K (some (.int (S_files F n j 4 goal).1)) (hH L xs J s F1)) : mm_call mm_Ex (d + 8) k_X5_fewest [.ref 2, .int goal, .int ii, .int (nI 4)] (hH L xs J s F) K := by
  have hcc := hx.cc hn hc
  have h9 := hc.1
  have vR : vp_in (nI 4) 6 := vp_in_nI (by decide) (by decide)
  unfold S_files at hk
  dsimp only at hk
  obtain ⟨p, hp⟩ : ∃ p : Nat → Bool, (fun m => decide (lev n (mq F) goal j m < n ^ m)) = p := ⟨_, rfl⟩
  rw [hp] at hk
  have ep : ∀ m, p m = decide (lev n (mq F) goal j m < n ^ m) := fun m => by rw [← hp]
  refine mm_run 60 (x_seat hcc fun G hG hb => ?_)
  refine lp (n := 4) (P := fun m => (∀ m', m' < m → p m' = false) → ∀ x G fl, x = nI m → XS F G → BR G n (mq F) (-9) 0 fl → mm_Ex (d + 8) k_X5_fewest 7 (0, 0) [.ref 2, .int goal, .int ii, .int (nI 4), .int x] [] (hH L xs J s G) K) ?_ ?_ (fun m' hm' => absurd hm' (Nat.not_lt_zero m')) _ G _ rfl hG hb
  · intro ha x G fl hx1 hG hb
    subst hx1
    rw [first_N ha, if_neg (by decide)] at hk
    exact mm_run 60 (And.intro (fun _ => hk _ (hG.xt hx)) (fun c => absurd (by decide) c))
  · intro m hm ihm ha x G fl hx1 hG hb
    subst hx1
    have hlow : ∀ m', m' < m → ∀ code, code < n ^ m' → fiP n (mq F) goal j m' code = false := fun m' h1 code h2 => by
      have h3 := ha m' h1
      rw [ep] at h3
      have h3 := of_decide_eq_false h3
      unfold lev at h3
      refine fa_first_no _ (n ^ m') code ?_
      have := fa_first_le (fiP n (mq F) goal j m') (n ^ m')
      omega
    refine mm_run 60 (And.intro (fun c => absurd ((nI_ltI (a := 3) (by decide) (by omega)).mp c) (by omega)) (fun _ => x_canReach (F := F) h9 hg hj (show m ≤ 3 by omega) hlow hcc.1 hG hb (fun hno G' fl' hG' hb' => ?_) (fun hyes G' hG' hpk => ?_)))
    · refine And.intro (fun _ => ihm (fun m' hm' => ?_) _ _ _ (nI_1 m) hG' hb') (fun c => absurd rfl c)
      by_cases e : m' = m
      · rw [e, ep]
        exact decide_eq_false hno
      · exact ha m' (by omega)
    · have ef : fa_first p 4 = m := first_eq hm (by rw [ep]; exact decide_eq_true hyes) ha
      rw [ef, if_pos hm] at hk
      obtain ⟨r, hr⟩ : ∃ r, lev n (mq F) goal j m = r := ⟨_, rfl⟩
      rw [hr] at hk hpk
      refine And.intro (fun y => absurd y (by decide)) (fun _ => ⟨vR, 42, rfl, x_renew_42 (m := m) (by omega) ⟨vR, 42, rfl, Nat.le_refl _, ⟨by decide, by decide, nI_pos (by omega), ?_, ?_⟩, ?_⟩⟩)
      · show (0 : Int32).toNatClampNeg + (nI m).toNatClampNeg ≤ 3
        rw [tn_nI (by omega)]
        show 0 + m ≤ 3
        omega
      · show (0 : Int32).toNatClampNeg + (nI m).toNatClampNeg ≤ 40
        rw [tn_nI (by omega)]
        show 0 + m ≤ 40
        omega
      · have em : (nI m).toNatClampNeg = m := tn_nI (by omega)
        refine kh (K := K) (hp1 (F := upF (up2 G' 42 1 (nI m)) 43 (fil (G' 43) 0 m 0)) (k := 43) (g := va_cpy (G' 32) (fil (G' 43) 0 m 0) 0 0 m) (by show mI 40 (va_cpy (G' 32) (fil (G' 43) 0 m 0) 0 0 m) = mI 40 (va_cpy (G' 32) (fil (G' 43) 0 m 0) (0 : Int32).toNatClampNeg (0 : Int32).toNatClampNeg (nI m).toNatClampNeg); rw [em]; rfl)) ?_
        rw [upF_same]
        refine hk _ (XT.files (R := 4) hx hG' (by decide) (by omega) (fun y hy => ?_))
        rw [pk_cpy_in (Nat.zero_le y) (by omega), Nat.zero_add, Nat.sub_zero]
        exact hpk y hy
theorem x_fewest_5 (hx : XRc F F) (hn : F 75 10 = nI n) (hc : Cw n (mq F)) {goal ii : Int32} {j : Nat} (hg : goal = 0 ∨ goal = 1 ∨ goal = 2) (hj : ¬ goal = 2 → j < n ∧ ii = nI j) (hk : ∀ F1, XT F F1 (S_files F n j 5 goal).2 → K (some (.int (S_files F n j 5 goal).1)) (hH L xs J s F1)) : mm_call mm_Ex (d + 8) k_X5_fewest [.ref 2, .int goal, .int ii, .int (nI 5)] (hH L xs J s F) K := by
  have hcc := hx.cc hn hc
  have h9 := hc.1
  have vR : vp_in (nI 5) 6 := vp_in_nI (by decide) (by decide)
  unfold S_files at hk
  dsimp only at hk
  obtain ⟨p, hp⟩ : ∃ p : Nat → Bool, (fun m => decide (lev n (mq F) goal j m < n ^ m)) = p := ⟨_, rfl⟩
  rw [hp] at hk
  have ep : ∀ m, p m = decide (lev n (mq F) goal j m < n ^ m) := fun m => by rw [← hp]
  refine mm_run 60 (x_seat hcc fun G hG hb => ?_)
  refine lp (n := 4) (P := fun m => (∀ m', m' < m → p m' = false) → ∀ x G fl, x = nI m → XS F G → BR G n (mq F) (-9) 0 fl → mm_Ex (d + 8) k_X5_fewest 7 (0, 0) [.ref 2, .int goal, .int ii, .int (nI 5), .int x] [] (hH L xs J s G) K) ?_ ?_ (fun m' hm' => absurd hm' (Nat.not_lt_zero m')) _ G _ rfl hG hb
  · intro ha x G fl hx1 hG hb
    subst hx1
    rw [first_N ha, if_neg (by decide)] at hk
    exact mm_run 60 (And.intro (fun _ => hk _ (hG.xt hx)) (fun c => absurd (by decide) c))
  · intro m hm ihm ha x G fl hx1 hG hb
    subst hx1
    have hlow : ∀ m', m' < m → ∀ code, code < n ^ m' → fiP n (mq F) goal j m' code = false := fun m' h1 code h2 => by
      have h3 := ha m' h1
      rw [ep] at h3
      have h3 := of_decide_eq_false h3
      unfold lev at h3
      refine fa_first_no _ (n ^ m') code ?_
      have := fa_first_le (fiP n (mq F) goal j m') (n ^ m')
      omega
    refine mm_run 60 (And.intro (fun c => absurd ((nI_ltI (a := 3) (by decide) (by omega)).mp c) (by omega)) (fun _ => x_canReach (F := F) h9 hg hj (show m ≤ 3 by omega) hlow hcc.1 hG hb (fun hno G' fl' hG' hb' => ?_) (fun hyes G' hG' hpk => ?_)))
    · refine And.intro (fun _ => ihm (fun m' hm' => ?_) _ _ _ (nI_1 m) hG' hb') (fun c => absurd rfl c)
      by_cases e : m' = m
      · rw [e, ep]
        exact decide_eq_false hno
      · exact ha m' (by omega)
    · have ef : fa_first p 4 = m := first_eq hm (by rw [ep]; exact decide_eq_true hyes) ha
      rw [ef, if_pos hm] at hk
      obtain ⟨r, hr⟩ : ∃ r, lev n (mq F) goal j m = r := ⟨_, rfl⟩
      rw [hr] at hk hpk
      refine And.intro (fun y => absurd y (by decide)) (fun _ => ⟨vR, 44, rfl, x_renew_44 (m := m) (by omega) ⟨vR, 44, rfl, Nat.le_refl _, ⟨by decide, by decide, nI_pos (by omega), ?_, ?_⟩, ?_⟩⟩)
      · show (0 : Int32).toNatClampNeg + (nI m).toNatClampNeg ≤ 3
        rw [tn_nI (by omega)]
        show 0 + m ≤ 3
        omega
      · show (0 : Int32).toNatClampNeg + (nI m).toNatClampNeg ≤ 40
        rw [tn_nI (by omega)]
        show 0 + m ≤ 40
        omega
      · have em : (nI m).toNatClampNeg = m := tn_nI (by omega)
        refine kh (K := K) (hp1 (F := upF (up2 G' 44 1 (nI m)) 45 (fil (G' 45) 0 m 0)) (k := 45) (g := va_cpy (G' 32) (fil (G' 45) 0 m 0) 0 0 m) (by show mI 40 (va_cpy (G' 32) (fil (G' 45) 0 m 0) 0 0 m) = mI 40 (va_cpy (G' 32) (fil (G' 45) 0 m 0) (0 : Int32).toNatClampNeg (0 : Int32).toNatClampNeg (nI m).toNatClampNeg); rw [em]; rfl)) ?_
        rw [upF_same]
        refine hk _ (XT.files (R := 5) hx hG' (by decide) (by omega) (fun y hy => ?_))
        rw [pk_cpy_in (Nat.zero_le y) (by omega), Nat.zero_add, Nat.sub_zero]
        exact hpk y hy
theorem x_fewest (hx : XRc F F) (hn : F 75 10 = nI n) (hc : Cw n (mq F)) {goal ii : Int32} {j R : Nat} (hR : R < 6) (hg : goal = 0 ∨ goal = 1 ∨ goal = 2) (hj : ¬ goal = 2 → j < n ∧ ii = nI j) (hk : ∀ F1, XT F F1 (S_files F n j R goal).2 → K (some (.int (S_files F n j R goal).1)) (hH L xs J s F1)) : mm_call mm_Ex (d + 8) k_X5_fewest [.ref 2, .int goal, .int ii, .int (nI R)] (hH L xs J s F) K := by
  match R, hR with
  | 0, _ => exact x_fewest_0 hx hn hc hg hj hk
  | 1, _ => exact x_fewest_1 hx hn hc hg hj hk
  | 2, _ => exact x_fewest_2 hx hn hc hg hj hk
  | 3, _ => exact x_fewest_3 hx hn hc hg hj hk
  | 4, _ => exact x_fewest_4 hx hn hc hg hj hk
  | 5, _ => exact x_fewest_5 hx hn hc hg hj hk
theorem x_fell (hx : XRc F F) (hn : F 75 10 = nI n) (hc : Cw n (mq F)) {i r : Int32} (hk : ∀ F1, XT F F1 (S_fell F i r 0).2 → K (some (.int (S_fell F i r 0).1)) (hH L xs J s F1)) : mm_call mm_Ex (d + 9) k_X5_fell [.ref 2, .int i, .int r] (hH L xs J s F) K := by
  have hcc := hx.cc hn hc
  have h9 := hc.1
  unfold S_fell at hk
  rw [en_of hn h9, hn] at hk
  have J16 : ∀ v H, K (some (.int v)) (hH L xs J s H) → mm_Ex (d + 9) k_X5_fell 16 (0, 0) [.ref 2, .int i, .int r] [.int v] (hH L xs J s H) K := fun v H z => mm_run 5 z
  have B : ¬ ((0 ≤ i ∧ i ≤ nI n - 1) ∧ (0 ≤ r ∧ r ≤ 5)) → mm_Ex (d + 9) k_X5_fell 15 (0, 0) [.ref 2, .int i, .int r] [] (hH L xs J s F) K := fun c => by
    rw [if_neg c] at hk
    exact mm_run 5 (J16 _ _ (hk _ (XT.same hx)))
  refine mm_run 60 (x_has0 hcc (fun j hj e hh => And.intro (fun z => absurd z (by decide)) (fun _ => x_within (And.intro (fun c => B fun y => b2i_0.mp c (in6.mpr y.2)) (fun c => ?_)))) (fun hh => And.intro (fun _ => B fun y => hh y.1) (fun z => absurd rfl z)))
  have c := in6.mp (b2i_p c)
  rw [if_pos ⟨hh, c⟩] at hk
  subst e
  obtain ⟨R, hR, rfl⟩ := in_nI (n := 5) (by decide) c.1 c.2
  rw [tn_nI (by omega), tn_nI (by omega)] at hk
  exact x_fewest hx hn hc (by omega) (Or.inl rfl) (fun _ => ⟨hj, rfl⟩) fun F1 h1 => J16 _ _ (hk F1 h1)
theorem x_guard (hx : XRc F F) (hn : F 75 10 = nI n) (hc : Cw n (mq F)) {i r : Int32} (hk : ∀ F1, XT F F1 (S_fell F i r 1).2 → K (some (.int (S_fell F i r 1).1)) (hH L xs J s F1)) : mm_call mm_Ex (d + 9) k_X5_guard [.ref 2, .int i, .int r] (hH L xs J s F) K := by
  have hcc := hx.cc hn hc
  have h9 := hc.1
  unfold S_fell at hk
  rw [en_of hn h9, hn] at hk
  have J16 : ∀ v H, K (some (.int v)) (hH L xs J s H) → mm_Ex (d + 9) k_X5_guard 16 (0, 0) [.ref 2, .int i, .int r] [.int v] (hH L xs J s H) K := fun v H z => mm_run 5 z
  have B : ¬ ((0 ≤ i ∧ i ≤ nI n - 1) ∧ (0 ≤ r ∧ r ≤ 5)) → mm_Ex (d + 9) k_X5_guard 15 (0, 0) [.ref 2, .int i, .int r] [] (hH L xs J s F) K := fun c => by
    rw [if_neg c] at hk
    exact mm_run 5 (J16 _ _ (hk _ (XT.same hx)))
  refine mm_run 60 (x_has0 hcc (fun j hj e hh => And.intro (fun z => absurd z (by decide)) (fun _ => x_within (And.intro (fun c => B fun y => b2i_0.mp c (in6.mpr y.2)) (fun c => ?_)))) (fun hh => And.intro (fun _ => B fun y => hh y.1) (fun z => absurd rfl z)))
  have c := in6.mp (b2i_p c)
  rw [if_pos ⟨hh, c⟩] at hk
  subst e
  obtain ⟨R, hR, rfl⟩ := in_nI (n := 5) (by decide) c.1 c.2
  rw [tn_nI (by omega), tn_nI (by omega)] at hk
  exact x_fewest hx hn hc (by omega) (Or.inr (Or.inl rfl)) (fun _ => ⟨hj, rfl⟩) fun F1 h1 => J16 _ _ (hk F1 h1)
theorem x_settle (hx : XRc F F) (hn : F 75 10 = nI n) (hc : Cw n (mq F)) {r : Int32} (hk : ∀ F1, XT F F1 (S_settle F r).2 → K (some (.int (S_settle F r).1)) (hH L xs J s F1)) : mm_call mm_Ex (d + 9) k_X5_settle [.ref 2, .int r] (hH L xs J s F) K := by
  have h9 := hc.1
  unfold S_settle at hk
  rw [en_of hn h9] at hk
  have J16 : ∀ v H, K (some (.int v)) (hH L xs J s H) → mm_Ex (d + 9) k_X5_settle 11 (0, 0) [.ref 2, .int r] [.int v] (hH L xs J s H) K := fun v H z => mm_run 5 z
  refine mm_run 60 (x_within (And.intro (fun c => ?_) (fun c => ?_)))
  · rw [if_neg (fun y => b2i_0.mp c (in6.mpr y))] at hk
    exact J16 _ _ (hk _ (XT.same hx))
  · have c := in6.mp (b2i_p c)
    rw [if_pos c] at hk
    obtain ⟨R, hR, rfl⟩ := in_nI (n := 5) (by decide) c.1 c.2
    rw [tn_nI (by omega)] at hk
    exact x_fewest hx hn hc (by omega) (Or.inr (Or.inr rfl)) (fun y => absurd rfl y) fun F1 h1 => J16 _ _ (hk F1 h1)
end XFw
