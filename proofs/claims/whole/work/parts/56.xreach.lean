/-! the class: what can be reached by filing -/
theorem br_bmp {F : Nat → Nat → Int32} {n : Nat} {q : Rq} {lf : Int32} {ab : Nat} {fl : Nat → Nat} {c : Nat} {v : Int32} (hb : BR F n q lf ab fl) (hv : v = nI (fl c + 1)) (hl : fl c < 9) : BR (upF F 29 (upd (F 29) c v)) n q lf ab (bmp fl c) := by
  obtain ⟨a, b, e, f⟩ := hb
  refine ⟨a, b, e, fun i hi => ?_⟩
  obtain ⟨a1, a2, a3, a4, a5, a6, a7⟩ := f i hi
  refine ⟨a1, a2, a3, a4, a5, ?_, ?_⟩
  · show upd (F 29) c v i = _
    unfold bmp
    by_cases h : i = c
    · rw [h, upd_at, if_pos rfl]
      exact hv
    · rw [upd_ne h, if_neg (fun y => h y.symm)]
      exact a6
  · unfold bmp
    by_cases h : c = i
    · rw [if_pos h, ← h]
      omega
    · rw [if_neg h]
      exact a7
/-- only what is filed, or only what is picked, is otherwise -/
def XO (o : Nat) (F G : Nat → Nat → Int32) : Prop := ∀ k, k ≠ o → G k = F k
theorem XO.rf {o : Nat} {F : Nat → Nat → Int32} : XO o F F := fun _ _ => rfl
theorem XO.up {o : Nat} {F G : Nat → Nat → Int32} (h : XO o F G) {g : Nat → Int32} : XO o F (upF G o g) := fun k hk => (upF_ne hk).trans (h k hk)
theorem XO.xs {o : Nat} {F G : Nat → Nat → Int32} (ho : 13 ≤ o ∧ o < 33 ∧ o ≠ 14) (h : XO o F G) : XS F G := fun k hk => h k (fun e => hk (e ▸ ho))
theorem XO.br32 {F G : Nat → Nat → Int32} (h : XO 32 F G) {n : Nat} {q : Rq} {lf : Int32} {ab : Nat} {fl : Nat → Nat} (hb : BR F n q lf ab fl) : BR G n q lf ab fl := by
  unfold BR at hb ⊢
  rw [h 23 (by decide), h 24 (by decide), h 25 (by decide), h 26 (by decide), h 27 (by decide), h 28 (by decide), h 29 (by decide)]
  exact hb
theorem XO.br29 {F G : Nat → Nat → Int32} (h : XO 29 F G) {n : Nat} {q : Rq} {lf : Int32} {ab : Nat} {fl fl' : Nat → Nat} (hb : BR F n q lf ab fl) (hf : ∀ i, i < n → G 29 i = nI (fl' i) ∧ fl' i ≤ 9) : BR G n q lf ab fl' := by
  obtain ⟨a, b, e, f⟩ := hb
  refine ⟨by rw [h 23 (by decide)]; exact a, by rw [h 23 (by decide)]; exact b, e, fun i hi => ?_⟩
  obtain ⟨a1, a2, a3, a4, a5, a6, a7⟩ := f i hi
  rw [h 24 (by decide), h 25 (by decide), h 26 (by decide), h 27 (by decide), h 28 (by decide)]
  exact ⟨a1, a2, a3, a4, a5, (hf i hi).1, (hf i hi).2⟩
theorem le_pr {a n : Nat} (ha : a < 2 ^ 31) (hn : n < 2 ^ 31) : nI a ≤ nI n - 1 ↔ a < n := by
  have h0 : (0 : Int32) ≤ nI a := (nI_leI (a := 0) (by decide) ha).mpr (Nat.zero_le a)
  constructor
  · intro h
    exact (nI_ltI ha hn).mp ((lt_in hn).mpr ⟨h0, h⟩).2
  · intro h
    exact ((lt_in hn).mp ⟨h0, (nI_ltI ha hn).mpr h⟩).2
theorem mst_lt {n f : Nat} (h9 : n ≤ 9) : ∀ j, mst n f j ≤ 9
  | 0 => h9
  | j + 1 => Nat.mod_lt _ (by decide)
theorem ok_pre {n f : Nat} : ∀ {m k : Nat}, k ≤ m → okF n f m = true → okF n f k = true
  | 0, k, h, ok => by
    have : k = 0 := by omega
    subst this
    rfl
  | m + 1, k, h, ok => by
    by_cases e : k = m + 1
    · rw [e]; exact ok
    · rw [okF, Bool.and_eq_true] at ok
      exact ok_pre (by omega) ok.1
section XRe
variable {d L s : Nat} {xs : Nat → Int32} {J : Nat → Int64} {F : Nat → Nat → Int32} {K : mm_K} {h : mm_H} {n : Nat} {q : Rq}
theorem x_isMoved {fl : Nat → Nat} {lf : Int32} {ab : Nat} (hb : BR F n q lf ab fl) {c : Nat} (hc : c < n) {v : Int32} (ev : v = nI c) (hk : K (some (.int (b2i (fl c < limK (q 0 c))))) (hH L xs J s F)) : mm_call mm_Ex d k_X0_isMovedByOneMore [.ref 23, .int v] (hH L xs J s F) K := by
  subst ev
  have h9 := hb.2.2.1.1
  obtain ⟨a1, a2, a3, a4, a5, a6, a7⟩ := hb.2.2.2 c hc
  have ec : (nI c).toNatClampNeg = c := tn_nI (by omega)
  have e0 : F 24 (nI c).toNatClampNeg = q 0 c := by rw [ec]; exact a1
  have e9 : F 29 (nI c).toNatClampNeg = nI (fl c) := by rw [ec]; exact a6
  have hv : vp_in (nI c) 9 := vp_in_nI (by omega) (by decide)
  unfold limK at hk
  have J23 : ∀ v, v = b2i (fl c < (if q 0 c = 5 then 0 else if q 0 c = 2 then 2 else 1)) → mm_Ex d k_X0_isMovedByOneMore 23 (0, 0) [.ref 23, .int (nI c)] [.int v] (hH L xs J s F) K := fun v e => by
    refine mm_run 5 ⟨?_, ?_⟩
    · rw [e]; exact b2i_01
    · rw [e]; exact hk
  have J22 : ¬ (fl c < (if q 0 c = 5 then 0 else if q 0 c = 2 then 2 else 1)) → mm_Ex d k_X0_isMovedByOneMore 22 (0, 0) [.ref 23, .int (nI c)] [] (hH L xs J s F) K := fun y => mm_run 5 (J23 0 (b2i_f y).symm)
  have J19 : ∀ l v y, ¬ q 0 c = 5 → l = (if q 0 c = 2 then 2 else 1) → v = nI l → y = nI (fl c) → l ≤ 2 → mm_Ex d k_X0_isMovedByOneMore 19 (0, 0) [.ref 23, .int (nI c)] [.int v, .int y] (hH L xs J s F) K := fun l v y h5 hl hv hy hl2 => by
    subst hv hy
    refine mm_run 10 (And.intro (fun z => J22 ?_) (fun z => J23 1 (b2i_t ?_).symm))
    · rw [if_neg h5, ← hl]
      have := (nI_leI (by omega) (by omega)).mp z
      omega
    · rw [if_neg h5, ← hl]
      exact Nat.lt_of_not_le fun y => z ((nI_leI (by omega) (by omega)).mpr y)
  refine mm_run 60 ⟨hv, And.intro (fun z => J22 ?_) (fun z => ⟨hv, hv, And.intro (fun z2 => J19 1 _ _ ?_ ?_ rfl e9 (by decide)) (fun z2 => J19 2 _ _ ?_ ?_ rfl e9 (by decide))⟩)⟩
  · have z : q 0 c = 5 := e0.symm.trans z
    rw [if_pos z]
    omega
  · exact fun y => z (e0.trans y)
  · rw [if_neg (fun y => z2 (e0.trans y))]
  · exact fun y => z (e0.trans y)
  · rw [if_pos (e0.symm.trans z2)]
theorem x_meets {fl : Nat → Nat} (h9 : n ≤ 9) (hw : WR F n (wayB n q fl (2 ^ n - 1))) {goal ii : Int32} {j : Nat} (hg : goal = 0 ∨ goal = 1 ∨ goal = 2) (hj : ¬ goal = 2 → j < n ∧ ii = nI j) (hk : K (some (.int (b2i (rchB n q fl goal j = true)))) (hH L xs J s F)) : mm_call mm_Ex (d + 1) k_X4_meets [.ref 30, .int goal, .int ii] (hH L xs J s F) K := by
  have hp9 := pw9 h9
  have hp := Nat.two_pow_pos n
  obtain ⟨w, hw0⟩ : ∃ w, wayB n q fl (2 ^ n - 1) = w := ⟨_, rfl⟩
  have est : stS n (2 ^ n - 1) (wayB n q fl (2 ^ n - 1)) = _ := st_any (by omega) (fun S hS => way_in hS)
  have efl : flS n (2 ^ n - 1) (wayB n q fl (2 ^ n - 1)) = _ := fl_any
  have er : rchB n q fl goal j = (if goal = 2 then decide (fa_cnt w (2 ^ n) = 1) else if goal = 0 then (if fa_cnt w (2 ^ n) = 0 then 0 else dif (2 ^ n - 1) (unN w (2 ^ n))).testBit j else (if fa_cnt w (2 ^ n) = 0 then 0 else stN (2 ^ n - 1) w (2 ^ n)).testBit j) := by
    unfold rchB
    dsimp only
    rw [est, efl, hw0]
  rw [er] at hk
  rw [hw0] at hw
  have cl := fa_cnt_le w (2 ^ n)
  have J10 : ∀ v, v = b2i (decide (fa_cnt w (2 ^ n) = 1) = true) → goal = 2 → mm_Ex (d + 1) k_X4_meets 10 (0, 0) [.ref 30, .int goal, .int ii] [.int v] (hH L xs J s F) K := fun v e h2 => by
    rw [if_pos h2] at hk
    refine mm_run 5 ⟨?_, ?_⟩
    · rw [e]; exact b2i_01
    · rw [e]; exact hk
  have J19 : ∀ v X, v = nI X → ¬ goal = 2 → (if goal = 2 then decide (fa_cnt w (2 ^ n) = 1) else if goal = 0 then (if fa_cnt w (2 ^ n) = 0 then 0 else dif (2 ^ n - 1) (unN w (2 ^ n))).testBit j else (if fa_cnt w (2 ^ n) = 0 then 0 else stN (2 ^ n - 1) w (2 ^ n)).testBit j) = X.testBit j → mm_Ex (d + 1) k_X4_meets 19 (0, 0) [.ref 30, .int goal, .int ii] [.int v] (hH L xs J s F) K := fun v X e h2 h3 => by
    subst e
    rw [h3] at hk
    obtain ⟨jn, ej⟩ := hj h2
    subst ej
    exact mm_run 10 (x_holdsN (by omega) ⟨b2i_01, hk⟩)
  have e30 : F 30 1 = nI (fa_cnt w (2 ^ n)) := hw.1
  refine mm_run 60 (And.intro (fun h2 => And.intro (fun h1 => x_surelyFalling h9 hw (J19 _ _ rfl h2 ?_)) (fun h1 => x_surelyStanding h9 hw (J19 _ _ rfl h2 ?_))) (fun h2 => And.intro (fun c => J10 0 (b2i_f ?_).symm h2) (fun c => J10 1 (b2i_t ?_).symm h2)))
  · have h0 : goal = 0 := by
      rcases hg with h0 | h0 | h0
      · exact h0
      · exact absurd h0 h1
      · exact absurd h0 h2
    rw [if_neg h2, if_pos h0]
  · rw [if_neg h2, if_neg (by rw [h1]; decide)]
  · have c : ¬ F 30 1 = nI 1 := c
    rw [e30] at c
    simp only [decide_eq_true_eq]
    exact fun y => c (by rw [y])
  · have c : F 30 1 = nI 1 := c
    rw [e30] at c
    simp only [decide_eq_true_eq]
    exact (nI_eq (by omega) (by decide)).mp c
/-- a row out of its number -/
theorem x_pick (h9 : n ≤ 9) (e5 : F 5 6 = nI n) {m f : Nat} (hm : m ≤ 3) (hf : f < 2 ^ 31) (h0 : okF n f m = false → ∀ G, XO 32 F G → K (some (.int 0)) (hH L xs J s G)) (h1 : okF n f m = true → ∀ G, XO 32 F G → (∀ x, x < m → G 32 x = nI (dgt 9 f (m - 1 - x))) → K (some (.int 1)) (hH L xs J s G)) : mm_call mm_Ex d k_X5_pick [.ref 2, .int (nI f), .int (nI m)] (hH L xs J s F) K := by
  have LOOP : ∀ lf ms x G, lf = nI f → ms = nI n - 1 → x = nI m - 1 → G = F → mm_Ex d k_X5_pick 12 (0, 0) [.ref 2, .int (nI f), .int (nI m), .int lf, .int ms, .int x] [] (hH L xs J s G) K := by
    refine fun lf ms x G hl hs hx hG => lp (n := m) (P := fun j => okF n f j = true → ∀ lf ms x G, lf = nI (f / 9 ^ j) → ms = nI (mst n f j) - 1 → x = nI (m - j) - 1 → XO 32 F G → (∀ y, m - j ≤ y → y < m → G 32 y = nI (dgt 9 f (m - 1 - y))) → mm_Ex d k_X5_pick 12 (0, 0) [.ref 2, .int (nI f), .int (nI m), .int lf, .int ms, .int x] [] (hH L xs J s G) K) ?_ ?_ rfl lf ms x G ?_ hs hx (by rw [hG]; exact XO.rf) (fun y h1 h2 => by omega)
    · intro ok lf ms x G hl hs hx hG hp
      rw [Nat.sub_self] at hx hp
      subst hx
      exact mm_run 20 (And.intro (fun _ => ⟨Or.inr rfl, h1 ok G hG (fun x hx => hp x (Nat.zero_le x) hx)⟩) (fun c => absurd (show nI 0 - 1 < 0 by decide) c))
    · intro j hj ihj ok lf ms x G hl hs hx hG hp
      obtain ⟨a, ha⟩ : ∃ a, m - j = a + 1 := ⟨m - j - 1, by omega⟩
      rw [ha, nI_pred] at hx
      subst hx
      have ea : (nI a).toNatClampNeg = a := tn_nI (by omega)
      have va : vp_in (nI a) 3 := vp_in_nI (by omega) (by decide)
      have hfj : f / 9 ^ j < 2 ^ 31 := Nat.lt_of_le_of_lt (Nat.div_le_self _ _) hf
      have ed : lf - lf / 9 * 9 = nI (dgt 9 f j) := by
        rw [hl]
        exact pk_rem (d := 9) hfj (by decide) (by decide)
      have ev : lf / 9 = nI (f / 9 ^ (j + 1)) := by
        rw [hl, Nat.pow_succ, ← Nat.div_div_eq_div_mul]
        exact pk_div (d := 9) hfj (by decide) (by decide)
      have d9 : dgt 9 f j < 9 := Nat.mod_lt _ (by decide)
      have m9 := mst_lt (n := n) (f := f) h9 j
      have er : upd (G 32) (nI a).toNatClampNeg (lf - lf / 9 * 9) (nI a).toNatClampNeg = nI (dgt 9 f j) := by rw [upd_at, ed]
      have eh : ((93, mU (hH L xs J s G).2 32 (mI 3 (upd (G 32) (nI a).toNatClampNeg (lf - lf / 9 * 9)))) : mm_H) = hH L xs J s (upF G 32 (upd (G 32) a (nI (dgt 9 f j)))) := hp1 (F := G) (k := 32) (g := upd (G 32) a (nI (dgt 9 f j))) (by show mI 3 (upd (G 32) a _) = mI 3 (upd (G 32) (nI a).toNatClampNeg _); rw [ed, ea])
      refine mm_run 60 (And.intro (fun c => absurd c (nI_pos (by omega))) (fun _ => ⟨by decide, va, va, And.intro (fun c => ⟨va, by decide, ?_⟩) (fun c => ⟨Or.inl rfl, ?_⟩)⟩))
      · have c : upd (G 32) (nI a).toNatClampNeg (lf - lf / 9 * 9) (nI a).toNatClampNeg ≤ ms := c
        rw [er, hs, le_pr (by omega) (by omega)] at c
        refine kx eh (ihj ?_ _ _ _ _ ev ?_ ?_ hG.up (fun y h1 h2 => ?_))
        · rw [okF, ok, Bool.true_and]
          exact decide_eq_true c
        · show upd (G 32) (nI a).toNatClampNeg (lf - lf / 9 * 9) (nI a).toNatClampNeg = _
          rw [er]
          exact (nI_pred _).symm
        · rw [show m - (j + 1) = a by omega]
          exact (Int32.sub_eq_add_neg (nI a) 1).symm
        · show upd (G 32) a (nI (dgt 9 f j)) y = _
          by_cases e : y = a
          · rw [e, upd_at]
            congr 2
            omega
          · rw [upd_ne e]
            exact hp y (by omega) h2
      · have c : ¬ upd (G 32) (nI a).toNatClampNeg (lf - lf / 9 * 9) (nI a).toNatClampNeg ≤ ms := c
        rw [er, hs, le_pr (by omega) (by omega)] at c
        refine kh (K := K) eh (h0 ?_ _ hG.up)
        refine Bool.eq_false_iff.mpr fun y => c ?_
        have := ok_pre (show j + 1 ≤ m by omega) y
        rw [okF, Bool.and_eq_true, decide_eq_true_eq] at this
        exact this.2
    · rw [Nat.pow_zero, Nat.div_one]
      exact hl
  refine mm_run 60 (LOOP _ _ _ _ rfl ?_ rfl rfl)
  show F 5 6 - 1 = _
  rw [e5]
/-- filing a row against those that it names -/
theorem x_fileAgainst {fl : Nat → Nat} {lf : Int32} {ab : Nat} (hb : BR F n q lf ab fl) {m : Nat} (hm : m ≤ 3) {p : Nat → Nat} (hp : ∀ x, x < m → F 32 x = nI (p x) ∧ p x < n) (h0 : ∀ k, k < m → ¬ fcN p k (p k) < limK (q 0 (p k)) → ∀ G fl', XO 29 F G → BR G n q lf ab fl' → K (some (.int 0)) (hH L xs J s G)) (h1 : (∀ k, k < m → fcN p k (p k) < limK (q 0 (p k))) → ∀ G, XO 29 F G → BR G n q lf ab (fcN p m) → K (some (.int 1)) (hH L xs J s G)) : mm_call mm_Ex (d + 1) k_X0_fileAgainst [.ref 23, .ref 32, .int (nI m)] (hH L xs J s F) K := by
  have h9 := hb.2.2.1.1
  have L2 : ∀ x (w4 : Value) G, x = nI 0 → XO 29 F G → BR G n q lf ab (fun _ => 0) → mm_Ex (d + 1) k_X0_fileAgainst 15 (0, 0) [.ref 23, .ref 32, .int (nI m), .int x, w4] [] (hH L xs J s G) K := by
    refine lp (n := m) (P := fun k => (∀ k', k' < k → fcN p k' (p k') < limK (q 0 (p k'))) → ∀ x (w4 : Value) G, x = nI k → XO 29 F G → BR G n q lf ab (fcN p k) → mm_Ex (d + 1) k_X0_fileAgainst 15 (0, 0) [.ref 23, .ref 32, .int (nI m), .int x, w4] [] (hH L xs J s G) K) ?_ ?_ (fun k' h => absurd h (Nat.not_lt_zero k'))
    · intro ha x w4 G hx hG hbG
      subst hx
      have J47 : mm_Ex (d + 1) k_X0_fileAgainst 47 (0, 0) [.ref 23, .ref 32, .int (nI m), .int (nI m), w4] [] (hH L xs J s G) K := mm_run 5 ⟨Or.inr rfl, h1 ha G hG hbG⟩
      exact mm_run 60 (And.intro (fun _ => J47) (fun c => absurd ((nI_leI (by omega) (by omega)).mpr (Nat.le_refl m)) c))
    · intro k hk ihk ha x w4 G hx hG hbG
      subst hx
      obtain ⟨e32, hpn⟩ := hp k hk
      have ek : (nI k).toNatClampNeg = k := tn_nI (by omega)
      have vk : vp_in (nI k) 3 := vp_in_nI (by omega) (by decide)
      have e32 : G 32 (nI k).toNatClampNeg = nI (p k) := by rw [ek, hG 32 (by decide)]; exact e32
      have e7 : G 23 7 = nI n := hbG.1
      have v9 : vp_in (G 32 (nI k).toNatClampNeg) 9 := by rw [e32]; exact vp_in_nI (by omega) (by decide)
      have J35 : ∀ (w4 : Value), ¬ fcN p k (p k) < limK (q 0 (p k)) → mm_Ex (d + 1) k_X0_fileAgainst 35 (0, 0) [.ref 23, .ref 32, .int (nI m), .int (nI k), w4] [] (hH L xs J s G) K := fun w4 c => mm_run 5 ⟨Or.inl rfl, h0 k hk c G _ hG hbG⟩
      refine mm_run 60 (And.intro (fun c => absurd c (nleI hk (by omega))) (fun _ => And.intro (fun c => absurd c (nleI (b := 3) (by omega) (by decide))) (fun _ => ⟨vk, x_within (And.intro (fun c => absurd ?_ (b2i_0.mp c)) (fun _ => x_isMoved hbG hpn e32 (And.intro (fun c => ⟨v9, v9, ?_⟩) (fun c => J35 _ (b2i_0.mp c)))))⟩)))
      · show (0 : Int32) ≤ G 32 (nI k).toNatClampNeg ∧ G 32 (nI k).toNatClampNeg < G 23 7
        rw [e32, e7]
        exact ⟨(nI_leI (a := 0) (by decide) (by omega)).mpr (Nat.zero_le _), (nI_ltI (by omega) (by omega)).mpr hpn⟩
      · have c := b2i_p c
        obtain ⟨a1, a2, a3, a4, a5, a6, a7⟩ := hbG.2.2.2 (p k) hpn
        have f3 := fc_le p (p k) k
        have ep : (G 32 (nI k).toNatClampNeg).toNatClampNeg = p k := by rw [e32]; exact tn_nI (by omega)
        have e9 : G 29 (G 32 (nI k).toNatClampNeg).toNatClampNeg + 1 = nI (fcN p k (p k) + 1) := by rw [ep, a6, nI_1]
        refine kx (hp1 (F := G) (k := 29) (g := upd (G 29) (p k) (nI (fcN p k (p k) + 1))) (by show mI 9 (upd (G 29) (p k) _) = mI 9 (upd (G 29) (G 32 (nI k).toNatClampNeg).toNatClampNeg (G 29 (G 32 (nI k).toNatClampNeg).toNatClampNeg + 1)); rw [e9, ep])) (ihk (fun k' hk' => ?_) _ _ _ (nI_1 k) hG.up (br_bmp (c := p k) hbG rfl (by omega)))
        by_cases e : k' = k
        · rw [e]; exact c
        · exact ha k' (by omega)
  have L1 : ∀ x (w4 : Value) G, x = nI 0 → G = F → mm_Ex (d + 1) k_X0_fileAgainst 2 (0, 0) [.ref 23, .ref 32, .int (nI m), .int x, w4] [] (hH L xs J s G) K := by
    refine fun x w4 G hx hG => lp (n := n) (P := fun i => ∀ x (w4 : Value) G, x = nI i → XO 29 F G → (∀ y, y < i → G 29 y = nI 0) → mm_Ex (d + 1) k_X0_fileAgainst 2 (0, 0) [.ref 23, .ref 32, .int (nI m), .int x, w4] [] (hH L xs J s G) K) ?_ ?_ x w4 G hx (by rw [hG]; exact XO.rf) (fun y h => absurd h (Nat.not_lt_zero y))
    · intro x w4 G hx hG hz
      subst hx
      have e7 : G 23 7 = nI n := by rw [hG 23 (by decide)]; exact hb.1
      refine mm_run 60 (And.intro (fun _ => L2 _ _ _ rfl hG (hG.br29 hb fun i hi => ⟨hz i hi, Nat.zero_le 9⟩)) (fun c => absurd ?_ c))
      show G 23 7 ≤ nI n
      rw [e7]
      exact (nI_leI (by omega) (by omega)).mpr (Nat.le_refl n)
    · intro i hi ih x w4 G hx hG hz
      subst hx
      have e7 : G 23 7 = nI n := by rw [hG 23 (by decide)]; exact hb.1
      have ei : (nI i).toNatClampNeg = i := tn_nI (by omega)
      refine mm_run 60 (And.intro (fun z => absurd (show G 23 7 ≤ nI i from z) (by rw [e7]; exact nleI hi (by omega))) (fun _ => ⟨vp_in_nI (by omega) (by decide), ?_⟩))
      refine kx (hp1 (F := G) (k := 29) (g := upd (G 29) i 0) (by show mI 9 (upd (G 29) i 0) = mI 9 (upd (G 29) (nI i).toNatClampNeg 0); rw [ei])) (ih _ _ _ (nI_1 i) hG.up (fun y hy => ?_))
      show upd (G 29) i 0 y = _
      by_cases e : y = i
      · rw [e, upd_at]
        rfl
      · rw [upd_ne e]
        exact hz y (by omega)
  exact mm_run 60 (L1 _ _ _ rfl rfl)
theorem x_canReach (h9 : n ≤ 9) {goal ii : Int32} {j : Nat} (hg : goal = 0 ∨ goal = 1 ∨ goal = 2) (hj : ¬ goal = 2 → j < n ∧ ii = nI j) {m : Nat} (hm : m ≤ 3) (hlow : ∀ m', m' < m → ∀ code, code < n ^ m' → fiP n q goal j m' code = false) {fl : Nat → Nat} {G : Nat → Nat → Int32} (e5 : F 5 6 = nI n) (hG : XS F G) (hb : BR G n q (-9) 0 fl)
    (h0 : ¬ lev n q goal j m < n ^ m → ∀ G' fl', XS F G' → BR G' n q (-9) 0 fl' → K (some (.int 0)) (hH L xs J s G'))
    (h1 : lev n q goal j m < n ^ m → ∀ G', XS F G' → (∀ x, x < m → G' 32 x = nI (dgt n (lev n q goal j m) (m - 1 - x))) → K (some (.int 1)) (hH L xs J s G')) :
    mm_call mm_Ex (d + 4) k_X5_canReach [.ref 2, .int goal, .int ii, .int (nI m)] (hH L xs J s G) K := by
  have p9 : 9 ^ m ≤ 729 := Nat.le_trans (Nat.pow_le_pow_right (by decide) hm) (by decide)
  have L2 : ∀ b x G fl, b = nI (9 ^ m) → x = nI 0 → XS F G → BR G n q (-9) 0 fl → mm_Ex (d + 4) k_X5_canReach 15 (0, 0) [.ref 2, .int goal, .int ii, .int (nI m), .int b, .int x] [] (hH L xs J s G) K := by
    intro b x G fl hbd hx hG hb
    subst hbd
    refine lp (n := 9 ^ m) (P := fun f => (∀ f', f' < f → okF n f' m = true → fiP n q goal j m (bkN n f' m) = false) → ∀ x G fl, x = nI f → XS F G → BR G n q (-9) 0 fl → mm_Ex (d + 4) k_X5_canReach 15 (0, 0) [.ref 2, .int goal, .int ii, .int (nI m), .int (nI (9 ^ m)), .int x] [] (hH L xs J s G) K) ?_ ?_ (fun f' h => absurd h (Nat.not_lt_zero f')) x G fl hx hG hb
    · intro ha x G fl hx hG hb
      subst hx
      exact mm_run 60 (And.intro (fun _ => ⟨Or.inl rfl, h0 (lev_none h9 hm ha) G fl hG hb⟩) (fun c => absurd ((nI_leI (by omega) (by omega)).mpr (Nat.le_refl _)) c))
    · intro f hf ihf ha x G fl hx hG hb
      subst hx
      have J43 : ∀ G fl, (okF n f m = true → fiP n q goal j m (bkN n f m) = false) → XS F G → BR G n q (-9) 0 fl → mm_Ex (d + 4) k_X5_canReach 43 (0, 0) [.ref 2, .int goal, .int ii, .int (nI m), .int (nI (9 ^ m)), .int (nI f)] [] (hH L xs J s G) K := fun G fl hno hG hb => mm_run 10 (ihf (fun f' hf' => by
        by_cases e : f' = f
        · rw [e]; exact hno
        · exact ha f' (by omega)) _ _ _ (nI_1 f) hG hb)
      refine mm_run 60 (And.intro (fun c => absurd c (nleI hf (by omega))) (fun _ => x_pick h9 (by rw [hG 5 (by omega)]; exact e5) hm (by omega) (fun no G1 hG1 => ?_) (fun ok G1 hG1 hpk => ?_)))
      · exact And.intro (fun _ => J43 G1 fl (fun y => by rw [no] at y; cases y) (hG.tr (hG1.xs (by omega))) (hG1.br32 hb)) (fun c => absurd rfl c)
      · have hG1s := hG.tr (hG1.xs (by omega))
        have hb1 := hG1.br32 hb
        obtain ⟨b1, b2, b3, b4⟩ := bk_ok h9 hm hf ok
        refine And.intro (fun c => absurd c (by decide)) (fun _ => x_fileAgainst hb1 hm (p := fun x => dgt 9 f (m - 1 - x)) (fun x hx => ⟨hpk x hx, (b4 _ (by omega)).2⟩) (fun k hk c G2 fl2 hG2 hb2 => ?_) (fun hl G2 hG2 hb2 => ?_))
        · refine And.intro (fun _ => J43 G2 fl2 (fun _ => ?_) (hG1s.tr (hG2.xs (by omega))) hb2) (fun c => absurd rfl c)
          cases hT : fiP n q goal j m (bkN n f m)
          · rfl
          · exfalso
            have hx : dgt 9 f (m - 1 - k) < n := (b4 _ (by omega)).2
            have h3 := no_more h9 hm hlow b1 hT hx
            rw [sk_bk h9 hm hf ok, ← fc_sk m hm] at h3
            have c : ¬ fcN (fun x => dgt 9 f (m - 1 - x)) k (dgt 9 f (m - 1 - k)) < limK (q 0 (dgt 9 f (m - 1 - k))) := c
            have h4 := fc_mono (p := fun x => dgt 9 f (m - 1 - x)) (c := dgt 9 f (m - 1 - k)) (show k + 1 ≤ m by omega)
            have h5 : fcN (fun x => dgt 9 f (m - 1 - x)) (k + 1) (dgt 9 f (m - 1 - k)) = fcN (fun x => dgt 9 f (m - 1 - x)) k (dgt 9 f (m - 1 - k)) + 1 := by
              rw [fcN, if_pos rfl]
            omega
        · have eT : fiP n q goal j m (bkN n f m) = rchB n q (fcN (fun x => dgt 9 f (m - 1 - x)) m) goal j := by
            unfold fiP
            rw [b2, Bool.true_and, sk_bk h9 hm hf ok]
            congr 1
            funext c
            exact (fc_sk m hm).symm
          refine And.intro (fun c => absurd c (by decide)) (fun _ => x_find hb2 fun G3 hG3 hw => x_meets h9 (by rw [← W_eq0 h9]; exact hw) hg hj ?_)
          have hG3s := (hG1s.tr (hG2.xs (by omega))).tr hG3.xs
          refine And.intro (fun c => J43 G3 _ (fun _ => ?_) hG3s (hG3.br hb2)) (fun c => ⟨Or.inr rfl, ?_⟩)
          · rw [eT]
            exact Bool.eq_false_iff.mpr (b2i_0.mp c)
          · have hT := eT.trans (b2i_p c)
            obtain ⟨l1, l2⟩ := lev_some h9 hm hf ok hT ha
            refine h1 (by rw [l1]; exact l2) G3 hG3s (fun x hx => ?_)
            rw [hG3 32 (by decide) (by decide), hG2 32 (by decide), hpk x hx, l1, (b4 _ (by omega)).1]
  have L1 : ∀ b x G fl, b = nI 1 → x = nI 0 → XS F G → BR G n q (-9) 0 fl → mm_Ex (d + 4) k_X5_canReach 4 (0, 0) [.ref 2, .int goal, .int ii, .int (nI m), .int b, .int x] [] (hH L xs J s G) K := by
    intro b x G fl hbd hx hG hb
    refine lp (n := m) (P := fun k => ∀ b x, b = nI (9 ^ k) → x = nI k → mm_Ex (d + 4) k_X5_canReach 4 (0, 0) [.ref 2, .int goal, .int ii, .int (nI m), .int b, .int x] [] (hH L xs J s G) K) ?_ ?_ b x hbd hx
    · intro b x hbd hx
      subst hx
      exact mm_run 60 (And.intro (fun _ => L2 _ _ G fl hbd rfl hG hb) (fun c => absurd ((nI_leI (by omega) (by omega)).mpr (Nat.le_refl m)) c))
    · intro k hk ih b x hbd hx
      subst hx
      refine mm_run 60 (And.intro (fun c => absurd c (nleI hk (by omega))) (fun _ => ih _ _ ?_ (nI_1 k)))
      rw [hbd]
      show nI (9 ^ k) * nI 9 = _
      rw [pk_mul, Nat.pow_succ]
  exact mm_run 60 (L1 _ _ G fl rfl rfl hG hb)
end XRe
