/-! the class: finding ways -/
def WI (G : Nat → Nat → Int32) (n : Nat) (w : Nat → Bool) (S : Nat) : Prop := G 30 1 = nI (fa_cnt w S) ∧ (∀ S', S' < S → w S' = true → G 31 (fa_cnt w S') = nI S') ∧ G 30 2 = nI (stN (2 ^ n - 1) w S) ∧ G 30 3 = nI (unN w S) ∧ G 30 4 = nI (2 ^ n - 1)
abbrev WR (G : Nat → Nat → Int32) (n : Nat) (w : Nat → Bool) : Prop := WI G n w (2 ^ n)
/-- only what is found is otherwise -/
def XW (F G : Nat → Nat → Int32) : Prop := ∀ k, k ≠ 30 → k ≠ 31 → G k = F k
theorem XW.xs {F G : Nat → Nat → Int32} (h : XW F G) : XS F G := fun k hk => h k (by omega) (by omega)
theorem XW.br {F G : Nat → Nat → Int32} (h : XW F G) {n : Nat} {q : Rq} {lf : Int32} {ab : Nat} {fl : Nat → Nat} (hb : BR F n q lf ab fl) : BR G n q lf ab fl := by
  unfold BR at hb ⊢
  rw [h 23 (by decide) (by decide), h 24 (by decide) (by decide), h 25 (by decide) (by decide), h 26 (by decide) (by decide), h 27 (by decide) (by decide), h 28 (by decide) (by decide), h 29 (by decide) (by decide)]
  exact hb
theorem WI.gap {G : Nat → Nat → Int32} {n : Nat} {w : Nat → Bool} {S S2 : Nat} (hi : WI G n w S) (hle : S ≤ S2) (hn : ∀ S', S ≤ S' → S' < S2 → w S' = false) : WI G n w S2 := by
  obtain ⟨m, rfl⟩ : ∃ m, S2 = S + m := ⟨S2 - S, by omega⟩
  obtain ⟨a, b, c, e, f⟩ := hi
  refine ⟨by rw [cnt_gap m hn]; exact a, fun S' h1 h2 => ?_, by rw [st_gap m hn]; exact c, by rw [un_gap m hn]; exact e, f⟩
  by_cases h3 : S' < S
  · exact b S' h3 h2
  · rw [hn S' (by omega) h1] at h2
    cases h2
section XFi
variable {d L s : Nat} {xs : Nat → Int32} {J : Nat → Int64} {F : Nat → Nat → Int32} {K : mm_K} {h : mm_H} {n : Nat} {q : Rq} {lf : Int32} {ab : Nat} {fl : Nat → Nat} {w : Nat → Bool}
theorem x_find (hb : BR F n q lf ab fl) (hk : ∀ G, XW F G → WR G n (wB n q lf ab fl) → K none (hH L xs J s G)) : mm_call mm_Ex (d + 3) k_X4_find [.ref 30, .ref 23] (hH L xs J s F) K := by
  have hc := hb.2.2.1
  have h9 := hc.1
  have hp9 := pw9 h9
  have hp0 := Nat.two_pow_pos n
  have H : ∀ m S, 2 ^ n - S ≤ m → S ≤ 2 ^ n → ∀ x (w3 : Value) G, x = nI S → XW F G → WI G n (wB n q lf ab fl) S → mm_Ex (d + 3) k_X4_find 20 (0, 0) [.ref 30, .ref 23, .int x, w3] [] (hH L xs J s G) K := by
    intro m
    induction m with
    | zero =>
      intro S hm hS x w3 G hx hG hI
      have e : S = 2 ^ n := by omega
      subst e
      subst hx
      refine mm_run 20 (And.intro (fun _ => hk _ hG hI) (fun c => absurd ?_ c))
      show G 30 4 < nI (2 ^ n)
      rw [hI.2.2.2.2]
      exact (nI_ltI (by omega) (by omega)).mpr (by omega)
    | succ m ih =>
      intro S hm hS x w3 G hx hG hI
      subst hx
      by_cases hSn : S = 2 ^ n
      · subst hSn
        refine mm_run 20 (And.intro (fun _ => hk _ hG hI) (fun c => absurd ?_ c))
        show G 30 4 < nI (2 ^ n)
        rw [hI.2.2.2.2]
        exact (nI_ltI (by omega) (by omega)).mpr (by omega)
      · have hSl : S < 2 ^ n := by omega
        have hbG := hG.br hb
        have J67 : ∀ x (w3 : Value) S2 G, S < S2 → S2 ≤ 2 ^ n → x + 1 = nI S2 → XW F G → WI G n (wB n q lf ab fl) S2 → mm_Ex (d + 3) k_X4_find 67 (0, 0) [.ref 30, .ref 23, .int x, w3] [] (hH L xs J s G) K := fun x w3 S2 G h1 h2 h3 h4 h5 => mm_run 5 (ih S2 (by omega) h2 _ _ _ h3 h4 h5)
        refine mm_run 60 (And.intro (fun c => ?_) (fun _ => x_clash hbG hSl (fun hw => ?_) (fun p hp hno => ?_)))
        · have c : G 30 4 < nI S := c
          rw [hI.2.2.2.2] at c
          exact absurd ((nI_ltI (by omega) (by omega)).mp c) (by omega)
        · obtain ⟨a, b, c, e, f⟩ := hI
          have cl : fa_cnt (wB n q lf ab fl) S ≤ S := fa_cnt_le _ _
          have vc : vp_in (G 30 1) 512 := by rw [a]; exact vp_in_nI (by omega) (by decide)
          have ec : (G 30 1).toNatClampNeg = fa_cnt (wB n q lf ab fl) S := by rw [a]; exact tn_nI (by omega)
          refine And.intro (fun _ => And.intro (fun g => ?_) (fun _ => ⟨vc, ?_⟩)) (fun g => absurd (show (0 : Int32) ≤ 0 by decide) g)
          · have g : nI 512 ≤ G 30 1 := g
            rw [a] at g
            exact absurd ((nI_leI (by omega) (by omega)).mp g) (by omega)
          · refine kx (hp4 (g := upd (G 31) (fa_cnt (wB n q lf ab fl) S) (nI S)) (g2 := upd (G 30) 1 (G 30 1 + 1)) (g3 := upd (upd (G 30) 1 (G 30 1 + 1)) 2 (G 30 2 &&& nI S)) (g4 := upd (upd (upd (G 30) 1 (G 30 1 + 1)) 2 (G 30 2 &&& nI S)) 3 (G 30 3 ||| nI S)) ?_ rfl rfl rfl) (J67 _ _ (S + 1) _ (by omega) (by omega) (nI_1 S) ?_ ?_)
            · show mI 512 (upd (G 31) _ (nI S)) = mI 512 (upd (G 31) (G 30 1).toNatClampNeg (nI S))
              rw [ec]
            · intro k h1 h2
              rw [upF_ne h1, upF_ne h1, upF_ne h1, upF_ne h2]
              exact hG k h1 h2
            · refine ⟨?_, fun S' h1 h2 => ?_, ?_, ?_, f⟩
              · show G 30 1 + 1 = _
                rw [a, nI_1, fa_cnt_yes hw]
              · show upd (G 31) (fa_cnt (wB n q lf ab fl) S) (nI S) (fa_cnt (wB n q lf ab fl) S') = _
                by_cases e2 : S' = S
                · rw [e2, upd_at]
                · rw [upd_ne (Nat.ne_of_lt (cnt_lt (show S' < S by omega) h2))]
                  exact b S' (by omega) h2
              · show G 30 2 &&& nI S = _
                rw [c, fa_and, stN, if_pos hw]
              · show G 30 3 ||| nI S = _
                rw [e, fa_or, unN, if_pos hw]
        · have hpos := Nat.two_pow_pos p
          have hp31 : 2 ^ p < 2 ^ 31 := Nat.pow_lt_pow_right (by decide) (by omega)
          have h2n : 2 ^ p * (S / 2 ^ p) + 2 ^ p ≤ 2 ^ n := by
            have e : 2 ^ n = 2 ^ p * 2 ^ (n - p) := by rw [← Nat.pow_add]; congr 1; omega
            have a : S / 2 ^ p < 2 ^ (n - p) := by
              rw [Nat.div_lt_iff_lt_mul hpos, Nat.mul_comm, ← e]
              exact hSl
            rw [e, ← Nat.mul_succ]
            exact Nat.mul_le_mul_left _ a
          have hgt : S < 2 ^ p * (S / 2 ^ p) + 2 ^ p := by
            have := Nat.div_add_mod S (2 ^ p)
            have := Nat.mod_lt S hpos
            omega
          refine And.intro (fun g => absurd ((nI_leI (b := 0) hp31 (by decide)).mp g) (by omega)) (fun _ => J67 _ _ (2 ^ p * (S / 2 ^ p) + 2 ^ p) _ hgt h2n ?_ hG (hI.gap (by omega) fun S' h1 h2 => hno S' (by omega) (div_same h1 h2)))
          have e : nI (2 ^ p) - 1 = nI (2 ^ p - 1) := by
            obtain ⟨k, hk⟩ : ∃ k, 2 ^ p = k + 1 := ⟨2 ^ p - 1, by omega⟩
            rw [hk, nI_pred]
            rfl
          rw [e, fa_or, nI_1, skip_to]
  have e7 : F 23 7 = nI n := hb.1
  have ev : (1 : Int32) <<< (F 23 7 &&& 31) - 1 = nI (2 ^ n - 1) := by rw [e7]; exact all_I h9
  refine mm_run 60 (kx (hp4 (g := upd (F 30) 4 (nI (2 ^ n - 1))) (g2 := upd (upd (F 30) 4 (nI (2 ^ n - 1))) 1 0) (g3 := upd (upd (upd (F 30) 4 (nI (2 ^ n - 1))) 1 0) 2 (nI (2 ^ n - 1))) (g4 := upd (upd (upd (upd (F 30) 4 (nI (2 ^ n - 1))) 1 0) 2 (nI (2 ^ n - 1))) 3 0) ?_ ?_ ?_ ?_) (H (2 ^ n) 0 (by omega) (by omega) _ _ _ rfl ?_ ?_))
  · rw [← ev]; rfl
  · rw [← ev]; rfl
  · rw [← ev]; rfl
  · rw [← ev]; rfl
  · intro k h1 h2
    rw [upF_ne h1, upF_ne h1, upF_ne h1, upF_ne h1]
  · exact ⟨rfl, fun S' h1 => absurd h1 (Nat.not_lt_zero S'), rfl, rfl, rfl⟩
theorem WI.num {G : Nat → Nat → Int32} {S : Nat} (hI : WI G n w S) (h : S < 2 ^ 31) : (G 30 1 = 0 ↔ fa_cnt w S = 0) := by
  rw [hI.1]
  have := fa_cnt_le w S
  exact nI_z (by omega)
theorem x_first (h9 : n ≤ 9) (hI : WR F n w) (hk : K (some (.int (frst n w))) (hH L xs J s F)) : mm_call mm_Ex d k_X4_first [.ref 30] (hH L xs J s F) K := by
  have hp9 := pw9 h9
  have hz := hI.num (by omega)
  have J9 : ∀ v, v = frst n w → mm_Ex d k_X4_first 9 (0, 0) [.ref 30] [.int v] (hH L xs J s F) K := fun v e => by
    subst e
    exact mm_run 5 hk
  refine mm_run 20 (And.intro (fun c => ⟨vp_in_nI (by decide) (by decide), J9 _ ?_⟩) (fun c => J9 _ ?_))
  · have c : ¬ fa_cnt w (2 ^ n) = 0 := fun y => c (hz.mpr y)
    have hf := first_cnt.mpr c
    have e := hI.2.1 _ hf (fa_first_yes w _ hf)
    rw [cnt_first] at e
    show F 31 0 = _
    rw [e]
    unfold frst
    rw [if_pos hf]
  · have c : fa_cnt w (2 ^ n) = 0 := hz.mp c
    unfold frst
    rw [if_neg (fun y => first_cnt.mp y c)]
theorem x_surelyStanding (h9 : n ≤ 9) (hI : WR F n w) (hk : K (some (.int (nI (if fa_cnt w (2 ^ n) = 0 then 0 else stN (2 ^ n - 1) w (2 ^ n))))) (hH L xs J s F)) : mm_call mm_Ex d k_X4_surelyStanding [.ref 30] (hH L xs J s F) K := by
  have hp9 := pw9 h9
  have hz := hI.num (by omega)
  have J9 : ∀ v, v = nI (if fa_cnt w (2 ^ n) = 0 then 0 else stN (2 ^ n - 1) w (2 ^ n)) → mm_Ex d k_X4_surelyStanding 7 (0, 0) [.ref 30] [.int v] (hH L xs J s F) K := fun v e => by
    subst e
    exact mm_run 5 hk
  refine mm_run 20 (And.intro (fun c => J9 _ ?_) (fun c => J9 _ ?_))
  · have c : ¬ fa_cnt w (2 ^ n) = 0 := fun y => c (hz.mpr y)
    rw [if_neg c]
    exact hI.2.2.1
  · have c : fa_cnt w (2 ^ n) = 0 := hz.mp c
    rw [if_pos c]
    rfl
theorem x_surelyFalling (h9 : n ≤ 9) (hI : WR F n w) (hk : K (some (.int (nI (if fa_cnt w (2 ^ n) = 0 then 0 else dif (2 ^ n - 1) (unN w (2 ^ n)))))) (hH L xs J s F)) : mm_call mm_Ex d k_X4_surelyFalling [.ref 30] (hH L xs J s F) K := by
  have hp9 := pw9 h9
  have hz := hI.num (by omega)
  have J9 : ∀ v, v = nI (if fa_cnt w (2 ^ n) = 0 then 0 else dif (2 ^ n - 1) (unN w (2 ^ n))) → mm_Ex d k_X4_surelyFalling 12 (0, 0) [.ref 30] [.int v] (hH L xs J s F) K := fun v e => by
    subst e
    exact mm_run 5 hk
  refine mm_run 20 (And.intro (fun c => J9 _ ?_) (fun c => J9 _ ?_))
  · have c : ¬ fa_cnt w (2 ^ n) = 0 := fun y => c (hz.mpr y)
    rw [if_neg c]
    show F 30 4 &&& (F 30 3 ^^^ (-1)) = _
    rw [hI.2.2.2.2, hI.2.2.2.1, difI]
  · have c : fa_cnt w (2 ^ n) = 0 := hz.mp c
    rw [if_pos c]
    rfl
/-- the set of a way -/
theorem WI.at' (h9 : n ≤ 9) (hI : WR F n w) {S : Nat} (hS : S < 2 ^ n) (hw : w S = true) : vp_in (nI (fa_cnt w S)) 512 ∧ F 31 (nI (fa_cnt w S)).toNatClampNeg = nI S ∧ ¬ F 30 1 ≤ nI (fa_cnt w S) := by
  have hp9 := pw9 h9
  have a := fa_cnt_le w S
  have b := fa_cnt_le w (2 ^ n)
  refine ⟨vp_in_nI (by omega) (by decide), ?_, ?_⟩
  · rw [tn_nI (by omega)]
    exact hI.2.1 S hS hw
  · rw [hI.1]
    exact nleI (cnt_lt hS hw) (by omega)
theorem WI.ge (h9 : n ≤ 9) (hI : WR F n w) : F 30 1 ≤ nI (fa_cnt w (2 ^ n)) := by
  have hp9 := pw9 h9
  have b := fa_cnt_le w (2 ^ n)
  rw [hI.1]
  exact (nI_leI (by omega) (by omega)).mpr (Nat.le_refl _)
theorem x_waysWith (h9 : n ≤ 9) (hI : WR F n w) {i : Nat} (hi : i < 31) (hk : K (some (.int (nI (fa_cnt (fun S => S.testBit i && w S) (2 ^ n))))) (hH L xs J s F)) : mm_call mm_Ex d k_X4_waysWith [.ref 30, .int (nI i)] (hH L xs J s F) K := by
  refine mm_run 20 (wlp (N := 2 ^ n) (P := fun S => ∀ x a, x = nI (fa_cnt w S) → a = nI (0 + fa_cnt (fun S => S.testBit i && w S) S) → mm_Ex d k_X4_waysWith 4 (0, 0) [.ref 30, .int (nI i), .int a, .int x] [] (hH L xs J s F) K) w ?_ ?_ ?_ 0 0 rfl rfl)
  · intro x a hx ha
    rw [Nat.zero_add] at ha
    subst hx ha
    exact mm_run 20 (And.intro (fun _ => hk) (fun c => absurd (WI.ge h9 hI) c))
  · intro S hS hw ih x a hx ha
    subst hx
    obtain ⟨v1, v2, v3⟩ := WI.at' h9 hI hS hw
    refine mm_run 40 (And.intro (fun c => absurd c v3) (fun _ => ⟨v1, ih _ _ (by rw [fa_cnt_yes hw]; exact nI_1 _) ?_⟩))
    show a + ((F 31 (nI (fa_cnt w S)).toNatClampNeg >>> (nI i &&& 31)) &&& 1) = _
    rw [v2, bitI hi, ha]
    have := nI_b 0 (fun S => S.testBit i && w S) S
    simp only [hw, Bool.and_true] at this ⊢
    exact this
  · intro S hS hw ih x a hx ha
    refine ih x a (by rw [fa_cnt_no hw]; exact hx) ?_
    rw [fa_cnt_no (by simp [hw])]
    exact ha
theorem x_findWays (hc : CC F n q) {ab : Nat} (hk : ∀ G, XS F G → WR G n (wB n q (-9) ab (fun _ => 0)) → K none (hH L xs J s G)) : mm_call mm_Ex (d + 4) k_X5_findWays [.ref 2, .int (nI ab)] (hH L xs J s F) K := by
  refine mm_run 20 (x_seat hc fun G hG hb => ?_)
  refine kc (hp1 (g := upd (G 23) 6 (nI ab)) rfl) (x_find (q := q) (lf := -9) (ab := ab) (fl := fun _ => 0) ?_ fun G' hG' hw => hk _ ((hG.tr (XS.up (by omega))).tr hG'.xs) hw)
  obtain ⟨a, b, c, e⟩ := hb
  exact ⟨a, rfl, c, e⟩
end XFi
