/-! the class: ways, nth, sure, together, till, flips, jam -/
theorem dif_z (a : Nat) : dif a 0 = a := by simp [dif]
theorem W_eq {n : Nat} {q : Rq} {ab : Nat} {fl : Nat → Nat} (h9 : n ≤ 9) : wB n q (-9) ab fl = wayB n q fl (dif (2 ^ n - 1) ab) := by
  funext S
  by_cases hS : S < 2 ^ n
  · exact (way_wB h9 hS).symm
  · unfold wB wayB
    have a : ¬ setB (stB n q (-9) ab fl S) n = S := fun e => by
      have := setB_lt (stB n q (-9) ab fl S) n
      omega
    have b : ¬ dueS n q fl (dif (2 ^ n - 1) ab) S = S := fun e => by
      have : dueS n q fl (dif (2 ^ n - 1) ab) S < 2 ^ n := setB_lt _ _
      omega
    simp [a, b]
theorem W_eq0 {n : Nat} {q : Rq} {fl : Nat → Nat} (h9 : n ≤ 9) : wB n q (-9) 0 fl = wayB n q fl (2 ^ n - 1) := by rw [W_eq h9, dif_z]
theorem tU_dif {n : Nat} {q : Rq} {last : Int32} : tU n q last n = dif (2 ^ n - 1) (setB (fun i => decide (last < q 1 i)) n) := by
  have H : ∀ i, tU n q last i = dif (2 ^ n - 1) (setB (fun i => decide (last < q 1 i)) i) := by
    intro i
    induction i with
    | zero => exact (dif_z _).symm
    | succ i ih =>
      rw [tU, setB, ih]
      apply Nat.eq_of_testBit_eq
      intro k
      by_cases c : last < q 1 i
      · rw [if_pos c, if_pos (by simpa using c), dif_bit, dif_bit, dif_bit, Nat.testBit_or]
        cases (2 ^ n - 1).testBit k <;> cases (setB (fun i => decide (last < q 1 i)) i).testBit k <;> cases (2 ^ i).testBit k <;> rfl
      · rw [if_neg c, if_neg (by simpa using c), Nat.or_zero]
  exact H n
theorem way_in {n : Nat} {q : Rq} {fl : Nat → Nat} {t S : Nat} (h : wayB n q fl t S = true) : S &&& t = S := by
  unfold wayB at h
  simp only [Bool.and_eq_true, decide_eq_true_eq] at h
  exact dif_0.mp h.1
theorem cnt_kth {w : Nat → Bool} {k : Nat} : ∀ {N : Nat}, k < fa_cnt w N → ∃ S, S < N ∧ w S = true ∧ fa_cnt w S = k
  | 0, h => absurd h (Nat.not_lt_zero k)
  | N + 1, h => by
    by_cases c : k < fa_cnt w N
    · obtain ⟨S, a, b, e⟩ := cnt_kth c
      exact ⟨S, by omega, b, e⟩
    · cases hw : w N
      · rw [fa_cnt_no hw] at h
        exact absurd h c
      · rw [fa_cnt_yes hw] at h
        exact ⟨N, by omega, hw, by omega⟩
theorem en_of {F : Nat → Nat → Int32} {n : Nat} (hn : F 75 10 = nI n) (h9 : n ≤ 9) : (F 75 10).toNatClampNeg = n := by rw [hn]; exact tn_nI (by omega)
theorem flp_2 {f : Nat → Int32} {d0 : Nat} (hf : ∀ e, f e = 0 ∨ f e = 1 ∨ f e = -1) : ∀ k, (flp f d0 k).2 = 0 ∨ (flp f d0 k).2 = 1 ∨ (flp f d0 k).2 = -1
  | 0 => Or.inl rfl
  | k + 1 => by
    rw [flp]
    dsimp only
    split
    · exact flp_2 hf k
    · exact hf _
section XTo
variable {d L s : Nat} {xs : Nat → Int32} {J : Nat → Int64} {F : Nat → Nat → Int32} {K : mm_K} {h : mm_H} {n : Nat} {q : Rq}
theorem x_fw (hc : CC F n q) {ab : Nat} (hk : ∀ G, XS F G → WR G n (wayB n q (fun _ => 0) (dif (2 ^ n - 1) ab)) → K none (hH L xs J s G)) : mm_call mm_Ex (d + 4) k_X5_findWays [.ref 2, .int (nI ab)] (hH L xs J s F) K := by
  refine x_findWays hc fun G hG hw => hk G hG ?_
  rw [← W_eq hc.2.1.1]
  exact hw
theorem x_fw0 (hc : CC F n q) (hk : ∀ G, XS F G → WR G n (wayB n q (fun _ => 0) (2 ^ n - 1)) → K none (hH L xs J s G)) : mm_call mm_Ex (d + 4) k_X5_findWays [.ref 2, .int 0] (hH L xs J s F) K := by
  refine x_findWays (ab := 0) hc fun G hG hw => hk G hG ?_
  rw [← W_eq0 hc.2.1.1]
  exact hw
theorem x_fwU (hc : CC F n q) {la : Int32} (hk : ∀ G, XS F G → WR G n (WU n q la) → K none (hH L xs J s G)) : mm_call mm_Ex (d + 4) k_X5_findWays [.ref 2, .int (nI (setB (fun i => decide (la < q 1 i)) n))] (hH L xs J s F) K := by
  refine x_fw hc fun G hG hw => hk G hG ?_
  unfold WU
  rw [tU_dif]
  exact hw
theorem x_ways (hx : XRc F F) (hn : F 75 10 = nI n) (hc : Cw n (mq F)) (hk : ∀ F1, XT F F1 (S_ways F).2 → K (some (.int (S_ways F).1)) (hH L xs J s F1)) : mm_call mm_Ex (d + 5) k_X5_ways [.ref 2] (hH L xs J s F) K := by
  have hcc := hx.cc hn hc
  have h9 := hc.1
  unfold S_ways at hk
  dsimp only at hk
  rw [en_of hn h9] at hk
  refine mm_run 20 (x_fw0 hcc fun G hG hw => x_first h9 hw ?_)
  have := hk _ ((hG.xt hx).te)
  rw [← hw.1] at this
  exact kh (K := K) (hp1 (F := G) (k := 2) (g := upd (G 2) 10 _) rfl) this
theorem x_sure (hx : XRc F F) (hn : F 75 10 = nI n) (hc : Cw n (mq F)) (hk : ∀ F1, XT F F1 (S_sure F).2 → K (some (.int (S_sure F).1)) (hH L xs J s F1)) : mm_call mm_Ex (d + 5) k_X5_sure [.ref 2] (hH L xs J s F) K := by
  have hcc := hx.cc hn hc
  have h9 := hc.1
  have hp := Nat.two_pow_pos n
  unfold S_sure at hk
  dsimp only at hk
  rw [en_of hn h9, st_any (by omega) (fun S hS => way_in hS), fl_any] at hk
  refine mm_run 20 (x_fw0 hcc fun G hG hw => x_surelyFalling h9 hw ?_)
  refine kc (hp1 (g := upd (G 2) 10 _) rfl) (x_surelyStanding (n := n) (w := wayB n (mq F) (fun _ => 0) (2 ^ n - 1)) h9 hw ?_)
  exact hk _ ((hG.xt hx).te)
theorem x_nth (hx : XRc F F) (hn : F 75 10 = nI n) (hc : Cw n (mq F)) {i : Int32} (hk : ∀ F1, XT F F1 (S_nth F i).2 → K (some (.int (S_nth F i).1)) (hH L xs J s F1)) : mm_call mm_Ex (d + 5) k_X5_nth [.ref 2, .int i] (hH L xs J s F) K := by
  have hcc := hx.cc hn hc
  have h9 := hc.1
  have hp9 := pw9 h9
  unfold S_nth at hk
  dsimp only at hk
  rw [en_of hn h9] at hk
  obtain ⟨w, hw0⟩ : ∃ w, W0 F n = w := ⟨_, rfl⟩
  rw [hw0] at hk
  have cl := fa_cnt_le w (2 ^ n)
  refine mm_run 20 (And.intro (fun c => x_fw0 hcc fun G hG hw => ?_) (fun c => ?_))
  · rw [if_pos c] at hk
    have hw : WR G n w := hw0 ▸ hw
    have J21 : ∀ v H, K (some (.int v)) (hH L xs J s H) → mm_Ex (d + 5) k_X5_nth 21 (0, 0) [.ref 2, .int i] [.int v] (hH L xs J s H) K := fun v H q => mm_run 5 q
    refine And.intro (fun g => x_refuse (w := 4) (by decide) (J21 _ _ ?_)) (fun g => ⟨?_, J21 _ _ ?_⟩)
    · have g : G 30 1 ≤ i := g
      rw [hw.1] at g
      rw [first_N (fun S hS => ?_), if_neg (by omega)] at hk
      · exact hk _ ((hG.xt hx).fi (by decide))
      · cases hb : w S
        · simp
        · have := cnt_lt hS hb
          simp only [Bool.true_and, decide_eq_false_iff_not]
          intro e
          rw [← e] at g
          exact absurd ((nI_leI (by omega) (by omega)).mp g) (by omega)
    · have g : ¬ G 30 1 ≤ i := g
      rw [hw.1] at g
      obtain ⟨k, hk1, rfl⟩ := lt_nI (by omega) c (Int32.not_le.mp g)
      exact vp_in_nI (by omega) (by decide)
    · have g : ¬ G 30 1 ≤ i := g
      rw [hw.1] at g
      obtain ⟨k, hk1, rfl⟩ := lt_nI (by omega) c (Int32.not_le.mp g)
      obtain ⟨S, hS, hwS, eS⟩ := cnt_kth hk1
      have ef : fa_first (fun S => w S && decide (nI (fa_cnt w S) = nI k)) (2 ^ n) = S := first_eq hS (by simp [hwS, eS]) (fun j hj => by
        cases hb : w j
        · simp
        · have := cnt_lt hj hb
          simp only [Bool.true_and, decide_eq_false_iff_not]
          intro e
          have := (nI_eq (by omega) (by omega)).mp e
          omega)
      rw [ef, if_pos hS] at hk
      have e := hw.2.1 S hS hwS
      rw [eS] at e
      rw [tn_nI (by omega)]
      show K (some (.int (G 31 k))) _
      rw [e]
      exact hk _ (hG.xt hx)
  · rw [if_neg c] at hk
    exact hk _ (XT.same hx)
theorem x_has0 (hc : CC F n q) {i : Int32} (hy : ∀ j, j < n → i = nI j → (0 ≤ i ∧ i ≤ nI n - 1) → K (some (.int 1)) (hH L xs J s F)) (hno : ¬ (0 ≤ i ∧ i ≤ nI n - 1) → K (some (.int 0)) (hH L xs J s F)) : mm_call mm_Ex (d + 1) k_X1_has [.ref 5, .int i] (hH L xs J s F) K := by
  have h9 := hc.2.1.1
  refine x_has5 ?_
  rw [hc.1]
  by_cases c : 0 ≤ i ∧ i < nI n
  · rw [b2i_t c]
    obtain ⟨j, hj, e⟩ := lt_nI (by omega) c.1 c.2
    exact hy j hj e ((lt_in (by omega)).mp c)
  · rw [b2i_f c]
    exact hno (fun z => c ((lt_in (by omega)).mpr z))
theorem x_together (hx : XRc F F) (hn : F 75 10 = nI n) (hc : Cw n (mq F)) {i : Int32} (hk : ∀ F1, XT F F1 (S_together F i).2 → K (some (.int (S_together F i).1)) (hH L xs J s F1)) : mm_call mm_Ex (d + 5) k_X5_together [.ref 2, .int i] (hH L xs J s F) K := by
  have hcc := hx.cc hn hc
  have h9 := hc.1
  have hp9 := pw9 h9
  unfold S_together at hk
  dsimp only at hk
  rw [en_of hn h9, hn] at hk
  obtain ⟨w, hw0⟩ : ∃ w, W0 F n = w := ⟨_, rfl⟩
  rw [hw0] at hk
  refine mm_run 20 (x_has0 hcc (fun j hj e hh => And.intro (fun _ => x_fw0 hcc fun G hG hw => ?_) (fun z => absurd z (by decide))) (fun hh => And.intro (fun z => absurd rfl z) (fun _ => ?_)))
  · subst e
    rw [if_pos hh, tn_nI (by omega)] at hk
    have hw : WR G n w := hw0 ▸ hw
    have hz := hw.num (by omega)
    refine And.intro (fun g => ?_) (fun g => x_refuse (w := 4) (by decide) ?_)
    · have g : ¬ fa_cnt w (2 ^ n) = 0 := fun y => g (hz.mpr y)
      rw [if_pos (any_cnt.mpr g)] at hk
      have e5 : G 5 6 = nI n := (hG.cc hcc).1
      have ev : (1 : Int32) <<< (G 5 6 &&& 31) - 1 = nI (2 ^ n - 1) := by rw [e5]; exact all_I h9
      refine mm_run 20 (wlp (N := 2 ^ n) (P := fun S => ∀ x a (w4 : Value), x = nI (fa_cnt w S) → a = nI (tgN (2 ^ n - 1) w j S) → mm_Ex (d + 5) k_X5_together 24 (0, 0) [.ref 2, .int (nI j), .int a, .int x, w4] [] (hH L xs J s G) K) w ?_ ?_ ?_ 0 _ _ rfl ev)
      · intro x a w4 hx1 ha
        subst hx1 ha
        exact mm_run 20 (And.intro (fun _ => hk _ (hG.xt hx)) (fun c => absurd (WI.ge h9 hw) c))
      · intro S hS hwS ih x a w4 hx1 ha
        subst hx1
        obtain ⟨v1, v2, v3⟩ := WI.at' h9 hw hS hwS
        have J45 : ∀ v b, a &&& v = nI (tgN (2 ^ n - 1) w j (S + 1)) → b = nI S → mm_Ex (d + 5) k_X5_together 45 (0, 0) [.ref 2, .int (nI j), .int a, .int (nI (fa_cnt w S)), .int b] [.int v, .int a] (hH L xs J s G) K := fun v b h1 h2 => mm_run 20 (ih _ _ _ (by rw [fa_cnt_yes hwS]; exact nI_1 _) h1)
        refine mm_run 40 (And.intro (fun c => absurd c v3) (fun _ => ⟨v1, ?_⟩))
        show mm_call mm_Ex (d + 4) k_X5_holds [.int (G 31 (nI (fa_cnt w S)).toNatClampNeg), .int (nI j)] _ _
        rw [v2]
        refine x_holdsN (by omega) (And.intro (fun c => J45 _ _ ?_ rfl) (fun c => J45 _ _ ?_ rfl))
        · have c := b2i_0.mp c
          rw [ha, difI, tgN, if_pos hwS, if_neg c]
        · have c := b2i_p c
          rw [ha, fa_and, tgN, if_pos hwS, if_pos c]
      · intro S hS hwS ih x a w4 hx1 ha
        refine ih x a w4 (by rw [fa_cnt_no hwS]; exact hx1) ?_
        rw [tgN, hwS]
        exact ha
    · have g : fa_cnt w (2 ^ n) = 0 := hz.mp g
      rw [if_neg (fun y => any_cnt.mp y g)] at hk
      exact hk _ ((hG.xt hx).fi (by decide))
  · rw [if_neg hh] at hk
    exact hk _ (XT.same hx)
theorem in10 {x : Int32} : (0 ≤ x ∧ x < 10) ↔ (0 ≤ x ∧ x ≤ 9) := lt_in (n := 10) (by decide)
theorem x_till (hx : XRc F F) (hn : F 75 10 = nI n) (hc : Cw n (mq F)) {day : Int32} (hk : ∀ F1, XT F F1 (S_till F day).2 → K (some (.int (S_till F day).1)) (hH L xs J s F1)) : mm_call mm_Ex (d + 5) k_X5_till [.ref 2, .int day] (hH L xs J s F) K := by
  have hcc := hx.cc hn hc
  have h9 := hc.1
  unfold S_till at hk
  dsimp only at hk
  rw [en_of hn h9] at hk
  refine mm_run 20 (x_within (And.intro (fun c => x_laterThan hcc (x_fwU hcc fun G hG hw => x_first h9 hw ?_)) (fun c => ?_)))
  · rw [if_pos (in10.mp (b2i_p c))] at hk
    have := hk _ ((hG.xt hx).te)
    rw [← hw.1] at this
    exact kh (K := K) (hp1 (F := G) (k := 2) (g := upd (G 2) 10 _) rfl) this
  · rw [if_neg (fun z => b2i_0.mp c (in10.mpr z))] at hk
    exact hk _ (XT.same hx)
theorem frst_9 {w : Nat → Bool} (h9 : n ≤ 9) : frst n w = -9 ↔ fa_cnt w (2 ^ n) = 0 := by
  have hp9 := pw9 h9
  unfold frst
  by_cases c : fa_first w (2 ^ n) < 2 ^ n
  · rw [if_pos c]
    exact ⟨fun e => absurd e (ne9 (by omega)), fun e => absurd e (first_cnt.mp c)⟩
  · rw [if_neg c]
    refine ⟨fun _ => ?_, fun _ => rfl⟩
    exact Classical.byContradiction fun y => c (first_cnt.mpr y)
theorem x_jam (hx : XRc F F) (hn : F 75 10 = nI n) (hc : Cw n (mq F)) (hk : ∀ F1, XT F F1 (S_jam F).2 → K (some (.int (S_jam F).1)) (hH L xs J s F1)) : mm_call mm_Ex (d + 5) k_X5_jam [.ref 2] (hH L xs J s F) K := by
  have hcc := hx.cc hn hc
  have h9 := hc.1
  unfold S_jam at hk
  dsimp only at hk
  rw [en_of hn h9] at hk
  obtain ⟨p, hp⟩ : ∃ p : Nat → Bool, (fun e => decide (frst n (WU n (mq F) (nI e)) = -9)) = p := ⟨_, rfl⟩
  rw [hp] at hk
  refine mm_run 20 (lp (n := 10) (P := fun e => (∀ j, j < e → p j = false) → ∀ x G, x = nI e → XS F G → mm_Ex (d + 5) k_X5_jam 2 (0, 0) [.ref 2, .int x] [] (hH L xs J s G) K) ?_ ?_ (fun j hj => absurd hj (Nat.not_lt_zero j)) 0 F rfl XS.rf)
  · intro ha x G hx1 hG
    subst hx1
    rw [first_N ha, if_neg (by decide)] at hk
    exact mm_run 20 (And.intro (fun _ => hk _ (hG.xt hx)) (fun c => absurd (by decide) c))
  · intro e he ih ha x G hx1 hG
    subst hx1
    have hp9 := pw9 h9
    have ep : p e = decide (frst n (WU n (mq F) (nI e)) = -9) := by rw [← hp]
    refine mm_run 20 (And.intro (fun c => absurd c (nleI (b := 10) he (by decide))) (fun _ => x_laterThan (hG.cc hcc) (x_fwU (hG.cc hcc) fun G2 hG2 hw => And.intro (fun g => ih ?_ _ _ (nI_1 e) (hG.tr hG2)) (fun g => ?_))))
    · have g : ¬ fa_cnt (WU n (mq F) (nI e)) (2 ^ n) = 0 := fun y => g ((hw.num (by omega)).mpr y)
      intro j hj
      by_cases e2 : j = e
      · rw [e2, ep, decide_eq_false_iff_not, frst_9 h9]
        exact g
      · exact ha j (by omega)
    · have g : fa_cnt (WU n (mq F) (nI e)) (2 ^ n) = 0 := (hw.num (by omega)).mp g
      rw [first_eq he (by rw [ep, decide_eq_true_eq, frst_9 h9]; exact g) ha, if_pos he] at hk
      exact hk _ ((hG.tr hG2).xt hx)
end XTo
