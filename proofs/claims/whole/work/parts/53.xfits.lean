/-! the class: due, mark, kinds, forged, torn -/
theorem due_st {n : Nat} {q : Rq} {S : Nat} (h9 : n ≤ 9) (hS : S < 2 ^ n) : dueS n q (fun _ => 0) (2 ^ n - 1) S = setB (stB n q (-9) 0 (fun _ => 0) S) n := by
  unfold dueS
  rw [and_all hS]
  refine bits_ext (setB_lt _ _) (setB_lt _ _) fun i hi => ?_
  rw [setB_bit, setB_bit, all_bit]
  unfold stB cdI
  rw [if_neg (nI_n9 (by omega))]
  simp [hi]
theorem qk_ne {q : Rq} {j : Nat} {v : Int32} {a : Nat} (h : a ≠ 0) : qk q j v a = q a := by
  funext i
  exact if_neg (fun y => h y.1)
theorem qk_at {q : Rq} {j : Nat} {v : Int32} : qk q j v 0 j = v := if_pos ⟨rfl, rfl⟩
theorem qk_ot {q : Rq} {j i : Nat} {v : Int32} (h : i ≠ j) : qk q j v 0 i = q 0 i := if_neg (fun y => h y.2)
theorem qk_qk {q : Rq} {j : Nat} {v u : Int32} : qk (qk q j v) j u = qk q j u := by
  funext a i
  unfold qk
  split <;> rfl
theorem qk_id {q : Rq} {j : Nat} : qk q j (q 0 j) = q := by
  funext a i
  unfold qk
  split
  · rename_i h
    rw [h.1, h.2]
  · rfl
theorem BR.kind {F : Nat → Nat → Int32} {n : Nat} {q : Rq} {lf : Int32} {ab : Nat} {fl : Nat → Nat} {j k : Nat} (hb : BR F n q lf ab fl) (hk : k ≤ 5) : BR (upF F 24 (upd (F 24) j (nI k))) n (qk q j (nI k)) lf ab fl := by
  obtain ⟨a, b, c, e⟩ := hb
  refine ⟨a, b, Cw_qk c hk, fun i hi => ?_⟩
  obtain ⟨a1, a2, a3, a4, a5, a6, a7⟩ := e i hi
  have e1 : agS n (qk q j (nI k)) lf i = agS n q lf i := by unfold agS; rw [qk_ne (by decide), qk_ne (by decide)]
  have e2 : prS n (qk q j (nI k)) lf i = prS n q lf i := by unfold prS; rw [qk_ne (by decide), qk_ne (by decide)]
  have e3 : cdS (qk q j (nI k)) lf i = cdS q lf i := by unfold cdS; rw [qk_ne (by decide)]
  have e4 : sdS n (qk q j (nI k)) i = sdS n q i := by unfold sdS; rw [qk_ne (by decide)]
  rw [e1, e2, e3, e4]
  refine ⟨?_, a2, a3, a4, a5, a6, a7⟩
  show upd (F 24) j (nI k) i = _
  by_cases h : i = j
  · rw [h, upd_at, qk_at]
  · rw [upd_ne h, qk_ot h]
    exact a1
theorem ag_lf {n : Nat} {q : Rq} {f i : Nat} (h9 : n ≤ 9) (hf : f < 9) : dif (agS n q (-9) i) (2 ^ f) = agS n q (nI f) i := by
  unfold agS
  refine bits_ext (dif_le _ _ (setB_lt _ _)) (setB_lt _ _) fun k hk => ?_
  rw [dif_bit, setB_bit, setB_bit, Nat.testBit_two_pow]
  have e1 : ¬ nI k = -9 := nI_n9 (by omega)
  by_cases e : f = k
  · subst e
    simp
  · have e2 : ¬ nI k = nI f := fun y => e ((nI_eq (by omega) (by omega)).mp y).symm
    simp [hk, e1, e, e2]
theorem pr_lf {n : Nat} {q : Rq} {f i : Nat} (h9 : n ≤ 9) (hf : f < 9) : dif (prS n q (-9) i) (2 ^ f) = prS n q (nI f) i := by
  unfold prS
  refine bits_ext (dif_le _ _ (setB_lt _ _)) (setB_lt _ _) fun k hk => ?_
  rw [dif_bit, setB_bit, setB_bit, Nat.testBit_two_pow]
  have e1 : ¬ nI k = -9 := nI_n9 (by omega)
  by_cases e : f = k
  · subst e
    simp
  · have e2 : ¬ nI k = nI f := fun y => e ((nI_eq (by omega) (by omega)).mp y).symm
    simp [hk, e1, e, e2]
theorem fg_wB {n : Nat} {q : Rq} {S f : Nat} (h9 : n ≤ 9) (hS : S < 2 ^ n) (hf : f < n) : wB n q (nI f) 0 (fun _ => 0) S = decide (fgS n q S f = S) := by
  have e : fgS n q S f = setB (stB n q (nI f) 0 (fun _ => 0) S) n := by
    unfold fgS
    rw [and_all hS]
    refine bits_ext (setB_lt _ _) (setB_lt _ _) fun i hi => ?_
    rw [setB_bit, setB_bit]
    unfold stB cdI
    have : (nI i = nI f) ↔ i = f := nI_eq (by omega) (by omega)
    by_cases e : i = f
    · simp [e]
    · have e2 : ¬ nI i = nI f := fun y => e (this.mp y)
      simp [hi, e, e2]
  unfold wB
  rw [e]
theorem first_s (p : Nat → Bool) (n : Nat) : fa_first p (n + 1) = if fa_first p n < n then fa_first p n else if p n then n else n + 1 := rfl
def lsV (p : Nat → Bool) (N : Nat) : Int32 := if fa_first p N < N then nI (fa_first p N) else -9
theorem ls_s {p : Nat → Bool} {S : Nat} : lsV p (S + 1) = if p S = true then (if fa_cnt p S = 0 then nI S else lsV p S) else lsV p S := by
  unfold lsV
  rw [first_s]
  by_cases c : fa_first p S < S
  · have c2 : ¬ fa_cnt p S = 0 := first_cnt.mp c
    rw [if_pos c, if_pos (by omega), if_neg c2, if_pos c]
    split <;> rfl
  · have c2 : fa_cnt p S = 0 := Classical.byContradiction fun y => c (first_cnt.mpr y)
    rw [if_neg c, if_pos c2, if_neg c]
    by_cases hp : p S = true
    · rw [if_pos hp, if_pos (by omega), if_pos hp]
    · rw [if_neg hp, if_neg (by omega), if_neg hp]
section XFt
variable {d L s : Nat} {xs : Nat → Int32} {J : Nat → Int64} {F : Nat → Nat → Int32} {K : mm_K} {h : mm_H} {n : Nat} {q : Rq}
theorem x_dependsOn (hc : CC F n q) {i : Nat} (hi : i < n) (hk : K (some (.int (nI (depN q n (q 3 i))))) (hH L xs J s F)) : mm_call mm_Ex (d + 2) k_X1_dependsOn [.ref 5, .int (nI i)] (hH L xs J s F) K := by
  have hw := hc.2.1
  have h9 := hw.1
  have LP : ∀ f c a x, (c = -9 ∨ ∃ j, j < f ∧ j < n ∧ c = nI j) → x = nI a → a + f ≤ 9 → a + depN q f c = depN q n (q 3 i) → mm_Ex (d + 2) k_X1_dependsOn 13 (0, 0) [.ref 5, .int (nI i), .int x, .int c] [] (hH L xs J s F) K := by
    have END : ∀ a x, x = nI a → a = depN q n (q 3 i) → ∀ w : Value, mm_Ex (d + 2) k_X1_dependsOn 27 (0, 0) [.ref 5, .int (nI i), .int x, w] [] (hH L xs J s F) K := fun a x hx e w => by
      subst hx
      subst e
      exact mm_run 5 hk
    have M9 : ∀ a x, x = nI a → a = depN q n (q 3 i) → mm_Ex (d + 2) k_X1_dependsOn 13 (0, 0) [.ref 5, .int (nI i), .int x, .int (-9)] [] (hH L xs J s F) K := fun a x hx e => mm_run 90 (x_has5 (And.intro (fun _ => END a x hx e _) (fun z => absurd (b2i_p z).1 (by decide))))
    intro f
    induction f with
    | zero =>
      intro c a x hcc hx _ e
      rcases hcc with rfl | ⟨j, h1, -⟩
      · exact M9 a x hx e
      · omega
    | succ f ih =>
      intro c a x hcc hx haf e
      rcases hcc with rfl | ⟨j, h1, h2, rfl⟩
      · exact M9 a x hx e
      · rw [depN, if_neg (nI_n9 (by omega))] at e
        have ej : (nI j).toNatClampNeg = j := tn_nI (by omega)
        rw [ej] at e
        have e3 : F 9 (nI j).toNatClampNeg = q 3 j := by rw [ej]; exact hc.2.2 3 (by decide) j h2
        refine mm_run 90 (x_has5 ?_)
        rw [hc.1]
        refine And.intro (fun z => absurd ⟨nle0 (by omega), (nI_ltI (by omega) (by omega)).mpr h2⟩ (b2i_0.mp z)) (fun _ => And.intro (fun z => ?_) (fun _ => ⟨vp_in_nI (by omega) (by decide), ?_⟩))
        · rw [hx] at z
          exact absurd ((nI_leI (a := 9) (by decide) (by omega)).mp z) (by omega)
        · have := ih (q 3 j) (a + 1) (x + 1) ?_ (by rw [hx, nI_1]) (by omega) (by omega)
          · rw [← e3] at this
            exact this
          · rcases (hw.2 j h2).2.2.2.1 with ⟨y, -⟩ | ⟨k, k1, k2, -⟩
            · exact Or.inl y
            · exact Or.inr ⟨k, by omega, by omega, k2⟩
  have ei : (nI i).toNatClampNeg = i := tn_nI (by omega)
  have e3 : F 9 (nI i).toNatClampNeg = q 3 i := by rw [ei]; exact hc.2.2 3 (by decide) i hi
  have J12 : ∀ v, v = q 3 i → mm_Ex (d + 2) k_X1_dependsOn 12 (0, 0) [.ref 5, .int (nI i), .int 0, .null] [.int v] (hH L xs J s F) K := fun v e => by
    subst e
    refine mm_run 10 (LP n _ 0 0 ?_ rfl (by omega) (Nat.zero_add _))
    rcases (hw.2 i hi).2.2.2.1 with ⟨y, -⟩ | ⟨k, k1, k2, -⟩
    · exact Or.inl y
    · exact Or.inr ⟨k, by omega, by omega, k2⟩
  refine mm_run 90 (x_has5 ?_)
  rw [hc.1]
  exact And.intro (fun z => absurd ⟨nle0 (by omega), (nI_ltI (by omega) (by omega)).mpr hi⟩ (b2i_0.mp z)) (fun _ => ⟨vp_in_nI (by omega) (by decide), J12 _ e3⟩)
theorem in6 {x : Int32} : (0 ≤ x ∧ x < 6) ↔ (0 ≤ x ∧ x ≤ 5) := lt_in (n := 6) (by decide)
theorem cite_1 {i sg : Int32} (h : ¬ sg = 0) : fa_cnt (fun j => decide (q 3 j = i) && decide (q 4 j = sg)) n = citeN n q i sg := by
  unfold citeN
  refine fa_cnt_cong fun j _ => ?_
  simp [h]
theorem k15 {kind : Int32} : (1 ≤ kind ∧ kind ≤ 5) ↔ (0 ≤ kind ∧ kind < 6) ∧ ¬ kind = 0 := by
  rw [in6]
  constructor
  · rintro ⟨a, b⟩
    refine ⟨⟨Int32.le_trans (by decide) a, b⟩, fun e => ?_⟩
    rw [e] at a
    exact absurd a (by decide)
  · rintro ⟨⟨a, b⟩, e⟩
    obtain ⟨j, hj, rfl⟩ := in_nI (n := 5) (by decide) a b
    refine ⟨(nI_leI (a := 1) (by decide) (by omega)).mpr ?_, b⟩
    have : ¬ j = 0 := fun y => e (by rw [y]; rfl)
    omega
theorem x_mark (hx : XRc F F) (hn : F 75 10 = nI n) (hc : Cw n (mq F)) {i kind : Int32} (hk : ∀ F1, XT F F1 (S_mark F i kind).2 → K (some (.int (S_mark F i kind).1)) (hH L xs J s F1)) : mm_call mm_Ex (d + 5) k_X5_mark [.ref 2, .int i, .int kind] (hH L xs J s F) K := by
  have hcc := hx.cc hn hc
  have h9 := hc.1
  have hp9 := pw9 h9
  unfold S_mark at hk
  dsimp only at hk
  rw [en_of hn h9, hn] at hk
  have B : ¬ ((0 ≤ i ∧ i ≤ nI n - 1) ∧ (1 ≤ kind ∧ kind ≤ 5)) → mm_Ex (d + 5) k_X5_mark 11 (0, 0) [.ref 2, .int i, .int kind] [] (hH L xs J s F) K := fun c => by
    rw [if_neg c] at hk
    exact mm_run 5 (hk _ (XT.same hx))
  refine mm_run 90 (x_has0 hcc (fun j hj e hh => And.intro (fun z => absurd z (by decide)) (fun _ => And.intro (fun c => B fun y => (k15.mp y.2).2 c) (fun c => x_within (And.intro (fun c2 => ⟨by subst e; exact vp_in_nI (by omega) (by decide), x_isOfKind ?_⟩) (fun c2 => B fun y => b2i_0.mp c2 (k15.mp y.2).1))))) (fun hh => And.intro (fun _ => B fun y => hh y.1) (fun z => absurd rfl z)))
  have hkd := k15.mpr ⟨b2i_p c2, c⟩
  subst e
  have ej : (nI j).toNatClampNeg = j := tn_nI (by omega)
  have e0 : F 6 (nI j).toNatClampNeg = mq F 0 j := by rw [ej]; exact hcc.2.2 0 (by decide) j hj
  rw [if_pos ⟨hh, hkd⟩, ej] at hk
  refine And.intro (fun c3 => ?_) (fun c3 => x_refuse (w := 3) (by decide) ?_)
  · have c3 := b2i_p c3
    rw [e0] at c3
    rw [if_pos c3] at hk
    refine ⟨fun k1 => x_dependsOn hcc hj ?_, fun k1 => ⟨fun k2 => x_citations hcc ?_, fun k2 => ⟨fun k3 => x_citations hcc ?_, fun k3 => ⟨fun k4 => x_othersOfItsDay hcc hj ?_, fun k4 => x_fw0 hcc fun G hG hw => x_waysWith h9 hw (by omega) ?_⟩⟩⟩⟩
    · rw [if_neg (by rw [k1]; decide), if_pos k1] at hk
      exact hk _ (XT.same hx)
    · rw [if_neg (by rw [k2]; decide), if_neg k1, if_pos k2] at hk
      rw [cite_1 (by decide)]
      exact hk _ (XT.same hx)
    · rw [if_neg (by rw [k3]; decide), if_neg k1, if_neg k2, if_pos k3] at hk
      rw [cite_1 (by decide)]
      exact hk _ (XT.same hx)
    · rw [if_neg (by rw [k4]; decide), if_neg k1, if_neg k2, if_neg (by rw [k4]; decide)] at hk
      refine x_bitCount (Nat.lt_of_lt_of_le (dif_le _ _ (setB_lt _ _)) hp9) ?_
      rw [← day_one h9] at hk
      exact hk _ (XT.same hx)
    · have k5 : kind = 5 := by
        obtain ⟨a, ha, rfl⟩ := in_nI (n := 5) (by decide) (Int32.le_trans (by decide) hkd.1) hkd.2
        have n0 : ¬ a = 0 := fun y => c (by rw [y]; rfl)
        have n1 : ¬ a = 1 := fun y => k1 (by rw [y]; rfl)
        have n2 : ¬ a = 2 := fun y => k2 (by rw [y]; rfl)
        have n3 : ¬ a = 3 := fun y => k3 (by rw [y]; rfl)
        have n4 : ¬ a = 4 := fun y => k4 (by rw [y]; rfl)
        have : a = 5 := by omega
        rw [this]
        rfl
      rw [if_pos k5] at hk
      exact hk _ (hG.xt hx)
  · have c3 := b2i_0.mp c3
    rw [e0] at c3
    rw [if_neg c3] at hk
    exact hk _ ((XT.same hx).fi (by decide))
/-- a set that is asked for -/
theorem x_set (hc : CC F n q) {S : Int32} (hy : ∀ T, T < 2 ^ n → S = nI T → K (some (.int 1)) h) (hno : ¬ (0 ≤ S ∧ S ≤ (1 : Int32) <<< (nI n &&& 31) - 1) → K (some (.int 0)) h) : mm_call mm_Ex d k_X5_within [.int S, .int ((1 : Int32) <<< (F 5 6 &&& 31))] h K := by
  have h9 := hc.2.1.1
  rw [hc.1]
  refine x_within ?_
  by_cases c : 0 ≤ S ∧ S < (1 : Int32) <<< (nI n &&& 31)
  · rw [b2i_t c]
    obtain ⟨T, hT, e⟩ := set_of h9 ((set_in h9).mp c)
    exact hy T hT e
  · rw [b2i_f c]
    exact hno (fun z => c ((set_in h9).mpr z))
theorem set_yes {T : Nat} (h9 : n ≤ 9) (hT : T < 2 ^ n) : 0 ≤ nI T ∧ nI T ≤ (1 : Int32) <<< (nI n &&& 31) - 1 := by
  have hp9 := pw9 h9
  rw [all_I h9]
  exact ⟨nle0 (by omega), (nI_leI (by omega) (by omega)).mpr (by omega)⟩
theorem x_due (hx : XRc F F) (hn : F 75 10 = nI n) (hc : Cw n (mq F)) {S : Int32} (hk : ∀ F1, XT F F1 (S_due F S).2 → K (some (.int (S_due F S).1)) (hH L xs J s F1)) : mm_call mm_Ex (d + 5) k_X5_due [.ref 2, .int S] (hH L xs J s F) K := by
  have hcc := hx.cc hn hc
  have h9 := hc.1
  have hp9 := pw9 h9
  unfold S_due at hk
  dsimp only at hk
  rw [en_of hn h9, hn] at hk
  refine mm_run 90 (x_set hcc (fun T hT e => And.intro (fun _ => x_seat hcc fun G hG hb => ?_) (fun z => absurd z (by decide))) (fun hh => And.intro (fun z => absurd rfl z) (fun _ => ?_)))
  · subst e
    rw [if_pos (set_yes h9 hT), tn_nI (by omega), due_st h9 hT] at hk
    have e5 : G 5 6 = nI n := (hG.cc hcc).1
    obtain ⟨p, hp⟩ : ∃ p, stB n (mq F) (-9) 0 (fun _ => 0) T = p := ⟨_, rfl⟩
    rw [hp] at hk
    refine lp (n := n) (P := fun i => ∀ x a, x = nI i → a = nI (setB p i) → mm_Ex (d + 5) k_X5_due 19 (0, 0) [.ref 2, .int (nI T), .int a, .int x] [] (hH L xs J s G) K) ?_ ?_ 0 0 rfl rfl
    · intro x a hx1 ha
      subst hx1 ha
      exact mm_run 90 (And.intro (fun _ => hk _ (hG.xt hx)) (fun c => absurd (hG.cc hcc).ge c))
    · intro i hi ih x a hx1 ha
      subst hx1
      have J36 : ∀ a, a = nI (setB p (i + 1)) → mm_Ex (d + 5) k_X5_due 36 (0, 0) [.ref 2, .int (nI T), .int a, .int (nI i)] [] (hH L xs J s G) K := fun a e => mm_run 10 (ih _ _ (nI_1 i) e)
      refine mm_run 90 (And.intro (fun c => absurd c ((hG.cc hcc).lt hi)) (fun _ => x_isToStand hb hi ?_))
      rw [show stB n (mq F) (-9) 0 (fun _ => 0) T i = p i by rw [hp]]
      refine And.intro (fun c => J36 _ ?_) (fun c => J36 _ ?_)
      · rw [ha, ← setI, if_neg (b2i_0.mp c)]
        exact (Int32.or_zero).symm
      · rw [ha, ← setI, if_pos (b2i_p c), shl1 (by omega)]
  · rw [if_neg hh] at hk
    exact hk _ (XT.same hx)
theorem x_kinds (hx : XRc F F) (hn : F 75 10 = nI n) (hc : Cw n (mq F)) {i S : Int32} (hk : ∀ F1, XT F F1 (S_kinds F i S).2 → K (some (.int (S_kinds F i S).1)) (hH L xs J s F1)) : mm_call mm_Ex (d + 5) k_X5_kinds [.ref 2, .int i, .int S] (hH L xs J s F) K := by
  have hcc := hx.cc hn hc
  have h9 := hc.1
  have hp9 := pw9 h9
  unfold S_kinds at hk
  rw [en_of hn h9, hn] at hk
  have B : ¬ ((0 ≤ i ∧ i ≤ nI n - 1) ∧ (0 ≤ S ∧ S ≤ (1 : Int32) <<< (nI n &&& 31) - 1)) → mm_Ex (d + 5) k_X5_kinds 13 (0, 0) [.ref 2, .int i, .int S, .null, .null] [] (hH L xs J s F) K := fun c => by
    rw [if_neg c] at hk
    exact mm_run 5 (hk _ (XT.same hx))
  refine mm_run 90 (x_has0 hcc (fun j hj e hh => And.intro (fun z => absurd z (by decide)) (fun _ => x_set hcc (fun T hT e2 => And.intro (fun _ => x_seat hcc fun G hG hb => ?_) (fun z => absurd z (by decide))) (fun hh2 => And.intro (fun z => absurd rfl z) (fun _ => B fun y => hh2 y.2)))) (fun hh => And.intro (fun _ => B fun y => hh y.1) (fun z => absurd rfl z)))
  subst e
  subst e2
  have ej : (nI j).toNatClampNeg = j := tn_nI (by omega)
  rw [if_pos ⟨hh, set_yes h9 hT⟩, ej, tn_nI (by omega)] at hk
  obtain ⟨p, hp⟩ : ∃ p, kdB n (mq F) j T = p := ⟨_, rfl⟩
  rw [hp] at hk
  have hb' : ∃ v, BR G n (qk (mq F) j v) (-9) 0 (fun _ => 0) := ⟨mq F 0 j, by rw [qk_id]; exact hb⟩
  refine lp (n := 6) (P := fun k => ∀ x a G, x = nI k → a = nI (setB p k) → XS F G → (∃ v, BR G n (qk (mq F) j v) (-9) 0 (fun _ => 0)) → mm_Ex (d + 5) k_X5_kinds 24 (0, 0) [.ref 2, .int (nI j), .int (nI T), .int a, .int x] [] (hH L xs J s G) K) ?_ ?_ 0 0 G rfl rfl hG hb'
  · intro x a G hx1 ha hG _
    subst hx1 ha
    exact mm_run 90 (And.intro (fun _ => hk _ (hG.xt hx)) (fun c => absurd (by decide) c))
  · intro k hk1 ih x a G hx1 ha hG hbv
    obtain ⟨v, hbv⟩ := hbv
    subst hx1
    have hb2 := hbv.kind (j := j) (k := k) (by omega)
    rw [qk_qk] at hb2
    have hG2 : XS F (upF G 24 (upd (G 24) j (nI k))) := hG.tr (XS.up (by omega))
    have J44 : ∀ a, a = nI (setB p (k + 1)) → mm_Ex (d + 5) k_X5_kinds 44 (0, 0) [.ref 2, .int (nI j), .int (nI T), .int a, .int (nI k)] [] (hH L xs J s (upF G 24 (upd (G 24) j (nI k)))) K := fun a e => mm_run 10 (ih _ _ _ (nI_1 k) e hG2 ⟨_, hb2⟩)
    have ep : wB n (qk (mq F) j (nI k)) (-9) 0 (fun _ => 0) T = p k := by
      rw [W_eq0 h9, ← hp]
      rfl
    refine mm_run 90 (And.intro (fun c => absurd c (nleI (b := 6) hk1 (by decide))) (fun _ => ⟨vp_in_nI (by omega) (by decide), ?_⟩))
    refine kc (hp1 (F := G) (k := 24) (g := upd (G 24) j (nI k)) ?_) (x_clash hb2 hT (fun hw => ?_) (fun z hz hno => ?_))
    · show mI 9 (upd (G 24) j (nI k)) = mI 9 (upd (G 24) (nI j).toNatClampNeg (nI k))
      rw [ej]
    · rw [ep] at hw
      refine And.intro (fun c => absurd rfl c) (fun _ => J44 _ ?_)
      rw [ha, ← setI, if_pos hw, shl1 (by omega)]
    · have hw := hno T hT rfl
      rw [ep] at hw
      have hz31 : 2 ^ z < 2 ^ 31 := Nat.pow_lt_pow_right (by decide) (by omega)
      refine And.intro (fun _ => J44 _ ?_) (fun c => absurd ((nI_z hz31).mp c) (by have := Nat.two_pow_pos z; omega))
      rw [ha, ← setI, if_neg (by rw [hw]; decide)]
      exact (Int32.or_zero).symm
theorem x_forgetCitation {f : Nat} (hf : f < n) (hb : BR F n q (-9) 0 (fun _ => 0)) (hk : ∀ G, XS F G → BR G n q (nI f) 0 (fun _ => 0) → K none (hH L xs J s G)) : mm_call mm_Ex (d + 1) k_X0_forgetCitation [.ref 23, .int (nI f)] (hH L xs J s F) K := by
  obtain ⟨e7, e6, hw, hq⟩ := hb
  have h9 := hw.1
  have ef : (nI f).toNatClampNeg = f := tn_nI (by omega)
  refine mm_run 90 (lp (n := n) (P := fun i => ∀ x G, x = nI i → XS F G → G 23 = F 23 → G 24 = F 24 → G 27 = F 27 → G 28 = F 28 → G 29 = F 29 → (∀ j, j < n → G 25 j = nI (if j < i then agS n q (nI f) j else agS n q (-9) j) ∧ G 26 j = nI (if j < i then prS n q (nI f) j else prS n q (-9) j)) → mm_Ex (d + 1) k_X0_forgetCitation 2 (0, 0) [.ref 23, .int (nI f), .int x] [] (hH L xs J s G) K) ?_ ?_ 0 F rfl XS.rf rfl rfl rfl rfl rfl (fun j hj => ⟨(hq j hj).2.1, (hq j hj).2.2.1⟩))
  · intro x G hx1 hG g3 g4 g7 g8 g9 hj
    subst hx1
    have e7' : G 23 7 = nI n := by rw [g3]; exact e7
    refine mm_run 90 (And.intro (fun _ => ?_) (fun c => absurd (by show G 23 7 ≤ nI n; rw [e7']; exact (nI_leI (by omega) (by omega)).mpr (Nat.le_refl n)) c))
    show mm_call mm_Ex d k_X5_within [.int (nI f), .int (G 23 7)] _ _
    rw [e7']
    refine x_within (And.intro (fun c => absurd ⟨nle0 (by omega), (nI_ltI (by omega) (by omega)).mpr hf⟩ (b2i_0.mp c)) (fun _ => ⟨vp_in_nI (by omega) (by decide), ?_⟩))
    have J42 : ∀ G, XS F G → BR G n q (nI f) 0 (fun _ => 0) → mm_Ex (d + 1) k_X0_forgetCitation 42 (0, 0) [.ref 23, .int (nI f), .int (nI n)] [] (hH L xs J s G) K := fun G h1 h2 => mm_run 5 (hk G h1 h2)
    refine kx (hp1 (F := G) (k := 27) (g := upd (G 27) f 0) ?_) (J42 _ (hG.tr (XS.up (by omega))) ⟨e7', by show G 23 6 = _; rw [g3]; exact e6, hw, fun j hj1 => ?_⟩)
    · show mI 9 (upd (G 27) f 0) = mI 9 (upd (G 27) (nI f).toNatClampNeg 0)
      rw [ef]
    · obtain ⟨a1, a2, a3, a4, a5, a6, a7⟩ := hq j hj1
      obtain ⟨b1, b2⟩ := hj j hj1
      rw [if_pos hj1] at b1 b2
      refine ⟨by show G 24 j = _; rw [g4]; exact a1, b1, b2, ?_, by show G 28 j = _; rw [g8]; exact a5, by show G 29 j = _; rw [g9]; exact a6, a7⟩
      show upd (G 27) f 0 j = _
      by_cases e : j = f
      · rw [e, upd_at]
        unfold cdS
        rw [if_pos (Or.inr rfl)]
        rfl
      · rw [upd_ne e, g7, a4]
        unfold cdS
        have e1 : ¬ nI j = nI f := fun y => e ((nI_eq (by omega) (by omega)).mp y)
        have e2 : ¬ nI j = -9 := nI_n9 (by omega)
        simp [e1, e2]
  · intro i hi ih x G hx1 hG g3 g4 g7 g8 g9 hj
    subst hx1
    have ei : (nI i).toNatClampNeg = i := tn_nI (by omega)
    have hv : vp_in (nI i) 9 := vp_in_nI (by omega) (by decide)
    have e7' : G 23 7 = nI n := by rw [g3]; exact e7
    obtain ⟨b1, b2⟩ := hj i hi
    rw [if_neg (by omega)] at b1 b2
    refine mm_run 90 (And.intro (fun c => absurd (show G 23 7 ≤ nI i from c) (by rw [e7']; exact nleI hi (by omega))) (fun _ => ⟨hv, hv, hv, hv, ?_⟩))
    refine kx (hp2 (F := G) (k := 25) (k2 := 26) (g := upd (G 25) i (nI (agS n q (nI f) i))) (g2 := upd (G 26) i (nI (prS n q (nI f) i))) ?_ ?_) (ih _ _ (nI_1 i) ((hG.tr (XS.up (by omega))).tr (XS.up (by omega))) g3 g4 g7 g8 g9 (fun j hj1 => ?_))
    · show mI 9 (upd (G 25) i _) = mI 9 (upd (G 25) (nI i).toNatClampNeg (G 25 (nI i).toNatClampNeg &&& ((1 : Int32) <<< (nI f &&& 31) ^^^ (-1))))
      rw [ei, b1, shl1 (by omega), difI, ag_lf h9 (by omega)]
    · show mI 9 (upd (G 26) i _) = mI 9 (upd (G 26) (nI i).toNatClampNeg (G 26 (nI i).toNatClampNeg &&& ((1 : Int32) <<< (nI f &&& 31) ^^^ (-1))))
      rw [ei, b2, shl1 (by omega), difI, pr_lf h9 (by omega)]
    · show upd (G 25) i _ j = _ ∧ upd (G 26) i _ j = _
      by_cases e : j = i
      · rw [e, upd_at, upd_at, if_pos (by omega), if_pos (by omega)]
        exact ⟨rfl, rfl⟩
      · rw [upd_ne e, upd_ne e]
        obtain ⟨c1, c2⟩ := hj j hj1
        rw [c1, c2]
        by_cases e2 : j < i
        · rw [if_pos e2, if_pos e2, if_pos (by omega), if_pos (by omega)]
          exact ⟨rfl, rfl⟩
        · rw [if_neg e2, if_neg e2, if_neg (by omega), if_neg (by omega)]
          exact ⟨rfl, rfl⟩
theorem x_forged (hx : XRc F F) (hn : F 75 10 = nI n) (hc : Cw n (mq F)) {S : Int32} (hk : ∀ F1, XT F F1 (S_forged F S).2 → K (some (.int (S_forged F S).1)) (hH L xs J s F1)) : mm_call mm_Ex (d + 5) k_X5_forged [.ref 2, .int S] (hH L xs J s F) K := by
  have hcc := hx.cc hn hc
  have h9 := hc.1
  have hp9 := pw9 h9
  unfold S_forged at hk
  dsimp only at hk
  rw [en_of hn h9, hn] at hk
  refine mm_run 90 (x_set hcc (fun T hT e => And.intro (fun _ => ?_) (fun z => absurd z (by decide))) (fun hh => And.intro (fun z => absurd rfl z) (fun _ => ?_)))
  · subst e
    rw [if_pos (set_yes h9 hT), tn_nI (by omega)] at hk
    obtain ⟨p, hp⟩ : ∃ p, fgB n (mq F) T = p := ⟨_, rfl⟩
    rw [hp] at hk
    refine lp (n := n) (P := fun i => ∀ x a G, x = nI i → a = nI (setB p i) → XS F G → mm_Ex (d + 5) k_X5_forged 14 (0, 0) [.ref 2, .int (nI T), .int a, .int x] [] (hH L xs J s G) K) ?_ ?_ 0 0 F rfl rfl XS.rf
    · intro x a G hx1 ha hG
      subst hx1 ha
      exact mm_run 90 (And.intro (fun _ => hk _ (hG.xt hx)) (fun c => absurd (hG.cc hcc).ge c))
    · intro i hi ih x a G hx1 ha hG
      subst hx1
      have ei : (nI i).toNatClampNeg = i := tn_nI (by omega)
      have epi : p i = (!decide (mq F 3 i = -9) && decide (fgS n (mq F) T i = T)) := by rw [← hp]; rfl
      have e4 : G 10 (nI i).toNatClampNeg = mq F 4 i := by rw [ei]; exact (hG.cc hcc).2.2 4 (by decide) i hi
      have J47 : ∀ a G, a = nI (setB p (i + 1)) → XS F G → mm_Ex (d + 5) k_X5_forged 47 (0, 0) [.ref 2, .int (nI T), .int a, .int (nI i)] [] (hH L xs J s G) K := fun a G e h3 => mm_run 10 (ih _ _ _ (nI_1 i) e h3)
      have J45 : ∀ v G, v = (if p i = true then nI (2 ^ i) else 0) → XS F G → mm_Ex (d + 5) k_X5_forged 45 (0, 0) [.ref 2, .int (nI T), .int a, .int (nI i)] [.int v, .int a] (hH L xs J s G) K := fun v G e h3 => mm_run 10 (J47 _ _ (by rw [ha, e, setI]) h3)
      refine mm_run 90 (And.intro (fun c => absurd c ((hG.cc hcc).lt hi)) (fun _ => ⟨vp_in_nI (by omega) (by decide), And.intro (fun c => J47 _ _ ?_ hG) (fun c => x_seat (hG.cc hcc) fun G2 hG2 hb => x_forgetCitation hi hb fun G3 hG3 hb3 => x_clash hb3 hT (fun hw => ?_) (fun z hz hno => ?_))⟩))
      · have c : mq F 4 i = 0 := e4.symm.trans c
        have c3 : mq F 3 i = -9 := by
          rcases (hc.2 i hi).2.2.2.1 with ⟨y, -⟩ | ⟨k, k1, k2, k3, -⟩
          · exact y
          · rcases k3 with k3 | k3 <;> · rw [k3] at c; exact absurd c (by decide)
        rw [ha, ← setI, if_neg (by rw [epi, c3]; simp)]
        exact (Int32.or_zero).symm
      · have c : ¬ mq F 4 i = 0 := fun y => c (e4.trans y)
        have c3 : ¬ mq F 3 i = -9 := fun y => by
          rcases (hc.2 i hi).2.2.2.1 with ⟨-, z⟩ | ⟨k, k1, k2, k3, -⟩
          · exact c z
          · rw [k2] at y
            exact nI_n9 (by omega) y
        rw [fg_wB h9 hT hi] at hw
        refine And.intro (fun c => absurd rfl c) (fun _ => J45 _ _ ?_ ((hG.tr hG2).tr hG3))
        rw [if_pos (by rw [epi, hw]; simp [c3]), shl1 (by omega)]
      · have hw := hno T hT rfl
        rw [fg_wB h9 hT hi] at hw
        have hz31 : 2 ^ z < 2 ^ 31 := Nat.pow_lt_pow_right (by decide) (by omega)
        refine And.intro (fun _ => J45 _ _ ?_ ((hG.tr hG2).tr hG3)) (fun c => absurd ((nI_z hz31).mp c) (by have := Nat.two_pow_pos z; omega))
        rw [if_neg (by rw [epi, hw]; simp)]
  · rw [if_neg hh] at hk
    exact hk _ (XT.same hx)
theorem x_torn (hx : XRc F F) (hn : F 75 10 = nI n) (hc : Cw n (mq F)) {seen S : Int32} (hk : ∀ F1, XT F F1 (S_torn F seen S).2 → K (some (.int (S_torn F seen S).1)) (hH L xs J s F1)) : mm_call mm_Ex (d + 5) k_X5_torn [.ref 2, .int seen, .int S] (hH L xs J s F) K := by
  have hcc := hx.cc hn hc
  have h9 := hc.1
  have hp9 := pw9 h9
  unfold S_torn at hk
  dsimp only at hk
  rw [en_of hn h9, hn] at hk
  have B : ¬ ((0 ≤ seen ∧ seen ≤ (1 : Int32) <<< (nI n &&& 31) - 1) ∧ (0 ≤ S ∧ S ≤ (1 : Int32) <<< (nI n &&& 31) - 1)) → mm_Ex (d + 5) k_X5_torn 16 (0, 0) [.ref 2, .int seen, .int S, .null, .null, .null] [] (hH L xs J s F) K := fun c => by
    rw [if_neg c] at hk
    exact mm_run 5 (hk _ (XT.same hx))
  refine mm_run 90 (x_set hcc (fun U hU e => And.intro (fun z => absurd z (by decide)) (fun _ => x_set hcc (fun T hT e2 => And.intro (fun _ => x_fw0 hcc fun G hG hw => ?_) (fun z => absurd z (by decide))) (fun hh2 => And.intro (fun z => absurd rfl z) (fun _ => B fun y => hh2 y.2)))) (fun hh => And.intro (fun _ => B fun y => hh y.1) (fun z => absurd rfl z)))
  subst e
  subst e2
  rw [if_pos ⟨set_yes h9 hU, set_yes h9 hT⟩, tn_nI (by omega), tn_nI (by omega)] at hk
  obtain ⟨w, hw0⟩ : ∃ w, W0 F n = w := ⟨_, rfl⟩
  have hw : WR G n w := hw0 ▸ hw
  rw [hw0] at hk
  obtain ⟨p, hp⟩ : ∃ p, tnB w U T = p := ⟨_, rfl⟩
  rw [hp] at hk
  have ep : ∀ X, p X = (decide ((X ^^^ T) &&& U = 0) && w X) := fun X => by rw [← hp]; rfl
  refine wlp (N := 2 ^ n) (P := fun X => ∀ x a b, x = nI (fa_cnt w X) → a = nI (fa_cnt p X) → b = lsV p X → mm_Ex (d + 5) k_X5_torn 27 (0, 0) [.ref 2, .int (nI U), .int (nI T), .int a, .int b, .int x] [] (hH L xs J s G) K) w ?_ ?_ ?_ 0 0 (-9) rfl rfl rfl
  · intro x a b hx1 ha hb
    subst hx1 ha
    refine mm_run 90 (And.intro (fun _ => ?_) (fun c => absurd (WI.ge h9 hw) c))
    have hb2 : b = frst n p := hb
    rw [← hb2] at hk
    exact kh (K := K) (hp1 (F := G) (k := 2) (g := upd (G 2) 10 b) rfl) (hk _ ((hG.xt hx).te))
  · intro X hX hwX ih x a b hx1 ha hb
    subst hx1
    obtain ⟨v1, v2, v3⟩ := WI.at' h9 hw hX hwX
    have J53 : ∀ a b, a = nI (fa_cnt p (X + 1)) → b = lsV p (X + 1) → mm_Ex (d + 5) k_X5_torn 53 (0, 0) [.ref 2, .int (nI U), .int (nI T), .int a, .int b, .int (nI (fa_cnt w X))] [] (hH L xs J s G) K := fun a b h1 h2 => mm_run 10 (ih _ _ _ (by rw [fa_cnt_yes hwX]; exact nI_1 _) h1 h2)
    have J51 : ∀ v, p X = true → v = lsV p (X + 1) → mm_Ex (d + 5) k_X5_torn 51 (0, 0) [.ref 2, .int (nI U), .int (nI T), .int a, .int b, .int (nI (fa_cnt w X))] [.int v] (hH L xs J s G) K := fun v h1 h2 => mm_run 10 (J53 _ _ (by rw [ha, fa_cnt_yes h1]; exact nI_1 _) h2)
    have ex : (G 31 (nI (fa_cnt w X)).toNatClampNeg ^^^ nI T) &&& nI U = nI ((X ^^^ T) &&& U) := by rw [v2, xorI, fa_and]
    have xl : (X ^^^ T) &&& U < 2 ^ 31 := Nat.lt_of_le_of_lt Nat.and_le_right (by omega)
    have cl := fa_cnt_le p X
    refine mm_run 90 (And.intro (fun c => absurd c v3) (fun _ => ⟨v1, And.intro (fun c => J53 _ _ ?_ ?_) (fun c => And.intro (fun c2 => J51 _ ?_ ?_) (fun c2 => ⟨v1, J51 _ ?_ ?_⟩))⟩))
    · have c : ¬ (X ^^^ T) &&& U = 0 := fun y => c (ex.trans ((nI_z xl).mpr y))
      rw [fa_cnt_no (by rw [ep]; simp [c])]
      exact ha
    · have c : ¬ (X ^^^ T) &&& U = 0 := fun y => c (ex.trans ((nI_z xl).mpr y))
      rw [ls_s, if_neg (by rw [ep]; simp [c])]
      exact hb
    · have c : (X ^^^ T) &&& U = 0 := (nI_z xl).mp (ex.symm.trans c)
      rw [ep, hwX]
      simp [c]
    · have c : (X ^^^ T) &&& U = 0 := (nI_z xl).mp (ex.symm.trans c)
      have c2 : ¬ fa_cnt p X = 0 := fun y => c2 (by rw [ha, y]; rfl)
      rw [ls_s, if_pos (by rw [ep, hwX]; simp [c]), if_neg c2]
      exact hb
    · have c : (X ^^^ T) &&& U = 0 := (nI_z xl).mp (ex.symm.trans c)
      rw [ep, hwX]
      simp [c]
    · have c : (X ^^^ T) &&& U = 0 := (nI_z xl).mp (ex.symm.trans c)
      have c2 : fa_cnt p X = 0 := (nI_z (by omega)).mp (by rw [← ha]; exact c2)
      rw [ls_s, if_pos (by rw [ep, hwX]; simp [c]), if_pos c2]
      exact v2
  · intro X hX hwX ih x a b hx1 ha hb
    have e : p X = false := by rw [ep, hwX]; simp
    refine ih x a b (by rw [fa_cnt_no hwX]; exact hx1) (by rw [fa_cnt_no e]; exact ha) ?_
    rw [ls_s, if_neg (by rw [e]; decide)]
    exact hb
end XFt
