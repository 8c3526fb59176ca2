/-! the class: cases -/
theorem ver01 {n : Nat} {q : Rq} (hc : Cw n q) {m S c : Nat} : verV n q m S c = 0 ∨ verV n q m S c = 1 := by
  unfold verV
  cases hb : bestV q m S c n with
  | none => exact Or.inl rfl
  | some b => exact (hc.2 b (bestV_lt hb)).2.2.1
theorem agU_iff {n : Nat} {q : Rq} {A B : Nat} : ∀ {k : Nat}, agU n q A B k = true ↔ ∀ c, c < k → verV n q c A 31 = verV n q c B 31
  | 0 => by simp [agU]
  | k + 1 => by
    have ih := agU_iff (n := n) (q := q) (A := A) (B := B) (k := k)
    rw [agU, Bool.and_eq_true, ih, decide_eq_true_eq]
    constructor
    · rintro ⟨a, b⟩ c hc
      by_cases e : c = k
      · rw [e]; exact b
      · exact a c (by omega)
    · intro h
      exact ⟨fun c hc => h c (by omega), h k (by omega)⟩
theorem cnt_sub {p r : Nat → Bool} : ∀ {n : Nat}, (∀ k, k < n → p k = true → r k = true) → fa_cnt p n ≤ fa_cnt r n ∧ ((∃ k, k < n ∧ r k = true ∧ p k = false) → fa_cnt p n < fa_cnt r n)
  | 0, _ => ⟨Nat.le_refl _, fun ⟨k, hk, _⟩ => absurd hk (Nat.not_lt_zero k)⟩
  | n + 1, h => by
    obtain ⟨a, b⟩ := cnt_sub (n := n) (fun k hk => h k (by omega))
    have hn := h n (by omega)
    unfold fa_cnt
    cases hp : p n <;> cases hr : r n
    · refine ⟨by simp; exact a, fun ⟨k, k1, k2, k3⟩ => ?_⟩
      have : k < n := by
        by_cases e : k = n
        · rw [e, hr] at k2; cases k2
        · omega
      have := b ⟨k, this, k2, k3⟩
      simp
      exact this
    · exact ⟨by simp; omega, fun _ => by simp; omega⟩
    · rw [hp, hr] at hn
      exact absurd (hn rfl) (by decide)
    · refine ⟨by simp; exact a, fun ⟨k, k1, k2, k3⟩ => ?_⟩
      have : k < n := by
        by_cases e : k = n
        · rw [e, hp] at k3; cases k3
        · omega
      have := b ⟨k, this, k2, k3⟩
      simp
      exact this
/-- a lesser set within another has fewer -/
theorem one_sub {S W : Nat} (hW : W < 512) (h : dif S W = 0) (hne : ¬ S = W) : oneN S < oneN W := by
  have hs : S &&& W = S := dif_0.mp h
  have hS : S < 512 := by
    have : S &&& W ≤ W := Nat.and_le_right
    omega
  have sub : ∀ k, S.testBit k = true → W.testBit k = true := fun k hk => by
    have e := congrArg (fun x => Nat.testBit x k) hs
    simp only [Nat.testBit_and, hk, Bool.true_and] at e
    exact e
  refine (cnt_sub (n := 9) (fun k _ hk => sub k hk)).2 ?_
  refine Classical.byContradiction fun z => hne (bits_ext (n := 9) hS hW fun k hk => ?_)
  cases hb : W.testBit k
  · cases ha : S.testBit k
    · rfl
    · rw [sub k ha] at hb; cases hb
  · cases ha : S.testBit k
    · exact absurd ⟨k, hk, hb, ha⟩ z
    · rfl
/-- a set that gives the same verdicts -/
def cOk (n : Nat) (q : Rq) (W S : Nat) : Prop := dif S W = 0 ∧ agU n q S W 32 = true
def cMin (n : Nat) (q : Rq) (W lo C : Nat) : Prop := cOk n q W C ∧ C ≤ W ∧ ∀ S, lo ≤ S → S ≤ W → cOk n q W S → oneN C ≤ oneN S ∧ (S < C → oneN C < oneN S)
theorem cOk_W {n : Nat} {q : Rq} {W : Nat} : cOk n q W W := ⟨by simp [dif], agU_iff.mpr fun _ _ => rfl⟩
theorem cd_min {n : Nat} {q : Rq} {W : Nat} : ∀ k, k ≤ W + 1 → cMin n q W (W + 1 - k) (cdN n q W k)
  | 0, _ => ⟨cOk_W, Nat.le_refl _, fun S h1 h2 => by omega⟩
  | k + 1, hk => by
    obtain ⟨a, b, c⟩ := cd_min (n := n) (q := q) (W := W) k (by omega)
    rw [cdN]
    by_cases h : (dif (W - k) W = 0 ∧ oneN (W - k) ≤ oneN (cdN n q W k)) ∧ agU n q (W - k) W 32 = true
    · rw [if_pos h]
      refine ⟨⟨h.1.1, h.2⟩, by omega, fun S h1 h2 h3 => ?_⟩
      by_cases e : S = W - k
      · rw [e]
        exact ⟨Nat.le_refl _, fun y => by omega⟩
      · have := (c S (by omega) h2 h3).1
        exact ⟨Nat.le_trans h.1.2 this, fun y => by omega⟩
    · rw [if_neg h]
      refine ⟨a, b, fun S h1 h2 h3 => ?_⟩
      by_cases e : S = W - k
      · have : ¬ oneN (W - k) ≤ oneN (cdN n q W k) := fun y => h ⟨⟨e ▸ h3.1, y⟩, e ▸ h3.2⟩
        rw [e]
        omega
      · exact c S (by omega) h2 h3
theorem cMin_one {n : Nat} {q : Rq} {W A B : Nat} (ha : cMin n q W 0 A) (hb : cMin n q W 0 B) : A = B := by
  have h1 := ha.2.2 B (Nat.zero_le _) hb.2.1 hb.1
  have h2 := hb.2.2 A (Nat.zero_le _) ha.2.1 ha.1
  by_cases e : A < B
  · have := h2.2 e
    omega
  · by_cases e2 : B < A
    · have := h1.2 e2
      omega
    · omega
section XCs
variable {d L s : Nat} {xs : Nat → Int32} {J : Nat → Int64} {F : Nat → Nat → Int32} {K : mm_K} {h : mm_H} {n : Nat} {q : Rq}
theorem in32 {x : Int32} : (0 ≤ x ∧ x < 32) ↔ (0 ≤ x ∧ x ≤ 31) := lt_in (n := 32) (by decide)
theorem in5 {x : Int32} : (0 ≤ x ∧ x < 5) ↔ (0 ≤ x ∧ x ≤ 4) := lt_in (n := 5) (by decide)
theorem x_like (hx : XRc F F) (hn : F 75 10 = nI n) (hc : Cw n (mq F)) {i m : Int32} (hk : ∀ F1, XT F F1 (S_like F i m).2 → K (some (.int (S_like F i m).1)) (hH L xs J s F1)) : mm_call mm_Ex (d + 5) k_X5_like [.ref 2, .int i, .int m] (hH L xs J s F) K := by
  have hcc := hx.cc hn hc
  have h9 := hc.1
  unfold S_like at hk
  rw [hn] at hk
  have B : ¬ ((0 ≤ i ∧ i ≤ nI n - 1) ∧ (0 ≤ m ∧ m ≤ 31)) → mm_Ex (d + 5) k_X5_like 9 (0, 0) [.ref 2, .int i, .int m] [] (hH L xs J s F) K := fun c => by
    rw [if_neg c] at hk
    exact mm_run 5 (hk _ (XT.same hx))
  refine mm_run 90 (x_has0 hcc (fun j hj e hh => And.intro (fun z => absurd z (by decide)) (fun _ => x_within (And.intro (fun c => ?_) (fun c => B fun y => b2i_0.mp c (in32.mpr y.2))))) (fun hh => And.intro (fun _ => B fun y => hh y.1) (fun z => absurd rfl z)))
  have c := in32.mp (b2i_p c)
  subst e
  rw [if_pos ⟨hh, c⟩, tn_nI (by omega)] at hk
  obtain ⟨t, ht, rfl⟩ := in_nI (n := 31) (by decide) c.1 c.2
  obtain ⟨a, ha, ea⟩ := (hc.2 j hj).2.2.2.2
  have e : lkV (mq F) t 31 j = likeV (mq F 5 j).toNatClampNeg (nI t).toNatClampNeg := by
    unfold lkV
    rw [ea, tn_nI (by omega), tn_nI (by omega), show 31 = 2 ^ 5 - 1 from rfl, and_all (by omega), and_all (by omega)]
  rw [← e] at hk
  exact x_likeness (c := 31) hcc hj (by decide) (x_tell (hk _ ((XT.same hx).te)))
theorem x_verdict (hx : XRc F F) (hn : F 75 10 = nI n) (hc : Cw n (mq F)) {m S : Int32} (hk : ∀ F1, XT F F1 (S_verdict F m S).2 → K (some (.int (S_verdict F m S).1)) (hH L xs J s F1)) : mm_call mm_Ex (d + 5) k_X5_verdict [.ref 2, .int m, .int S] (hH L xs J s F) K := by
  have hcc := hx.cc hn hc
  have h9 := hc.1
  have hp9 := pw9 h9
  unfold S_verdict at hk
  rw [en_of hn h9, hn] at hk
  have B : ¬ ((0 ≤ m ∧ m ≤ 31) ∧ (0 ≤ S ∧ S ≤ (1 : Int32) <<< (nI n &&& 31) - 1)) → mm_Ex (d + 5) k_X5_verdict 12 (0, 0) [.ref 2, .int m, .int S] [] (hH L xs J s F) K := fun c => by
    rw [if_neg c] at hk
    exact mm_run 5 (hk _ (XT.same hx))
  refine mm_run 90 (x_within (And.intro (fun c => B fun y => b2i_0.mp c (in32.mpr y.1)) (fun c => x_set hcc (fun T hT e => And.intro (fun _ => ?_) (fun z => absurd z (by decide))) (fun hh => And.intro (fun z => absurd rfl z) (fun _ => B fun y => hh y.2)))))
  have c := in32.mp (b2i_p c)
  subst e
  rw [if_pos ⟨c, set_yes h9 hT⟩, tn_nI (n := T) (by omega)] at hk
  obtain ⟨t, ht, rfl⟩ := in_nI (n := 31) (by decide) c.1 c.2
  rw [tn_nI (by omega)] at hk
  exact x_decide (c := 31) hcc (by decide) (hk _ (XT.same hx))
theorem x_surely (hx : XRc F F) (hn : F 75 10 = nI n) (hc : Cw n (mq F)) {m : Int32} (hk : ∀ F1, XT F F1 (S_surely F m).2 → K (some (.int (S_surely F m).1)) (hH L xs J s F1)) : mm_call mm_Ex (d + 5) k_X5_surely [.ref 2, .int m] (hH L xs J s F) K := by
  have hcc := hx.cc hn hc
  have h9 := hc.1
  have hp9 := pw9 h9
  unfold S_surely at hk
  dsimp only at hk
  rw [en_of hn h9] at hk
  obtain ⟨w, hw0⟩ : ∃ w, W0 F n = w := ⟨_, rfl⟩
  rw [hw0] at hk
  refine mm_run 90 (x_within (And.intro (fun c => x_fw0 hcc fun G hG hw => ?_) (fun c => ?_)))
  · have c := in32.mp (b2i_p c)
    rw [if_pos c] at hk
    obtain ⟨t, ht, rfl⟩ := in_nI (n := 31) (by decide) c.1 c.2
    rw [tn_nI (by omega)] at hk
    have hw : WR G n w := hw0 ▸ hw
    have e30 : G 30 1 = nI (fa_cnt w (2 ^ n)) := hw.1
    refine And.intro (fun g => ?_) (fun g => x_refuse (w := 4) (by decide) ?_)
    · have g : ¬ nI (fa_cnt w (2 ^ n)) = 0 := fun y => g (e30.trans y)
      rw [if_neg g] at hk
      obtain ⟨f, hf⟩ : ∃ f, (fun S => verV n (mq F) t S 31) = f := ⟨_, rfl⟩
      rw [hf] at hk
      refine wlp (N := 2 ^ n) (P := fun S => ∀ x a, x = nI (fa_cnt w S) → a = gI w f S → mm_Ex (d + 5) k_X5_surely 21 (0, 0) [.ref 2, .int (nI t), .int a, .int x] [] (hH L xs J s G) K) w ?_ ?_ ?_ 0 0 rfl rfl
      · intro x a hx1 ha
        subst hx1
        rw [← ha] at hk
        have J56 : ∀ v H, K (some (.int v)) (hH L xs J s H) → mm_Ex (d + 5) k_X5_surely 56 (0, 0) [.ref 2, .int (nI t), .int a, .int (nI (fa_cnt w (2 ^ n)))] [.int v] (hH L xs J s H) K := fun v H z => mm_run 5 z
        refine mm_run 90 (And.intro (fun _ => And.intro (fun c1 => And.intro (fun c2 => ?_) (fun c2 => ?_)) (fun c1 => ?_)) (fun c => absurd (WI.ge h9 hw) c))
        · have c2 : ¬ a = nI (fa_cnt w (2 ^ n)) := fun y => c2 (y.trans e30.symm)
          rw [if_neg c2, if_neg c1] at hk
          exact kx (hp1 (F := G) (k := 2) (g := upd (G 2) 10 a) rfl) (J56 _ _ (hk _ ((hG.xt hx).te)))
        · have c2 : a = nI (fa_cnt w (2 ^ n)) := Eq.trans c2 e30
          rw [if_pos c2] at hk
          exact kx (hp1 (F := G) (k := 2) (g := upd (G 2) 10 a) rfl) (J56 _ _ (hk _ ((hG.xt hx).te)))
        · rw [if_neg (fun y => g (by rw [← y]; exact c1)), if_pos c1] at hk
          exact kh (K := K) (hp1 (F := G) (k := 2) (g := upd (G 2) 10 a) rfl) (hk _ ((hG.xt hx).te))
      · intro S hS hwS ih x a hx1 ha
        subst hx1
        obtain ⟨v1, v2, v3⟩ := WI.at' h9 hw hS hwS
        refine mm_run 90 (And.intro (fun c => absurd c v3) (fun _ => ⟨v1, ?_⟩))
        show mm_call mm_Ex (d + 4) k_X1_decide [.ref 5, .int (nI t), .int (G 31 (nI (fa_cnt w S)).toNatClampNeg), .int (nI 31)] _ _
        rw [v2]
        refine x_decide (hG.cc hcc) (by decide) (ih _ _ (by rw [fa_cnt_yes hwS]; exact nI_1 _) ?_)
        rw [gI, if_pos hwS, ha, ← hf]
      · intro S hS hwS ih x a hx1 ha
        refine ih x a (by rw [fa_cnt_no hwS]; exact hx1) ?_
        rw [gI, hwS]
        exact ha
    · have g : nI (fa_cnt w (2 ^ n)) = 0 := e30.symm.trans g
      rw [if_pos g] at hk
      exact hk _ ((hG.xt hx).fi (by decide))
  · rw [if_neg (fun y => b2i_0.mp c (in32.mpr y))] at hk
    exact hk _ (XT.same hx)
theorem x_freed (hx : XRc F F) (hn : F 75 10 = nI n) (hc : Cw n (mq F)) {m : Int32} (hk : ∀ F1, XT F F1 (S_freed F m).2 → K (some (.int (S_freed F m).1)) (hH L xs J s F1)) : mm_call mm_Ex (d + 5) k_X5_freed [.ref 2, .int m] (hH L xs J s F) K := by
  have hcc := hx.cc hn hc
  have h9 := hc.1
  have hp9 := pw9 h9
  unfold S_freed at hk
  dsimp only at hk
  rw [en_of hn h9] at hk
  obtain ⟨w, hw0⟩ : ∃ w, W0 F n = w := ⟨_, rfl⟩
  rw [hw0] at hk
  refine mm_run 90 (x_within (And.intro (fun c => x_fw0 hcc fun G hG hw => ?_) (fun c => ?_)))
  · have c := in5.mp (b2i_p c)
    rw [if_pos c] at hk
    obtain ⟨t, ht, rfl⟩ := in_nI (n := 4) (by decide) c.1 c.2
    rw [tn_nI (by omega)] at hk
    have hw : WR G n w := hw0 ▸ hw
    have hz := hw.num (by omega)
    refine And.intro (fun g => x_first h9 hw ?_) (fun g => x_refuse (w := 4) (by decide) ?_)
    · have g : ¬ fa_cnt w (2 ^ n) = 0 := fun y => g (hz.mpr y)
      have g1 := first_cnt.mpr g
      rw [if_pos g1] at hk
      obtain ⟨W, hW⟩ : ∃ W, fa_first w (2 ^ n) = W := ⟨_, rfl⟩
      have efr : frst n w = nI W := by
        unfold frst
        rw [if_pos g1, hW]
      rw [hW] at hk
      rw [efr]
      have eo : (31 : Int32) &&& ((1 : Int32) <<< (nI t &&& 31) ^^^ (-1)) = nI (dif 31 (2 ^ t)) := by
        rw [shl1 (by omega)]
        exact difI 31 (2 ^ t)
      have ol : dif 31 (2 ^ t) < 32 := dif_le (n := 5) _ _ (by decide)
      obtain ⟨p, hp⟩ : ∃ p : Nat → Bool, (fun c => decide (verV n (mq F) c W 31 = 1) && decide (verV n (mq F) c W (dif 31 (2 ^ t)) = 0)) = p := ⟨_, rfl⟩
      rw [hp] at hk
      have hcG := hG.cc hcc
      refine lp (n := 32) (P := fun c => ∀ x o a, x = nI c → o = nI (dif 31 (2 ^ t)) → a = nI (fa_cnt p c) → mm_Ex (d + 5) k_X5_freed 33 (0, 0) [.ref 2, .int (nI t), .int (nI W), .int o, .int a, .int x] [] (hH L xs J s G) K) ?_ ?_ 0 _ 0 rfl eo rfl
      · intro x o a hx1 ho ha
        subst hx1 ha
        exact mm_run 90 (And.intro (fun _ => hk _ (hG.xt hx)) (fun c => absurd (by decide) c))
      · intro e he ih x o a hx1 ho ha
        subst hx1 ho
        have ep : p e = (decide (verV n (mq F) e W 31 = 1) && decide (verV n (mq F) e W (dif 31 (2 ^ t)) = 0)) := by rw [← hp]
        have J52 : ∀ a, a = nI (fa_cnt p (e + 1)) → mm_Ex (d + 5) k_X5_freed 52 (0, 0) [.ref 2, .int (nI t), .int (nI W), .int (nI (dif 31 (2 ^ t))), .int a, .int (nI e)] [] (hH L xs J s G) K := fun a h1 => mm_run 10 (ih _ _ _ (nI_1 e) rfl h1)
        refine mm_run 90 (And.intro (fun c => absurd c (nleI (b := 32) he (by decide))) (fun _ => x_decide (c := 31) hcG (by decide) (And.intro (fun c1 => J52 _ ?_) (fun c1 => x_decide hcG ol (And.intro (fun c2 => J52 _ ?_) (fun c2 => J52 _ ?_))))))
        · rw [fa_cnt_no (by rw [ep]; simp [c1])]
          exact ha
        · rw [fa_cnt_no (by rw [ep]; simp [c2])]
          exact ha
        · rw [fa_cnt_yes (by rw [ep]; simp [c1, c2]), ha]
          exact nI_1 _
    · have g : fa_cnt w (2 ^ n) = 0 := hz.mp g
      rw [if_neg (fun y => first_cnt.mp y g)] at hk
      exact hk _ ((hG.xt hx).fi (by decide))
  · rw [if_neg (fun y => b2i_0.mp c (in5.mpr y))] at hk
    exact hk _ (XT.same hx)
theorem bt_1 : ∀ i, i < 32 → bt 1 i = decide (i = 0) := by decide +kernel
theorem x_verdictsBy (hc : CC F n q) {W : Nat} (hk : ∀ V, (∀ c, c < 32 → bt V c = decide (verV n q c W 31 = 1)) → K (some (.int V)) (hH L xs J s F)) : mm_call mm_Ex (d + 3) k_X1_verdictsBy [.ref 5, .int (nI W)] (hH L xs J s F) K := by
  refine mm_run 90 (lp (n := 32) (P := fun c => ∀ x a, x = nI c → (∀ i, i < 32 → bt a i = (decide (i < c) && decide (verV n q i W 31 = 1))) → mm_Ex (d + 3) k_X1_verdictsBy 4 (0, 0) [.ref 5, .int (nI W), .int a, .int x] [] (hH L xs J s F) K) ?_ ?_ 0 0 rfl (fun i hi => by rw [b_0]; simp))
  · intro x a hx1 ha
    subst hx1
    refine mm_run 90 (And.intro (fun _ => hk a fun c hc => ?_) (fun c => absurd (by decide) c))
    rw [ha c hc]
    simp [hc]
  · intro c hc1 ih x a hx1 ha
    subst hx1
    refine mm_run 90 (And.intro (fun z => absurd z (nleI (b := 32) hc1 (by decide))) (fun _ => x_decide (c := 31) hc (by decide) (ih _ _ (nI_1 c) fun i hi => ?_)))
    show bt (a ||| verV n q c W 31 <<< (nI c &&& 31)) i = _
    rw [b_or, ha i hi, b_shl c (by omega) _ hi]
    rcases ver01 hc.2.1 (m := c) (S := W) (c := 31) with e | e
    · rw [e, b_0]
      by_cases e2 : i = c
      · subst e2
        simp [e]
      · have : (i < c + 1) ↔ (i < c) := by omega
        simp [this]
    · rw [e, bt_1 _ (by omega)]
      by_cases e2 : i = c
      · subst e2
        simp [e]
      · have e3 : (i < c + 1) ↔ (i < c) := by omega
        have e4 : c ≤ i → ¬ i - c = 0 := by omega
        by_cases e5 : c ≤ i
        · simp [e3, e4 e5]
        · simp [e3, e5]
theorem x_agrees (hc : CC F n q) {A W : Nat} {V : Int32} (hV : ∀ c, c < 32 → bt V c = decide (verV n q c W 31 = 1)) (hk : K (some (.int (b2i (agU n q A W 32 = true)))) (hH L xs J s F)) : mm_call mm_Ex (d + 3) k_X1_agrees [.ref 5, .int (nI A), .int V] (hH L xs J s F) K := by
  refine mm_run 90 (lp (n := 32) (P := fun c => agU n q A W c = true → ∀ x, x = nI c → mm_Ex (d + 3) k_X1_agrees 2 (0, 0) [.ref 5, .int (nI A), .int V, .int x] [] (hH L xs J s F) K) ?_ ?_ rfl 0 rfl)
  · intro ha x hx1
    subst hx1
    rw [b2i_t ha] at hk
    exact mm_run 90 (And.intro (fun _ => ⟨Or.inr rfl, hk⟩) (fun c => absurd (by decide) c))
  · intro c hc1 ih ha x hx1
    subst hx1
    have eb : (V.toUInt32 >>> ((nI c).toUInt32 &&& Int32.toUInt32 31)).toInt32 &&& 1 = verV n q c W 31 := by
      apply b_ext
      intro i hi
      rw [b_and, b_ushr c hc1, bt_1 i hi]
      rcases ver01 hc.2.1 (m := c) (S := W) (c := 31) with e | e
      · rw [e, b_0]
        by_cases e0 : i = 0
        · rw [e0, Nat.add_zero, hV c hc1, e]
          decide
        · simp [e0]
      · rw [e, bt_1 i hi]
        by_cases e0 : i = 0
        · rw [e0, Nat.add_zero, hV c hc1, e]
          decide
        · simp [e0]
    refine mm_run 90 (And.intro (fun z => absurd z (nleI (b := 32) hc1 (by decide))) (fun _ => x_decide (c := 31) hc (by decide) (And.intro (fun z => ih ?_ _ (nI_1 c)) (fun z => ⟨Or.inl rfl, ?_⟩))))
    · have z : verV n q c A 31 = verV n q c W 31 := Eq.trans z eb
      rw [agU, ha]
      simp [z]
    · have z : ¬ verV n q c A 31 = verV n q c W 31 := fun y => z (y.trans eb.symm)
      rw [b2i_f (fun y => z (agU_iff.mp y c hc1))] at hk
      exact hk
theorem x_code (hx : XRc F F) (hn : F 75 10 = nI n) (hc : Cw n (mq F)) (hk : ∀ F1, XT F F1 (S_code F).2 → K (some (.int (S_code F).1)) (hH L xs J s F1)) : mm_call mm_Ex (d + 5) k_X5_code [.ref 2] (hH L xs J s F) K := by
  have hcc := hx.cc hn hc
  have h9 := hc.1
  have hp9 := pw9 h9
  unfold S_code at hk
  dsimp only at hk
  rw [en_of hn h9] at hk
  obtain ⟨w, hw0⟩ : ∃ w, W0 F n = w := ⟨_, rfl⟩
  rw [hw0] at hk
  refine mm_run 90 (x_fw0 hcc fun G hG hw => ?_)
  have hw : WR G n w := hw0 ▸ hw
  have hz := hw.num (by omega)
  refine And.intro (fun g => x_first h9 hw ?_) (fun g => x_refuse (w := 4) (by decide) ?_)
  · have g : ¬ fa_cnt w (2 ^ n) = 0 := fun y => g (hz.mpr y)
    have g1 := first_cnt.mpr g
    rw [if_pos g1] at hk
    obtain ⟨W, hW⟩ : ∃ W, fa_first w (2 ^ n) = W := ⟨_, rfl⟩
    have efr : frst n w = nI W := by
      unfold frst
      rw [if_pos g1, hW]
    rw [hW] at hk g1
    rw [efr]
    have hcG := hG.cc hcc
    refine x_verdictsBy hcG fun V hV => x_bitCount (by omega) ?_
    have hfin : ∀ C, cMin n (mq F) W 0 C → C = cdN n (mq F) W (W + 1) := fun C h1 => cMin_one h1 (by have := cd_min (n := n) (q := mq F) (W := W) (W + 1) (Nat.le_refl _); rw [Nat.sub_self] at this; exact this)
    refine lp (n := W) (P := fun e => ∀ x a b (w6 : Value) C, x = nI e → a = nI (oneN C) → b = nI C → cOk n (mq F) W C → C ≤ W → oneN C ≤ oneN W → (C = W ∨ C < e) → (∀ S, S < e → cOk n (mq F) W S → oneN C ≤ oneN S ∧ (S < C → oneN C < oneN S)) → mm_Ex (d + 5) k_X5_code 27 (0, 0) [.ref 2, .int (nI W), .int V, .int a, .int b, .int x, w6] [] (hH L xs J s G) K) ?_ ?_ 0 _ _ _ W rfl rfl rfl cOk_W (Nat.le_refl _) (Nat.le_refl _) (Or.inl rfl) (fun S hS => absurd hS (Nat.not_lt_zero S))
    · intro x a b w6 C hx1 ha hb h1 h2 h3 h4 h5
      subst hx1
      have hC := hfin C ⟨h1, h2, fun S _ hS hok => by
        by_cases e : S = W
        · rw [e]
          exact ⟨h3, fun y => by omega⟩
        · exact h5 S (by omega) hok⟩
      rw [← hC, ← ha, ← hb] at hk
      refine mm_run 90 (And.intro (fun _ => ?_) (fun c => absurd ((nI_leI (by omega) (by omega)).mpr (Nat.le_refl W)) c))
      exact kh (K := K) (hp1 (F := G) (k := 2) (g := upd (G 2) 10 b) rfl) (hk _ ((hG.xt hx).te))
    · intro e he ih x a b w6 C hx1 ha hb h1 h2 h3 h4 h5
      subst hx1
      have oC := oneN_le C
      have oe := oneN_le e
      have J57 : ∀ a b (w6 : Value) C, a = nI (oneN C) → b = nI C → cOk n (mq F) W C → C ≤ W → oneN C ≤ oneN W → (C = W ∨ C < e + 1) → (∀ S, S < e + 1 → cOk n (mq F) W S → oneN C ≤ oneN S ∧ (S < C → oneN C < oneN S)) → mm_Ex (d + 5) k_X5_code 57 (0, 0) [.ref 2, .int (nI W), .int V, .int a, .int b, .int (nI e), w6] [] (hH L xs J s G) K := fun a b w6 C g1 g2 g3 g4 g5 g6 g7 => mm_run 10 (ih _ _ _ _ C (nI_1 e) g1 g2 g3 g4 g5 g6 g7)
      have KEEP : ∀ (w6 : Value), (cOk n (mq F) W e → oneN C ≤ oneN e) → mm_Ex (d + 5) k_X5_code 57 (0, 0) [.ref 2, .int (nI W), .int V, .int a, .int b, .int (nI e), w6] [] (hH L xs J s G) K := fun w6 hz => J57 a b w6 C ha hb h1 h2 h3 (h4.imp id (fun y => by omega)) (fun S hS hok => by
        by_cases e2 : S = e
        · rw [e2] at hok ⊢
          refine ⟨hz hok, fun y => ?_⟩
          rcases h4 with h4 | h4
          · have := one_sub (by omega) hok.1 (show ¬ e = W by omega)
            have := hz hok
            rw [h4] at this
            omega
          · omega
        · exact h5 S (by omega) hok)
      have J43 : ∀ v, (v = 0 → cOk n (mq F) W e → oneN C ≤ oneN e) → (¬ v = 0 → dif e W = 0 ∧ oneN e < oneN C) → mm_Ex (d + 5) k_X5_code 43 (0, 0) [.ref 2, .int (nI W), .int V, .int a, .int b, .int (nI e), w6] [.int v] (hH L xs J s G) K := fun v hv0 hv1 => by
        refine mm_run 90 (And.intro (fun c => KEEP _ (hv0 c)) (fun c => x_agrees hcG hV (And.intro (fun c2 => KEEP _ (fun hok => absurd hok.2 (b2i_0.mp c2))) (fun c2 => x_bitCount (by omega) (J57 _ _ _ e rfl rfl ⟨(hv1 c).1, b2i_p c2⟩ (by omega) (by have := (hv1 c).2; omega) (Or.inr (by omega)) (fun S hS hok => ?_))))))
        by_cases e2 : S = e
        · rw [e2]
          exact ⟨Nat.le_refl _, fun y => by omega⟩
        · have := (h5 S (by omega) hok).1
          have := (hv1 c).2
          exact ⟨by omega, fun _ => by omega⟩
      have J42 : (cOk n (mq F) W e → oneN C ≤ oneN e) → mm_Ex (d + 5) k_X5_code 42 (0, 0) [.ref 2, .int (nI W), .int V, .int a, .int b, .int (nI e), w6] [] (hH L xs J s G) K := fun hz => mm_run 5 (J43 0 (fun _ => hz) (fun y => absurd rfl y))
      have ed : nI e &&& (nI W ^^^ (-1)) = nI (dif e W) := difI e W
      have dl : dif e W < 2 ^ 31 := Nat.lt_of_lt_of_le (dif_le (n := 9) _ _ (by omega)) (by decide)
      refine mm_run 90 (And.intro (fun c => absurd c (nleI he (by omega))) (fun _ => And.intro (fun c => J42 fun hok => absurd (ed.trans (by rw [hok.1]; rfl)) c) (fun c => x_bitCount (by omega) (And.intro (fun c2 => J42 fun hok => ?_) (fun c2 => J43 1 (fun y => absurd y (by decide)) (fun _ => ⟨(nI_z dl).mp (ed.symm.trans c), ?_⟩))))))
      · rw [ha] at c2
        exact (nI_leI (by omega) (by omega)).mp c2
      · rw [ha] at c2
        exact Nat.lt_of_not_le fun y => c2 ((nI_leI (by omega) (by omega)).mpr y)
  · have g : fa_cnt w (2 ^ n) = 0 := hz.mp g
    rw [if_neg (fun y => first_cnt.mp y g)] at hk
    exact hk _ ((hG.xt hx).fi (by decide))
end XCs
