/-! the class: flips, odds, due, matter, judge, mark -/
theorem isF_3 {n : Nat} {q : Rq} {i : Nat} {day : Int32} : isF n q i day = 0 ∨ isF n q i day = 1 ∨ isF n q i day = -1 := by
  unfold isF
  split
  · exact Or.inr (Or.inl rfl)
  · split
    · exact Or.inr (Or.inr rfl)
    · exact Or.inl rfl
theorem flip_b : ∀ {a b : Int32}, (a = 0 ∨ a = 1 ∨ a = -1) → (b = 0 ∨ b = 1 ∨ b = -1) → ¬ a = 0 → b2i (a = -b) = b2i (¬ a = 0 ∧ ¬ b = 0 ∧ ¬ a = b) := by
  rintro a b (rfl | rfl | rfl) (rfl | rfl | rfl) <;> decide
theorem tU_bit {n : Nat} {q : Rq} {i : Nat} {last : Int32} (hi : i < n) (h : q 1 i ≤ last) : (tU n q last n).testBit i = true := by
  rw [tU_dif, dif_bit, setB_bit, all_bit]
  have : ¬ last < q 1 i := Int32.not_lt.mpr h
  simp [hi, this]
def mxN (n : Nat) (q : Rq) (e : Nat) : Int32 := if (jdN n q e).2 = -9 then -1 else (jdN n q e).2
theorem jd_ok {n : Nat} {q : Rq} : ∀ e, ((jdN n q e).2 = -9 ∧ ∀ k, k < e → dyS n q k = 0) ∨ ∃ v, v ≤ 9 ∧ (jdN n q e).2 = nI v
  | 0 => Or.inl ⟨rfl, fun k hk => absurd hk (Nat.not_lt_zero k)⟩
  | e + 1 => by
    have ih := jd_ok (n := n) (q := q) e
    have eq : (jdN n q (e + 1)).2 = if (jdN n q e).2 < jdV n q e then jdV n q e else (jdN n q e).2 := rfl
    rw [eq]
    by_cases hz : dyS n q e = 0
    · have hv : jdV n q e = -9 := if_pos hz
      rw [hv]
      rcases ih with ⟨a, b⟩ | ⟨v, v1, v2⟩
      · rw [a, if_neg (by decide)]
        refine Or.inl ⟨rfl, fun k hk => ?_⟩
        by_cases e2 : k = e
        · rw [e2]; exact hz
        · exact b k (by omega)
      · rw [v2, if_neg (fun y => nI_pos (n := v) (by omega) (Int32.lt_trans y (by decide)))]
        exact Or.inr ⟨v, v1, rfl⟩
    · have hv : jdV n q e = nI (othN n q (dyS n q e)) := if_neg hz
      have ho : othN n q (dyS n q e) ≤ 9 := oneN_le _
      rw [hv]
      rcases ih with ⟨a, b⟩ | ⟨v, v1, v2⟩
      · rw [a, if_pos (Int32.lt_of_lt_of_le (by decide) (nle0 (by omega)))]
        exact Or.inr ⟨_, ho, rfl⟩
      · split
        · exact Or.inr ⟨_, ho, rfl⟩
        · exact Or.inr ⟨v, v1, v2⟩
theorem gcd_top {a b g : Nat} (hb : 0 < b) (h1 : a % g = 0) (h2 : b % g = 0) (h3 : ∀ e, g < e → e ≤ b → ¬ (a % e = 0 ∧ b % e = 0)) : Nat.gcd a b = g := by
  have hd : g ∣ Nat.gcd a b := Nat.dvd_gcd (Nat.dvd_of_mod_eq_zero h1) (Nat.dvd_of_mod_eq_zero h2)
  have hg0 : 0 < Nat.gcd a b := Nat.gcd_pos_of_pos_right a hb
  have hle := Nat.le_of_dvd hg0 hd
  have hgb : Nat.gcd a b ≤ b := Nat.le_of_dvd hb (Nat.gcd_dvd_right a b)
  refine Classical.byContradiction fun y => h3 (Nat.gcd a b) (by omega) hgb ⟨Nat.mod_eq_zero_of_dvd (Nat.gcd_dvd_left a b), Nat.mod_eq_zero_of_dvd (Nat.gcd_dvd_right a b)⟩
theorem day_one {n : Nat} {q : Rq} {i : Nat} (h9 : n ≤ 9) : oneN (sdS n q i) = dayN n q i := by
  unfold oneN dayN sdS
  obtain ⟨m, hm⟩ : ∃ m, 9 = n + m := ⟨9 - n, by omega⟩
  rw [hm, cnt_more (fun k hk => by rw [dif_bit, setB_bit]; simp; omega)]
  refine fa_cnt_cong fun k hk => ?_
  rw [dif_bit, setB_bit, Nat.testBit_two_pow]
  by_cases e : k = i
  · subst e
    simp
  · have e2 : ¬ i = k := fun y => e y.symm
    simp [hk, e, e2]
theorem hpK {L : Nat} {xs : Nat → Int32} {J J' : Nat → Int64} {s : Nat} {F : Nat → Nat → Int32} {c : mm_C} (e : hc L xs J' s 2 (F 2) = c) (h2 : J 2 = J' 2) (h3 : J 3 = J' 3) : ((93, mU (hH L xs J s F).2 2 c) : mm_H) = hH L xs J' s F := by
  show (93, _) = (93, _)
  congr 1
  funext a
  by_cases h : a = 2
  · subst h
    simp [mU, e]
  · simp only [mU, if_neg h, hH]
    exact hc_J (Or.inr ⟨h, h2, h3⟩)
theorem hJ0 {L : Nat} {xs : Nat → Int32} {J : Nat → Int64} {s : Nat} {F : Nat → Nat → Int32} {a b : Int64} : hH L xs (upJ (upJ J 0 a) 1 b) s F = (93, mU (mU (hH L xs J s F).2 2 (hc L xs (upJ J 0 a) s 2 (F 2))) 2 (hc L xs (upJ (upJ J 0 a) 1 b) s 2 (F 2))) := by
  have e1 := hpK (L := L) (xs := xs) (J := J) (J' := upJ J 0 a) (s := s) (F := F) rfl rfl rfl
  have e2 := hpK (L := L) (xs := xs) (J := upJ J 0 a) (J' := upJ (upJ J 0 a) 1 b) (s := s) (F := F) rfl rfl rfl
  rw [← e2, ← e1]
section XFl
variable {d L s : Nat} {xs : Nat → Int32} {J : Nat → Int64} {F : Nat → Nat → Int32} {K : mm_K} {h : mm_H} {n : Nat} {q : Rq}
theorem x_gcd {a b : Nat} (ha : a ≤ 512) (hb : b ≤ 512) (hb0 : 0 < b) (hk : K (some (.int (nI (Nat.gcd a b)))) h) : mm_call mm_Ex d k_X5_greatestDivisor [.int (nI a), .int (nI b)] h K := by
  have H : ∀ g, g ≤ b → 0 < g → (∀ e, g < e → e ≤ b → ¬ (a % e = 0 ∧ b % e = 0)) → ∀ x, x = nI g → mm_Ex d k_X5_greatestDivisor 2 (0, 0) [.int (nI a), .int (nI b), .int x] [] h K := by
    intro g
    induction g with
    | zero => intro _ h0; omega
    | succ g ih =>
      intro hg _ hno x hx
      subst hx
      by_cases h1 : g = 0
      · subst h1
        rw [gcd_top hb0 (Nat.mod_one a) (Nat.mod_one b) hno] at hk
        exact mm_run 90 (And.intro (fun _ => hk) (fun c => absurd (by decide) c))
      · have J15 : ¬ (a % (g + 1) = 0 ∧ b % (g + 1) = 0) → mm_Ex d k_X5_greatestDivisor 15 (0, 0) [.int (nI a), .int (nI b), .int (nI (g + 1))] [] h K := fun y => mm_run 5 (ih (by omega) (by omega) (fun e h1 h2 => by
          by_cases e2 : e = g + 1
          · rw [e2]; exact y
          · exact hno e (by omega) h2) _ (by rw [← Int32.sub_eq_add_neg, nI_pred]))
        have ea : nI a - nI a / nI (g + 1) * nI (g + 1) = nI (a % (g + 1)) := pk_rem (by omega) (by omega) (by omega)
        have eb : nI b - nI b / nI (g + 1) * nI (g + 1) = nI (b % (g + 1)) := pk_rem (by omega) (by omega) (by omega)
        have la := Nat.mod_le a (g + 1)
        have lb := Nat.mod_le b (g + 1)
        have n0 : ¬ nI (g + 1) = 0 := nI_ne0 (by omega) (by omega)
        refine mm_run 90 (And.intro (fun c => absurd ((nI_leI (b := 1) (by omega) (by decide)).mp c) (by omega)) (fun _ => ⟨n0, And.intro (fun c => J15 fun y => c (ea.trans (by rw [y.1]; rfl))) (fun c => ⟨n0, And.intro (fun c2 => J15 fun y => c2 (eb.trans (by rw [y.2]; rfl))) (fun c2 => ?_)⟩)⟩))
        have c : a % (g + 1) = 0 := (nI_z (by omega)).mp (ea.symm.trans c)
        have c2 : b % (g + 1) = 0 := (nI_z (by omega)).mp (eb.symm.trans c2)
        rw [gcd_top hb0 c c2 hno] at hk
        exact hk
  exact mm_run 90 (H b (Nat.le_refl b) hb0 (fun e h1 h2 => by omega) _ rfl)
theorem x_odds (hx : XRc F F) (hn : F 75 10 = nI n) (hc : Cw n (mq F)) (hJ : J 0 = J 2 ∧ J 1 = J 3) {i : Int32} (hk : ∀ F1 J1, XT F F1 (S_odds F J i).2.1 → J1 0 = (S_odds F J i).2.2 2 → J1 1 = (S_odds F J i).2.2 3 → J1 2 = J 2 → J1 3 = J 3 → K (some (.int (S_odds F J i).1)) (hH L xs J1 s F1)) : mm_call mm_Ex (d + 5) k_X5_odds [.ref 2, .int i] (hH L xs J s F) K := by
  have hcc := hx.cc hn hc
  have h9 := hc.1
  have hp9 := pw9 h9
  unfold S_odds at hk
  dsimp only at hk
  rw [en_of hn h9, hn] at hk
  obtain ⟨w, hw0⟩ : ∃ w, W0 F n = w := ⟨_, rfl⟩
  rw [hw0] at hk
  refine mm_run 90 (x_has0 hcc (fun j hj e hh => And.intro (fun _ => x_fw0 hcc fun G hG hw => ?_) (fun z => absurd z (by decide))) (fun hh => And.intro (fun z => absurd rfl z) (fun _ => ?_)))
  · subst e
    rw [if_pos hh, tn_nI (by omega)] at hk
    have hw : WR G n w := hw0 ▸ hw
    have hz := hw.num (by omega)
    refine And.intro (fun g => x_waysWith h9 hw (by omega) ?_) (fun g => x_refuse (w := 4) (by decide) ?_)
    · have g : ¬ fa_cnt w (2 ^ n) = 0 := fun y => g (hz.mpr y)
      rw [if_neg g] at hk
      obtain ⟨N, hN⟩ : ∃ N, fa_cnt w (2 ^ n) = N := ⟨_, rfl⟩
      obtain ⟨I, hI⟩ : ∃ I, fa_cnt (fun S => S.testBit j && w S) (2 ^ n) = I := ⟨_, rfl⟩
      have lN' : N ≤ 512 := by have := fa_cnt_le w (2 ^ n); omega
      have lI' : I ≤ 512 := by have := fa_cnt_le (fun S => S.testBit j && w S) (2 ^ n); omega
      have e30 : G 30 1 = nI N := hN ▸ hw.1
      rw [hN] at g
      rw [hN, hI] at hk
      rw [hI]
      show mm_call mm_Ex (d + 4) k_X5_greatestDivisor [.int (nI I), .int (G 30 1)] _ _
      rw [e30]
      have hg0 : 0 < Nat.gcd I N := Nat.gcd_pos_of_pos_right I (by omega)
      have hgl : Nat.gcd I N ≤ N := Nat.le_of_dvd (by omega) (Nat.gcd_dvd_right I N)
      refine x_gcd lI' lN' (by omega) ⟨nI_ne0 hg0 (by omega), nI_ne0 hg0 (by omega), ?_⟩
      have := hk G (upJ (upJ J 0 (lN (I / Nat.gcd I N))) 1 (lN (N / Nat.gcd I N))) (hG.xt hx) rfl rfl rfl rfl
      have eI : (nI (I / Nat.gcd I N)).toInt64 = lN (I / Nat.gcd I N) := nI_l (Nat.lt_of_le_of_lt (Nat.div_le_self _ _) (by omega))
      have eN : (nI (N / Nat.gcd I N)).toInt64 = lN (N / Nat.gcd I N) := nI_l (Nat.lt_of_le_of_lt (Nat.div_le_self _ _) (by omega))
      have e1 : nI I / nI (Nat.gcd I N) = nI (I / Nat.gcd I N) := pk_div (by omega) hg0 (by omega)
      have e2 : nI N / nI (Nat.gcd I N) = nI (N / Nat.gcd I N) := pk_div (by omega) hg0 (by omega)
      rw [← eI, ← eN, ← e1, ← e2, ← e30, hJ0] at this
      exact this
    · have g : fa_cnt w (2 ^ n) = 0 := hz.mp g
      rw [if_pos g] at hk
      exact hk _ J ((hG.xt hx).fi (by decide)) hJ.1 hJ.2 rfl rfl
  · rw [if_neg hh] at hk
    exact hk _ J (XT.same hx) hJ.1 hJ.2 rfl rfl
theorem x_flips (hx : XRc F F) (hn : F 75 10 = nI n) (hc : Cw n (mq F)) {i : Int32} (hk : ∀ F1, XT F F1 (S_flips F i).2 → K (some (.int (S_flips F i).1)) (hH L xs J s F1)) : mm_call mm_Ex (d + 5) k_X5_flips [.ref 2, .int i] (hH L xs J s F) K := by
  have hcc := hx.cc hn hc
  have h9 := hc.1
  have hp9 := pw9 h9
  unfold S_flips at hk
  dsimp only at hk
  rw [en_of hn h9, hn] at hk
  refine mm_run 90 (x_has0 hcc (fun j hj e hh => And.intro (fun _ => ⟨by subst e; exact vp_in_nI (by omega) (by decide), ?_⟩) (fun z => absurd z (by decide))) (fun hh => And.intro (fun z => absurd rfl z) (fun _ => ?_)))
  · subst e
    have ej : (nI j).toNatClampNeg = j := tn_nI (by omega)
    obtain ⟨d0, hd0, ed0⟩ := (hc.2 j hj).2.1
    have ed1 : F 83 j = nI d0 := ed0
    have ed2 : F 7 (nI j).toNatClampNeg = nI d0 := by rw [ej]; exact (hcc.2.2 1 (by decide) j hj).trans ed0
    rw [if_pos hh, ej, ed1, tn_nI (by omega)] at hk
    obtain ⟨f, hf⟩ : ∃ f, (fun e => isF n (mq F) j (nI e)) = f := ⟨_, rfl⟩
    rw [hf] at hk
    have hf3 : ∀ e, f e = 0 ∨ f e = 1 ∨ f e = -1 := fun e => by rw [← hf]; exact isF_3
    refine lp (n := 10 - d0) (P := fun k => ∀ x a b (w5 : Value) G, x = nI (d0 + k) → a = (flp f d0 k).1 → b = (flp f d0 k).2 → XS F G → mm_Ex (d + 5) k_X5_flips 17 (0, 0) [.ref 2, .int (nI j), .int a, .int b, .int x, w5] [] (hH L xs J s G) K) ?_ ?_ _ _ _ _ F ed2 rfl rfl XS.rf
    · intro x a b w5 G hx1 ha hb hG
      rw [show d0 + (10 - d0) = 10 by omega] at hx1
      subst hx1 ha
      exact mm_run 90 (And.intro (fun _ => hk _ (hG.xt hx)) (fun c => absurd (by decide) c))
    · intro k hk1 ih x a b w5 G hx1 ha hb hG
      subst hx1
      have efk : f (d0 + k) = isF n (mq F) j (nI (d0 + k)) := by rw [← hf]
      have le1 : mq F 1 j ≤ nI (d0 + k) := by rw [ed0]; exact (nI_leI (by omega) (by omega)).mpr (by omega)
      have J58 : ∀ a b (w5 : Value) G, a = (flp f d0 (k + 1)).1 → b = (flp f d0 (k + 1)).2 → XS F G → mm_Ex (d + 5) k_X5_flips 58 (0, 0) [.ref 2, .int (nI j), .int a, .int b, .int (nI (d0 + k)), w5] [] (hH L xs J s G) K := fun a b w5 G h1 h2 h3 => mm_run 10 (ih _ _ _ _ _ (nI_1 _) h1 h2 h3)
      have J54 : ∀ y G, ¬ f (d0 + k) = 0 → y = b2i (f (d0 + k) = -b) → XS F G → mm_Ex (d + 5) k_X5_flips 54 (0, 0) [.ref 2, .int (nI j), .int a, .int b, .int (nI (d0 + k)), .int (f (d0 + k))] [.int y, .int a] (hH L xs J s G) K := fun y G h0 hy h3 => by
        refine mm_run 90 (J58 _ _ _ _ ?_ ?_ h3)
        · rw [flp, hy, ha, hb, flip_b (hf3 _) (flp_2 hf3 k) h0]
        · rw [flp]
          dsimp only
          rw [if_neg h0]
      have J43 : ∀ v G, v = f (d0 + k) → XS F G → mm_Ex (d + 5) k_X5_flips 43 (0, 0) [.ref 2, .int (nI j), .int a, .int b, .int (nI (d0 + k)), w5] [.int v] (hH L xs J s G) K := fun v G hv h3 => by
        subst hv
        refine mm_run 90 (And.intro (fun c => J58 _ _ _ _ ?_ ?_ h3) (fun c => And.intro (fun c2 => J54 0 _ c (b2i_f c2).symm h3) (fun c2 => J54 1 _ c (b2i_t c2).symm h3)))
        · rw [flp, b2i_f (fun y => y.1 c), ha]
          exact (Int32.add_zero _).symm
        · rw [flp]
          dsimp only
          rw [if_pos c]
          exact hb
      refine mm_run 90 (And.intro (fun c => absurd c (nleI (b := 10) (by omega) (by decide))) (fun _ => x_laterThan (hG.cc hcc) (x_fwU (hG.cc hcc) fun G2 hG2 hw => ?_)))
      have hG3 := hG.tr hG2
      have tb := tU_bit (n := n) hj le1
      have est : stS n (tU n (mq F) (nI (d0 + k)) n) (WU n (mq F) (nI (d0 + k))) = _ := st_any (tU_lt _ _ _ _) (fun S hS => way_in hS)
      have efl : (flS n (tU n (mq F) (nI (d0 + k)) n) (WU n (mq F) (nI (d0 + k)))).testBit j = (if fa_cnt (WU n (mq F) (nI (d0 + k))) (2 ^ n) = 0 then 0 else dif (2 ^ n - 1) (unN (WU n (mq F) (nI (d0 + k))) (2 ^ n))).testBit j := by
        rw [fl_any]
        split
        · rfl
        · rw [dif_bit, dif_bit, tb, all_bit]
          simp [hj]
      refine x_surelyStanding h9 hw (x_holdsN (by omega) (And.intro (fun c => x_surelyFalling h9 hw (x_holdsN (by omega) (And.intro (fun c2 => J43 _ _ ?_ hG3) (fun c2 => J43 _ _ ?_ hG3)))) (fun c => J43 _ _ ?_ hG3)))
      · have c := b2i_0.mp c
        have c2 := b2i_0.mp c2
        rw [efk]
        unfold isF
        rw [← est] at c
        rw [← efl] at c2
        rw [if_neg c, if_neg c2]
      · have c := b2i_0.mp c
        have c2 := b2i_p c2
        rw [efk]
        unfold isF
        rw [← est] at c
        rw [← efl] at c2
        rw [if_neg c, if_pos c2]
      · have c := b2i_p c
        rw [efk]
        unfold isF
        rw [← est] at c
        rw [if_pos c]
  · rw [if_neg hh] at hk
    exact hk _ (XT.same hx)
theorem x_changedWithout (hc : CC F n q) {out : Nat} (hk : ∀ G, XS F G → K (some (.int (nI (othN n q out)))) (hH L xs J s G)) : mm_call mm_Ex (d + 5) k_X5_changedWithout [.ref 2, .int (nI out)] (hH L xs J s F) K := by
  have h9 := hc.2.1.1
  have hp9 := pw9 h9
  have hp0 := Nat.two_pow_pos n
  unfold othN at hk
  dsimp only at hk
  have tl : dif (2 ^ n - 1) out < 2 ^ n := dif_le _ _ (by omega)
  rw [st_any (by omega) (fun S hS => way_in hS), st_any tl (fun S hS => way_in hS), fl_any, fl_any] at hk
  obtain ⟨w, hw0⟩ : ∃ w, wayB n q (fun _ => 0) (2 ^ n - 1) = w := ⟨_, rfl⟩
  obtain ⟨w2, hw2⟩ : ∃ w, wayB n q (fun _ => 0) (dif (2 ^ n - 1) out) = w := ⟨_, rfl⟩
  rw [hw0, hw2] at hk
  have sl : ∀ w : Nat → Bool, (if fa_cnt w (2 ^ n) = 0 then 0 else stN (2 ^ n - 1) w (2 ^ n)) < 2 ^ n := fun w => by
    split
    · exact hp0
    · exact stN_lt (by omega) _
  have fl' : ∀ w : Nat → Bool, (if fa_cnt w (2 ^ n) = 0 then 0 else dif (2 ^ n - 1) (unN w (2 ^ n))) < 2 ^ n := fun w => by
    split
    · exact hp0
    · exact dif_le _ _ (by omega)
  obtain ⟨A, hA⟩ : ∃ A, (if fa_cnt w (2 ^ n) = 0 then 0 else stN (2 ^ n - 1) w (2 ^ n)) = A := ⟨_, rfl⟩
  obtain ⟨B, hB⟩ : ∃ A, (if fa_cnt w (2 ^ n) = 0 then 0 else dif (2 ^ n - 1) (unN w (2 ^ n))) = A := ⟨_, rfl⟩
  obtain ⟨A2, hA2⟩ : ∃ A, (if fa_cnt w2 (2 ^ n) = 0 then 0 else stN (2 ^ n - 1) w2 (2 ^ n)) = A := ⟨_, rfl⟩
  obtain ⟨B2, hB2⟩ : ∃ A, (if fa_cnt w2 (2 ^ n) = 0 then 0 else dif (2 ^ n - 1) (unN w2 (2 ^ n))) = A := ⟨_, rfl⟩
  have a1 := sl w
  have a2 := sl w2
  have b1 := fl' w
  have b2 := fl' w2
  rw [hA] at a1 hk
  rw [hA2] at a2 hk
  rw [hB] at b1 hk
  rw [hB2] at b2
  have hx : dif ((A ^^^ A2) ||| (B ^^^ B2)) out < 512 := Nat.lt_of_lt_of_le (dif_le _ _ (Nat.or_lt_two_pow (Nat.xor_lt_two_pow a1 a2) (Nat.xor_lt_two_pow b1 b2))) hp9
  have E : dif ((A ^^^ A2) ||| (B ^^^ B2)) out = (A ^^^ A2 ||| B ^^^ (if fa_cnt w2 (2 ^ n) = 0 then 0 else dif (dif (2 ^ n - 1) out) (unN w2 (2 ^ n)))) &&& dif (2 ^ n - 1) out := by
    refine bits_ext (n := n) (dif_le _ _ (Nat.or_lt_two_pow (Nat.xor_lt_two_pow a1 a2) (Nat.xor_lt_two_pow b1 b2))) (Nat.lt_of_le_of_lt Nat.and_le_right tl) fun k hk => ?_
    rw [dif_bit, Nat.testBit_and, dif_bit, all_bit, Nat.testBit_or, Nat.testBit_or, Nat.testBit_xor, Nat.testBit_xor, Nat.testBit_xor, ← hB2]
    cases ho : out.testBit k
    · by_cases c : fa_cnt w2 (2 ^ n) = 0
      · rw [if_pos c, if_pos c]
        simp [hk]
      · rw [if_neg c, if_neg c, dif_bit, dif_bit, dif_bit, all_bit, ho]
        simp [hk]
    · simp
  refine mm_run 90 (x_fw0 hc fun G hG hw => ?_)
  rw [hw0] at hw
  refine x_surelyStanding h9 hw ?_
  rw [hA]
  refine x_surelyFalling h9 hw ?_
  rw [hB]
  refine x_fw (hG.cc hc) fun G2 hG2 hw' => ?_
  rw [hw2] at hw'
  refine x_surelyStanding h9 hw' ?_
  rw [hA2]
  refine x_surelyFalling h9 hw' ?_
  rw [hB2]
  show mm_call mm_Ex (d + 4) k_J6_bitCount_0f7a4 [.int (((nI A ^^^ nI A2) ||| (nI B ^^^ nI B2)) &&& (nI out ^^^ (-1)))] _ _
  rw [xorI, xorI, fa_or, difI]
  refine x_bitCount hx ?_
  rw [E]
  exact hk _ (hG.tr hG2)
theorem x_matter (hx : XRc F F) (hn : F 75 10 = nI n) (hc : Cw n (mq F)) {i : Int32} (hk : ∀ F1, XT F F1 (S_matter F i).2 → K (some (.int (S_matter F i).1)) (hH L xs J s F1)) : mm_call mm_Ex (d + 6) k_X5_matter [.ref 2, .int i] (hH L xs J s F) K := by
  have hcc := hx.cc hn hc
  have h9 := hc.1
  unfold S_matter at hk
  rw [en_of hn h9, hn] at hk
  refine mm_run 90 (x_has0 hcc (fun j hj e hh => And.intro (fun _ => ?_) (fun z => absurd z (by decide))) (fun hh => And.intro (fun z => absurd rfl z) (fun _ => ?_)))
  · subst e
    rw [if_pos hh, tn_nI (by omega)] at hk
    show mm_call mm_Ex (d + 5) k_X5_changedWithout [.ref 2, .int ((1 : Int32) <<< (nI j &&& 31))] _ _
    rw [shl1 (by omega)]
    exact x_changedWithout hcc fun G hG => hk _ (hG.xt hx)
  · rw [if_neg hh] at hk
    exact hk _ (XT.same hx)
theorem x_judge (hx : XRc F F) (hn : F 75 10 = nI n) (hc : Cw n (mq F)) (hk : ∀ F1, XT F F1 (S_judge F).2 → K (some (.int (S_judge F).1)) (hH L xs J s F1)) : mm_call mm_Ex (d + 6) k_X5_judge [.ref 2] (hH L xs J s F) K := by
  have hcc := hx.cc hn hc
  have h9 := hc.1
  unfold S_judge at hk
  dsimp only at hk
  rw [en_of hn h9, hn] at hk
  have e5 := hcc.1
  refine mm_run 90 (And.intro (fun c => ?_) (fun c => ?_))
  · have c : ¬ nI n = 0 := fun y => c (e5.trans y)
    have n0 : ¬ n = 0 := fun y => c (by rw [y]; rfl)
    rw [if_neg c] at hk
    refine lp (n := 10) (P := fun e => ∀ x a b (w4 w5 : Value) G, x = nI e → a = (jdN n (mq F) e).1 → b = mxN n (mq F) e → XS F G → (∀ z, w4 ≠ .long z) → mm_Ex (d + 6) k_X5_judge 12 (0, 0) [.ref 2, .int a, .int b, .int x, w4, w5] [] (hH L xs J s G) K) ?_ ?_ _ _ _ _ _ F rfl rfl rfl XS.rf (fun z => by intro y; cases y)
    · intro x a b w4 w5 G hx1 ha hb hG _
      subst hx1 ha
      have eb : b = (jdN n (mq F) 10).2 := by
        rw [hb]
        unfold mxN
        refine if_neg fun y => ?_
        rcases jd_ok (n := n) (q := mq F) 10 with ⟨-, z⟩ | ⟨v, v1, v2⟩
        · obtain ⟨d0, hd0, ed0⟩ := (hc.2 0 (by omega)).2.1
          have := z d0 (by omega)
          have hb := congrArg (fun x => Nat.testBit x 0) this
          unfold dyS at hb
          simp only [setB_bit] at hb
          simp [ed0] at hb
          omega
        · rw [v2] at y
          exact absurd y (ne9 (p := v) (by omega))
      refine mm_run 90 (And.intro (fun _ => ?_) (fun c => absurd (by decide) c))
      rw [← eb] at hk
      exact kh (K := K) (hp1 (F := G) (k := 2) (g := upd (G 2) 10 b) rfl) (hk _ ((hG.xt hx).te))
    · intro e he ih x a b w4 w5 G hx1 ha hb hG hw4
      subst hx1
      have e1 : (jdN n (mq F) (e + 1)).1 = if (jdN n (mq F) e).2 < jdV n (mq F) e then nI e else (jdN n (mq F) e).1 := rfl
      have e2 : (jdN n (mq F) (e + 1)).2 = if (jdN n (mq F) e).2 < jdV n (mq F) e then jdV n (mq F) e else (jdN n (mq F) e).2 := rfl
      have ok := jd_ok (n := n) (q := mq F) e
      have J35 : ∀ a b (y : Int32) (w5 : Value) G, a = (jdN n (mq F) (e + 1)).1 → b = mxN n (mq F) (e + 1) → XS F G → mm_Ex (d + 6) k_X5_judge 35 (0, 0) [.ref 2, .int a, .int b, .int (nI e), .int y, w5] [] (hH L xs J s G) K := fun a b y w5 G h1 h2 h3 => mm_run 10 (ih _ _ _ _ _ _ (nI_1 e) h1 h2 h3 (fun z => by intro y; cases y))
      have J27 : ∀ v (y : Int32) G, v = (if jdV n (mq F) e = -9 then -1 else jdV n (mq F) e) → XS F G → mm_Ex (d + 6) k_X5_judge 27 (0, 0) [.ref 2, .int a, .int b, .int (nI e), .int y, w5] [.int v] (hH L xs J s G) K := fun v y G hv h3 => by
        by_cases hz : dyS n (mq F) e = 0
        · have hjv : jdV n (mq F) e = -9 := if_pos hz
          rw [hjv, if_pos rfl] at hv
          rw [hjv] at e1 e2
          have lo : ¬ (jdN n (mq F) e).2 < -9 := fun y => by
            rcases ok with ⟨z, -⟩ | ⟨v, v1, v2⟩
            · rw [z] at y
              exact absurd y (by decide)
            · rw [v2] at y
              exact nI_pos (n := v) (by omega) (Int32.lt_trans y (by decide))
          rw [if_neg lo] at e1 e2
          have em : mxN n (mq F) (e + 1) = mxN n (mq F) e := by unfold mxN; rw [e2]
          refine mm_run 90 (And.intro (fun c => J35 _ _ _ _ _ (by rw [e1]; exact ha) (by rw [em]; exact hb) h3) (fun c => absurd ?_ c))
          rw [hv, hb]
          unfold mxN
          rcases ok with ⟨z, -⟩ | ⟨v, v1, v2⟩
          · rw [if_pos z]
            decide
          · rw [v2, if_neg (ne9 (p := v) (by omega))]
            exact Int32.le_trans (by decide) (nle0 (by omega))
        · have hjv : jdV n (mq F) e = nI (othN n (mq F) (dyS n (mq F) e)) := if_neg hz
          have ho : othN n (mq F) (dyS n (mq F) e) ≤ 9 := oneN_le _
          have hj9 : ¬ jdV n (mq F) e = -9 := by rw [hjv]; exact ne9 (by omega)
          rw [if_neg hj9] at hv
          have iff1 : (jdN n (mq F) e).2 < jdV n (mq F) e ↔ b < jdV n (mq F) e := by
            rw [hb]
            unfold mxN
            rcases ok with ⟨z, -⟩ | ⟨v, v1, v2⟩
            · rw [if_pos z, z, hjv]
              exact ⟨fun _ => Int32.lt_of_lt_of_le (by decide) (nle0 (by omega)), fun _ => Int32.lt_of_lt_of_le (by decide) (nle0 (by omega))⟩
            · rw [v2, if_neg (ne9 (p := v) (by omega))]
          subst hv
          refine mm_run 90 (And.intro (fun c => J35 _ _ _ _ _ ?_ ?_ h3) (fun c => J35 _ _ _ _ _ ?_ ?_ h3))
          · rw [e1, if_neg (fun y => Int32.not_lt.mpr c (iff1.mp y))]
            exact ha
          · have : mxN n (mq F) (e + 1) = mxN n (mq F) e := by
              unfold mxN
              rw [e2, if_neg (fun y => Int32.not_lt.mpr c (iff1.mp y))]
            rw [this]
            exact hb
          · rw [e1, if_pos (iff1.mpr (Int32.not_le.mp c))]
          · unfold mxN
            rw [e2, if_pos (iff1.mpr (Int32.not_le.mp c)), if_neg hj9]
      refine mm_run 90 (And.intro (fun c => absurd c (nleI (b := 10) he (by decide))) (fun _ => x_ofDay (hG.cc hcc) ?_))
      obtain ⟨D, hD⟩ : ∃ D, setB (fun i => decide (mq F 1 i = nI e)) n = D := ⟨_, rfl⟩
      have hDy : dyS n (mq F) e = D := hD
      have hp9 := pw9 h9
      have Dl : D < 2 ^ n := by rw [← hD]; exact setB_lt _ _
      rw [hD]
      refine And.intro (fun c => x_changedWithout (hG.cc hcc) fun G2 hG2 => J27 _ _ _ ?_ (hG.tr hG2)) (fun c => J27 _ _ _ ?_ hG)
      · have c : ¬ D = 0 := fun y => c (by rw [y]; rfl)
        unfold jdV
        rw [hDy, if_neg c, if_neg (ne9 ?_)]
        have : othN n (mq F) D ≤ 9 := oneN_le _
        omega
      · have c : D = 0 := (nI_z (by omega)).mp c
        unfold jdV
        rw [hDy, if_pos c, if_pos rfl]
  · have c : nI n = 0 := e5.symm.trans c
    rw [if_pos c] at hk
    exact hk _ (XT.same hx)
end XFl
