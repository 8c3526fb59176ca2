/-! the reference: flips, jam, mark, due -/
theorem CE.nn {F G : Nat → Nat → Int32} (h : CE F G) : F 75 10 = G 75 10 := h.2 10 (by decide) (by decide) (by decide) (by decide) (by decide)
theorem CE.mq {F G : Nat → Nat → Int32} (h : CE F G) : mq F = mq G := mq_c fun k h1 h2 => h.1 k (by omega) (by omega) (by omega) (by omega) (by omega)
def S_mark (F : Nat → Nat → Int32) (i kind : Int32) : Int32 × (Nat → Nat → Int32) :=
  let n := (F 75 10).toNatClampNeg
  if (0 ≤ i ∧ i ≤ F 75 10 - 1) ∧ (1 ≤ kind ∧ kind ≤ 5) then
    (if isOfB (mq F 0 i.toNatClampNeg) kind = true then
      ((if kind = 5 then nI (fa_cnt (fun S => S.testBit i.toNatClampNeg && W0 F n S) (2 ^ n)) else if kind = 1 then nI (depN (mq F) n (mq F 3 i.toNatClampNeg)) else if kind = 2 then nI (citeN n (mq F) i (-1)) else if kind = 3 then nI (citeN n (mq F) i 1) else nI (dayN n (mq F) i.toNatClampNeg)), F)
    else (-3, S_fi F 3)) else (-1, F)
def S_due (F : Nat → Nat → Int32) (S : Int32) : Int32 × (Nat → Nat → Int32) :=
  let n := (F 75 10).toNatClampNeg
  if 0 ≤ S ∧ S ≤ (1 : Int32) <<< (F 75 10 &&& 31) - 1 then (nI (dueS n (mq F) (fun _ => 0) (2 ^ n - 1) S.toNatClampNeg), F) else (-1, F)
theorem set_of {S : Int32} {n : Nat} (h9 : n ≤ 9) (c : 0 ≤ S ∧ S ≤ (1 : Int32) <<< (nI n &&& 31) - 1) : ∃ j, j < 2 ^ n ∧ S = nI j := by
  have hp9 := pw9 h9
  rw [all_I h9] at c
  obtain ⟨j, h1, h2⟩ := in_nI (by omega) c.1 c.2
  have := Nat.two_pow_pos n
  exact ⟨j, by omega, h2⟩
section MF
variable {d L s : Nat} {xs : Nat → Int32} {J : Nat → Int64} {F : Nat → Nat → Int32} {K : mm_K} {h : mm_H} {n t : Nat} {sk : Nat → Nat}
theorem m_due (hn : F 75 10 = nI n) (hc : Cw n (mq F)) {S : Int32} (hk : ∀ F', CE F' (S_due F S).2 → K (some (.int (S_due F S).1)) (hH L xs J s F')) : mm_call mm_Ex (d + 5) k_X6_due [.ref 75, .int S] (hH L xs J s F) K := by
  have h9 := hc.1
  have hp9 := pw9 h9
  have en : (F 75 10).toNatClampNeg = n := by rw [hn]; exact tn_nI (by omega)
  have hx := Cx.all hn hc
  unfold S_due at hk
  dsimp only at hk
  rw [en] at hk
  refine mm_run 60 (s_isSet (And.intro (fun c => s_all hn h9 ?_) (fun c => ?_)))
  · have c := not_not_b c
    rw [if_pos c] at hk
    rw [hn] at c
    obtain ⟨j, hj, rfl⟩ := set_of h9 c
    rw [tn_nI (by omega)] at hk
    refine s_dueBy hx.1 hx.2.1 hx.2.2.1 ?_
    rw [mq_all]
    exact hk _ CE.all
  · rw [if_neg (b2i_0.mp c)] at hk
    exact hk _ CE.rf
theorem m_mark (hn : F 75 10 = nI n) (hc : Cw n (mq F)) {i kind : Int32} (hk : ∀ F', CE F' (S_mark F i kind).2 → K (some (.int (S_mark F i kind).1)) (hH L xs J s F')) : mm_call mm_Ex (d + 5) k_X6_mark [.ref 75, .int i, .int kind] (hH L xs J s F) K := by
  have h9 := hc.1
  have hp9 := pw9 h9
  have en : (F 75 10).toNatClampNeg = n := by rw [hn]; exact tn_nI (by omega)
  have hx := Cx.all hn hc
  unfold S_mark at hk
  dsimp only at hk
  rw [en] at hk
  have B : ¬ ((0 ≤ i ∧ i ≤ F 75 10 - 1) ∧ (1 ≤ kind ∧ kind ≤ 5)) → mm_Ex (d + 5) k_X6_mark 9 (0, 0) [.ref 75, .int i, .int kind] [] (hH L xs J s F) K := by
    intro c
    rw [if_neg c] at hk
    exact mm_run 5 (hk _ CE.rf)
  refine mm_run 60 (s_isRuling (And.intro (fun c => B fun q => b2i_0.mp c q.1) (fun c => s_in (And.intro (fun c2 => ⟨vpi hn h9 c, s_isOf (And.intro (fun c3 => ?_) (fun c3 => ?_))⟩) (fun c2 => B fun q => b2i_0.mp c2 q.2)))))
  · have c3' : isOfB (mq F 0 i.toNatClampNeg) kind = true := b2i_p c3
    rw [if_pos ⟨not_not_b c, not_not_b c2⟩, if_pos c3'] at hk
    rw [hn] at c
    obtain ⟨j, hj, rfl⟩ := isRu_of h9 c
    rw [tn_nI (by omega)] at hk
    refine And.intro (fun k5 => ?_) (fun k5 => s_all hn h9 (s_standsIn hx.1 hx.2.1 hx.2.2.1 hx.t31 hj ?_))
    · rw [if_neg k5] at hk
      refine And.intro (fun k1 => ?_) (fun k1 => s_depends hc hj (mm_run 5 ?_))
      · rw [if_neg k1] at hk
        refine And.intro (fun k2 => ?_) (fun k2 => s_citing hn h9 (mm_run 5 ?_))
        · rw [if_neg k2] at hk
          refine And.intro (fun k3 => s_ofItsDay hn h9 hj (mm_run 5 ?_)) (fun k3 => s_citing hn h9 (mm_run 5 ?_))
          · rw [if_neg k3] at hk
            exact hk _ CE.rf
          · rw [if_pos (k3)] at hk
            exact hk _ CE.rf
        · rw [if_pos (k2)] at hk
          exact hk _ CE.rf
      · rw [if_pos (k1)] at hk
        exact hk _ CE.rf
    · rw [if_pos (k5)] at hk
      rw [mq_all]
      exact hk _ CE.all
  · have c3' : ¬ isOfB (mq F 0 i.toNatClampNeg) kind = true := b2i_0.mp c3
    rw [if_pos ⟨not_not_b c, not_not_b c2⟩, if_neg c3'] at hk
    exact s_finds (w := 3) (by decide) (hk _ CE.rf)
theorem m_jam (hn : F 75 10 = nI n) (hc : Cw n (mq F)) (hk : ∀ F', CE F' (S_jam F).2 → K (some (.int (S_jam F).1)) (hH L xs J s F')) : mm_call mm_Ex (d + 5) k_X6_jam [.ref 75] (hH L xs J s F) K := by
  have h9 := hc.1
  have hp9 := pw9 h9
  have en : (F 75 10).toNatClampNeg = n := by rw [hn]; exact tn_nI (by omega)
  unfold S_jam at hk
  dsimp only at hk
  rw [en] at hk
  obtain ⟨p, hp'⟩ : ∃ p : Nat → Bool, p = fun e => decide (frst n (WU n (mq F) (nI e)) = -9) := ⟨_, rfl⟩
  rw [← hp'] at hk
  have hle := fa_first_le p 10
  refine mm_run 60 (lp (n := fa_first p 10) (P := fun e => ∀ x Fc, x = nI e → CE Fc F → mm_Ex (d + 5) k_X6_jam 2 (0, 0) [.ref 75, .int x] [] (hH L xs J s Fc) K) ?_ ?_ 0 _ rfl CE.rf)
  · intro x Fc hx1 hce
    subst hx1
    refine mm_run 60 (And.intro (fun q => ?_) (fun q => s_upTo (n := n) (hce.nn.trans hn) (by rw [hce.mq]; exact hc) fun hx => s_firstWay hx.1 hx.2.1 hx.2.2.1 hx.t31 ?_))
    · have q := (nI_leI (a := 10) (by decide) (by omega)).mp q
      rw [if_neg (by omega)] at hk
      exact hk _ hce
    · have hlt : fa_first p 10 < 10 := Nat.lt_of_not_le fun z => q ((nI_leI (a := 10) (by decide) (by omega)).mpr z)
      have hy := fa_first_yes p 10 hlt
      rw [if_pos hlt] at hk
      rw [mq_75, mq_all, hce.mq]
      refine And.intro (fun q2 => absurd ?_ q2) (fun _ => hk _ (CE.up19.trans hce))
      rw [hp'] at hy ⊢
      simpa using hy
  · intro e he ih x Fc hx1 hce
    subst hx1
    have hno := fa_first_no p 10 e he
    refine mm_run 60 (And.intro (fun q => absurd q (nleI (b := 10) (by omega) (by decide))) (fun q => s_upTo (n := n) (hce.nn.trans hn) (by rw [hce.mq]; exact hc) fun hx => s_firstWay hx.1 hx.2.1 hx.2.2.1 hx.t31 ?_))
    rw [mq_75, mq_all, hce.mq]
    refine And.intro (fun q2 => ih _ _ (nI_1 e) (CE.up19.trans hce)) (fun q2 => ?_)
    exfalso
    rw [hp'] at hno
    have hno : ¬ frst n (WU n (mq F) (nI e)) = -9 := by simpa using hno
    exact hno q2
theorem m_flips (hn : F 75 10 = nI n) (hc : Cw n (mq F)) {i : Int32} (hk : ∀ F', CE F' (S_flips F i).2 → K (some (.int (S_flips F i).1)) (hH L xs J s F')) : mm_call mm_Ex (d + 5) k_X6_flips [.ref 75, .int i] (hH L xs J s F) K := by
  have h9 := hc.1
  have hp9 := pw9 h9
  have en : (F 75 10).toNatClampNeg = n := by rw [hn]; exact tn_nI (by omega)
  unfold S_flips at hk
  dsimp only at hk
  rw [en] at hk
  refine mm_run 60 (s_isRuling (And.intro (fun c => ⟨vpi hn h9 c, ?_⟩) (fun c => ?_)))
  · rw [if_pos (not_not_b c)] at hk
    rw [hn] at c
    obtain ⟨j, hj, rfl⟩ := isRu_of h9 c
    rw [tn_nI (by omega)] at hk
    obtain ⟨dd, hdd, edd⟩ := (hc.2 j hj).2.1
    have edd : F 83 j = nI dd := edd
    rw [edd, tn_nI (by omega)] at hk
    obtain ⟨f, hf⟩ : ∃ f : Nat → Int32, f = fun e => isF n (mq F) j (nI e) := ⟨_, rfl⟩
    rw [← hf] at hk
    refine lp (n := 10 - dd) (P := fun e => ∀ (x a b : Int32) (w : Value) Fc, x = nI (dd + e) → a = (flp f dd e).1 → b = (flp f dd e).2 → CE Fc F → mm_Ex (d + 5) k_X6_flips 15 (0, 0) [.ref 75, .int (nI j), .int a, .int b, .int x, w] [] (hH L xs J s Fc) K) ?_ ?_ _ _ _ _ _ ?_ rfl rfl CE.rf
    · intro x a b w Fc hx1 ha hb hce
      subst hx1
      refine mm_run 60 (And.intro (fun _ => ?_) (fun q => absurd ((nI_leI (a := 10) (by decide) (by omega)).mpr (by omega)) q))
      rw [ha]
      exact hk _ hce
    · intro e he ih x a b w Fc hx1 ha hb hce
      subst hx1
      refine mm_run 60 (And.intro (fun q => absurd q (nleI (b := 10) (by omega) (by decide))) (fun q => s_upTo (n := n) (hce.nn.trans hn) (by rw [hce.mq]; exact hc) fun hx => s_findsSure hx ?_))
      obtain ⟨st, hst⟩ : ∃ st, st = stS n (tU n (mq F) (nI (dd + e)) n) (WU n (mq F) (nI (dd + e))) := ⟨_, rfl⟩
      obtain ⟨fl, hfl⟩ : ∃ fl, fl = flS n (tU n (mq F) (nI (dd + e)) n) (WU n (mq F) (nI (dd + e))) := ⟨_, rfl⟩
      rw [mq_75, mq_all, hce.mq]
      have hst' : stS n (tU n (mq F) (nI (dd + e)) n) (wayB n (mq F) (fun _ => 0) (tU n (mq F) (nI (dd + e)) n)) = st := hst.symm
      have hfl' : flS n (tU n (mq F) (nI (dd + e)) n) (wayB n (mq F) (fun _ => 0) (tU n (mq F) (nI (dd + e)) n)) = fl := hfl.symm
      rw [hst', hfl']
      obtain ⟨Fd, hFd⟩ : ∃ Fd, Fd = up2 (up2 (up2 (S_all Fc n) 75 19 (nI (tU n (mq F) (nI (dd + e)) n))) 75 25 (nI st)) 75 26 (nI fl) := ⟨_, rfl⟩
      have hcd : CE Fd F := by
        rw [hFd]
        exact (CE.up (by decide)).trans ((CE.up (by decide)).trans (CE.up19.trans hce))
      have e25 : Fd 75 25 = nI st := by rw [hFd]; rfl
      have e26 : Fd 75 26 = nI fl := by rw [hFd]; rfl
      rw [← hFd]
      have efe : f (dd + e) = if st.testBit j then 1 else if fl.testBit j then -1 else 0 := by rw [hf, hst, hfl]; rfl
      have J38 : ∀ y, y = f (dd + e) → mm_Ex (d + 5) k_X6_flips 38 (0, 0) [.ref 75, .int (nI j), .int a, .int b, .int (nI (dd + e)), w] [.int y] (hH L xs J s Fd) K := by
        intro y hy
        subst hy
        have J57 : ∀ z1 z2, z1 = (flp f dd (e + 1)).1 → z2 = (flp f dd (e + 1)).2 → mm_Ex (d + 5) k_X6_flips 57 (0, 0) [.ref 75, .int (nI j), .int z1, .int b, .int (nI (dd + e)), .int (f (dd + e))] [.int z2] (hH L xs J s Fd) K := fun z1 z2 h1 h2 => mm_run 60 (ih _ _ _ _ _ (nI_1 (dd + e)) h1 h2 hcd)
        have J50 : ∀ z, z = b2i (¬ f (dd + e) = 0 ∧ ¬ (flp f dd e).2 = 0 ∧ ¬ f (dd + e) = (flp f dd e).2) → mm_Ex (d + 5) k_X6_flips 50 (0, 0) [.ref 75, .int (nI j), .int a, .int b, .int (nI (dd + e)), .int (f (dd + e))] [.int z, .int a] (hH L xs J s Fd) K := fun z hz => by
          have e1 : a + z = (flp f dd (e + 1)).1 := by
            rw [ha, hz]
            rfl
          refine mm_run 60 (And.intro (fun q2 => J57 _ _ e1 ?_) (fun q2 => J57 _ _ e1 ?_))
          · show f (dd + e) = if f (dd + e) = 0 then _ else f (dd + e)
            rw [if_neg q2]
          · show b = if f (dd + e) = 0 then (flp f dd e).2 else f (dd + e)
            rw [if_pos (q2), hb]
        have J49 : ¬ (¬ f (dd + e) = 0 ∧ ¬ (flp f dd e).2 = 0 ∧ ¬ f (dd + e) = (flp f dd e).2) → mm_Ex (d + 5) k_X6_flips 49 (0, 0) [.ref 75, .int (nI j), .int a, .int b, .int (nI (dd + e)), .int (f (dd + e))] [.int a] (hH L xs J s Fd) K := fun q => mm_run 5 (J50 0 (b2i_f q).symm)
        refine mm_run 60 (And.intro (fun q2 => J49 fun z => z.1 q2) (fun q2 => And.intro (fun q3 => J49 fun z => z.2.1 (hb ▸ q3)) (fun q3 => And.intro (fun q4 => J49 fun z => z.2.2 (hb ▸ q4)) (fun q4 => J50 1 (b2i_t ⟨q2, hb ▸ q3, hb ▸ q4⟩).symm))))
      show mm_call mm_Ex (d + 4) k_X6_has [.int (Fd 75 25), .int (nI j)] _ _
      rw [e25]
      refine s_hasN (by omega) (And.intro (fun q2 => ?_) (fun q2 => J38 1 ?_))
      · rw [b2i_0] at q2
        show mm_call mm_Ex (d + 4) k_X6_has [.int (Fd 75 26), .int (nI j)] _ _
        rw [e26]
        refine s_hasN (by omega) (And.intro (fun q3 => J38 0 ?_) (fun q3 => J38 (-1) ?_))
        · rw [b2i_0] at q3
          rw [efe, if_neg q2, if_neg q3]
        · rw [efe, if_neg q2, if_pos (b2i_p q3)]
      · rw [efe, if_pos (b2i_p q2)]
    · show F 83 (nI j).toNatClampNeg = nI (dd + 0)
      rw [tn_nI (by omega)]
      exact edd
  · rw [if_neg (b2i_0.mp c)] at hk
    exact hk _ CE.rf
end MF
