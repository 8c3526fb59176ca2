/-! the reference: ones, otherwise, matter, judge -/
theorem bitI {s k : Nat} (hk : k < 31) : (nI s >>> (nI k &&& 31)) &&& 1 = b2i (s.testBit k = true) := by
  by_cases h : s.testBit k = true
  · rw [b2i_t h]
    exact (hasI hk).mpr h
  · rw [b2i_f h]
    have h1 : ∀ i, i < 32 → bt ((nI s >>> (nI k &&& 31)) &&& 1) i = bt 0 i := by
      intro i hi
      rw [b_and, b_sshr k (by omega) _ hi, b_0]
      have e1 : bt 1 i = decide (i = 0) := by
        have : ∀ i, i < 32 → bt 1 i = decide (i = 0) := by decide +kernel
        exact this i hi
      rw [e1]
      by_cases h0 : i = 0
      · subst h0
        rw [if_pos (by omega), bt_nI]
        simp [h]
      · simp [h0]
    exact b_ext h1
theorem xorI (a b : Nat) : nI a ^^^ nI b = nI (a ^^^ b) := by
  apply b_ext
  intro i hi
  rw [b_xor, bt_nI, bt_nI, bt_nI, Nat.testBit_xor]
  cases a.testBit i <;> cases b.testBit i <;> simp [hi]
/-- how many of the first nine bits -/
def oneN (x : Nat) : Nat := fa_cnt (fun k => x.testBit k) 9
theorem oneN_le (x : Nat) : oneN x ≤ 9 := fa_cnt_le _ _
/-- what else is sure, without some -/
def othN (n : Nat) (q : Rq) (out : Nat) : Nat :=
  let t := dif (2 ^ n - 1) out
  let w := wayB n q (fun _ => 0) (2 ^ n - 1)
  let w2 := wayB n q (fun _ => 0) t
  oneN (((stS n (2 ^ n - 1) w ^^^ stS n t w2) ||| (flS n (2 ^ n - 1) w ^^^ flS n t w2)) &&& t)
def S_matter (F : Nat → Nat → Int32) (i : Int32) : Int32 × (Nat → Nat → Int32) :=
  if 0 ≤ i ∧ i ≤ F 75 10 - 1 then (nI (othN (F 75 10).toNatClampNeg (mq F) (2 ^ i.toNatClampNeg)), F) else (-1, F)
def dyS (n : Nat) (q : Rq) (e : Nat) : Nat := setB (fun i => decide (q 1 i = nI e)) n
def jdV (n : Nat) (q : Rq) (e : Nat) : Int32 := if dyS n q e = 0 then -9 else nI (othN n q (dyS n q e))
def jdN (n : Nat) (q : Rq) : Nat → Int32 × Int32
  | 0 => (-9, -9)
  | e + 1 => (if (jdN n q e).2 < jdV n q e then nI e else (jdN n q e).1, if (jdN n q e).2 < jdV n q e then jdV n q e else (jdN n q e).2)
def S_judge (F : Nat → Nat → Int32) : Int32 × (Nat → Nat → Int32) :=
  let n := (F 75 10).toNatClampNeg
  if F 75 10 = 0 then (-4, F) else ((jdN n (mq F) 10).1, S_te F (jdN n (mq F) 10).2)
section MJ
variable {d L s : Nat} {xs : Nat → Int32} {J : Nat → Int64} {F : Nat → Nat → Int32} {K : mm_K} {h : mm_H} {n t : Nat} {sk : Nat → Nat}
theorem s_ones {x : Nat} (hk : K (some (.int (nI (oneN x)))) h) : mm_call mm_Ex d k_X6_ones [.int (nI x)] h K := by
  refine mm_run 60 (lp (n := 9) (P := fun k => ∀ y a, y = nI k → a = nI (0 + fa_cnt (fun k => x.testBit k) k) → mm_Ex d k_X6_ones 4 (0, 0) [.int (nI x), .int a, .int y] [] h K) ?_ ?_ 0 0 rfl rfl)
  · intro y a hy ha
    rw [Nat.zero_add] at ha
    subst hy ha
    exact mm_run 60 (And.intro (fun _ => hk) (fun q => absurd (show (9 : Int32) ≤ nI 9 by decide) q))
  · intro k hk9 ih y a hy ha
    subst hy
    refine mm_run 60 (And.intro (fun q => absurd q (nleI (b := 9) hk9 (by decide))) (fun _ => ih _ _ (nI_1 k) ?_))
    rw [bitI (by omega), ha]
    exact nI_b 0 (fun k => x.testBit k) k
theorem s_otherwise (hn : F 75 10 = nI n) (hc : Cw n (mq F)) {out : Nat} (hk : ∀ F', CE F' F → K (some (.int (nI (othN n (mq F) out)))) (hH L xs J s F')) : mm_call mm_Ex (d + 5) k_X6_otherwise [.ref 75, .int (nI out)] (hH L xs J s F) K := by
  have h9 := hc.1
  have hp9 := pw9 h9
  have hpp := Nat.two_pow_pos n
  have hx := Cx.all hn hc
  have ht : dif (2 ^ n - 1) out < 2 ^ n := dif_le _ _ (by omega)
  refine mm_run 60 (s_all hn h9 (s_findsSure hx ?_))
  rw [mq_all]
  obtain ⟨st, hst⟩ : ∃ st, stS n (2 ^ n - 1) (wayB n (mq F) (fun _ => 0) (2 ^ n - 1)) = st := ⟨_, rfl⟩
  obtain ⟨fl, hfl⟩ : ∃ fl, flS n (2 ^ n - 1) (wayB n (mq F) (fun _ => 0) (2 ^ n - 1)) = fl := ⟨_, rfl⟩
  rw [hst, hfl]
  obtain ⟨G, hG⟩ : ∃ G, G = up2 (up2 (S_all F n) 75 25 (nI st)) 75 26 (nI fl) := ⟨_, rfl⟩
  rw [← hG]
  have e25 : G 75 25 = nI st := by rw [hG]; rfl
  have e26 : G 75 26 = nI fl := by rw [hG]; rfl
  have hxG : Cx G n (2 ^ n - 1) (fun _ => 0) := by
    rw [hG]
    exact (hx.up (by decide) (by decide)).up (by decide) (by decide)
  have hcG : CE G F := by
    rw [hG]
    exact (CE.up (by decide)).trans ((CE.up (by decide)).trans CE.all)
  have e19 : G 75 19 &&& (nI out ^^^ (-1)) = nI (dif (2 ^ n - 1) out) := by
    rw [hxG.2.2.1.1]
    exact difI _ _
  have hx2 : Cx (up2 G 75 19 (nI (dif (2 ^ n - 1) out))) n (dif (2 ^ n - 1) out) (fun _ => 0) := ⟨hxG.1, by rw [mq_75]; exact hxG.2.1, ⟨rfl, hxG.2.2.1.2⟩, ht⟩
  show mm_call mm_Ex (d + 4) k_X6_findsSure [.ref 75] _ _
  refine kc ((hp1 (g := upd (G 75) 19 (G 75 19 &&& (nI out ^^^ (-1)))) rfl).trans (hHx fun a => ?_)) (s_findsSure hx2 ?_)
  · show up2 G 75 19 (G 75 19 &&& (nI out ^^^ (-1))) a = up2 G 75 19 (nI (dif (2 ^ n - 1) out)) a
    rw [e19]
  · rw [mq_75, hcG.mq]
    show mm_call mm_Ex (d + 4) k_X6_ones [.int (((G 75 25 ^^^ nI _) ||| (G 75 26 ^^^ nI _)) &&& nI (dif (2 ^ n - 1) out))] _ _
    rw [e25, e26, xorI, xorI, fa_or, fa_and]
    refine s_ones ?_
    have : othN n (mq F) out = oneN (((st ^^^ stS n (dif (2 ^ n - 1) out) (wayB n (mq F) (fun _ => 0) (dif (2 ^ n - 1) out))) ||| (fl ^^^ flS n (dif (2 ^ n - 1) out) (wayB n (mq F) (fun _ => 0) (dif (2 ^ n - 1) out)))) &&& dif (2 ^ n - 1) out) := by
      rw [← hst, ← hfl]
      rfl
    rw [← this]
    exact hk _ ((CE.up (by decide)).trans ((CE.up (by decide)).trans ((CE.up (by decide)).trans hcG)))
theorem m_matter (hn : F 75 10 = nI n) (hc : Cw n (mq F)) {i : Int32} (hk : ∀ F', CE F' (S_matter F i).2 → K (some (.int (S_matter F i).1)) (hH L xs J s F')) : mm_call mm_Ex (d + 6) k_X6_matter [.ref 75, .int i] (hH L xs J s F) K := by
  have h9 := hc.1
  have en : (F 75 10).toNatClampNeg = n := by rw [hn]; exact tn_nI (by omega)
  unfold S_matter at hk
  rw [en] at hk
  refine mm_run 60 (s_isRuling (And.intro (fun c => ?_) (fun c => ?_)))
  · rw [if_neg (b2i_0.mp c)] at hk
    exact mm_run 5 (hk _ CE.rf)
  · rw [if_pos (not_not_b c)] at hk
    rw [hn] at c
    obtain ⟨j, hj, rfl⟩ := isRu_of h9 c
    rw [tn_nI (by omega)] at hk
    show mm_call mm_Ex (d + 5) k_X6_otherwise [.ref 75, .int ((1 : Int32) <<< (nI j &&& 31))] _ _
    rw [shl1 (by omega)]
    exact s_otherwise hn hc fun F' hF => mm_run 5 (hk _ hF)
theorem setI (p : Nat → Bool) (i : Nat) : nI (setB p i) ||| (if p i = true then nI (2 ^ i) else 0) = nI (setB p (i + 1)) := by
  rw [setB]
  by_cases h : p i = true
  · rw [if_pos h, if_pos h, fa_or]
  · rw [if_neg h, if_neg h]
    exact fa_or _ 0
theorem m_judge (hn : F 75 10 = nI n) (hc : Cw n (mq F)) (hk : ∀ F', CE F' (S_judge F).2 → K (some (.int (S_judge F).1)) (hH L xs J s F')) : mm_call mm_Ex (d + 6) k_X6_judge [.ref 75] (hH L xs J s F) K := by
  have h9 := hc.1
  have hp9 := pw9 h9
  have en : (F 75 10).toNatClampNeg = n := by rw [hn]; exact tn_nI (by omega)
  unfold S_judge at hk
  dsimp only at hk
  rw [en] at hk
  refine mm_run 60 (And.intro (fun c => ?_) (fun c => ?_))
  · have c : ¬ F 75 10 = 0 := c
    rw [if_neg c] at hk
    refine lp (n := 10) (P := fun e => ∀ (x a b : Int32) (w1 w2 : Value) Fc, x = nI e → a = (jdN n (mq F) e).1 → b = (jdN n (mq F) e).2 → CE Fc F → mm_Ex (d + 6) k_X6_judge 11 (0, 0) [.ref 75, .int a, .int b, .int x, w1, w2] [] (hH L xs J s Fc) K) ?_ ?_ _ _ _ _ _ _ rfl rfl rfl CE.rf
    · intro x a b w1 w2 Fc hx ha hb hce
      subst hx
      refine mm_run 60 (And.intro (fun _ => ?_) (fun q => absurd (show (10 : Int32) ≤ nI 10 by decide) q))
      rw [ha]
      refine kh (hp1 (g := upd (Fc 75) 7 b) rfl) (hk _ ?_)
      rw [hb]
      exact hce.set 7 _
    · intro e he ih x a b w1 w2 Fc hx ha hb hce
      subst hx
      have hnc := hce.nn.trans hn
      have hmc := hce.mq
      refine mm_run 60 (And.intro (fun q => absurd q (nleI (b := 10) he (by decide))) (fun _ => ?_))
      have J45 : ∀ y (w : Value) Fd, y = jdV n (mq F) e → CE Fd F → mm_Ex (d + 6) k_X6_judge 45 (0, 0) [.ref 75, .int a, .int b, .int (nI e), .int (nI (dyS n (mq F) e)), w] [.int y] (hH L xs J s Fd) K := by
        intro y w Fd hy hcd
        subst hy
        have J59 : ∀ z1 z2, z1 = (jdN n (mq F) (e + 1)).1 → z2 = (jdN n (mq F) (e + 1)).2 → mm_Ex (d + 6) k_X6_judge 59 (0, 0) [.ref 75, .int z1, .int b, .int (nI e), .int (nI (dyS n (mq F) e)), .int (jdV n (mq F) e)] [.int z2] (hH L xs J s Fd) K := fun z1 z2 h1 h2 => mm_run 60 (ih _ _ _ _ _ _ (nI_1 e) h1 h2 hcd)
        have J52 : ∀ z1, z1 = (jdN n (mq F) (e + 1)).1 → mm_Ex (d + 6) k_X6_judge 52 (0, 0) [.ref 75, .int a, .int b, .int (nI e), .int (nI (dyS n (mq F) e)), .int (jdV n (mq F) e)] [.int z1] (hH L xs J s Fd) K := fun z1 h1 => by
          refine mm_run 60 (And.intro (fun q => J59 _ _ h1 ?_) (fun q => J59 _ _ h1 ?_))
          · rw [jdN, ← hb]
            exact (if_neg (Int32.not_lt.mpr q)).symm
          · rw [jdN, ← hb]
            exact (if_pos (Int32.not_le.mp q)).symm
        refine mm_run 60 (And.intro (fun q => J52 _ ?_) (fun q => J52 _ ?_))
        · rw [jdN, ← hb, if_neg (Int32.not_lt.mpr q), ha]
        · rw [jdN, ← hb, if_pos (Int32.not_le.mp q)]
      refine lp (n := n) (P := fun i => ∀ x2 o, x2 = nI i → o = nI (setB (fun i => decide (mq F 1 i = nI e)) i) → mm_Ex (d + 6) k_X6_judge 18 (0, 0) [.ref 75, .int a, .int b, .int (nI e), .int o, .int x2] [] (hH L xs J s Fc) K) ?_ ?_ 0 0 rfl rfl
      · intro x2 o hx2 ho
        subst hx2
        have hdl : dyS n (mq F) e < 2 ^ n := setB_lt _ _
        have ho : o = nI (dyS n (mq F) e) := ho
        subst ho
        refine mm_run 60 (And.intro (fun _ => And.intro (fun q2 => ?_) (fun q2 => ?_)) (fun q => absurd ?_ q))
        · refine s_otherwise hnc (by rw [hmc]; exact hc) fun F' hF => J45 _ _ _ ?_ (hF.trans hce)
          rw [hmc, jdV, if_neg]
          intro z
          rw [z] at q2
          exact q2 rfl
        · refine J45 _ _ _ ?_ hce
          rw [jdV, if_pos]
          exact (nI_eq (b := 0) (by omega) (by decide)).mp q2
        · show Fc 75 10 ≤ nI n
          rw [hnc]
          exact (nI_leI (by omega) (by omega)).mpr (Nat.le_refl n)
      · intro i hi ih2 x2 o hx2 ho
        subst hx2
        have ei : (nI i).toNatClampNeg = i := tn_nI (by omega)
        have em : Fc 83 i = mq F 1 i := congrFun (congrFun hmc 1) i
        have J34 : ∀ y, y = (if (fun i => decide (mq F 1 i = nI e)) i = true then nI (2 ^ i) else 0) → mm_Ex (d + 6) k_X6_judge 34 (0, 0) [.ref 75, .int a, .int b, .int (nI e), .int o, .int (nI i)] [.int y, .int o] (hH L xs J s Fc) K := fun y hy => by
          refine mm_run 60 (ih2 _ _ (nI_1 i) ?_)
          rw [hy, ho]
          exact setI _ i
        refine mm_run 60 (And.intro (fun q => ?_) (fun q => ⟨vp_in_nI (by omega) (by decide), And.intro (fun q2 => J34 _ ?_) (fun q2 => J34 _ ?_)⟩))
        · have q : Fc 75 10 ≤ nI i := q
          rw [hnc] at q
          exact absurd q (nleI hi (by omega))
        · have q2 : ¬ Fc 83 (nI i).toNatClampNeg = nI e := q2
          rw [ei, em] at q2
          rw [if_neg (by simpa using q2)]
        · have q2 : Fc 83 (nI i).toNatClampNeg = nI e := q2
          rw [ei, em] at q2
          rw [if_pos (by simpa using q2), shl1 (by omega)]
  · have c : F 75 10 = 0 := c
    rw [if_pos c] at hk
    exact hk _ CE.rf
end MJ
