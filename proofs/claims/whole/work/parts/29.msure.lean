/-! the reference: what is sure, ways told -/
/-- the reference's court, who is there, what is against whom -/
def Cx (F : Nat → Nat → Int32) (n t : Nat) (sk : Nat → Nat) : Prop := F 75 10 = nI n ∧ Cw n (mq F) ∧ G_t F t sk ∧ t < 2 ^ n
theorem mq_75 {F : Nat → Nat → Int32} {j : Nat} {x : Int32} : mq (up2 F 75 j x) = mq F := mq_up (by decide)
theorem Cx.up {F : Nat → Nat → Int32} {n t : Nat} {sk : Nat → Nat} (h : Cx F n t sk) {j : Nat} {x : Int32} (h1 : j ≠ 10) (h2 : j ≠ 19) : Cx (up2 F 75 j x) n t sk := by
  obtain ⟨a, b, c, e⟩ := h
  refine ⟨?_, by rw [mq_75]; exact b, ⟨?_, c.2⟩, e⟩
  · show upd (F 75) j x 10 = _
    rw [pk_un (Ne.symm h1)]
    exact a
  · show upd (F 75) j x 19 = _
    rw [pk_un (Ne.symm h2)]
    exact c.1
theorem Cx.all {F : Nat → Nat → Int32} {n : Nat} (hn : F 75 10 = nI n) (hc : Cw n (mq F)) : Cx (S_all F n) n (2 ^ n - 1) (fun _ => 0) := by
  have hm : mq (S_all F n) = mq F := by
    unfold S_all
    rw [mq_up (by decide), mq_75]
  refine ⟨hn, by rw [hm]; exact hc, ⟨rfl, fun i hi => ⟨?_, Nat.zero_le _⟩⟩, ?_⟩
  · show fil (F 90) 0 9 0 i = _
    unfold fil
    rw [if_pos (by omega)]
    rfl
  · have := Nat.two_pow_pos n
    omega
theorem Cx.t31 {F : Nat → Nat → Int32} {n t : Nat} {sk : Nat → Nat} (h : Cx F n t sk) : t < 2 ^ 31 := by
  have := pw9 h.2.1.1
  have := h.2.2.2
  omega
theorem CE.trans {F G H : Nat → Nat → Int32} (a : CE F G) (b : CE G H) : CE F H := ⟨fun k h1 h2 h3 h4 h5 => (a.1 k h1 h2 h3 h4 h5).trans (b.1 k h1 h2 h3 h4 h5), fun j h1 h2 h3 h4 h5 => (a.2 j h1 h2 h3 h4 h5).trans (b.2 j h1 h2 h3 h4 h5)⟩
theorem CE.up {F : Nat → Nat → Int32} {j : Nat} {x : Int32} (h : j = 19 ∨ j = 21 ∨ j = 22 ∨ j = 25 ∨ j = 26) : CE (up2 F 75 j x) F := by
  refine ⟨fun k h1 _ _ _ _ => ?_, fun i h1 h2 h3 h4 h5 => ?_⟩
  · simp only [up2, upF, if_neg h1]
  · show upd (F 75) j x i = _
    rw [pk_un (by omega)]
theorem CE.set {F G : Nat → Nat → Int32} (h : CE F G) (j : Nat) (x : Int32) : CE (up2 F 75 j x) (up2 G 75 j x) := by
  refine ⟨fun k h1 h2 h3 h4 h5 => ?_, fun i h1 h2 h3 h4 h5 => ?_⟩
  · simp only [up2, upF, if_neg h1]
    exact h.1 k h1 h2 h3 h4 h5
  · show upd (F 75) j x i = upd (G 75) j x i
    unfold upd
    split
    · rfl
    · exact h.2 i h1 h2 h3 h4 h5
theorem CE.all {F : Nat → Nat → Int32} {n : Nat} : CE (S_all F n) F := by
  refine ⟨fun k h1 h2 h3 h4 h5 => ?_, fun i h1 h2 h3 h4 h5 => ?_⟩
  · simp only [S_all, up2, upF, if_neg h1, if_neg h3]
  · show upd (F 75) 19 _ i = _
    rw [pk_un h1]
theorem CE.fi {F G : Nat → Nat → Int32} (h : CE F G) (w : Nat) : CE (S_fi F w) (S_fi G w) := by
  have e81 : F 81 = G 81 := h.1 81 (by decide) (by decide) (by decide) (by decide) (by decide)
  refine ⟨fun k h1 h2 h3 h4 h5 => ?_, fun i h1 h2 h3 h4 h5 => ?_⟩
  · simp only [S_fi, up2, upF, if_neg h1]
    split
    · show upd (F 81) w (F 81 w + 1) = upd (G 81) w (G 81 w + 1)
      rw [e81]
    · exact h.1 k h1 h2 h3 h4 h5
  · show upd (F 75) 5 (nI w) i = upd (G 75) 5 (nI w) i
    unfold upd
    split
    · rfl
    · exact h.2 i h1 h2 h3 h4 h5
/-- what all ways have; what none has -/
def stN (t : Nat) (w : Nat → Bool) : Nat → Nat
  | 0 => t
  | N + 1 => if w N then stN t w N &&& N else stN t w N
def flN (t : Nat) (w : Nat → Bool) : Nat → Nat
  | 0 => t
  | N + 1 => if w N then dif (flN t w N) N else flN t w N
def stS (n t : Nat) (w : Nat → Bool) : Nat := if anyB w (2 ^ n) then stN t w (2 ^ n) else 0
def flS (n t : Nat) (w : Nat → Bool) : Nat := if anyB w (2 ^ n) then flN t w (2 ^ n) else 0
theorem stN_lt {t n : Nat} {w : Nat → Bool} (h : t < 2 ^ n) : ∀ N, stN t w N < 2 ^ n
  | 0 => h
  | N + 1 => by
    have := stN_lt h (w := w) N
    unfold stN
    split
    · exact Nat.lt_of_le_of_lt Nat.and_le_left this
    · exact this
theorem flN_lt {t n : Nat} {w : Nat → Bool} (h : t < 2 ^ n) : ∀ N, flN t w N < 2 ^ n
  | 0 => h
  | N + 1 => by
    have := flN_lt h (w := w) N
    unfold flN
    split
    · exact dif_le _ _ this
    · exact this
def S_ways (F : Nat → Nat → Int32) : Int32 × (Nat → Nat → Int32) :=
  let n := (F 75 10).toNatClampNeg
  (nI (fa_cnt (wayB n (mq F) (fun _ => 0) (2 ^ n - 1)) (2 ^ n)), S_te F (frst n (wayB n (mq F) (fun _ => 0) (2 ^ n - 1))))
/-- the i-th of those with a property below N -/
def nthN (w : Nat → Bool) (i : Int32) (N : Nat) : Option Nat := (List.range N).find? (fun S => w S && decide (nI (fa_cnt w S) = i))
def S_sure (F : Nat → Nat → Int32) : Int32 × (Nat → Nat → Int32) :=
  let n := (F 75 10).toNatClampNeg
  (nI (stS n (2 ^ n - 1) (wayB n (mq F) (fun _ => 0) (2 ^ n - 1))), S_te F (nI (flS n (2 ^ n - 1) (wayB n (mq F) (fun _ => 0) (2 ^ n - 1)))))
section MS
variable {d L s : Nat} {xs : Nat → Int32} {J : Nat → Int64} {F : Nat → Nat → Int32} {K : mm_K} {h : mm_H} {n t : Nat} {sk : Nat → Nat}
theorem s_findsSure (hx : Cx F n t sk) (hk : K none (hH L xs J s (up2 (up2 F 75 25 (nI (stS n t (wayB n (mq F) sk t)))) 75 26 (nI (flS n t (wayB n (mq F) sk t)))))) : mm_call mm_Ex (d + 4) k_X6_findsSure [.ref 75] (hH L xs J s F) K := by
  have h9 := hx.2.1.1
  have hp9 := pw9 h9
  have hpw := pwI hx.1 h9
  obtain ⟨w, hw⟩ : ∃ w, w = wayB n (mq F) sk t := ⟨_, rfl⟩
  rw [← hw] at hk
  have ecell : ∀ a b c e : Int32, up2 (up2 (up2 (up2 F 75 25 a) 75 26 b) 75 25 c) 75 26 e = up2 (up2 F 75 25 c) 75 26 e := by
    intro a b c e
    funext x y
    simp only [up2, upF]
    by_cases hx : x = 75
    · subst hx
      simp only [if_true, upd]
      by_cases y26 : y = 26
      · subst y26
        rfl
      · by_cases y25 : y = 25
        · subst y25
          rfl
        · simp [y25, y26]
    · simp [hx]
  refine mm_run 60 ?_
  refine lp (n := 2 ^ n) (P := fun S => ∀ x a h, x = nI S → a = b2i (anyB w S = true) → h = hH L xs J s (up2 (up2 F 75 25 (nI (stN t w S))) 75 26 (nI (flN t w S))) → mm_Ex (d + 4) k_X6_findsSure 12 (0, 0) [.ref 75, .int a, .int x] [] h K) ?_ ?_ 0 0 _ rfl rfl ?_
  · intro x a h hxx ha hh
    subst hxx hh
    have J55 : ∀ y, y = nI (flS n t w) → mm_Ex (d + 4) k_X6_findsSure 55 (0, 0) [.ref 75, .int a, .int (nI (2 ^ n))] [.int y, .ref 75] (hH L xs J s (up2 (up2 (up2 F 75 25 (nI (stN t w (2 ^ n)))) 75 26 (nI (flN t w (2 ^ n)))) 75 25 (nI (stS n t w)))) K := fun y hy => by
      subst hy
      refine mm_run 60 ?_
      refine kh ((hp1 (g := upd ((up2 (up2 (up2 F 75 25 (nI (stN t w (2 ^ n)))) 75 26 (nI (flN t w (2 ^ n)))) 75 25 (nI (stS n t w))) 75) 26 (nI (flS n t w))) rfl).trans (hHx fun z => ?_)) hk
      exact congrFun (ecell _ _ _ _) z
    have J47 : ∀ y, y = nI (stS n t w) → mm_Ex (d + 4) k_X6_findsSure 47 (0, 0) [.ref 75, .int a, .int (nI (2 ^ n))] [.int y, .ref 75] (hH L xs J s (up2 (up2 F 75 25 (nI (stN t w (2 ^ n)))) 75 26 (nI (flN t w (2 ^ n))))) K := fun y hy => by
      subst hy
      refine mm_run 60 (And.intro (fun q => ?_) (fun q => ?_))
      · show mm_Ex _ _ 55 _ _ _ _ _
        refine kx (hp1 (g := upd ((up2 (up2 F 75 25 (nI (stN t w (2 ^ n)))) 75 26 (nI (flN t w (2 ^ n)))) 75) 25 (nI (stS n t w))) rfl) (J55 0 ?_)
        rw [ha, b2i_0] at q
        unfold flS
        rw [if_neg q]
        rfl
      · show mm_Ex _ _ 55 _ _ _ _ _
        refine kx (hp1 (g := upd ((up2 (up2 F 75 25 (nI (stN t w (2 ^ n)))) 75 26 (nI (flN t w (2 ^ n)))) 75) 25 (nI (stS n t w))) rfl) (J55 _ ?_)
        rw [ha] at q
        unfold flS
        rw [if_pos (b2i_p q)]
        rfl
    refine mm_run 60 (And.intro (fun _ => And.intro (fun q => J47 0 ?_) (fun q => J47 _ ?_)) (fun c => absurd ?_ c))
    · rw [ha, b2i_0] at q
      unfold stS
      rw [if_neg q]
      rfl
    · rw [ha] at q
      unfold stS
      rw [if_pos (b2i_p q)]
      rfl
    · show (1 : Int32) <<< (F 75 10 &&& 31) ≤ nI (2 ^ n)
      rw [hpw]
      exact (nI_leI (by omega) (by omega)).mpr (Nat.le_refl _)
  · intro S hS ih x a h hxx ha hh
    subst hxx hh
    have hx2 : Cx (up2 (up2 F 75 25 (nI (stN t w S))) 75 26 (nI (flN t w S))) n t sk := (hx.up (by decide) (by decide)).up (by decide) (by decide)
    have ew : wayB n (mq (up2 (up2 F 75 25 (nI (stN t w S))) 75 26 (nI (flN t w S)))) sk t = w := by rw [mq_75, mq_75, hw]
    refine mm_run 60 (And.intro (fun q => ?_) (fun q => s_isWay hx2.1 hx2.2.1 hx2.2.2.1 hx2.t31 (by omega) ?_))
    · have q : (1 : Int32) <<< (F 75 10 &&& 31) ≤ nI S := q
      rw [hpw] at q
      exact absurd q (nleI hS (by omega))
    · rw [ew]
      have J38 : ∀ a, a = b2i (anyB w (S + 1) = true) → mm_Ex (d + 4) k_X6_findsSure 38 (0, 0) [.ref 75, .int a, .int (nI S)] [] (hH L xs J s (up2 (up2 F 75 25 (nI (stN t w (S + 1)))) 75 26 (nI (flN t w (S + 1))))) K := fun a ha => mm_run 60 (ih _ _ _ (nI_1 S) ha rfl)
      refine And.intro (fun q2 => ?_) (fun q2 => ?_)
      · rw [b2i_0] at q2
        have e1 : stN t w (S + 1) = stN t w S := by rw [stN, if_neg q2]
        have e2 : flN t w (S + 1) = flN t w S := by rw [flN, if_neg q2]
        have e3 : anyB w (S + 1) = anyB w S := by
          rw [anyB]
          simp [q2]
        rw [e1, e2, e3] at J38
        exact J38 a ha
      · have q2 := b2i_p q2
        have e1 : stN t w (S + 1) = stN t w S &&& S := by rw [stN, if_pos q2]
        have e2 : flN t w (S + 1) = dif (flN t w S) S := by rw [flN, if_pos q2]
        have e3 : anyB w (S + 1) = true := by
          rw [anyB, q2]
          simp
        show mm_Ex _ _ 38 _ _ _ _ _
        refine kx ?_ (J38 1 (by rw [e3]; rfl))
        refine (hp2 (g := upd ((up2 (up2 F 75 25 (nI (stN t w S))) 75 26 (nI (flN t w S))) 75) 25 (nI (stN t w S) &&& nI S)) (g2 := upd (upd ((up2 (up2 F 75 25 (nI (stN t w S))) 75 26 (nI (flN t w S))) 75) 25 (nI (stN t w S) &&& nI S)) 26 (nI (flN t w S) &&& (nI S ^^^ (-1)))) rfl rfl).trans (hHx fun z => ?_)
        rw [e1, e2, ← fa_and, ← difI]
        exact congrFun (ecell _ _ _ _) z
  · exact (hp2 (g := upd (F 75) 25 (F 75 19)) (g2 := upd (upd (F 75) 25 (F 75 19)) 26 (F 75 19)) rfl rfl).trans (hHx fun z => by
      rw [hx.2.2.1.1]
      rfl)
theorem m_ways (hn : F 75 10 = nI n) (hc : Cw n (mq F)) (hk : ∀ F', CE F' (S_ways F).2 → K (some (.int (S_ways F).1)) (hH L xs J s F')) : mm_call mm_Ex (d + 5) k_X6_ways [.ref 75] (hH L xs J s F) K := by
  have h9 := hc.1
  have en : (F 75 10).toNatClampNeg = n := by rw [hn]; exact tn_nI (by omega)
  have hx := Cx.all hn hc
  have hm : mq (S_all F n) = mq F := by
    unfold S_all
    rw [mq_up (by decide), mq_75]
  unfold S_ways at hk
  dsimp only at hk
  rw [en] at hk
  refine mm_run 60 (s_all hn h9 (s_firstWay hx.1 hx.2.1 hx.2.2.1 hx.t31 ?_))
  rw [hm]
  have hx2 := hx.up (j := 7) (x := frst n (wayB n (mq F) (fun _ => 0) (2 ^ n - 1))) (by decide) (by decide)
  refine kc (hp1 (g := upd ((S_all F n) 75) 7 (frst n (wayB n (mq F) (fun _ => 0) (2 ^ n - 1)))) rfl) (s_wayMany hx2.1 hx2.2.1 hx2.2.2.1 hx2.t31 ?_)
  have hm2 : mq (upF (S_all F n) 75 (upd ((S_all F n) 75) 7 (frst n (wayB n (mq F) (fun _ => 0) (2 ^ n - 1))))) = mq F := by rw [mq_up (by decide), hm]
  rw [hm2]
  exact hk _ (CE.all.set 7 _)
theorem m_sure (hn : F 75 10 = nI n) (hc : Cw n (mq F)) (hk : ∀ F', CE F' (S_sure F).2 → K (some (.int (S_sure F).1)) (hH L xs J s F')) : mm_call mm_Ex (d + 5) k_X6_sure [.ref 75] (hH L xs J s F) K := by
  have h9 := hc.1
  have en : (F 75 10).toNatClampNeg = n := by rw [hn]; exact tn_nI (by omega)
  have hx := Cx.all hn hc
  have hm : mq (S_all F n) = mq F := by
    unfold S_all
    rw [mq_up (by decide), mq_75]
  unfold S_sure at hk
  dsimp only at hk
  rw [en] at hk
  refine mm_run 60 (s_all hn h9 (s_findsSure hx ?_))
  rw [hm]
  show K (some (.int (nI (stS n (2 ^ n - 1) (wayB n (mq F) (fun _ => 0) (2 ^ n - 1)))))) _
  refine kh (hp1 (g := upd ((up2 (up2 (S_all F n) 75 25 (nI (stS n (2 ^ n - 1) (wayB n (mq F) (fun _ => 0) (2 ^ n - 1))))) 75 26 (nI (flS n (2 ^ n - 1) (wayB n (mq F) (fun _ => 0) (2 ^ n - 1))))) 75) 7 (nI (flS n (2 ^ n - 1) (wayB n (mq F) (fun _ => 0) (2 ^ n - 1))))) rfl) (hk _ ?_)
  exact (((CE.up (by decide)).trans (CE.up (by decide))).trans CE.all).set 7 _
end MS
