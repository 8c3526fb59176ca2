/-! the reference: likeness, like, verdictBy, verdict, surely, freed, agrees, code -/
def likeV (a b : Nat) : Int32 := 2 * nI (oneN (a &&& b)) - nI (oneN (a ^^^ b))
def lkV (q : Rq) (m c i : Nat) : Int32 := likeV ((q 5 i).toNatClampNeg &&& c) (m &&& c)
/-- the likest of the first so many -/
def bestV (q : Rq) (m S c : Nat) : Nat → Option Nat
  | 0 => none
  | i + 1 => if S.testBit i then (match bestV q m S c i with
      | none => some i
      | some b => if lkV q m c b < lkV q m c i ∨ (lkV q m c i = lkV q m c b ∧ q 1 b ≤ q 1 i) then some i else some b) else bestV q m S c i
theorem bestV_lt {q : Rq} {m S c : Nat} : ∀ {i b : Nat}, bestV q m S c i = some b → b < i
  | 0, b, h => by cases h
  | i + 1, b, h => by
    unfold bestV at h
    split at h
    · split at h
      · cases h
        omega
      · rename_i b2 hb
        have := bestV_lt hb
        split at h
        · cases h
          omega
        · cases h
          omega
    · have := bestV_lt h
      omega
def verV (n : Nat) (q : Rq) (m S c : Nat) : Int32 := match bestV q m S c n with
  | none => 0
  | some b => q 2 b
def oI : Option Nat → Int32
  | none => -9
  | some b => nI b
/-- a sum over those with a property -/
def gI (w : Nat → Bool) (f : Nat → Int32) : Nat → Int32
  | 0 => 0
  | S + 1 => if w S then gI w f S + f S else gI w f S
def agU (n : Nat) (q : Rq) (A B : Nat) : Nat → Bool
  | 0 => true
  | c + 1 => agU n q A B c && decide (verV n q c A 31 = verV n q c B 31)
def cdN (n : Nat) (q : Rq) (W : Nat) : Nat → Nat
  | 0 => W
  | k + 1 => if (dif (W - k) W = 0 ∧ oneN (W - k) ≤ oneN (cdN n q W k)) ∧ agU n q (W - k) W 32 = true then W - k else cdN n q W k
def S_like (F : Nat → Nat → Int32) (i m : Int32) : Int32 × (Nat → Nat → Int32) :=
  if (0 ≤ i ∧ i ≤ F 75 10 - 1) ∧ (0 ≤ m ∧ m ≤ 31) then (1, S_te F (likeV (mq F 5 i.toNatClampNeg).toNatClampNeg m.toNatClampNeg)) else (-1, F)
def S_verdict (F : Nat → Nat → Int32) (m S : Int32) : Int32 × (Nat → Nat → Int32) :=
  if (0 ≤ m ∧ m ≤ 31) ∧ (0 ≤ S ∧ S ≤ (1 : Int32) <<< (F 75 10 &&& 31) - 1) then (verV (F 75 10).toNatClampNeg (mq F) m.toNatClampNeg S.toNatClampNeg 31, F) else (-1, F)
def S_surely (F : Nat → Nat → Int32) (m : Int32) : Int32 × (Nat → Nat → Int32) :=
  let n := (F 75 10).toNatClampNeg
  let g := gI (W0 F n) (fun S => verV n (mq F) m.toNatClampNeg S 31) (2 ^ n)
  let k := nI (fa_cnt (W0 F n) (2 ^ n))
  if 0 ≤ m ∧ m ≤ 31 then (if k = 0 then (-3, S_fi F 4) else (if g = k then 1 else if g = 0 then 0 else -9, S_te F g)) else (-1, F)
def S_freed (F : Nat → Nat → Int32) (m : Int32) : Int32 × (Nat → Nat → Int32) :=
  let n := (F 75 10).toNatClampNeg
  let W := fa_first (W0 F n) (2 ^ n)
  if 0 ≤ m ∧ m ≤ 4 then (if W < 2 ^ n then (nI (fa_cnt (fun c => decide (verV n (mq F) c W 31 = 1) && decide (verV n (mq F) c W (dif 31 (2 ^ m.toNatClampNeg)) = 0)) 32), F) else (-3, S_fi F 4)) else (-1, F)
def S_code (F : Nat → Nat → Int32) : Int32 × (Nat → Nat → Int32) :=
  let n := (F 75 10).toNatClampNeg
  let W := fa_first (W0 F n) (2 ^ n)
  if W < 2 ^ n then (nI (oneN (cdN n (mq F) W (W + 1))), S_te F (nI (cdN n (mq F) W (W + 1)))) else (-3, S_fi F 4)
section MV
variable {d L s : Nat} {xs : Nat → Int32} {J : Nat → Int64} {F : Nat → Nat → Int32} {K : mm_K} {h : mm_H} {n t : Nat} {sk : Nat → Nat}
theorem s_likeness {a b : Nat} (hk : K (some (.int (likeV a b))) h) : mm_call mm_Ex (d + 1) k_X6_likeness [.int (nI a), .int (nI b)] h K := by
  refine mm_run 60 ?_
  show mm_call mm_Ex d k_X6_ones [.int (nI a &&& nI b)] _ _
  rw [fa_and]
  refine s_ones ?_
  show mm_call mm_Ex d k_X6_ones [.int (nI a ^^^ nI b)] _ _
  rw [xorI]
  exact s_ones hk
theorem m_like (hn : F 75 10 = nI n) (hc : Cw n (mq F)) {i m : Int32} (hk : K (some (.int (S_like F i m).1)) (hH L xs J s (S_like F i m).2)) : mm_call mm_Ex (d + 2) k_X6_like [.ref 75, .int i, .int m] (hH L xs J s F) K := by
  have h9 := hc.1
  unfold S_like at hk
  have B : ¬ ((0 ≤ i ∧ i ≤ F 75 10 - 1) ∧ (0 ≤ m ∧ m ≤ 31)) → mm_Ex (d + 2) k_X6_like 18 (0, 0) [.ref 75, .int i, .int m] [] (hH L xs J s F) K := by
    intro c
    rw [if_neg c] at hk
    exact mm_run 5 (mm_run 5 hk)
  refine mm_run 60 (s_isRuling (And.intro (fun c => B fun q => b2i_0.mp c q.1) (fun c => s_in (And.intro (fun c2 => B fun q => b2i_0.mp c2 q.2) (fun c2 => ⟨vpi hn h9 c, ?_⟩)))))
  rw [if_pos ⟨not_not_b c, not_not_b c2⟩] at hk
  rw [hn] at c
  obtain ⟨j, hj, rfl⟩ := isRu_of h9 c
  obtain ⟨k, hk31, rfl⟩ := in_nI (n := 31) (by decide) (not_not_b c2).1 (not_not_b c2).2
  have ej : (nI j).toNatClampNeg = j := tn_nI (by omega)
  rw [ej, tn_nI (n := k) (by omega)] at hk
  obtain ⟨mm, hmm, em⟩ := (hc.2 j hj).2.2.2.2
  rw [em, tn_nI (n := mm) (by omega)] at hk
  have em : F 87 j = nI mm := em
  show mm_call mm_Ex (d + 1) k_X6_likeness [.int (F 87 (nI j).toNatClampNeg), .int (nI k)] _ _
  rw [ej, em]
  exact s_likeness (s_tells (mm_run 5 hk))
theorem s_verdictBy (hn : F 75 10 = nI n) (hc : Cw n (mq F)) {m S c : Nat} (hk : K (some (.int (verV n (mq F) m S c))) (hH L xs J s F)) : mm_call mm_Ex (d + 2) k_X6_verdictBy [.ref 75, .int (nI m), .int (nI S), .int (nI c)] (hH L xs J s F) K := by
  have h9 := hc.1
  have hmk : ∀ i, i < n → F 87 i = nI (mq F 5 i).toNatClampNeg := fun i hi => by
    obtain ⟨mm, hmm, em⟩ := (hc.2 i hi).2.2.2.2
    rw [em, tn_nI (by omega)]
    exact em
  refine mm_run 60 (lp (n := n) (P := fun i => ∀ (x a : Int32) (w6 w7 w8 : Value), x = nI i → a = oI (bestV (mq F) m S c i) → mm_Ex (d + 2) k_X6_verdictBy 4 (0, 0) [.ref 75, .int (nI m), .int (nI S), .int (nI c), .int a, .int x, w6, w7, w8] [] (hH L xs J s F) K) ?_ ?_ _ _ _ _ _ rfl rfl)
  · intro x a w6 w7 w8 hx ha
    subst hx
    unfold verV at hk
    refine mm_run 60 (And.intro (fun _ => ?_) (fun q => absurd ?_ q))
    · cases hb : bestV (mq F) m S c n with
      | none =>
        rw [hb] at hk ha
        refine And.intro (fun q => absurd ha q) (fun _ => mm_run 5 hk)
      | some b =>
        rw [hb] at hk ha
        have hbl := bestV_lt hb
        have ha : a = nI b := ha
        subst ha
        have hv : vp_in (nI b) 9 := vp_in_nI (by omega) (by decide)
        refine And.intro (fun _ => ⟨hv, mm_run 5 ?_⟩) (fun q => absurd q ?_)
        · show K (some (.int (F 84 (nI b).toNatClampNeg))) _
          rw [tn_nI (by omega)]
          exact hk
        · intro z
          have := nle0 (n := b) (by omega)
          rw [z] at this
          exact absurd this (by decide)
    · show F 75 10 ≤ nI n
      rw [hn]
      exact (nI_leI (by omega) (by omega)).mpr (Nat.le_refl n)
  · intro i hi ih x a w6 w7 w8 hx ha
    subst hx
    have ei : (nI i).toNatClampNeg = i := tn_nI (by omega)
    have hv : vp_in (nI i) 9 := vp_in_nI (by omega) (by decide)
    have J67 : ∀ (a' : Int32) (w6 w7 w8 : Value), a' = oI (bestV (mq F) m S c (i + 1)) → mm_Ex (d + 2) k_X6_verdictBy 67 (0, 0) [.ref 75, .int (nI m), .int (nI S), .int (nI c), .int a', .int (nI i), w6, w7, w8] [] (hH L xs J s F) K := fun a' w6 w7 w8 e => mm_run 60 (ih _ _ _ _ _ (nI_1 i) e)
    refine mm_run 60 (And.intro (fun q => ?_) (fun q => s_hasN (by omega) (And.intro (fun q2 => J67 _ _ _ _ ?_) (fun q2 => ⟨hv, ?_⟩))))
    · have q : F 75 10 ≤ nI i := q
      rw [hn] at q
      exact absurd q (nleI hi (by omega))
    · rw [b2i_0] at q2
      rw [ha, bestV, if_neg q2]
    · have q2 := b2i_p q2
      show mm_call mm_Ex (d + 1) k_X6_likeness [.int (F 87 (nI i).toNatClampNeg &&& nI c), .int (nI m &&& nI c)] _ _
      rw [ei, hmk i hi, fa_and, fa_and]
      refine s_likeness ?_
      have J60 : ∀ (y : Int32) (w6 : Value) (w7 : Int32) (w8 : Value), (y = 0 → a = oI (bestV (mq F) m S c (i + 1))) → (¬ y = 0 → nI i = oI (bestV (mq F) m S c (i + 1))) → mm_Ex (d + 2) k_X6_verdictBy 60 (0, 0) [.ref 75, .int (nI m), .int (nI S), .int (nI c), .int a, .int (nI i), w6, .int w7, w8] [.int y] (hH L xs J s F) K := fun y w6 w7 w8 h0 h1 => by
        refine mm_run 60 ?_
        refine (And.intro (fun z => ?_) (fun z => ?_))
        · show mm_Ex _ _ 66 _ _ _ _ _
          exact mm_run 5 (J67 _ _ _ _ (h0 z))
        · show mm_Ex _ _ 66 _ _ _ _ _
          exact mm_run 5 (J67 _ _ _ _ (h1 z))
      have J57 : ∀ (w6 : Value) (w7 : Int32) (w8 : Value), nI i = oI (bestV (mq F) m S c (i + 1)) → mm_Ex (d + 2) k_X6_verdictBy 57 (0, 0) [.ref 75, .int (nI m), .int (nI S), .int (nI c), .int a, .int (nI i), w6, .int w7, w8] [] (hH L xs J s F) K := fun w6 w7 w8 e => mm_run 5 (J60 1 _ _ _ (fun z => absurd z (by decide)) (fun _ => e))
      have J59 : ∀ (w6 : Value) (w7 : Int32) (w8 : Value), a = oI (bestV (mq F) m S c (i + 1)) → mm_Ex (d + 2) k_X6_verdictBy 59 (0, 0) [.ref 75, .int (nI m), .int (nI S), .int (nI c), .int a, .int (nI i), w6, .int w7, w8] [] (hH L xs J s F) K := fun w6 w7 w8 e => mm_run 5 (J60 0 _ _ _ (fun _ => e) (fun z => absurd rfl z))
      cases hb : bestV (mq F) m S c i with
      | none =>
        rw [hb] at ha
        have e1 : bestV (mq F) m S c (i + 1) = some i := by rw [bestV, if_pos q2, hb]
        refine And.intro (fun z => absurd ha z) (fun z => ?_)
        show mm_Ex _ _ 38 _ _ _ _ _
        refine mm_run 60 (And.intro (fun z2 => J57 _ _ _ ?_) (fun z2 => absurd ha z2))
        rw [e1]
        rfl
      | some b =>
        rw [hb] at ha
        have hbl := bestV_lt hb
        have ha : a = nI b := ha
        subst ha
        have eb : (nI b).toNatClampNeg = b := tn_nI (by omega)
        have hvb : vp_in (nI b) 9 := vp_in_nI (by omega) (by decide)
        have hne : ¬ nI b = -9 := by
          intro z
          have := nle0 (n := b) (by omega)
          rw [z] at this
          exact absurd this (by decide)
        have e1 : bestV (mq F) m S c (i + 1) = if lkV (mq F) m c b < lkV (mq F) m c i ∨ (lkV (mq F) m c i = lkV (mq F) m c b ∧ mq F 1 b ≤ mq F 1 i) then some i else some b := by rw [bestV, if_pos q2, hb]
        refine And.intro (fun z => ⟨hvb, ?_⟩) (fun z => absurd z hne)
        show mm_call mm_Ex (d + 1) k_X6_likeness [.int (F 87 (nI b).toNatClampNeg &&& nI c), .int (nI m &&& nI c)] _ _
        rw [eb, hmk b (by omega), fa_and, fa_and]
        refine s_likeness ?_
        show mm_Ex _ _ 38 _ _ _ _ _
        refine mm_run 60 (And.intro (fun z2 => absurd z2 hne) (fun _ => And.intro (fun g1 => J57 _ _ _ ?_) (fun g1 => And.intro (fun g2 => J59 _ _ _ ?_) (fun g2 => ⟨hv, hvb, And.intro (fun g3 => J59 _ _ _ ?_) (fun g3 => J57 _ _ _ ?_)⟩))))
        · have g1 : lkV (mq F) m c b < lkV (mq F) m c i := g1
          rw [e1, if_pos (Or.inl g1)]
          rfl
        · have g1 : ¬ lkV (mq F) m c b < lkV (mq F) m c i := g1
          have g2 : ¬ lkV (mq F) m c i = lkV (mq F) m c b := g2
          rw [e1, if_neg (fun z => z.elim g1 (fun z => g2 z.1))]
          rfl
        · have g1 : ¬ lkV (mq F) m c b < lkV (mq F) m c i := g1
          have g3 : F 83 (nI i).toNatClampNeg < F 83 (nI b).toNatClampNeg := g3
          rw [ei, eb] at g3
          rw [e1, if_neg (fun z => z.elim g1 (fun z => Int32.not_le.mpr g3 z.2))]
          rfl
        · have g2 : lkV (mq F) m c i = lkV (mq F) m c b := g2
          have g3 : ¬ F 83 (nI i).toNatClampNeg < F 83 (nI b).toNatClampNeg := g3
          rw [ei, eb] at g3
          rw [e1, if_pos (Or.inr ⟨g2, Int32.not_lt.mp g3⟩)]
          rfl
theorem m_verdict (hn : F 75 10 = nI n) (hc : Cw n (mq F)) {m S : Int32} (hk : K (some (.int (S_verdict F m S).1)) (hH L xs J s (S_verdict F m S).2)) : mm_call mm_Ex (d + 3) k_X6_verdict [.ref 75, .int m, .int S] (hH L xs J s F) K := by
  have h9 := hc.1
  have hp9 := pw9 h9
  have en : (F 75 10).toNatClampNeg = n := by rw [hn]; exact tn_nI (by omega)
  unfold S_verdict at hk
  rw [en] at hk
  have B : ¬ ((0 ≤ m ∧ m ≤ 31) ∧ (0 ≤ S ∧ S ≤ (1 : Int32) <<< (F 75 10 &&& 31) - 1)) → mm_Ex (d + 3) k_X6_verdict 15 (0, 0) [.ref 75, .int m, .int S] [] (hH L xs J s F) K := by
    intro c
    rw [if_neg c] at hk
    exact mm_run 5 (mm_run 5 hk)
  refine mm_run 60 (s_in (And.intro (fun c => B fun q => b2i_0.mp c q.1) (fun c => s_isSet (And.intro (fun c2 => B fun q => b2i_0.mp c2 q.2) (fun c2 => ?_)))))
  rw [if_pos ⟨not_not_b c, not_not_b c2⟩] at hk
  have c2 := not_not_b c2
  rw [hn] at c2
  obtain ⟨j, hj, rfl⟩ := set_of h9 c2
  obtain ⟨k, hk31, rfl⟩ := in_nI (n := 31) (by decide) (not_not_b c).1 (not_not_b c).2
  rw [tn_nI (n := j) (by omega), tn_nI (n := k) (by omega)] at hk
  exact s_verdictBy (c := 31) hn hc (mm_run 5 hk)
theorem m_surely (hn : F 75 10 = nI n) (hc : Cw n (mq F)) {m : Int32} (hk : ∀ F', CE F' (S_surely F m).2 → K (some (.int (S_surely F m).1)) (hH L xs J s F')) : mm_call mm_Ex (d + 5) k_X6_surely [.ref 75, .int m] (hH L xs J s F) K := by
  have h9 := hc.1
  have hp9 := pw9 h9
  have en : (F 75 10).toNatClampNeg = n := by rw [hn]; exact tn_nI (by omega)
  have hx := Cx.all hn hc
  have hpw := pwI hx.1 h9
  unfold S_surely at hk
  dsimp only at hk
  rw [en] at hk
  obtain ⟨w, hw⟩ : ∃ w, wayB n (mq F) (fun _ => 0) (2 ^ n - 1) = w := ⟨_, rfl⟩
  rw [show W0 F n = w from hw] at hk
  refine mm_run 60 (s_in (And.intro (fun c => s_all hn h9 ?_) (fun c => ?_)))
  · rw [if_pos (not_not_b c)] at hk
    obtain ⟨k, hk31, rfl⟩ := in_nI (n := 31) (by decide) (not_not_b c).1 (not_not_b c).2
    rw [tn_nI (n := k) (by omega)] at hk
    obtain ⟨f, hf⟩ : ∃ f : Nat → Int32, (fun S => verV n (mq F) k S 31) = f := ⟨_, rfl⟩
    rw [hf] at hk
    refine lp (n := 2 ^ n) (P := fun S => ∀ x a b, x = nI S → a = nI (fa_cnt w S) → b = gI w f S → mm_Ex (d + 5) k_X6_surely 15 (0, 0) [.ref 75, .int (nI k), .int a, .int b, .int x] [] (hH L xs J s (S_all F n)) K) ?_ ?_ 0 0 0 rfl rfl rfl
    · intro x a b hx1 ha hb
      subst hx1
      rw [← ha, ← hb] at hk
      refine mm_run 60 (And.intro (fun _ => And.intro (fun q => ?_) (fun q => ?_)) (fun q => absurd ?_ q))
      · rw [if_neg q] at hk
        have hk2 := hk _ ((CE.all (F := F) (n := n)).set 7 b)
        have e : (93, mU (hH L xs J s (S_all F n)).2 75 _) = hH L xs J s (up2 (S_all F n) 75 7 b) := hp1 (g := upd ((S_all F n) 75) 7 b) rfl
        refine And.intro (fun q2 => And.intro (fun q3 => ?_) (fun q3 => ?_)) (fun q2 => ?_)
        · rw [if_neg q2, if_neg q3] at hk2
          exact mm_run 5 (kh e hk2)
        · rw [if_neg q2, if_pos q3] at hk2
          exact mm_run 5 (kh e hk2)
        · rw [if_pos q2] at hk2
          exact mm_run 5 (kh e hk2)
      · rw [if_pos q] at hk
        exact s_finds (w := 4) (by decide) (hk _ (CE.all.fi 4))
      · show (1 : Int32) <<< ((S_all F n) 75 10 &&& 31) ≤ nI (2 ^ n)
        rw [hpw]
        exact (nI_leI (by omega) (by omega)).mpr (Nat.le_refl _)
    · intro S hS ih x a b hx1 ha hb
      subst hx1
      have J34 : ∀ a b, a = nI (fa_cnt w (S + 1)) → b = gI w f (S + 1) → mm_Ex (d + 5) k_X6_surely 34 (0, 0) [.ref 75, .int (nI k), .int a, .int b, .int (nI S)] [] (hH L xs J s (S_all F n)) K := fun a b h1 h2 => mm_run 60 (ih _ _ _ (nI_1 S) h1 h2)
      refine mm_run 60 (And.intro (fun q => ?_) (fun q => s_isWay hx.1 hx.2.1 hx.2.2.1 hx.t31 (by omega) ?_))
      · have q : (1 : Int32) <<< ((S_all F n) 75 10 &&& 31) ≤ nI S := q
        rw [hpw] at q
        exact absurd q (nleI hS (by omega))
      · rw [mq_all, hw]
        refine And.intro (fun q2 => J34 _ _ ?_ ?_) (fun q2 => s_verdictBy (c := 31) hx.1 hx.2.1 (J34 _ _ ?_ ?_))
        · rw [b2i_0] at q2
          rw [ha, fa_cnt_no (by simpa using q2)]
        · rw [b2i_0] at q2
          rw [hb, gI, if_neg q2]
        · rw [ha, fa_cnt_yes (b2i_p q2)]
          exact nI_1 _
        · rw [hb, gI, if_pos (b2i_p q2), mq_all, ← hf]
  · rw [if_neg (b2i_0.mp c)] at hk
    exact hk _ CE.rf
theorem m_freed (hn : F 75 10 = nI n) (hc : Cw n (mq F)) {m : Int32} (hk : ∀ F', CE F' (S_freed F m).2 → K (some (.int (S_freed F m).1)) (hH L xs J s F')) : mm_call mm_Ex (d + 5) k_X6_freed [.ref 75, .int m] (hH L xs J s F) K := by
  have h9 := hc.1
  have hp9 := pw9 h9
  have en : (F 75 10).toNatClampNeg = n := by rw [hn]; exact tn_nI (by omega)
  have hx := Cx.all hn hc
  unfold S_freed at hk
  dsimp only at hk
  rw [en] at hk
  obtain ⟨w, hw⟩ : ∃ w, wayB n (mq F) (fun _ => 0) (2 ^ n - 1) = w := ⟨_, rfl⟩
  rw [show W0 F n = w from hw] at hk
  refine mm_run 60 (s_in (And.intro (fun c => s_all hn h9 (s_firstWay hx.1 hx.2.1 hx.2.2.1 hx.t31 ?_)) (fun c => ?_)))
  · rw [if_pos (not_not_b c)] at hk
    obtain ⟨k, hk4, rfl⟩ := in_nI (n := 4) (by decide) (not_not_b c).1 (not_not_b c).2
    rw [tn_nI (n := k) (by omega)] at hk
    rw [mq_all, hw]
    obtain ⟨W, hW⟩ : ∃ W, fa_first w (2 ^ n) = W := ⟨_, rfl⟩
    unfold frst
    rw [hW] at hk ⊢
    by_cases hlt : W < 2 ^ n
    · rw [if_pos hlt] at hk
      rw [if_pos hlt]
      refine And.intro (fun _ => ?_) (fun z => absurd z ?_)
      · refine lp (n := 32) (P := fun c => ∀ x a, x = nI c → a = nI (0 + fa_cnt (fun c => decide (verV n (mq F) c W 31 = 1) && decide (verV n (mq F) c W (dif 31 (2 ^ k)) = 0)) c) → mm_Ex (d + 5) k_X6_freed 23 (0, 0) [.ref 75, .int (nI k), .int (nI W), .int a, .int x] [] (hH L xs J s (S_all F n)) K) ?_ ?_ 0 0 rfl rfl
        · intro x a hx1 ha
          subst hx1
          rw [Nat.zero_add] at ha
          rw [ha]
          exact mm_run 60 (And.intro (fun _ => hk _ CE.all) (fun q => absurd (show (32 : Int32) ≤ nI 32 by decide) q))
        · intro e he ih x a hx1 ha
          subst hx1
          have J49 : ∀ y, y = b2i ((decide (verV n (mq F) e W 31 = 1) && decide (verV n (mq F) e W (dif 31 (2 ^ k)) = 0)) = true) → mm_Ex (d + 5) k_X6_freed 49 (0, 0) [.ref 75, .int (nI k), .int (nI W), .int a, .int (nI e)] [.int y, .int a] (hH L xs J s (S_all F n)) K := fun y hy => by
            refine mm_run 60 (ih _ _ (nI_1 e) ?_)
            rw [ha, hy]
            exact nI_b 0 (fun c => decide (verV n (mq F) c W 31 = 1) && decide (verV n (mq F) c W (dif 31 (2 ^ k)) = 0)) e
          have J48 : ¬ (decide (verV n (mq F) e W 31 = 1) && decide (verV n (mq F) e W (dif 31 (2 ^ k)) = 0)) = true → mm_Ex (d + 5) k_X6_freed 48 (0, 0) [.ref 75, .int (nI k), .int (nI W), .int a, .int (nI e)] [.int a] (hH L xs J s (S_all F n)) K := fun q => mm_run 5 (J49 0 (b2i_f q).symm)
          refine mm_run 60 (And.intro (fun q => absurd q (nleI (b := 32) he (by decide))) (fun _ => s_verdictBy (c := 31) hx.1 hx.2.1 ?_))
          rw [mq_all]
          refine And.intro (fun q2 => J48 ?_) (fun q2 => ?_)
          · simp [q2]
          · show mm_call mm_Ex (d + 4) k_X6_verdictBy [.ref 75, .int (nI e), .int (nI W), .int (nI 31 &&& ((1 : Int32) <<< (nI k &&& 31) ^^^ (-1)))] _ _
            rw [shl1 (by omega), difI]
            refine s_verdictBy hx.1 hx.2.1 ?_
            rw [mq_all]
            refine And.intro (fun q3 => J48 ?_) (fun q3 => J49 1 (b2i_t ?_).symm)
            · simp [q3]
            · simp [q2, q3]
      · intro z
        have := nle0 (n := W) (by omega)
        rw [z] at this
        exact absurd this (by decide)
    · rw [if_neg hlt] at hk
      rw [if_neg hlt]
      exact And.intro (fun z => absurd rfl z) (fun _ => s_finds (w := 4) (by decide) (hk _ (CE.all.fi 4)))
  · rw [if_neg (b2i_0.mp c)] at hk
    exact hk _ CE.rf
theorem s_agrees (hn : F 75 10 = nI n) (hc : Cw n (mq F)) {A B : Nat} (hk : K (some (.int (b2i (agU n (mq F) A B 32 = true)))) (hH L xs J s F)) : mm_call mm_Ex (d + 3) k_X6_agrees [.ref 75, .int (nI A), .int (nI B)] (hH L xs J s F) K := by
  refine mm_run 60 (lp (n := 32) (P := fun c => ∀ x a, x = nI c → a = b2i (agU n (mq F) A B c = true) → mm_Ex (d + 3) k_X6_agrees 4 (0, 0) [.ref 75, .int (nI A), .int (nI B), .int a, .int x] [] (hH L xs J s F) K) ?_ ?_ 0 1 rfl rfl)
  · intro x a hx ha
    subst hx
    rw [ha]
    exact mm_run 60 (And.intro (fun _ => ⟨b2i_01, hk⟩) (fun q => absurd (show (32 : Int32) ≤ nI 32 by decide) q))
  · intro e he ih x a hx ha
    subst hx
    have J23 : ∀ y, y = b2i (agU n (mq F) A B (e + 1) = true) → mm_Ex (d + 3) k_X6_agrees 23 (0, 0) [.ref 75, .int (nI A), .int (nI B), .int a, .int (nI e)] [.int y] (hH L xs J s F) K := fun y hy => mm_run 60 (ih _ _ (nI_1 e) hy)
    have J22 : ¬ agU n (mq F) A B (e + 1) = true → mm_Ex (d + 3) k_X6_agrees 22 (0, 0) [.ref 75, .int (nI A), .int (nI B), .int a, .int (nI e)] [] (hH L xs J s F) K := fun q => mm_run 5 (J23 0 (b2i_f q).symm)
    refine mm_run 60 (And.intro (fun q => absurd q (nleI (b := 32) he (by decide))) (fun _ => And.intro (fun q2 => J22 ?_) (fun q2 => s_verdictBy (c := 31) hn hc (s_verdictBy (c := 31) hn hc (And.intro (fun q3 => J22 ?_) (fun q3 => J23 1 (b2i_t ?_).symm))))))
    · rw [ha, b2i_0] at q2
      simp [agU, q2]
    · simp [agU, q3]
    · rw [ha] at q2
      simp [agU, b2i_p q2, q3]
theorem m_code (hn : F 75 10 = nI n) (hc : Cw n (mq F)) (hk : ∀ F', CE F' (S_code F).2 → K (some (.int (S_code F).1)) (hH L xs J s F')) : mm_call mm_Ex (d + 5) k_X6_code [.ref 75] (hH L xs J s F) K := by
  have h9 := hc.1
  have hp9 := pw9 h9
  have en : (F 75 10).toNatClampNeg = n := by rw [hn]; exact tn_nI (by omega)
  have hx := Cx.all hn hc
  unfold S_code at hk
  dsimp only at hk
  rw [en] at hk
  obtain ⟨w, hw⟩ : ∃ w, wayB n (mq F) (fun _ => 0) (2 ^ n - 1) = w := ⟨_, rfl⟩
  rw [show W0 F n = w from hw] at hk
  refine mm_run 60 (s_all hn h9 (s_firstWay hx.1 hx.2.1 hx.2.2.1 hx.t31 ?_))
  rw [mq_all, hw]
  obtain ⟨W, hW⟩ : ∃ W, fa_first w (2 ^ n) = W := ⟨_, rfl⟩
  unfold frst
  rw [hW] at hk ⊢
  by_cases hlt : W < 2 ^ n
  · rw [if_pos hlt] at hk
    rw [if_pos hlt]
    refine And.intro (fun _ => ?_) (fun z => absurd z ?_)
    · refine lp (n := W + 1) (P := fun k => ∀ (x a : Int32) (w4 : Value), (x + nI k = nI W) → a = nI (cdN n (mq F) W k) → mm_Ex (d + 5) k_X6_code 16 (0, 0) [.ref 75, .int (nI W), .int a, .int x, w4] [] (hH L xs J s (S_all F n)) K) ?_ ?_ _ _ _ (Int32.add_zero _) rfl
      · intro x a w4 hx1 ha
        have hx2 : x = -1 := (Int32.add_left_inj (nI (W + 1))).mp (hx1.trans ((Int32.add_comm _ _).trans (pk_m1 W)).symm)
        subst hx2
        rw [ha]
        refine mm_run 60 (And.intro (fun _ => ?_) (fun q => absurd (show (-1 : Int32) < 0 by decide) q))
        refine kc (hp1 (g := upd ((S_all F n) 75) 7 (nI (cdN n (mq F) W (W + 1)))) rfl) (s_ones ?_)
        exact hk _ (CE.all.set 7 _)
      · intro k hk1 ih x a w4 hx1 ha
        have hx2 : x = nI (W - k) := by
          have e := nI_add (W - k) k
          rw [Nat.sub_add_cancel (by omega), ← hx1] at e
          exact ((Int32.add_left_inj _).mp e).symm
        subst hx2
        have J43 : ∀ (y : Int32) (w4 : Value), y = nI (cdN n (mq F) W (k + 1)) → mm_Ex (d + 5) k_X6_code 43 (0, 0) [.ref 75, .int (nI W), .int a, .int (nI (W - k)), w4] [.int y] (hH L xs J s (S_all F n)) K := fun y w4 hy => by
          refine mm_run 60 (ih _ _ _ ?_ hy)
          rw [← hx1, ← nI_1 k]
          show nI (W - k) + (-1) + (nI k + 1) = _
          rw [Int32.add_comm (nI k) 1, ← Int32.add_assoc, Int32.add_assoc (nI (W - k)) (-1) 1]
          show nI (W - k) + 0 + nI k = _
          rw [Int32.add_zero]
        have J42 : ∀ (w4 : Value), ¬ ((dif (W - k) W = 0 ∧ oneN (W - k) ≤ oneN (cdN n (mq F) W k)) ∧ agU n (mq F) (W - k) W 32 = true) → mm_Ex (d + 5) k_X6_code 42 (0, 0) [.ref 75, .int (nI W), .int a, .int (nI (W - k)), w4] [] (hH L xs J s (S_all F n)) K := fun w4 q => mm_run 5 (J43 _ _ (by rw [ha, cdN, if_neg q]))
        have J32 : ∀ (y : Int32), y = b2i (dif (W - k) W = 0 ∧ oneN (W - k) ≤ oneN (cdN n (mq F) W k)) → mm_Ex (d + 5) k_X6_code 32 (0, 0) [.ref 75, .int (nI W), .int a, .int (nI (W - k)), w4] [.int y] (hH L xs J s (S_all F n)) K := fun y hy => by
          refine mm_run 60 (And.intro (fun q => J42 _ ?_) (fun q => s_agrees hx.1 hx.2.1 (And.intro (fun q2 => J42 _ ?_) (fun q2 => J43 _ _ ?_))))
          · rw [hy, b2i_0] at q
            exact fun z => q z.1
          · rw [b2i_0, mq_all] at q2
            exact fun z => q2 z.2
          · rw [mq_all] at q2
            rw [hy] at q
            rw [cdN, if_pos ⟨b2i_p q, b2i_p q2⟩]
        have J31 : ¬ (dif (W - k) W = 0 ∧ oneN (W - k) ≤ oneN (cdN n (mq F) W k)) → mm_Ex (d + 5) k_X6_code 31 (0, 0) [.ref 75, .int (nI W), .int a, .int (nI (W - k)), w4] [] (hH L xs J s (S_all F n)) K := fun q => mm_run 5 (J32 0 (b2i_f q).symm)
        have hdl : dif (W - k) W < 2 ^ n := dif_le _ _ (by omega)
        have h1 := oneN_le (W - k)
        have h2 := oneN_le (cdN n (mq F) W k)
        refine mm_run 60 (And.intro (fun q => ?_) (fun _ => And.intro (fun q2 => J31 ?_) (fun q2 => s_ones ?_)))
        · exact absurd q (nI_pos (by omega))
        · have q2 : ¬ nI (W - k) &&& (nI W ^^^ (-1)) = 0 := q2
          rw [difI] at q2
          exact fun z => q2 (by rw [z.1]; rfl)
        · have q2 : nI (W - k) &&& (nI W ^^^ (-1)) = 0 := q2
          rw [difI] at q2
          have q2 := (nI_eq (b := 0) (by omega) (by decide)).mp q2
          rw [ha]
          refine s_ones ?_
          rw [ha] at J31 J32
          refine And.intro (fun q3 => J31 ?_) (fun q3 => J32 1 (b2i_t ?_).symm)
          · have q3 := (nI_ltI (by omega) (by omega)).mp q3
            exact fun z => absurd z.2 (by omega)
          · exact ⟨q2, Nat.le_of_not_lt fun z => q3 ((nI_ltI (by omega) (by omega)).mpr z)⟩
    · intro z
      have := nle0 (n := W) (by omega)
      rw [z] at this
      exact absurd this (by decide)
  · rw [if_neg hlt] at hk
    rw [if_neg hlt]
    exact And.intro (fun z => absurd rfl z) (fun _ => s_finds (w := 4) (by decide) (hk _ (CE.all.fi 4)))
end MV
