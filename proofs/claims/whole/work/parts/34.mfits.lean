/-! the reference: kinds, forged, torn -/
/-- one ruling of another kind -/
def qk (q : Rq) (j : Nat) (v : Int32) : Rq := fun a i => if a = 0 ∧ i = j then v else q a i
theorem mq_82 {F : Nat → Nat → Int32} {j : Nat} {v : Int32} : mq (up2 F 82 j v) = qk (mq F) j v := by
  funext a i
  unfold qk
  by_cases h0 : a = 0
  · subst h0
    show upd (F 82) j v i = if 0 = 0 ∧ i = j then v else F 82 i
    unfold upd
    by_cases h : i = j
    · rw [if_pos h, if_pos ⟨rfl, h⟩]
    · rw [if_neg h, if_neg (fun z => h z.2)]
  · rw [if_neg (fun z => h0 z.1)]
    match a, h0 with
    | 1, _ => rfl
    | 2, _ => rfl
    | 3, _ => rfl
    | 4, _ => rfl
    | 5, _ => rfl
    | a + 6, _ => rfl
theorem Cw_qk {n : Nat} {q : Rq} {j k : Nat} (h : Cw n q) (hk : k ≤ 5) : Cw n (qk q j (nI k)) := by
  refine ⟨h.1, fun i hi => ?_⟩
  obtain ⟨h0, h1, h2, h3, h4⟩ := h.2 i hi
  have e : ∀ a i, ¬ a = 0 → qk q j (nI k) a i = q a i := fun a i ha => if_neg (fun z => ha z.1)
  refine ⟨?_, ?_, ?_, ?_, ?_⟩
  · by_cases hij : i = j
    · exact ⟨k, hk, if_pos ⟨rfl, hij⟩⟩
    · obtain ⟨k', a, b⟩ := h0
      exact ⟨k', a, (if_neg (fun z => hij z.2)).trans b⟩
  · rw [e 1 i (by decide)]
    exact h1
  · rw [e 2 i (by decide)]
    exact h2
  · rw [e 3 i (by decide), e 4 i (by decide), e 1 i (by decide)]
    rcases h3 with h3 | ⟨j', a, b, c, dd⟩
    · exact Or.inl h3
    · exact Or.inr ⟨j', a, b, c, by rw [e 1 j' (by decide)]; exact dd⟩
  · rw [e 5 i (by decide)]
    exact h4
def kdB (n : Nat) (q : Rq) (j S k : Nat) : Bool := wayB n (qk q j (nI k)) (fun _ => 0) (2 ^ n - 1) S
def S_kinds (F : Nat → Nat → Int32) (i S : Int32) : Int32 × (Nat → Nat → Int32) :=
  if (0 ≤ i ∧ i ≤ F 75 10 - 1) ∧ (0 ≤ S ∧ S ≤ (1 : Int32) <<< (F 75 10 &&& 31) - 1) then (nI (setB (kdB (F 75 10).toNatClampNeg (mq F) i.toNatClampNeg S.toNatClampNeg) 6), F) else (-1, F)
def fgS (n : Nat) (q : Rq) (S f : Nat) : Nat := setB (fun i => dueB n q (fun _ => 0) (S &&& (2 ^ n - 1)) i (q 0 i) (if i = f then -9 else q 3 i) (nI f)) n
def fgB (n : Nat) (q : Rq) (S f : Nat) : Bool := !decide (q 3 f = -9) && decide (fgS n q S f = S)
def S_forged (F : Nat → Nat → Int32) (S : Int32) : Int32 × (Nat → Nat → Int32) :=
  let n := (F 75 10).toNatClampNeg
  if 0 ≤ S ∧ S ≤ (1 : Int32) <<< (F 75 10 &&& 31) - 1 then (nI (setB (fgB n (mq F) S.toNatClampNeg) n), F) else (-1, F)
def tnB (w : Nat → Bool) (seen S : Nat) : Nat → Bool := fun x => decide ((x ^^^ S) &&& seen = 0) && w x
def S_torn (F : Nat → Nat → Int32) (seen S : Int32) : Int32 × (Nat → Nat → Int32) :=
  let n := (F 75 10).toNatClampNeg
  let p := tnB (W0 F n) seen.toNatClampNeg S.toNatClampNeg
  if (0 ≤ seen ∧ seen ≤ (1 : Int32) <<< (F 75 10 &&& 31) - 1) ∧ (0 ≤ S ∧ S ≤ (1 : Int32) <<< (F 75 10 &&& 31) - 1) then (nI (fa_cnt p (2 ^ n)), S_te F (frst n p)) else (-1, F)
theorem cnt_0 {p : Nat → Bool} : ∀ {k : Nat}, fa_cnt p k = 0 ↔ ∀ j, j < k → p j = false
  | 0 => ⟨fun _ j hj => absurd hj (by omega), fun _ => rfl⟩
  | k + 1 => by
    have ih := cnt_0 (p := p) (k := k)
    by_cases h : p k = true
    · rw [fa_cnt_yes h]
      refine ⟨fun z => absurd z (by omega), fun z => ?_⟩
      have := z k (by omega)
      rw [h] at this
      cases this
    · have h := (Bool.not_eq_true _).mp h
      rw [fa_cnt_no h, ih]
      refine ⟨fun z j hj => ?_, fun z j hj => z j (by omega)⟩
      by_cases e : j = k
      · rw [e]
        exact h
      · exact z j (by omega)
theorem first_eq {p : Nat → Bool} {N k : Nat} (hk : k < N) (h : p k = true) (h0 : ∀ j, j < k → p j = false) : fa_first p N = k := by
  have h1 : ¬ k < fa_first p N := fun z => by
    have := fa_first_no p N k z
    rw [h] at this
    cases this
  have h2 : ¬ fa_first p N < k := fun z => by
    have := fa_first_yes p N (by omega)
    rw [h0 _ z] at this
    cases this
  omega
theorem first_N {p : Nat → Bool} {N : Nat} (h : ∀ j, j < N → p j = false) : fa_first p N = N := by
  have h1 := fa_first_le p N
  have h2 : ¬ fa_first p N < N := fun z => by
    have := fa_first_yes p N z
    rw [h _ z] at this
    cases this
  omega
theorem up2_id {F : Nat → Nat → Int32} {k j : Nat} : up2 F k j (F k j) = F := by
  unfold up2
  rw [fa_upd_same rfl, upF_id]
theorem up2_2 {F : Nat → Nat → Int32} {k j : Nat} {a b : Int32} : up2 (up2 F k j a) k j b = up2 F k j b := by
  unfold up2
  rw [upF_same]
  congr 1
  show upd (upF F k (upd (F k) j a) k) j b = _
  have : upF F k (upd (F k) j a) k = upd (F k) j a := if_pos rfl
  rw [this]
  exact fa_upd_twice _ _ _ _
theorem up2_at {F : Nat → Nat → Int32} {k j : Nat} {a : Int32} : up2 F k j a k j = a := by
  unfold up2 upF
  rw [if_pos rfl]
  exact pk_us
theorem up2_h {L : Nat} {xs : Nat → Int32} {J : Nat → Int64} {s k j : Nat} {F : Nat → Nat → Int32} {v : Int32} {c : mm_C} (e : hc L xs J s k (upd (F k) j v) = c) : ((93, mU (hH L xs J s F).2 k c) : mm_H) = hH L xs J s (up2 F k j v) := hp1 e
section MFit
variable {d L s : Nat} {xs : Nat → Int32} {J : Nat → Int64} {F : Nat → Nat → Int32} {K : mm_K} {h : mm_H} {n t : Nat} {sk : Nat → Nat}
theorem m_kinds (hn : F 75 10 = nI n) (hc : Cw n (mq F)) {i S : Int32} (hk : ∀ F', CE F' (S_kinds F i S).2 → K (some (.int (S_kinds F i S).1)) (hH L xs J s F')) : mm_call mm_Ex (d + 5) k_X6_kinds [.ref 75, .int i, .int S] (hH L xs J s F) K := by
  have h9 := hc.1
  have hp9 := pw9 h9
  have en : (F 75 10).toNatClampNeg = n := by rw [hn]; exact tn_nI (by omega)
  have hx := Cx.all hn hc
  unfold S_kinds at hk
  rw [en] at hk
  have B : ¬ ((0 ≤ i ∧ i ≤ F 75 10 - 1) ∧ (0 ≤ S ∧ S ≤ (1 : Int32) <<< (F 75 10 &&& 31) - 1)) → mm_Ex (d + 5) k_X6_kinds 8 (0, 0) [.ref 75, .int i, .int S, .null, .null, .null] [] (hH L xs J s F) K := by
    intro c
    rw [if_neg c] at hk
    exact mm_run 5 (hk _ CE.rf)
  refine mm_run 60 (s_isRuling (And.intro (fun c => B fun q => b2i_0.mp c q.1) (fun c => s_isSet (And.intro (fun c2 => s_all hn h9 ⟨vpi hn h9 c, ?_⟩) (fun c2 => B fun q => b2i_0.mp c2 q.2)))))
  rw [if_pos ⟨not_not_b c, not_not_b c2⟩] at hk
  have c2 := not_not_b c2
  rw [hn] at c2 c
  obtain ⟨Sn, hS, rfl⟩ := set_of h9 c2
  obtain ⟨j, hj, rfl⟩ := isRu_of h9 c
  have ej : (nI j).toNatClampNeg = j := tn_nI (by omega)
  have hv : vp_in (nI j) 9 := vp_in_nI (by omega) (by decide)
  rw [ej, tn_nI (n := Sn) (by omega)] at hk
  obtain ⟨G, hG⟩ : ∃ G, S_all F n = G := ⟨_, rfl⟩
  have hm : mq G = mq F := by rw [← hG]; exact mq_all
  have hcG : CE G F := by rw [← hG]; exact CE.all
  rw [hG] at hx ⊢
  obtain ⟨kd, hkd⟩ : ∃ kd, G 82 j = kd := ⟨_, rfl⟩
  have e82 : G 82 (nI j).toNatClampNeg = kd := by rw [ej]; exact hkd
  show mm_Ex _ _ 21 _ [.ref 75, .int (nI j), .int (nI Sn), .int (G 82 (nI j).toNatClampNeg), .int 0, .int 0] _ _ _
  rw [e82]
  refine lp (n := 6) (P := fun k => ∀ (x a v : Int32) h, x = nI k → a = nI (setB (kdB n (mq F) j Sn) k) → h = hH L xs J s (up2 G 82 j v) → mm_Ex (d + 5) k_X6_kinds 21 (0, 0) [.ref 75, .int (nI j), .int (nI Sn), .int kd, .int a, .int x] [] h K) ?_ ?_ 0 0 kd _ rfl rfl (by rw [← hkd, up2_id])
  · intro x a v h hx1 ha hh
    subst hx1 hh
    refine mm_run 60 (And.intro (fun _ => ⟨hv, ?_⟩) (fun q => absurd (show (6 : Int32) ≤ nI 6 by decide) q))
    rw [ha]
    refine kh ((hp1 (g := upd ((up2 G 82 j v) 82) (nI j).toNatClampNeg kd) rfl).trans (hHx fun z => ?_)) (hk _ hcG)
    show up2 (up2 G 82 j v) 82 (nI j).toNatClampNeg kd z = _
    rw [ej, up2_2, ← hkd, up2_id]
  · intro k hk6 ih x a v h hx1 ha hh
    subst hx1 hh
    have hxk : Cx (up2 G 82 j (nI k)) n (2 ^ n - 1) (fun _ => 0) := ⟨hx.1, by rw [mq_82, hm]; exact Cw_qk hc (by omega), ⟨hx.2.2.1.1, hx.2.2.1.2⟩, hx.2.2.2⟩
    have J39 : ∀ y, y = (if kdB n (mq F) j Sn k = true then nI (2 ^ k) else 0) → mm_Ex (d + 5) k_X6_kinds 39 (0, 0) [.ref 75, .int (nI j), .int (nI Sn), .int kd, .int a, .int (nI k)] [.int y, .int a] (hH L xs J s (up2 G 82 j (nI k))) K := fun y hy => by
      refine mm_run 60 (ih _ _ _ _ (nI_1 k) ?_ rfl)
      rw [hy, ha]
      exact setI _ k
    refine mm_run 60 (And.intro (fun q => absurd q (nleI (b := 6) hk6 (by decide))) (fun _ => ⟨hv, ?_⟩))
    refine kc ((hp1 (g := upd ((up2 G 82 j v) 82) (nI j).toNatClampNeg (nI k)) rfl).trans (hHx (F' := up2 G 82 j (nI k)) fun z => ?_)) (s_isWay hxk.1 hxk.2.1 hxk.2.2.1 hxk.t31 (by omega) ?_)
    · show up2 (up2 G 82 j v) 82 (nI j).toNatClampNeg (nI k) z = _
      rw [ej, up2_2]
    · rw [mq_82, hm]
      refine And.intro (fun q => J39 _ ?_) (fun q => J39 _ ?_)
      · rw [b2i_0] at q
        exact (if_neg q).symm
      · have q : kdB n (mq F) j Sn k = true := b2i_p q
        rw [if_pos q, shl1 (by omega)]
theorem m_forged (hn : F 75 10 = nI n) (hc : Cw n (mq F)) {S : Int32} (hk : ∀ F', CE F' (S_forged F S).2 → K (some (.int (S_forged F S).1)) (hH L xs J s F')) : mm_call mm_Ex (d + 5) k_X6_forged [.ref 75, .int S] (hH L xs J s F) K := by
  have h9 := hc.1
  have hp9 := pw9 h9
  have en : (F 75 10).toNatClampNeg = n := by rw [hn]; exact tn_nI (by omega)
  have hx := Cx.all hn hc
  unfold S_forged at hk
  dsimp only at hk
  rw [en] at hk
  refine mm_run 60 (s_isSet (And.intro (fun c => s_all hn h9 ?_) (fun c => ?_)))
  · have c := not_not_b c
    rw [if_pos c] at hk
    rw [hn] at c
    obtain ⟨Sn, hS, rfl⟩ := set_of h9 c
    rw [tn_nI (n := Sn) (by omega)] at hk
    obtain ⟨G, hG⟩ : ∃ G, S_all F n = G := ⟨_, rfl⟩
    have hm : mq G = mq F := by rw [← hG]; exact mq_all
    have hcG : CE G F := by rw [← hG]; exact CE.all
    rw [hG] at hx ⊢
    have e10 : G 75 10 = nI n := hx.1
    have e0 : ∀ i, G 82 i = mq F 0 i := fun i => congrFun (congrFun hm 0) i
    have e3 : ∀ i, G 85 i = mq F 3 i := fun i => congrFun (congrFun hm 3) i
    refine lp (n := n) (P := fun f => ∀ (x a : Int32) (w1 w2 : Value), x = nI f → a = nI (setB (fgB n (mq F) Sn) f) → mm_Ex (d + 5) k_X6_forged 12 (0, 0) [.ref 75, .int (nI Sn), .int a, .int x, w1, w2] [] (hH L xs J s G) K) ?_ ?_ _ _ _ _ rfl rfl
    · intro x a w1 w2 hx1 ha
      subst hx1
      rw [ha]
      refine mm_run 60 (And.intro (fun _ => hk _ hcG) (fun q => absurd ?_ q))
      show G 75 10 ≤ nI n
      rw [e10]
      exact (nI_leI (by omega) (by omega)).mpr (Nat.le_refl n)
    · intro f hf ih x a w1 w2 hx1 ha
      subst hx1
      have ef : (nI f).toNatClampNeg = f := tn_nI (by omega)
      have hvf : vp_in (nI f) 9 := vp_in_nI (by omega) (by decide)
      refine mm_run 60 (And.intro (fun q => ?_) (fun _ => ?_))
      · have q : G 75 10 ≤ nI f := q
        rw [e10] at q
        exact absurd q (nleI hf (by omega))
      · refine lp (n := n) (P := fun i => ∀ x2 o, x2 = nI i → o = nI (setB (fun i => dueB n (mq F) (fun _ => 0) (Sn &&& (2 ^ n - 1)) i (mq F 0 i) (if i = f then -9 else mq F 3 i) (nI f)) i) → mm_Ex (d + 5) k_X6_forged 20 (0, 0) [.ref 75, .int (nI Sn), .int a, .int (nI f), .int o, .int x2] [] (hH L xs J s G) K) ?_ ?_ 0 0 rfl rfl
        · intro x2 o hx2 ho
          subst hx2
          have ho : o = nI (fgS n (mq F) Sn f) := ho
          have hfl : fgS n (mq F) Sn f < 2 ^ n := setB_lt _ _
          have J68 : ∀ y, y = (if fgB n (mq F) Sn f = true then nI (2 ^ f) else 0) → mm_Ex (d + 5) k_X6_forged 68 (0, 0) [.ref 75, .int (nI Sn), .int a, .int (nI f), .int o, .int (nI n)] [.int y, .int a] (hH L xs J s G) K := fun y hy => by
            refine mm_run 60 (ih _ _ _ _ (nI_1 f) ?_)
            rw [hy, ha]
            exact setI _ f
          have J67 : ¬ fgB n (mq F) Sn f = true → mm_Ex (d + 5) k_X6_forged 67 (0, 0) [.ref 75, .int (nI Sn), .int a, .int (nI f), .int o, .int (nI n)] [.int a] (hH L xs J s G) K := fun q => mm_run 5 (J68 0 (if_neg q).symm)
          refine mm_run 60 (And.intro (fun _ => ⟨hvf, And.intro (fun q2 => J67 ?_) (fun q2 => And.intro (fun q3 => J67 ?_) (fun q3 => J68 _ ?_))⟩) (fun q => absurd ?_ q))
          · have q2 : G 85 (nI f).toNatClampNeg = -9 := q2
            rw [ef, e3] at q2
            simp [fgB, q2]
          · rw [ho] at q3
            have q3 : ¬ fgS n (mq F) Sn f = Sn := fun z => q3 (by rw [z])
            simp [fgB, q3]
          · have q2 : ¬ G 85 (nI f).toNatClampNeg = -9 := q2
            rw [ef, e3] at q2
            rw [ho] at q3
            have q3 := (nI_eq (by omega) (by omega)).mp q3
            rw [if_pos (by simp [fgB, q2, q3]), shl1 (by omega)]
          · show G 75 10 ≤ nI n
            rw [e10]
            exact (nI_leI (by omega) (by omega)).mpr (Nat.le_refl n)
        · intro i hi ih2 x2 o hx2 ho
          subst hx2
          have ei : (nI i).toNatClampNeg = i := tn_nI (by omega)
          have hvi : vp_in (nI i) 9 := vp_in_nI (by omega) (by decide)
          have hcd : (if i = f then (-9 : Int32) else mq F 3 i) = -9 ∨ ∃ c, c < 31 ∧ (if i = f then (-9 : Int32) else mq F 3 i) = nI c := by
            by_cases e : i = f
            · rw [if_pos e]
              exact Or.inl rfl
            · rw [if_neg e]
              rcases (hc.2 i hi).2.2.2.1 with z | ⟨j', a1, b1, _⟩
              · exact Or.inl z.1
              · exact Or.inr ⟨j', by omega, b1⟩
          have J49 : ∀ y, y = (if (fun i => dueB n (mq F) (fun _ => 0) (Sn &&& (2 ^ n - 1)) i (mq F 0 i) (if i = f then -9 else mq F 3 i) (nI f)) i = true then nI (2 ^ i) else 0) → mm_Ex (d + 5) k_X6_forged 49 (0, 0) [.ref 75, .int (nI Sn), .int a, .int (nI f), .int o, .int (nI i)] [.int y, .int o] (hH L xs J s G) K := fun y hy => by
            refine mm_run 60 (ih2 _ _ (nI_1 i) ?_)
            rw [hy, ho]
            exact setI _ i
          have J41 : ∀ y, y = (if i = f then -9 else mq F 3 i) → mm_Ex (d + 5) k_X6_forged 41 (0, 0) [.ref 75, .int (nI Sn), .int a, .int (nI f), .int o, .int (nI i)] [.int y, .int (mq F 0 i), .int (nI Sn), .int (nI i), .ref 75, .int o] (hH L xs J s G) K := fun y hy => by
            rw [hy]
            refine mm_run 60 (s_isDue hx.1 hx.2.1 hx.2.2.1 hi hcd ?_)
            rw [hm]
            refine And.intro (fun q => J49 _ ?_) (fun q => J49 _ ?_)
            · rw [b2i_0] at q
              exact (if_neg q).symm
            · rw [if_pos (b2i_p q), shl1 (by omega)]
          refine mm_run 60 (And.intro (fun q => ?_) (fun _ => ⟨hvi, And.intro (fun q2 => ⟨hvi, ?_⟩) (fun q2 => ?_)⟩))
          · have q : G 75 10 ≤ nI i := q
            rw [e10] at q
            exact absurd q (nleI hi (by omega))
          · have q2 : ¬ i = f := fun z => q2 (by rw [z])
            show mm_Ex _ _ 41 _ _ [.int (G 85 (nI i).toNatClampNeg), .int (G 82 (nI i).toNatClampNeg), .int (nI Sn), .int (nI i), .ref 75, .int o] _ _
            rw [ei, e0, e3]
            exact J41 _ (if_neg q2).symm
          · have q2 := (nI_eq (by omega) (by omega)).mp q2
            show mm_Ex _ _ 41 _ _ [.int (-9), .int (G 82 (nI i).toNatClampNeg), .int (nI Sn), .int (nI i), .ref 75, .int o] _ _
            rw [ei, e0]
            exact J41 _ (if_pos q2).symm
  · rw [if_neg (b2i_0.mp c)] at hk
    exact hk _ CE.rf
theorem m_torn (hn : F 75 10 = nI n) (hc : Cw n (mq F)) {seen S : Int32} (hk : ∀ F', CE F' (S_torn F seen S).2 → K (some (.int (S_torn F seen S).1)) (hH L xs J s F')) : mm_call mm_Ex (d + 5) k_X6_torn [.ref 75, .int seen, .int S] (hH L xs J s F) K := by
  have h9 := hc.1
  have hp9 := pw9 h9
  have en : (F 75 10).toNatClampNeg = n := by rw [hn]; exact tn_nI (by omega)
  have hx := Cx.all hn hc
  have hpw := pwI hx.1 h9
  unfold S_torn at hk
  dsimp only at hk
  rw [en] at hk
  obtain ⟨w, hw⟩ : ∃ w, wayB n (mq F) (fun _ => 0) (2 ^ n - 1) = w := ⟨_, rfl⟩
  rw [show W0 F n = w from hw] at hk
  have B : ¬ ((0 ≤ seen ∧ seen ≤ (1 : Int32) <<< (F 75 10 &&& 31) - 1) ∧ (0 ≤ S ∧ S ≤ (1 : Int32) <<< (F 75 10 &&& 31) - 1)) → mm_Ex (d + 5) k_X6_torn 8 (0, 0) [.ref 75, .int seen, .int S, .null, .null, .null, .null] [] (hH L xs J s F) K := by
    intro c
    rw [if_neg c] at hk
    exact mm_run 5 (hk _ CE.rf)
  refine mm_run 60 (s_isSet (And.intro (fun c => B fun q => b2i_0.mp c q.1) (fun c => s_isSet (And.intro (fun c2 => s_all hn h9 ?_) (fun c2 => B fun q => b2i_0.mp c2 q.2)))))
  rw [if_pos ⟨not_not_b c, not_not_b c2⟩] at hk
  have c2 := not_not_b c2
  have c := not_not_b c
  rw [hn] at c2 c
  obtain ⟨Sn, hS, rfl⟩ := set_of h9 c2
  obtain ⟨se, hse, rfl⟩ := set_of h9 c
  rw [tn_nI (n := Sn) (by omega), tn_nI (n := se) (by omega)] at hk
  obtain ⟨p, hp'⟩ : ∃ p, tnB w se Sn = p := ⟨_, rfl⟩
  rw [hp'] at hk
  refine lp (n := 2 ^ n) (P := fun k => ∀ (x a b : Int32) (w6 : Value), x = nI k → a = nI (0 + fa_cnt p k) → b = (if fa_cnt p k = 0 then -9 else nI (fa_first p (2 ^ n))) → mm_Ex (d + 5) k_X6_torn 18 (0, 0) [.ref 75, .int (nI se), .int (nI Sn), .int a, .int b, .int x, w6] [] (hH L xs J s (S_all F n)) K) ?_ ?_ _ _ _ _ rfl rfl rfl
  · intro x a b w6 hx1 ha hb
    subst hx1
    rw [Nat.zero_add] at ha
    rw [ha]
    have hb2 : b = frst n p := by
      rw [hb]
      unfold frst
      by_cases z : fa_cnt p (2 ^ n) = 0
      · rw [if_pos z, first_N (cnt_0.mp z), if_neg (Nat.lt_irrefl _)]
      · rw [if_neg z]
        rw [if_pos]
        refine Nat.lt_of_not_le fun y => z (cnt_0.mpr fun j hj => fa_first_no p (2 ^ n) j (by omega))
    refine mm_run 60 (And.intro (fun _ => ?_) (fun q => absurd ?_ q))
    · rw [hb2]
      exact kh (hp1 (g := upd ((S_all F n) 75) 7 (frst n p)) rfl) (hk _ (CE.all.set 7 _))
    · show (1 : Int32) <<< ((S_all F n) 75 10 &&& 31) ≤ nI (2 ^ n)
      rw [hpw]
      exact (nI_leI (by omega) (by omega)).mpr (Nat.le_refl _)
  · intro k hk1 ih x a b w6 hx1 ha hb
    subst hx1
    have hcl := fa_cnt_le p k
    have a0 : a = 0 ↔ fa_cnt p k = 0 := by
      rw [ha, Nat.zero_add]
      exact nI_eq (b := 0) (by omega) (by decide)
    have J52 : ∀ b y, b = (if fa_cnt p (k + 1) = 0 then -9 else nI (fa_first p (2 ^ n))) → y = b2i (p k = true) → mm_Ex (d + 5) k_X6_torn 52 (0, 0) [.ref 75, .int (nI se), .int (nI Sn), .int a, .int b, .int (nI k), .int y] [.int y, .int a] (hH L xs J s (S_all F n)) K := fun b y hb hy => by
      refine mm_run 60 (ih _ _ _ _ (nI_1 k) ?_ hb)
      rw [ha, hy]
      exact nI_b 0 p k
    have J45 : ∀ b' y, b' = (if fa_cnt p (k + 1) = 0 then -9 else nI (fa_first p (2 ^ n))) → y = b2i (p k = true) → mm_Ex (d + 5) k_X6_torn 45 (0, 0) [.ref 75, .int (nI se), .int (nI Sn), .int a, .int b, .int (nI k), .int y] [.int b'] (hH L xs J s (S_all F n)) K := fun b' y hb hy => by
      refine mm_run 60 (And.intro (fun q => ?_) (fun q => ?_))
      · subst q
        exact J52 _ 0 hb hy
      · have q2 : y = 1 := by
          rcases b2i_01 (c := p k = true) with z | z
          · exact absurd (hy.trans z) q
          · exact hy.trans z
        subst q2
        exact J52 _ 1 hb hy
    have J44 : ∀ y, y = b2i (p k = true) → (¬ p k = true ∨ ¬ fa_cnt p k = 0) → mm_Ex (d + 5) k_X6_torn 44 (0, 0) [.ref 75, .int (nI se), .int (nI Sn), .int a, .int b, .int (nI k), .int y] [] (hH L xs J s (S_all F n)) K := fun y hy z => by
      refine mm_run 5 (J45 _ _ ?_ hy)
      rw [hb]
      by_cases hp1 : p k = true
      · have z2 : ¬ fa_cnt p k = 0 := z.elim (fun z => absurd hp1 z) id
        rw [fa_cnt_yes hp1, if_neg z2, if_neg (by omega)]
      · rw [fa_cnt_no ((Bool.not_eq_true _).mp hp1)]
    have J37 : ∀ y (w6 : Value), y = b2i (p k = true) → mm_Ex (d + 5) k_X6_torn 37 (0, 0) [.ref 75, .int (nI se), .int (nI Sn), .int a, .int b, .int (nI k), w6] [.int y] (hH L xs J s (S_all F n)) K := fun y w6 hy => by
      refine mm_run 60 (And.intro (fun q => J44 _ hy (Or.inl ?_)) (fun q => And.intro (fun q2 => J44 _ hy (Or.inr ?_)) (fun q2 => J45 _ _ ?_ hy)))
      · rw [hy] at q
        exact b2i_0.mp q
      · exact fun z => q2 (a0.mpr z)
      · rw [hy] at q
        have q := b2i_p q
        have q2 := a0.mp q2
        rw [fa_cnt_yes q, if_neg (by omega), first_eq hk1 q (cnt_0.mp q2)]
    have J36 : ∀ (w6 : Value), ¬ p k = true → mm_Ex (d + 5) k_X6_torn 36 (0, 0) [.ref 75, .int (nI se), .int (nI Sn), .int a, .int b, .int (nI k), w6] [] (hH L xs J s (S_all F n)) K := fun w6 q => mm_run 5 (J37 0 _ (b2i_f q).symm)
    have ep : p k = (decide ((k ^^^ Sn) &&& se = 0) && w k) := by rw [← hp']; rfl
    have hl : (k ^^^ Sn) &&& se < 2 ^ n := Nat.lt_of_le_of_lt Nat.and_le_right hse
    refine mm_run 60 (And.intro (fun q => ?_) (fun _ => And.intro (fun q2 => J36 _ ?_) (fun q2 => s_isWay hx.1 hx.2.1 hx.2.2.1 hx.t31 (by omega) ?_)))
    · have q : (1 : Int32) <<< ((S_all F n) 75 10 &&& 31) ≤ nI k := q
      rw [hpw] at q
      exact absurd q (nleI hk1 (by omega))
    · have q2 : ¬ (nI k ^^^ nI Sn) &&& nI se = 0 := q2
      rw [xorI, fa_and] at q2
      have q2 : ¬ (k ^^^ Sn) &&& se = 0 := fun z => q2 (by rw [z]; rfl)
      rw [ep]
      simp [q2]
    · have q2 : (nI k ^^^ nI Sn) &&& nI se = 0 := q2
      rw [xorI, fa_and] at q2
      have q2 := (nI_eq (b := 0) (by omega) (by decide)).mp q2
      rw [mq_all, hw]
      refine And.intro (fun q3 => J36 _ ?_) (fun q3 => J37 1 _ (b2i_t ?_).symm)
      · rw [b2i_0] at q3
        rw [ep]
        simp [q3]
      · rw [ep]
        simp [q2, b2i_p q3]
end MFit
