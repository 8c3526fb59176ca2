/-! the class: the bench -/
def BR (F : Nat → Nat → Int32) (n : Nat) (q : Rq) (lf : Int32) (ab : Nat) (fl : Nat → Nat) : Prop := F 23 7 = nI n ∧ F 23 6 = nI ab ∧ Cw n q ∧ ∀ i, i < n → F 24 i = q 0 i ∧ F 25 i = nI (agS n q lf i) ∧ F 26 i = nI (prS n q lf i) ∧ F 27 i = nI (cdS q lf i) ∧ F 28 i = nI (sdS n q i) ∧ F 29 i = nI (fl i) ∧ fl i ≤ 9
theorem nI_z {x : Nat} (h : x < 2 ^ 31) : nI x = 0 ↔ x = 0 := nI_eq (b := 0) h (by decide)
/-- all but the scratch of the class is the same -/
def XS (F F1 : Nat → Nat → Int32) : Prop := ∀ k, ¬ (13 ≤ k ∧ k < 33 ∧ k ≠ 14) → F1 k = F k
theorem XS.rf {F : Nat → Nat → Int32} : XS F F := fun _ _ => rfl
theorem XS.tr {F G H : Nat → Nat → Int32} (a : XS F G) (b : XS G H) : XS F H := fun k hk => (b k hk).trans (a k hk)
theorem XS.up {F : Nat → Nat → Int32} {k : Nat} {g : Nat → Int32} (h : 13 ≤ k ∧ k < 33 ∧ k ≠ 14) : XS F (upF F k g) := fun a ha => upF_ne (fun e => ha (e ▸ h))
theorem XS.cc {F F1 : Nat → Nat → Int32} (h : XS F F1) {n : Nat} {q : Rq} (hc : CC F n q) : CC F1 n q := by
  refine ⟨by rw [h 5 (by omega)]; exact hc.1, hc.2.1, fun w hw i hi => ?_⟩
  rw [h (6 + w) (by omega)]
  exact hc.2.2 w hw i hi
theorem XS.mq {F F1 : Nat → Nat → Int32} (h : XS F F1) : mq F1 = mq F := mq_c fun k h1 h2 => h k (by omega)
theorem XS.xt {F F1 : Nat → Nat → Int32} (h : XS F F1) (hx : XRc F F) : XT F F1 F := by
  refine ⟨fun k hk => h k (by omega), hx.cong (fun k h1 h2 h3 h4 => h k (fun y => h4 ⟨y.1, y.2.1⟩)) (fun k h1 h2 h3 h4 => rfl) rfl ?_⟩
  obtain ⟨a, b, c⟩ := hx.2.2.2.2
  exact ⟨by rw [h 2 (by omega)]; exact a, by rw [h 2 (by omega)]; exact b, fun f hf => by rw [h 33 (by omega)]; exact c f hf⟩
theorem b2i_eq {a b : Bool} : b2i (a = true) = b2i (b = true) ↔ a = b := by
  cases a <;> cases b <;> decide
section XBn
variable {d L s : Nat} {xs : Nat → Int32} {J : Nat → Int64} {F : Nat → Nat → Int32} {K : mm_K} {h : mm_H} {n : Nat} {q : Rq} {lf : Int32} {ab : Nat} {fl : Nat → Nat}
theorem x_isToStand (hb : BR F n q lf ab fl) {i S : Nat} (hi : i < n) (hk : K (some (.int (b2i (stB n q lf ab fl S i = true)))) (hH L xs J s F)) : mm_call mm_Ex (d + 1) k_X0_isToStand [.ref 23, .int (nI i), .int (nI S)] (hH L xs J s F) K := by
  obtain ⟨e7, e6, hc, hq⟩ := hb
  have h9 := hc.1
  obtain ⟨k0, k1, k2, k3, k4, k5, k6⟩ := hq i hi
  have hv : vp_in (nI i) 9 := vp_in_nI (by omega) (by decide)
  have ei : (nI i).toNatClampNeg = i := tn_nI (by omega)
  have a512 : agS n q lf i &&& S < 512 := Nat.lt_of_le_of_lt Nat.and_le_left (Nat.lt_of_lt_of_le (setB_lt _ _) (pw9 h9))
  have p512 : prS n q lf i &&& S < 2 ^ 31 := Nat.lt_of_le_of_lt Nat.and_le_left (Nat.lt_of_lt_of_le (setB_lt _ _) (Nat.le_trans (pw9 h9) (by decide)))
  have s512 : sdS n q i &&& S < 2 ^ 31 := Nat.lt_of_le_of_lt Nat.and_le_left (Nat.lt_of_lt_of_le (dif_le _ _ (setB_lt _ _)) (Nat.le_trans (pw9 h9) (by decide)))
  have c512 : cdS q lf i < 2 ^ 9 := by
    unfold cdS
    split
    · decide
    · rename_i z
      rcases (hc.2 i hi).2.2.2.1 with ⟨y, -⟩ | ⟨j, hj, e, -, -⟩
      · exact absurd (Or.inl y) z
      · rw [e, tn_nI (by omega)]
        exact Nat.pow_lt_pow_right (by decide) (by omega)
  have d512 : dif (cdS q lf i) S < 2 ^ 31 := Nat.lt_of_lt_of_le (dif_le _ _ c512) (by decide)
  obtain ⟨o, ho⟩ : ∃ o, fl i + agN n q S i lf = o := ⟨_, rfl⟩
  have o31 : o < 2 ^ 31 := by
    have : agN n q S i lf ≤ n := fa_cnt_le _ _
    omega
  have eo : nI (oneN (agS n q lf i &&& S)) + F 29 (nI i).toNatClampNeg = nI o := by
    rw [ei, k5, ag_one h9, nI_add, ← ho, Nat.add_comm]
  have e0 : F 24 (nI i).toNatClampNeg = q 0 i := by rw [ei]; exact k0
  have eP : F 26 (nI i).toNatClampNeg &&& nI S = nI (prS n q lf i &&& S) := by rw [ei, k2, fa_and]
  have eD : F 28 (nI i).toNatClampNeg &&& nI S = nI (sdS n q i &&& S) := by rw [ei, k4, fa_and]
  have eC : F 27 (nI i).toNatClampNeg &&& (nI S ^^^ (-1)) = nI (dif (cdS q lf i) S) := by rw [ei, k3, difI]
  have hT : stB n q lf ab fl S i = true → K (some (.int 1)) (hH L xs J s F) := fun z => by rw [b2i_t z] at hk; exact hk
  have hF : ¬ stB n q lf ab fl S i = true → K (some (.int 0)) (hH L xs J s F) := fun z => by rw [b2i_f z] at hk; exact hk
  refine mm_run 60 ?_
  show mm_call mm_Ex d k_X5_holds [.int (F 23 6), .int (nI i)] _ _
  rw [e6]
  refine x_holdsN (by omega) (And.intro (fun z => ⟨hv, ?_⟩) (fun z => ⟨Or.inl rfl, hF ?_⟩))
  · have z := b2i_0.mp z
    have eS : stB n q lf ab fl S i = dueK o (prN n q S i lf) (otB n q S i) (bdB S (cdI q lf i)) (q 0 i) := by
      unfold stB dueB
      rw [ho]
      simp [z]
    show mm_call mm_Ex d k_J6_bitCount_0f7a4 [.int (F 25 (nI i).toNatClampNeg &&& nI S)] _ _
    rw [ei, k1, fa_and]
    have o0 : ∀ {y : Int32}, y = nI o → (y = 0 ↔ o = 0) := fun e => by rw [e]; exact nI_z o31
    refine x_bitCount a512 ⟨hv, hv, ⟨fun c => ?_, fun c => ⟨fun c2 => ?_, fun c2 => ⟨fun c3 => ?_, fun c3 => ⟨fun c4 => ?_, fun c4 => ⟨fun c5 => ?_, fun c5 => ?_⟩⟩⟩⟩⟩⟩
    · have c : q 0 i = 1 := e0.symm.trans c
      have eS : stB n q lf ab fl S i = (decide (o = 0) && bdB S (cdI q lf i)) := by rw [eS, dueK, if_pos c]
      have E39 : ∀ v y, (v = 0 ∨ v = 1) → K (some (.int v)) (hH L xs J s F) → mm_Ex (d + 1) k_X0_isToStand 39 (0, 0) [.ref 23, .int (nI i), .int (nI S), .int y] [.int v] (hH L xs J s F) K := fun v y h1 h2 => mm_run 5 ⟨h1, h2⟩
      have E38 : ∀ y, ¬ stB n q lf ab fl S i = true → mm_Ex (d + 1) k_X0_isToStand 38 (0, 0) [.ref 23, .int (nI i), .int (nI S), .int y] [] (hH L xs J s F) K := fun y h2 => mm_run 5 (E39 0 y (Or.inl rfl) (hF h2))
      refine And.intro (fun g => E38 _ ?_) (fun g => ⟨hv, And.intro (fun g2 => E38 _ ?_) (fun g2 => E39 1 _ (Or.inr rfl) (hT ?_))⟩)
      · have g : ¬ o = 0 := fun y => g ((o0 eo).mpr y)
        simp [eS, g]
      · have g2 : ¬ bdB S (cdI q lf i) = true := fun y => g2 (eC.trans (by rw [cd_z.mpr y]; rfl))
        simp [eS, g2]
      · have g : o = 0 := (o0 eo).mp g
        have g2 : bdB S (cdI q lf i) = true := cd_z.mp ((nI_z d512).mp (eC.symm.trans g2))
        simp [eS, g, g2]
    · have c : ¬ q 0 i = 1 := fun y => c (e0.trans y)
      have c2 : q 0 i = 2 := e0.symm.trans c2
      have eS : stB n q lf ab fl S i = decide (o < 2) := by rw [eS, dueK, if_neg c, if_pos c2]
      have E46 : ∀ v y, (v = 0 ∨ v = 1) → K (some (.int v)) (hH L xs J s F) → mm_Ex (d + 1) k_X0_isToStand 46 (0, 0) [.ref 23, .int (nI i), .int (nI S), .int y] [.int v] (hH L xs J s F) K := fun v y h1 h2 => mm_run 5 ⟨h1, h2⟩
      refine And.intro (fun g => E46 0 _ (Or.inl rfl) (hF ?_)) (fun g => E46 1 _ (Or.inr rfl) (hT ?_))
      · have g : nI 2 ≤ nI o := eo ▸ g
        have := (nI_leI (by decide) o31).mp g
        simp [eS]
        omega
      · have g : ¬ nI 2 ≤ nI o := eo ▸ g
        have : ¬ 2 ≤ o := fun y => g ((nI_leI (by decide) o31).mpr y)
        simp [eS]
        omega
    · have c : ¬ q 0 i = 1 := fun y => c (e0.trans y)
      have c2 : ¬ q 0 i = 2 := fun y => c2 (e0.trans y)
      have c3 : q 0 i = 3 := e0.symm.trans c3
      have eS : stB n q lf ab fl S i = (decide (o = 0) && decide (0 < prN n q S i lf)) := by rw [eS, dueK, if_neg c, if_neg c2, if_pos c3]
      have E39 : ∀ v y, (v = 0 ∨ v = 1) → K (some (.int v)) (hH L xs J s F) → mm_Ex (d + 1) k_X0_isToStand 59 (0, 0) [.ref 23, .int (nI i), .int (nI S), .int y] [.int v] (hH L xs J s F) K := fun v y h1 h2 => mm_run 5 ⟨h1, h2⟩
      have E38 : ∀ y, ¬ stB n q lf ab fl S i = true → mm_Ex (d + 1) k_X0_isToStand 58 (0, 0) [.ref 23, .int (nI i), .int (nI S), .int y] [] (hH L xs J s F) K := fun y h2 => mm_run 5 (E39 0 y (Or.inl rfl) (hF h2))
      refine And.intro (fun g => E38 _ ?_) (fun g => ⟨hv, And.intro (fun g2 => E38 _ ?_) (fun g2 => E39 1 _ (Or.inr rfl) (hT ?_))⟩)
      · have g : ¬ o = 0 := fun y => g ((o0 eo).mpr y)
        simp [eS, g]
      · have g2 : prS n q lf i &&& S = 0 := (nI_z p512).mp (eP.symm.trans g2)
        have g3 : ¬ 0 < prN n q S i lf := fun y => pr_nz.mpr y g2
        simp [eS, g3]
      · have g : o = 0 := (o0 eo).mp g
        have g2 : ¬ prS n q lf i &&& S = 0 := fun y => g2 (eP.trans ((nI_z p512).mpr y))
        have g3 : 0 < prN n q S i lf := pr_nz.mp g2
        simp [eS, g, g3]
    · have c : ¬ q 0 i = 1 := fun y => c (e0.trans y)
      have c2 : ¬ q 0 i = 2 := fun y => c2 (e0.trans y)
      have c3 : ¬ q 0 i = 3 := fun y => c3 (e0.trans y)
      have c4 : q 0 i = 4 := e0.symm.trans c4
      have eS : stB n q lf ab fl S i = (decide (o = 0) && (bdB S (cdI q lf i) && otB n q S i)) := by rw [eS, dueK, if_neg c, if_neg c2, if_neg c3, if_pos c4]
      have E39 : ∀ v y, (v = 0 ∨ v = 1) → K (some (.int v)) (hH L xs J s F) → mm_Ex (d + 1) k_X0_isToStand 81 (0, 0) [.ref 23, .int (nI i), .int (nI S), .int y] [.int v] (hH L xs J s F) K := fun v y h1 h2 => mm_run 5 ⟨h1, h2⟩
      have E38 : ∀ y, ¬ stB n q lf ab fl S i = true → mm_Ex (d + 1) k_X0_isToStand 80 (0, 0) [.ref 23, .int (nI i), .int (nI S), .int y] [] (hH L xs J s F) K := fun y h2 => mm_run 5 (E39 0 y (Or.inl rfl) (hF h2))
      refine And.intro (fun g => E38 _ ?_) (fun g => ⟨hv, And.intro (fun g2 => E38 _ ?_) (fun g2 => ⟨hv, And.intro (fun g3 => E38 _ ?_) (fun g3 => E39 1 _ (Or.inr rfl) (hT ?_))⟩)⟩)
      · have g : ¬ o = 0 := fun y => g ((o0 eo).mpr y)
        simp [eS, g]
      · have g2 : ¬ bdB S (cdI q lf i) = true := fun y => g2 (eC.trans (by rw [cd_z.mpr y]; rfl))
        simp [eS, g2]
      · have g3 : sdS n q i &&& S = 0 := (nI_z s512).mp (eD.symm.trans g3)
        have g4 : ¬ otB n q S i = true := fun y => sd_nz.mpr y g3
        simp [eS, g4]
      · have g : o = 0 := (o0 eo).mp g
        have g2 : bdB S (cdI q lf i) = true := cd_z.mp ((nI_z d512).mp (eC.symm.trans g2))
        have g3 : ¬ sdS n q i &&& S = 0 := fun y => g3 (eD.trans ((nI_z s512).mpr y))
        have g4 : otB n q S i = true := sd_nz.mp g3
        simp [eS, g, g2, g4]
    · have c : ¬ q 0 i = 1 := fun y => c (e0.trans y)
      have c2 : ¬ q 0 i = 2 := fun y => c2 (e0.trans y)
      have c3 : ¬ q 0 i = 3 := fun y => c3 (e0.trans y)
      have c4 : ¬ q 0 i = 4 := fun y => c4 (e0.trans y)
      have c5 : q 0 i = 5 := e0.symm.trans c5
      refine ⟨Or.inr rfl, hT ?_⟩
      rw [eS, dueK, if_neg c, if_neg c2, if_neg c3, if_neg c4, if_pos c5]
    · have c : ¬ q 0 i = 1 := fun y => c (e0.trans y)
      have c2 : ¬ q 0 i = 2 := fun y => c2 (e0.trans y)
      have c3 : ¬ q 0 i = 3 := fun y => c3 (e0.trans y)
      have c4 : ¬ q 0 i = 4 := fun y => c4 (e0.trans y)
      have c5 : ¬ q 0 i = 5 := fun y => c5 (e0.trans y)
      have eS : stB n q lf ab fl S i = decide (o = 0) := by rw [eS, dueK, if_neg c, if_neg c2, if_neg c3, if_neg c4, if_neg c5]
      have E46 : ∀ v y, (v = 0 ∨ v = 1) → K (some (.int v)) (hH L xs J s F) → mm_Ex (d + 1) k_X0_isToStand 89 (0, 0) [.ref 23, .int (nI i), .int (nI S), .int y] [.int v] (hH L xs J s F) K := fun v y h1 h2 => mm_run 5 ⟨h1, h2⟩
      refine And.intro (fun g => E46 0 _ (Or.inl rfl) (hF ?_)) (fun g => E46 1 _ (Or.inr rfl) (hT ?_))
      · have g : ¬ o = 0 := fun y => g ((o0 eo).mpr y)
        simp [eS, g]
      · have g : o = 0 := (o0 eo).mp g
        simp [eS, g]
  · have z := b2i_p z
    unfold stB
    simp [z]
theorem x_mattersTo (hb : BR F n q lf ab fl) {i : Nat} (hi : i < n) (hk : K (some (.int (nI (mtS n q lf i)))) (hH L xs J s F)) : mm_call mm_Ex (d + 1) k_X0_mattersTo [.ref 23, .int (nI i)] (hH L xs J s F) K := by
  obtain ⟨e7, e6, hc, hq⟩ := hb
  have h9 := hc.1
  obtain ⟨k0, k1, k2, k3, k4, k5, k6⟩ := hq i hi
  have hv : vp_in (nI i) 9 := vp_in_nI (by omega) (by decide)
  have ei : (nI i).toNatClampNeg = i := tn_nI (by omega)
  have e0 : F 24 (nI i).toNatClampNeg = q 0 i := by rw [ei]; exact k0
  have e3 : F 27 (nI i).toNatClampNeg = nI (cdS q lf i) := by rw [ei]; exact k3
  have e4 : F 28 (nI i).toNatClampNeg = nI (sdS n q i) := by rw [ei]; exact k4
  unfold mtS at hk
  have J31 : ∀ v, v = nI ((2 ^ i ||| (if isOfB (q 0 i) 1 = true then cdS q lf i else 0)) ||| (if q 0 i = 4 then sdS n q i else 0)) → mm_Ex (d + 1) k_X0_mattersTo 31 (0, 0) [.ref 23, .int (nI i), .int v] [] (hH L xs J s F) K := fun v e => by
    subst e
    exact mm_run 5 hk
  have J18 : ∀ v, v = nI (2 ^ i ||| (if isOfB (q 0 i) 1 = true then cdS q lf i else 0)) → mm_Ex (d + 1) k_X0_mattersTo 18 (0, 0) [.ref 23, .int (nI i), .int v] [] (hH L xs J s F) K := fun v e => by
    subst e
    refine mm_run 60 ⟨hv, And.intro (fun c => J31 _ ?_) (fun c => ⟨hv, J31 _ ?_⟩)⟩
    · have c : ¬ q 0 i = 4 := fun y => c (e0.trans y)
      rw [if_neg c, Nat.or_zero]
    · have c : q 0 i = 4 := e0.symm.trans c
      rw [if_pos c, e4, fa_or]
  refine mm_run 60 ⟨hv, x_isOfKind (And.intro (fun c => J18 _ ?_) (fun c => ⟨hv, J18 _ ?_⟩))⟩
  · have c := b2i_0.mp c
    rw [e0] at c
    rw [if_neg c, Nat.or_zero, shl1 (by omega)]
  · have c := b2i_p c
    rw [e0] at c
    rw [if_pos c, e3, shl1 (by omega), fa_or]
theorem x_clash (hb : BR F n q lf ab fl) {S : Nat} (hS : S < 2 ^ n) (hk0 : wB n q lf ab fl S = true → K (some (.int 0)) (hH L xs J s F)) (hk1 : ∀ p, p < n → (∀ S', S' < 2 ^ n → S' / 2 ^ p = S / 2 ^ p → wB n q lf ab fl S' = false) → K (some (.int (nI (2 ^ p)))) (hH L xs J s F)) : mm_call mm_Ex (d + 2) k_X0_clash [.ref 23, .int (nI S)] (hH L xs J s F) K := by
  have hc := hb.2.2.1
  have h9 := hc.1
  have H : ∀ i, i ≤ n → (∀ j, i ≤ j → j < n → stB n q lf ab fl S j = S.testBit j) → ∀ x (w3 : Value), x = nI i - 1 → mm_Ex (d + 2) k_X0_clash 5 (0, 0) [.ref 23, .int (nI S), .int x, w3] [] (hH L xs J s F) K := by
    intro i
    induction i with
    | zero =>
      intro _ ha x w3 hx
      subst hx
      exact mm_run 10 (And.intro (fun _ => hk0 ((wB_iff hS).mpr fun j hj => ha j (by omega) hj)) (fun c => absurd (by decide) c))
    | succ i ih =>
      intro hi ha x w3 hx
      rw [nI_pred] at hx
      subst hx
      refine mm_run 40 (And.intro (fun c => absurd c (nI_pos (by omega))) (fun _ => x_isToStand hb (by omega) (x_holdsN (by omega) (And.intro (fun c => ?_) (fun c => ?_)))))
      · have c := b2i_eq.mp c
        refine ih (by omega) (fun j h1 h2 => ?_) _ _ (Int32.sub_eq_add_neg _ _).symm
        by_cases e : j = i
        · rw [e]; exact c
        · exact ha j (by omega) h2
      · have c : ¬ stB n q lf ab fl S i = S.testBit i := fun y => c (b2i_eq.mpr y)
        refine x_mattersTo hb (by omega) ?_
        have hm := mt_lt (lf := lf) hc (show i < n by omega)
        have := hk1 (lowN (mtS n q lf i)) (Nat.lt_of_le_of_lt (low_le mt_i (by omega)) (show i < n by omega)) (fun S' h1 h2 => skip_no hc (by omega) c h1 h2)
        rw [← low_I _ hm mt_nz] at this
        exact this
  have e7 : F 23 7 = nI n := hb.1
  refine mm_run 20 (H n (Nat.le_refl n) (fun j h1 h2 => by omega) _ _ ?_)
  rw [← e7]
end XBn
