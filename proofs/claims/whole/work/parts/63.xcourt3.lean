/-! the class: fault, court -/
def XT2 (F F1 M : Nat → Nat → Int32) : Prop := (∀ k, 75 ≤ k → F1 k = F k) ∧ XRc F1 M ∧ ∃ m, m ≤ 9 ∧ F1 14 6 = nI m
theorem XT.two {F F1 M : Nat → Nat → Int32} (h : XT F F1 M) {n : Nat} (hn : n ≤ 9) (hd : F 14 6 = nI n) : XT2 F F1 M := ⟨fun k hk => h.1 k (Or.inl hk), h.2, n, hn, by rw [h.1 14 (Or.inr rfl)]; exact hd⟩
theorem XZ.xr {F G M : Nat → Nat → Int32} (h : XZ F G) (hx : XRc F M) : XRc G M := by
  refine hx.cong (fun k h1 h2 h3 h4 => h k (by omega)) (fun k h1 h2 h3 h4 => rfl) rfl ?_
  obtain ⟨a, b, c⟩ := hx.2.2.2.2
  exact ⟨by rw [h 2 (by omega)]; exact a, by rw [h 2 (by omega)]; exact b, fun f hf => by rw [h 33 (by omega)]; exact c f hf⟩
theorem cr_rc {F G H : Nat → Nat → Int32} (hx : XRc F F) (hG : XZ F G) {m : Nat} {Q : Rq} (hD : DR G m Q) (h1 : ∀ a, a ≠ 54 → a ≠ 61 → a ≠ 68 → H a = becF G 5 14 m a) (h2 : ∀ j, j < 3 → H (54 + 7 * j) 6 = nI 0) : XRc H (crF F Q m) := by
  have eM : ∀ k, crF F Q m k = if k = 88 then fil (F 88) 0 3 (-9) else if 82 ≤ k ∧ k ≤ 87 then fa_fill (Q (k - 82)) (F k) m else if k = 75 then upd (F 75) 10 (nI m) else F k := fun k => by
    unfold crF
    by_cases e : k = 88
    · rw [e, upF_at, if_pos rfl]
    · rw [upF_ne e, if_neg e]
      rfl
  have eH : ∀ a, a < 75 → ¬ (5 ≤ a ∧ a ≤ 11) → ¬ (13 ≤ a ∧ a ≤ 20) → a ≠ 54 → a ≠ 61 → a ≠ 68 → H a = F a := fun a a1 a2 a3 a4 a5 a6 => by
    rw [h1 a a4 a5 a6]
    unfold becF
    rw [if_neg (by omega), if_neg (by omega)]
    exact hG a a3
  obtain ⟨a, b, c, e, f⟩ := hx
  refine ⟨fun r hr => ?_, fun t ht => ?_, ⟨m, hD.2.1, ?_, ?_, fun w hw i hi => ?_⟩, fun k hk => Or.inl ⟨?_, h2 k hk⟩, ?_⟩
  · have := a r hr
    unfold XRow at this ⊢
    rw [eH (34 + 2 * r) (by omega) (by omega) (by omega) (by omega) (by omega) (by omega), eH (35 + 2 * r) (by omega) (by omega) (by omega) (by omega) (by omega) (by omega), eM 76, eM 77]
    exact this
  · have := b t ht
    unfold XTxt at this ⊢
    rw [eH (46 + 2 * t) (by omega) (by omega) (by omega) (by omega) (by omega) (by omega), eH (47 + 2 * t) (by omega) (by omega) (by omega) (by omega) (by omega) (by omega), eM 78, eM 79]
    exact this
  · rw [h1 5 (by decide) (by decide) (by decide)]
    rfl
  · rw [eM 75]
    rfl
  · rw [h1 (6 + w) (by omega) (by omega) (by omega), eM (82 + w), if_neg (by omega), if_pos (by omega), show 82 + w - 82 = w by omega, fa_fill_in hi]
    unfold becF
    rw [if_pos (by omega), fa_fill_in hi, show 14 + (6 + w - 5) = 15 + w by omega]
    exact hD.2.2 w hw i hi
  · rw [eM 88, if_pos rfl]
    unfold fil
    rw [if_pos (by omega)]
  · unfold XTd at f ⊢
    rw [eH 2 (by decide) (by decide) (by decide) (by decide) (by decide) (by decide), eH 33 (by decide) (by decide) (by decide) (by decide) (by decide) (by decide), eM 75, eM 81]
    exact f
section XCr
variable {d L s : Nat} {xs : Nat → Int32} {J : Nat → Int64} {F : Nat → Nat → Int32} {K : mm_K} {h : mm_H} {n n0 : Nat}
theorem x_fault_0 (hx : XRc F F) (hd : F 14 6 = nI n0) (hn0 : n0 ≤ 9) (hk : ∀ F1 s1, XT2 F F1 (S_fault F (nI 0)).2 → K (some (.int (S_fault F (nI 0)).1)) (hH L xs J s1 F1)) : mm_call mm_Ex (d + 7) k_X5_fault [.ref 2, .int (nI 0)] (hH L xs J s F) K := by
  unfold S_fault at hk
  dsimp only at hk
  rw [if_pos ⟨by decide, by decide⟩, tn_nI (n := 0) (by decide)] at hk
  have vT : vp_in (nI 0) 4 := vp_in_nI (by decide) (by decide)
  have hs := (hx.2.1 0 (by decide)).sz
  refine mm_run 60 (x_within (And.intro (fun _ => ⟨vT, 46, rfl, x_isMissing_46 (And.intro (fun z => ?_) (fun z => ?_))⟩) (fun z => absurd z (by decide))))
  · have z : ¬ F 46 1 < 0 := b2i_0.mp z
    obtain ⟨Z, hZ80, e78, eO⟩ := hs.2 z
    have eO : F 46 1 = nI Z := eO
    rw [e78, if_pos (nle0 (by omega)), tn_nI (by omega)] at hk
    have hA : ∀ k, k < Z → F 47 k = bB F 0 Z k := fun k hk => by
      unfold bB
      rw [if_pos hk]
      rcases hx.2.1 0 (by decide) with ⟨a, b⟩ | ⟨z', z1, z2, z3, z4⟩
      · rw [show F (46 + 2 * 0) 1 = F 46 1 from rfl, eO] at b
        have := nle0 (n := Z) (by omega)
        rw [b] at this
        exact absurd this (by decide)
      · have : z' = Z := (nI_eq (by omega) (by omega)).mp (z2.symm.trans e78)
        exact z4 k (by omega)
    refine ⟨vT, 46, rfl, x_read_46 eO hZ80 hA (fun k hk => if_neg (by omega)) hd hn0 (fun p hp hpl G m hG hm hm6 => ?_) (fun m Q hp G hG hD => ?_)⟩
    · rw [hp] at hk
      exact hk G 46 ⟨fun k hk => hG k (by omega), hG.xr hx, m, hm, hm6⟩
    · rw [hp] at hk
      exact hk G 46 ⟨fun k hk => hG k (by omega), hG.xr hx, m, hD.2.1, hD.1⟩
  · have z : F 46 1 < 0 := b2i_p z
    rw [if_neg (hs.1.mp z)] at hk
    exact x_refuse (w := 1) (by decide) (hk _ s (((XT.same hx).fi (by decide)).two hn0 hd))
theorem x_court_0 (hx : XRc F F) (hd : F 14 6 = nI n0) (hn0 : n0 ≤ 9) (hk : ∀ F1 s1, XT2 F F1 (S_court F (nI 0)).2 → K (some (.int (S_court F (nI 0)).1)) (hH L xs J s1 F1)) : mm_call mm_Ex (d + 7) k_X5_court [.ref 2, .int (nI 0)] (hH L xs J s F) K := by
  unfold S_court at hk
  dsimp only at hk
  rw [if_pos ⟨by decide, by decide⟩, tn_nI (n := 0) (by decide)] at hk
  have vT : vp_in (nI 0) 4 := vp_in_nI (by decide) (by decide)
  have hs := (hx.2.1 0 (by decide)).sz
  refine mm_run 60 (x_within (And.intro (fun _ => ⟨vT, 46, rfl, x_isMissing_46 (And.intro (fun z => ?_) (fun z => ?_))⟩) (fun z => absurd z (by decide))))
  · have z : ¬ F 46 1 < 0 := b2i_0.mp z
    obtain ⟨Z, hZ80, e78, eO⟩ := hs.2 z
    have eO : F 46 1 = nI Z := eO
    rw [e78, if_pos (nle0 (by omega)), tn_nI (by omega)] at hk
    have hA : ∀ k, k < Z → F 47 k = bB F 0 Z k := fun k hk => by
      unfold bB
      rw [if_pos hk]
      rcases hx.2.1 0 (by decide) with ⟨a, b⟩ | ⟨z', z1, z2, z3, z4⟩
      · rw [show F (46 + 2 * 0) 1 = F 46 1 from rfl, eO] at b
        have := nle0 (n := Z) (by omega)
        rw [b] at this
        exact absurd this (by decide)
      · have : z' = Z := (nI_eq (by omega) (by omega)).mp (z2.symm.trans e78)
        exact z4 k (by omega)
    refine ⟨vT, 46, rfl, x_read_46 eO hZ80 hA (fun k hk => if_neg (by omega)) hd hn0 (fun p hp hpl G m hG hm hm6 => ?_) (fun m Q hp G hG hD => ?_)⟩
    · rw [hp] at hk
      exact And.intro (fun y => absurd y (ne9 (by omega))) (fun _ => hk G 46 ⟨fun k hk => hG k (by omega), hG.xr hx, m, hm, hm6⟩)
    · rw [hp] at hk
      dsimp only at hk
      obtain ⟨c, c9, c1, c2, c3⟩ := hx.2.2.1
      have e5 : G 5 6 = nI c := by rw [hG 5 (by omega)]; exact c1
      have kp : ∀ j, j < 3 → ∃ t, t ≤ 9 ∧ becF G 5 14 m (54 + 7 * j) 6 = nI t := fun j hj => by
        have e : becF G 5 14 m (54 + 7 * j) = F (54 + 7 * j) := by
          unfold becF
          rw [if_neg (by omega), if_neg (by omega)]
          exact hG _ (by omega)
        rw [e]
        rcases hx.2.2.2.1 j hj with ⟨a, b⟩ | ⟨t, t0, t9, k1, k2, -⟩
        · exact ⟨0, by decide, b⟩
        · exact ⟨t, t9, k2⟩
      refine And.intro (fun _ => x_become_5_14 e5 c9 hD.1 hD.2.1 ?_) (fun y => absurd rfl y)
      refine lp (n := 3) (P := fun k => ∀ x H, x = nI k → (∀ a, a ≠ 54 → a ≠ 61 → a ≠ 68 → H a = becF G 5 14 m a) → (∀ j, j < k → H (54 + 7 * j) 6 = nI 0) → (∀ j, k ≤ j → j < 3 → H (54 + 7 * j) = becF G 5 14 m (54 + 7 * j)) → mm_Ex (d + 7) k_X5_court 35 (0, 0) [.ref 2, .int (nI 0), .int x] [] (hH L xs J 46 H) K) ?_ ?_ 0 _ rfl (fun a _ _ _ => rfl) (fun j hj => absurd hj (Nat.not_lt_zero j)) (fun j _ _ => rfl)
      · intro x H hx1 h1 h2 h3
        subst hx1
        refine mm_run 60 (And.intro (fun _ => ?_) (fun z => absurd (by decide) z))
        have e56 : H 5 6 = nI m := by rw [h1 5 (by decide) (by decide) (by decide)]; rfl
        have := hk H 46 ⟨fun k hk => ?_, cr_rc hx hG hD h1 (fun j hj => h2 j hj), m, hD.2.1, ?_⟩
        · rw [← e56] at this
          exact this
        · rw [h1 k (by omega) (by omega) (by omega)]
          unfold becF
          rw [if_neg (by omega), if_neg (by omega)]
          exact hG k (by omega)
        · rw [h1 14 (by decide) (by decide) (by decide)]
          exact hD.1
      · intro k hk1 ih x H hx1 h1 h2 h3
        subst hx1
        obtain ⟨t, t9, et⟩ := kp k hk1
        rw [← h3 k (Nat.le_refl k) hk1] at et
        have hN : ∀ H', H' = up2 H (54 + 7 * k) 6 (nI 0) → mm_Ex (d + 7) k_X5_court 35 (0, 0) [.ref 2, .int (nI 0), .int (nI k + 1)] [] (hH L xs J 46 H') K := fun H' e => by
          refine ih _ H' (nI_1 k) (fun a a1 a2 a3 => ?_) (fun j hj => ?_) (fun j j1 j2 => ?_)
          · rw [e, up2_ne (by omega)]
            exact h1 a a1 a2 a3
          · rw [e]
            by_cases ej : j = k
            · rw [ej]
              exact up2_at
            · rw [up2_ne (by omega)]
              exact h2 j (by omega)
          · rw [e, up2_ne (by omega)]
            exact h3 j (by omega) j2
        match k, hk1, et, hN with
        | 0, _, et, hN => exact mm_run 60 (And.intro (fun z => absurd z (by decide)) (fun _ => ⟨vp_in_nI (by decide) (by decide), 54, rfl, x_cutTo_54 (m := 0) et t9 (Nat.zero_le t) (hN _ rfl)⟩))
        | 1, _, et, hN => exact mm_run 60 (And.intro (fun z => absurd z (by decide)) (fun _ => ⟨vp_in_nI (by decide) (by decide), 61, rfl, x_cutTo_61 (m := 0) et t9 (Nat.zero_le t) (hN _ rfl)⟩))
        | 2, _, et, hN => exact mm_run 60 (And.intro (fun z => absurd z (by decide)) (fun _ => ⟨vp_in_nI (by decide) (by decide), 68, rfl, x_cutTo_68 (m := 0) et t9 (Nat.zero_le t) (hN _ rfl)⟩))
  · have z : F 46 1 < 0 := b2i_p z
    rw [if_neg (hs.1.mp z)] at hk
    exact x_refuse (w := 1) (by decide) (hk _ s (((XT.same hx).fi (by decide)).two hn0 hd))
theorem x_fault_1 (hx : XRc F F) (hd : F 14 6 = nI n0) (hn0 : n0 ≤ 9) (hk : ∀ F1 s1, XT2 F F1 (S_fault F (nI 1)).2 → K (some (.int (S_fault F (nI 1)).1)) (hH L xs J s1 F1)) : mm_call mm_Ex (d + 7) k_X5_fault [.ref 2, .int (nI 1)] (hH L xs J s F) K := by
  unfold S_fault at hk
  dsimp only at hk
  rw [if_pos ⟨by decide, by decide⟩, tn_nI (n := 1) (by decide)] at hk
  have vT : vp_in (nI 1) 4 := vp_in_nI (by decide) (by decide)
  have hs := (hx.2.1 1 (by decide)).sz
  refine mm_run 60 (x_within (And.intro (fun _ => ⟨vT, 48, rfl, x_isMissing_48 (And.intro (fun z => ?_) (fun z => ?_))⟩) (fun z => absurd z (by decide))))
  · have z : ¬ F 48 1 < 0 := b2i_0.mp z
    obtain ⟨Z, hZ80, e78, eO⟩ := hs.2 z
    have eO : F 48 1 = nI Z := eO
    rw [e78, if_pos (nle0 (by omega)), tn_nI (by omega)] at hk
    have hA : ∀ k, k < Z → F 49 k = bB F 1 Z k := fun k hk => by
      unfold bB
      rw [if_pos hk]
      rcases hx.2.1 1 (by decide) with ⟨a, b⟩ | ⟨z', z1, z2, z3, z4⟩
      · rw [show F (46 + 2 * 1) 1 = F 48 1 from rfl, eO] at b
        have := nle0 (n := Z) (by omega)
        rw [b] at this
        exact absurd this (by decide)
      · have : z' = Z := (nI_eq (by omega) (by omega)).mp (z2.symm.trans e78)
        exact z4 k (by omega)
    refine ⟨vT, 48, rfl, x_read_48 eO hZ80 hA (fun k hk => if_neg (by omega)) hd hn0 (fun p hp hpl G m hG hm hm6 => ?_) (fun m Q hp G hG hD => ?_)⟩
    · rw [hp] at hk
      exact hk G 48 ⟨fun k hk => hG k (by omega), hG.xr hx, m, hm, hm6⟩
    · rw [hp] at hk
      exact hk G 48 ⟨fun k hk => hG k (by omega), hG.xr hx, m, hD.2.1, hD.1⟩
  · have z : F 48 1 < 0 := b2i_p z
    rw [if_neg (hs.1.mp z)] at hk
    exact x_refuse (w := 1) (by decide) (hk _ s (((XT.same hx).fi (by decide)).two hn0 hd))
theorem x_court_1 (hx : XRc F F) (hd : F 14 6 = nI n0) (hn0 : n0 ≤ 9) (hk : ∀ F1 s1, XT2 F F1 (S_court F (nI 1)).2 → K (some (.int (S_court F (nI 1)).1)) (hH L xs J s1 F1)) : mm_call mm_Ex (d + 7) k_X5_court [.ref 2, .int (nI 1)] (hH L xs J s F) K := by
  unfold S_court at hk
  dsimp only at hk
  rw [if_pos ⟨by decide, by decide⟩, tn_nI (n := 1) (by decide)] at hk
  have vT : vp_in (nI 1) 4 := vp_in_nI (by decide) (by decide)
  have hs := (hx.2.1 1 (by decide)).sz
  refine mm_run 60 (x_within (And.intro (fun _ => ⟨vT, 48, rfl, x_isMissing_48 (And.intro (fun z => ?_) (fun z => ?_))⟩) (fun z => absurd z (by decide))))
  · have z : ¬ F 48 1 < 0 := b2i_0.mp z
    obtain ⟨Z, hZ80, e78, eO⟩ := hs.2 z
    have eO : F 48 1 = nI Z := eO
    rw [e78, if_pos (nle0 (by omega)), tn_nI (by omega)] at hk
    have hA : ∀ k, k < Z → F 49 k = bB F 1 Z k := fun k hk => by
      unfold bB
      rw [if_pos hk]
      rcases hx.2.1 1 (by decide) with ⟨a, b⟩ | ⟨z', z1, z2, z3, z4⟩
      · rw [show F (46 + 2 * 1) 1 = F 48 1 from rfl, eO] at b
        have := nle0 (n := Z) (by omega)
        rw [b] at this
        exact absurd this (by decide)
      · have : z' = Z := (nI_eq (by omega) (by omega)).mp (z2.symm.trans e78)
        exact z4 k (by omega)
    refine ⟨vT, 48, rfl, x_read_48 eO hZ80 hA (fun k hk => if_neg (by omega)) hd hn0 (fun p hp hpl G m hG hm hm6 => ?_) (fun m Q hp G hG hD => ?_)⟩
    · rw [hp] at hk
      exact And.intro (fun y => absurd y (ne9 (by omega))) (fun _ => hk G 48 ⟨fun k hk => hG k (by omega), hG.xr hx, m, hm, hm6⟩)
    · rw [hp] at hk
      dsimp only at hk
      obtain ⟨c, c9, c1, c2, c3⟩ := hx.2.2.1
      have e5 : G 5 6 = nI c := by rw [hG 5 (by omega)]; exact c1
      have kp : ∀ j, j < 3 → ∃ t, t ≤ 9 ∧ becF G 5 14 m (54 + 7 * j) 6 = nI t := fun j hj => by
        have e : becF G 5 14 m (54 + 7 * j) = F (54 + 7 * j) := by
          unfold becF
          rw [if_neg (by omega), if_neg (by omega)]
          exact hG _ (by omega)
        rw [e]
        rcases hx.2.2.2.1 j hj with ⟨a, b⟩ | ⟨t, t0, t9, k1, k2, -⟩
        · exact ⟨0, by decide, b⟩
        · exact ⟨t, t9, k2⟩
      refine And.intro (fun _ => x_become_5_14 e5 c9 hD.1 hD.2.1 ?_) (fun y => absurd rfl y)
      refine lp (n := 3) (P := fun k => ∀ x H, x = nI k → (∀ a, a ≠ 54 → a ≠ 61 → a ≠ 68 → H a = becF G 5 14 m a) → (∀ j, j < k → H (54 + 7 * j) 6 = nI 0) → (∀ j, k ≤ j → j < 3 → H (54 + 7 * j) = becF G 5 14 m (54 + 7 * j)) → mm_Ex (d + 7) k_X5_court 35 (0, 0) [.ref 2, .int (nI 1), .int x] [] (hH L xs J 48 H) K) ?_ ?_ 0 _ rfl (fun a _ _ _ => rfl) (fun j hj => absurd hj (Nat.not_lt_zero j)) (fun j _ _ => rfl)
      · intro x H hx1 h1 h2 h3
        subst hx1
        refine mm_run 60 (And.intro (fun _ => ?_) (fun z => absurd (by decide) z))
        have e56 : H 5 6 = nI m := by rw [h1 5 (by decide) (by decide) (by decide)]; rfl
        have := hk H 48 ⟨fun k hk => ?_, cr_rc hx hG hD h1 (fun j hj => h2 j hj), m, hD.2.1, ?_⟩
        · rw [← e56] at this
          exact this
        · rw [h1 k (by omega) (by omega) (by omega)]
          unfold becF
          rw [if_neg (by omega), if_neg (by omega)]
          exact hG k (by omega)
        · rw [h1 14 (by decide) (by decide) (by decide)]
          exact hD.1
      · intro k hk1 ih x H hx1 h1 h2 h3
        subst hx1
        obtain ⟨t, t9, et⟩ := kp k hk1
        rw [← h3 k (Nat.le_refl k) hk1] at et
        have hN : ∀ H', H' = up2 H (54 + 7 * k) 6 (nI 0) → mm_Ex (d + 7) k_X5_court 35 (0, 0) [.ref 2, .int (nI 1), .int (nI k + 1)] [] (hH L xs J 48 H') K := fun H' e => by
          refine ih _ H' (nI_1 k) (fun a a1 a2 a3 => ?_) (fun j hj => ?_) (fun j j1 j2 => ?_)
          · rw [e, up2_ne (by omega)]
            exact h1 a a1 a2 a3
          · rw [e]
            by_cases ej : j = k
            · rw [ej]
              exact up2_at
            · rw [up2_ne (by omega)]
              exact h2 j (by omega)
          · rw [e, up2_ne (by omega)]
            exact h3 j (by omega) j2
        match k, hk1, et, hN with
        | 0, _, et, hN => exact mm_run 60 (And.intro (fun z => absurd z (by decide)) (fun _ => ⟨vp_in_nI (by decide) (by decide), 54, rfl, x_cutTo_54 (m := 0) et t9 (Nat.zero_le t) (hN _ rfl)⟩))
        | 1, _, et, hN => exact mm_run 60 (And.intro (fun z => absurd z (by decide)) (fun _ => ⟨vp_in_nI (by decide) (by decide), 61, rfl, x_cutTo_61 (m := 0) et t9 (Nat.zero_le t) (hN _ rfl)⟩))
        | 2, _, et, hN => exact mm_run 60 (And.intro (fun z => absurd z (by decide)) (fun _ => ⟨vp_in_nI (by decide) (by decide), 68, rfl, x_cutTo_68 (m := 0) et t9 (Nat.zero_le t) (hN _ rfl)⟩))
  · have z : F 48 1 < 0 := b2i_p z
    rw [if_neg (hs.1.mp z)] at hk
    exact x_refuse (w := 1) (by decide) (hk _ s (((XT.same hx).fi (by decide)).two hn0 hd))
theorem x_fault_2 (hx : XRc F F) (hd : F 14 6 = nI n0) (hn0 : n0 ≤ 9) (hk : ∀ F1 s1, XT2 F F1 (S_fault F (nI 2)).2 → K (some (.int (S_fault F (nI 2)).1)) (hH L xs J s1 F1)) : mm_call mm_Ex (d + 7) k_X5_fault [.ref 2, .int (nI 2)] (hH L xs J s F) K := by
  unfold S_fault at hk
  dsimp only at hk
  rw [if_pos ⟨by decide, by decide⟩, tn_nI (n := 2) (by decide)] at hk
  have vT : vp_in (nI 2) 4 := vp_in_nI (by decide) (by decide)
  have hs := (hx.2.1 2 (by decide)).sz
  refine mm_run 60 (x_within (And.intro (fun _ => ⟨vT, 50, rfl, x_isMissing_50 (And.intro (fun z => ?_) (fun z => ?_))⟩) (fun z => absurd z (by decide))))
  · have z : ¬ F 50 1 < 0 := b2i_0.mp z
    obtain ⟨Z, hZ80, e78, eO⟩ := hs.2 z
    have eO : F 50 1 = nI Z := eO
    rw [e78, if_pos (nle0 (by omega)), tn_nI (by omega)] at hk
    have hA : ∀ k, k < Z → F 51 k = bB F 2 Z k := fun k hk => by
      unfold bB
      rw [if_pos hk]
      rcases hx.2.1 2 (by decide) with ⟨a, b⟩ | ⟨z', z1, z2, z3, z4⟩
      · rw [show F (46 + 2 * 2) 1 = F 50 1 from rfl, eO] at b
        have := nle0 (n := Z) (by omega)
        rw [b] at this
        exact absurd this (by decide)
      · have : z' = Z := (nI_eq (by omega) (by omega)).mp (z2.symm.trans e78)
        exact z4 k (by omega)
    refine ⟨vT, 50, rfl, x_read_50 eO hZ80 hA (fun k hk => if_neg (by omega)) hd hn0 (fun p hp hpl G m hG hm hm6 => ?_) (fun m Q hp G hG hD => ?_)⟩
    · rw [hp] at hk
      exact hk G 50 ⟨fun k hk => hG k (by omega), hG.xr hx, m, hm, hm6⟩
    · rw [hp] at hk
      exact hk G 50 ⟨fun k hk => hG k (by omega), hG.xr hx, m, hD.2.1, hD.1⟩
  · have z : F 50 1 < 0 := b2i_p z
    rw [if_neg (hs.1.mp z)] at hk
    exact x_refuse (w := 1) (by decide) (hk _ s (((XT.same hx).fi (by decide)).two hn0 hd))
theorem x_court_2 (hx : XRc F F) (hd : F 14 6 = nI n0) (hn0 : n0 ≤ 9) (hk : ∀ F1 s1, XT2 F F1 (S_court F (nI 2)).2 → K (some (.int (S_court F (nI 2)).1)) (hH L xs J s1 F1)) : mm_call mm_Ex (d + 7) k_X5_court [.ref 2, .int (nI 2)] (hH L xs J s F) K := by
  unfold S_court at hk
  dsimp only at hk
  rw [if_pos ⟨by decide, by decide⟩, tn_nI (n := 2) (by decide)] at hk
  have vT : vp_in (nI 2) 4 := vp_in_nI (by decide) (by decide)
  have hs := (hx.2.1 2 (by decide)).sz
  refine mm_run 60 (x_within (And.intro (fun _ => ⟨vT, 50, rfl, x_isMissing_50 (And.intro (fun z => ?_) (fun z => ?_))⟩) (fun z => absurd z (by decide))))
  · have z : ¬ F 50 1 < 0 := b2i_0.mp z
    obtain ⟨Z, hZ80, e78, eO⟩ := hs.2 z
    have eO : F 50 1 = nI Z := eO
    rw [e78, if_pos (nle0 (by omega)), tn_nI (by omega)] at hk
    have hA : ∀ k, k < Z → F 51 k = bB F 2 Z k := fun k hk => by
      unfold bB
      rw [if_pos hk]
      rcases hx.2.1 2 (by decide) with ⟨a, b⟩ | ⟨z', z1, z2, z3, z4⟩
      · rw [show F (46 + 2 * 2) 1 = F 50 1 from rfl, eO] at b
        have := nle0 (n := Z) (by omega)
        rw [b] at this
        exact absurd this (by decide)
      · have : z' = Z := (nI_eq (by omega) (by omega)).mp (z2.symm.trans e78)
        exact z4 k (by omega)
    refine ⟨vT, 50, rfl, x_read_50 eO hZ80 hA (fun k hk => if_neg (by omega)) hd hn0 (fun p hp hpl G m hG hm hm6 => ?_) (fun m Q hp G hG hD => ?_)⟩
    · rw [hp] at hk
      exact And.intro (fun y => absurd y (ne9 (by omega))) (fun _ => hk G 50 ⟨fun k hk => hG k (by omega), hG.xr hx, m, hm, hm6⟩)
    · rw [hp] at hk
      dsimp only at hk
      obtain ⟨c, c9, c1, c2, c3⟩ := hx.2.2.1
      have e5 : G 5 6 = nI c := by rw [hG 5 (by omega)]; exact c1
      have kp : ∀ j, j < 3 → ∃ t, t ≤ 9 ∧ becF G 5 14 m (54 + 7 * j) 6 = nI t := fun j hj => by
        have e : becF G 5 14 m (54 + 7 * j) = F (54 + 7 * j) := by
          unfold becF
          rw [if_neg (by omega), if_neg (by omega)]
          exact hG _ (by omega)
        rw [e]
        rcases hx.2.2.2.1 j hj with ⟨a, b⟩ | ⟨t, t0, t9, k1, k2, -⟩
        · exact ⟨0, by decide, b⟩
        · exact ⟨t, t9, k2⟩
      refine And.intro (fun _ => x_become_5_14 e5 c9 hD.1 hD.2.1 ?_) (fun y => absurd rfl y)
      refine lp (n := 3) (P := fun k => ∀ x H, x = nI k → (∀ a, a ≠ 54 → a ≠ 61 → a ≠ 68 → H a = becF G 5 14 m a) → (∀ j, j < k → H (54 + 7 * j) 6 = nI 0) → (∀ j, k ≤ j → j < 3 → H (54 + 7 * j) = becF G 5 14 m (54 + 7 * j)) → mm_Ex (d + 7) k_X5_court 35 (0, 0) [.ref 2, .int (nI 2), .int x] [] (hH L xs J 50 H) K) ?_ ?_ 0 _ rfl (fun a _ _ _ => rfl) (fun j hj => absurd hj (Nat.not_lt_zero j)) (fun j _ _ => rfl)
      · intro x H hx1 h1 h2 h3
        subst hx1
        refine mm_run 60 (And.intro (fun _ => ?_) (fun z => absurd (by decide) z))
        have e56 : H 5 6 = nI m := by rw [h1 5 (by decide) (by decide) (by decide)]; rfl
        have := hk H 50 ⟨fun k hk => ?_, cr_rc hx hG hD h1 (fun j hj => h2 j hj), m, hD.2.1, ?_⟩
        · rw [← e56] at this
          exact this
        · rw [h1 k (by omega) (by omega) (by omega)]
          unfold becF
          rw [if_neg (by omega), if_neg (by omega)]
          exact hG k (by omega)
        · rw [h1 14 (by decide) (by decide) (by decide)]
          exact hD.1
      · intro k hk1 ih x H hx1 h1 h2 h3
        subst hx1
        obtain ⟨t, t9, et⟩ := kp k hk1
        rw [← h3 k (Nat.le_refl k) hk1] at et
        have hN : ∀ H', H' = up2 H (54 + 7 * k) 6 (nI 0) → mm_Ex (d + 7) k_X5_court 35 (0, 0) [.ref 2, .int (nI 2), .int (nI k + 1)] [] (hH L xs J 50 H') K := fun H' e => by
          refine ih _ H' (nI_1 k) (fun a a1 a2 a3 => ?_) (fun j hj => ?_) (fun j j1 j2 => ?_)
          · rw [e, up2_ne (by omega)]
            exact h1 a a1 a2 a3
          · rw [e]
            by_cases ej : j = k
            · rw [ej]
              exact up2_at
            · rw [up2_ne (by omega)]
              exact h2 j (by omega)
          · rw [e, up2_ne (by omega)]
            exact h3 j (by omega) j2
        match k, hk1, et, hN with
        | 0, _, et, hN => exact mm_run 60 (And.intro (fun z => absurd z (by decide)) (fun _ => ⟨vp_in_nI (by decide) (by decide), 54, rfl, x_cutTo_54 (m := 0) et t9 (Nat.zero_le t) (hN _ rfl)⟩))
        | 1, _, et, hN => exact mm_run 60 (And.intro (fun z => absurd z (by decide)) (fun _ => ⟨vp_in_nI (by decide) (by decide), 61, rfl, x_cutTo_61 (m := 0) et t9 (Nat.zero_le t) (hN _ rfl)⟩))
        | 2, _, et, hN => exact mm_run 60 (And.intro (fun z => absurd z (by decide)) (fun _ => ⟨vp_in_nI (by decide) (by decide), 68, rfl, x_cutTo_68 (m := 0) et t9 (Nat.zero_le t) (hN _ rfl)⟩))
  · have z : F 50 1 < 0 := b2i_p z
    rw [if_neg (hs.1.mp z)] at hk
    exact x_refuse (w := 1) (by decide) (hk _ s (((XT.same hx).fi (by decide)).two hn0 hd))
theorem x_fault_3 (hx : XRc F F) (hd : F 14 6 = nI n0) (hn0 : n0 ≤ 9) (hk : ∀ F1 s1, XT2 F F1 (S_fault F (nI 3)).2 → K (some (.int (S_fault F (nI 3)).1)) (hH L xs J s1 F1)) : mm_call mm_Ex (d + 7) k_X5_fault [.ref 2, .int (nI 3)] (hH L xs J s F) K := by
  unfold S_fault at hk
  dsimp only at hk
  rw [if_pos ⟨by decide, by decide⟩, tn_nI (n := 3) (by decide)] at hk
  have vT : vp_in (nI 3) 4 := vp_in_nI (by decide) (by decide)
  have hs := (hx.2.1 3 (by decide)).sz
  refine mm_run 60 (x_within (And.intro (fun _ => ⟨vT, 52, rfl, x_isMissing_52 (And.intro (fun z => ?_) (fun z => ?_))⟩) (fun z => absurd z (by decide))))
  · have z : ¬ F 52 1 < 0 := b2i_0.mp z
    obtain ⟨Z, hZ80, e78, eO⟩ := hs.2 z
    have eO : F 52 1 = nI Z := eO
    rw [e78, if_pos (nle0 (by omega)), tn_nI (by omega)] at hk
    have hA : ∀ k, k < Z → F 53 k = bB F 3 Z k := fun k hk => by
      unfold bB
      rw [if_pos hk]
      rcases hx.2.1 3 (by decide) with ⟨a, b⟩ | ⟨z', z1, z2, z3, z4⟩
      · rw [show F (46 + 2 * 3) 1 = F 52 1 from rfl, eO] at b
        have := nle0 (n := Z) (by omega)
        rw [b] at this
        exact absurd this (by decide)
      · have : z' = Z := (nI_eq (by omega) (by omega)).mp (z2.symm.trans e78)
        exact z4 k (by omega)
    refine ⟨vT, 52, rfl, x_read_52 eO hZ80 hA (fun k hk => if_neg (by omega)) hd hn0 (fun p hp hpl G m hG hm hm6 => ?_) (fun m Q hp G hG hD => ?_)⟩
    · rw [hp] at hk
      exact hk G 52 ⟨fun k hk => hG k (by omega), hG.xr hx, m, hm, hm6⟩
    · rw [hp] at hk
      exact hk G 52 ⟨fun k hk => hG k (by omega), hG.xr hx, m, hD.2.1, hD.1⟩
  · have z : F 52 1 < 0 := b2i_p z
    rw [if_neg (hs.1.mp z)] at hk
    exact x_refuse (w := 1) (by decide) (hk _ s (((XT.same hx).fi (by decide)).two hn0 hd))
theorem x_court_3 (hx : XRc F F) (hd : F 14 6 = nI n0) (hn0 : n0 ≤ 9) (hk : ∀ F1 s1, XT2 F F1 (S_court F (nI 3)).2 → K (some (.int (S_court F (nI 3)).1)) (hH L xs J s1 F1)) : mm_call mm_Ex (d + 7) k_X5_court [.ref 2, .int (nI 3)] (hH L xs J s F) K := by
  unfold S_court at hk
  dsimp only at hk
  rw [if_pos ⟨by decide, by decide⟩, tn_nI (n := 3) (by decide)] at hk
  have vT : vp_in (nI 3) 4 := vp_in_nI (by decide) (by decide)
  have hs := (hx.2.1 3 (by decide)).sz
  refine mm_run 60 (x_within (And.intro (fun _ => ⟨vT, 52, rfl, x_isMissing_52 (And.intro (fun z => ?_) (fun z => ?_))⟩) (fun z => absurd z (by decide))))
  · have z : ¬ F 52 1 < 0 := b2i_0.mp z
    obtain ⟨Z, hZ80, e78, eO⟩ := hs.2 z
    have eO : F 52 1 = nI Z := eO
    rw [e78, if_pos (nle0 (by omega)), tn_nI (by omega)] at hk
    have hA : ∀ k, k < Z → F 53 k = bB F 3 Z k := fun k hk => by
      unfold bB
      rw [if_pos hk]
      rcases hx.2.1 3 (by decide) with ⟨a, b⟩ | ⟨z', z1, z2, z3, z4⟩
      · rw [show F (46 + 2 * 3) 1 = F 52 1 from rfl, eO] at b
        have := nle0 (n := Z) (by omega)
        rw [b] at this
        exact absurd this (by decide)
      · have : z' = Z := (nI_eq (by omega) (by omega)).mp (z2.symm.trans e78)
        exact z4 k (by omega)
    refine ⟨vT, 52, rfl, x_read_52 eO hZ80 hA (fun k hk => if_neg (by omega)) hd hn0 (fun p hp hpl G m hG hm hm6 => ?_) (fun m Q hp G hG hD => ?_)⟩
    · rw [hp] at hk
      exact And.intro (fun y => absurd y (ne9 (by omega))) (fun _ => hk G 52 ⟨fun k hk => hG k (by omega), hG.xr hx, m, hm, hm6⟩)
    · rw [hp] at hk
      dsimp only at hk
      obtain ⟨c, c9, c1, c2, c3⟩ := hx.2.2.1
      have e5 : G 5 6 = nI c := by rw [hG 5 (by omega)]; exact c1
      have kp : ∀ j, j < 3 → ∃ t, t ≤ 9 ∧ becF G 5 14 m (54 + 7 * j) 6 = nI t := fun j hj => by
        have e : becF G 5 14 m (54 + 7 * j) = F (54 + 7 * j) := by
          unfold becF
          rw [if_neg (by omega), if_neg (by omega)]
          exact hG _ (by omega)
        rw [e]
        rcases hx.2.2.2.1 j hj with ⟨a, b⟩ | ⟨t, t0, t9, k1, k2, -⟩
        · exact ⟨0, by decide, b⟩
        · exact ⟨t, t9, k2⟩
      refine And.intro (fun _ => x_become_5_14 e5 c9 hD.1 hD.2.1 ?_) (fun y => absurd rfl y)
      refine lp (n := 3) (P := fun k => ∀ x H, x = nI k → (∀ a, a ≠ 54 → a ≠ 61 → a ≠ 68 → H a = becF G 5 14 m a) → (∀ j, j < k → H (54 + 7 * j) 6 = nI 0) → (∀ j, k ≤ j → j < 3 → H (54 + 7 * j) = becF G 5 14 m (54 + 7 * j)) → mm_Ex (d + 7) k_X5_court 35 (0, 0) [.ref 2, .int (nI 3), .int x] [] (hH L xs J 52 H) K) ?_ ?_ 0 _ rfl (fun a _ _ _ => rfl) (fun j hj => absurd hj (Nat.not_lt_zero j)) (fun j _ _ => rfl)
      · intro x H hx1 h1 h2 h3
        subst hx1
        refine mm_run 60 (And.intro (fun _ => ?_) (fun z => absurd (by decide) z))
        have e56 : H 5 6 = nI m := by rw [h1 5 (by decide) (by decide) (by decide)]; rfl
        have := hk H 52 ⟨fun k hk => ?_, cr_rc hx hG hD h1 (fun j hj => h2 j hj), m, hD.2.1, ?_⟩
        · rw [← e56] at this
          exact this
        · rw [h1 k (by omega) (by omega) (by omega)]
          unfold becF
          rw [if_neg (by omega), if_neg (by omega)]
          exact hG k (by omega)
        · rw [h1 14 (by decide) (by decide) (by decide)]
          exact hD.1
      · intro k hk1 ih x H hx1 h1 h2 h3
        subst hx1
        obtain ⟨t, t9, et⟩ := kp k hk1
        rw [← h3 k (Nat.le_refl k) hk1] at et
        have hN : ∀ H', H' = up2 H (54 + 7 * k) 6 (nI 0) → mm_Ex (d + 7) k_X5_court 35 (0, 0) [.ref 2, .int (nI 3), .int (nI k + 1)] [] (hH L xs J 52 H') K := fun H' e => by
          refine ih _ H' (nI_1 k) (fun a a1 a2 a3 => ?_) (fun j hj => ?_) (fun j j1 j2 => ?_)
          · rw [e, up2_ne (by omega)]
            exact h1 a a1 a2 a3
          · rw [e]
            by_cases ej : j = k
            · rw [ej]
              exact up2_at
            · rw [up2_ne (by omega)]
              exact h2 j (by omega)
          · rw [e, up2_ne (by omega)]
            exact h3 j (by omega) j2
        match k, hk1, et, hN with
        | 0, _, et, hN => exact mm_run 60 (And.intro (fun z => absurd z (by decide)) (fun _ => ⟨vp_in_nI (by decide) (by decide), 54, rfl, x_cutTo_54 (m := 0) et t9 (Nat.zero_le t) (hN _ rfl)⟩))
        | 1, _, et, hN => exact mm_run 60 (And.intro (fun z => absurd z (by decide)) (fun _ => ⟨vp_in_nI (by decide) (by decide), 61, rfl, x_cutTo_61 (m := 0) et t9 (Nat.zero_le t) (hN _ rfl)⟩))
        | 2, _, et, hN => exact mm_run 60 (And.intro (fun z => absurd z (by decide)) (fun _ => ⟨vp_in_nI (by decide) (by decide), 68, rfl, x_cutTo_68 (m := 0) et t9 (Nat.zero_le t) (hN _ rfl)⟩))
  · have z : F 52 1 < 0 := b2i_p z
    rw [if_neg (hs.1.mp z)] at hk
    exact x_refuse (w := 1) (by decide) (hk _ s (((XT.same hx).fi (by decide)).two hn0 hd))
theorem in4 {x : Int32} : (0 ≤ x ∧ x < 4) ↔ (0 ≤ x ∧ x ≤ 3) := lt_in (n := 4) (by decide)
theorem x_fault (hx : XRc F F) (hd : F 14 6 = nI n0) (hn0 : n0 ≤ 9) {t : Int32} (hk : ∀ F1 s1, XT2 F F1 (S_fault F t).2 → K (some (.int (S_fault F t).1)) (hH L xs J s1 F1)) : mm_call mm_Ex (d + 7) k_X5_fault [.ref 2, .int t] (hH L xs J s F) K := by
  by_cases c : 0 ≤ t ∧ t ≤ 3
  · obtain ⟨j, hj, rfl⟩ := in_nI (n := 3) (by decide) c.1 c.2
    match j, hj with
    | 0, _ => exact x_fault_0 hx hd hn0 hk
    | 1, _ => exact x_fault_1 hx hd hn0 hk
    | 2, _ => exact x_fault_2 hx hd hn0 hk
    | 3, _ => exact x_fault_3 hx hd hn0 hk
  · unfold S_fault at hk
    dsimp only at hk
    rw [if_neg c] at hk
    exact mm_run 60 (x_within (And.intro (fun z => absurd (in4.mp (b2i_p z)) c) (fun _ => hk _ s ((XT.same hx).two hn0 hd))))
theorem x_court (hx : XRc F F) (hd : F 14 6 = nI n0) (hn0 : n0 ≤ 9) {t : Int32} (hk : ∀ F1 s1, XT2 F F1 (S_court F t).2 → K (some (.int (S_court F t).1)) (hH L xs J s1 F1)) : mm_call mm_Ex (d + 7) k_X5_court [.ref 2, .int t] (hH L xs J s F) K := by
  by_cases c : 0 ≤ t ∧ t ≤ 3
  · obtain ⟨j, hj, rfl⟩ := in_nI (n := 3) (by decide) c.1 c.2
    match j, hj with
    | 0, _ => exact x_court_0 hx hd hn0 hk
    | 1, _ => exact x_court_1 hx hd hn0 hk
    | 2, _ => exact x_court_2 hx hd hn0 hk
    | 3, _ => exact x_court_3 hx hd hn0 hk
  · unfold S_court at hk
    dsimp only at hk
    rw [if_neg c] at hk
    exact mm_run 60 (x_within (And.intro (fun z => absurd (in4.mp (b2i_p z)) c) (fun _ => hk _ s ((XT.same hx).two hn0 hd))))
end XCr
