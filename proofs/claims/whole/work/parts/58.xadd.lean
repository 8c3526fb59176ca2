/-! the class: courts change -/
def add7 (F : Nat → Nat → Int32) (c n : Nat) (it : Nat → Int32) : Nat → Nat → Int32 := fun k => if c + 1 ≤ k ∧ k ≤ c + 6 then upd (F k) n (it (k - (c + 1))) else if k = c then upd (F c) 6 (nI (n + 1)) else F k
def becF (F : Nat → Nat → Int32) (c o m : Nat) : Nat → Nat → Int32 := fun k => if c + 1 ≤ k ∧ k ≤ c + 6 then fa_fill (F (o + (k - c))) (F k) m else if k = c then upd (F c) 6 (nI m) else F k
section XAd
variable {d L s : Nat} {xs : Nat → Int32} {J : Nat → Int64} {F : Nat → Nat → Int32} {K : mm_K} {h : mm_H} {n : Nat} {q : Rq}
theorem x_add_5 {a b c e f g : Int32} (hn : F 5 6 = nI n) (h9 : n < 9) (hk : K none (hH L xs J s (add7 F 5 n (itF a b c e f g)))) : mm_call mm_Ex d k_X1_add [.ref 5, .int a, .int b, .int c, .int e, .int f, .int g] (hH L xs J s F) K := by
  have hv : vp_in (F 5 6) 9 := by rw [hn]; exact vp_in_nI (by omega) (by decide)
  have en : (F 5 6).toNatClampNeg = n := by rw [hn]; exact tn_nI (by omega)
  have J46 : ∀ H, H = add7 F 5 n (itF a b c e f g) → mm_Ex d k_X1_add 46 (0, 0) [.ref 5, .int a, .int b, .int c, .int e, .int f, .int g] [] (hH L xs J s H) K := fun H e => by
    subst e
    exact mm_run 5 hk
  refine mm_run 60 (And.intro (fun z => absurd (show nI 9 ≤ F 5 6 from z) (by rw [hn]; exact nleI h9 (by decide))) (fun _ => ⟨hv, hv, hv, hv, hv, hv, ?_⟩))
  refine kx (hp7 (g7 := upd (F 5) 6 (F 5 6 + 1)) rfl rfl rfl rfl rfl rfl rfl) (J46 _ ?_)
  funext x
  rw [en, hn, nI_1]
  unfold add7
  by_cases h1 : x = 6
  · subst h1; rfl
  by_cases h2 : x = 7
  · subst h2; rfl
  by_cases h3 : x = 8
  · subst h3; rfl
  by_cases h4 : x = 9
  · subst h4; rfl
  by_cases h5 : x = 10
  · subst h5; rfl
  by_cases h6 : x = 11
  · subst h6; rfl
  by_cases h7 : x = 5
  · subst h7; rfl
  rw [upF_ne h7, upF_ne h6, upF_ne h5, upF_ne h4, upF_ne h3, upF_ne h2, upF_ne h1, if_neg (by omega), if_neg h7]
theorem x_cutTo_5 {m : Nat} (hn : F 5 6 = nI n) (h9 : n ≤ 9) (hm : m ≤ n) (hk : K none (hH L xs J s (up2 F 5 6 (nI m)))) : mm_call mm_Ex (d + 1) k_X1_cutTo [.ref 5, .int (nI m)] (hH L xs J s F) K := by
  have J8 : ∀ H, H = up2 F 5 6 (nI m) → mm_Ex (d + 1) k_X1_cutTo 8 (0, 0) [.ref 5, .int (nI m)] [] (hH L xs J s H) K := fun H e => by
    subst e
    exact mm_run 5 hk
  refine mm_run 20 ?_
  show mm_call mm_Ex d k_X5_within [.int (nI m), .int (F 5 6)] _ _
  rw [hn]
  refine x_within (And.intro (fun c => J8 _ ?_) (fun c => ?_))
  · have c := b2i_0.mp c
    have e : m = n := by
      refine Nat.le_antisymm hm (Nat.le_of_not_lt fun y => c ⟨nle0 (by omega), (nI_ltI (by omega) (by omega)).mpr y⟩)
    rw [e, ← hn]
    exact up2_id.symm
  · exact kx (hp1 (F := F) (k := 5) (g := upd (F 5) 6 (nI m)) rfl) (J8 _ rfl)
theorem x_add_14 {a b c e f g : Int32} (hn : F 14 6 = nI n) (h9 : n < 9) (hk : K none (hH L xs J s (add7 F 14 n (itF a b c e f g)))) : mm_call mm_Ex d k_X1_add [.ref 14, .int a, .int b, .int c, .int e, .int f, .int g] (hH L xs J s F) K := by
  have hv : vp_in (F 14 6) 9 := by rw [hn]; exact vp_in_nI (by omega) (by decide)
  have en : (F 14 6).toNatClampNeg = n := by rw [hn]; exact tn_nI (by omega)
  have J46 : ∀ H, H = add7 F 14 n (itF a b c e f g) → mm_Ex d k_X1_add 46 (0, 0) [.ref 14, .int a, .int b, .int c, .int e, .int f, .int g] [] (hH L xs J s H) K := fun H e => by
    subst e
    exact mm_run 5 hk
  refine mm_run 60 (And.intro (fun z => absurd (show nI 9 ≤ F 14 6 from z) (by rw [hn]; exact nleI h9 (by decide))) (fun _ => ⟨hv, hv, hv, hv, hv, hv, ?_⟩))
  refine kx (hp7 (g7 := upd (F 14) 6 (F 14 6 + 1)) rfl rfl rfl rfl rfl rfl rfl) (J46 _ ?_)
  funext x
  rw [en, hn, nI_1]
  unfold add7
  by_cases h1 : x = 15
  · subst h1; rfl
  by_cases h2 : x = 16
  · subst h2; rfl
  by_cases h3 : x = 17
  · subst h3; rfl
  by_cases h4 : x = 18
  · subst h4; rfl
  by_cases h5 : x = 19
  · subst h5; rfl
  by_cases h6 : x = 20
  · subst h6; rfl
  by_cases h7 : x = 14
  · subst h7; rfl
  rw [upF_ne h7, upF_ne h6, upF_ne h5, upF_ne h4, upF_ne h3, upF_ne h2, upF_ne h1, if_neg (by omega), if_neg h7]
theorem x_cutTo_14 {m : Nat} (hn : F 14 6 = nI n) (h9 : n ≤ 9) (hm : m ≤ n) (hk : K none (hH L xs J s (up2 F 14 6 (nI m)))) : mm_call mm_Ex (d + 1) k_X1_cutTo [.ref 14, .int (nI m)] (hH L xs J s F) K := by
  have J8 : ∀ H, H = up2 F 14 6 (nI m) → mm_Ex (d + 1) k_X1_cutTo 8 (0, 0) [.ref 14, .int (nI m)] [] (hH L xs J s H) K := fun H e => by
    subst e
    exact mm_run 5 hk
  refine mm_run 20 ?_
  show mm_call mm_Ex d k_X5_within [.int (nI m), .int (F 14 6)] _ _
  rw [hn]
  refine x_within (And.intro (fun c => J8 _ ?_) (fun c => ?_))
  · have c := b2i_0.mp c
    have e : m = n := by
      refine Nat.le_antisymm hm (Nat.le_of_not_lt fun y => c ⟨nle0 (by omega), (nI_ltI (by omega) (by omega)).mpr y⟩)
    rw [e, ← hn]
    exact up2_id.symm
  · exact kx (hp1 (F := F) (k := 14) (g := upd (F 14) 6 (nI m)) rfl) (J8 _ rfl)
theorem x_add_54 {a b c e f g : Int32} (hn : F 54 6 = nI n) (h9 : n < 9) (hk : K none (hH L xs J s (add7 F 54 n (itF a b c e f g)))) : mm_call mm_Ex d k_X1_add [.ref 54, .int a, .int b, .int c, .int e, .int f, .int g] (hH L xs J s F) K := by
  have hv : vp_in (F 54 6) 9 := by rw [hn]; exact vp_in_nI (by omega) (by decide)
  have en : (F 54 6).toNatClampNeg = n := by rw [hn]; exact tn_nI (by omega)
  have J46 : ∀ H, H = add7 F 54 n (itF a b c e f g) → mm_Ex d k_X1_add 46 (0, 0) [.ref 54, .int a, .int b, .int c, .int e, .int f, .int g] [] (hH L xs J s H) K := fun H e => by
    subst e
    exact mm_run 5 hk
  refine mm_run 60 (And.intro (fun z => absurd (show nI 9 ≤ F 54 6 from z) (by rw [hn]; exact nleI h9 (by decide))) (fun _ => ⟨hv, hv, hv, hv, hv, hv, ?_⟩))
  refine kx (hp7 (g7 := upd (F 54) 6 (F 54 6 + 1)) rfl rfl rfl rfl rfl rfl rfl) (J46 _ ?_)
  funext x
  rw [en, hn, nI_1]
  unfold add7
  by_cases h1 : x = 55
  · subst h1; rfl
  by_cases h2 : x = 56
  · subst h2; rfl
  by_cases h3 : x = 57
  · subst h3; rfl
  by_cases h4 : x = 58
  · subst h4; rfl
  by_cases h5 : x = 59
  · subst h5; rfl
  by_cases h6 : x = 60
  · subst h6; rfl
  by_cases h7 : x = 54
  · subst h7; rfl
  rw [upF_ne h7, upF_ne h6, upF_ne h5, upF_ne h4, upF_ne h3, upF_ne h2, upF_ne h1, if_neg (by omega), if_neg h7]
theorem x_cutTo_54 {m : Nat} (hn : F 54 6 = nI n) (h9 : n ≤ 9) (hm : m ≤ n) (hk : K none (hH L xs J s (up2 F 54 6 (nI m)))) : mm_call mm_Ex (d + 1) k_X1_cutTo [.ref 54, .int (nI m)] (hH L xs J s F) K := by
  have J8 : ∀ H, H = up2 F 54 6 (nI m) → mm_Ex (d + 1) k_X1_cutTo 8 (0, 0) [.ref 54, .int (nI m)] [] (hH L xs J s H) K := fun H e => by
    subst e
    exact mm_run 5 hk
  refine mm_run 20 ?_
  show mm_call mm_Ex d k_X5_within [.int (nI m), .int (F 54 6)] _ _
  rw [hn]
  refine x_within (And.intro (fun c => J8 _ ?_) (fun c => ?_))
  · have c := b2i_0.mp c
    have e : m = n := by
      refine Nat.le_antisymm hm (Nat.le_of_not_lt fun y => c ⟨nle0 (by omega), (nI_ltI (by omega) (by omega)).mpr y⟩)
    rw [e, ← hn]
    exact up2_id.symm
  · exact kx (hp1 (F := F) (k := 54) (g := upd (F 54) 6 (nI m)) rfl) (J8 _ rfl)
theorem x_add_61 {a b c e f g : Int32} (hn : F 61 6 = nI n) (h9 : n < 9) (hk : K none (hH L xs J s (add7 F 61 n (itF a b c e f g)))) : mm_call mm_Ex d k_X1_add [.ref 61, .int a, .int b, .int c, .int e, .int f, .int g] (hH L xs J s F) K := by
  have hv : vp_in (F 61 6) 9 := by rw [hn]; exact vp_in_nI (by omega) (by decide)
  have en : (F 61 6).toNatClampNeg = n := by rw [hn]; exact tn_nI (by omega)
  have J46 : ∀ H, H = add7 F 61 n (itF a b c e f g) → mm_Ex d k_X1_add 46 (0, 0) [.ref 61, .int a, .int b, .int c, .int e, .int f, .int g] [] (hH L xs J s H) K := fun H e => by
    subst e
    exact mm_run 5 hk
  refine mm_run 60 (And.intro (fun z => absurd (show nI 9 ≤ F 61 6 from z) (by rw [hn]; exact nleI h9 (by decide))) (fun _ => ⟨hv, hv, hv, hv, hv, hv, ?_⟩))
  refine kx (hp7 (g7 := upd (F 61) 6 (F 61 6 + 1)) rfl rfl rfl rfl rfl rfl rfl) (J46 _ ?_)
  funext x
  rw [en, hn, nI_1]
  unfold add7
  by_cases h1 : x = 62
  · subst h1; rfl
  by_cases h2 : x = 63
  · subst h2; rfl
  by_cases h3 : x = 64
  · subst h3; rfl
  by_cases h4 : x = 65
  · subst h4; rfl
  by_cases h5 : x = 66
  · subst h5; rfl
  by_cases h6 : x = 67
  · subst h6; rfl
  by_cases h7 : x = 61
  · subst h7; rfl
  rw [upF_ne h7, upF_ne h6, upF_ne h5, upF_ne h4, upF_ne h3, upF_ne h2, upF_ne h1, if_neg (by omega), if_neg h7]
theorem x_cutTo_61 {m : Nat} (hn : F 61 6 = nI n) (h9 : n ≤ 9) (hm : m ≤ n) (hk : K none (hH L xs J s (up2 F 61 6 (nI m)))) : mm_call mm_Ex (d + 1) k_X1_cutTo [.ref 61, .int (nI m)] (hH L xs J s F) K := by
  have J8 : ∀ H, H = up2 F 61 6 (nI m) → mm_Ex (d + 1) k_X1_cutTo 8 (0, 0) [.ref 61, .int (nI m)] [] (hH L xs J s H) K := fun H e => by
    subst e
    exact mm_run 5 hk
  refine mm_run 20 ?_
  show mm_call mm_Ex d k_X5_within [.int (nI m), .int (F 61 6)] _ _
  rw [hn]
  refine x_within (And.intro (fun c => J8 _ ?_) (fun c => ?_))
  · have c := b2i_0.mp c
    have e : m = n := by
      refine Nat.le_antisymm hm (Nat.le_of_not_lt fun y => c ⟨nle0 (by omega), (nI_ltI (by omega) (by omega)).mpr y⟩)
    rw [e, ← hn]
    exact up2_id.symm
  · exact kx (hp1 (F := F) (k := 61) (g := upd (F 61) 6 (nI m)) rfl) (J8 _ rfl)
theorem x_add_68 {a b c e f g : Int32} (hn : F 68 6 = nI n) (h9 : n < 9) (hk : K none (hH L xs J s (add7 F 68 n (itF a b c e f g)))) : mm_call mm_Ex d k_X1_add [.ref 68, .int a, .int b, .int c, .int e, .int f, .int g] (hH L xs J s F) K := by
  have hv : vp_in (F 68 6) 9 := by rw [hn]; exact vp_in_nI (by omega) (by decide)
  have en : (F 68 6).toNatClampNeg = n := by rw [hn]; exact tn_nI (by omega)
  have J46 : ∀ H, H = add7 F 68 n (itF a b c e f g) → mm_Ex d k_X1_add 46 (0, 0) [.ref 68, .int a, .int b, .int c, .int e, .int f, .int g] [] (hH L xs J s H) K := fun H e => by
    subst e
    exact mm_run 5 hk
  refine mm_run 60 (And.intro (fun z => absurd (show nI 9 ≤ F 68 6 from z) (by rw [hn]; exact nleI h9 (by decide))) (fun _ => ⟨hv, hv, hv, hv, hv, hv, ?_⟩))
  refine kx (hp7 (g7 := upd (F 68) 6 (F 68 6 + 1)) rfl rfl rfl rfl rfl rfl rfl) (J46 _ ?_)
  funext x
  rw [en, hn, nI_1]
  unfold add7
  by_cases h1 : x = 69
  · subst h1; rfl
  by_cases h2 : x = 70
  · subst h2; rfl
  by_cases h3 : x = 71
  · subst h3; rfl
  by_cases h4 : x = 72
  · subst h4; rfl
  by_cases h5 : x = 73
  · subst h5; rfl
  by_cases h6 : x = 74
  · subst h6; rfl
  by_cases h7 : x = 68
  · subst h7; rfl
  rw [upF_ne h7, upF_ne h6, upF_ne h5, upF_ne h4, upF_ne h3, upF_ne h2, upF_ne h1, if_neg (by omega), if_neg h7]
theorem x_cutTo_68 {m : Nat} (hn : F 68 6 = nI n) (h9 : n ≤ 9) (hm : m ≤ n) (hk : K none (hH L xs J s (up2 F 68 6 (nI m)))) : mm_call mm_Ex (d + 1) k_X1_cutTo [.ref 68, .int (nI m)] (hH L xs J s F) K := by
  have J8 : ∀ H, H = up2 F 68 6 (nI m) → mm_Ex (d + 1) k_X1_cutTo 8 (0, 0) [.ref 68, .int (nI m)] [] (hH L xs J s H) K := fun H e => by
    subst e
    exact mm_run 5 hk
  refine mm_run 20 ?_
  show mm_call mm_Ex d k_X5_within [.int (nI m), .int (F 68 6)] _ _
  rw [hn]
  refine x_within (And.intro (fun c => J8 _ ?_) (fun c => ?_))
  · have c := b2i_0.mp c
    have e : m = n := by
      refine Nat.le_antisymm hm (Nat.le_of_not_lt fun y => c ⟨nle0 (by omega), (nI_ltI (by omega) (by omega)).mpr y⟩)
    rw [e, ← hn]
    exact up2_id.symm
  · exact kx (hp1 (F := F) (k := 68) (g := upd (F 68) 6 (nI m)) rfl) (J8 _ rfl)
theorem x_become_5_14 {m : Nat} (hn : F 5 6 = nI n) (h9 : n ≤ 9) (ho : F 14 6 = nI m) (hm : m ≤ 9) (hk : K none (hH L xs J s (becF F 5 14 m))) : mm_call mm_Ex (d + 2) k_X1_become [.ref 5, .ref 14] (hH L xs J s F) K := by
  refine mm_run 20 (x_cutTo_5 (m := 0) hn h9 (Nat.zero_le n) ?_)
  refine lp (n := m) (P := fun i => ∀ x H, x = nI i → H = becF F 5 14 i → mm_Ex (d + 2) k_X1_become 5 (0, 0) [.ref 5, .ref 14, .int x] [] (hH L xs J s H) K) ?_ ?_ 0 _ rfl ?_
  · intro x H hx hH
    subst hx hH
    refine mm_run 60 (And.intro (fun _ => hk) (fun c => absurd ?_ c))
    show F 14 6 ≤ nI m
    rw [ho]
    exact (nI_leI (by omega) (by omega)).mpr (Nat.le_refl m)
  · intro i hi ih x H hx hH'
    subst hx
    have ei : (nI i).toNatClampNeg = i := tn_nI (by omega)
    have hv : vp_in (nI i) 9 := vp_in_nI (by omega) (by decide)
    have eo : ∀ k, 14 ≤ k → k ≤ 14 + 6 → H k = F k := fun k h1 h2 => by
      rw [hH']
      unfold becF
      rw [if_neg (by omega), if_neg (by omega)]
    have eC : H 5 6 = nI i := by rw [hH']; rfl
    refine mm_run 60 (And.intro (fun c => ?_) (fun _ => ⟨hv, hv, hv, hv, hv, hv, x_add_5 eC (by omega) (ih _ _ (nI_1 i) ?_)⟩))
    · have c : H 14 6 ≤ nI i := c
      rw [eo 14 (by omega) (by omega), ho] at c
      exact absurd c (nleI hi (by omega))
    · funext k
      rw [ei]
      unfold add7 becF
      by_cases h1 : 5 + 1 ≤ k ∧ k ≤ 5 + 6
      · rw [if_pos h1, if_pos h1, hH']
        show upd (becF F 5 14 i k) i _ = _
        have e1 : becF F 5 14 i k = fa_fill (F (14 + (k - 5))) (F k) i := by unfold becF; rw [if_pos h1]
        rw [e1, ← fa_fill_succ]
        congr 1
        obtain ⟨w, hw, rfl⟩ : ∃ w, w < 6 ∧ k = 5 + 1 + w := ⟨k - (5 + 1), by omega, by omega⟩
        rw [← hH']
        match w, hw with
        | 0, _ => exact congrFun (eo 15 (by decide) (by decide)) i
        | 1, _ => exact congrFun (eo 16 (by decide) (by decide)) i
        | 2, _ => exact congrFun (eo 17 (by decide) (by decide)) i
        | 3, _ => exact congrFun (eo 18 (by decide) (by decide)) i
        | 4, _ => exact congrFun (eo 19 (by decide) (by decide)) i
        | 5, _ => exact congrFun (eo 20 (by decide) (by decide)) i
      · rw [if_neg h1, if_neg h1]
        by_cases h2 : k = 5
        · rw [if_pos h2, if_pos h2, hH']
          exact fa_upd_twice (F 5) 6 (nI i) (nI (i + 1))
        · rw [if_neg h2, if_neg h2, hH']
          unfold becF
          rw [if_neg h1, if_neg h2]
  · funext k
    unfold becF
    by_cases h1 : 5 + 1 ≤ k ∧ k ≤ 5 + 6
    · rw [if_pos h1, fa_fill_0, up2_ne (by omega)]
    · rw [if_neg h1]
      by_cases h2 : k = 5
      · rw [if_pos h2, h2]
        rfl
      · rw [if_neg h2, up2_ne h2]
theorem x_become_5_54 {m : Nat} (hn : F 5 6 = nI n) (h9 : n ≤ 9) (ho : F 54 6 = nI m) (hm : m ≤ 9) (hk : K none (hH L xs J s (becF F 5 54 m))) : mm_call mm_Ex (d + 2) k_X1_become [.ref 5, .ref 54] (hH L xs J s F) K := by
  refine mm_run 20 (x_cutTo_5 (m := 0) hn h9 (Nat.zero_le n) ?_)
  refine lp (n := m) (P := fun i => ∀ x H, x = nI i → H = becF F 5 54 i → mm_Ex (d + 2) k_X1_become 5 (0, 0) [.ref 5, .ref 54, .int x] [] (hH L xs J s H) K) ?_ ?_ 0 _ rfl ?_
  · intro x H hx hH
    subst hx hH
    refine mm_run 60 (And.intro (fun _ => hk) (fun c => absurd ?_ c))
    show F 54 6 ≤ nI m
    rw [ho]
    exact (nI_leI (by omega) (by omega)).mpr (Nat.le_refl m)
  · intro i hi ih x H hx hH'
    subst hx
    have ei : (nI i).toNatClampNeg = i := tn_nI (by omega)
    have hv : vp_in (nI i) 9 := vp_in_nI (by omega) (by decide)
    have eo : ∀ k, 54 ≤ k → k ≤ 54 + 6 → H k = F k := fun k h1 h2 => by
      rw [hH']
      unfold becF
      rw [if_neg (by omega), if_neg (by omega)]
    have eC : H 5 6 = nI i := by rw [hH']; rfl
    refine mm_run 60 (And.intro (fun c => ?_) (fun _ => ⟨hv, hv, hv, hv, hv, hv, x_add_5 eC (by omega) (ih _ _ (nI_1 i) ?_)⟩))
    · have c : H 54 6 ≤ nI i := c
      rw [eo 54 (by omega) (by omega), ho] at c
      exact absurd c (nleI hi (by omega))
    · funext k
      rw [ei]
      unfold add7 becF
      by_cases h1 : 5 + 1 ≤ k ∧ k ≤ 5 + 6
      · rw [if_pos h1, if_pos h1, hH']
        show upd (becF F 5 54 i k) i _ = _
        have e1 : becF F 5 54 i k = fa_fill (F (54 + (k - 5))) (F k) i := by unfold becF; rw [if_pos h1]
        rw [e1, ← fa_fill_succ]
        congr 1
        obtain ⟨w, hw, rfl⟩ : ∃ w, w < 6 ∧ k = 5 + 1 + w := ⟨k - (5 + 1), by omega, by omega⟩
        rw [← hH']
        match w, hw with
        | 0, _ => exact congrFun (eo 55 (by decide) (by decide)) i
        | 1, _ => exact congrFun (eo 56 (by decide) (by decide)) i
        | 2, _ => exact congrFun (eo 57 (by decide) (by decide)) i
        | 3, _ => exact congrFun (eo 58 (by decide) (by decide)) i
        | 4, _ => exact congrFun (eo 59 (by decide) (by decide)) i
        | 5, _ => exact congrFun (eo 60 (by decide) (by decide)) i
      · rw [if_neg h1, if_neg h1]
        by_cases h2 : k = 5
        · rw [if_pos h2, if_pos h2, hH']
          exact fa_upd_twice (F 5) 6 (nI i) (nI (i + 1))
        · rw [if_neg h2, if_neg h2, hH']
          unfold becF
          rw [if_neg h1, if_neg h2]
  · funext k
    unfold becF
    by_cases h1 : 5 + 1 ≤ k ∧ k ≤ 5 + 6
    · rw [if_pos h1, fa_fill_0, up2_ne (by omega)]
    · rw [if_neg h1]
      by_cases h2 : k = 5
      · rw [if_pos h2, h2]
        rfl
      · rw [if_neg h2, up2_ne h2]
theorem x_become_5_61 {m : Nat} (hn : F 5 6 = nI n) (h9 : n ≤ 9) (ho : F 61 6 = nI m) (hm : m ≤ 9) (hk : K none (hH L xs J s (becF F 5 61 m))) : mm_call mm_Ex (d + 2) k_X1_become [.ref 5, .ref 61] (hH L xs J s F) K := by
  refine mm_run 20 (x_cutTo_5 (m := 0) hn h9 (Nat.zero_le n) ?_)
  refine lp (n := m) (P := fun i => ∀ x H, x = nI i → H = becF F 5 61 i → mm_Ex (d + 2) k_X1_become 5 (0, 0) [.ref 5, .ref 61, .int x] [] (hH L xs J s H) K) ?_ ?_ 0 _ rfl ?_
  · intro x H hx hH
    subst hx hH
    refine mm_run 60 (And.intro (fun _ => hk) (fun c => absurd ?_ c))
    show F 61 6 ≤ nI m
    rw [ho]
    exact (nI_leI (by omega) (by omega)).mpr (Nat.le_refl m)
  · intro i hi ih x H hx hH'
    subst hx
    have ei : (nI i).toNatClampNeg = i := tn_nI (by omega)
    have hv : vp_in (nI i) 9 := vp_in_nI (by omega) (by decide)
    have eo : ∀ k, 61 ≤ k → k ≤ 61 + 6 → H k = F k := fun k h1 h2 => by
      rw [hH']
      unfold becF
      rw [if_neg (by omega), if_neg (by omega)]
    have eC : H 5 6 = nI i := by rw [hH']; rfl
    refine mm_run 60 (And.intro (fun c => ?_) (fun _ => ⟨hv, hv, hv, hv, hv, hv, x_add_5 eC (by omega) (ih _ _ (nI_1 i) ?_)⟩))
    · have c : H 61 6 ≤ nI i := c
      rw [eo 61 (by omega) (by omega), ho] at c
      exact absurd c (nleI hi (by omega))
    · funext k
      rw [ei]
      unfold add7 becF
      by_cases h1 : 5 + 1 ≤ k ∧ k ≤ 5 + 6
      · rw [if_pos h1, if_pos h1, hH']
        show upd (becF F 5 61 i k) i _ = _
        have e1 : becF F 5 61 i k = fa_fill (F (61 + (k - 5))) (F k) i := by unfold becF; rw [if_pos h1]
        rw [e1, ← fa_fill_succ]
        congr 1
        obtain ⟨w, hw, rfl⟩ : ∃ w, w < 6 ∧ k = 5 + 1 + w := ⟨k - (5 + 1), by omega, by omega⟩
        rw [← hH']
        match w, hw with
        | 0, _ => exact congrFun (eo 62 (by decide) (by decide)) i
        | 1, _ => exact congrFun (eo 63 (by decide) (by decide)) i
        | 2, _ => exact congrFun (eo 64 (by decide) (by decide)) i
        | 3, _ => exact congrFun (eo 65 (by decide) (by decide)) i
        | 4, _ => exact congrFun (eo 66 (by decide) (by decide)) i
        | 5, _ => exact congrFun (eo 67 (by decide) (by decide)) i
      · rw [if_neg h1, if_neg h1]
        by_cases h2 : k = 5
        · rw [if_pos h2, if_pos h2, hH']
          exact fa_upd_twice (F 5) 6 (nI i) (nI (i + 1))
        · rw [if_neg h2, if_neg h2, hH']
          unfold becF
          rw [if_neg h1, if_neg h2]
  · funext k
    unfold becF
    by_cases h1 : 5 + 1 ≤ k ∧ k ≤ 5 + 6
    · rw [if_pos h1, fa_fill_0, up2_ne (by omega)]
    · rw [if_neg h1]
      by_cases h2 : k = 5
      · rw [if_pos h2, h2]
        rfl
      · rw [if_neg h2, up2_ne h2]
theorem x_become_5_68 {m : Nat} (hn : F 5 6 = nI n) (h9 : n ≤ 9) (ho : F 68 6 = nI m) (hm : m ≤ 9) (hk : K none (hH L xs J s (becF F 5 68 m))) : mm_call mm_Ex (d + 2) k_X1_become [.ref 5, .ref 68] (hH L xs J s F) K := by
  refine mm_run 20 (x_cutTo_5 (m := 0) hn h9 (Nat.zero_le n) ?_)
  refine lp (n := m) (P := fun i => ∀ x H, x = nI i → H = becF F 5 68 i → mm_Ex (d + 2) k_X1_become 5 (0, 0) [.ref 5, .ref 68, .int x] [] (hH L xs J s H) K) ?_ ?_ 0 _ rfl ?_
  · intro x H hx hH
    subst hx hH
    refine mm_run 60 (And.intro (fun _ => hk) (fun c => absurd ?_ c))
    show F 68 6 ≤ nI m
    rw [ho]
    exact (nI_leI (by omega) (by omega)).mpr (Nat.le_refl m)
  · intro i hi ih x H hx hH'
    subst hx
    have ei : (nI i).toNatClampNeg = i := tn_nI (by omega)
    have hv : vp_in (nI i) 9 := vp_in_nI (by omega) (by decide)
    have eo : ∀ k, 68 ≤ k → k ≤ 68 + 6 → H k = F k := fun k h1 h2 => by
      rw [hH']
      unfold becF
      rw [if_neg (by omega), if_neg (by omega)]
    have eC : H 5 6 = nI i := by rw [hH']; rfl
    refine mm_run 60 (And.intro (fun c => ?_) (fun _ => ⟨hv, hv, hv, hv, hv, hv, x_add_5 eC (by omega) (ih _ _ (nI_1 i) ?_)⟩))
    · have c : H 68 6 ≤ nI i := c
      rw [eo 68 (by omega) (by omega), ho] at c
      exact absurd c (nleI hi (by omega))
    · funext k
      rw [ei]
      unfold add7 becF
      by_cases h1 : 5 + 1 ≤ k ∧ k ≤ 5 + 6
      · rw [if_pos h1, if_pos h1, hH']
        show upd (becF F 5 68 i k) i _ = _
        have e1 : becF F 5 68 i k = fa_fill (F (68 + (k - 5))) (F k) i := by unfold becF; rw [if_pos h1]
        rw [e1, ← fa_fill_succ]
        congr 1
        obtain ⟨w, hw, rfl⟩ : ∃ w, w < 6 ∧ k = 5 + 1 + w := ⟨k - (5 + 1), by omega, by omega⟩
        rw [← hH']
        match w, hw with
        | 0, _ => exact congrFun (eo 69 (by decide) (by decide)) i
        | 1, _ => exact congrFun (eo 70 (by decide) (by decide)) i
        | 2, _ => exact congrFun (eo 71 (by decide) (by decide)) i
        | 3, _ => exact congrFun (eo 72 (by decide) (by decide)) i
        | 4, _ => exact congrFun (eo 73 (by decide) (by decide)) i
        | 5, _ => exact congrFun (eo 74 (by decide) (by decide)) i
      · rw [if_neg h1, if_neg h1]
        by_cases h2 : k = 5
        · rw [if_pos h2, if_pos h2, hH']
          exact fa_upd_twice (F 5) 6 (nI i) (nI (i + 1))
        · rw [if_neg h2, if_neg h2, hH']
          unfold becF
          rw [if_neg h1, if_neg h2]
  · funext k
    unfold becF
    by_cases h1 : 5 + 1 ≤ k ∧ k ≤ 5 + 6
    · rw [if_pos h1, fa_fill_0, up2_ne (by omega)]
    · rw [if_neg h1]
      by_cases h2 : k = 5
      · rw [if_pos h2, h2]
        rfl
      · rw [if_neg h2, up2_ne h2]
theorem x_become_54_5 {m : Nat} (hn : F 54 6 = nI n) (h9 : n ≤ 9) (ho : F 5 6 = nI m) (hm : m ≤ 9) (hk : K none (hH L xs J s (becF F 54 5 m))) : mm_call mm_Ex (d + 2) k_X1_become [.ref 54, .ref 5] (hH L xs J s F) K := by
  refine mm_run 20 (x_cutTo_54 (m := 0) hn h9 (Nat.zero_le n) ?_)
  refine lp (n := m) (P := fun i => ∀ x H, x = nI i → H = becF F 54 5 i → mm_Ex (d + 2) k_X1_become 5 (0, 0) [.ref 54, .ref 5, .int x] [] (hH L xs J s H) K) ?_ ?_ 0 _ rfl ?_
  · intro x H hx hH
    subst hx hH
    refine mm_run 60 (And.intro (fun _ => hk) (fun c => absurd ?_ c))
    show F 5 6 ≤ nI m
    rw [ho]
    exact (nI_leI (by omega) (by omega)).mpr (Nat.le_refl m)
  · intro i hi ih x H hx hH'
    subst hx
    have ei : (nI i).toNatClampNeg = i := tn_nI (by omega)
    have hv : vp_in (nI i) 9 := vp_in_nI (by omega) (by decide)
    have eo : ∀ k, 5 ≤ k → k ≤ 5 + 6 → H k = F k := fun k h1 h2 => by
      rw [hH']
      unfold becF
      rw [if_neg (by omega), if_neg (by omega)]
    have eC : H 54 6 = nI i := by rw [hH']; rfl
    refine mm_run 60 (And.intro (fun c => ?_) (fun _ => ⟨hv, hv, hv, hv, hv, hv, x_add_54 eC (by omega) (ih _ _ (nI_1 i) ?_)⟩))
    · have c : H 5 6 ≤ nI i := c
      rw [eo 5 (by omega) (by omega), ho] at c
      exact absurd c (nleI hi (by omega))
    · funext k
      rw [ei]
      unfold add7 becF
      by_cases h1 : 54 + 1 ≤ k ∧ k ≤ 54 + 6
      · rw [if_pos h1, if_pos h1, hH']
        show upd (becF F 54 5 i k) i _ = _
        have e1 : becF F 54 5 i k = fa_fill (F (5 + (k - 54))) (F k) i := by unfold becF; rw [if_pos h1]
        rw [e1, ← fa_fill_succ]
        congr 1
        obtain ⟨w, hw, rfl⟩ : ∃ w, w < 6 ∧ k = 54 + 1 + w := ⟨k - (54 + 1), by omega, by omega⟩
        rw [← hH']
        match w, hw with
        | 0, _ => exact congrFun (eo 6 (by decide) (by decide)) i
        | 1, _ => exact congrFun (eo 7 (by decide) (by decide)) i
        | 2, _ => exact congrFun (eo 8 (by decide) (by decide)) i
        | 3, _ => exact congrFun (eo 9 (by decide) (by decide)) i
        | 4, _ => exact congrFun (eo 10 (by decide) (by decide)) i
        | 5, _ => exact congrFun (eo 11 (by decide) (by decide)) i
      · rw [if_neg h1, if_neg h1]
        by_cases h2 : k = 54
        · rw [if_pos h2, if_pos h2, hH']
          exact fa_upd_twice (F 54) 6 (nI i) (nI (i + 1))
        · rw [if_neg h2, if_neg h2, hH']
          unfold becF
          rw [if_neg h1, if_neg h2]
  · funext k
    unfold becF
    by_cases h1 : 54 + 1 ≤ k ∧ k ≤ 54 + 6
    · rw [if_pos h1, fa_fill_0, up2_ne (by omega)]
    · rw [if_neg h1]
      by_cases h2 : k = 54
      · rw [if_pos h2, h2]
        rfl
      · rw [if_neg h2, up2_ne h2]
theorem x_become_61_5 {m : Nat} (hn : F 61 6 = nI n) (h9 : n ≤ 9) (ho : F 5 6 = nI m) (hm : m ≤ 9) (hk : K none (hH L xs J s (becF F 61 5 m))) : mm_call mm_Ex (d + 2) k_X1_become [.ref 61, .ref 5] (hH L xs J s F) K := by
  refine mm_run 20 (x_cutTo_61 (m := 0) hn h9 (Nat.zero_le n) ?_)
  refine lp (n := m) (P := fun i => ∀ x H, x = nI i → H = becF F 61 5 i → mm_Ex (d + 2) k_X1_become 5 (0, 0) [.ref 61, .ref 5, .int x] [] (hH L xs J s H) K) ?_ ?_ 0 _ rfl ?_
  · intro x H hx hH
    subst hx hH
    refine mm_run 60 (And.intro (fun _ => hk) (fun c => absurd ?_ c))
    show F 5 6 ≤ nI m
    rw [ho]
    exact (nI_leI (by omega) (by omega)).mpr (Nat.le_refl m)
  · intro i hi ih x H hx hH'
    subst hx
    have ei : (nI i).toNatClampNeg = i := tn_nI (by omega)
    have hv : vp_in (nI i) 9 := vp_in_nI (by omega) (by decide)
    have eo : ∀ k, 5 ≤ k → k ≤ 5 + 6 → H k = F k := fun k h1 h2 => by
      rw [hH']
      unfold becF
      rw [if_neg (by omega), if_neg (by omega)]
    have eC : H 61 6 = nI i := by rw [hH']; rfl
    refine mm_run 60 (And.intro (fun c => ?_) (fun _ => ⟨hv, hv, hv, hv, hv, hv, x_add_61 eC (by omega) (ih _ _ (nI_1 i) ?_)⟩))
    · have c : H 5 6 ≤ nI i := c
      rw [eo 5 (by omega) (by omega), ho] at c
      exact absurd c (nleI hi (by omega))
    · funext k
      rw [ei]
      unfold add7 becF
      by_cases h1 : 61 + 1 ≤ k ∧ k ≤ 61 + 6
      · rw [if_pos h1, if_pos h1, hH']
        show upd (becF F 61 5 i k) i _ = _
        have e1 : becF F 61 5 i k = fa_fill (F (5 + (k - 61))) (F k) i := by unfold becF; rw [if_pos h1]
        rw [e1, ← fa_fill_succ]
        congr 1
        obtain ⟨w, hw, rfl⟩ : ∃ w, w < 6 ∧ k = 61 + 1 + w := ⟨k - (61 + 1), by omega, by omega⟩
        rw [← hH']
        match w, hw with
        | 0, _ => exact congrFun (eo 6 (by decide) (by decide)) i
        | 1, _ => exact congrFun (eo 7 (by decide) (by decide)) i
        | 2, _ => exact congrFun (eo 8 (by decide) (by decide)) i
        | 3, _ => exact congrFun (eo 9 (by decide) (by decide)) i
        | 4, _ => exact congrFun (eo 10 (by decide) (by decide)) i
        | 5, _ => exact congrFun (eo 11 (by decide) (by decide)) i
      · rw [if_neg h1, if_neg h1]
        by_cases h2 : k = 61
        · rw [if_pos h2, if_pos h2, hH']
          exact fa_upd_twice (F 61) 6 (nI i) (nI (i + 1))
        · rw [if_neg h2, if_neg h2, hH']
          unfold becF
          rw [if_neg h1, if_neg h2]
  · funext k
    unfold becF
    by_cases h1 : 61 + 1 ≤ k ∧ k ≤ 61 + 6
    · rw [if_pos h1, fa_fill_0, up2_ne (by omega)]
    · rw [if_neg h1]
      by_cases h2 : k = 61
      · rw [if_pos h2, h2]
        rfl
      · rw [if_neg h2, up2_ne h2]
theorem x_become_68_5 {m : Nat} (hn : F 68 6 = nI n) (h9 : n ≤ 9) (ho : F 5 6 = nI m) (hm : m ≤ 9) (hk : K none (hH L xs J s (becF F 68 5 m))) : mm_call mm_Ex (d + 2) k_X1_become [.ref 68, .ref 5] (hH L xs J s F) K := by
  refine mm_run 20 (x_cutTo_68 (m := 0) hn h9 (Nat.zero_le n) ?_)
  refine lp (n := m) (P := fun i => ∀ x H, x = nI i → H = becF F 68 5 i → mm_Ex (d + 2) k_X1_become 5 (0, 0) [.ref 68, .ref 5, .int x] [] (hH L xs J s H) K) ?_ ?_ 0 _ rfl ?_
  · intro x H hx hH
    subst hx hH
    refine mm_run 60 (And.intro (fun _ => hk) (fun c => absurd ?_ c))
    show F 5 6 ≤ nI m
    rw [ho]
    exact (nI_leI (by omega) (by omega)).mpr (Nat.le_refl m)
  · intro i hi ih x H hx hH'
    subst hx
    have ei : (nI i).toNatClampNeg = i := tn_nI (by omega)
    have hv : vp_in (nI i) 9 := vp_in_nI (by omega) (by decide)
    have eo : ∀ k, 5 ≤ k → k ≤ 5 + 6 → H k = F k := fun k h1 h2 => by
      rw [hH']
      unfold becF
      rw [if_neg (by omega), if_neg (by omega)]
    have eC : H 68 6 = nI i := by rw [hH']; rfl
    refine mm_run 60 (And.intro (fun c => ?_) (fun _ => ⟨hv, hv, hv, hv, hv, hv, x_add_68 eC (by omega) (ih _ _ (nI_1 i) ?_)⟩))
    · have c : H 5 6 ≤ nI i := c
      rw [eo 5 (by omega) (by omega), ho] at c
      exact absurd c (nleI hi (by omega))
    · funext k
      rw [ei]
      unfold add7 becF
      by_cases h1 : 68 + 1 ≤ k ∧ k ≤ 68 + 6
      · rw [if_pos h1, if_pos h1, hH']
        show upd (becF F 68 5 i k) i _ = _
        have e1 : becF F 68 5 i k = fa_fill (F (5 + (k - 68))) (F k) i := by unfold becF; rw [if_pos h1]
        rw [e1, ← fa_fill_succ]
        congr 1
        obtain ⟨w, hw, rfl⟩ : ∃ w, w < 6 ∧ k = 68 + 1 + w := ⟨k - (68 + 1), by omega, by omega⟩
        rw [← hH']
        match w, hw with
        | 0, _ => exact congrFun (eo 6 (by decide) (by decide)) i
        | 1, _ => exact congrFun (eo 7 (by decide) (by decide)) i
        | 2, _ => exact congrFun (eo 8 (by decide) (by decide)) i
        | 3, _ => exact congrFun (eo 9 (by decide) (by decide)) i
        | 4, _ => exact congrFun (eo 10 (by decide) (by decide)) i
        | 5, _ => exact congrFun (eo 11 (by decide) (by decide)) i
      · rw [if_neg h1, if_neg h1]
        by_cases h2 : k = 68
        · rw [if_pos h2, if_pos h2, hH']
          exact fa_upd_twice (F 68) 6 (nI i) (nI (i + 1))
        · rw [if_neg h2, if_neg h2, hH']
          unfold becF
          rw [if_neg h1, if_neg h2]
  · funext k
    unfold becF
    by_cases h1 : 68 + 1 ≤ k ∧ k ≤ 68 + 6
    · rw [if_pos h1, fa_fill_0, up2_ne (by omega)]
    · rw [if_neg h1]
      by_cases h2 : k = 68
      · rw [if_pos h2, h2]
        rfl
      · rw [if_neg h2, up2_ne h2]
end XAd
