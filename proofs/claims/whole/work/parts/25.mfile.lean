/-! the reference: filed, struck, kept -/
/-- one more ruling -/
def S_adds (F : Nat → Nat → Int32) (n : Nat) (a b c e f g : Int32) : Nat → Nat → Int32 := up2 (up2 (up2 (up2 (up2 (up2 (up2 F 82 n a) 83 n b) 84 n c) 85 n e) 86 n f) 87 n g) 75 10 (nI (n + 1))
def S_file (F : Nat → Nat → Int32) (k dy v c hw : Int32) : Int32 × (Nat → Nat → Int32) :=
  if ((0 ≤ k ∧ k ≤ 5) ∧ (0 ≤ dy ∧ dy ≤ 9) ∧ (0 ≤ v ∧ v ≤ 1)) ∧ (((0 ≤ c ∧ c ≤ F 75 10 - 1) ∧ (hw = 1 ∨ hw = -1) ∧ F 83 c.toNatClampNeg < dy) ∨ (¬ ((0 ≤ c ∧ c ≤ F 75 10 - 1) ∧ (hw = 1 ∨ hw = -1)) ∧ c = -9 ∧ hw = 0)) then (if F 75 10 = 9 then (-2, F) else (F 75 10, S_adds F (F 75 10).toNatClampNeg k dy v c hw 0)) else (-1, F)
def S_strike (F : Nat → Nat → Int32) (m : Int32) : Int32 × (Nat → Nat → Int32) :=
  if 0 ≤ m ∧ m ≤ F 75 10 then (F 75 10 - m, up2 F 75 10 m) else (-1, F)
/-- places of the kept ones: by lot, ruling, field -/
def keepF (F : Nat → Nat → Int32) (k n : Nat) : Nat → Int32 := fun x => if 54 * k ≤ x ∧ x < 54 * k + 6 * n then mq F ((x - 54 * k) % 6) ((x - 54 * k) / 6) else F 89 x
def S_keep (F : Nat → Nat → Int32) (k : Int32) : Int32 × (Nat → Nat → Int32) :=
  if 0 ≤ k ∧ k ≤ 2 then (if F 75 10 = 0 then (-4, F) else (F 75 10, upF (up2 F 88 k.toNatClampNeg (F 75 10)) 89 (keepF F k.toNatClampNeg (F 75 10).toNatClampNeg))) else (-1, F)
def onF (F : Nat → Nat → Int32) (k m : Nat) : Nat → Nat → Int32 := upF (upF (upF (upF (upF (upF (up2 F 75 10 (nI m)) 82 (fa_fill (fun i => F 89 (54 * k + 6 * i)) (F 82) m)) 83 (fa_fill (fun i => F 89 (54 * k + 6 * i + 1)) (F 83) m)) 84 (fa_fill (fun i => F 89 (54 * k + 6 * i + 2)) (F 84) m)) 85 (fa_fill (fun i => F 89 (54 * k + 6 * i + 3)) (F 85) m)) 86 (fa_fill (fun i => F 89 (54 * k + 6 * i + 4)) (F 86) m)) 87 (fa_fill (fun i => F 89 (54 * k + 6 * i + 5)) (F 87) m)
def S_on (F : Nat → Nat → Int32) (k : Int32) : Int32 × (Nat → Nat → Int32) :=
  if 0 ≤ k ∧ k ≤ 2 then (if 0 ≤ F 88 k.toNatClampNeg then (F 88 k.toNatClampNeg, onF F k.toNatClampNeg (F 88 k.toNatClampNeg).toNatClampNeg) else (-3, S_fi F 1)) else (-1, F)
/-- all are there, nothing more is against them -/
def S_all (F : Nat → Nat → Int32) (n : Nat) : Nat → Nat → Int32 := upF (up2 F 75 19 (nI (2 ^ n - 1))) 90 (fil (F 90) 0 9 0)
section MF
variable {d L s : Nat} {xs : Nat → Int32} {J : Nat → Int64} {F : Nat → Nat → Int32} {K : mm_K} {h : mm_H} {n : Nat}
theorem s_adds (hn : F 75 10 = nI n) (h9 : n < 9) {a b c e f g : Int32} (hk : K none (hH L xs J s (S_adds F n a b c e f g))) : mm_call mm_Ex d k_X6_adds [.ref 75, .int a, .int b, .int c, .int e, .int f, .int g] (hH L xs J s F) K := by
  have hv : vp_in (F 75 10) 9 := by rw [hn]; exact vp_in_nI (by omega) (by decide)
  have en : (F 75 10).toNatClampNeg = n := by rw [hn]; exact tn_nI (by omega)
  refine mm_run 60 ⟨hv, hv, hv, hv, hv, hv, ?_⟩
  refine kh (hp7 (g7 := upd (F 75) 10 (F 75 10 + 1)) rfl rfl rfl rfl rfl rfl rfl) ?_
  refine kh (hHx fun x => ?_) hk
  unfold S_adds up2
  rw [en, hn, nI_1]
  rfl
theorem m_strike (hn : F 75 10 = nI n) (hc : Cw n (mq F)) {m : Int32} (hk : K (some (.int (S_strike F m).1)) (hH L xs J s (S_strike F m).2)) : mm_call mm_Ex (d + 1) k_X6_strike [.ref 75, .int m] (hH L xs J s F) K := by
  have h9 := hc.1
  unfold S_strike at hk
  refine mm_run 60 (s_in (And.intro (fun c => ?_) (fun c => ?_)))
  · have c' := not_not_b c
    rw [if_pos c'] at hk
    have c2 : 0 ≤ m ∧ m ≤ F 75 10 := c'
    rw [hn] at c2
    obtain ⟨k, hkn, rfl⟩ := in_nI (by omega) c2.1 c2.2
    refine lp (n := k) (P := fun i => ∀ x, x = nI i → mm_Ex (d + 1) k_X6_strike 15 (0, 0) [.ref 75, .int (nI k), .int (F 75 10 - nI k), .int x, .null] [] (hH L xs J s F) K ∧ ∀ v, mm_Ex (d + 1) k_X6_strike 15 (0, 0) [.ref 75, .int (nI k), .int (F 75 10 - nI k), .int x, .int v] [] (hH L xs J s F) K) ?_ ?_ 0 rfl |>.1
    · intro x hx
      subst hx
      have key : ∀ w : Value, mm_Ex (d + 1) k_X6_strike 15 (0, 0) [.ref 75, .int (nI k), .int (F 75 10 - nI k), .int (nI k), w] [] (hH L xs J s F) K := fun w =>
        mm_run 60 (And.intro (fun _ => kh (hp1 rfl) hk) (fun c => absurd ((nI_leI (by omega) (by omega)).mpr (Nat.le_refl k)) c))
      exact ⟨key _, fun v => key _⟩
    · intro i hi ih x hx
      subst hx
      have ei : (nI i).toNatClampNeg = i := tn_nI (by omega)
      have hv : vp_in (nI i) 9 := vp_in_nI (by omega) (by decide)
      obtain ⟨-, -, -, q4, -⟩ := hc.2 i (by omega)
      have key : ∀ w : Value, mm_Ex (d + 1) k_X6_strike 15 (0, 0) [.ref 75, .int (nI k), .int (F 75 10 - nI k), .int (nI i), w] [] (hH L xs J s F) K := by
        intro w
        have J51 : mm_Ex (d + 1) k_X6_strike 51 (0, 0) [.ref 75, .int (nI k), .int (F 75 10 - nI k), .int (nI i), .int 0] [.int (F 86 i), .int (nI i), .ref 86] (hH L xs J s F) K := by
          refine mm_run 60 ⟨hv, kx ?_ ((ih _ (nI_1 i)).2 0)⟩
          refine (hp1 rfl).trans (hHx fun a => ?_)
          rw [ei, fa_upd_same rfl]
          exact congrFun upF_id a
        have J39 : mm_Ex (d + 1) k_X6_strike 39 (0, 0) [.ref 75, .int (nI k), .int (F 75 10 - nI k), .int (nI i), .int 0] [.int (F 85 i), .int (nI i), .ref 85] (hH L xs J s F) K := by
          refine mm_run 60 ⟨hv, And.intro (fun _ => ⟨hv, ?_⟩) (fun c => absurd rfl c)⟩
          show mm_Ex _ _ 51 _ _ _ _ _
          refine kx ((hp1 rfl).trans (hHx (F' := F) fun a => ?_)) ?_
          · rw [ei, fa_upd_same rfl]
            exact congrFun upF_id a
          · have e9 : (F 86 (nI i).toNatClampNeg) = F 86 i := by rw [ei]
            show mm_Ex (d + 1) k_X6_strike 51 _ _ [.int (F 86 (nI i).toNatClampNeg), .int (nI i), .ref 86] (hH L xs J s F) K
            rw [e9]
            exact J51
        have J27 : mm_Ex (d + 1) k_X6_strike 27 (0, 0) [.ref 75, .int (nI k), .int (F 75 10 - nI k), .int (nI i), w] [.int 0] (hH L xs J s F) K := by
          cases w <;> (
            refine mm_run 60 (And.intro (fun _ => ⟨hv, ?_⟩) (fun c => absurd rfl c))
            have e9 : (F 85 (nI i).toNatClampNeg) = F 85 i := by rw [ei]
            show mm_Ex (d + 1) k_X6_strike 39 _ _ [.int (F 85 (nI i).toNatClampNeg), .int (nI i), .ref 85] (hH L xs J s F) K
            rw [e9]
            exact J39)
        refine mm_run 60 (And.intro (fun c => absurd c (nleI hi (by omega))) (fun c => ⟨hv, And.intro (fun c2 => J27) (fun c2 => absurd ?_ c2)⟩))
        rw [ei]
        show mq F 3 i < nI k
        rcases q4 with ⟨q, -⟩ | ⟨j, j1, j2, -⟩
        · rw [q]
          exact Int32.lt_of_lt_of_le (show (-9 : Int32) < 0 by decide) (nle0 (by omega))
        · rw [j2]
          exact (nI_ltI (by omega) (by omega)).mpr (by omega)
      exact ⟨key _, fun v => key _⟩
  · rw [if_neg (b2i_0.mp c)] at hk
    exact hk
theorem s_all (hn : F 75 10 = nI n) (h9 : n ≤ 9) (hk : K none (hH L xs J s (S_all F n))) : mm_call mm_Ex d k_X6_all [.ref 75] (hH L xs J s F) K := by
  refine mm_run 60 ?_
  refine lp (n := 9) (P := fun i => ∀ x h, x = nI i → h = hH L xs J s (upF (up2 F 75 19 (nI (2 ^ n - 1))) 90 (fil (F 90) 0 i 0)) → mm_Ex d k_X6_all 10 (0, 0) [.ref 75, .int x] [] h K) ?_ ?_ 0 _ rfl ?_
  · intro x h hx hh
    subst hx hh
    exact mm_run 50 (And.intro (fun _ => hk) (fun c => absurd (show (9 : Int32) ≤ nI 9 by decide) c))
  · intro i hi ih x h hx hh
    subst hx hh
    have e2 : (nI i).toNatClampNeg = i := tn_nI (by omega)
    refine mm_run 50 (And.intro (fun c => absurd c (nleI (b := 9) hi (by decide))) (fun c => ⟨vp_in_nI (by omega) (by decide), ?_⟩))
    refine ih _ _ (nI_1 i) ((hp1 rfl).trans (hHx fun a => ?_))
    rw [upF_same]
    show upF _ 90 (upd (fil (F 90) 0 i 0) (nI i).toNatClampNeg 0) a = _
    rw [e2]
    have := fil_s (f := F 90) (lo := 0) (n := i) (v := 0)
    rw [Nat.zero_add] at this
    rw [this]
  · rw [fil_0]
    refine (hp1 (g := upd (F 75) 19 ((1 : Int32) <<< (F 75 10 &&& 31) - 1)) rfl).trans (hHx fun a => ?_)
    show up2 F 75 19 ((1 : Int32) <<< (F 75 10 &&& 31) - 1) a = _
    rw [hn, all_I h9]
    exact congrFun (upF_id (F := up2 F 75 19 (nI (2 ^ n - 1))) (k := 90)).symm a
end MF
