/-! the class: reading a text -/
theorem hpS {L : Nat} {xs : Nat → Int32} {J : Nat → Int64} {s s' : Nat} {F : Nat → Nat → Int32} {c : mm_C} (e : hc L xs J s' 13 (F 13) = c) : ((93, mU (hH L xs J s F).2 13 c) : mm_H) = hH L xs J s' F := by
  show (93, _) = (93, _)
  congr 1
  funext a
  by_cases h : a = 13
  · subst h
    show (if 13 = 13 then c else _) = hc L xs J s' 13 (F 13)
    rw [if_pos rfl, e]
  · simp only [mU, if_neg h]
    have e2 : Nat.beq a 13 = false := by
      cases hb : Nat.beq a 13
      · rfl
      · exact absurd (Nat.eq_of_beq_eq_true hb) h
    show hc L xs J s a (F a) = hc L xs J s' a (F a)
    unfold hc
    rw [e2]
    rfl
/-- a sign as the class has it: 0 beyond the end -/
def sv (B : Nat → Int32) (Z p : Nat) : Int32 := if p < Z then B p else 0
theorem sv_eq {B : Nat → Int32} {Z p : Nat} {c : Int32} (hB : ∀ k, Z ≤ k → B k = -9) (h0 : ¬ c = 0) (h9 : ¬ c = -9) : sv B Z p = c ↔ B p = c := by
  unfold sv
  by_cases h : p < Z
  · rw [if_pos h]
  · rw [if_neg h, hB p (by omega)]
    exact ⟨fun y => absurd y.symm h0, fun y => absurd y.symm h9⟩
def fgX (b : Int32) : Int32 := if 0 ≤ b - 48 ∧ b - 48 ≤ 9 then b - 48 else -1
theorem fgX_no {b : Int32} : fgX b < 0 ↔ fgC b 9 = -9 := by
  unfold fgX fgC
  by_cases c : 0 ≤ b - 48 ∧ b - 48 ≤ 9
  · rw [if_pos c, if_pos c]
    exact ⟨fun y => absurd c.1 (Int32.not_le.mpr y), fun y => by rw [y] at c; exact absurd c.1 (by decide)⟩
  · rw [if_neg c, if_neg c]
    exact ⟨fun _ => rfl, fun _ => by decide⟩
theorem fgX_eq {b : Int32} (h : ¬ fgC b 9 = -9) : fgX b = fgC b 9 := by
  unfold fgX fgC at *
  by_cases c : 0 ≤ b - 48 ∧ b - 48 ≤ 9
  · rw [if_pos c, if_pos c]
  · rw [if_neg c] at h
    exact absurd rfl h
theorem fg_n {b : Int32} {m : Nat} (hm : m ≤ 9) : (¬ fgC b (nI m) = -9 ↔ (0 ≤ fgX b ∧ fgX b ≤ nI m)) ∧ (¬ fgC b (nI m) = -9 → fgC b (nI m) = fgX b) := by
  unfold fgX fgC
  have m9 : nI m ≤ 9 := (nI_leI (b := 9) (by omega) (by decide)).mpr hm
  by_cases c : 0 ≤ b - 48 ∧ b - 48 ≤ nI m
  · rw [if_pos c, if_pos ⟨c.1, Int32.le_trans c.2 m9⟩]
    refine ⟨⟨fun _ => c, fun _ y => ?_⟩, fun _ => rfl⟩
    rw [y] at c
    exact absurd c.1 (by decide)
  · rw [if_neg c]
    refine ⟨⟨fun y => absurd rfl y, fun y => ?_⟩, fun y => absurd rfl y⟩
    by_cases c2 : 0 ≤ b - 48 ∧ b - 48 ≤ 9
    · rw [if_pos c2] at y
      exact absurd y c
    · rw [if_neg c2] at y
      exact absurd y.1 (by decide)
theorem kd_yes {c : Int32} {i : Nat} (hi : i < 6) (hn : ∀ j, j < i → ¬ c = mm_let j) (h : c = mm_let i) : kdC c = nI i := by
  subst h
  match i, hi with
  | 0, _ => decide
  | 1, _ => decide
  | 2, _ => decide
  | 3, _ => decide
  | 4, _ => decide
  | 5, _ => decide
theorem kd_no {c : Int32} (hn : ∀ j, j < 6 → ¬ c = mm_let j) : kdC c = -9 := by
  unfold kdC
  rw [if_neg (show ¬ c = 114 from hn 0 (by decide)), if_neg (show ¬ c = 98 from hn 1 (by decide)), if_neg (show ¬ c = 102 from hn 2 (by decide)), if_neg (show ¬ c = 117 from hn 3 (by decide)), if_neg (show ¬ c = 99 from hn 4 (by decide)), if_neg (show ¬ c = 107 from hn 5 (by decide))]
theorem let_ne : ∀ i, i < 6 → ¬ mm_let i = 0 ∧ ¬ mm_let i = -9 := by decide
/-- an item, but for what comes behind its marks -/
def pI0 (B : Nat → Int32) (n : Nat) (D : Nat → Int32) (at' : Nat) : Sum Nat ((Nat → Int32) × Nat) :=
  if kdC (B at') = -9 ∨ n = 9 then .inl at'
  else if fgC (B (at' + 1)) 9 = -9 then .inl (at' + 1)
  else if fgC (B (at' + 2)) 1 = -9 then .inl (at' + 2)
  else match pC B n D (fgC (B (at' + 1)) 9) (at' + 3) with
    | .inl p => .inl p
    | .inr (ci, hw, e) => .inr (itF (kdC (B at')) (fgC (B (at' + 1)) 9) (fgC (B (at' + 2)) 1) ci hw (nI (mF B e 5).1), (mF B e 5).2)
theorem pI_0 {B : Nat → Int32} {n : Nat} {D : Nat → Int32} {a : Nat} : pI B n D a = match pI0 B n D a with
    | .inl p => .inl p
    | .inr (it, e) => if dgB (B e) then .inl e else .inr (it, e) := by
  unfold pI pI0
  split
  · rfl
  · split
    · rfl
    · split
      · rfl
      · split <;> rename_i h <;> rw [h]
theorem kd_9 {c : Int32} (h : dgB c = true) : kdC c = -9 := by
  unfold dgB at h
  have h := of_decide_eq_true h
  obtain ⟨j, hj, rfl⟩ := in_nI (n := 57) (by decide) (Int32.le_trans (by decide) h.1) h.2
  have h48 := (nI_leI (a := 48) (by decide) (by omega)).mp h.1
  have : ∀ j, j ≤ 57 → kdC (nI j) = -9 := by decide +kernel
  exact this j hj
theorem dg_blank {c : Int32} (h : dgB c = true) : ¬ c = 32 := fun e => by
  rw [e] at h
  exact absurd h (by decide)
theorem dg_m9 {c : Int32} (h : dgB c = true) : ¬ c = -9 := fun e => by
  rw [e] at h
  exact absurd h (by decide)
theorem rd_skip {B : Nat → Int32} {Z n : Nat} {Q : Rq} {f : Nat} : ∀ {m a : Nat}, (∀ k, a ≤ k → k < a + m → B k = 32) → a + m ≤ Z → rdS B Z (f + m) a n Q = rdS B Z f (a + m) n Q
  | 0, a, _, _ => rfl
  | m + 1, a, h, hz => by
    show rdS B Z ((f + m) + 1) a n Q = _
    rw [rdS, if_neg (by omega), if_pos (h a (by omega) (by omega)), rd_skip (fun k h1 h2 => h k (by omega) (by omega)) (by omega)]
    congr 1
    omega
theorem pl_up {L : Nat} {xs : Nat → Int32} {J : Nat → Int64} {S k : Nat} {G : Nat → Nat → Int32} : ((93, mU (hH L xs J S (up2 G 13 2 (nI k))).2 13 (hc L xs J S 13 (upd (G 13) 2 (nI k + 1)))) : mm_H) = hH L xs J S (up2 G 13 2 (nI (k + 1))) := by
  rw [nI_1]
  refine (hp1 (F := up2 G 13 2 (nI k)) (g := upd (G 13) 2 (nI (k + 1))) rfl).trans ?_
  show hH L xs J S (upF (upF G 13 _) 13 _) = _
  rw [upF_same]
  rfl
/-- the draft -/
def DR (G : Nat → Nat → Int32) (n : Nat) (Q : Rq) : Prop := G 14 6 = nI n ∧ n ≤ 9 ∧ ∀ w, w < 6 → ∀ i, i < n → G (15 + w) i = Q w i
theorem DR.up {G : Nat → Nat → Int32} {n : Nat} {Q : Rq} (h : DR G n Q) {x : Int32} : DR (up2 G 13 2 x) n Q := ⟨by rw [up2_ne (by decide)]; exact h.1, h.2.1, fun w hw i hi => by rw [up2_ne (by omega)]; exact h.2.2 w hw i hi⟩
theorem DR.add {G : Nat → Nat → Int32} {n : Nat} {Q : Rq} (h : DR G n Q) (h9 : n < 9) {it : Nat → Int32} : DR (add7 G 14 n it) (n + 1) (qUp Q n it) := by
  refine ⟨rfl, by omega, fun w hw i hi => ?_⟩
  unfold add7 qUp
  rw [if_pos (by omega), show 15 + w - (14 + 1) = w by omega]
  by_cases e : i = n
  · rw [e, upd_at, if_pos rfl]
  · rw [upd_ne e, if_neg e]
    exact h.2.2 w hw i (by omega)
/-- what reading leaves of the rest -/
def XZ (F G : Nat → Nat → Int32) : Prop := ∀ k, ¬ (13 ≤ k ∧ k ≤ 20) → G k = F k
theorem pI0_le {B : Nat → Int32} {n a p : Nat} {D : Nat → Int32} (h : pI0 B n D a = .inl p) : p ≤ a + 5 := by
  unfold pI0 at h
  split at h
  · cases h; omega
  · split at h
    · cases h; omega
    · split at h
      · cases h; omega
      · split at h
        · rename_i z
          cases h
          unfold pC at z
          split at z
          · split at z
            · cases z; omega
            · split at z
              · cases z
              · cases z; omega
          · split at z
            · cases z
            · cases z; omega
        · cases h
section XRd
variable {d L : Nat} {xs : Nat → Int32} {J : Nat → Int64} {G : Nat → Nat → Int32} {K : mm_K} {h : mm_H} {n Z p s : Nat} {Q : Rq} {B : Nat → Int32}
theorem x_can14 (hd : DR G n Q) {i la : Int32} (hk : K (some (.int (b2i ((0 ≤ i ∧ i < nI n) ∧ Q 1 i.toNatClampNeg < la)))) (hH L xs J s G)) : mm_call mm_Ex (d + 2) k_X1_canBeCited [.ref 14, .int i, .int la] (hH L xs J s G) K := by
  have h9 := hd.2.1
  have J13 : ∀ v, v = b2i ((0 ≤ i ∧ i < nI n) ∧ Q 1 i.toNatClampNeg < la) → mm_Ex (d + 2) k_X1_canBeCited 13 (0, 0) [.ref 14, .int i, .int la] [.int v] (hH L xs J s G) K := fun v e => by
    refine mm_run 5 ⟨?_, ?_⟩
    · rw [e]; exact b2i_01
    · rw [e]; exact hk
  have J12 : ¬ ((0 ≤ i ∧ i < nI n) ∧ Q 1 i.toNatClampNeg < la) → mm_Ex (d + 2) k_X1_canBeCited 12 (0, 0) [.ref 14, .int i, .int la] [] (hH L xs J s G) K := fun y => mm_run 5 (J13 0 (b2i_f y).symm)
  refine mm_run 60 ?_
  refine (?_ : mm_call mm_Ex (d + 1) k_X1_has [.ref 14, .int i] (hH L xs J s G) _)
  refine mm_run 20 ?_
  show mm_call mm_Ex d k_X5_within [.int i, .int (G 14 6)] _ _
  rw [hd.1]
  refine x_within ⟨b2i_01, And.intro (fun z => J12 fun y => b2i_0.mp z y.1) (fun z => ?_)⟩
  have z := b2i_p z
  obtain ⟨j, hj, rfl⟩ := lt_nI (by omega) z.1 z.2
  have e1 : G 16 (nI j).toNatClampNeg = Q 1 (nI j).toNatClampNeg := by rw [tn_nI (by omega)]; exact hd.2.2 1 (by decide) j hj
  refine ⟨vp_in_nI (by omega) (by decide), And.intro (fun c => J12 ?_) (fun c => J13 1 (b2i_t ?_).symm)⟩
  · have c : la ≤ Q 1 (nI j).toNatClampNeg := e1 ▸ c
    exact fun y => Int32.not_le.mpr y.2 c
  · have c : ¬ la ≤ Q 1 (nI j).toNatClampNeg := e1 ▸ c
    exact ⟨z, Int32.not_le.mp c⟩
theorem x_sign_46 (hZ : G 46 1 = nI Z) (h80 : Z ≤ 80) (hA : ∀ k, k < Z → G 47 k = B k) (hp : p < 2 ^ 30) (hk : K (some (.int (sv B Z p))) (hH L xs J 46 (up2 G 13 2 (nI p)))) : mm_call mm_Ex (d + 3) k_X2_sign [.ref 13] (hH L xs J 46 (up2 G 13 2 (nI p))) K := by
  refine mm_run 20 (x_value_46 (F := up2 G 13 2 (nI p)) (i := nI p) hZ h80 ?_)
  have e : (if 0 ≤ nI p ∧ nI p < up2 G 13 2 (nI p) 46 1 then up2 G 13 2 (nI p) 47 (nI p).toNatClampNeg else 0) = sv B Z p := by
    rw [tn_nI (by omega), up2_ne (by decide), up2_ne (by decide), hZ]
    unfold sv
    by_cases c : p < Z
    · rw [if_pos ⟨nle0 (by omega), (nI_ltI (by omega) (by omega)).mpr c⟩, if_pos c]
      exact hA p c
    · rw [if_neg (fun y => c ((nI_ltI (by omega) (by omega)).mp y.2)), if_neg c]
  rw [e]
  exact hk
theorem x_skip_46 (hZ : G 46 1 = nI Z) (h80 : Z ≤ 80) (hA : ∀ k, k < Z → G 47 k = B k) (hp : p ≤ Z) (hk : ∀ m, p + m ≤ Z → (∀ k, p ≤ k → k < p + m → B k = 32) → (p + m < Z → ¬ B (p + m) = 32) → K none (hH L xs J 46 (up2 G 13 2 (nI (p + m))))) : mm_call mm_Ex (d + 3) k_X2_skipBlanks [.ref 13] (hH L xs J 46 (up2 G 13 2 (nI p))) K := by
  have H : ∀ f m, Z - (p + m) ≤ f → p + m ≤ Z → (∀ k, p ≤ k → k < p + m → B k = 32) → mm_Ex (d + 3) k_X2_skipBlanks 0 (0, 0) [.ref 13] [] (hH L xs J 46 (up2 G 13 2 (nI (p + m)))) K := by
    intro f
    induction f with
    | zero =>
      intro m hf hm hall
      have J20 : mm_Ex (d + 3) k_X2_skipBlanks 20 (0, 0) [.ref 13] [] (hH L xs J 46 (up2 G 13 2 (nI (p + m)))) K := mm_run 5 (hk m hm hall (fun y => by omega))
      refine mm_run 60 (And.intro (fun _ => J20) (fun z => absurd ?_ z))
      show G 46 1 ≤ nI (p + m)
      rw [hZ]
      exact (nI_leI (by omega) (by omega)).mpr (by omega)
    | succ f ih =>
      intro m hf hm hall
      by_cases hz : p + m = Z
      · exact ih m (by omega) hm hall
      · have J20 : ¬ B (p + m) = 32 → mm_Ex (d + 3) k_X2_skipBlanks 20 (0, 0) [.ref 13] [] (hH L xs J 46 (up2 G 13 2 (nI (p + m)))) K := fun y => mm_run 5 (hk m hm hall (fun _ => y))
        refine mm_run 60 (And.intro (fun z => ?_) (fun z => x_value_46 (F := up2 G 13 2 (nI (p + m))) (i := nI (p + m)) hZ h80 ?_))
        · have z : G 46 1 ≤ nI (p + m) := z
          rw [hZ] at z
          exact absurd z (nleI (by omega) (by omega))
        · have e : (if 0 ≤ nI (p + m) ∧ nI (p + m) < up2 G 13 2 (nI (p + m)) 46 1 then up2 G 13 2 (nI (p + m)) 47 (nI (p + m)).toNatClampNeg else 0) = B (p + m) := by
            rw [tn_nI (by omega), up2_ne (by decide), up2_ne (by decide), hZ, if_pos ⟨nle0 (by omega), (nI_ltI (by omega) (by omega)).mpr (by omega)⟩]
            exact hA _ (by omega)
          rw [e]
          refine And.intro (fun z2 => J20 z2) (fun z2 => kx pl_up (ih (m + 1) (by omega) (by omega) fun k h1 h2 => ?_))
          by_cases e2 : k = p + m
          · rw [e2]; exact z2
          · exact hall k h1 (by omega)
  exact H Z 0 (by omega) hp (fun k h1 h2 => by omega)
theorem x_letter_46 (hZ : G 46 1 = nI Z) (h80 : Z ≤ 80) (hA : ∀ k, k < Z → G 47 k = B k) (hB : ∀ k, Z ≤ k → B k = -9) (hp : p < 2 ^ 30) (hk : K (some (.int (if kdC (B p) = -9 then -1 else kdC (B p)))) (hH L xs J 46 (up2 G 13 2 (nI p)))) : mm_call mm_Ex (d + 4) k_X2_letter [.ref 13] (hH L xs J 46 (up2 G 13 2 (nI p))) K := by
  refine mm_run 60 (lp (n := 6) (P := fun i => (∀ j, j < i → ¬ B p = mm_let j) → ∀ x, x = nI i → mm_Ex (d + 4) k_X2_letter 2 (0, 0) [.ref 13, .int x] [] (hH L xs J 46 (up2 G 13 2 (nI p))) K) ?_ ?_ (fun j hj => absurd hj (Nat.not_lt_zero j)) 0 rfl)
  · intro ha x hx
    subst hx
    rw [kd_no ha, if_pos rfl] at hk
    exact mm_run 60 (And.intro (fun _ => hk) (fun z => absurd (by decide) z))
  · intro i hi ih ha x hx
    subst hx
    refine mm_run 60 (And.intro (fun z => absurd z (nleI (b := 6) hi (by decide))) (fun _ => x_sign_46 hZ h80 hA hp ⟨vp_in_nI (by omega) (by decide), And.intro (fun z => ih (fun j hj => ?_) _ (nI_1 i)) (fun z => ?_)⟩))
    · by_cases e : j = i
      · have z : ¬ sv B Z p = mm_let (nI i).toNatClampNeg := z
        rw [tn_nI (by omega)] at z
        rw [e]
        exact fun y => z ((sv_eq hB (let_ne i hi).1 (let_ne i hi).2).mpr y)
      · exact ha j (by omega)
    · have z : sv B Z p = mm_let (nI i).toNatClampNeg := z
      rw [tn_nI (by omega)] at z
      have z := (sv_eq hB (let_ne i hi).1 (let_ne i hi).2).mp z
      rw [kd_yes hi ha z, if_neg (nI_n9 (by omega))] at hk
      exact hk
theorem x_figure_46 (hZ : G 46 1 = nI Z) (h80 : Z ≤ 80) (hA : ∀ k, k < Z → G 47 k = B k) (hB : ∀ k, Z ≤ k → B k = -9) (hp : p < 2 ^ 30) (hk : K (some (.int (fgX (B p)))) (hH L xs J 46 (up2 G 13 2 (nI p)))) : mm_call mm_Ex (d + 4) k_X2_figure [.ref 13] (hH L xs J 46 (up2 G 13 2 (nI p))) K := by
  have J12 : ∀ v (w : Int32), v = fgX (B p) → mm_Ex (d + 4) k_X2_figure 12 (0, 0) [.ref 13, .int w] [.int v] (hH L xs J 46 (up2 G 13 2 (nI p))) K := fun v w e => by
    subst e
    exact mm_run 5 hk
  refine mm_run 60 (x_sign_46 hZ h80 hA hp (x_within (And.intro (fun z => J12 _ _ ?_) (fun z => J12 _ _ ?_))))
  · have z := b2i_0.mp z
    unfold fgX
    by_cases c : p < Z
    · have z : ¬ (0 ≤ B p - 48 ∧ B p - 48 < 10) := by
        have e : sv B Z p = B p := if_pos c
        rw [e] at z
        exact z
      rw [if_neg (fun y => z (in10.mpr y))]
    · rw [hB p (by omega)]
      decide
  · have z := b2i_p z
    by_cases c : p < Z
    · have e : sv B Z p = B p := if_pos c
      rw [e] at z ⊢
      unfold fgX
      rw [if_pos (in10.mp z)]
    · have e : sv B Z p = 0 := if_neg c
      rw [e] at z
      exact absurd z (by decide)
theorem x_readMarks_46 {e0 : Nat} (hZ : G 46 1 = nI Z) (h80 : Z ≤ 80) (hA : ∀ k, k < Z → G 47 k = B k) (hB : ∀ k, Z ≤ k → B k = -9) (he : e0 < 200) (hk : K (some (.int (nI (mF B e0 5).1))) (hH L xs J 46 (up2 G 13 2 (nI (mF B e0 5).2)))) : mm_call mm_Ex (d + 4) k_X2_readMarks [.ref 13] (hH L xs J 46 (up2 G 13 2 (nI e0))) K := by
  refine mm_run 60 (lp (n := 5) (P := fun i => ∀ x a, x = nI i → a = nI (mF B e0 i).1 → mm_Ex (d + 4) k_X2_readMarks 4 (0, 0) [.ref 13, .int a, .int x] [] (hH L xs J 46 (up2 G 13 2 (nI (mF B e0 i).2))) K) ?_ ?_ 0 0 rfl rfl)
  · intro x a hx ha
    subst hx ha
    exact mm_run 60 (And.intro (fun _ => hk) (fun z => absurd (by decide) z))
  · intro i hi ih x a hx ha
    subst hx
    have hle := mF_le B e0 i
    have hs := mF_s B e0 i
    have J25 : ∀ a P, a = nI (mF B e0 (i + 1)).1 → P = (mF B e0 (i + 1)).2 → mm_Ex (d + 4) k_X2_readMarks 25 (0, 0) [.ref 13, .int a, .int (nI i)] [] (hH L xs J 46 (up2 G 13 2 (nI P))) K := fun a P h1 h2 => by
      subst h2
      exact mm_run 10 (ih _ _ (nI_1 i) h1)
    have e48 : (48 : Int32) + nI i = nI (48 + i) := nI_add 48 i
    have n0 : ¬ nI (48 + i) = 0 := nI_ne0 (by omega) (by omega)
    have n9 : ¬ nI (48 + i) = -9 := ne9 (by omega)
    refine mm_run 60 (And.intro (fun z => absurd z (nleI (b := 5) hi (by decide))) (fun _ => x_sign_46 hZ h80 hA (by omega) (And.intro (fun z => J25 _ _ ?_ ?_) (fun z => kx pl_up (J25 _ _ ?_ ?_)))))
    · have z : ¬ sv B Z (mF B e0 i).2 = nI (48 + i) := fun y => z (y.trans e48.symm)
      rw [hs, if_neg (fun y => z ((sv_eq hB n0 n9).mpr y))]
      exact ha
    · have z : ¬ sv B Z (mF B e0 i).2 = nI (48 + i) := fun y => z (y.trans e48.symm)
      rw [hs, if_neg (fun y => z ((sv_eq hB n0 n9).mpr y))]
    · have z : sv B Z (mF B e0 i).2 = nI (48 + i) := Eq.trans z e48
      rw [hs, if_pos ((sv_eq hB n0 n9).mp z), ha, shl1 (by omega), fa_or]
    · have z : sv B Z (mF B e0 i).2 = nI (48 + i) := Eq.trans z e48
      rw [hs, if_pos ((sv_eq hB n0 n9).mp z)]
theorem x_readItem_46 {a : Nat} (hZ : G 46 1 = nI Z) (h80 : Z ≤ 80) (hA : ∀ k, k < Z → G 47 k = B k) (hB : ∀ k, Z ≤ k → B k = -9) (ha : a ≤ 100) (hd : DR G n Q) (h0 : ∀ p, pI0 B n (Q 1) a = .inl p → K (some (.int 0)) (hH L xs J 46 (up2 G 13 2 (nI p)))) (h1 : ∀ it e, pI0 B n (Q 1) a = .inr (it, e) → n < 9 → K (some (.int 1)) (hH L xs J 46 (add7 (up2 G 13 2 (nI e)) 14 n it))) : mm_call mm_Ex (d + 5) k_X2_readItem [.ref 13] (hH L xs J 46 (up2 G 13 2 (nI a))) K := by
  have h9 := hd.2.1
  unfold pI0 at h0 h1
  have J10 : ∀ (w1 : Value), (kdC (B a) = -9 ∨ n = 9) → mm_Ex (d + 5) k_X2_readItem 10 (0, 0) [.ref 13, w1, .null, .null, .null, .null] [] (hH L xs J 46 (up2 G 13 2 (nI a))) K := fun w1 c => by
    rw [if_pos c] at h0
    exact mm_run 5 ⟨Or.inl rfl, h0 a rfl⟩
  refine mm_run 120 (x_letter_46 hZ h80 hA hB (by omega) ?_)
  by_cases ck : kdC (B a) = -9
  · rw [if_pos ck]
    exact And.intro (fun _ => J10 _ (Or.inl ck)) (fun z => absurd (by decide) z)
  · rw [if_neg ck]
    have kpos : ¬ kdC (B a) < 0 := by
      unfold kdC at ck ⊢
      by_cases c0 : B a = 114
      · rw [if_pos c0]; decide
      rw [if_neg c0] at ck ⊢
      by_cases c1 : B a = 98
      · rw [if_pos c1]; decide
      rw [if_neg c1] at ck ⊢
      by_cases c2 : B a = 102
      · rw [if_pos c2]; decide
      rw [if_neg c2] at ck ⊢
      by_cases c3 : B a = 117
      · rw [if_pos c3]; decide
      rw [if_neg c3] at ck ⊢
      by_cases c4 : B a = 99
      · rw [if_pos c4]; decide
      rw [if_neg c4] at ck ⊢
      by_cases c5 : B a = 107
      · rw [if_pos c5]; decide
      rw [if_neg c5] at ck
      exact absurd rfl ck
    have N9 : ¬ G 14 6 < nI 9 → n = 9 := fun z => by
      rw [hd.1] at z
      have : ¬ n < 9 := fun y => z ((nI_ltI (by omega) (by decide)).mpr y)
      omega
    refine And.intro (fun z => absurd z kpos) (fun _ => And.intro (fun z => ?_) (fun z => J10 _ (Or.inr (N9 z))))
    have z : G 14 6 < nI 9 := z
    rw [hd.1] at z
    have n9 := (nI_ltI (by omega) (by decide)).mp z
    have hc0 : ¬ (kdC (B a) = -9 ∨ n = 9) := fun y => y.elim ck (fun y => by omega)
    rw [if_neg hc0] at h0 h1
    refine kc pl_up (x_figure_46 hZ h80 hA hB (by omega) ?_)
    by_cases cd : fgC (B (a + 1)) 9 = -9
    · rw [if_pos cd] at h0
      exact And.intro (fun z => absurd (fgX_no.mpr cd) (Int32.not_lt.mpr z)) (fun _ => ⟨Or.inl rfl, h0 _ rfl⟩)
    · rw [if_neg cd] at h0 h1
      rw [fgX_eq cd]
      refine And.intro (fun _ => ?_) (fun z => absurd (fun y => cd (fgX_no.mp y)) (Classical.not_not.mpr (by rw [fgX_eq cd]; exact Int32.not_le.mp z)))
      refine kc pl_up (x_figure_46 hZ h80 hA hB (by omega) (x_within ?_))
      have fg1 := fg_n (b := B (a + 2)) (m := 1) (by decide)
      by_cases cv : fgC (B (a + 2)) 1 = -9
      · rw [if_pos cv] at h0
        exact And.intro (fun z => absurd cv (fg1.1.mpr (in2.mp (b2i_p z)))) (fun _ => ⟨Or.inl rfl, h0 _ rfl⟩)
      · rw [if_neg cv] at h0 h1
        have ev : fgX (B (a + 2)) = fgC (B (a + 2)) 1 := (fg1.2 cv).symm
        refine And.intro (fun _ => ?_) (fun z => absurd (in2.mpr (fg1.1.mp cv)) (b2i_0.mp z))
        rw [ev]
        obtain ⟨kd, hkd⟩ : ∃ x, kdC (B a) = x := ⟨_, rfl⟩
        obtain ⟨dy, hdy⟩ : ∃ x, fgC (B (a + 1)) 9 = x := ⟨_, rfl⟩
        obtain ⟨vd, hvd⟩ : ∃ x, fgC (B (a + 2)) 1 = x := ⟨_, rfl⟩
        rw [hkd, hdy, hvd] at h1
        rw [hdy] at h0
        rw [hkd, hdy, hvd]
        -- the end of an item, from its dot on
        have J87 : ∀ (ci hw : Int32) e, (B e = 46 → pC B n (Q 1) dy (a + 3) = .inr (ci, hw, e + 1)) → (¬ B e = 46 → pC B n (Q 1) dy (a + 3) = .inl e) → e < 150 → mm_Ex (d + 5) k_X2_readItem 87 (0, 0) [.ref 13, .int kd, .int dy, .int vd, .int hw, .int ci] [] (hH L xs J 46 (up2 G 13 2 (nI e))) K := fun ci hw e hy hno he => by
          refine mm_run 60 (x_sign_46 hZ h80 hA (by omega) (And.intro (fun z => ?_) (fun z => ⟨Or.inl rfl, ?_⟩)))
          · have z := (sv_eq (c := 46) hB (by decide) (by decide)).mp z
            rw [hy z] at h1
            refine kc (pl_up (L := L) (xs := xs) (J := J) (S := 46) (k := e) (G := G)) ?_
            refine x_readMarks_46 (e0 := e + 1) hZ h80 hA hB (by omega) ?_
            exact x_add_14 (F := up2 G 13 2 (nI (mF B (e + 1) 5).2)) (hd.up).1 n9 ⟨Or.inr rfl, h1 _ _ rfl n9⟩
          · have z : ¬ B e = 46 := fun y => z ((sv_eq (c := 46) hB (by decide) (by decide)).mpr y)
            rw [hno z] at h0
            exact h0 _ rfl
        have J59 : ∀ (hw : Int32) (w5 : Value), (hw = 0 → ¬ (B (a + 3) = 43 ∨ B (a + 3) = 45)) → (¬ hw = 0 → (B (a + 3) = 43 ∨ B (a + 3) = 45) ∧ hw = (if B (a + 3) = 43 then 1 else -1)) → mm_Ex (d + 5) k_X2_readItem 59 (0, 0) [.ref 13, .int kd, .int dy, .int vd, .null, .null] [.int hw] (hH L xs J 46 (up2 G 13 2 (nI (a + 3)))) K := fun hw w5 g0 g1 => by
          refine mm_run 120 (And.intro (fun z => ?_) (fun z => ?_))
          · have g := g0 z
            refine J87 _ _ _ (fun y => ?_) (fun y => ?_) (by omega)
            · unfold pC
              rw [if_neg g, if_pos y, z]
            · unfold pC
              rw [if_neg g, if_neg y]
          · obtain ⟨g, gh⟩ := g1 z
            refine kc pl_up (x_figure_46 hZ h80 hA hB (by omega) ?_)
            refine x_can14 hd.up ?_
            have epC : pC B n (Q 1) dy (a + 3) = (if fgC (B (a + 3 + 1)) (nI n - 1) = -9 ∨ dy ≤ Q 1 (fgC (B (a + 3 + 1)) (nI n - 1)).toNatClampNeg then .inl (a + 3 + 1) else if B (a + 3 + 2) = 46 then .inr (fgC (B (a + 3 + 1)) (nI n - 1), (if B (a + 3) = 43 then 1 else -1), a + 3 + 3) else .inl (a + 3 + 2)) := by
              unfold pC
              rw [if_pos g]
            have key : (((0 ≤ fgX (B (a + 3 + 1)) ∧ fgX (B (a + 3 + 1)) < nI n) ∧ Q 1 (fgX (B (a + 3 + 1))).toNatClampNeg < dy) ↔ ¬ (fgC (B (a + 3 + 1)) (nI n - 1) = -9 ∨ dy ≤ Q 1 (fgC (B (a + 3 + 1)) (nI n - 1)).toNatClampNeg)) ∧ (¬ fgC (B (a + 3 + 1)) (nI n - 1) = -9 → fgC (B (a + 3 + 1)) (nI n - 1) = fgX (B (a + 3 + 1))) := by
              by_cases n0 : n = 0
              · have eN : fgC (B (a + 3 + 1)) (nI n - 1) = -9 := by
                  unfold fgC
                  refine if_neg fun y => ?_
                  rw [n0] at y
                  exact absurd (Int32.le_trans y.1 y.2) (by decide)
                refine ⟨⟨fun y => ?_, fun y => absurd (Or.inl eN) y⟩, fun y => absurd eN y⟩
                rw [n0] at y
                exact absurd y.1.2 (Int32.not_lt.mpr y.1.1)
              · obtain ⟨m, hm⟩ : ∃ m, n = m + 1 := ⟨n - 1, by omega⟩
                have em : nI n - 1 = nI m := by rw [hm, nI_pred]
                rw [em]
                have fgm := fg_n (b := B (a + 3 + 1)) (m := m) (by omega)
                refine ⟨⟨fun y => ?_, fun y => ?_⟩, fgm.2⟩
                · have hr : 0 ≤ fgX (B (a + 3 + 1)) ∧ fgX (B (a + 3 + 1)) ≤ nI m := by rw [← em]; exact (lt_in (by omega)).mp y.1
                  have hne := fgm.1.mpr hr
                  rw [fgm.2 hne]
                  refine fun z => z.elim (fun z => ?_) (fun z => Int32.not_le.mpr y.2 z)
                  rw [z] at hr
                  exact absurd hr.1 (by decide)
                · have hne : ¬ fgC (B (a + 3 + 1)) (nI m) = -9 := fun z => y (Or.inl z)
                  have hr := fgm.1.mp hne
                  refine ⟨(lt_in (by omega)).mpr (by rw [em]; exact hr), ?_⟩
                  rw [← fgm.2 hne]
                  exact Int32.not_le.mp fun z => y (Or.inr z)
            refine And.intro (fun z2 => ?_) (fun z2 => ⟨Or.inl rfl, ?_⟩)
            · have z2 := key.1.mp (b2i_p z2)
              rw [if_neg z2] at epC
              have eX : fgX (B (a + 3 + 1)) = fgC (B (a + 3 + 1)) (nI n - 1) := (key.2 (fun y => z2 (Or.inl y))).symm
              rw [eX]
              refine kx pl_up (J87 _ _ _ (fun y => ?_) (fun y => ?_) (by omega))
              · rw [epC, if_pos y, gh]
              · rw [epC, if_neg y]
            · have z2 : fgC (B (a + 3 + 1)) (nI n - 1) = -9 ∨ dy ≤ Q 1 (fgC (B (a + 3 + 1)) (nI n - 1)).toNatClampNeg := Classical.not_not.mp fun y => b2i_0.mp z2 (key.1.mpr y)
              rw [epC, if_pos z2] at h0
              exact h0 _ rfl
        refine kc pl_up (x_sign_46 hZ h80 hA (by omega) (And.intro (fun z => x_sign_46 hZ h80 hA (by omega) (And.intro (fun z2 => J59 0 .null (fun _ => ?_) (fun y => absurd rfl y)) (fun z2 => J59 (-1) .null (fun y => absurd y (by decide)) (fun _ => ?_)))) (fun z => J59 1 .null (fun y => absurd y (by decide)) (fun _ => ?_))))
        · have z : ¬ B (a + 3) = 43 := fun y => z ((sv_eq (c := 43) hB (by decide) (by decide)).mpr y)
          have z2 : ¬ B (a + 3) = 45 := fun y => z2 ((sv_eq (c := 45) hB (by decide) (by decide)).mpr y)
          exact fun y => y.elim z z2
        · have z : ¬ B (a + 3) = 43 := fun y => z ((sv_eq (c := 43) hB (by decide) (by decide)).mpr y)
          have z2 : B (a + 3) = 45 := (sv_eq (c := 45) hB (by decide) (by decide)).mp z2
          exact ⟨Or.inr z2, by rw [if_neg z]⟩
        · have z : B (a + 3) = 43 := (sv_eq (c := 43) hB (by decide) (by decide)).mp z
          exact ⟨Or.inl z, by rw [if_pos z]⟩
theorem x_read_46 {F : Nat → Nat → Int32} {n0 : Nat} (hZ : F 46 1 = nI Z) (h80 : Z ≤ 80) (hA : ∀ k, k < Z → F 47 k = B k) (hB : ∀ k, Z ≤ k → B k = -9) (hd : F 14 6 = nI n0) (hn0 : n0 ≤ 9) (h0 : ∀ p, rdS B Z 81 0 0 Q0 = .inl p → p ≤ 100 → ∀ G m, XZ F G → m ≤ 9 → G 14 6 = nI m → K (some (.int (nI p))) (hH L xs J 46 G)) (h1 : ∀ m Q, rdS B Z 81 0 0 Q0 = .inr (m, Q) → ∀ G, XZ F G → DR G m Q → K (some (.int (-9))) (hH L xs J 46 G)) : mm_call mm_Ex (d + 6) k_X2_read [.ref 13, .ref 46] (hH L xs J s F) K := by
  have H : ∀ N f, f ≤ N → ∀ a n Q x G, Z < f + a → a ≤ Z → rdS B Z f a n Q = rdS B Z 81 0 0 Q0 → x = nI n → XZ F G → DR G n Q → mm_Ex (d + 6) k_X2_read 12 (0, 0) [.ref 13, .ref 46, .int x] [] (hH L xs J 46 (up2 G 13 2 (nI a))) K := by
    intro N
    induction N with
    | zero => intro f hN a n Q x G h1 h2; omega
    | succ N ih =>
      intro f' hN a n Q x G hf' ha he hx hG hD
      obtain ⟨f, rfl⟩ : ∃ f, f' = f + 1 := ⟨f' - 1, by omega⟩
      have hf : Z < f + 1 + a := hf'
      subst hx
      have h9 := hD.2.1
      have gO : G 46 1 = nI Z := by rw [hG 46 (by omega)]; exact hZ
      have gA : ∀ k, k < Z → G 47 k = B k := fun k hk => by rw [hG 47 (by omega)]; exact hA k hk
      have up : ∀ x, XZ F (up2 G 13 2 x) := fun x k hk => by rw [up2_ne (by omega)]; exact hG k hk
      refine mm_run 60 (And.intro (fun z => absurd ((nI_ltI (a := 9) (by decide) (by omega)).mp z) (by omega)) (fun _ => x_skip_46 gO h80 gA ha (fun m hm hall hend => ?_)))
      -- at the next item, or the end
      obtain ⟨f2, hf2⟩ : ∃ f2, f + 1 = (f2 + 1) + m := ⟨f - m, by omega⟩
      have he2 : rdS B Z (f2 + 1) (a + m) n Q = rdS B Z 81 0 0 Q0 := by rw [← rd_skip hall hm, ← hf2]; exact he
      refine And.intro (fun z => ?_) (fun z => ?_)
      · have z : nI (a + m) < G 46 1 := z
        rw [gO] at z
        have z := (nI_ltI (by omega) (by omega)).mp z
        have hnb := hend z
        rw [rdS, if_neg (by omega), if_neg hnb, pI_0] at he2
        refine x_readItem_46 gO h80 gA hB (by omega) hD (fun p hp => ?_) (fun it e hp hn9 => ?_)
        · rw [hp] at he2
          have he2 : Sum.inl p = rdS B Z 81 0 0 Q0 := he2
          have hpl : p ≤ 100 := by
            have := pI0_le hp
            omega
          refine And.intro (fun y => absurd rfl y) (fun _ => ?_)
          exact h0 p he2.symm hpl _ n (up _) h9 hD.up.1
        · have hG2 : XZ F (add7 G 14 n it) := fun k hk => by
            unfold add7
            rw [if_neg (by omega), if_neg (by omega)]
            exact hG k hk
          have hD2 := hD.add hn9 (it := it)
          have ecm : add7 (up2 G 13 2 (nI e)) 14 n it = up2 (add7 G 14 n it) 13 2 (nI e) := by
            funext k
            by_cases e13 : k = 13
            · subst e13; rfl
            · rw [up2_ne e13]
              unfold add7
              rw [up2_ne e13, up2_ne (show (14 : Nat) ≠ 13 by decide)]
          rw [ecm]
          refine And.intro (fun _ => ?_) (fun y => absurd y (by decide))
          rw [hp] at he2
          have he2 : (if dgB (B e) = true then Sum.inl e else rdS B Z f2 e (n + 1) (qUp Q n it)) = rdS B Z 81 0 0 Q0 := by
            by_cases c : dgB (B e) = true
            · rw [if_pos c]
              dsimp only at he2
              rw [if_pos c] at he2
              exact he2
            · rw [if_neg c]
              dsimp only at he2
              rw [if_neg c] at he2
              exact he2
          by_cases c : dgB (B e) = true
          · rw [if_pos c] at he2
            have gO2 : add7 G 14 n it 46 1 = nI Z := by rw [hG2 46 (by omega)]; exact hZ
            have gA2 : ∀ k, k < Z → add7 G 14 n it 47 k = B k := fun k hk => by rw [hG2 47 (by omega)]; exact hA k hk
            have heZ : e < Z := Nat.lt_of_not_le fun y => dg_m9 c (hB e y)
            have up2' : ∀ x, XZ F (up2 (add7 G 14 n it) 13 2 x) := fun x k hk => by rw [up2_ne (by omega)]; exact hG2 k hk
            show mm_Ex (d + 6) k_X2_read 12 (0, 0) [.ref 13, .ref 46, .int (nI n + 1)] [] _ K
            rw [nI_1]
            refine mm_run 60 (And.intro (fun z => absurd ((nI_ltI (a := 9) (by decide) (by omega)).mp z) (by omega)) (fun _ => x_skip_46 gO2 h80 gA2 (by omega) (fun m2 hm2 hall2 _ => ?_)))
            have m0 : m2 = 0 := by
              refine Nat.le_zero.mp (Nat.le_of_not_lt fun y => dg_blank c (hall2 e (Nat.le_refl e) (by omega)))
            subst m0
            refine And.intro (fun z => ?_) (fun z => ?_)
            · refine x_readItem_46 gO2 h80 gA2 hB (by omega) hD2 (fun p hp => ?_) (fun it e hp _ => ?_)
              · simp only [Nat.add_zero] at hp
                unfold pI0 at hp
                rw [if_pos (Or.inl (kd_9 c))] at hp
                cases hp
                refine And.intro (fun y => absurd rfl y) (fun _ => ?_)
                exact h0 e he2.symm (by omega) _ (n + 1) (up2' _) (by omega) hD2.up.1
              · simp only [Nat.add_zero] at hp
                unfold pI0 at hp
                rw [if_pos (Or.inl (kd_9 c))] at hp
                cases hp
            · have z : ¬ nI (e + 0) < add7 G 14 n it 46 1 := z
              rw [gO2] at z
              exact absurd ((nI_ltI (by omega) (by omega)).mpr heZ) z
          · rw [if_neg c] at he2
            have hb := pI_bound (B := B) (Z := Z) (D := Q 1) (n := n) (a := a + m) (it := it) (e := e) hB h9 (by rw [pI_0, hp]; exact if_neg c)
            exact ih f2 (by omega) e (n + 1) (qUp Q n it) _ _ (by omega) (by omega) he2 (nI_1 n) hG2 hD2
      · have z : ¬ nI (a + m) < G 46 1 := z
        rw [gO] at z
        have z : Z ≤ a + m := Nat.le_of_not_lt fun y => z ((nI_ltI (by omega) (by omega)).mpr y)
        rw [rdS, if_pos z] at he2
        exact h1 n Q he2.symm _ (up _) hD.up
  have E0 : ((93, mU (mU (hH L xs J s F).2 13 (mO 2 [.ref 14, .ref 46, .int (F 13 2)])) 13 (mO 2 [.ref 14, .ref 46, .int 0])) : mm_H) = hH L xs J 46 (up2 F 13 2 0) := by
    have e1 := congrArg Prod.snd (hpS (L := L) (xs := xs) (J := J) (s := s) (s' := 46) (F := F) rfl)
    have e1 : mU (hH L xs J s F).2 13 (mO 2 [.ref 14, .ref 46, .int (F 13 2)]) = (hH L xs J 46 F).2 := e1
    rw [e1]
    exact hp1 (F := F) (k := 13) (g := upd (F 13) 2 0) rfl
  refine mm_run 60 (kc E0 (x_cutTo_14 (m := 0) (n := n0) (by rw [up2_ne (by decide)]; exact hd) hn0 (Nat.zero_le n0) ?_))
  have ecm : up2 (up2 F 13 2 0) 14 6 (nI 0) = up2 (up2 F 14 6 (nI 0)) 13 2 (nI 0) := by
    funext k
    by_cases e13 : k = 13
    · subst e13; rfl
    · by_cases e14 : k = 14
      · subst e14; rfl
      · rw [up2_ne e14, up2_ne e13, up2_ne e13, up2_ne e14]
  rw [ecm]
  exact H 81 81 (Nat.le_refl 81) 0 0 Q0 _ (up2 F 14 6 (nI 0)) (by omega) (Nat.zero_le Z) rfl rfl (fun k hk => up2_ne (by omega)) ⟨rfl, by decide, fun w hw i hi => absurd hi (Nat.not_lt_zero i)⟩
theorem x_sign_48 (hZ : G 48 1 = nI Z) (h80 : Z ≤ 80) (hA : ∀ k, k < Z → G 49 k = B k) (hp : p < 2 ^ 30) (hk : K (some (.int (sv B Z p))) (hH L xs J 48 (up2 G 13 2 (nI p)))) : mm_call mm_Ex (d + 3) k_X2_sign [.ref 13] (hH L xs J 48 (up2 G 13 2 (nI p))) K := by
  refine mm_run 20 (x_value_48 (F := up2 G 13 2 (nI p)) (i := nI p) hZ h80 ?_)
  have e : (if 0 ≤ nI p ∧ nI p < up2 G 13 2 (nI p) 48 1 then up2 G 13 2 (nI p) 49 (nI p).toNatClampNeg else 0) = sv B Z p := by
    rw [tn_nI (by omega), up2_ne (by decide), up2_ne (by decide), hZ]
    unfold sv
    by_cases c : p < Z
    · rw [if_pos ⟨nle0 (by omega), (nI_ltI (by omega) (by omega)).mpr c⟩, if_pos c]
      exact hA p c
    · rw [if_neg (fun y => c ((nI_ltI (by omega) (by omega)).mp y.2)), if_neg c]
  rw [e]
  exact hk
theorem x_skip_48 (hZ : G 48 1 = nI Z) (h80 : Z ≤ 80) (hA : ∀ k, k < Z → G 49 k = B k) (hp : p ≤ Z) (hk : ∀ m, p + m ≤ Z → (∀ k, p ≤ k → k < p + m → B k = 32) → (p + m < Z → ¬ B (p + m) = 32) → K none (hH L xs J 48 (up2 G 13 2 (nI (p + m))))) : mm_call mm_Ex (d + 3) k_X2_skipBlanks [.ref 13] (hH L xs J 48 (up2 G 13 2 (nI p))) K := by
  have H : ∀ f m, Z - (p + m) ≤ f → p + m ≤ Z → (∀ k, p ≤ k → k < p + m → B k = 32) → mm_Ex (d + 3) k_X2_skipBlanks 0 (0, 0) [.ref 13] [] (hH L xs J 48 (up2 G 13 2 (nI (p + m)))) K := by
    intro f
    induction f with
    | zero =>
      intro m hf hm hall
      have J20 : mm_Ex (d + 3) k_X2_skipBlanks 20 (0, 0) [.ref 13] [] (hH L xs J 48 (up2 G 13 2 (nI (p + m)))) K := mm_run 5 (hk m hm hall (fun y => by omega))
      refine mm_run 60 (And.intro (fun _ => J20) (fun z => absurd ?_ z))
      show G 48 1 ≤ nI (p + m)
      rw [hZ]
      exact (nI_leI (by omega) (by omega)).mpr (by omega)
    | succ f ih =>
      intro m hf hm hall
      by_cases hz : p + m = Z
      · exact ih m (by omega) hm hall
      · have J20 : ¬ B (p + m) = 32 → mm_Ex (d + 3) k_X2_skipBlanks 20 (0, 0) [.ref 13] [] (hH L xs J 48 (up2 G 13 2 (nI (p + m)))) K := fun y => mm_run 5 (hk m hm hall (fun _ => y))
        refine mm_run 60 (And.intro (fun z => ?_) (fun z => x_value_48 (F := up2 G 13 2 (nI (p + m))) (i := nI (p + m)) hZ h80 ?_))
        · have z : G 48 1 ≤ nI (p + m) := z
          rw [hZ] at z
          exact absurd z (nleI (by omega) (by omega))
        · have e : (if 0 ≤ nI (p + m) ∧ nI (p + m) < up2 G 13 2 (nI (p + m)) 48 1 then up2 G 13 2 (nI (p + m)) 49 (nI (p + m)).toNatClampNeg else 0) = B (p + m) := by
            rw [tn_nI (by omega), up2_ne (by decide), up2_ne (by decide), hZ, if_pos ⟨nle0 (by omega), (nI_ltI (by omega) (by omega)).mpr (by omega)⟩]
            exact hA _ (by omega)
          rw [e]
          refine And.intro (fun z2 => J20 z2) (fun z2 => kx pl_up (ih (m + 1) (by omega) (by omega) fun k h1 h2 => ?_))
          by_cases e2 : k = p + m
          · rw [e2]; exact z2
          · exact hall k h1 (by omega)
  exact H Z 0 (by omega) hp (fun k h1 h2 => by omega)
theorem x_letter_48 (hZ : G 48 1 = nI Z) (h80 : Z ≤ 80) (hA : ∀ k, k < Z → G 49 k = B k) (hB : ∀ k, Z ≤ k → B k = -9) (hp : p < 2 ^ 30) (hk : K (some (.int (if kdC (B p) = -9 then -1 else kdC (B p)))) (hH L xs J 48 (up2 G 13 2 (nI p)))) : mm_call mm_Ex (d + 4) k_X2_letter [.ref 13] (hH L xs J 48 (up2 G 13 2 (nI p))) K := by
  refine mm_run 60 (lp (n := 6) (P := fun i => (∀ j, j < i → ¬ B p = mm_let j) → ∀ x, x = nI i → mm_Ex (d + 4) k_X2_letter 2 (0, 0) [.ref 13, .int x] [] (hH L xs J 48 (up2 G 13 2 (nI p))) K) ?_ ?_ (fun j hj => absurd hj (Nat.not_lt_zero j)) 0 rfl)
  · intro ha x hx
    subst hx
    rw [kd_no ha, if_pos rfl] at hk
    exact mm_run 60 (And.intro (fun _ => hk) (fun z => absurd (by decide) z))
  · intro i hi ih ha x hx
    subst hx
    refine mm_run 60 (And.intro (fun z => absurd z (nleI (b := 6) hi (by decide))) (fun _ => x_sign_48 hZ h80 hA hp ⟨vp_in_nI (by omega) (by decide), And.intro (fun z => ih (fun j hj => ?_) _ (nI_1 i)) (fun z => ?_)⟩))
    · by_cases e : j = i
      · have z : ¬ sv B Z p = mm_let (nI i).toNatClampNeg := z
        rw [tn_nI (by omega)] at z
        rw [e]
        exact fun y => z ((sv_eq hB (let_ne i hi).1 (let_ne i hi).2).mpr y)
      · exact ha j (by omega)
    · have z : sv B Z p = mm_let (nI i).toNatClampNeg := z
      rw [tn_nI (by omega)] at z
      have z := (sv_eq hB (let_ne i hi).1 (let_ne i hi).2).mp z
      rw [kd_yes hi ha z, if_neg (nI_n9 (by omega))] at hk
      exact hk
theorem x_figure_48 (hZ : G 48 1 = nI Z) (h80 : Z ≤ 80) (hA : ∀ k, k < Z → G 49 k = B k) (hB : ∀ k, Z ≤ k → B k = -9) (hp : p < 2 ^ 30) (hk : K (some (.int (fgX (B p)))) (hH L xs J 48 (up2 G 13 2 (nI p)))) : mm_call mm_Ex (d + 4) k_X2_figure [.ref 13] (hH L xs J 48 (up2 G 13 2 (nI p))) K := by
  have J12 : ∀ v (w : Int32), v = fgX (B p) → mm_Ex (d + 4) k_X2_figure 12 (0, 0) [.ref 13, .int w] [.int v] (hH L xs J 48 (up2 G 13 2 (nI p))) K := fun v w e => by
    subst e
    exact mm_run 5 hk
  refine mm_run 60 (x_sign_48 hZ h80 hA hp (x_within (And.intro (fun z => J12 _ _ ?_) (fun z => J12 _ _ ?_))))
  · have z := b2i_0.mp z
    unfold fgX
    by_cases c : p < Z
    · have z : ¬ (0 ≤ B p - 48 ∧ B p - 48 < 10) := by
        have e : sv B Z p = B p := if_pos c
        rw [e] at z
        exact z
      rw [if_neg (fun y => z (in10.mpr y))]
    · rw [hB p (by omega)]
      decide
  · have z := b2i_p z
    by_cases c : p < Z
    · have e : sv B Z p = B p := if_pos c
      rw [e] at z ⊢
      unfold fgX
      rw [if_pos (in10.mp z)]
    · have e : sv B Z p = 0 := if_neg c
      rw [e] at z
      exact absurd z (by decide)
theorem x_readMarks_48 {e0 : Nat} (hZ : G 48 1 = nI Z) (h80 : Z ≤ 80) (hA : ∀ k, k < Z → G 49 k = B k) (hB : ∀ k, Z ≤ k → B k = -9) (he : e0 < 200) (hk : K (some (.int (nI (mF B e0 5).1))) (hH L xs J 48 (up2 G 13 2 (nI (mF B e0 5).2)))) : mm_call mm_Ex (d + 4) k_X2_readMarks [.ref 13] (hH L xs J 48 (up2 G 13 2 (nI e0))) K := by
  refine mm_run 60 (lp (n := 5) (P := fun i => ∀ x a, x = nI i → a = nI (mF B e0 i).1 → mm_Ex (d + 4) k_X2_readMarks 4 (0, 0) [.ref 13, .int a, .int x] [] (hH L xs J 48 (up2 G 13 2 (nI (mF B e0 i).2))) K) ?_ ?_ 0 0 rfl rfl)
  · intro x a hx ha
    subst hx ha
    exact mm_run 60 (And.intro (fun _ => hk) (fun z => absurd (by decide) z))
  · intro i hi ih x a hx ha
    subst hx
    have hle := mF_le B e0 i
    have hs := mF_s B e0 i
    have J25 : ∀ a P, a = nI (mF B e0 (i + 1)).1 → P = (mF B e0 (i + 1)).2 → mm_Ex (d + 4) k_X2_readMarks 25 (0, 0) [.ref 13, .int a, .int (nI i)] [] (hH L xs J 48 (up2 G 13 2 (nI P))) K := fun a P h1 h2 => by
      subst h2
      exact mm_run 10 (ih _ _ (nI_1 i) h1)
    have e48 : (48 : Int32) + nI i = nI (48 + i) := nI_add 48 i
    have n0 : ¬ nI (48 + i) = 0 := nI_ne0 (by omega) (by omega)
    have n9 : ¬ nI (48 + i) = -9 := ne9 (by omega)
    refine mm_run 60 (And.intro (fun z => absurd z (nleI (b := 5) hi (by decide))) (fun _ => x_sign_48 hZ h80 hA (by omega) (And.intro (fun z => J25 _ _ ?_ ?_) (fun z => kx pl_up (J25 _ _ ?_ ?_)))))
    · have z : ¬ sv B Z (mF B e0 i).2 = nI (48 + i) := fun y => z (y.trans e48.symm)
      rw [hs, if_neg (fun y => z ((sv_eq hB n0 n9).mpr y))]
      exact ha
    · have z : ¬ sv B Z (mF B e0 i).2 = nI (48 + i) := fun y => z (y.trans e48.symm)
      rw [hs, if_neg (fun y => z ((sv_eq hB n0 n9).mpr y))]
    · have z : sv B Z (mF B e0 i).2 = nI (48 + i) := Eq.trans z e48
      rw [hs, if_pos ((sv_eq hB n0 n9).mp z), ha, shl1 (by omega), fa_or]
    · have z : sv B Z (mF B e0 i).2 = nI (48 + i) := Eq.trans z e48
      rw [hs, if_pos ((sv_eq hB n0 n9).mp z)]
theorem x_readItem_48 {a : Nat} (hZ : G 48 1 = nI Z) (h80 : Z ≤ 80) (hA : ∀ k, k < Z → G 49 k = B k) (hB : ∀ k, Z ≤ k → B k = -9) (ha : a ≤ 100) (hd : DR G n Q) (h0 : ∀ p, pI0 B n (Q 1) a = .inl p → K (some (.int 0)) (hH L xs J 48 (up2 G 13 2 (nI p)))) (h1 : ∀ it e, pI0 B n (Q 1) a = .inr (it, e) → n < 9 → K (some (.int 1)) (hH L xs J 48 (add7 (up2 G 13 2 (nI e)) 14 n it))) : mm_call mm_Ex (d + 5) k_X2_readItem [.ref 13] (hH L xs J 48 (up2 G 13 2 (nI a))) K := by
  have h9 := hd.2.1
  unfold pI0 at h0 h1
  have J10 : ∀ (w1 : Value), (kdC (B a) = -9 ∨ n = 9) → mm_Ex (d + 5) k_X2_readItem 10 (0, 0) [.ref 13, w1, .null, .null, .null, .null] [] (hH L xs J 48 (up2 G 13 2 (nI a))) K := fun w1 c => by
    rw [if_pos c] at h0
    exact mm_run 5 ⟨Or.inl rfl, h0 a rfl⟩
  refine mm_run 120 (x_letter_48 hZ h80 hA hB (by omega) ?_)
  by_cases ck : kdC (B a) = -9
  · rw [if_pos ck]
    exact And.intro (fun _ => J10 _ (Or.inl ck)) (fun z => absurd (by decide) z)
  · rw [if_neg ck]
    have kpos : ¬ kdC (B a) < 0 := by
      unfold kdC at ck ⊢
      by_cases c0 : B a = 114
      · rw [if_pos c0]; decide
      rw [if_neg c0] at ck ⊢
      by_cases c1 : B a = 98
      · rw [if_pos c1]; decide
      rw [if_neg c1] at ck ⊢
      by_cases c2 : B a = 102
      · rw [if_pos c2]; decide
      rw [if_neg c2] at ck ⊢
      by_cases c3 : B a = 117
      · rw [if_pos c3]; decide
      rw [if_neg c3] at ck ⊢
      by_cases c4 : B a = 99
      · rw [if_pos c4]; decide
      rw [if_neg c4] at ck ⊢
      by_cases c5 : B a = 107
      · rw [if_pos c5]; decide
      rw [if_neg c5] at ck
      exact absurd rfl ck
    have N9 : ¬ G 14 6 < nI 9 → n = 9 := fun z => by
      rw [hd.1] at z
      have : ¬ n < 9 := fun y => z ((nI_ltI (by omega) (by decide)).mpr y)
      omega
    refine And.intro (fun z => absurd z kpos) (fun _ => And.intro (fun z => ?_) (fun z => J10 _ (Or.inr (N9 z))))
    have z : G 14 6 < nI 9 := z
    rw [hd.1] at z
    have n9 := (nI_ltI (by omega) (by decide)).mp z
    have hc0 : ¬ (kdC (B a) = -9 ∨ n = 9) := fun y => y.elim ck (fun y => by omega)
    rw [if_neg hc0] at h0 h1
    refine kc pl_up (x_figure_48 hZ h80 hA hB (by omega) ?_)
    by_cases cd : fgC (B (a + 1)) 9 = -9
    · rw [if_pos cd] at h0
      exact And.intro (fun z => absurd (fgX_no.mpr cd) (Int32.not_lt.mpr z)) (fun _ => ⟨Or.inl rfl, h0 _ rfl⟩)
    · rw [if_neg cd] at h0 h1
      rw [fgX_eq cd]
      refine And.intro (fun _ => ?_) (fun z => absurd (fun y => cd (fgX_no.mp y)) (Classical.not_not.mpr (by rw [fgX_eq cd]; exact Int32.not_le.mp z)))
      refine kc pl_up (x_figure_48 hZ h80 hA hB (by omega) (x_within ?_))
      have fg1 := fg_n (b := B (a + 2)) (m := 1) (by decide)
      by_cases cv : fgC (B (a + 2)) 1 = -9
      · rw [if_pos cv] at h0
        exact And.intro (fun z => absurd cv (fg1.1.mpr (in2.mp (b2i_p z)))) (fun _ => ⟨Or.inl rfl, h0 _ rfl⟩)
      · rw [if_neg cv] at h0 h1
        have ev : fgX (B (a + 2)) = fgC (B (a + 2)) 1 := (fg1.2 cv).symm
        refine And.intro (fun _ => ?_) (fun z => absurd (in2.mpr (fg1.1.mp cv)) (b2i_0.mp z))
        rw [ev]
        obtain ⟨kd, hkd⟩ : ∃ x, kdC (B a) = x := ⟨_, rfl⟩
        obtain ⟨dy, hdy⟩ : ∃ x, fgC (B (a + 1)) 9 = x := ⟨_, rfl⟩
        obtain ⟨vd, hvd⟩ : ∃ x, fgC (B (a + 2)) 1 = x := ⟨_, rfl⟩
        rw [hkd, hdy, hvd] at h1
        rw [hdy] at h0
        rw [hkd, hdy, hvd]
        -- the end of an item, from its dot on
        have J87 : ∀ (ci hw : Int32) e, (B e = 46 → pC B n (Q 1) dy (a + 3) = .inr (ci, hw, e + 1)) → (¬ B e = 46 → pC B n (Q 1) dy (a + 3) = .inl e) → e < 150 → mm_Ex (d + 5) k_X2_readItem 87 (0, 0) [.ref 13, .int kd, .int dy, .int vd, .int hw, .int ci] [] (hH L xs J 48 (up2 G 13 2 (nI e))) K := fun ci hw e hy hno he => by
          refine mm_run 60 (x_sign_48 hZ h80 hA (by omega) (And.intro (fun z => ?_) (fun z => ⟨Or.inl rfl, ?_⟩)))
          · have z := (sv_eq (c := 46) hB (by decide) (by decide)).mp z
            rw [hy z] at h1
            refine kc (pl_up (L := L) (xs := xs) (J := J) (S := 48) (k := e) (G := G)) ?_
            refine x_readMarks_48 (e0 := e + 1) hZ h80 hA hB (by omega) ?_
            exact x_add_14 (F := up2 G 13 2 (nI (mF B (e + 1) 5).2)) (hd.up).1 n9 ⟨Or.inr rfl, h1 _ _ rfl n9⟩
          · have z : ¬ B e = 46 := fun y => z ((sv_eq (c := 46) hB (by decide) (by decide)).mpr y)
            rw [hno z] at h0
            exact h0 _ rfl
        have J59 : ∀ (hw : Int32) (w5 : Value), (hw = 0 → ¬ (B (a + 3) = 43 ∨ B (a + 3) = 45)) → (¬ hw = 0 → (B (a + 3) = 43 ∨ B (a + 3) = 45) ∧ hw = (if B (a + 3) = 43 then 1 else -1)) → mm_Ex (d + 5) k_X2_readItem 59 (0, 0) [.ref 13, .int kd, .int dy, .int vd, .null, .null] [.int hw] (hH L xs J 48 (up2 G 13 2 (nI (a + 3)))) K := fun hw w5 g0 g1 => by
          refine mm_run 120 (And.intro (fun z => ?_) (fun z => ?_))
          · have g := g0 z
            refine J87 _ _ _ (fun y => ?_) (fun y => ?_) (by omega)
            · unfold pC
              rw [if_neg g, if_pos y, z]
            · unfold pC
              rw [if_neg g, if_neg y]
          · obtain ⟨g, gh⟩ := g1 z
            refine kc pl_up (x_figure_48 hZ h80 hA hB (by omega) ?_)
            refine x_can14 hd.up ?_
            have epC : pC B n (Q 1) dy (a + 3) = (if fgC (B (a + 3 + 1)) (nI n - 1) = -9 ∨ dy ≤ Q 1 (fgC (B (a + 3 + 1)) (nI n - 1)).toNatClampNeg then .inl (a + 3 + 1) else if B (a + 3 + 2) = 46 then .inr (fgC (B (a + 3 + 1)) (nI n - 1), (if B (a + 3) = 43 then 1 else -1), a + 3 + 3) else .inl (a + 3 + 2)) := by
              unfold pC
              rw [if_pos g]
            have key : (((0 ≤ fgX (B (a + 3 + 1)) ∧ fgX (B (a + 3 + 1)) < nI n) ∧ Q 1 (fgX (B (a + 3 + 1))).toNatClampNeg < dy) ↔ ¬ (fgC (B (a + 3 + 1)) (nI n - 1) = -9 ∨ dy ≤ Q 1 (fgC (B (a + 3 + 1)) (nI n - 1)).toNatClampNeg)) ∧ (¬ fgC (B (a + 3 + 1)) (nI n - 1) = -9 → fgC (B (a + 3 + 1)) (nI n - 1) = fgX (B (a + 3 + 1))) := by
              by_cases n0 : n = 0
              · have eN : fgC (B (a + 3 + 1)) (nI n - 1) = -9 := by
                  unfold fgC
                  refine if_neg fun y => ?_
                  rw [n0] at y
                  exact absurd (Int32.le_trans y.1 y.2) (by decide)
                refine ⟨⟨fun y => ?_, fun y => absurd (Or.inl eN) y⟩, fun y => absurd eN y⟩
                rw [n0] at y
                exact absurd y.1.2 (Int32.not_lt.mpr y.1.1)
              · obtain ⟨m, hm⟩ : ∃ m, n = m + 1 := ⟨n - 1, by omega⟩
                have em : nI n - 1 = nI m := by rw [hm, nI_pred]
                rw [em]
                have fgm := fg_n (b := B (a + 3 + 1)) (m := m) (by omega)
                refine ⟨⟨fun y => ?_, fun y => ?_⟩, fgm.2⟩
                · have hr : 0 ≤ fgX (B (a + 3 + 1)) ∧ fgX (B (a + 3 + 1)) ≤ nI m := by rw [← em]; exact (lt_in (by omega)).mp y.1
                  have hne := fgm.1.mpr hr
                  rw [fgm.2 hne]
                  refine fun z => z.elim (fun z => ?_) (fun z => Int32.not_le.mpr y.2 z)
                  rw [z] at hr
                  exact absurd hr.1 (by decide)
                · have hne : ¬ fgC (B (a + 3 + 1)) (nI m) = -9 := fun z => y (Or.inl z)
                  have hr := fgm.1.mp hne
                  refine ⟨(lt_in (by omega)).mpr (by rw [em]; exact hr), ?_⟩
                  rw [← fgm.2 hne]
                  exact Int32.not_le.mp fun z => y (Or.inr z)
            refine And.intro (fun z2 => ?_) (fun z2 => ⟨Or.inl rfl, ?_⟩)
            · have z2 := key.1.mp (b2i_p z2)
              rw [if_neg z2] at epC
              have eX : fgX (B (a + 3 + 1)) = fgC (B (a + 3 + 1)) (nI n - 1) := (key.2 (fun y => z2 (Or.inl y))).symm
              rw [eX]
              refine kx pl_up (J87 _ _ _ (fun y => ?_) (fun y => ?_) (by omega))
              · rw [epC, if_pos y, gh]
              · rw [epC, if_neg y]
            · have z2 : fgC (B (a + 3 + 1)) (nI n - 1) = -9 ∨ dy ≤ Q 1 (fgC (B (a + 3 + 1)) (nI n - 1)).toNatClampNeg := Classical.not_not.mp fun y => b2i_0.mp z2 (key.1.mpr y)
              rw [epC, if_pos z2] at h0
              exact h0 _ rfl
        refine kc pl_up (x_sign_48 hZ h80 hA (by omega) (And.intro (fun z => x_sign_48 hZ h80 hA (by omega) (And.intro (fun z2 => J59 0 .null (fun _ => ?_) (fun y => absurd rfl y)) (fun z2 => J59 (-1) .null (fun y => absurd y (by decide)) (fun _ => ?_)))) (fun z => J59 1 .null (fun y => absurd y (by decide)) (fun _ => ?_))))
        · have z : ¬ B (a + 3) = 43 := fun y => z ((sv_eq (c := 43) hB (by decide) (by decide)).mpr y)
          have z2 : ¬ B (a + 3) = 45 := fun y => z2 ((sv_eq (c := 45) hB (by decide) (by decide)).mpr y)
          exact fun y => y.elim z z2
        · have z : ¬ B (a + 3) = 43 := fun y => z ((sv_eq (c := 43) hB (by decide) (by decide)).mpr y)
          have z2 : B (a + 3) = 45 := (sv_eq (c := 45) hB (by decide) (by decide)).mp z2
          exact ⟨Or.inr z2, by rw [if_neg z]⟩
        · have z : B (a + 3) = 43 := (sv_eq (c := 43) hB (by decide) (by decide)).mp z
          exact ⟨Or.inl z, by rw [if_pos z]⟩
theorem x_read_48 {F : Nat → Nat → Int32} {n0 : Nat} (hZ : F 48 1 = nI Z) (h80 : Z ≤ 80) (hA : ∀ k, k < Z → F 49 k = B k) (hB : ∀ k, Z ≤ k → B k = -9) (hd : F 14 6 = nI n0) (hn0 : n0 ≤ 9) (h0 : ∀ p, rdS B Z 81 0 0 Q0 = .inl p → p ≤ 100 → ∀ G m, XZ F G → m ≤ 9 → G 14 6 = nI m → K (some (.int (nI p))) (hH L xs J 48 G)) (h1 : ∀ m Q, rdS B Z 81 0 0 Q0 = .inr (m, Q) → ∀ G, XZ F G → DR G m Q → K (some (.int (-9))) (hH L xs J 48 G)) : mm_call mm_Ex (d + 6) k_X2_read [.ref 13, .ref 48] (hH L xs J s F) K := by
  have H : ∀ N f, f ≤ N → ∀ a n Q x G, Z < f + a → a ≤ Z → rdS B Z f a n Q = rdS B Z 81 0 0 Q0 → x = nI n → XZ F G → DR G n Q → mm_Ex (d + 6) k_X2_read 12 (0, 0) [.ref 13, .ref 48, .int x] [] (hH L xs J 48 (up2 G 13 2 (nI a))) K := by
    intro N
    induction N with
    | zero => intro f hN a n Q x G h1 h2; omega
    | succ N ih =>
      intro f' hN a n Q x G hf' ha he hx hG hD
      obtain ⟨f, rfl⟩ : ∃ f, f' = f + 1 := ⟨f' - 1, by omega⟩
      have hf : Z < f + 1 + a := hf'
      subst hx
      have h9 := hD.2.1
      have gO : G 48 1 = nI Z := by rw [hG 48 (by omega)]; exact hZ
      have gA : ∀ k, k < Z → G 49 k = B k := fun k hk => by rw [hG 49 (by omega)]; exact hA k hk
      have up : ∀ x, XZ F (up2 G 13 2 x) := fun x k hk => by rw [up2_ne (by omega)]; exact hG k hk
      refine mm_run 60 (And.intro (fun z => absurd ((nI_ltI (a := 9) (by decide) (by omega)).mp z) (by omega)) (fun _ => x_skip_48 gO h80 gA ha (fun m hm hall hend => ?_)))
      -- at the next item, or the end
      obtain ⟨f2, hf2⟩ : ∃ f2, f + 1 = (f2 + 1) + m := ⟨f - m, by omega⟩
      have he2 : rdS B Z (f2 + 1) (a + m) n Q = rdS B Z 81 0 0 Q0 := by rw [← rd_skip hall hm, ← hf2]; exact he
      refine And.intro (fun z => ?_) (fun z => ?_)
      · have z : nI (a + m) < G 48 1 := z
        rw [gO] at z
        have z := (nI_ltI (by omega) (by omega)).mp z
        have hnb := hend z
        rw [rdS, if_neg (by omega), if_neg hnb, pI_0] at he2
        refine x_readItem_48 gO h80 gA hB (by omega) hD (fun p hp => ?_) (fun it e hp hn9 => ?_)
        · rw [hp] at he2
          have he2 : Sum.inl p = rdS B Z 81 0 0 Q0 := he2
          have hpl : p ≤ 100 := by
            have := pI0_le hp
            omega
          refine And.intro (fun y => absurd rfl y) (fun _ => ?_)
          exact h0 p he2.symm hpl _ n (up _) h9 hD.up.1
        · have hG2 : XZ F (add7 G 14 n it) := fun k hk => by
            unfold add7
            rw [if_neg (by omega), if_neg (by omega)]
            exact hG k hk
          have hD2 := hD.add hn9 (it := it)
          have ecm : add7 (up2 G 13 2 (nI e)) 14 n it = up2 (add7 G 14 n it) 13 2 (nI e) := by
            funext k
            by_cases e13 : k = 13
            · subst e13; rfl
            · rw [up2_ne e13]
              unfold add7
              rw [up2_ne e13, up2_ne (show (14 : Nat) ≠ 13 by decide)]
          rw [ecm]
          refine And.intro (fun _ => ?_) (fun y => absurd y (by decide))
          rw [hp] at he2
          have he2 : (if dgB (B e) = true then Sum.inl e else rdS B Z f2 e (n + 1) (qUp Q n it)) = rdS B Z 81 0 0 Q0 := by
            by_cases c : dgB (B e) = true
            · rw [if_pos c]
              dsimp only at he2
              rw [if_pos c] at he2
              exact he2
            · rw [if_neg c]
              dsimp only at he2
              rw [if_neg c] at he2
              exact he2
          by_cases c : dgB (B e) = true
          · rw [if_pos c] at he2
            have gO2 : add7 G 14 n it 48 1 = nI Z := by rw [hG2 48 (by omega)]; exact hZ
            have gA2 : ∀ k, k < Z → add7 G 14 n it 49 k = B k := fun k hk => by rw [hG2 49 (by omega)]; exact hA k hk
            have heZ : e < Z := Nat.lt_of_not_le fun y => dg_m9 c (hB e y)
            have up2' : ∀ x, XZ F (up2 (add7 G 14 n it) 13 2 x) := fun x k hk => by rw [up2_ne (by omega)]; exact hG2 k hk
            show mm_Ex (d + 6) k_X2_read 12 (0, 0) [.ref 13, .ref 48, .int (nI n + 1)] [] _ K
            rw [nI_1]
            refine mm_run 60 (And.intro (fun z => absurd ((nI_ltI (a := 9) (by decide) (by omega)).mp z) (by omega)) (fun _ => x_skip_48 gO2 h80 gA2 (by omega) (fun m2 hm2 hall2 _ => ?_)))
            have m0 : m2 = 0 := by
              refine Nat.le_zero.mp (Nat.le_of_not_lt fun y => dg_blank c (hall2 e (Nat.le_refl e) (by omega)))
            subst m0
            refine And.intro (fun z => ?_) (fun z => ?_)
            · refine x_readItem_48 gO2 h80 gA2 hB (by omega) hD2 (fun p hp => ?_) (fun it e hp _ => ?_)
              · simp only [Nat.add_zero] at hp
                unfold pI0 at hp
                rw [if_pos (Or.inl (kd_9 c))] at hp
                cases hp
                refine And.intro (fun y => absurd rfl y) (fun _ => ?_)
                exact h0 e he2.symm (by omega) _ (n + 1) (up2' _) (by omega) hD2.up.1
              · simp only [Nat.add_zero] at hp
                unfold pI0 at hp
                rw [if_pos (Or.inl (kd_9 c))] at hp
                cases hp
            · have z : ¬ nI (e + 0) < add7 G 14 n it 48 1 := z
              rw [gO2] at z
              exact absurd ((nI_ltI (by omega) (by omega)).mpr heZ) z
          · rw [if_neg c] at he2
            have hb := pI_bound (B := B) (Z := Z) (D := Q 1) (n := n) (a := a + m) (it := it) (e := e) hB h9 (by rw [pI_0, hp]; exact if_neg c)
            exact ih f2 (by omega) e (n + 1) (qUp Q n it) _ _ (by omega) (by omega) he2 (nI_1 n) hG2 hD2
      · have z : ¬ nI (a + m) < G 48 1 := z
        rw [gO] at z
        have z : Z ≤ a + m := Nat.le_of_not_lt fun y => z ((nI_ltI (by omega) (by omega)).mpr y)
        rw [rdS, if_pos z] at he2
        exact h1 n Q he2.symm _ (up _) hD.up
  have E0 : ((93, mU (mU (hH L xs J s F).2 13 (mO 2 [.ref 14, .ref 48, .int (F 13 2)])) 13 (mO 2 [.ref 14, .ref 48, .int 0])) : mm_H) = hH L xs J 48 (up2 F 13 2 0) := by
    have e1 := congrArg Prod.snd (hpS (L := L) (xs := xs) (J := J) (s := s) (s' := 48) (F := F) rfl)
    have e1 : mU (hH L xs J s F).2 13 (mO 2 [.ref 14, .ref 48, .int (F 13 2)]) = (hH L xs J 48 F).2 := e1
    rw [e1]
    exact hp1 (F := F) (k := 13) (g := upd (F 13) 2 0) rfl
  refine mm_run 60 (kc E0 (x_cutTo_14 (m := 0) (n := n0) (by rw [up2_ne (by decide)]; exact hd) hn0 (Nat.zero_le n0) ?_))
  have ecm : up2 (up2 F 13 2 0) 14 6 (nI 0) = up2 (up2 F 14 6 (nI 0)) 13 2 (nI 0) := by
    funext k
    by_cases e13 : k = 13
    · subst e13; rfl
    · by_cases e14 : k = 14
      · subst e14; rfl
      · rw [up2_ne e14, up2_ne e13, up2_ne e13, up2_ne e14]
  rw [ecm]
  exact H 81 81 (Nat.le_refl 81) 0 0 Q0 _ (up2 F 14 6 (nI 0)) (by omega) (Nat.zero_le Z) rfl rfl (fun k hk => up2_ne (by omega)) ⟨rfl, by decide, fun w hw i hi => absurd hi (Nat.not_lt_zero i)⟩
theorem x_sign_50 (hZ : G 50 1 = nI Z) (h80 : Z ≤ 80) (hA : ∀ k, k < Z → G 51 k = B k) (hp : p < 2 ^ 30) (hk : K (some (.int (sv B Z p))) (hH L xs J 50 (up2 G 13 2 (nI p)))) : mm_call mm_Ex (d + 3) k_X2_sign [.ref 13] (hH L xs J 50 (up2 G 13 2 (nI p))) K := by
  refine mm_run 20 (x_value_50 (F := up2 G 13 2 (nI p)) (i := nI p) hZ h80 ?_)
  have e : (if 0 ≤ nI p ∧ nI p < up2 G 13 2 (nI p) 50 1 then up2 G 13 2 (nI p) 51 (nI p).toNatClampNeg else 0) = sv B Z p := by
    rw [tn_nI (by omega), up2_ne (by decide), up2_ne (by decide), hZ]
    unfold sv
    by_cases c : p < Z
    · rw [if_pos ⟨nle0 (by omega), (nI_ltI (by omega) (by omega)).mpr c⟩, if_pos c]
      exact hA p c
    · rw [if_neg (fun y => c ((nI_ltI (by omega) (by omega)).mp y.2)), if_neg c]
  rw [e]
  exact hk
theorem x_skip_50 (hZ : G 50 1 = nI Z) (h80 : Z ≤ 80) (hA : ∀ k, k < Z → G 51 k = B k) (hp : p ≤ Z) (hk : ∀ m, p + m ≤ Z → (∀ k, p ≤ k → k < p + m → B k = 32) → (p + m < Z → ¬ B (p + m) = 32) → K none (hH L xs J 50 (up2 G 13 2 (nI (p + m))))) : mm_call mm_Ex (d + 3) k_X2_skipBlanks [.ref 13] (hH L xs J 50 (up2 G 13 2 (nI p))) K := by
  have H : ∀ f m, Z - (p + m) ≤ f → p + m ≤ Z → (∀ k, p ≤ k → k < p + m → B k = 32) → mm_Ex (d + 3) k_X2_skipBlanks 0 (0, 0) [.ref 13] [] (hH L xs J 50 (up2 G 13 2 (nI (p + m)))) K := by
    intro f
    induction f with
    | zero =>
      intro m hf hm hall
      have J20 : mm_Ex (d + 3) k_X2_skipBlanks 20 (0, 0) [.ref 13] [] (hH L xs J 50 (up2 G 13 2 (nI (p + m)))) K := mm_run 5 (hk m hm hall (fun y => by omega))
      refine mm_run 60 (And.intro (fun _ => J20) (fun z => absurd ?_ z))
      show G 50 1 ≤ nI (p + m)
      rw [hZ]
      exact (nI_leI (by omega) (by omega)).mpr (by omega)
    | succ f ih =>
      intro m hf hm hall
      by_cases hz : p + m = Z
      · exact ih m (by omega) hm hall
      · have J20 : ¬ B (p + m) = 32 → mm_Ex (d + 3) k_X2_skipBlanks 20 (0, 0) [.ref 13] [] (hH L xs J 50 (up2 G 13 2 (nI (p + m)))) K := fun y => mm_run 5 (hk m hm hall (fun _ => y))
        refine mm_run 60 (And.intro (fun z => ?_) (fun z => x_value_50 (F := up2 G 13 2 (nI (p + m))) (i := nI (p + m)) hZ h80 ?_))
        · have z : G 50 1 ≤ nI (p + m) := z
          rw [hZ] at z
          exact absurd z (nleI (by omega) (by omega))
        · have e : (if 0 ≤ nI (p + m) ∧ nI (p + m) < up2 G 13 2 (nI (p + m)) 50 1 then up2 G 13 2 (nI (p + m)) 51 (nI (p + m)).toNatClampNeg else 0) = B (p + m) := by
            rw [tn_nI (by omega), up2_ne (by decide), up2_ne (by decide), hZ, if_pos ⟨nle0 (by omega), (nI_ltI (by omega) (by omega)).mpr (by omega)⟩]
            exact hA _ (by omega)
          rw [e]
          refine And.intro (fun z2 => J20 z2) (fun z2 => kx pl_up (ih (m + 1) (by omega) (by omega) fun k h1 h2 => ?_))
          by_cases e2 : k = p + m
          · rw [e2]; exact z2
          · exact hall k h1 (by omega)
  exact H Z 0 (by omega) hp (fun k h1 h2 => by omega)
theorem x_letter_50 (hZ : G 50 1 = nI Z) (h80 : Z ≤ 80) (hA : ∀ k, k < Z → G 51 k = B k) (hB : ∀ k, Z ≤ k → B k = -9) (hp : p < 2 ^ 30) (hk : K (some (.int (if kdC (B p) = -9 then -1 else kdC (B p)))) (hH L xs J 50 (up2 G 13 2 (nI p)))) : mm_call mm_Ex (d + 4) k_X2_letter [.ref 13] (hH L xs J 50 (up2 G 13 2 (nI p))) K := by
  refine mm_run 60 (lp (n := 6) (P := fun i => (∀ j, j < i → ¬ B p = mm_let j) → ∀ x, x = nI i → mm_Ex (d + 4) k_X2_letter 2 (0, 0) [.ref 13, .int x] [] (hH L xs J 50 (up2 G 13 2 (nI p))) K) ?_ ?_ (fun j hj => absurd hj (Nat.not_lt_zero j)) 0 rfl)
  · intro ha x hx
    subst hx
    rw [kd_no ha, if_pos rfl] at hk
    exact mm_run 60 (And.intro (fun _ => hk) (fun z => absurd (by decide) z))
  · intro i hi ih ha x hx
    subst hx
    refine mm_run 60 (And.intro (fun z => absurd z (nleI (b := 6) hi (by decide))) (fun _ => x_sign_50 hZ h80 hA hp ⟨vp_in_nI (by omega) (by decide), And.intro (fun z => ih (fun j hj => ?_) _ (nI_1 i)) (fun z => ?_)⟩))
    · by_cases e : j = i
      · have z : ¬ sv B Z p = mm_let (nI i).toNatClampNeg := z
        rw [tn_nI (by omega)] at z
        rw [e]
        exact fun y => z ((sv_eq hB (let_ne i hi).1 (let_ne i hi).2).mpr y)
      · exact ha j (by omega)
    · have z : sv B Z p = mm_let (nI i).toNatClampNeg := z
      rw [tn_nI (by omega)] at z
      have z := (sv_eq hB (let_ne i hi).1 (let_ne i hi).2).mp z
      rw [kd_yes hi ha z, if_neg (nI_n9 (by omega))] at hk
      exact hk
theorem x_figure_50 (hZ : G 50 1 = nI Z) (h80 : Z ≤ 80) (hA : ∀ k, k < Z → G 51 k = B k) (hB : ∀ k, Z ≤ k → B k = -9) (hp : p < 2 ^ 30) (hk : K (some (.int (fgX (B p)))) (hH L xs J 50 (up2 G 13 2 (nI p)))) : mm_call mm_Ex (d + 4) k_X2_figure [.ref 13] (hH L xs J 50 (up2 G 13 2 (nI p))) K := by
  have J12 : ∀ v (w : Int32), v = fgX (B p) → mm_Ex (d + 4) k_X2_figure 12 (0, 0) [.ref 13, .int w] [.int v] (hH L xs J 50 (up2 G 13 2 (nI p))) K := fun v w e => by
    subst e
    exact mm_run 5 hk
  refine mm_run 60 (x_sign_50 hZ h80 hA hp (x_within (And.intro (fun z => J12 _ _ ?_) (fun z => J12 _ _ ?_))))
  · have z := b2i_0.mp z
    unfold fgX
    by_cases c : p < Z
    · have z : ¬ (0 ≤ B p - 48 ∧ B p - 48 < 10) := by
        have e : sv B Z p = B p := if_pos c
        rw [e] at z
        exact z
      rw [if_neg (fun y => z (in10.mpr y))]
    · rw [hB p (by omega)]
      decide
  · have z := b2i_p z
    by_cases c : p < Z
    · have e : sv B Z p = B p := if_pos c
      rw [e] at z ⊢
      unfold fgX
      rw [if_pos (in10.mp z)]
    · have e : sv B Z p = 0 := if_neg c
      rw [e] at z
      exact absurd z (by decide)
theorem x_readMarks_50 {e0 : Nat} (hZ : G 50 1 = nI Z) (h80 : Z ≤ 80) (hA : ∀ k, k < Z → G 51 k = B k) (hB : ∀ k, Z ≤ k → B k = -9) (he : e0 < 200) (hk : K (some (.int (nI (mF B e0 5).1))) (hH L xs J 50 (up2 G 13 2 (nI (mF B e0 5).2)))) : mm_call mm_Ex (d + 4) k_X2_readMarks [.ref 13] (hH L xs J 50 (up2 G 13 2 (nI e0))) K := by
  refine mm_run 60 (lp (n := 5) (P := fun i => ∀ x a, x = nI i → a = nI (mF B e0 i).1 → mm_Ex (d + 4) k_X2_readMarks 4 (0, 0) [.ref 13, .int a, .int x] [] (hH L xs J 50 (up2 G 13 2 (nI (mF B e0 i).2))) K) ?_ ?_ 0 0 rfl rfl)
  · intro x a hx ha
    subst hx ha
    exact mm_run 60 (And.intro (fun _ => hk) (fun z => absurd (by decide) z))
  · intro i hi ih x a hx ha
    subst hx
    have hle := mF_le B e0 i
    have hs := mF_s B e0 i
    have J25 : ∀ a P, a = nI (mF B e0 (i + 1)).1 → P = (mF B e0 (i + 1)).2 → mm_Ex (d + 4) k_X2_readMarks 25 (0, 0) [.ref 13, .int a, .int (nI i)] [] (hH L xs J 50 (up2 G 13 2 (nI P))) K := fun a P h1 h2 => by
      subst h2
      exact mm_run 10 (ih _ _ (nI_1 i) h1)
    have e48 : (48 : Int32) + nI i = nI (48 + i) := nI_add 48 i
    have n0 : ¬ nI (48 + i) = 0 := nI_ne0 (by omega) (by omega)
    have n9 : ¬ nI (48 + i) = -9 := ne9 (by omega)
    refine mm_run 60 (And.intro (fun z => absurd z (nleI (b := 5) hi (by decide))) (fun _ => x_sign_50 hZ h80 hA (by omega) (And.intro (fun z => J25 _ _ ?_ ?_) (fun z => kx pl_up (J25 _ _ ?_ ?_)))))
    · have z : ¬ sv B Z (mF B e0 i).2 = nI (48 + i) := fun y => z (y.trans e48.symm)
      rw [hs, if_neg (fun y => z ((sv_eq hB n0 n9).mpr y))]
      exact ha
    · have z : ¬ sv B Z (mF B e0 i).2 = nI (48 + i) := fun y => z (y.trans e48.symm)
      rw [hs, if_neg (fun y => z ((sv_eq hB n0 n9).mpr y))]
    · have z : sv B Z (mF B e0 i).2 = nI (48 + i) := Eq.trans z e48
      rw [hs, if_pos ((sv_eq hB n0 n9).mp z), ha, shl1 (by omega), fa_or]
    · have z : sv B Z (mF B e0 i).2 = nI (48 + i) := Eq.trans z e48
      rw [hs, if_pos ((sv_eq hB n0 n9).mp z)]
theorem x_readItem_50 {a : Nat} (hZ : G 50 1 = nI Z) (h80 : Z ≤ 80) (hA : ∀ k, k < Z → G 51 k = B k) (hB : ∀ k, Z ≤ k → B k = -9) (ha : a ≤ 100) (hd : DR G n Q) (h0 : ∀ p, pI0 B n (Q 1) a = .inl p → K (some (.int 0)) (hH L xs J 50 (up2 G 13 2 (nI p)))) (h1 : ∀ it e, pI0 B n (Q 1) a = .inr (it, e) → n < 9 → K (some (.int 1)) (hH L xs J 50 (add7 (up2 G 13 2 (nI e)) 14 n it))) : mm_call mm_Ex (d + 5) k_X2_readItem [.ref 13] (hH L xs J 50 (up2 G 13 2 (nI a))) K := by
  have h9 := hd.2.1
  unfold pI0 at h0 h1
  have J10 : ∀ (w1 : Value), (kdC (B a) = -9 ∨ n = 9) → mm_Ex (d + 5) k_X2_readItem 10 (0, 0) [.ref 13, w1, .null, .null, .null, .null] [] (hH L xs J 50 (up2 G 13 2 (nI a))) K := fun w1 c => by
    rw [if_pos c] at h0
    exact mm_run 5 ⟨Or.inl rfl, h0 a rfl⟩
  refine mm_run 120 (x_letter_50 hZ h80 hA hB (by omega) ?_)
  by_cases ck : kdC (B a) = -9
  · rw [if_pos ck]
    exact And.intro (fun _ => J10 _ (Or.inl ck)) (fun z => absurd (by decide) z)
  · rw [if_neg ck]
    have kpos : ¬ kdC (B a) < 0 := by
      unfold kdC at ck ⊢
      by_cases c0 : B a = 114
      · rw [if_pos c0]; decide
      rw [if_neg c0] at ck ⊢
      by_cases c1 : B a = 98
      · rw [if_pos c1]; decide
      rw [if_neg c1] at ck ⊢
      by_cases c2 : B a = 102
      · rw [if_pos c2]; decide
      rw [if_neg c2] at ck ⊢
      by_cases c3 : B a = 117
      · rw [if_pos c3]; decide
      rw [if_neg c3] at ck ⊢
      by_cases c4 : B a = 99
      · rw [if_pos c4]; decide
      rw [if_neg c4] at ck ⊢
      by_cases c5 : B a = 107
      · rw [if_pos c5]; decide
      rw [if_neg c5] at ck
      exact absurd rfl ck
    have N9 : ¬ G 14 6 < nI 9 → n = 9 := fun z => by
      rw [hd.1] at z
      have : ¬ n < 9 := fun y => z ((nI_ltI (by omega) (by decide)).mpr y)
      omega
    refine And.intro (fun z => absurd z kpos) (fun _ => And.intro (fun z => ?_) (fun z => J10 _ (Or.inr (N9 z))))
    have z : G 14 6 < nI 9 := z
    rw [hd.1] at z
    have n9 := (nI_ltI (by omega) (by decide)).mp z
    have hc0 : ¬ (kdC (B a) = -9 ∨ n = 9) := fun y => y.elim ck (fun y => by omega)
    rw [if_neg hc0] at h0 h1
    refine kc pl_up (x_figure_50 hZ h80 hA hB (by omega) ?_)
    by_cases cd : fgC (B (a + 1)) 9 = -9
    · rw [if_pos cd] at h0
      exact And.intro (fun z => absurd (fgX_no.mpr cd) (Int32.not_lt.mpr z)) (fun _ => ⟨Or.inl rfl, h0 _ rfl⟩)
    · rw [if_neg cd] at h0 h1
      rw [fgX_eq cd]
      refine And.intro (fun _ => ?_) (fun z => absurd (fun y => cd (fgX_no.mp y)) (Classical.not_not.mpr (by rw [fgX_eq cd]; exact Int32.not_le.mp z)))
      refine kc pl_up (x_figure_50 hZ h80 hA hB (by omega) (x_within ?_))
      have fg1 := fg_n (b := B (a + 2)) (m := 1) (by decide)
      by_cases cv : fgC (B (a + 2)) 1 = -9
      · rw [if_pos cv] at h0
        exact And.intro (fun z => absurd cv (fg1.1.mpr (in2.mp (b2i_p z)))) (fun _ => ⟨Or.inl rfl, h0 _ rfl⟩)
      · rw [if_neg cv] at h0 h1
        have ev : fgX (B (a + 2)) = fgC (B (a + 2)) 1 := (fg1.2 cv).symm
        refine And.intro (fun _ => ?_) (fun z => absurd (in2.mpr (fg1.1.mp cv)) (b2i_0.mp z))
        rw [ev]
        obtain ⟨kd, hkd⟩ : ∃ x, kdC (B a) = x := ⟨_, rfl⟩
        obtain ⟨dy, hdy⟩ : ∃ x, fgC (B (a + 1)) 9 = x := ⟨_, rfl⟩
        obtain ⟨vd, hvd⟩ : ∃ x, fgC (B (a + 2)) 1 = x := ⟨_, rfl⟩
        rw [hkd, hdy, hvd] at h1
        rw [hdy] at h0
        rw [hkd, hdy, hvd]
        -- the end of an item, from its dot on
        have J87 : ∀ (ci hw : Int32) e, (B e = 46 → pC B n (Q 1) dy (a + 3) = .inr (ci, hw, e + 1)) → (¬ B e = 46 → pC B n (Q 1) dy (a + 3) = .inl e) → e < 150 → mm_Ex (d + 5) k_X2_readItem 87 (0, 0) [.ref 13, .int kd, .int dy, .int vd, .int hw, .int ci] [] (hH L xs J 50 (up2 G 13 2 (nI e))) K := fun ci hw e hy hno he => by
          refine mm_run 60 (x_sign_50 hZ h80 hA (by omega) (And.intro (fun z => ?_) (fun z => ⟨Or.inl rfl, ?_⟩)))
          · have z := (sv_eq (c := 46) hB (by decide) (by decide)).mp z
            rw [hy z] at h1
            refine kc (pl_up (L := L) (xs := xs) (J := J) (S := 50) (k := e) (G := G)) ?_
            refine x_readMarks_50 (e0 := e + 1) hZ h80 hA hB (by omega) ?_
            exact x_add_14 (F := up2 G 13 2 (nI (mF B (e + 1) 5).2)) (hd.up).1 n9 ⟨Or.inr rfl, h1 _ _ rfl n9⟩
          · have z : ¬ B e = 46 := fun y => z ((sv_eq (c := 46) hB (by decide) (by decide)).mpr y)
            rw [hno z] at h0
            exact h0 _ rfl
        have J59 : ∀ (hw : Int32) (w5 : Value), (hw = 0 → ¬ (B (a + 3) = 43 ∨ B (a + 3) = 45)) → (¬ hw = 0 → (B (a + 3) = 43 ∨ B (a + 3) = 45) ∧ hw = (if B (a + 3) = 43 then 1 else -1)) → mm_Ex (d + 5) k_X2_readItem 59 (0, 0) [.ref 13, .int kd, .int dy, .int vd, .null, .null] [.int hw] (hH L xs J 50 (up2 G 13 2 (nI (a + 3)))) K := fun hw w5 g0 g1 => by
          refine mm_run 120 (And.intro (fun z => ?_) (fun z => ?_))
          · have g := g0 z
            refine J87 _ _ _ (fun y => ?_) (fun y => ?_) (by omega)
            · unfold pC
              rw [if_neg g, if_pos y, z]
            · unfold pC
              rw [if_neg g, if_neg y]
          · obtain ⟨g, gh⟩ := g1 z
            refine kc pl_up (x_figure_50 hZ h80 hA hB (by omega) ?_)
            refine x_can14 hd.up ?_
            have epC : pC B n (Q 1) dy (a + 3) = (if fgC (B (a + 3 + 1)) (nI n - 1) = -9 ∨ dy ≤ Q 1 (fgC (B (a + 3 + 1)) (nI n - 1)).toNatClampNeg then .inl (a + 3 + 1) else if B (a + 3 + 2) = 46 then .inr (fgC (B (a + 3 + 1)) (nI n - 1), (if B (a + 3) = 43 then 1 else -1), a + 3 + 3) else .inl (a + 3 + 2)) := by
              unfold pC
              rw [if_pos g]
            have key : (((0 ≤ fgX (B (a + 3 + 1)) ∧ fgX (B (a + 3 + 1)) < nI n) ∧ Q 1 (fgX (B (a + 3 + 1))).toNatClampNeg < dy) ↔ ¬ (fgC (B (a + 3 + 1)) (nI n - 1) = -9 ∨ dy ≤ Q 1 (fgC (B (a + 3 + 1)) (nI n - 1)).toNatClampNeg)) ∧ (¬ fgC (B (a + 3 + 1)) (nI n - 1) = -9 → fgC (B (a + 3 + 1)) (nI n - 1) = fgX (B (a + 3 + 1))) := by
              by_cases n0 : n = 0
              · have eN : fgC (B (a + 3 + 1)) (nI n - 1) = -9 := by
                  unfold fgC
                  refine if_neg fun y => ?_
                  rw [n0] at y
                  exact absurd (Int32.le_trans y.1 y.2) (by decide)
                refine ⟨⟨fun y => ?_, fun y => absurd (Or.inl eN) y⟩, fun y => absurd eN y⟩
                rw [n0] at y
                exact absurd y.1.2 (Int32.not_lt.mpr y.1.1)
              · obtain ⟨m, hm⟩ : ∃ m, n = m + 1 := ⟨n - 1, by omega⟩
                have em : nI n - 1 = nI m := by rw [hm, nI_pred]
                rw [em]
                have fgm := fg_n (b := B (a + 3 + 1)) (m := m) (by omega)
                refine ⟨⟨fun y => ?_, fun y => ?_⟩, fgm.2⟩
                · have hr : 0 ≤ fgX (B (a + 3 + 1)) ∧ fgX (B (a + 3 + 1)) ≤ nI m := by rw [← em]; exact (lt_in (by omega)).mp y.1
                  have hne := fgm.1.mpr hr
                  rw [fgm.2 hne]
                  refine fun z => z.elim (fun z => ?_) (fun z => Int32.not_le.mpr y.2 z)
                  rw [z] at hr
                  exact absurd hr.1 (by decide)
                · have hne : ¬ fgC (B (a + 3 + 1)) (nI m) = -9 := fun z => y (Or.inl z)
                  have hr := fgm.1.mp hne
                  refine ⟨(lt_in (by omega)).mpr (by rw [em]; exact hr), ?_⟩
                  rw [← fgm.2 hne]
                  exact Int32.not_le.mp fun z => y (Or.inr z)
            refine And.intro (fun z2 => ?_) (fun z2 => ⟨Or.inl rfl, ?_⟩)
            · have z2 := key.1.mp (b2i_p z2)
              rw [if_neg z2] at epC
              have eX : fgX (B (a + 3 + 1)) = fgC (B (a + 3 + 1)) (nI n - 1) := (key.2 (fun y => z2 (Or.inl y))).symm
              rw [eX]
              refine kx pl_up (J87 _ _ _ (fun y => ?_) (fun y => ?_) (by omega))
              · rw [epC, if_pos y, gh]
              · rw [epC, if_neg y]
            · have z2 : fgC (B (a + 3 + 1)) (nI n - 1) = -9 ∨ dy ≤ Q 1 (fgC (B (a + 3 + 1)) (nI n - 1)).toNatClampNeg := Classical.not_not.mp fun y => b2i_0.mp z2 (key.1.mpr y)
              rw [epC, if_pos z2] at h0
              exact h0 _ rfl
        refine kc pl_up (x_sign_50 hZ h80 hA (by omega) (And.intro (fun z => x_sign_50 hZ h80 hA (by omega) (And.intro (fun z2 => J59 0 .null (fun _ => ?_) (fun y => absurd rfl y)) (fun z2 => J59 (-1) .null (fun y => absurd y (by decide)) (fun _ => ?_)))) (fun z => J59 1 .null (fun y => absurd y (by decide)) (fun _ => ?_))))
        · have z : ¬ B (a + 3) = 43 := fun y => z ((sv_eq (c := 43) hB (by decide) (by decide)).mpr y)
          have z2 : ¬ B (a + 3) = 45 := fun y => z2 ((sv_eq (c := 45) hB (by decide) (by decide)).mpr y)
          exact fun y => y.elim z z2
        · have z : ¬ B (a + 3) = 43 := fun y => z ((sv_eq (c := 43) hB (by decide) (by decide)).mpr y)
          have z2 : B (a + 3) = 45 := (sv_eq (c := 45) hB (by decide) (by decide)).mp z2
          exact ⟨Or.inr z2, by rw [if_neg z]⟩
        · have z : B (a + 3) = 43 := (sv_eq (c := 43) hB (by decide) (by decide)).mp z
          exact ⟨Or.inl z, by rw [if_pos z]⟩
theorem x_read_50 {F : Nat → Nat → Int32} {n0 : Nat} (hZ : F 50 1 = nI Z) (h80 : Z ≤ 80) (hA : ∀ k, k < Z → F 51 k = B k) (hB : ∀ k, Z ≤ k → B k = -9) (hd : F 14 6 = nI n0) (hn0 : n0 ≤ 9) (h0 : ∀ p, rdS B Z 81 0 0 Q0 = .inl p → p ≤ 100 → ∀ G m, XZ F G → m ≤ 9 → G 14 6 = nI m → K (some (.int (nI p))) (hH L xs J 50 G)) (h1 : ∀ m Q, rdS B Z 81 0 0 Q0 = .inr (m, Q) → ∀ G, XZ F G → DR G m Q → K (some (.int (-9))) (hH L xs J 50 G)) : mm_call mm_Ex (d + 6) k_X2_read [.ref 13, .ref 50] (hH L xs J s F) K := by
  have H : ∀ N f, f ≤ N → ∀ a n Q x G, Z < f + a → a ≤ Z → rdS B Z f a n Q = rdS B Z 81 0 0 Q0 → x = nI n → XZ F G → DR G n Q → mm_Ex (d + 6) k_X2_read 12 (0, 0) [.ref 13, .ref 50, .int x] [] (hH L xs J 50 (up2 G 13 2 (nI a))) K := by
    intro N
    induction N with
    | zero => intro f hN a n Q x G h1 h2; omega
    | succ N ih =>
      intro f' hN a n Q x G hf' ha he hx hG hD
      obtain ⟨f, rfl⟩ : ∃ f, f' = f + 1 := ⟨f' - 1, by omega⟩
      have hf : Z < f + 1 + a := hf'
      subst hx
      have h9 := hD.2.1
      have gO : G 50 1 = nI Z := by rw [hG 50 (by omega)]; exact hZ
      have gA : ∀ k, k < Z → G 51 k = B k := fun k hk => by rw [hG 51 (by omega)]; exact hA k hk
      have up : ∀ x, XZ F (up2 G 13 2 x) := fun x k hk => by rw [up2_ne (by omega)]; exact hG k hk
      refine mm_run 60 (And.intro (fun z => absurd ((nI_ltI (a := 9) (by decide) (by omega)).mp z) (by omega)) (fun _ => x_skip_50 gO h80 gA ha (fun m hm hall hend => ?_)))
      -- at the next item, or the end
      obtain ⟨f2, hf2⟩ : ∃ f2, f + 1 = (f2 + 1) + m := ⟨f - m, by omega⟩
      have he2 : rdS B Z (f2 + 1) (a + m) n Q = rdS B Z 81 0 0 Q0 := by rw [← rd_skip hall hm, ← hf2]; exact he
      refine And.intro (fun z => ?_) (fun z => ?_)
      · have z : nI (a + m) < G 50 1 := z
        rw [gO] at z
        have z := (nI_ltI (by omega) (by omega)).mp z
        have hnb := hend z
        rw [rdS, if_neg (by omega), if_neg hnb, pI_0] at he2
        refine x_readItem_50 gO h80 gA hB (by omega) hD (fun p hp => ?_) (fun it e hp hn9 => ?_)
        · rw [hp] at he2
          have he2 : Sum.inl p = rdS B Z 81 0 0 Q0 := he2
          have hpl : p ≤ 100 := by
            have := pI0_le hp
            omega
          refine And.intro (fun y => absurd rfl y) (fun _ => ?_)
          exact h0 p he2.symm hpl _ n (up _) h9 hD.up.1
        · have hG2 : XZ F (add7 G 14 n it) := fun k hk => by
            unfold add7
            rw [if_neg (by omega), if_neg (by omega)]
            exact hG k hk
          have hD2 := hD.add hn9 (it := it)
          have ecm : add7 (up2 G 13 2 (nI e)) 14 n it = up2 (add7 G 14 n it) 13 2 (nI e) := by
            funext k
            by_cases e13 : k = 13
            · subst e13; rfl
            · rw [up2_ne e13]
              unfold add7
              rw [up2_ne e13, up2_ne (show (14 : Nat) ≠ 13 by decide)]
          rw [ecm]
          refine And.intro (fun _ => ?_) (fun y => absurd y (by decide))
          rw [hp] at he2
          have he2 : (if dgB (B e) = true then Sum.inl e else rdS B Z f2 e (n + 1) (qUp Q n it)) = rdS B Z 81 0 0 Q0 := by
            by_cases c : dgB (B e) = true
            · rw [if_pos c]
              dsimp only at he2
              rw [if_pos c] at he2
              exact he2
            · rw [if_neg c]
              dsimp only at he2
              rw [if_neg c] at he2
              exact he2
          by_cases c : dgB (B e) = true
          · rw [if_pos c] at he2
            have gO2 : add7 G 14 n it 50 1 = nI Z := by rw [hG2 50 (by omega)]; exact hZ
            have gA2 : ∀ k, k < Z → add7 G 14 n it 51 k = B k := fun k hk => by rw [hG2 51 (by omega)]; exact hA k hk
            have heZ : e < Z := Nat.lt_of_not_le fun y => dg_m9 c (hB e y)
            have up2' : ∀ x, XZ F (up2 (add7 G 14 n it) 13 2 x) := fun x k hk => by rw [up2_ne (by omega)]; exact hG2 k hk
            show mm_Ex (d + 6) k_X2_read 12 (0, 0) [.ref 13, .ref 50, .int (nI n + 1)] [] _ K
            rw [nI_1]
            refine mm_run 60 (And.intro (fun z => absurd ((nI_ltI (a := 9) (by decide) (by omega)).mp z) (by omega)) (fun _ => x_skip_50 gO2 h80 gA2 (by omega) (fun m2 hm2 hall2 _ => ?_)))
            have m0 : m2 = 0 := by
              refine Nat.le_zero.mp (Nat.le_of_not_lt fun y => dg_blank c (hall2 e (Nat.le_refl e) (by omega)))
            subst m0
            refine And.intro (fun z => ?_) (fun z => ?_)
            · refine x_readItem_50 gO2 h80 gA2 hB (by omega) hD2 (fun p hp => ?_) (fun it e hp _ => ?_)
              · simp only [Nat.add_zero] at hp
                unfold pI0 at hp
                rw [if_pos (Or.inl (kd_9 c))] at hp
                cases hp
                refine And.intro (fun y => absurd rfl y) (fun _ => ?_)
                exact h0 e he2.symm (by omega) _ (n + 1) (up2' _) (by omega) hD2.up.1
              · simp only [Nat.add_zero] at hp
                unfold pI0 at hp
                rw [if_pos (Or.inl (kd_9 c))] at hp
                cases hp
            · have z : ¬ nI (e + 0) < add7 G 14 n it 50 1 := z
              rw [gO2] at z
              exact absurd ((nI_ltI (by omega) (by omega)).mpr heZ) z
          · rw [if_neg c] at he2
            have hb := pI_bound (B := B) (Z := Z) (D := Q 1) (n := n) (a := a + m) (it := it) (e := e) hB h9 (by rw [pI_0, hp]; exact if_neg c)
            exact ih f2 (by omega) e (n + 1) (qUp Q n it) _ _ (by omega) (by omega) he2 (nI_1 n) hG2 hD2
      · have z : ¬ nI (a + m) < G 50 1 := z
        rw [gO] at z
        have z : Z ≤ a + m := Nat.le_of_not_lt fun y => z ((nI_ltI (by omega) (by omega)).mpr y)
        rw [rdS, if_pos z] at he2
        exact h1 n Q he2.symm _ (up _) hD.up
  have E0 : ((93, mU (mU (hH L xs J s F).2 13 (mO 2 [.ref 14, .ref 50, .int (F 13 2)])) 13 (mO 2 [.ref 14, .ref 50, .int 0])) : mm_H) = hH L xs J 50 (up2 F 13 2 0) := by
    have e1 := congrArg Prod.snd (hpS (L := L) (xs := xs) (J := J) (s := s) (s' := 50) (F := F) rfl)
    have e1 : mU (hH L xs J s F).2 13 (mO 2 [.ref 14, .ref 50, .int (F 13 2)]) = (hH L xs J 50 F).2 := e1
    rw [e1]
    exact hp1 (F := F) (k := 13) (g := upd (F 13) 2 0) rfl
  refine mm_run 60 (kc E0 (x_cutTo_14 (m := 0) (n := n0) (by rw [up2_ne (by decide)]; exact hd) hn0 (Nat.zero_le n0) ?_))
  have ecm : up2 (up2 F 13 2 0) 14 6 (nI 0) = up2 (up2 F 14 6 (nI 0)) 13 2 (nI 0) := by
    funext k
    by_cases e13 : k = 13
    · subst e13; rfl
    · by_cases e14 : k = 14
      · subst e14; rfl
      · rw [up2_ne e14, up2_ne e13, up2_ne e13, up2_ne e14]
  rw [ecm]
  exact H 81 81 (Nat.le_refl 81) 0 0 Q0 _ (up2 F 14 6 (nI 0)) (by omega) (Nat.zero_le Z) rfl rfl (fun k hk => up2_ne (by omega)) ⟨rfl, by decide, fun w hw i hi => absurd hi (Nat.not_lt_zero i)⟩
theorem x_sign_52 (hZ : G 52 1 = nI Z) (h80 : Z ≤ 80) (hA : ∀ k, k < Z → G 53 k = B k) (hp : p < 2 ^ 30) (hk : K (some (.int (sv B Z p))) (hH L xs J 52 (up2 G 13 2 (nI p)))) : mm_call mm_Ex (d + 3) k_X2_sign [.ref 13] (hH L xs J 52 (up2 G 13 2 (nI p))) K := by
  refine mm_run 20 (x_value_52 (F := up2 G 13 2 (nI p)) (i := nI p) hZ h80 ?_)
  have e : (if 0 ≤ nI p ∧ nI p < up2 G 13 2 (nI p) 52 1 then up2 G 13 2 (nI p) 53 (nI p).toNatClampNeg else 0) = sv B Z p := by
    rw [tn_nI (by omega), up2_ne (by decide), up2_ne (by decide), hZ]
    unfold sv
    by_cases c : p < Z
    · rw [if_pos ⟨nle0 (by omega), (nI_ltI (by omega) (by omega)).mpr c⟩, if_pos c]
      exact hA p c
    · rw [if_neg (fun y => c ((nI_ltI (by omega) (by omega)).mp y.2)), if_neg c]
  rw [e]
  exact hk
theorem x_skip_52 (hZ : G 52 1 = nI Z) (h80 : Z ≤ 80) (hA : ∀ k, k < Z → G 53 k = B k) (hp : p ≤ Z) (hk : ∀ m, p + m ≤ Z → (∀ k, p ≤ k → k < p + m → B k = 32) → (p + m < Z → ¬ B (p + m) = 32) → K none (hH L xs J 52 (up2 G 13 2 (nI (p + m))))) : mm_call mm_Ex (d + 3) k_X2_skipBlanks [.ref 13] (hH L xs J 52 (up2 G 13 2 (nI p))) K := by
  have H : ∀ f m, Z - (p + m) ≤ f → p + m ≤ Z → (∀ k, p ≤ k → k < p + m → B k = 32) → mm_Ex (d + 3) k_X2_skipBlanks 0 (0, 0) [.ref 13] [] (hH L xs J 52 (up2 G 13 2 (nI (p + m)))) K := by
    intro f
    induction f with
    | zero =>
      intro m hf hm hall
      have J20 : mm_Ex (d + 3) k_X2_skipBlanks 20 (0, 0) [.ref 13] [] (hH L xs J 52 (up2 G 13 2 (nI (p + m)))) K := mm_run 5 (hk m hm hall (fun y => by omega))
      refine mm_run 60 (And.intro (fun _ => J20) (fun z => absurd ?_ z))
      show G 52 1 ≤ nI (p + m)
      rw [hZ]
      exact (nI_leI (by omega) (by omega)).mpr (by omega)
    | succ f ih =>
      intro m hf hm hall
      by_cases hz : p + m = Z
      · exact ih m (by omega) hm hall
      · have J20 : ¬ B (p + m) = 32 → mm_Ex (d + 3) k_X2_skipBlanks 20 (0, 0) [.ref 13] [] (hH L xs J 52 (up2 G 13 2 (nI (p + m)))) K := fun y => mm_run 5 (hk m hm hall (fun _ => y))
        refine mm_run 60 (And.intro (fun z => ?_) (fun z => x_value_52 (F := up2 G 13 2 (nI (p + m))) (i := nI (p + m)) hZ h80 ?_))
        · have z : G 52 1 ≤ nI (p + m) := z
          rw [hZ] at z
          exact absurd z (nleI (by omega) (by omega))
        · have e : (if 0 ≤ nI (p + m) ∧ nI (p + m) < up2 G 13 2 (nI (p + m)) 52 1 then up2 G 13 2 (nI (p + m)) 53 (nI (p + m)).toNatClampNeg else 0) = B (p + m) := by
            rw [tn_nI (by omega), up2_ne (by decide), up2_ne (by decide), hZ, if_pos ⟨nle0 (by omega), (nI_ltI (by omega) (by omega)).mpr (by omega)⟩]
            exact hA _ (by omega)
          rw [e]
          refine And.intro (fun z2 => J20 z2) (fun z2 => kx pl_up (ih (m + 1) (by omega) (by omega) fun k h1 h2 => ?_))
          by_cases e2 : k = p + m
          · rw [e2]; exact z2
          · exact hall k h1 (by omega)
  exact H Z 0 (by omega) hp (fun k h1 h2 => by omega)
theorem x_letter_52 (hZ : G 52 1 = nI Z) (h80 : Z ≤ 80) (hA : ∀ k, k < Z → G 53 k = B k) (hB : ∀ k, Z ≤ k → B k = -9) (hp : p < 2 ^ 30) (hk : K (some (.int (if kdC (B p) = -9 then -1 else kdC (B p)))) (hH L xs J 52 (up2 G 13 2 (nI p)))) : mm_call mm_Ex (d + 4) k_X2_letter [.ref 13] (hH L xs J 52 (up2 G 13 2 (nI p))) K := by
  refine mm_run 60 (lp (n := 6) (P := fun i => (∀ j, j < i → ¬ B p = mm_let j) → ∀ x, x = nI i → mm_Ex (d + 4) k_X2_letter 2 (0, 0) [.ref 13, .int x] [] (hH L xs J 52 (up2 G 13 2 (nI p))) K) ?_ ?_ (fun j hj => absurd hj (Nat.not_lt_zero j)) 0 rfl)
  · intro ha x hx
    subst hx
    rw [kd_no ha, if_pos rfl] at hk
    exact mm_run 60 (And.intro (fun _ => hk) (fun z => absurd (by decide) z))
  · intro i hi ih ha x hx
    subst hx
    refine mm_run 60 (And.intro (fun z => absurd z (nleI (b := 6) hi (by decide))) (fun _ => x_sign_52 hZ h80 hA hp ⟨vp_in_nI (by omega) (by decide), And.intro (fun z => ih (fun j hj => ?_) _ (nI_1 i)) (fun z => ?_)⟩))
    · by_cases e : j = i
      · have z : ¬ sv B Z p = mm_let (nI i).toNatClampNeg := z
        rw [tn_nI (by omega)] at z
        rw [e]
        exact fun y => z ((sv_eq hB (let_ne i hi).1 (let_ne i hi).2).mpr y)
      · exact ha j (by omega)
    · have z : sv B Z p = mm_let (nI i).toNatClampNeg := z
      rw [tn_nI (by omega)] at z
      have z := (sv_eq hB (let_ne i hi).1 (let_ne i hi).2).mp z
      rw [kd_yes hi ha z, if_neg (nI_n9 (by omega))] at hk
      exact hk
theorem x_figure_52 (hZ : G 52 1 = nI Z) (h80 : Z ≤ 80) (hA : ∀ k, k < Z → G 53 k = B k) (hB : ∀ k, Z ≤ k → B k = -9) (hp : p < 2 ^ 30) (hk : K (some (.int (fgX (B p)))) (hH L xs J 52 (up2 G 13 2 (nI p)))) : mm_call mm_Ex (d + 4) k_X2_figure [.ref 13] (hH L xs J 52 (up2 G 13 2 (nI p))) K := by
  have J12 : ∀ v (w : Int32), v = fgX (B p) → mm_Ex (d + 4) k_X2_figure 12 (0, 0) [.ref 13, .int w] [.int v] (hH L xs J 52 (up2 G 13 2 (nI p))) K := fun v w e => by
    subst e
    exact mm_run 5 hk
  refine mm_run 60 (x_sign_52 hZ h80 hA hp (x_within (And.intro (fun z => J12 _ _ ?_) (fun z => J12 _ _ ?_))))
  · have z := b2i_0.mp z
    unfold fgX
    by_cases c : p < Z
    · have z : ¬ (0 ≤ B p - 48 ∧ B p - 48 < 10) := by
        have e : sv B Z p = B p := if_pos c
        rw [e] at z
        exact z
      rw [if_neg (fun y => z (in10.mpr y))]
    · rw [hB p (by omega)]
      decide
  · have z := b2i_p z
    by_cases c : p < Z
    · have e : sv B Z p = B p := if_pos c
      rw [e] at z ⊢
      unfold fgX
      rw [if_pos (in10.mp z)]
    · have e : sv B Z p = 0 := if_neg c
      rw [e] at z
      exact absurd z (by decide)
theorem x_readMarks_52 {e0 : Nat} (hZ : G 52 1 = nI Z) (h80 : Z ≤ 80) (hA : ∀ k, k < Z → G 53 k = B k) (hB : ∀ k, Z ≤ k → B k = -9) (he : e0 < 200) (hk : K (some (.int (nI (mF B e0 5).1))) (hH L xs J 52 (up2 G 13 2 (nI (mF B e0 5).2)))) : mm_call mm_Ex (d + 4) k_X2_readMarks [.ref 13] (hH L xs J 52 (up2 G 13 2 (nI e0))) K := by
  refine mm_run 60 (lp (n := 5) (P := fun i => ∀ x a, x = nI i → a = nI (mF B e0 i).1 → mm_Ex (d + 4) k_X2_readMarks 4 (0, 0) [.ref 13, .int a, .int x] [] (hH L xs J 52 (up2 G 13 2 (nI (mF B e0 i).2))) K) ?_ ?_ 0 0 rfl rfl)
  · intro x a hx ha
    subst hx ha
    exact mm_run 60 (And.intro (fun _ => hk) (fun z => absurd (by decide) z))
  · intro i hi ih x a hx ha
    subst hx
    have hle := mF_le B e0 i
    have hs := mF_s B e0 i
    have J25 : ∀ a P, a = nI (mF B e0 (i + 1)).1 → P = (mF B e0 (i + 1)).2 → mm_Ex (d + 4) k_X2_readMarks 25 (0, 0) [.ref 13, .int a, .int (nI i)] [] (hH L xs J 52 (up2 G 13 2 (nI P))) K := fun a P h1 h2 => by
      subst h2
      exact mm_run 10 (ih _ _ (nI_1 i) h1)
    have e48 : (48 : Int32) + nI i = nI (48 + i) := nI_add 48 i
    have n0 : ¬ nI (48 + i) = 0 := nI_ne0 (by omega) (by omega)
    have n9 : ¬ nI (48 + i) = -9 := ne9 (by omega)
    refine mm_run 60 (And.intro (fun z => absurd z (nleI (b := 5) hi (by decide))) (fun _ => x_sign_52 hZ h80 hA (by omega) (And.intro (fun z => J25 _ _ ?_ ?_) (fun z => kx pl_up (J25 _ _ ?_ ?_)))))
    · have z : ¬ sv B Z (mF B e0 i).2 = nI (48 + i) := fun y => z (y.trans e48.symm)
      rw [hs, if_neg (fun y => z ((sv_eq hB n0 n9).mpr y))]
      exact ha
    · have z : ¬ sv B Z (mF B e0 i).2 = nI (48 + i) := fun y => z (y.trans e48.symm)
      rw [hs, if_neg (fun y => z ((sv_eq hB n0 n9).mpr y))]
    · have z : sv B Z (mF B e0 i).2 = nI (48 + i) := Eq.trans z e48
      rw [hs, if_pos ((sv_eq hB n0 n9).mp z), ha, shl1 (by omega), fa_or]
    · have z : sv B Z (mF B e0 i).2 = nI (48 + i) := Eq.trans z e48
      rw [hs, if_pos ((sv_eq hB n0 n9).mp z)]
theorem x_readItem_52 {a : Nat} (hZ : G 52 1 = nI Z) (h80 : Z ≤ 80) (hA : ∀ k, k < Z → G 53 k = B k) (hB : ∀ k, Z ≤ k → B k = -9) (ha : a ≤ 100) (hd : DR G n Q) (h0 : ∀ p, pI0 B n (Q 1) a = .inl p → K (some (.int 0)) (hH L xs J 52 (up2 G 13 2 (nI p)))) (h1 : ∀ it e, pI0 B n (Q 1) a = .inr (it, e) → n < 9 → K (some (.int 1)) (hH L xs J 52 (add7 (up2 G 13 2 (nI e)) 14 n it))) : mm_call mm_Ex (d + 5) k_X2_readItem [.ref 13] (hH L xs J 52 (up2 G 13 2 (nI a))) K := by
  have h9 := hd.2.1
  unfold pI0 at h0 h1
  have J10 : ∀ (w1 : Value), (kdC (B a) = -9 ∨ n = 9) → mm_Ex (d + 5) k_X2_readItem 10 (0, 0) [.ref 13, w1, .null, .null, .null, .null] [] (hH L xs J 52 (up2 G 13 2 (nI a))) K := fun w1 c => by
    rw [if_pos c] at h0
    exact mm_run 5 ⟨Or.inl rfl, h0 a rfl⟩
  refine mm_run 120 (x_letter_52 hZ h80 hA hB (by omega) ?_)
  by_cases ck : kdC (B a) = -9
  · rw [if_pos ck]
    exact And.intro (fun _ => J10 _ (Or.inl ck)) (fun z => absurd (by decide) z)
  · rw [if_neg ck]
    have kpos : ¬ kdC (B a) < 0 := by
      unfold kdC at ck ⊢
      by_cases c0 : B a = 114
      · rw [if_pos c0]; decide
      rw [if_neg c0] at ck ⊢
      by_cases c1 : B a = 98
      · rw [if_pos c1]; decide
      rw [if_neg c1] at ck ⊢
      by_cases c2 : B a = 102
      · rw [if_pos c2]; decide
      rw [if_neg c2] at ck ⊢
      by_cases c3 : B a = 117
      · rw [if_pos c3]; decide
      rw [if_neg c3] at ck ⊢
      by_cases c4 : B a = 99
      · rw [if_pos c4]; decide
      rw [if_neg c4] at ck ⊢
      by_cases c5 : B a = 107
      · rw [if_pos c5]; decide
      rw [if_neg c5] at ck
      exact absurd rfl ck
    have N9 : ¬ G 14 6 < nI 9 → n = 9 := fun z => by
      rw [hd.1] at z
      have : ¬ n < 9 := fun y => z ((nI_ltI (by omega) (by decide)).mpr y)
      omega
    refine And.intro (fun z => absurd z kpos) (fun _ => And.intro (fun z => ?_) (fun z => J10 _ (Or.inr (N9 z))))
    have z : G 14 6 < nI 9 := z
    rw [hd.1] at z
    have n9 := (nI_ltI (by omega) (by decide)).mp z
    have hc0 : ¬ (kdC (B a) = -9 ∨ n = 9) := fun y => y.elim ck (fun y => by omega)
    rw [if_neg hc0] at h0 h1
    refine kc pl_up (x_figure_52 hZ h80 hA hB (by omega) ?_)
    by_cases cd : fgC (B (a + 1)) 9 = -9
    · rw [if_pos cd] at h0
      exact And.intro (fun z => absurd (fgX_no.mpr cd) (Int32.not_lt.mpr z)) (fun _ => ⟨Or.inl rfl, h0 _ rfl⟩)
    · rw [if_neg cd] at h0 h1
      rw [fgX_eq cd]
      refine And.intro (fun _ => ?_) (fun z => absurd (fun y => cd (fgX_no.mp y)) (Classical.not_not.mpr (by rw [fgX_eq cd]; exact Int32.not_le.mp z)))
      refine kc pl_up (x_figure_52 hZ h80 hA hB (by omega) (x_within ?_))
      have fg1 := fg_n (b := B (a + 2)) (m := 1) (by decide)
      by_cases cv : fgC (B (a + 2)) 1 = -9
      · rw [if_pos cv] at h0
        exact And.intro (fun z => absurd cv (fg1.1.mpr (in2.mp (b2i_p z)))) (fun _ => ⟨Or.inl rfl, h0 _ rfl⟩)
      · rw [if_neg cv] at h0 h1
        have ev : fgX (B (a + 2)) = fgC (B (a + 2)) 1 := (fg1.2 cv).symm
        refine And.intro (fun _ => ?_) (fun z => absurd (in2.mpr (fg1.1.mp cv)) (b2i_0.mp z))
        rw [ev]
        obtain ⟨kd, hkd⟩ : ∃ x, kdC (B a) = x := ⟨_, rfl⟩
        obtain ⟨dy, hdy⟩ : ∃ x, fgC (B (a + 1)) 9 = x := ⟨_, rfl⟩
        obtain ⟨vd, hvd⟩ : ∃ x, fgC (B (a + 2)) 1 = x := ⟨_, rfl⟩
        rw [hkd, hdy, hvd] at h1
        rw [hdy] at h0
        rw [hkd, hdy, hvd]
        -- the end of an item, from its dot on
        have J87 : ∀ (ci hw : Int32) e, (B e = 46 → pC B n (Q 1) dy (a + 3) = .inr (ci, hw, e + 1)) → (¬ B e = 46 → pC B n (Q 1) dy (a + 3) = .inl e) → e < 150 → mm_Ex (d + 5) k_X2_readItem 87 (0, 0) [.ref 13, .int kd, .int dy, .int vd, .int hw, .int ci] [] (hH L xs J 52 (up2 G 13 2 (nI e))) K := fun ci hw e hy hno he => by
          refine mm_run 60 (x_sign_52 hZ h80 hA (by omega) (And.intro (fun z => ?_) (fun z => ⟨Or.inl rfl, ?_⟩)))
          · have z := (sv_eq (c := 46) hB (by decide) (by decide)).mp z
            rw [hy z] at h1
            refine kc (pl_up (L := L) (xs := xs) (J := J) (S := 52) (k := e) (G := G)) ?_
            refine x_readMarks_52 (e0 := e + 1) hZ h80 hA hB (by omega) ?_
            exact x_add_14 (F := up2 G 13 2 (nI (mF B (e + 1) 5).2)) (hd.up).1 n9 ⟨Or.inr rfl, h1 _ _ rfl n9⟩
          · have z : ¬ B e = 46 := fun y => z ((sv_eq (c := 46) hB (by decide) (by decide)).mpr y)
            rw [hno z] at h0
            exact h0 _ rfl
        have J59 : ∀ (hw : Int32) (w5 : Value), (hw = 0 → ¬ (B (a + 3) = 43 ∨ B (a + 3) = 45)) → (¬ hw = 0 → (B (a + 3) = 43 ∨ B (a + 3) = 45) ∧ hw = (if B (a + 3) = 43 then 1 else -1)) → mm_Ex (d + 5) k_X2_readItem 59 (0, 0) [.ref 13, .int kd, .int dy, .int vd, .null, .null] [.int hw] (hH L xs J 52 (up2 G 13 2 (nI (a + 3)))) K := fun hw w5 g0 g1 => by
          refine mm_run 120 (And.intro (fun z => ?_) (fun z => ?_))
          · have g := g0 z
            refine J87 _ _ _ (fun y => ?_) (fun y => ?_) (by omega)
            · unfold pC
              rw [if_neg g, if_pos y, z]
            · unfold pC
              rw [if_neg g, if_neg y]
          · obtain ⟨g, gh⟩ := g1 z
            refine kc pl_up (x_figure_52 hZ h80 hA hB (by omega) ?_)
            refine x_can14 hd.up ?_
            have epC : pC B n (Q 1) dy (a + 3) = (if fgC (B (a + 3 + 1)) (nI n - 1) = -9 ∨ dy ≤ Q 1 (fgC (B (a + 3 + 1)) (nI n - 1)).toNatClampNeg then .inl (a + 3 + 1) else if B (a + 3 + 2) = 46 then .inr (fgC (B (a + 3 + 1)) (nI n - 1), (if B (a + 3) = 43 then 1 else -1), a + 3 + 3) else .inl (a + 3 + 2)) := by
              unfold pC
              rw [if_pos g]
            have key : (((0 ≤ fgX (B (a + 3 + 1)) ∧ fgX (B (a + 3 + 1)) < nI n) ∧ Q 1 (fgX (B (a + 3 + 1))).toNatClampNeg < dy) ↔ ¬ (fgC (B (a + 3 + 1)) (nI n - 1) = -9 ∨ dy ≤ Q 1 (fgC (B (a + 3 + 1)) (nI n - 1)).toNatClampNeg)) ∧ (¬ fgC (B (a + 3 + 1)) (nI n - 1) = -9 → fgC (B (a + 3 + 1)) (nI n - 1) = fgX (B (a + 3 + 1))) := by
              by_cases n0 : n = 0
              · have eN : fgC (B (a + 3 + 1)) (nI n - 1) = -9 := by
                  unfold fgC
                  refine if_neg fun y => ?_
                  rw [n0] at y
                  exact absurd (Int32.le_trans y.1 y.2) (by decide)
                refine ⟨⟨fun y => ?_, fun y => absurd (Or.inl eN) y⟩, fun y => absurd eN y⟩
                rw [n0] at y
                exact absurd y.1.2 (Int32.not_lt.mpr y.1.1)
              · obtain ⟨m, hm⟩ : ∃ m, n = m + 1 := ⟨n - 1, by omega⟩
                have em : nI n - 1 = nI m := by rw [hm, nI_pred]
                rw [em]
                have fgm := fg_n (b := B (a + 3 + 1)) (m := m) (by omega)
                refine ⟨⟨fun y => ?_, fun y => ?_⟩, fgm.2⟩
                · have hr : 0 ≤ fgX (B (a + 3 + 1)) ∧ fgX (B (a + 3 + 1)) ≤ nI m := by rw [← em]; exact (lt_in (by omega)).mp y.1
                  have hne := fgm.1.mpr hr
                  rw [fgm.2 hne]
                  refine fun z => z.elim (fun z => ?_) (fun z => Int32.not_le.mpr y.2 z)
                  rw [z] at hr
                  exact absurd hr.1 (by decide)
                · have hne : ¬ fgC (B (a + 3 + 1)) (nI m) = -9 := fun z => y (Or.inl z)
                  have hr := fgm.1.mp hne
                  refine ⟨(lt_in (by omega)).mpr (by rw [em]; exact hr), ?_⟩
                  rw [← fgm.2 hne]
                  exact Int32.not_le.mp fun z => y (Or.inr z)
            refine And.intro (fun z2 => ?_) (fun z2 => ⟨Or.inl rfl, ?_⟩)
            · have z2 := key.1.mp (b2i_p z2)
              rw [if_neg z2] at epC
              have eX : fgX (B (a + 3 + 1)) = fgC (B (a + 3 + 1)) (nI n - 1) := (key.2 (fun y => z2 (Or.inl y))).symm
              rw [eX]
              refine kx pl_up (J87 _ _ _ (fun y => ?_) (fun y => ?_) (by omega))
              · rw [epC, if_pos y, gh]
              · rw [epC, if_neg y]
            · have z2 : fgC (B (a + 3 + 1)) (nI n - 1) = -9 ∨ dy ≤ Q 1 (fgC (B (a + 3 + 1)) (nI n - 1)).toNatClampNeg := Classical.not_not.mp fun y => b2i_0.mp z2 (key.1.mpr y)
              rw [epC, if_pos z2] at h0
              exact h0 _ rfl
        refine kc pl_up (x_sign_52 hZ h80 hA (by omega) (And.intro (fun z => x_sign_52 hZ h80 hA (by omega) (And.intro (fun z2 => J59 0 .null (fun _ => ?_) (fun y => absurd rfl y)) (fun z2 => J59 (-1) .null (fun y => absurd y (by decide)) (fun _ => ?_)))) (fun z => J59 1 .null (fun y => absurd y (by decide)) (fun _ => ?_))))
        · have z : ¬ B (a + 3) = 43 := fun y => z ((sv_eq (c := 43) hB (by decide) (by decide)).mpr y)
          have z2 : ¬ B (a + 3) = 45 := fun y => z2 ((sv_eq (c := 45) hB (by decide) (by decide)).mpr y)
          exact fun y => y.elim z z2
        · have z : ¬ B (a + 3) = 43 := fun y => z ((sv_eq (c := 43) hB (by decide) (by decide)).mpr y)
          have z2 : B (a + 3) = 45 := (sv_eq (c := 45) hB (by decide) (by decide)).mp z2
          exact ⟨Or.inr z2, by rw [if_neg z]⟩
        · have z : B (a + 3) = 43 := (sv_eq (c := 43) hB (by decide) (by decide)).mp z
          exact ⟨Or.inl z, by rw [if_pos z]⟩
theorem x_read_52 {F : Nat → Nat → Int32} {n0 : Nat} (hZ : F 52 1 = nI Z) (h80 : Z ≤ 80) (hA : ∀ k, k < Z → F 53 k = B k) (hB : ∀ k, Z ≤ k → B k = -9) (hd : F 14 6 = nI n0) (hn0 : n0 ≤ 9) (h0 : ∀ p, rdS B Z 81 0 0 Q0 = .inl p → p ≤ 100 → ∀ G m, XZ F G → m ≤ 9 → G 14 6 = nI m → K (some (.int (nI p))) (hH L xs J 52 G)) (h1 : ∀ m Q, rdS B Z 81 0 0 Q0 = .inr (m, Q) → ∀ G, XZ F G → DR G m Q → K (some (.int (-9))) (hH L xs J 52 G)) : mm_call mm_Ex (d + 6) k_X2_read [.ref 13, .ref 52] (hH L xs J s F) K := by
  have H : ∀ N f, f ≤ N → ∀ a n Q x G, Z < f + a → a ≤ Z → rdS B Z f a n Q = rdS B Z 81 0 0 Q0 → x = nI n → XZ F G → DR G n Q → mm_Ex (d + 6) k_X2_read 12 (0, 0) [.ref 13, .ref 52, .int x] [] (hH L xs J 52 (up2 G 13 2 (nI a))) K := by
    intro N
    induction N with
    | zero => intro f hN a n Q x G h1 h2; omega
    | succ N ih =>
      intro f' hN a n Q x G hf' ha he hx hG hD
      obtain ⟨f, rfl⟩ : ∃ f, f' = f + 1 := ⟨f' - 1, by omega⟩
      have hf : Z < f + 1 + a := hf'
      subst hx
      have h9 := hD.2.1
      have gO : G 52 1 = nI Z := by rw [hG 52 (by omega)]; exact hZ
      have gA : ∀ k, k < Z → G 53 k = B k := fun k hk => by rw [hG 53 (by omega)]; exact hA k hk
      have up : ∀ x, XZ F (up2 G 13 2 x) := fun x k hk => by rw [up2_ne (by omega)]; exact hG k hk
      refine mm_run 60 (And.intro (fun z => absurd ((nI_ltI (a := 9) (by decide) (by omega)).mp z) (by omega)) (fun _ => x_skip_52 gO h80 gA ha (fun m hm hall hend => ?_)))
      -- at the next item, or the end
      obtain ⟨f2, hf2⟩ : ∃ f2, f + 1 = (f2 + 1) + m := ⟨f - m, by omega⟩
      have he2 : rdS B Z (f2 + 1) (a + m) n Q = rdS B Z 81 0 0 Q0 := by rw [← rd_skip hall hm, ← hf2]; exact he
      refine And.intro (fun z => ?_) (fun z => ?_)
      · have z : nI (a + m) < G 52 1 := z
        rw [gO] at z
        have z := (nI_ltI (by omega) (by omega)).mp z
        have hnb := hend z
        rw [rdS, if_neg (by omega), if_neg hnb, pI_0] at he2
        refine x_readItem_52 gO h80 gA hB (by omega) hD (fun p hp => ?_) (fun it e hp hn9 => ?_)
        · rw [hp] at he2
          have he2 : Sum.inl p = rdS B Z 81 0 0 Q0 := he2
          have hpl : p ≤ 100 := by
            have := pI0_le hp
            omega
          refine And.intro (fun y => absurd rfl y) (fun _ => ?_)
          exact h0 p he2.symm hpl _ n (up _) h9 hD.up.1
        · have hG2 : XZ F (add7 G 14 n it) := fun k hk => by
            unfold add7
            rw [if_neg (by omega), if_neg (by omega)]
            exact hG k hk
          have hD2 := hD.add hn9 (it := it)
          have ecm : add7 (up2 G 13 2 (nI e)) 14 n it = up2 (add7 G 14 n it) 13 2 (nI e) := by
            funext k
            by_cases e13 : k = 13
            · subst e13; rfl
            · rw [up2_ne e13]
              unfold add7
              rw [up2_ne e13, up2_ne (show (14 : Nat) ≠ 13 by decide)]
          rw [ecm]
          refine And.intro (fun _ => ?_) (fun y => absurd y (by decide))
          rw [hp] at he2
          have he2 : (if dgB (B e) = true then Sum.inl e else rdS B Z f2 e (n + 1) (qUp Q n it)) = rdS B Z 81 0 0 Q0 := by
            by_cases c : dgB (B e) = true
            · rw [if_pos c]
              dsimp only at he2
              rw [if_pos c] at he2
              exact he2
            · rw [if_neg c]
              dsimp only at he2
              rw [if_neg c] at he2
              exact he2
          by_cases c : dgB (B e) = true
          · rw [if_pos c] at he2
            have gO2 : add7 G 14 n it 52 1 = nI Z := by rw [hG2 52 (by omega)]; exact hZ
            have gA2 : ∀ k, k < Z → add7 G 14 n it 53 k = B k := fun k hk => by rw [hG2 53 (by omega)]; exact hA k hk
            have heZ : e < Z := Nat.lt_of_not_le fun y => dg_m9 c (hB e y)
            have up2' : ∀ x, XZ F (up2 (add7 G 14 n it) 13 2 x) := fun x k hk => by rw [up2_ne (by omega)]; exact hG2 k hk
            show mm_Ex (d + 6) k_X2_read 12 (0, 0) [.ref 13, .ref 52, .int (nI n + 1)] [] _ K
            rw [nI_1]
            refine mm_run 60 (And.intro (fun z => absurd ((nI_ltI (a := 9) (by decide) (by omega)).mp z) (by omega)) (fun _ => x_skip_52 gO2 h80 gA2 (by omega) (fun m2 hm2 hall2 _ => ?_)))
            have m0 : m2 = 0 := by
              refine Nat.le_zero.mp (Nat.le_of_not_lt fun y => dg_blank c (hall2 e (Nat.le_refl e) (by omega)))
            subst m0
            refine And.intro (fun z => ?_) (fun z => ?_)
            · refine x_readItem_52 gO2 h80 gA2 hB (by omega) hD2 (fun p hp => ?_) (fun it e hp _ => ?_)
              · simp only [Nat.add_zero] at hp
                unfold pI0 at hp
                rw [if_pos (Or.inl (kd_9 c))] at hp
                cases hp
                refine And.intro (fun y => absurd rfl y) (fun _ => ?_)
                exact h0 e he2.symm (by omega) _ (n + 1) (up2' _) (by omega) hD2.up.1
              · simp only [Nat.add_zero] at hp
                unfold pI0 at hp
                rw [if_pos (Or.inl (kd_9 c))] at hp
                cases hp
            · have z : ¬ nI (e + 0) < add7 G 14 n it 52 1 := z
              rw [gO2] at z
              exact absurd ((nI_ltI (by omega) (by omega)).mpr heZ) z
          · rw [if_neg c] at he2
            have hb := pI_bound (B := B) (Z := Z) (D := Q 1) (n := n) (a := a + m) (it := it) (e := e) hB h9 (by rw [pI_0, hp]; exact if_neg c)
            exact ih f2 (by omega) e (n + 1) (qUp Q n it) _ _ (by omega) (by omega) he2 (nI_1 n) hG2 hD2
      · have z : ¬ nI (a + m) < G 52 1 := z
        rw [gO] at z
        have z : Z ≤ a + m := Nat.le_of_not_lt fun y => z ((nI_ltI (by omega) (by omega)).mpr y)
        rw [rdS, if_pos z] at he2
        exact h1 n Q he2.symm _ (up _) hD.up
  have E0 : ((93, mU (mU (hH L xs J s F).2 13 (mO 2 [.ref 14, .ref 52, .int (F 13 2)])) 13 (mO 2 [.ref 14, .ref 52, .int 0])) : mm_H) = hH L xs J 52 (up2 F 13 2 0) := by
    have e1 := congrArg Prod.snd (hpS (L := L) (xs := xs) (J := J) (s := s) (s' := 52) (F := F) rfl)
    have e1 : mU (hH L xs J s F).2 13 (mO 2 [.ref 14, .ref 52, .int (F 13 2)]) = (hH L xs J 52 F).2 := e1
    rw [e1]
    exact hp1 (F := F) (k := 13) (g := upd (F 13) 2 0) rfl
  refine mm_run 60 (kc E0 (x_cutTo_14 (m := 0) (n := n0) (by rw [up2_ne (by decide)]; exact hd) hn0 (Nat.zero_le n0) ?_))
  have ecm : up2 (up2 F 13 2 0) 14 6 (nI 0) = up2 (up2 F 14 6 (nI 0)) 13 2 (nI 0) := by
    funext k
    by_cases e13 : k = 13
    · subst e13; rfl
    · by_cases e14 : k = 14
      · subst e14; rfl
      · rw [up2_ne e14, up2_ne e13, up2_ne e13, up2_ne e14]
  rw [ecm]
  exact H 81 81 (Nat.le_refl 81) 0 0 Q0 _ (up2 F 14 6 (nI 0)) (by omega) (Nat.zero_le Z) rfl rfl (fun k hk => up2_ne (by omega)) ⟨rfl, by decide, fun w hw i hi => absurd hi (Nat.not_lt_zero i)⟩
end XRd
