/-! the reference: small methods, rows, texts -/
theorem tn_nI {n : Nat} (h : n < 2 ^ 31) : (nI n).toNatClampNeg = n := nI_clamp h
/-- a number between 0 and a bound is one of few -/
theorem in_nI {x : Int32} {n : Nat} (hn : n < 2 ^ 31) (h0 : 0 ≤ x) (h1 : x ≤ nI n) : ∃ j, j ≤ n ∧ x = nI j := by
  rw [Int32.le_iff_toInt_le] at h0 h1
  rw [nI_toInt hn] at h1
  rw [Int32.toInt_zero] at h0
  refine ⟨x.toInt.toNat, by omega, ?_⟩
  apply Int32.toInt_inj.mp
  rw [nI_toInt (by omega)]
  omega
theorem lt_nI {x : Int32} {n : Nat} (hn : n < 2 ^ 31) (h0 : 0 ≤ x) (h1 : x < nI n) : ∃ j, j < n ∧ x = nI j := by
  rw [Int32.le_iff_toInt_le] at h0
  rw [Int32.lt_iff_toInt_lt, nI_toInt hn] at h1
  rw [Int32.toInt_zero] at h0
  refine ⟨x.toInt.toNat, by omega, ?_⟩
  apply Int32.toInt_inj.mp
  rw [nI_toInt (by omega)]
  omega
/-- finds, tells as changes of the ints -/
def S_fi (F : Nat → Nat → Int32) (w : Nat) : Nat → Nat → Int32 := up2 (up2 F 75 5 (nI w)) 81 w (F 81 w + 1)
def S_te (F : Nat → Nat → Int32) (v : Int32) : Nat → Nat → Int32 := up2 F 75 7 v
section MB
variable {d L s : Nat} {xs : Nat → Int32} {J : Nat → Int64} {F : Nat → Nat → Int32} {K : mm_K} {h : mm_H}
theorem s_in {v lo hi : Int32} (hk : K (some (.int (b2i (lo ≤ v ∧ v ≤ hi)))) h) : mm_call mm_Ex d k_X6_in [.int v, .int lo, .int hi] h K := by
  have J : ∀ x, x = b2i (lo ≤ v ∧ v ≤ hi) → mm_Ex d k_X6_in 9 (0, 0) [.int v, .int lo, .int hi] [.int x] h K := fun x e => by
    refine mm_run 5 ⟨?_, ?_⟩
    · rw [e]; exact b2i_01
    · rw [e]; exact hk
  refine mm_run 50 (And.intro (fun c => ?_) (fun c => And.intro (fun c2 => ?_) (fun c2 => ?_)))
  · refine mm_run 50 (J 0 (b2i_f ?_).symm)
    exact fun q => Int32.not_le.mpr c q.1
  · refine mm_run 50 (J 0 (b2i_f ?_).symm)
    exact fun q => Int32.not_le.mpr c2 q.2
  · exact J 1 (b2i_t ⟨Int32.not_lt.mp c, Int32.not_lt.mp c2⟩).symm
theorem s_isRow {v : Int32} (hk : K (some (.int (b2i (0 ≤ v ∧ v ≤ 5)))) h) : mm_call mm_Ex (d + 1) k_X6_isRow [.int v] h K := by
  refine mm_run 50 (s_in ⟨b2i_01, hk⟩)
theorem s_isText {v : Int32} (hk : K (some (.int (b2i (0 ≤ v ∧ v ≤ 3)))) h) : mm_call mm_Ex (d + 1) k_X6_isText [.int v] h K := by
  refine mm_run 50 (s_in ⟨b2i_01, hk⟩)
theorem s_finds {w : Nat} (hw : w < 6) (hk : K (some (.int (-3))) (hH L xs J s (S_fi F w))) : mm_call mm_Ex d k_X6_finds [.ref 75, .int (nI w)] (hH L xs J s F) K := by
  have hv : vp_in (nI w) 6 := vp_in_nI hw (by decide)
  refine mm_run 50 ⟨hv, hv, ?_⟩
  have e : (nI w).toNatClampNeg = w := nI_clamp (by omega)
  rw [e]
  exact kh (hp2 rfl rfl) hk
theorem s_tells {v : Int32} (hk : K (some (.int 1)) (hH L xs J s (S_te F v))) : mm_call mm_Ex d k_X6_tells [.ref 75, .int v] (hH L xs J s F) K := by
  refine mm_run 50 ?_
  exact kh (hp1 rfl) hk
end MB
theorem isRow_of {v : Int32} (c : ¬ b2i (0 ≤ v ∧ v ≤ 5) = 0) : ∃ r, r < 6 ∧ v = nI r := by
  rw [b2i_0] at c
  have c := Classical.not_not.mp c
  obtain ⟨j, h1, h2⟩ := in_nI (n := 5) (by decide) c.1 c.2
  exact ⟨j, by omega, h2⟩
theorem isRow_no {v : Int32} (c : b2i (0 ≤ v ∧ v ≤ 5) = 0) : ¬ (0 ≤ v ∧ v ≤ 5) := b2i_0.mp c
/-- a row's size is none, or small -/
def szOk (x : Int32) (m : Nat) : Prop := x = -9 ∨ ∃ z, z ≤ m ∧ x = nI z
/-- a counted loop, from its end back to its start -/
theorem lp {P : Nat → Prop} {n : Nat} (hn : P n) (hs : ∀ i, i < n → P (i + 1) → P i) : P 0 := by
  have H : ∀ k i, i + k = n → P i := by
    intro k
    induction k with
    | zero =>
      intro i hi
      have e : i = n := by omega
      rw [e]
      exact hn
    | succ k ih =>
      intro i hi
      exact hs i (by omega) (ih (i + 1) (by omega))
  exact H n 0 (by omega)
theorem hHx {L : Nat} {xs : Nat → Int32} {J : Nat → Int64} {s : Nat} {F F' : Nat → Nat → Int32} (h : ∀ a, F a = F' a) : hH L xs J s F = hH L xs J s F' := by
  have e : F = F' := funext h
  rw [e]
/-- places from lo on, n of them, hold a value -/
def fil (f : Nat → Int32) (lo n : Nat) (v : Int32) : Nat → Int32 := fun x => if lo ≤ x ∧ x < lo + n then v else f x
theorem fil_0 {f : Nat → Int32} {lo : Nat} {v : Int32} : fil f lo 0 v = f := by
  funext x
  unfold fil
  rw [if_neg (by omega)]
theorem fil_s {f : Nat → Int32} {lo n : Nat} {v : Int32} : upd (fil f lo n v) (lo + n) v = fil f lo (n + 1) v := by
  funext x
  unfold fil upd
  by_cases h : x = lo + n
  · subst h
    rw [if_pos rfl, if_pos (by omega)]
  · rw [if_neg h]
    show (if lo ≤ x ∧ x < lo + n then v else f x) = _
    by_cases h2 : lo ≤ x ∧ x < lo + n
    · rw [if_pos h2, if_pos (by omega)]
    · rw [if_neg h2, if_neg (by omega)]
theorem upF_same {F : Nat → Nat → Int32} {k : Nat} {g g' : Nat → Int32} : upF (upF F k g) k g' = upF F k g' := by
  funext a
  simp only [upF]
  split <;> rfl
theorem upF_id {F : Nat → Nat → Int32} {k : Nat} : upF F k (F k) = F := by
  funext a
  simp only [upF]
  split
  · rename_i e
    rw [e]
  · rfl
/-- 40 r + i, 80 t + i, as numbers -/
theorem ix {c j i : Nat} : nI c * nI j + nI i = nI (c * j + i) := by rw [pk_mul, nI_add]
theorem nleI {a b : Nat} (h : a < b) (hb : b < 2 ^ 31) : ¬ nI b ≤ nI a := fun q => absurd ((nI_leI hb (by omega)).mp q) (by omega)
theorem not_not_b {c : Prop} [Decidable c] (h : ¬ b2i c = 0) : c := Classical.not_not.mp (fun q => h (b2i_0.mpr q))
/-- row(r, n) -/
def S_row (F : Nat → Nat → Int32) (r n : Int32) : Int32 × (Nat → Nat → Int32) :=
  if (0 ≤ r ∧ r ≤ 5) ∧ n ≤ 40 then (if 0 ≤ n then (n, upF (up2 F 76 (r.toNatClampNeg) n) 77 (fil (F 77) (40 * r.toNatClampNeg) 40 0)) else (-3, S_fi F 5)) else (-1, F)
def S_lay (F : Nat → Nat → Int32) (r i v : Int32) : Int32 × (Nat → Nat → Int32) :=
  if 0 ≤ r ∧ r ≤ 5 then (if 0 ≤ F 76 (r.toNatClampNeg) then (if 0 ≤ i ∧ i ≤ F 76 (r.toNatClampNeg) - 1 then (1, S_te (up2 F 77 ((40 * r + i).toNatClampNeg) v) (F 77 ((40 * r + i).toNatClampNeg))) else (-3, S_fi F 2)) else (-3, S_fi F 1)) else (-1, F)
def S_at (F : Nat → Nat → Int32) (r i : Int32) : Int32 × (Nat → Nat → Int32) :=
  if 0 ≤ r ∧ r ≤ 5 then (if 0 ≤ F 76 (r.toNatClampNeg) then (if 0 ≤ i ∧ i ≤ F 76 (r.toNatClampNeg) - 1 then (1, S_te F (F 77 ((40 * r + i).toNatClampNeg))) else (-3, S_fi F 2)) else (-3, S_fi F 1)) else (-1, F)
def S_tear (F : Nat → Nat → Int32) (r : Int32) : Int32 × (Nat → Nat → Int32) :=
  if 0 ≤ r ∧ r ≤ 5 then (if 0 ≤ F 76 (r.toNatClampNeg) then (1, up2 F 76 (r.toNatClampNeg) (-9)) else (-3, S_fi F 1)) else (-1, F)
/-- sizes of rows and texts: none, or small -/
def G_sz (F : Nat → Nat → Int32) : Prop := (∀ r, r < 6 → szOk (F 76 r) 40) ∧ ∀ t, t < 4 → szOk (F 78 t) 80
theorem sz_pos {x : Int32} {m : Nat} (h : szOk x m) (hm : m < 2 ^ 31) (h0 : 0 ≤ x) : ∃ z, z ≤ m ∧ x = nI z := by
  rcases h with h | h
  · rw [h] at h0
    exact absurd h0 (by decide)
  · exact h
theorem kc {d μ : Nat} {as : List Value} {h h' : mm_H} {K : mm_K} (e : h = h') (q : mm_call mm_Ex d μ as h' K) : mm_call mm_Ex d μ as h K := e ▸ q
/-- a place within a size -/
theorem pl_of {i : Int32} {z : Nat} (hz : z < 2 ^ 31) (h : 0 ≤ i ∧ i ≤ nI z - 1) : ∃ p, p < z ∧ i = nI p := by
  obtain ⟨h0, h1⟩ := h
  rcases z with _ | z
  · have : i ≤ (-1 : Int32) := h1
    exact absurd (Int32.le_trans h0 this) (by decide)
  · rw [nI_pred] at h1
    obtain ⟨j, a, b⟩ := in_nI (by omega) h0 h1
    exact ⟨j, by omega, b⟩
theorem vpR {v : Int32} (c : ¬ b2i (0 ≤ v ∧ v ≤ 5) = 0) : vp_in v 6 := by
  obtain ⟨j, hj, rfl⟩ := isRow_of c
  exact vp_in_nI hj (by decide)
theorem vpT {v : Int32} (c : ¬ b2i (0 ≤ v ∧ v ≤ 3) = 0) : vp_in v 4 := by
  obtain ⟨j, h1, rfl⟩ := in_nI (n := 3) (by decide) (not_not_b c).1 (not_not_b c).2
  exact vp_in_nI (by omega) (by decide)
theorem isText_of {v : Int32} (c : ¬ b2i (0 ≤ v ∧ v ≤ 3) = 0) : ∃ r, r < 4 ∧ v = nI r := by
  obtain ⟨j, h1, h2⟩ := in_nI (n := 3) (by decide) (not_not_b c).1 (not_not_b c).2
  exact ⟨j, by omega, h2⟩
/-- a place of the rows -/
theorem vpP {F : Nat → Nat → Int32} (hG : G_sz F) {r i : Int32} (c : ¬ b2i (0 ≤ r ∧ r ≤ 5) = 0) (c3 : 0 ≤ F 76 (r.toNatClampNeg)) (c4 : ¬ b2i (0 ≤ i ∧ i ≤ F 76 (r.toNatClampNeg) - 1) = 0) : ∃ j p z, r = nI j ∧ i = nI p ∧ F 76 j = nI z ∧ j < 6 ∧ p < z ∧ z ≤ 40 ∧ 40 * r + i = nI (40 * j + p) ∧ vp_in (40 * r + i) 240 := by
  obtain ⟨j, hj, rfl⟩ := isRow_of c
  have e : (nI j).toNatClampNeg = j := tn_nI (by omega)
  rw [e] at c3 c4
  obtain ⟨z, hz, ez⟩ := sz_pos (hG.1 j hj) (by decide) c3
  have c6 := not_not_b c4
  rw [ez] at c6
  obtain ⟨p, hp', rfl⟩ := pl_of (by omega) c6
  have e2 : (40 : Int32) * nI j + nI p = nI (40 * j + p) := ix (c := 40)
  refine ⟨j, p, z, rfl, rfl, ez, hj, hp', hz, e2, ?_⟩
  rw [e2]
  exact vp_in_nI (by omega) (by decide)
section MR
variable {d L s : Nat} {xs : Nat → Int32} {J : Nat → Int64} {F : Nat → Nat → Int32} {K : mm_K} {h : mm_H}
theorem m_row {r n : Int32} (hk : K (some (.int (S_row F r n).1)) (hH L xs J s (S_row F r n).2)) : mm_call mm_Ex (d + 2) k_X6_row [.ref 75, .int r, .int n] (hH L xs J s F) K := by
  unfold S_row at hk
  have B : ¬ ((0 ≤ r ∧ r ≤ 5) ∧ n ≤ 40) → mm_Ex (d + 2) k_X6_row 6 (0, 0) [.ref 75, .int r, .int n, .null] [] (hH L xs J s F) K := by
    intro c
    rw [if_neg c] at hk
    exact mm_run 5 hk
  refine mm_run 50 (s_isRow (And.intro (fun c => B (fun q => b2i_0.mp c q.1)) (fun c => And.intro (fun c2 => ?_) (fun c2 => B (fun q => c2 q.2)))))
  rw [if_pos ⟨not_not_b c, c2⟩] at hk
  refine And.intro (fun c3 => ⟨vpR c, ?_⟩) (fun c3 => ?_)
  · rw [if_pos c3] at hk
    obtain ⟨j, hj, rfl⟩ := isRow_of c
    have ej : (nI j).toNatClampNeg = j := tn_nI (by omega)
    rw [ej] at hk
    refine lp (n := 40) (P := fun i => ∀ x h, x = nI i → h = hH L xs J s (upF (up2 F 76 j n) 77 (fil (F 77) (40 * j) i 0)) → mm_Ex (d + 2) k_X6_row 21 (0, 0) [.ref 75, .int (nI j), .int n, .int x] [] h K) ?_ ?_ 0 _ rfl ?_
    · intro x h hx hh
      subst hx hh
      exact mm_run 50 (And.intro (fun _ => hk) (fun c => absurd (show (40 : Int32) ≤ nI 40 by decide) c))
    · intro i hi ih x h hx hh
      subst hx hh
      have e : (40 : Int32) * nI j + nI i = nI (40 * j + i) := ix (c := 40)
      have e2 : ((40 : Int32) * nI j + nI i).toNatClampNeg = 40 * j + i := by rw [e]; exact tn_nI (by omega)
      refine mm_run 50 (And.intro (fun c => absurd c (nleI (b := 40) hi (by decide))) (fun c => ⟨by rw [e]; exact vp_in_nI (by omega) (by decide), ?_⟩))
      refine ih _ _ (nI_1 i) ((hp1 rfl).trans (hHx fun a => ?_))
      rw [upF_same]
      show upF _ 77 (upd (fil (F 77) (40 * j) i 0) (((40 : Int32) * nI j + nI i).toNatClampNeg) 0) a = _
      rw [e2, fil_s]
    · rw [fil_0]
      refine (hp1 rfl).trans (hHx fun a => ?_)
      show up2 F 76 ((nI j).toNatClampNeg) n a = _
      rw [ej]
      exact congrFun (upF_id (F := up2 F 76 j n) (k := 77)).symm a
  · rw [if_neg c3] at hk
    exact s_finds (w := 5) (by decide) hk
theorem m_tear {r : Int32} (hk : K (some (.int (S_tear F r).1)) (hH L xs J s (S_tear F r).2)) : mm_call mm_Ex (d + 2) k_X6_tear [.ref 75, .int r] (hH L xs J s F) K := by
  unfold S_tear at hk
  refine mm_run 50 (s_isRow (And.intro (fun c => ⟨vpR c, And.intro (fun c3 => ⟨vpR c, ?_⟩) (fun c3 => ?_)⟩) (fun c => ?_)))
  · rw [if_pos (not_not_b c), if_pos c3] at hk
    exact kh (hp1 rfl) hk
  · rw [if_pos (not_not_b c), if_neg c3] at hk
    exact s_finds (w := 1) (by decide) hk
  · rw [if_neg (b2i_0.mp c)] at hk
    exact hk
theorem m_lay (hG : G_sz F) {r i v : Int32} (hk : K (some (.int (S_lay F r i v).1)) (hH L xs J s (S_lay F r i v).2)) : mm_call mm_Ex (d + 2) k_X6_lay [.ref 75, .int r, .int i, .int v] (hH L xs J s F) K := by
  unfold S_lay at hk
  refine mm_run 50 (s_isRow (And.intro (fun c => ⟨vpR c, And.intro (fun c3 => ⟨vpR c, s_in (And.intro (fun c4 => ?_) (fun c4 => ?_))⟩) (fun c3 => ?_)⟩) (fun c => ?_)))
  · obtain ⟨j, p, z, e1, e2, e3, e4, e5, e6, e7, hv⟩ := vpP hG c c3 c4
    rw [if_pos (not_not_b c), if_pos c3, if_pos (not_not_b c4)] at hk
    refine ⟨hv, hv, ?_⟩
    exact kc (hp1 rfl) (s_tells hk)
  · rw [if_pos (not_not_b c), if_pos c3, if_neg (b2i_0.mp c4)] at hk
    exact s_finds (w := 2) (by decide) hk
  · rw [if_pos (not_not_b c), if_neg c3] at hk
    exact s_finds (w := 1) (by decide) hk
  · rw [if_neg (b2i_0.mp c)] at hk
    exact hk
theorem m_at (hG : G_sz F) {r i : Int32} (hk : K (some (.int (S_at F r i).1)) (hH L xs J s (S_at F r i).2)) : mm_call mm_Ex (d + 2) k_X6_at [.ref 75, .int r, .int i] (hH L xs J s F) K := by
  unfold S_at at hk
  refine mm_run 50 (s_isRow (And.intro (fun c => ⟨vpR c, And.intro (fun c3 => ⟨vpR c, s_in (And.intro (fun c4 => ?_) (fun c4 => ?_))⟩) (fun c3 => ?_)⟩) (fun c => ?_)))
  · rw [if_pos (not_not_b c), if_pos c3, if_neg (b2i_0.mp c4)] at hk
    exact s_finds (w := 2) (by decide) (mm_run 5 hk)
  · obtain ⟨j, p, z, e1, e2, e3, e4, e5, e6, e7, hv⟩ := vpP hG c c3 c4
    rw [if_pos (not_not_b c), if_pos c3, if_pos (not_not_b c4)] at hk
    exact ⟨hv, s_tells (mm_run 5 hk)⟩
  · rw [if_pos (not_not_b c), if_neg c3] at hk
    exact s_finds (w := 1) (by decide) hk
  · rw [if_neg (b2i_0.mp c)] at hk
    exact hk
end MR
