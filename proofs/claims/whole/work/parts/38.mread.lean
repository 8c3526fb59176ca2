/-! the reference: reading a text -/
def bB (F : Nat → Nat → Int32) (t Z : Nat) (k : Nat) : Int32 := if k < Z then F 79 (80 * t + k) else -9
def kdC (c : Int32) : Int32 := if c = 114 then 0 else if c = 98 then 1 else if c = 102 then 2 else if c = 117 then 3 else if c = 99 then 4 else if c = 107 then 5 else -9
def fgC (c hi : Int32) : Int32 := if 0 ≤ c - 48 ∧ c - 48 ≤ hi then c - 48 else -9
/-- the citation: where it can't go on, or what it is and where it ends -/
def pC (B : Nat → Int32) (n : Nat) (D : Nat → Int32) (day : Int32) (at' : Nat) : Sum Nat (Int32 × Int32 × Nat) :=
  if B at' = 43 ∨ B at' = 45 then
    (if fgC (B (at' + 1)) (nI n - 1) = -9 ∨ day ≤ D (fgC (B (at' + 1)) (nI n - 1)).toNatClampNeg then .inl (at' + 1)
      else if B (at' + 2) = 46 then .inr (fgC (B (at' + 1)) (nI n - 1), (if B at' = 43 then 1 else -1), at' + 3) else .inl (at' + 2))
  else if B at' = 46 then .inr (-9, 0, at' + 1) else .inl at'
/-- marks, rising -/
def mF (B : Nat → Int32) (e0 : Nat) : Nat → Nat × Nat
  | 0 => (0, e0)
  | i + 1 => if B (mF B e0 i).2 = nI (48 + i) then ((mF B e0 i).1 ||| 2 ^ i, (mF B e0 i).2 + 1) else mF B e0 i
def dgB (c : Int32) : Bool := decide (48 ≤ c ∧ c ≤ 57)
def itF (a b c e f g : Int32) : Nat → Int32
  | 0 => a
  | 1 => b
  | 2 => c
  | 3 => e
  | 4 => f
  | _ => g
def pI (B : Nat → Int32) (n : Nat) (D : Nat → Int32) (at' : Nat) : Sum Nat ((Nat → Int32) × Nat) :=
  if kdC (B at') = -9 ∨ n = 9 then .inl at'
  else if fgC (B (at' + 1)) 9 = -9 then .inl (at' + 1)
  else if fgC (B (at' + 2)) 1 = -9 then .inl (at' + 2)
  else match pC B n D (fgC (B (at' + 1)) 9) (at' + 3) with
    | .inl p => .inl p
    | .inr (ci, hw, e) => if dgB (B (mF B e 5).2) then .inl (mF B e 5).2 else .inr (itF (kdC (B at')) (fgC (B (at' + 1)) 9) (fgC (B (at' + 2)) 1) ci hw (nI (mF B e 5).1), (mF B e 5).2)
def qUp (Q : Rq) (n : Nat) (it : Nat → Int32) : Rq := fun w i => if i = n then it w else Q w i
def rdS (B : Nat → Int32) (Z : Nat) : Nat → Nat → Nat → Rq → Sum Nat (Nat × Rq)
  | 0, a, _, _ => .inl a
  | f + 1, a, n, Q => if Z ≤ a then .inr (n, Q) else if B a = 32 then rdS B Z f (a + 1) n Q else match pI B n (Q 1) a with
    | .inl p => .inl p
    | .inr (it, e) => rdS B Z f e (n + 1) (qUp Q n it)
theorem mF_s (B : Nat → Int32) (e0 i : Nat) : mF B e0 (i + 1) = if B (mF B e0 i).2 = nI (48 + i) then ((mF B e0 i).1 ||| 2 ^ i, (mF B e0 i).2 + 1) else mF B e0 i := rfl
theorem mF_le (B : Nat → Int32) (e0 : Nat) : ∀ i, e0 ≤ (mF B e0 i).2 ∧ (mF B e0 i).2 ≤ e0 + i ∧ (mF B e0 i).1 < 2 ^ i
  | 0 => ⟨Nat.le_refl _, Nat.le_refl _, by show 0 < 2 ^ 0; decide⟩
  | i + 1 => by
    have := mF_le B e0 i
    have hp : 2 ^ i < 2 ^ (i + 1) := Nat.pow_lt_pow_right (by decide) (by omega)
    rw [mF_s]
    split
    · refine ⟨?_, ?_, ?_⟩
      · show e0 ≤ (mF B e0 i).2 + 1
        omega
      · show (mF B e0 i).2 + 1 ≤ _
        omega
      · show (mF B e0 i).1 ||| 2 ^ i < _
        exact Nat.or_lt_two_pow (by omega) hp
    · exact ⟨this.1, by omega, by omega⟩
/-- nothing more of the marks from i on -/
theorem mF_st {B : Nat → Int32} {e0 i m : Nat} (h : ∀ j, i ≤ j → j < m → ¬ B (mF B e0 i).2 = nI (48 + j)) : ∀ k, i + k ≤ m → mF B e0 (i + k) = mF B e0 i
  | 0, _ => rfl
  | k + 1, hk => by
    have ih := mF_st h k (by omega)
    rw [← Nat.add_assoc, mF_s, ih, if_neg (h (i + k) (by omega) (by omega))]
theorem CE.cell {F : Nat → Nat → Int32} {k : Nat} {g : Nat → Int32} (h : k = 80 ∨ k = 90 ∨ k = 91 ∨ k = 92) : CE (CBackCourtLaw_law_r1553_0a7f92.upF F k g) F := by
  refine ⟨fun a h1 h2 h3 h4 h5 => ?_, fun j h1 h2 h3 h4 h5 => ?_⟩
  · have e : ¬ a = k := by omega
    simp only [CBackCourtLaw_law_r1553_0a7f92.upF, if_neg e]
  · have e : ¬ 75 = k := by omega
    simp only [CBackCourtLaw_law_r1553_0a7f92.upF, if_neg e]
theorem CE.c78 {F G : Nat → Nat → Int32} (h : CE F G) : F 78 = G 78 := h.1 78 (by decide) (by decide) (by decide) (by decide) (by decide)
theorem CE.c79 {F G : Nat → Nat → Int32} (h : CE F G) : F 79 = G 79 := h.1 79 (by decide) (by decide) (by decide) (by decide) (by decide)
theorem CE.bB {F G : Nat → Nat → Int32} (h : CE F G) {t Z : Nat} : bB F t Z = bB G t Z := by
  unfold CBackCourtLaw_law_r1553_0a7f92.bB
  rw [h.c79]
theorem ne9 {p : Nat} (h : p < 2 ^ 31) : ¬ nI p = -9 := by
  intro z
  have := nle0 (n := p) h
  rw [z] at this
  exact absurd this (by decide)
section MRd
variable {d L s : Nat} {xs : Nat → Int32} {J : Nat → Int64} {F : Nat → Nat → Int32} {K : mm_K} {h : mm_H} {n t Z : Nat}
theorem s_byteAt (ht : t < 4) (hZ : F 78 t = nI Z) (h80 : Z ≤ 80) {k : Nat} (hk1 : k < 2 ^ 30) (hk : K (some (.int (bB F t Z k))) (hH L xs J s F)) : mm_call mm_Ex d k_X6_byteAt [.ref 75, .int (nI t), .int (nI k)] (hH L xs J s F) K := by
  have et : (nI t).toNatClampNeg = t := tn_nI (by omega)
  have hv : vp_in (nI t) 4 := vp_in_nI ht (by decide)
  have e : (80 : Int32) * nI t + nI k = nI (80 * t + k) := ix (c := 80)
  unfold bB at hk
  refine mm_run 60 ⟨hv, And.intro (fun q => ?_) (fun q => ⟨?_, ?_⟩)⟩
  · rw [et] at q
    have q : F 78 t ≤ nI k := q
    rw [hZ] at q
    have q := (nI_leI (by omega) (by omega)).mp q
    rw [if_neg (by omega)] at hk
    exact mm_run 5 hk
  · rw [et] at q
    have q : ¬ F 78 t ≤ nI k := q
    rw [hZ] at q
    have q : k < Z := Nat.lt_of_not_le fun z => q ((nI_leI (by omega) (by omega)).mpr z)
    rw [e]
    exact vp_in_nI (by omega) (by decide)
  · rw [et] at q
    have q : ¬ F 78 t ≤ nI k := q
    rw [hZ] at q
    have q : k < Z := Nat.lt_of_not_le fun z => q ((nI_leI (by omega) (by omega)).mpr z)
    rw [if_pos q] at hk
    show mm_Ex _ _ 16 _ _ [.int (F 79 ((80 : Int32) * nI t + nI k).toNatClampNeg)] _ _
    rw [e, tn_nI (by omega)]
    exact mm_run 5 hk
theorem s_kindOf {c : Int32} (hk : K (some (.int (kdC c))) h) : mm_call mm_Ex d k_X6_kindOf [.int c] h K := by
  unfold kdC at hk
  refine mm_run 60 (And.intro (fun q1 => And.intro (fun q2 => And.intro (fun q3 => And.intro (fun q4 => And.intro (fun q5 => And.intro (fun q6 => mm_run 5 ?_) (fun q6 => mm_run 5 ?_)) (fun q5 => mm_run 5 ?_)) (fun q4 => mm_run 5 ?_)) (fun q3 => mm_run 5 ?_)) (fun q2 => mm_run 5 ?_)) (fun q1 => mm_run 5 ?_))
  · rw [if_neg q1, if_neg q2, if_neg q3, if_neg q4, if_neg q5, if_neg q6] at hk
    exact hk
  · rw [if_neg q1, if_neg q2, if_neg q3, if_neg q4, if_neg q5, if_pos q6] at hk
    exact hk
  · rw [if_neg q1, if_neg q2, if_neg q3, if_neg q4, if_pos q5] at hk
    exact hk
  · rw [if_neg q1, if_neg q2, if_neg q3, if_pos q4] at hk
    exact hk
  · rw [if_neg q1, if_neg q2, if_pos q3] at hk
    exact hk
  · rw [if_neg q1, if_pos q2] at hk
    exact hk
  · rw [if_pos q1] at hk
    exact hk
theorem s_figure (ht : t < 4) (hZ : F 78 t = nI Z) (h80 : Z ≤ 80) {k : Nat} {hi : Int32} (hk1 : k < 2 ^ 30) (hk : K (some (.int (fgC (bB F t Z k) hi))) (hH L xs J s F)) : mm_call mm_Ex (d + 1) k_X6_figure [.ref 75, .int (nI t), .int (nI k), .int hi] (hH L xs J s F) K := by
  unfold fgC at hk
  refine mm_run 60 (s_byteAt ht hZ h80 hk1 (s_in (And.intro (fun q => mm_run 5 ?_) (fun q => mm_run 5 ?_))))
  · rw [if_neg (b2i_0.mp q)] at hk
    exact hk
  · rw [if_pos (b2i_p q)] at hk
    exact hk
theorem s_faults (hf : F 75 22 = -9) {p : Int32} (hk : K none (hH L xs J s (up2 F 75 22 p))) : mm_call mm_Ex d k_X6_faults [.ref 75, .int p] (hH L xs J s F) K := by
  refine mm_run 60 (And.intro (fun q => absurd hf q) (fun _ => mm_run 5 ?_))
  exact kh (hp1 (g := upd (F 75) 22 p) rfl) hk
/-- what reading a citation leaves -/
def okC (F G : Nat → Nat → Int32) (r : Sum Nat (Int32 × Int32 × Nat)) : Prop := CE G F ∧ G 92 = F 92 ∧ (∀ j, j ≠ 3 → j ≠ 4 → G 91 j = F 91 j) ∧ match r with
  | .inl p => G 75 22 = nI p
  | .inr (ci, hw, e) => G 75 22 = -9 ∧ G 91 3 = ci ∧ G 91 4 = hw ∧ G 75 21 = nI e
theorem s_readsCitation (ht : t < 4) (hZ : F 78 t = nI Z) (h80 : Z ≤ 80) (hf : F 75 22 = -9) (h9 : n ≤ 9) {a : Nat} (ha : a ≤ 200) (hk : ∀ G, okC F G (pC (bB F t Z) n (F 92) (F 91 1) a) → K none (hH L xs J s G)) : mm_call mm_Ex (d + 2) k_X6_readsCitation [.ref 75, .int (nI t), .int (nI a), .int (nI n)] (hH L xs J s F) K := by
  obtain ⟨B, hB⟩ : ∃ B, bB F t Z = B := ⟨_, rfl⟩
  rw [hB] at hk
  -- at 83
  have J83 : ∀ (w4 w5 : Value) G (e : Nat), CE G F → G 75 21 = nI e → okC F (up2 G 75 21 (nI (e + 1))) (pC B n (F 92) (F 91 1) a) → mm_Ex (d + 2) k_X6_readsCitation 83 (0, 0) [.ref 75, .int (nI t), .int (nI a), .int (nI n), w4, w5] [] (hH L xs J s G) K := fun w4 w5 G e hce he hok => by
    refine mm_run 60 ?_
    refine kh ((hp1 (g := upd (G 75) 21 (G 75 21 + 1)) rfl).trans (hHx (F' := up2 G 75 21 (nI (e + 1))) fun z => ?_)) (hk _ hok)
    rw [he, nI_1]
    rfl
  -- at 72
  have J72 : ∀ (w4 w5 : Value) G (e : Nat) (ci hw : Int32), e ≤ 300 → CE G F → G 92 = F 92 → (∀ j, j ≠ 3 → j ≠ 4 → G 91 j = F 91 j) → G 75 22 = -9 → G 91 3 = ci → G 91 4 = hw → G 75 21 = nI e → (pC B n (F 92) (F 91 1) a = if B e = 46 then .inr (ci, hw, e + 1) else .inl e) → mm_Ex (d + 2) k_X6_readsCitation 72 (0, 0) [.ref 75, .int (nI t), .int (nI a), .int (nI n), w4, w5] [] (hH L xs J s G) K := by
    intro w4 w5 G e ci hw he hce h92 h91 h22 h3 h4 h21 hp
    have hZG : G 78 t = nI Z := by rw [hce.c78]; exact hZ
    have hBG : bB G t Z = B := by rw [hce.bB]; exact hB
    refine mm_run 60 ?_
    show mm_call mm_Ex (d + 1) k_X6_byteAt [.ref 75, .int (nI t), .int (G 75 21)] _ _
    rw [h21]
    refine s_byteAt ht hZG h80 (by omega) ?_
    rw [hBG]
    refine And.intro (fun q => J83 _ _ _ e hce h21 ?_) (fun q => ?_)
    · rw [hp, if_pos q]
      refine ⟨(CE.up (by decide)).trans hce, h92, h91, ?_, ?_, ?_, ?_⟩
      · exact h22
      · exact h3
      · exact h4
      · exact up2_at
    · show mm_call mm_Ex (d + 1) k_X6_faults [.ref 75, .int (G 75 21)] _ _
      rw [h21]
      refine s_faults h22 (J83 _ _ _ e ((CE.up (by decide)).trans hce) ?_ ?_)
      · exact h21
      · rw [hp, if_neg q]
        exact ⟨(CE.up (by decide)).trans ((CE.up (by decide)).trans hce), h92, h91, rfl⟩
  obtain ⟨G0, hG0⟩ : ∃ G, up2 (up2 (up2 F 91 3 (-9)) 91 4 0) 75 21 (nI a) = G := ⟨_, rfl⟩
  have c0 : CE G0 F := by
    rw [← hG0]
    exact (CE.up (by decide)).trans ((CE.cell (by decide)).trans (CE.cell (by decide)))
  have g92 : G0 92 = F 92 := by rw [← hG0]; rfl
  have g22 : G0 75 22 = -9 := by rw [← hG0]; exact hf
  have g21 : G0 75 21 = nI a := by rw [← hG0]; rfl
  have g3 : G0 91 3 = -9 := by rw [← hG0]; rfl
  have g4 : G0 91 4 = 0 := by rw [← hG0]; rfl
  have g91 : ∀ j, j ≠ 3 → j ≠ 4 → G0 91 j = F 91 j := fun j h1 h2 => by
    rw [← hG0]
    show upd (upd (F 91) 3 (-9)) 4 0 j = F 91 j
    rw [pk_un h2, pk_un h1]
  have zG : G0 78 t = nI Z := by rw [c0.c78]; exact hZ
  have bG : bB G0 t Z = B := by rw [c0.bB]; exact hB
  have eH : ((93, mU (mU (mU (hH L xs J s F).2 91 (mI 6 (upd (F 91) 3 (-9)))) 91 (mI 6 (upd (upd (F 91) 3 (-9)) 4 0))) 75 (hc L xs J s 75 (upd (F 75) 21 (nI a)))) : mm_H) = hH L xs J s G0 := by
    rw [← hG0]
    exact hp3 rfl rfl rfl
  have v3 : vp_in (3 : Int32) 6 := vp_in_nI (n := 3) (by decide) (by decide)
  have v4 : vp_in (4 : Int32) 6 := vp_in_nI (n := 4) (by decide) (by decide)
  have v1 : vp_in (1 : Int32) 6 := vp_in_nI (n := 1) (by decide) (by decide)
  refine mm_run 60 (s_byteAt ht hZ h80 (by omega) ?_)
  rw [hB]
  have J24 : ∀ (w5 : Value), (B a = 43 ∨ B a = 45) → mm_Ex (d + 2) k_X6_readsCitation 24 (0, 0) [.ref 75, .int (nI t), .int (nI a), .int (nI n), .int (B a), w5] [] (hH L xs J s G0) K := by
    intro w5 hs
    obtain ⟨ci, hci⟩ : ∃ ci, fgC (B (a + 1)) (nI n - 1) = ci := ⟨_, rfl⟩
    have hp : pC B n (F 92) (F 91 1) a = (if ci = -9 ∨ F 91 1 ≤ F 92 ci.toNatClampNeg then .inl (a + 1) else if B (a + 2) = 46 then .inr (ci, (if B a = 43 then 1 else -1), a + 3) else .inl (a + 2)) := by
      unfold pC
      rw [if_pos hs, hci]
    have J46 : (ci = -9 ∨ F 91 1 ≤ F 92 ci.toNatClampNeg) → ∀ (w5 : Value), mm_Ex (d + 2) k_X6_readsCitation 46 (0, 0) [.ref 75, .int (nI t), .int (nI a), .int (nI n), .int (B a), w5] [] (hH L xs J s G0) K := fun q w5 => by
      refine mm_run 60 (s_faults g22 (hk _ ?_))
      rw [hp, if_pos q]
      refine ⟨(CE.up (by decide)).trans c0, g92, g91, ?_⟩
      show nI a + 1 = nI (a + 1)
      exact nI_1 a
    refine mm_run 60 ?_
    show mm_call mm_Ex (d + 1) k_X6_figure [.ref 75, .int (nI t), .int (nI a + 1), .int (nI n - 1)] _ _
    rw [nI_1]
    refine s_figure ht zG h80 (by omega) ?_
    rw [bG, hci]
    refine And.intro (fun q => J46 (Or.inl q) _) (fun q => ⟨?_, v1, And.intro (fun q2 => ?_) (fun q2 => J46 (Or.inr ?_) _)⟩)
    · have hci2 : ci = B (a + 1) - 48 ∧ 0 ≤ ci ∧ ci ≤ nI n - 1 := by
        unfold fgC at hci
        split at hci
        · rename_i z
          rw [hci] at z
          exact ⟨hci.symm, z.1, z.2⟩
        · exact absurd hci.symm q
      obtain ⟨c, hc1, rfl⟩ := pl_of (by omega) hci2.2
      exact vp_in_nI (by omega) (by decide)
    · have q2 : G0 92 ci.toNatClampNeg < G0 91 1 := q2
      rw [g92, g91 1 (by decide) (by decide)] at q2
      obtain ⟨G1, hG1⟩ : ∃ G, up2 (up2 (up2 G0 91 3 ci) 91 4 (if B a = 43 then 1 else -1)) 75 21 (nI (a + 2)) = G := ⟨_, rfl⟩
      have J66 : ∀ y, y = (if B a = 43 then 1 else -1) → mm_Ex (d + 2) k_X6_readsCitation 66 (0, 0) [.ref 75, .int (nI t), .int (nI a), .int (nI n), .int (B a), .int ci] [.int y, .int 4, .ref 91] (hH L xs J s (up2 G0 91 3 ci)) K := fun y hy => by
        subst hy
        refine mm_run 60 ⟨v4, ?_⟩
        refine kx ((hp2 (g := upd ((up2 G0 91 3 ci) 91) 4 (if B a = 43 then 1 else -1)) (g2 := upd ((up2 G0 91 3 ci) 75) 21 (nI a + 2)) rfl rfl).trans (hHx (F' := G1) fun z => ?_)) (J72 _ _ _ (a + 2) ci (if B a = 43 then 1 else -1) (by omega) ?_ ?_ ?_ ?_ ?_ ?_ ?_ ?_)
        · rw [show nI a + 2 = nI (a + 2) from nI_add a 2, ← hG1]
          rfl
        · rw [← hG1]
          exact (CE.up (by decide)).trans ((CE.cell (by decide)).trans ((CE.cell (by decide)).trans c0))
        · rw [← hG1]
          exact g92
        · intro j h1 h2
          rw [← hG1]
          show upd (upd (G0 91) 3 ci) 4 _ j = F 91 j
          rw [pk_un h2, pk_un h1]
          exact g91 j h1 h2
        · rw [← hG1]
          exact g22
        · rw [← hG1]
          rfl
        · rw [← hG1]
          rfl
        · rw [← hG1]
          rfl
        · rw [hp, if_neg]
          exact fun z => z.elim q (fun z => Int32.not_le.mpr q2 z)
      refine ⟨v3, And.intro (fun q3 => ?_) (fun q3 => ?_)⟩
      · show mm_Ex _ _ 66 _ _ _ _ _
        exact kx (hp1 (g := upd (G0 91) 3 ci) rfl) (J66 _ (if_neg q3).symm)
      · show mm_Ex _ _ 66 _ _ _ _ _
        exact kx (hp1 (g := upd (G0 91) 3 ci) rfl) (J66 _ (if_pos q3).symm)
    · have q2 : ¬ G0 92 ci.toNatClampNeg < G0 91 1 := q2
      rw [g92, g91 1 (by decide) (by decide)] at q2
      exact Int32.not_lt.mp q2
  refine ⟨v3, v4, And.intro (fun q => kx eH (J24 _ (Or.inl q))) (fun q => And.intro (fun q2 => ?_) (fun q2 => kx eH (J24 _ (Or.inr q2))))⟩
  refine kx eH (J72 _ _ _ a (-9) 0 (by omega) c0 g92 g91 g22 g3 g4 g21 ?_)
  unfold pC
  rw [if_neg (fun z => z.elim q q2)]
/-- what reading an item leaves -/
def okI (F G : Nat → Nat → Int32) (r : Sum Nat ((Nat → Int32) × Nat)) : Prop := CE G F ∧ G 92 = F 92 ∧ match r with
  | .inl p => G 75 22 = nI p ∧ p < 2 ^ 30
  | .inr (it, e) => G 75 22 = -9 ∧ (∀ w, w < 6 → G 91 w = it w) ∧ G 75 21 = nI e
theorem s_readsItem (ht : t < 4) (hZ : F 78 t = nI Z) (h80 : Z ≤ 80) (hf : F 75 22 = -9) (h9 : n ≤ 9) {a : Nat} (ha : a ≤ 100) (hk : ∀ G, okI F G (pI (bB F t Z) n (F 92) a) → K none (hH L xs J s G)) : mm_call mm_Ex (d + 3) k_X6_readsItem [.ref 75, .int (nI t), .int (nI a), .int (nI n)] (hH L xs J s F) K := by
  obtain ⟨B, hB⟩ : ∃ B, bB F t Z = B := ⟨_, rfl⟩
  rw [hB] at hk
  have v0 : vp_in (0 : Int32) 6 := vp_in_nI (n := 0) (by decide) (by decide)
  have v1 : vp_in (1 : Int32) 6 := vp_in_nI (n := 1) (by decide) (by decide)
  have v2 : vp_in (2 : Int32) 6 := vp_in_nI (n := 2) (by decide) (by decide)
  have v5 : vp_in (5 : Int32) 6 := vp_in_nI (n := 5) (by decide) (by decide)
  -- a fault was told
  have I82f : ∀ (w4 w5 : Value) G p, CE G F → G 92 = F 92 → G 75 22 = nI p → p < 2 ^ 30 → pI B n (F 92) a = .inl p → mm_Ex (d + 3) k_X6_readsItem 82 (0, 0) [.ref 75, .int (nI t), .int (nI a), .int (nI n), w4, w5] [] (hH L xs J s G) K := by
    intro w4 w5 G p hce h92 h22 hp1 hp
    refine mm_run 60 (And.intro (fun _ => mm_run 5 (hk _ ?_)) (fun q => ?_))
    · rw [hp]
      exact ⟨hce, h92, h22, hp1⟩
    · have q : G 75 22 = -9 := q
      rw [h22] at q
      exact absurd q (ne9 (by omega))
  have J75f : ∀ (w4 w5 : Value) G p, CE G F → G 92 = F 92 → G 75 22 = nI p → p < 2 ^ 30 → pI B n (F 92) a = .inl p → mm_Ex (d + 3) k_X6_readsItem 75 (0, 0) [.ref 75, .int (nI t), .int (nI a), .int (nI n), w4, w5] [] (hH L xs J s G) K := by
    intro w4 w5 G p hce h92 h22 hp1 hp
    refine mm_run 60 ⟨v5, ?_⟩
    exact kx (CBackCourtLaw_law_r1553_0a7f92.hp1 (g := upd (G 91) 5 0) rfl) (I82f _ _ _ p ((CE.cell (by decide)).trans hce) h92 h22 hp1 hp)
  -- all but the marks is read
  have J75o : ∀ (w4 w5 : Value) G (k dy v ci hw : Int32) (e : Nat), e ≤ 300 → CE G F → G 92 = F 92 → G 75 22 = -9 → G 91 0 = k → G 91 1 = dy → G 91 2 = v → G 91 3 = ci → G 91 4 = hw → G 75 21 = nI e → (pI B n (F 92) a = if dgB (B (mF B e 5).2) then .inl (mF B e 5).2 else .inr (itF k dy v ci hw (nI (mF B e 5).1), (mF B e 5).2)) → mm_Ex (d + 3) k_X6_readsItem 75 (0, 0) [.ref 75, .int (nI t), .int (nI a), .int (nI n), w4, w5] [] (hH L xs J s G) K := by
    intro w4 w5 G k dy v ci hw e he hce h92 h22 h0 h1 h2 h3 h4 h21 hp
    have Q : ∀ f i, i ≤ 5 → 5 - i < f → ∀ (la : Int32) (w5 : Value) H, (i = 0 ∧ la = -9 ∨ 0 < i ∧ la = nI (i - 1)) → CE H F → H 92 = F 92 → H 75 22 = -9 → H 91 0 = k → H 91 1 = dy → H 91 2 = v → H 91 3 = ci → H 91 4 = hw → H 91 5 = nI (mF B e i).1 → H 75 21 = nI (mF B e i).2 → mm_Ex (d + 3) k_X6_readsItem 82 (0, 0) [.ref 75, .int (nI t), .int (nI a), .int (nI n), .int la, w5] [] (hH L xs J s H) K := by
      intro f
      induction f with
      | zero => intro i hi h; omega
      | succ f ih =>
        intro i hi hf1 la w5 H hla hce h92 h22 h0 h1 h2 h3 h4 h5 h21
        have hme := mF_le B e i
        have hZG : H 78 t = nI Z := by rw [hce.c78]; exact hZ
        have hBG : bB H t Z = B := by rw [hce.bB]; exact hB
        obtain ⟨c, hc⟩ : ∃ c, B (mF B e i).2 = c := ⟨_, rfl⟩
        -- the marks end here
        have stop : (∀ j, i ≤ j → j < 5 → ¬ c = nI (48 + j)) → mF B e 5 = mF B e i := fun z => by
          have := mF_st (B := B) (e0 := e) (i := i) (m := 5) (by rw [hc]; exact z) (5 - i) (by omega)
          rw [show i + (5 - i) = 5 by omega] at this
          exact this
        refine mm_run 60 (And.intro (fun q => absurd h22 q) (fun _ => ?_))
        show mm_call mm_Ex (d + 2) k_X6_byteAt [.ref 75, .int (nI t), .int (H 75 21)] _ _
        rw [h21]
        refine s_byteAt ht hZG h80 (by omega) ?_
        rw [hBG, hc]
        refine s_in (And.intro (fun q => mm_run 5 (hk _ ?_)) (fun q => ?_))
        · rw [b2i_0] at q
          have es : mF B e 5 = mF B e i := stop fun j h1 h2 z => q (by
            rw [z]
            exact ⟨(nI_leI (a := 48) (by decide) (by omega)).mpr (by omega), (nI_leI (b := 57) (by omega) (by decide)).mpr (by omega)⟩)
          rw [hp, es, hc, if_neg (by simpa [dgB] using q)]
          refine ⟨hce, h92, h22, fun w hw6 => ?_, h21⟩
          match w, hw6 with
          | 0, _ => exact h0
          | 1, _ => exact h1
          | 2, _ => exact h2
          | 3, _ => exact h3
          | 4, _ => exact h4
          | 5, _ => exact h5
        · have q := b2i_p q
          obtain ⟨x, hx1, hx2⟩ := in_nI (n := 57) (by decide) (Int32.le_trans (by decide) q.1) q.2
          have hx3 : 48 ≤ x := by
            have := q.1
            rw [hx2] at this
            exact (nI_leI (a := 48) (by decide) (by omega)).mp this
          have ed : c - 48 = nI (x - 48) := by
            rw [hx2]
            exact pk_sub hx3
          have efg : fgC c 4 = if x - 48 ≤ 4 then nI (x - 48) else -9 := by
            unfold fgC
            rw [ed]
            by_cases z : x - 48 ≤ 4
            · rw [if_pos z, if_pos ⟨nle0 (by omega), (nI_leI (b := 4) (by omega) (by decide)).mpr z⟩]
            · rw [if_neg z, if_neg]
              exact fun y => z ((nI_leI (b := 4) (by omega) (by decide)).mp y.2)
          have hdg : dgB c = true := by simpa [dgB] using q
          -- no mark here
          have J108 : ∀ (w5 : Value), (¬ x - 48 ≤ 4 ∨ x - 48 < i) → mm_Ex (d + 3) k_X6_readsItem 108 (0, 0) [.ref 75, .int (nI t), .int (nI a), .int (nI n), .int la, w5] [] (hH L xs J s H) K := fun w5 z => by
            have es : mF B e 5 = mF B e i := stop fun j h1 h2 y => by
              rw [hx2] at y
              have := (nI_eq (by omega) (by omega)).mp y
              omega
            refine mm_run 60 ?_
            show mm_call mm_Ex (d + 2) k_X6_faults [.ref 75, .int (H 75 21)] _ _
            rw [h21]
            refine s_faults h22 (mm_run 5 (I82f _ _ _ (mF B e i).2 ((CE.up (by decide)).trans hce) h92 rfl (by omega) ?_))
            rw [hp, es, hc, if_pos hdg]
          show mm_call mm_Ex (d + 2) k_X6_figure [.ref 75, .int (nI t), .int (H 75 21), .int 4] _ _
          rw [h21]
          refine s_figure ht hZG h80 (by omega) ?_
          rw [hBG, hc, efg]
          by_cases z4 : x - 48 ≤ 4
          · rw [if_pos z4]
            refine And.intro (fun q2 => absurd q2 (ne9 (by omega))) (fun _ => And.intro (fun q2 => ⟨v5, v5, ?_⟩) (fun q2 => J108 _ (Or.inr ?_)))
            · have hdi : i ≤ x - 48 := by
                rcases hla with ⟨z1, z2⟩ | ⟨z1, z2⟩
                · omega
                · rw [z2] at q2
                  have := (nI_ltI (by omega) (by omega)).mp q2
                  omega
              have e1 : mF B e (x - 48) = mF B e i := by
                have := mF_st (B := B) (e0 := e) (i := i) (m := x - 48) (fun j h1 h2 y => by
                  rw [hc, hx2] at y
                  have := (nI_eq (by omega) (by omega)).mp y
                  omega) (x - 48 - i) (by omega)
                rw [show i + (x - 48 - i) = x - 48 by omega] at this
                exact this
              have e2 : mF B e (x - 48 + 1) = ((mF B e i).1 ||| 2 ^ (x - 48), (mF B e i).2 + 1) := by
                rw [mF_s, e1, if_pos]
                rw [hc, hx2, show 48 + (x - 48) = x by omega]
              obtain ⟨H', hH'⟩ : ∃ H', up2 (up2 H 91 5 (nI (mF B e (x - 48 + 1)).1)) 75 21 (nI (mF B e (x - 48 + 1)).2) = H' := ⟨_, rfl⟩
              show mm_Ex _ _ 131 _ _ _ _ _
              refine kx ((hp2 (g := upd (H 91) 5 (H 91 5 ||| (1 : Int32) <<< (nI (x - 48) &&& 31))) (g2 := upd (H 75) 21 (H 75 21 + 1)) rfl rfl).trans (hHx (F' := H') fun z => ?_)) (mm_run 5 (ih (x - 48 + 1) (by omega) (by omega) _ _ H' (Or.inr ⟨by omega, rfl⟩) ?_ ?_ ?_ ?_ ?_ ?_ ?_ ?_ ?_ ?_))
              · rw [shl1 (by omega), h5, h21, nI_1, fa_or, ← hH', e2]
                rfl
              · rw [← hH']
                exact (CE.up (by decide)).trans ((CE.cell (by decide)).trans hce)
              · rw [← hH']
                exact h92
              · rw [← hH']
                exact h22
              · rw [← hH']
                exact h0
              · rw [← hH']
                exact h1
              · rw [← hH']
                exact h2
              · rw [← hH']
                exact h3
              · rw [← hH']
                exact h4
              · rw [← hH']
                rfl
              · rw [← hH']
                rfl
            · rcases hla with ⟨z1, z2⟩ | ⟨z1, z2⟩
              · rw [z2] at q2
                exfalso
                refine q2 (Int32.lt_of_lt_of_le (by decide) (nle0 (n := x - 48) (by omega)))
              · rw [z2] at q2
                have : ¬ i - 1 < x - 48 := fun y => q2 ((nI_ltI (by omega) (by omega)).mpr y)
                omega
          · rw [if_neg z4]
            exact And.intro (fun _ => J108 _ (Or.inl z4)) (fun q2 => absurd rfl q2)
    refine mm_run 60 ⟨v5, ?_⟩
    refine kx (CBackCourtLaw_law_r1553_0a7f92.hp1 (g := upd (G 91) 5 0) rfl) (Q 6 0 (by omega) (by omega) _ _ (up2 G 91 5 0) (Or.inl ⟨rfl, rfl⟩) ((CE.cell (by decide)).trans hce) h92 h22 h0 h1 h2 h3 h4 rfl h21)
  -- the first three
  refine mm_run 60 (s_byteAt ht hZ h80 (by omega) (s_kindOf ⟨v0, ?_⟩))
  rw [hB]
  obtain ⟨k, hk'⟩ : ∃ k, kdC (B a) = k := ⟨_, rfl⟩
  rw [hk']
  obtain ⟨G1, hG1⟩ : ∃ G, up2 F 91 0 k = G := ⟨_, rfl⟩
  have c1 : CE G1 F := by rw [← hG1]; exact CE.cell (by decide)
  show mm_call mm_Ex (d + 2) k_X6_figure [.ref 75, .int (nI t), .int (nI a + 1), .int 9] _ _
  rw [nI_1]
  refine kc ((CBackCourtLaw_law_r1553_0a7f92.hp1 (g := upd (F 91) 0 k) rfl).trans (hHx (F' := G1) fun z => by rw [← hG1]; rfl)) (s_figure ht (by rw [c1.c78]; exact hZ) h80 (by omega) ⟨v1, ?_⟩)
  rw [c1.bB, hB]
  obtain ⟨dy, hdy⟩ : ∃ k, fgC (B (a + 1)) 9 = k := ⟨_, rfl⟩
  rw [hdy]
  obtain ⟨G2, hG2⟩ : ∃ G, up2 G1 91 1 dy = G := ⟨_, rfl⟩
  have c2 : CE G2 F := by rw [← hG2]; exact (CE.cell (by decide)).trans c1
  show mm_call mm_Ex (d + 2) k_X6_figure [.ref 75, .int (nI t), .int (nI a + 2), .int 1] _ _
  rw [show nI a + 2 = nI (a + 2) from nI_add a 2]
  refine kc ((CBackCourtLaw_law_r1553_0a7f92.hp1 (g := upd (G1 91) 1 dy) rfl).trans (hHx (F' := G2) fun z => by rw [← hG2]; rfl)) (s_figure ht (by rw [c2.c78]; exact hZ) h80 (by omega) ⟨v2, v0, ?_⟩)
  rw [c2.bB, hB]
  obtain ⟨v, hv⟩ : ∃ k, fgC (B (a + 2)) 1 = k := ⟨_, rfl⟩
  rw [hv]
  obtain ⟨G3, hG3⟩ : ∃ G, up2 G2 91 2 v = G := ⟨_, rfl⟩
  have c3 : CE G3 F := by rw [← hG3]; exact (CE.cell (by decide)).trans c2
  have eH : ((93, mU (hH L xs J s G2).2 91 (mI 6 (upd (G2 91) 2 v))) : mm_H) = hH L xs J s G3 := (CBackCourtLaw_law_r1553_0a7f92.hp1 rfl).trans (hHx fun z => by rw [← hG3]; rfl)
  have g0 : G3 91 0 = k := by rw [← hG3, ← hG2, ← hG1]; rfl
  have g1 : G3 91 1 = dy := by rw [← hG3, ← hG2]; rfl
  have g2 : G3 91 2 = v := by rw [← hG3]; rfl
  have g22 : G3 75 22 = -9 := by rw [← hG3, ← hG2, ← hG1]; exact hf
  have g92 : G3 92 = F 92 := by rw [← hG3, ← hG2, ← hG1]; rfl
  have hp : pI B n (F 92) a = (if k = -9 ∨ n = 9 then .inl a
    else if dy = -9 then .inl (a + 1)
    else if v = -9 then .inl (a + 2)
    else match pC B n (F 92) dy (a + 3) with
      | .inl p => .inl p
      | .inr (ci, hw, e) => if dgB (B (mF B e 5).2) then .inl (mF B e 5).2 else .inr (itF k dy v ci hw (nI (mF B e 5).1), (mF B e 5).2)) := by
    unfold pI
    rw [hk', hdy, hv]
  have J40 : ∀ (w4 w5 : Value), (k = -9 ∨ n = 9) → mm_Ex (d + 3) k_X6_readsItem 40 (0, 0) [.ref 75, .int (nI t), .int (nI a), .int (nI n), w4, w5] [] (hH L xs J s G3) K := fun w4 w5 z => mm_run 60 (s_faults g22 (J75f _ _ _ a ((CE.up (by decide)).trans c3) g92 rfl (by omega) (by rw [hp, if_pos z])))
  have hkr : (mI 6 (upd (G2 91) 2 v)) = mI 6 (G3 91) := by rw [← hG3]; rfl
  refine And.intro (fun q => kx eH (J40 _ _ (Or.inl ?_))) (fun q => And.intro (fun q2 => ⟨v1, And.intro (fun q3 => ⟨v2, And.intro (fun q4 => ?_) (fun q4 => ?_)⟩) (fun q3 => ?_)⟩) (fun q2 => kx eH (J40 _ _ (Or.inr ?_))))
  · rw [← g0, ← hG3]
    exact q
  · -- the citation
    have nk : ¬ k = -9 := fun z => q (by rw [← hG3] at g0; exact g0.trans z)
    have n9 : ¬ n = 9 := fun z => q2 (by rw [z]; rfl)
    have nd : ¬ dy = -9 := fun z => q3 (by rw [← hG3] at g1; exact g1.trans z)
    have nv : ¬ v = -9 := fun z => q4 (by rw [← hG3] at g2; exact g2.trans z)
    rw [if_neg (fun z => z.elim nk n9), if_neg nd, if_neg nv] at hp
    show mm_call mm_Ex (d + 2) k_X6_readsCitation [.ref 75, .int (nI t), .int (nI a + 3), .int (nI n)] _ _
    rw [show nI a + 3 = nI (a + 3) from nI_add a 3]
    refine kc eH (s_readsCitation ht (by rw [c3.c78]; exact hZ) h80 g22 h9 (by omega) fun G hG => ?_)
    rw [c3.bB, hB, g92, g1] at hG
    obtain ⟨r, hr⟩ : ∃ r, pC B n (F 92) dy (a + 3) = r := ⟨_, rfl⟩
    rw [hr] at hG hp
    obtain ⟨o1, o2, o3, o4⟩ := hG
    rcases r with p | ⟨ci, hw, e⟩
    · have hpl : p < 2 ^ 30 := by
        have : p ≤ a + 6 := by
          unfold pC at hr
          split at hr
          · split at hr
            · cases hr
              omega
            · split at hr
              · cases hr
              · cases hr
                omega
          · split at hr
            · cases hr
            · cases hr
              omega
        omega
      exact J75f _ _ _ p (o1.trans c3) (o2.trans g92) o4 hpl hp
    · have hel : e ≤ 300 := by
        unfold pC at hr
        split at hr
        · split at hr
          · cases hr
          · split at hr
            · cases hr
              omega
            · cases hr
        · split at hr
          · cases hr
            omega
          · cases hr
      exact J75o _ _ _ k dy v ci hw e hel (o1.trans c3) (o2.trans g92) o4.1 ((o3 0 (by decide) (by decide)).trans g0) ((o3 1 (by decide) (by decide)).trans g1) ((o3 2 (by decide) (by decide)).trans g2) o4.2.1 o4.2.2.1 o4.2.2.2 hp
  · have nk : ¬ k = -9 := fun z => q (by rw [← hG3] at g0; exact g0.trans z)
    have n9 : ¬ n = 9 := fun z => q2 (by rw [z]; rfl)
    have nd : ¬ dy = -9 := fun z => q3 (by rw [← hG3] at g1; exact g1.trans z)
    have yv : v = -9 := by rw [← g2, ← hG3]; exact q4
    show mm_call mm_Ex (d + 2) k_X6_faults [.ref 75, .int (nI a + 2)] _ _
    rw [show nI a + 2 = nI (a + 2) from nI_add a 2]
    exact kc eH (s_faults g22 (J75f _ _ _ (a + 2) ((CE.up (by decide)).trans c3) g92 rfl (by omega) (by rw [hp, if_neg (fun z => z.elim nk n9), if_neg nd, if_pos yv])))
  · have nk : ¬ k = -9 := fun z => q (by rw [← hG3] at g0; exact g0.trans z)
    have n9 : ¬ n = 9 := fun z => q2 (by rw [z]; rfl)
    have yd : dy = -9 := by rw [← g1, ← hG3]; exact q3
    show mm_call mm_Ex (d + 2) k_X6_faults [.ref 75, .int (nI a + 1)] _ _
    rw [nI_1]
    exact kc eH (s_faults g22 (J75f _ _ _ (a + 1) ((CE.up (by decide)).trans c3) g92 rfl (by omega) (by rw [hp, if_neg (fun z => z.elim nk n9), if_pos yd])))
  · exact (nI_eq (b := 9) (by omega) (by decide)).mp q2
end MRd
