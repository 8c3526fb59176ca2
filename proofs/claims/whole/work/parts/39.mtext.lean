/-! the reference: fault, court -/
def adF (F : Nat → Nat → Int32) (Q : Rq) (n : Nat) : Nat → Nat → Int32 := fun k => if 82 ≤ k ∧ k ≤ 87 then fa_fill (Q (k - 82)) (F k) n else if k = 75 then upd (F 75) 10 (nI n) else F k
theorem S_adds_k {F : Nat → Nat → Int32} {n : Nat} {a b c e f g : Int32} (k : Nat) : S_adds F n a b c e f g k = if 82 ≤ k ∧ k ≤ 87 then upd (F k) n (itF a b c e f g (k - 82)) else if k = 75 then upd (F 75) 10 (nI (n + 1)) else F k := by
  by_cases h : 82 ≤ k ∧ k ≤ 87
  · rw [if_pos h]
    obtain ⟨j, rfl⟩ : ∃ j, k = 82 + j := ⟨k - 82, by omega⟩
    have hj : j ≤ 5 := by omega
    match j, hj with
    | 0, _ => rfl
    | 1, _ => rfl
    | 2, _ => rfl
    | 3, _ => rfl
    | 4, _ => rfl
    | 5, _ => rfl
  · rw [if_neg h]
    by_cases h2 : k = 75
    · subst h2
      rfl
    · rw [if_neg h2]
      have e : ∀ m, m = 75 ∨ (82 ≤ m ∧ m ≤ 87) → ¬ k = m := fun m hm => by omega
      simp only [S_adds, up2, upF, if_neg h2, if_neg (e 82 (by decide)), if_neg (e 83 (by decide)), if_neg (e 84 (by decide)), if_neg (e 85 (by decide)), if_neg (e 86 (by decide)), if_neg (e 87 (by decide))]
theorem fill_up {Q : Rq} {n w : Nat} {it : Nat → Int32} {g : Nat → Int32} : upd (fa_fill (Q w) g n) n (it w) = fa_fill (qUp Q n it w) g (n + 1) := by
  funext x
  unfold upd fa_fill qUp
  by_cases h : x = n
  · rw [if_pos h, if_pos (by omega), if_pos h]
  · rw [if_neg h]
    by_cases h2 : x < n
    · rw [if_pos h2, if_pos (by omega), if_neg h]
    · rw [if_neg h2, if_neg (by omega)]
theorem CE.adds {F G : Nat → Nat → Int32} {Q : Rq} {n : Nat} {it : Nat → Int32} (h : CE G (adF F Q n)) : CE (S_adds G n (it 0) (it 1) (it 2) (it 3) (it 4) (it 5)) (adF F (qUp Q n it) (n + 1)) := by
  refine ⟨fun k h1 h2 h3 h4 h5 => ?_, fun j h1 h2 h3 h4 h5 => ?_⟩
  · have e := h.1 k h1 h2 h3 h4 h5
    rw [S_adds_k]
    unfold adF at e ⊢
    by_cases hk : 82 ≤ k ∧ k ≤ 87
    · rw [if_pos hk] at e ⊢
      rw [if_pos hk, e, ← fill_up]
      congr 1
      have hj : k - 82 ≤ 5 := by omega
      obtain ⟨j, hj2⟩ : ∃ j, k - 82 = j := ⟨_, rfl⟩
      rw [hj2] at hj ⊢
      match j, hj with
      | 0, _ => rfl
      | 1, _ => rfl
      | 2, _ => rfl
      | 3, _ => rfl
      | 4, _ => rfl
      | 5, _ => rfl
    · rw [if_neg hk, if_neg h1] at e ⊢
      rw [if_neg hk, if_neg h1]
      exact e
  · have e := h.2 j h1 h2 h3 h4 h5
    show upd (G 75) 10 (nI (n + 1)) j = upd (F 75) 10 (nI (n + 1)) j
    have e : G 75 j = upd (F 75) 10 (nI n) j := e
    unfold upd at e ⊢
    by_cases hj : j = 10
    · rw [if_pos hj, if_pos hj]
    · rw [if_neg hj] at e ⊢
      rw [if_neg hj]
      exact e
def baF (b : Int32) (F : Nat → Nat → Int32) (Q : Rq) (n : Nat) : Nat → Nat → Int32 := if b = 0 then F else adF F Q n
theorem baF_c {b : Int32} {F : Nat → Nat → Int32} {Q : Rq} {n k : Nat} (h : k = 78 ∨ k = 79) : baF b F Q n k = F k := by
  unfold baF
  split
  · rfl
  · unfold adF
    rw [if_neg (by omega), if_neg (by omega)]
theorem pI_bound {B : Nat → Int32} {n a Z : Nat} {D : Nat → Int32} {it : Nat → Int32} {e : Nat} (hb : ∀ k, Z ≤ k → B k = -9) (hn9 : n ≤ 9) (h : pI B n D a = .inr (it, e)) : a < e ∧ e ≤ Z ∧ n < 9 := by
  have hZ : ∀ k c, B k = c → ¬ c = -9 → k < Z := fun k c h1 h2 => Nat.lt_of_not_le fun z => h2 (h1 ▸ hb k z)
  unfold pI at h
  split at h
  · cases h
  · rename_i z1
    have hn : ¬ n = 9 := fun y => z1 (Or.inr y)
    split at h
    · cases h
    · split at h
      · cases h
      · split at h
        · cases h
        · rename_i ci hw e1 hC
          split at h
          · cases h
          · rename_i z2
            have he : e = (mF B e1 5).2 := by cases h; rfl
            have hm := mF_le B e1 5
            -- the dot is there
            have h1 : a + 3 < e1 ∧ e1 ≤ Z := by
              unfold pC at hC
              split at hC
              · split at hC
                · cases hC
                · split at hC
                  · rename_i zz
                    cases hC
                    have := hZ _ _ zz (by decide)
                    omega
                  · cases hC
              · split at hC
                · rename_i zz
                  cases hC
                  have := hZ _ _ zz (by decide)
                  omega
                · cases hC
            have h2 : ∀ i, i ≤ 5 → (mF B e1 i).2 ≤ Z := by
              intro i
              induction i with
              | zero => exact fun _ => h1.2
              | succ i ih =>
                intro hi5
                rw [mF_s]
                split
                · rename_i zz
                  exact hZ _ _ zz (ne9 (by omega))
                · exact ih (by omega)
            have := h2 5 (by omega)
            omega
theorem fg_lt {c : Int32} {n : Nat} (hn : n ≤ 9) (h : ¬ fgC c (nI n - 1) = -9) : ∃ j, j < n ∧ fgC c (nI n - 1) = nI j := by
  unfold fgC at h ⊢
  split at h
  · rename_i z
    rw [if_pos z]
    obtain ⟨j, h1, h2⟩ := pl_of (by omega) z
    exact ⟨j, h1, h2⟩
  · exact absurd rfl h
theorem pC_cong {B : Nat → Int32} {n : Nat} {D D' : Nat → Int32} (hn : n ≤ 9) (h : ∀ i, i < n → D i = D' i) {day : Int32} {a : Nat} : pC B n D day a = pC B n D' day a := by
  unfold pC
  split
  · by_cases z : fgC (B (a + 1)) (nI n - 1) = -9
    · rw [if_pos (Or.inl z), if_pos (Or.inl z)]
    · obtain ⟨j, h1, h2⟩ := fg_lt hn z
      have e : D (fgC (B (a + 1)) (nI n - 1)).toNatClampNeg = D' (fgC (B (a + 1)) (nI n - 1)).toNatClampNeg := by
        rw [h2, tn_nI (by omega)]
        exact h j h1
      rw [e]
  · rfl
theorem pI_cong {B : Nat → Int32} {n : Nat} {D D' : Nat → Int32} (hn : n ≤ 9) (h : ∀ i, i < n → D i = D' i) {a : Nat} : pI B n D a = pI B n D' a := by
  unfold pI
  rw [pC_cong hn h]
theorem pI_1 {B : Nat → Int32} {n : Nat} {D it : Nat → Int32} {a e : Nat} (h : pI B n D a = .inr (it, e)) : True := trivial
def Q0 : Rq := fun _ _ => 0
def S_fault (F : Nat → Nat → Int32) (t : Int32) : Int32 × (Nat → Nat → Int32) :=
  let k := t.toNatClampNeg
  if 0 ≤ t ∧ t ≤ 3 then (if 0 ≤ F 78 k then ((match rdS (bB F k (F 78 k).toNatClampNeg) (F 78 k).toNatClampNeg 81 0 0 Q0 with
    | .inl p => nI p
    | .inr _ => -9), F) else (-3, S_fi F 1)) else (-1, F)
def crF (F : Nat → Nat → Int32) (Q : Rq) (n : Nat) : Nat → Nat → Int32 := upF (adF F Q n) 88 (fil (F 88) 0 3 (-9))
def S_court (F : Nat → Nat → Int32) (t : Int32) : Int32 × (Nat → Nat → Int32) :=
  let k := t.toNatClampNeg
  if 0 ≤ t ∧ t ≤ 3 then (if 0 ≤ F 78 k then (match rdS (bB F k (F 78 k).toNatClampNeg) (F 78 k).toNatClampNeg 81 0 0 Q0 with
    | .inl _ => (-4, F)
    | .inr (n, Q) => (nI n, crF F Q n)) else (-3, S_fi F 1)) else (-1, F)
/-- what reading leaves -/
def okR (b : Int32) (F G : Nat → Nat → Int32) (r : Sum Nat (Nat × Rq)) : Prop := match r with
  | .inl p => p < 2 ^ 30 ∧ G 75 22 = nI p ∧ (b = 0 → CE G F)
  | .inr (m, Q) => m ≤ 9 ∧ CE G (baF b F Q m) ∧ G 75 22 = -9
section MTx
variable {d L s : Nat} {xs : Nat → Int32} {J : Nat → Int64} {F : Nat → Nat → Int32} {K : mm_K} {h : mm_H} {n t Z : Nat}
theorem s_reads (ht : t < 4) (hZ : F 78 t = nI Z) (h80 : Z ≤ 80) {b : Int32} (h0 : b = 0 ∨ F 75 10 = 0) (hk : ∀ G x, okR b F G (rdS (bB F t Z) Z 81 0 0 Q0) → K (some (.int x)) (hH L xs J s G)) : mm_call mm_Ex (d + 4) k_X6_reads [.ref 75, .int (nI t), .int b] (hH L xs J s F) K := by
  obtain ⟨B, hB⟩ : ∃ B, bB F t Z = B := ⟨_, rfl⟩
  rw [hB] at hk
  have hBz : ∀ k, Z ≤ k → B k = -9 := fun k hk => by
    rw [← hB]
    exact if_neg (by omega)
  obtain ⟨R, hR⟩ : ∃ R, rdS B Z 81 0 0 Q0 = R := ⟨_, rfl⟩
  rw [hR] at hk
  have et : (nI t).toNatClampNeg = t := tn_nI (by omega)
  have hvt : vp_in (nI t) 4 := vp_in_nI ht (by decide)
  have v0 : vp_in (0 : Int32) 6 := vp_in_nI (n := 0) (by decide) (by decide)
  have v1 : vp_in (1 : Int32) 6 := vp_in_nI (n := 1) (by decide) (by decide)
  have v2 : vp_in (2 : Int32) 6 := vp_in_nI (n := 2) (by decide) (by decide)
  have v3 : vp_in (3 : Int32) 6 := vp_in_nI (n := 3) (by decide) (by decide)
  have v4 : vp_in (4 : Int32) 6 := vp_in_nI (n := 4) (by decide) (by decide)
  have v5 : vp_in (5 : Int32) 6 := vp_in_nI (n := 5) (by decide) (by decide)
  have P : ∀ f a n Q G, Z < a + f → a ≤ Z → n ≤ 9 → CE G (baF b F Q n) → G 75 22 = -9 → (∀ i, i < n → G 92 i = Q 1 i) → rdS B Z f a n Q = R → mm_Ex (d + 4) k_X6_reads 7 (0, 0) [.ref 75, .int (nI t), .int b, .int (nI a), .int (nI n)] [] (hH L xs J s G) K := by
    intro f
    induction f with
    | zero => intro a n Q G h1 h2; omega
    | succ f ih =>
      intro a n Q G h1 h2 h9 hce h22 h92 hr
      have hZG : G 78 t = nI Z := by
        rw [hce.c78, baF_c (by decide)]
        exact hZ
      have hBG : bB G t Z = B := by
        rw [hce.bB, ← hB]
        unfold bB
        rw [baF_c (by decide)]
      rw [rdS] at hr
      refine mm_run 120 (And.intro (fun q => absurd h22 q) (fun _ => ⟨hvt, And.intro (fun q => mm_run 5 (hk _ _ ?_)) (fun q => s_byteAt ht hZG h80 (by omega) (And.intro (fun q2 => s_readsItem ht hZG h80 h22 h9 (by omega) fun G1 hG1 => ?_) (fun q2 => ?_)))⟩))
      · rw [et] at q
        have q : G 78 t ≤ nI a := q
        rw [hZG] at q
        have q := (nI_leI (by omega) (by omega)).mp q
        rw [if_pos q] at hr
        rw [← hr]
        exact ⟨h9, hce, h22⟩
      · rw [et] at q
        have q : ¬ G 78 t ≤ nI a := q
        rw [hZG] at q
        have q : a < Z := Nat.lt_of_not_le fun z => q ((nI_leI (by omega) (by omega)).mpr z)
        rw [hBG] at q2 hG1
        rw [if_neg (by omega), if_neg q2] at hr
        rw [pI_cong h9 h92] at hG1
        obtain ⟨r, hr1⟩ : ∃ r, pI B n (Q 1) a = r := ⟨_, rfl⟩
        rw [hr1] at hG1 hr
        obtain ⟨o1, o2, o3⟩ := hG1
        rcases r with p | ⟨it, e⟩
        · refine And.intro (fun q3 => ?_) (fun q3 => ?_)
          · refine mm_run 60 (And.intro (fun _ => mm_run 5 (hk _ _ ?_)) (fun q4 => absurd q4 q3))
            have hr : (Sum.inl p : Sum Nat (Nat × Rq)) = R := hr
            rw [← hr]
            refine ⟨o3.2, o3.1, fun hb => ?_⟩
            have hce := o1.trans hce
            unfold baF at hce
            rw [if_pos hb] at hce
            exact hce
          · have q3 : G1 75 22 = -9 := q3
            rw [o3.1] at q3
            exact absurd q3 (ne9 (by omega))
        · have hbd := pI_bound hBz h9 hr1
          have hr : rdS B Z f e (n + 1) (qUp Q n it) = R := hr
          have en : (nI n).toNatClampNeg = n := tn_nI (by omega)
          have hvn : vp_in (nI n) 9 := vp_in_nI (by omega) (by decide)
          obtain ⟨G2, hG2⟩ : ∃ G, up2 G1 92 n (it 1) = G := ⟨_, rfl⟩
          have eH : ((93, mU (hH L xs J s G1).2 92 (mI 9 (upd (G1 92) (nI n).toNatClampNeg (G1 91 1)))) : mm_H) = hH L xs J s G2 := (hp1 rfl).trans (hHx fun z => by
            rw [en, o3.2.1 1 (by decide), ← hG2]
            rfl)
          have g2c : CE G2 (baF b F Q n) := by
            rw [← hG2]
            exact (CE.cell (by decide)).trans (o1.trans hce)
          have g222 : G2 75 22 = -9 := by
            rw [← hG2]
            exact o3.1
          have g21 : G2 75 21 = nI e := by
            rw [← hG2]
            exact o3.2.2
          have g91 : ∀ w, w < 6 → G2 91 w = it w := by
            rw [← hG2]
            exact o3.2.1
          have g92 : ∀ i, i < n + 1 → G2 92 i = qUp Q n it 1 i := fun i hi => by
            rw [← hG2]
            show upd (G1 92) n (it 1) i = _
            unfold upd qUp
            by_cases z : i = n
            · rw [if_pos z, if_pos z]
            · rw [if_neg z, if_neg z, o2]
              exact h92 i (by omega)
          have J73 : ∀ G3, CE G3 (baF b F (qUp Q n it) (n + 1)) → G3 75 22 = -9 → G3 75 21 = nI e → (∀ i, i < n + 1 → G3 92 i = qUp Q n it 1 i) → mm_Ex (d + 4) k_X6_reads 73 (0, 0) [.ref 75, .int (nI t), .int b, .int (nI a), .int (nI n)] [] (hH L xs J s G3) K := fun G3 k1 k2 k3 k4 => by
            refine mm_run 60 ?_
            show mm_Ex _ _ 7 _ [.ref 75, .int (nI t), .int b, .int (G3 75 21), .int (nI n + 1)] _ _ _
            rw [k3, nI_1]
            exact ih e (n + 1) _ G3 (by omega) hbd.2.1 (by omega) k1 k2 k4 hr
          refine And.intro (fun q3 => absurd o3.1 q3) (fun _ => ⟨v1, hvn, And.intro (fun q4 => ?_) (fun q4 => ⟨v0, v1, v2, v3, v4, v5, ?_⟩)⟩)
          · refine kx eH (J73 G2 ?_ g222 g21 g92)
            unfold baF at g2c ⊢
            rw [if_pos q4] at g2c ⊢
            exact g2c
          · unfold baF at g2c
            rw [if_neg q4] at g2c
            have gn : G2 75 10 = nI n := g2c.nn
            have eH2 : ((93, mU (mU (hH L xs J s G1).2 92 (mI 9 (upd (G1 92) (nI n).toNatClampNeg (G1 91 1)))) 75 (hc L xs J s 75 (upd (G1 75) 10 (nI n)))) : mm_H) = hH L xs J s G2 := by
              refine (hp2 rfl rfl).trans (hHx fun z => ?_)
              have e1 : upd (G1 92) (nI n).toNatClampNeg (G1 91 1) = upd (G1 92) n (it 1) := by rw [en, o3.2.1 1 (by decide)]
              have e2 : upd (G1 75) 10 (nI n) = G1 75 := fa_upd_same (by
                rw [← hG2] at gn
                exact gn)
              rw [e1, e2, ← hG2]
              unfold up2
              by_cases hz : z = 75
              · subst hz
                rfl
              · simp only [upF, if_neg hz]
            show mm_call mm_Ex (d + 3) k_X6_adds [.ref 75, .int (G1 91 0), .int (G1 91 1), .int (G1 91 2), .int (G1 91 3), .int (G1 91 4), .int (G1 91 5)] _ _
            rw [o3.2.1 0 (by decide), o3.2.1 1 (by decide), o3.2.1 2 (by decide), o3.2.1 3 (by decide), o3.2.1 4 (by decide), o3.2.1 5 (by decide)]
            refine kc eH2 (s_adds gn hbd.2.2 (J73 _ ?_ ?_ ?_ ?_))
            · unfold baF
              rw [if_neg q4]
              exact g2c.adds
            · exact g222
            · exact g21
            · exact g92
      · rw [et] at q
        have q : ¬ G 78 t ≤ nI a := q
        rw [hZG] at q
        have q : a < Z := Nat.lt_of_not_le fun z => q ((nI_leI (by omega) (by omega)).mpr z)
        rw [hBG] at q2
        rw [if_neg (by omega), if_pos q2] at hr
        show mm_Ex _ _ 7 _ [.ref 75, .int (nI t), .int b, .int (nI a + 1), .int (nI n)] _ _ _
        rw [nI_1]
        exact ih (a + 1) n Q G (by omega) (by omega) h9 hce h22 h92 hr
  refine mm_run 60 ?_
  refine kx (hp1 (g := upd (F 75) 22 (-9)) rfl) (P 81 0 0 Q0 (up2 F 75 22 (-9)) (by omega) (by omega) (by omega) ?_ rfl (fun i hi => absurd hi (by omega)) hR)
  refine (CE.up (by decide)).trans ?_
  unfold baF
  split
  · exact CE.rf
  · rename_i hb
    have h10 : F 75 10 = 0 := h0.elim (fun z => absurd z hb) id
    refine ⟨fun k h1 h2 h3 h4 h5 => ?_, fun j h1 h2 h3 h4 h5 => ?_⟩
    · unfold adF
      split
      · rw [fa_fill_0]
      · rfl
    · show F 75 j = upd (F 75) 10 (nI 0) j
      exact (congrFun (fa_upd_same (x := nI 0) h10) j).symm
theorem m_fault (hG : G_sz F) {t : Int32} (hk : ∀ F', CE F' (S_fault F t).2 → K (some (.int (S_fault F t).1)) (hH L xs J s F')) : mm_call mm_Ex (d + 5) k_X6_fault [.ref 75, .int t] (hH L xs J s F) K := by
  unfold S_fault at hk
  dsimp only at hk
  refine mm_run 60 (s_isText (And.intro (fun c => ⟨vpT c, And.intro (fun c2 => ?_) (fun c2 => ?_)⟩) (fun c => ?_)))
  · rw [if_pos (not_not_b c)] at hk
    obtain ⟨k, hk4, rfl⟩ := isText_of c
    have ek : (nI k).toNatClampNeg = k := tn_nI (by omega)
    rw [ek] at c2 hk
    have c2 : 0 ≤ F 78 k := c2
    rw [if_pos c2] at hk
    obtain ⟨Z, hZ, eZ⟩ := sz_pos (hG.2 k hk4) (by decide) c2
    rw [eZ, tn_nI (n := Z) (by omega)] at hk
    refine s_reads hk4 eZ hZ (Or.inl rfl) fun G x hok => ?_
    obtain ⟨r, hr⟩ : ∃ r, rdS (bB F k Z) Z 81 0 0 Q0 = r := ⟨_, rfl⟩
    rw [hr] at hok hk
    show K (some (.int (G 75 22))) (hH L xs J s G)
    rcases r with p | ⟨m, Q⟩
    · rw [hok.2.1]
      exact hk _ (hok.2.2 rfl)
    · rw [hok.2.2]
      exact hk _ hok.2.1
  · rw [if_pos (not_not_b c)] at hk
    have c2 : ¬ 0 ≤ F 78 t.toNatClampNeg := c2
    rw [if_neg c2] at hk
    exact s_finds (w := 1) (by decide) (hk _ CE.rf)
  · rw [if_neg (b2i_0.mp c)] at hk
    exact hk _ CE.rf
theorem m_court (hG : G_sz F) {t : Int32} (hk : ∀ F', CE F' (S_court F t).2 → K (some (.int (S_court F t).1)) (hH L xs J s F')) : mm_call mm_Ex (d + 5) k_X6_court [.ref 75, .int t] (hH L xs J s F) K := by
  unfold S_court at hk
  dsimp only at hk
  refine mm_run 60 (s_isText (And.intro (fun c => ⟨vpT c, And.intro (fun c2 => ?_) (fun c2 => ?_)⟩) (fun c => ?_)))
  · rw [if_pos (not_not_b c)] at hk
    obtain ⟨k, hk4, rfl⟩ := isText_of c
    have ek : (nI k).toNatClampNeg = k := tn_nI (by omega)
    rw [ek] at c2 hk
    have c2 : 0 ≤ F 78 k := c2
    rw [if_pos c2] at hk
    obtain ⟨Z, hZ, eZ⟩ := sz_pos (hG.2 k hk4) (by decide) c2
    rw [eZ, tn_nI (n := Z) (by omega)] at hk
    refine s_reads hk4 eZ hZ (Or.inl rfl) fun G x hok => ?_
    obtain ⟨r, hr⟩ : ∃ r, rdS (bB F k Z) Z 81 0 0 Q0 = r := ⟨_, rfl⟩
    rw [hr] at hok hk
    rcases r with p | ⟨m, Q⟩
    · refine And.intro (fun q => ?_) (fun q => hk _ (hok.2.2 rfl))
      have q : G 75 22 = -9 := q
      rw [hok.2.1] at q
      have := hok.1
      exact absurd q (ne9 (by omega))
    · have hce : CE G F := hok.2.1
      refine And.intro (fun _ => ?_) (fun q => absurd hok.2.2 q)
      show mm_call mm_Ex (d + 4) k_X6_reads [.ref 75, .int (nI k), .int 1] _ _
      refine kc (hp1 (g := upd (G 75) 10 0) rfl) (s_reads (F := up2 G 75 10 0) hk4 ?_ hZ (Or.inr rfl) fun G2 x hok2 => ?_)
      · show G 78 k = nI Z
        rw [hce.c78]
        exact eZ
      · have eb : bB (up2 G 75 10 0) k Z = bB F k Z := by
          show bB G k Z = _
          exact hce.bB
        rw [eb, hr] at hok2
        have hc2 : CE G2 (adF (up2 G 75 10 0) Q m) := hok2.2.1
        have e10 : G2 75 10 = nI m := hc2.nn
        have e88 : G2 88 = F 88 := (hc2.1 88 (by decide) (by decide) (by decide) (by decide) (by decide)).trans (hce.1 88 (by decide) (by decide) (by decide) (by decide) (by decide))
        have hc3 : CE G2 (adF F Q m) := by
          refine hc2.trans ⟨fun a h1 h2 h3 h4 h5 => ?_, fun j h1 h2 h3 h4 h5 => ?_⟩
          · have e : G a = F a := hce.1 a h1 h2 h3 h4 h5
            have e2 : up2 G 75 10 0 a = F a := (if_neg h1).trans e
            unfold adF
            rw [e2, if_neg h1, if_neg h1]
          · show upd (upd (G 75) 10 0) 10 (nI m) j = upd (F 75) 10 (nI m) j
            rw [fa_upd_twice]
            unfold upd
            split
            · rfl
            · exact hce.2 j h1 h2 h3 h4 h5
        refine lp (n := 3) (P := fun i => ∀ x h, x = nI i → h = hH L xs J s (upF G2 88 (fil (F 88) 0 i (-9))) → mm_Ex (d + 5) k_X6_court 35 (0, 0) [.ref 75, .int (nI k), .int x] [] h K) ?_ ?_ 0 _ rfl ?_
        · intro x h hx hh
          subst hx hh
          refine mm_run 60 (And.intro (fun _ => ?_) (fun q => absurd (show (3 : Int32) ≤ nI 3 by decide) q))
          show K (some (.int (G2 75 10))) _
          rw [e10]
          exact hk _ (hc3.upF (by decide) _)
        · intro i hi ih x h hx hh
          subst hx hh
          refine mm_run 60 (And.intro (fun q => absurd q (nleI (b := 3) hi (by decide))) (fun _ => ⟨vp_in_nI hi (by decide), ih _ _ (nI_1 i) ?_⟩))
          refine (hp1 (g := upd (fil (F 88) 0 i (-9)) (nI i).toNatClampNeg (-9)) rfl).trans (hHx fun a => ?_)
          rw [upF_same, tn_nI (by omega)]
          have := fil_s (f := F 88) (lo := 0) (n := i) (v := -9)
          rw [Nat.zero_add] at this
          rw [this]
        · refine hHx fun a => ?_
          rw [fil_0, ← e88, upF_id]
  · rw [if_pos (not_not_b c)] at hk
    have c2 : ¬ 0 ≤ F 78 t.toNatClampNeg := c2
    rw [if_neg c2] at hk
    exact s_finds (w := 1) (by decide) (hk _ CE.rf)
  · rw [if_neg (b2i_0.mp c)] at hk
    exact hk _ CE.rf
end MTx
