/-! each call, of the class and of the reference -/
section LO
variable {L s : Nat} {xs : Nat → Int32} {J : Nat → Int64} {F : Nat → Nat → Int32} {K : mm_K}
theorem l_odds (hI : INV F J) {a : Int32} (hk : ∀ v F1 J1 s1, (∀ K2 : mm_K, (∀ F2 J2 s2, INV F2 J2 → K2 (some (.int v)) (hH L xs J2 s2 F2)) → mm_call mm_Ex 9 k_X6_odds [.ref 75, .int a] (hH L xs J1 s1 F1) K2) → K (some (.int v)) (hH L xs J1 s1 F1)) : mm_call mm_Ex 9 k_X5_odds [.ref 2, .int a] (hH L xs J s F) K := by
  obtain ⟨hx, ⟨n, hn, hc⟩, hkw, ⟨n0, hn0, hd⟩, hJ⟩ := hI
  have h9 := hc.1
  refine x_odds hx hn hc hJ (fun F1 J1 hT j0 j1 j2 j3 => ?_)
  obtain ⟨eF, hn1, hc1, hG, hK⟩ := side hx (fun k hk => hT.1 k (Or.inl hk)) hn hc
  have hnt := n_odds (X := F1) (F := F) (J := J1) (i := a)
  rw [eF] at hnt
  have hJJ : (S_odds F J1 a).1 = (S_odds F J a).1 ∧ (S_odds F J1 a).2.1 = (S_odds F J a).2.1 ∧ (S_odds F J1 a).2.2 2 = J1 0 ∧ (S_odds F J1 a).2.2 3 = J1 1 ∧ (S_odds F J1 a).2.2 0 = J1 0 ∧ (S_odds F J1 a).2.2 1 = J1 1 := by
    rw [j0, j1]
    unfold S_odds at j0 j1 ⊢
    dsimp only at j0 j1 ⊢
    split
    · split
      · rename_i c1 c2
        rw [if_pos c1, if_pos c2] at j0 j1
        exact ⟨rfl, rfl, j2, j3, j0, j1⟩
      · rename_i c1 c2
        rw [if_pos c1, if_neg c2] at j0 j1
        exact ⟨rfl, rfl, rfl, rfl, j0, j1⟩
    · rename_i c1
      rw [if_neg c1] at j0 j1
      exact ⟨rfl, rfl, j2, j3, j0, j1⟩
  refine hk _ F1 J1 s (fun K2 h2 => m_odds hn1 hc1 (fun F2 hce => ?_))
  rw [hnt] at hce ⊢
  rw [hJJ.1]
  refine h2 F2 _ s (inv_next (hT.two hn0 hd) ?_ (by rw [← hJJ.2.1]; exact hce) ⟨by rw [hJJ.2.2.2.2.1]; exact hJJ.2.2.1.symm, by rw [hJJ.2.2.2.2.2]; exact hJJ.2.2.2.1.symm⟩)
  have hw : W2 F := ⟨⟨n, hn, hc⟩, hkw⟩
  unfold S_odds
  dsimp only
  split
  · split
    · exact hw.fi
    · exact hw
  · exact hw
theorem l_row (hI : INV F J) {a b : Int32} (hk : ∀ v F1 s1, (∀ K2 : mm_K, (∀ F2 s2, INV F2 J → K2 (some (.int v)) (hH L xs J s2 F2)) → mm_call mm_Ex 9 k_X6_row [.ref 75, .int a, .int b] (hH L xs J s1 F1) K2) → K (some (.int v)) (hH L xs J s1 F1)) : mm_call mm_Ex 9 k_X5_row [.ref 2, .int a, .int b] (hH L xs J s F) K := by
  obtain ⟨hx, ⟨n, hn, hc⟩, hkw, ⟨n0, hn0, hd⟩, hJ⟩ := hI
  have h9 := hc.1
  have hw : W2 F := ⟨⟨n, hn, hc⟩, hkw⟩
  refine x_row hx (fun F1 hT => ?_)
  obtain ⟨eF, hn1, hc1, hG, hK⟩ := side hx (fun k hk => hT.1 k (Or.inl hk)) hn hc
  have hT2 := hT.two hn0 hd
  have hW : W2 (S_row F a b).2 := w_row hw
  obtain ⟨P, hP⟩ : ∃ P, S_row F a b = P := ⟨_, rfl⟩
  rw [hP] at hT2 hW ⊢
  have hnt : S_row F1 a b = (P.1, cm F1 P.2) := by
    have h : NT F1 (S_row F a b) (S_row (cm F1 F) a b) := n_row
    unfold NT at h
    rw [eF, hP] at h
    exact h
  refine hk _ F1 s (fun K2 h2 => m_row  ?_)
  rw [hnt]
  exact h2 _ s (inv_next hT2 hW CE.rf hJ)
theorem l_lay (hI : INV F J) {a b c : Int32} (hk : ∀ v F1 s1, (∀ K2 : mm_K, (∀ F2 s2, INV F2 J → K2 (some (.int v)) (hH L xs J s2 F2)) → mm_call mm_Ex 9 k_X6_lay [.ref 75, .int a, .int b, .int c] (hH L xs J s1 F1) K2) → K (some (.int v)) (hH L xs J s1 F1)) : mm_call mm_Ex 9 k_X5_lay [.ref 2, .int a, .int b, .int c] (hH L xs J s F) K := by
  obtain ⟨hx, ⟨n, hn, hc⟩, hkw, ⟨n0, hn0, hd⟩, hJ⟩ := hI
  have h9 := hc.1
  have hw : W2 F := ⟨⟨n, hn, hc⟩, hkw⟩
  refine x_lay hx (fun F1 hT => ?_)
  obtain ⟨eF, hn1, hc1, hG, hK⟩ := side hx (fun k hk => hT.1 k (Or.inl hk)) hn hc
  have hT2 := hT.two hn0 hd
  have hW : W2 (S_lay F a b c).2 := w_lay hw
  obtain ⟨P, hP⟩ : ∃ P, S_lay F a b c = P := ⟨_, rfl⟩
  rw [hP] at hT2 hW ⊢
  have hnt : S_lay F1 a b c = (P.1, cm F1 P.2) := by
    have h : NT F1 (S_lay F a b c) (S_lay (cm F1 F) a b c) := n_lay
    unfold NT at h
    rw [eF, hP] at h
    exact h
  refine hk _ F1 s (fun K2 h2 => m_lay hG ?_)
  rw [hnt]
  exact h2 _ s (inv_next hT2 hW CE.rf hJ)
theorem l_at (hI : INV F J) {a b : Int32} (hk : ∀ v F1 s1, (∀ K2 : mm_K, (∀ F2 s2, INV F2 J → K2 (some (.int v)) (hH L xs J s2 F2)) → mm_call mm_Ex 9 k_X6_at [.ref 75, .int a, .int b] (hH L xs J s1 F1) K2) → K (some (.int v)) (hH L xs J s1 F1)) : mm_call mm_Ex 9 k_X5_at [.ref 2, .int a, .int b] (hH L xs J s F) K := by
  obtain ⟨hx, ⟨n, hn, hc⟩, hkw, ⟨n0, hn0, hd⟩, hJ⟩ := hI
  have h9 := hc.1
  have hw : W2 F := ⟨⟨n, hn, hc⟩, hkw⟩
  refine x_at hx (fun F1 hT => ?_)
  obtain ⟨eF, hn1, hc1, hG, hK⟩ := side hx (fun k hk => hT.1 k (Or.inl hk)) hn hc
  have hT2 := hT.two hn0 hd
  have hW : W2 (S_at F a b).2 := w_at hw
  obtain ⟨P, hP⟩ : ∃ P, S_at F a b = P := ⟨_, rfl⟩
  rw [hP] at hT2 hW ⊢
  have hnt : S_at F1 a b = (P.1, cm F1 P.2) := by
    have h : NT F1 (S_at F a b) (S_at (cm F1 F) a b) := n_at
    unfold NT at h
    rw [eF, hP] at h
    exact h
  refine hk _ F1 s (fun K2 h2 => m_at hG ?_)
  rw [hnt]
  exact h2 _ s (inv_next hT2 hW CE.rf hJ)
theorem l_tear (hI : INV F J) {a : Int32} (hk : ∀ v F1 s1, (∀ K2 : mm_K, (∀ F2 s2, INV F2 J → K2 (some (.int v)) (hH L xs J s2 F2)) → mm_call mm_Ex 9 k_X6_tear [.ref 75, .int a] (hH L xs J s1 F1) K2) → K (some (.int v)) (hH L xs J s1 F1)) : mm_call mm_Ex 9 k_X5_tear [.ref 2, .int a] (hH L xs J s F) K := by
  obtain ⟨hx, ⟨n, hn, hc⟩, hkw, ⟨n0, hn0, hd⟩, hJ⟩ := hI
  have h9 := hc.1
  have hw : W2 F := ⟨⟨n, hn, hc⟩, hkw⟩
  refine x_tear hx (fun F1 hT => ?_)
  obtain ⟨eF, hn1, hc1, hG, hK⟩ := side hx (fun k hk => hT.1 k (Or.inl hk)) hn hc
  have hT2 := hT.two hn0 hd
  have hW : W2 (S_tear F a).2 := w_tear hw
  obtain ⟨P, hP⟩ : ∃ P, S_tear F a = P := ⟨_, rfl⟩
  rw [hP] at hT2 hW ⊢
  have hnt : S_tear F1 a = (P.1, cm F1 P.2) := by
    have h : NT F1 (S_tear F a) (S_tear (cm F1 F) a) := n_tear
    unfold NT at h
    rw [eF, hP] at h
    exact h
  refine hk _ F1 s (fun K2 h2 => m_tear  ?_)
  rw [hnt]
  exact h2 _ s (inv_next hT2 hW CE.rf hJ)
theorem l_copy (hI : INV F J) {a b c e f : Int32} (hk : ∀ v F1 s1, (∀ K2 : mm_K, (∀ F2 s2, INV F2 J → K2 (some (.int v)) (hH L xs J s2 F2)) → mm_call mm_Ex 9 k_X6_copy [.ref 75, .int a, .int b, .int c, .int e, .int f] (hH L xs J s1 F1) K2) → K (some (.int v)) (hH L xs J s1 F1)) : mm_call mm_Ex 9 k_X5_copy [.ref 2, .int a, .int b, .int c, .int e, .int f] (hH L xs J s F) K := by
  obtain ⟨hx, ⟨n, hn, hc⟩, hkw, ⟨n0, hn0, hd⟩, hJ⟩ := hI
  have h9 := hc.1
  have hw : W2 F := ⟨⟨n, hn, hc⟩, hkw⟩
  refine x_copy hx (fun F1 hT => ?_)
  obtain ⟨eF, hn1, hc1, hG, hK⟩ := side hx (fun k hk => hT.1 k (Or.inl hk)) hn hc
  have hT2 := hT.two hn0 hd
  have hW : W2 (S_copy F a b c e f).2 := w_copy hw
  obtain ⟨P, hP⟩ : ∃ P, S_copy F a b c e f = P := ⟨_, rfl⟩
  rw [hP] at hT2 hW ⊢
  have hnt : S_copy F1 a b c e f = (P.1, cm F1 P.2) := by
    have h : NT F1 (S_copy F a b c e f) (S_copy (cm F1 F) a b c e f) := n_copy
    unfold NT at h
    rw [eF, hP] at h
    exact h
  refine hk _ F1 s (fun K2 h2 => m_copy hG (fun F2 hce _ => ?_))
  rw [hnt] at hce ⊢
  exact h2 F2 s (inv_next hT2 hW hce hJ)
theorem l_mean (hI : INV F J) {a : Int32} (hk : ∀ v F1 s1, (∀ K2 : mm_K, (∀ F2 s2, INV F2 J → K2 (some (.int v)) (hH L xs J s2 F2)) → mm_call mm_Ex 9 k_X6_mean [.ref 75, .int a] (hH L xs J s1 F1) K2) → K (some (.int v)) (hH L xs J s1 F1)) : mm_call mm_Ex 9 k_X5_mean [.ref 2, .int a] (hH L xs J s F) K := by
  obtain ⟨hx, ⟨n, hn, hc⟩, hkw, ⟨n0, hn0, hd⟩, hJ⟩ := hI
  have h9 := hc.1
  have hw : W2 F := ⟨⟨n, hn, hc⟩, hkw⟩
  refine x_mean hx (fun F1 hT => ?_)
  obtain ⟨eF, hn1, hc1, hG, hK⟩ := side hx (fun k hk => hT.1 k (Or.inl hk)) hn hc
  have hT2 := hT.two hn0 hd
  have hW : W2 (S_mean F a).2 := w_mean hw
  obtain ⟨P, hP⟩ : ∃ P, S_mean F a = P := ⟨_, rfl⟩
  rw [hP] at hT2 hW ⊢
  have hnt : S_mean F1 a = (P.1, cm F1 P.2) := by
    have h : NT F1 (S_mean F a) (S_mean (cm F1 F) a) := n_mean
    unfold NT at h
    rw [eF, hP] at h
    exact h
  refine hk _ F1 s (fun K2 h2 => m_mean hG ?_)
  rw [hnt]
  exact h2 _ s (inv_next hT2 hW CE.rf hJ)
theorem l_text (hI : INV F J) {a b : Int32} (hk : ∀ v F1 s1, (∀ K2 : mm_K, (∀ F2 s2, INV F2 J → K2 (some (.int v)) (hH L xs J s2 F2)) → mm_call mm_Ex 9 k_X6_text [.ref 75, .int a, .int b] (hH L xs J s1 F1) K2) → K (some (.int v)) (hH L xs J s1 F1)) : mm_call mm_Ex 9 k_X5_text [.ref 2, .int a, .int b] (hH L xs J s F) K := by
  obtain ⟨hx, ⟨n, hn, hc⟩, hkw, ⟨n0, hn0, hd⟩, hJ⟩ := hI
  have h9 := hc.1
  have hw : W2 F := ⟨⟨n, hn, hc⟩, hkw⟩
  refine x_text hx (fun F1 hT => ?_)
  obtain ⟨eF, hn1, hc1, hG, hK⟩ := side hx (fun k hk => hT.1 k (Or.inl hk)) hn hc
  have hT2 := hT.two hn0 hd
  have hW : W2 (S_text F a b).2 := w_text hw
  obtain ⟨P, hP⟩ : ∃ P, S_text F a b = P := ⟨_, rfl⟩
  rw [hP] at hT2 hW ⊢
  have hnt : S_text F1 a b = (P.1, cm F1 P.2) := by
    have h : NT F1 (S_text F a b) (S_text (cm F1 F) a b) := n_text
    unfold NT at h
    rw [eF, hP] at h
    exact h
  refine hk _ F1 s (fun K2 h2 => m_text  ?_)
  rw [hnt]
  exact h2 _ s (inv_next hT2 hW CE.rf hJ)
theorem l_put (hI : INV F J) {a b c : Int32} (hk : ∀ v F1 s1, (∀ K2 : mm_K, (∀ F2 s2, INV F2 J → K2 (some (.int v)) (hH L xs J s2 F2)) → mm_call mm_Ex 9 k_X6_put [.ref 75, .int a, .int b, .int c] (hH L xs J s1 F1) K2) → K (some (.int v)) (hH L xs J s1 F1)) : mm_call mm_Ex 9 k_X5_put [.ref 2, .int a, .int b, .int c] (hH L xs J s F) K := by
  obtain ⟨hx, ⟨n, hn, hc⟩, hkw, ⟨n0, hn0, hd⟩, hJ⟩ := hI
  have h9 := hc.1
  have hw : W2 F := ⟨⟨n, hn, hc⟩, hkw⟩
  refine x_put hx (fun F1 hT => ?_)
  obtain ⟨eF, hn1, hc1, hG, hK⟩ := side hx (fun k hk => hT.1 k (Or.inl hk)) hn hc
  have hT2 := hT.two hn0 hd
  have hW : W2 (S_put F a b c).2 := w_put hw
  obtain ⟨P, hP⟩ : ∃ P, S_put F a b c = P := ⟨_, rfl⟩
  rw [hP] at hT2 hW ⊢
  have hnt : S_put F1 a b c = (P.1, cm F1 P.2) := by
    have h : NT F1 (S_put F a b c) (S_put (cm F1 F) a b c) := n_put
    unfold NT at h
    rw [eF, hP] at h
    exact h
  refine hk _ F1 s (fun K2 h2 => m_put hG ?_)
  rw [hnt]
  exact h2 _ s (inv_next hT2 hW CE.rf hJ)
theorem l_fault (hI : INV F J) {a : Int32} (hk : ∀ v F1 s1, (∀ K2 : mm_K, (∀ F2 s2, INV F2 J → K2 (some (.int v)) (hH L xs J s2 F2)) → mm_call mm_Ex 9 k_X6_fault [.ref 75, .int a] (hH L xs J s1 F1) K2) → K (some (.int v)) (hH L xs J s1 F1)) : mm_call mm_Ex 9 k_X5_fault [.ref 2, .int a] (hH L xs J s F) K := by
  obtain ⟨hx, ⟨n, hn, hc⟩, hkw, ⟨n0, hn0, hd⟩, hJ⟩ := hI
  have h9 := hc.1
  have hw : W2 F := ⟨⟨n, hn, hc⟩, hkw⟩
  refine x_fault hx hd hn0 (fun F1 s1 hT => ?_)
  obtain ⟨eF, hn1, hc1, hG, hK⟩ := side hx hT.1 hn hc
  have hT2 := hT
  have hW : W2 (S_fault F a).2 := w_fault hw
  obtain ⟨P, hP⟩ : ∃ P, S_fault F a = P := ⟨_, rfl⟩
  rw [hP] at hT2 hW ⊢
  have hnt : S_fault F1 a = (P.1, cm F1 P.2) := by
    have h : NT F1 (S_fault F a) (S_fault (cm F1 F) a) := n_fault
    unfold NT at h
    rw [eF, hP] at h
    exact h
  refine hk _ F1 s1 (fun K2 h2 => m_fault hG (fun F2 hce => ?_))
  rw [hnt] at hce ⊢
  exact h2 F2 s1 (inv_next hT2 hW hce hJ)
theorem l_court (hI : INV F J) {a : Int32} (hk : ∀ v F1 s1, (∀ K2 : mm_K, (∀ F2 s2, INV F2 J → K2 (some (.int v)) (hH L xs J s2 F2)) → mm_call mm_Ex 9 k_X6_court [.ref 75, .int a] (hH L xs J s1 F1) K2) → K (some (.int v)) (hH L xs J s1 F1)) : mm_call mm_Ex 9 k_X5_court [.ref 2, .int a] (hH L xs J s F) K := by
  obtain ⟨hx, ⟨n, hn, hc⟩, hkw, ⟨n0, hn0, hd⟩, hJ⟩ := hI
  have h9 := hc.1
  have hw : W2 F := ⟨⟨n, hn, hc⟩, hkw⟩
  refine x_court hx hd hn0 (fun F1 s1 hT => ?_)
  obtain ⟨eF, hn1, hc1, hG, hK⟩ := side hx hT.1 hn hc
  have hT2 := hT
  have hW : W2 (S_court F a).2 := w_court hw
  obtain ⟨P, hP⟩ : ∃ P, S_court F a = P := ⟨_, rfl⟩
  rw [hP] at hT2 hW ⊢
  have hnt : S_court F1 a = (P.1, cm F1 P.2) := by
    have h : NT F1 (S_court F a) (S_court (cm F1 F) a) := n_court
    unfold NT at h
    rw [eF, hP] at h
    exact h
  refine hk _ F1 s1 (fun K2 h2 => m_court hG (fun F2 hce => ?_))
  rw [hnt] at hce ⊢
  exact h2 F2 s1 (inv_next hT2 hW hce hJ)
theorem l_ruling (hI : INV F J) {a b : Int32} (hk : ∀ v F1 s1, (∀ K2 : mm_K, (∀ F2 s2, INV F2 J → K2 (some (.int v)) (hH L xs J s2 F2)) → mm_call mm_Ex 9 k_X6_ruling [.ref 75, .int a, .int b] (hH L xs J s1 F1) K2) → K (some (.int v)) (hH L xs J s1 F1)) : mm_call mm_Ex 9 k_X5_ruling [.ref 2, .int a, .int b] (hH L xs J s F) K := by
  obtain ⟨hx, ⟨n, hn, hc⟩, hkw, ⟨n0, hn0, hd⟩, hJ⟩ := hI
  have h9 := hc.1
  have hw : W2 F := ⟨⟨n, hn, hc⟩, hkw⟩
  refine x_ruling hx hn hc (fun F1 hT => ?_)
  obtain ⟨eF, hn1, hc1, hG, hK⟩ := side hx (fun k hk => hT.1 k (Or.inl hk)) hn hc
  have hT2 := hT.two hn0 hd
  have hW : W2 (S_ruling F a b).2 := w_ruling hw
  obtain ⟨P, hP⟩ : ∃ P, S_ruling F a b = P := ⟨_, rfl⟩
  rw [hP] at hT2 hW ⊢
  have hnt : S_ruling F1 a b = (P.1, cm F1 P.2) := by
    have h : NT F1 (S_ruling F a b) (S_ruling (cm F1 F) a b) := n_ruling
    unfold NT at h
    rw [eF, hP] at h
    exact h
  refine hk _ F1 s (fun K2 h2 => m_ruling hn1 h9 ?_)
  rw [hnt]
  exact h2 _ s (inv_next hT2 hW CE.rf hJ)
theorem l_mark (hI : INV F J) {a b : Int32} (hk : ∀ v F1 s1, (∀ K2 : mm_K, (∀ F2 s2, INV F2 J → K2 (some (.int v)) (hH L xs J s2 F2)) → mm_call mm_Ex 9 k_X6_mark [.ref 75, .int a, .int b] (hH L xs J s1 F1) K2) → K (some (.int v)) (hH L xs J s1 F1)) : mm_call mm_Ex 9 k_X5_mark [.ref 2, .int a, .int b] (hH L xs J s F) K := by
  obtain ⟨hx, ⟨n, hn, hc⟩, hkw, ⟨n0, hn0, hd⟩, hJ⟩ := hI
  have h9 := hc.1
  have hw : W2 F := ⟨⟨n, hn, hc⟩, hkw⟩
  refine x_mark hx hn hc (fun F1 hT => ?_)
  obtain ⟨eF, hn1, hc1, hG, hK⟩ := side hx (fun k hk => hT.1 k (Or.inl hk)) hn hc
  have hT2 := hT.two hn0 hd
  have hW : W2 (S_mark F a b).2 := w_mark hw
  obtain ⟨P, hP⟩ : ∃ P, S_mark F a b = P := ⟨_, rfl⟩
  rw [hP] at hT2 hW ⊢
  have hnt : S_mark F1 a b = (P.1, cm F1 P.2) := by
    have h : NT F1 (S_mark F a b) (S_mark (cm F1 F) a b) := n_mark
    unfold NT at h
    rw [eF, hP] at h
    exact h
  refine hk _ F1 s (fun K2 h2 => m_mark hn1 hc1 (fun F2 hce => ?_))
  rw [hnt] at hce ⊢
  exact h2 F2 s (inv_next hT2 hW hce hJ)
theorem l_reverse (hI : INV F J) {a b : Int32} (hk : ∀ v F1 s1, (∀ K2 : mm_K, (∀ F2 s2, INV F2 J → K2 (some (.int v)) (hH L xs J s2 F2)) → mm_call mm_Ex 9 k_X6_reverse [.ref 75, .int a, .int b] (hH L xs J s1 F1) K2) → K (some (.int v)) (hH L xs J s1 F1)) : mm_call mm_Ex 9 k_X5_reverse [.ref 2, .int a, .int b] (hH L xs J s F) K := by
  obtain ⟨hx, ⟨n, hn, hc⟩, hkw, ⟨n0, hn0, hd⟩, hJ⟩ := hI
  have h9 := hc.1
  have hw : W2 F := ⟨⟨n, hn, hc⟩, hkw⟩
  refine x_reverse hx hn hc (fun F1 hT => ?_)
  obtain ⟨eF, hn1, hc1, hG, hK⟩ := side hx (fun k hk => hT.1 k (Or.inl hk)) hn hc
  have hT2 := hT.two hn0 hd
  have hW : W2 (S_reverse F a b).2 := w_reverse hw
  obtain ⟨P, hP⟩ : ∃ P, S_reverse F a b = P := ⟨_, rfl⟩
  rw [hP] at hT2 hW ⊢
  have hnt : S_reverse F1 a b = (P.1, cm F1 P.2) := by
    have h : NT F1 (S_reverse F a b) (S_reverse (cm F1 F) a b) := n_reverse
    unfold NT at h
    rw [eF, hP] at h
    exact h
  refine hk _ F1 s (fun K2 h2 => m_reverse hn1 h9 ?_)
  rw [hnt]
  exact h2 _ s (inv_next hT2 hW CE.rf hJ)
theorem l_marks (hI : INV F J) {a b : Int32} (hk : ∀ v F1 s1, (∀ K2 : mm_K, (∀ F2 s2, INV F2 J → K2 (some (.int v)) (hH L xs J s2 F2)) → mm_call mm_Ex 9 k_X6_marks [.ref 75, .int a, .int b] (hH L xs J s1 F1) K2) → K (some (.int v)) (hH L xs J s1 F1)) : mm_call mm_Ex 9 k_X5_marks [.ref 2, .int a, .int b] (hH L xs J s F) K := by
  obtain ⟨hx, ⟨n, hn, hc⟩, hkw, ⟨n0, hn0, hd⟩, hJ⟩ := hI
  have h9 := hc.1
  have hw : W2 F := ⟨⟨n, hn, hc⟩, hkw⟩
  refine x_marks hx hn hc (fun F1 hT => ?_)
  obtain ⟨eF, hn1, hc1, hG, hK⟩ := side hx (fun k hk => hT.1 k (Or.inl hk)) hn hc
  have hT2 := hT.two hn0 hd
  have hW : W2 (S_marks F a b).2 := w_marks hw
  obtain ⟨P, hP⟩ : ∃ P, S_marks F a b = P := ⟨_, rfl⟩
  rw [hP] at hT2 hW ⊢
  have hnt : S_marks F1 a b = (P.1, cm F1 P.2) := by
    have h : NT F1 (S_marks F a b) (S_marks (cm F1 F) a b) := n_marks
    unfold NT at h
    rw [eF, hP] at h
    exact h
  refine hk _ F1 s (fun K2 h2 => m_marks hn1 h9 ?_)
  rw [hnt]
  exact h2 _ s (inv_next hT2 hW CE.rf hJ)
theorem l_file (hI : INV F J) {a b c e f : Int32} (hk : ∀ v F1 s1, (∀ K2 : mm_K, (∀ F2 s2, INV F2 J → K2 (some (.int v)) (hH L xs J s2 F2)) → mm_call mm_Ex 9 k_X6_file [.ref 75, .int a, .int b, .int c, .int e, .int f] (hH L xs J s1 F1) K2) → K (some (.int v)) (hH L xs J s1 F1)) : mm_call mm_Ex 9 k_X5_file [.ref 2, .int a, .int b, .int c, .int e, .int f] (hH L xs J s F) K := by
  obtain ⟨hx, ⟨n, hn, hc⟩, hkw, ⟨n0, hn0, hd⟩, hJ⟩ := hI
  have h9 := hc.1
  have hw : W2 F := ⟨⟨n, hn, hc⟩, hkw⟩
  refine x_file hx hn hc (fun F1 hT => ?_)
  obtain ⟨eF, hn1, hc1, hG, hK⟩ := side hx (fun k hk => hT.1 k (Or.inl hk)) hn hc
  have hT2 := hT.two hn0 hd
  have hW : W2 (S_file F a b c e f).2 := w_file hw
  obtain ⟨P, hP⟩ : ∃ P, S_file F a b c e f = P := ⟨_, rfl⟩
  rw [hP] at hT2 hW ⊢
  have hnt : S_file F1 a b c e f = (P.1, cm F1 P.2) := by
    have h : NT F1 (S_file F a b c e f) (S_file (cm F1 F) a b c e f) := n_file
    unfold NT at h
    rw [eF, hP] at h
    exact h
  refine hk _ F1 s (fun K2 h2 => m_file hn1 h9 ?_)
  rw [hnt]
  exact h2 _ s (inv_next hT2 hW CE.rf hJ)
theorem l_strike (hI : INV F J) {a : Int32} (hk : ∀ v F1 s1, (∀ K2 : mm_K, (∀ F2 s2, INV F2 J → K2 (some (.int v)) (hH L xs J s2 F2)) → mm_call mm_Ex 9 k_X6_strike [.ref 75, .int a] (hH L xs J s1 F1) K2) → K (some (.int v)) (hH L xs J s1 F1)) : mm_call mm_Ex 9 k_X5_strike [.ref 2, .int a] (hH L xs J s F) K := by
  obtain ⟨hx, ⟨n, hn, hc⟩, hkw, ⟨n0, hn0, hd⟩, hJ⟩ := hI
  have h9 := hc.1
  have hw : W2 F := ⟨⟨n, hn, hc⟩, hkw⟩
  refine x_strike hx hn hc (fun F1 hT => ?_)
  obtain ⟨eF, hn1, hc1, hG, hK⟩ := side hx (fun k hk => hT.1 k (Or.inl hk)) hn hc
  have hT2 := hT.two hn0 hd
  have hW : W2 (S_strike F a).2 := w_strike hw
  obtain ⟨P, hP⟩ : ∃ P, S_strike F a = P := ⟨_, rfl⟩
  rw [hP] at hT2 hW ⊢
  have hnt : S_strike F1 a = (P.1, cm F1 P.2) := by
    have h : NT F1 (S_strike F a) (S_strike (cm F1 F) a) := n_strike
    unfold NT at h
    rw [eF, hP] at h
    exact h
  refine hk _ F1 s (fun K2 h2 => m_strike hn1 hc1 ?_)
  rw [hnt]
  exact h2 _ s (inv_next hT2 hW CE.rf hJ)
theorem l_keep (hI : INV F J) {a : Int32} (hk : ∀ v F1 s1, (∀ K2 : mm_K, (∀ F2 s2, INV F2 J → K2 (some (.int v)) (hH L xs J s2 F2)) → mm_call mm_Ex 9 k_X6_keep [.ref 75, .int a] (hH L xs J s1 F1) K2) → K (some (.int v)) (hH L xs J s1 F1)) : mm_call mm_Ex 9 k_X5_keep [.ref 2, .int a] (hH L xs J s F) K := by
  obtain ⟨hx, ⟨n, hn, hc⟩, hkw, ⟨n0, hn0, hd⟩, hJ⟩ := hI
  have h9 := hc.1
  have hw : W2 F := ⟨⟨n, hn, hc⟩, hkw⟩
  refine x_keep hx hn hc (fun F1 hT => ?_)
  obtain ⟨eF, hn1, hc1, hG, hK⟩ := side hx (fun k hk => hT.1 k (Or.inl hk)) hn hc
  have hT2 := hT.two hn0 hd
  have hW : W2 (S_keep F a).2 := w_keep hw
  obtain ⟨P, hP⟩ : ∃ P, S_keep F a = P := ⟨_, rfl⟩
  rw [hP] at hT2 hW ⊢
  have hnt : S_keep F1 a = (P.1, cm F1 P.2) := by
    have h : NT F1 (S_keep F a) (S_keep (cm F1 F) a) := n_keep
    unfold NT at h
    rw [eF, hP] at h
    exact h
  refine hk _ F1 s (fun K2 h2 => m_keep hn1 h9 ?_)
  rw [hnt]
  exact h2 _ s (inv_next hT2 hW CE.rf hJ)
theorem l_on (hI : INV F J) {a : Int32} (hk : ∀ v F1 s1, (∀ K2 : mm_K, (∀ F2 s2, INV F2 J → K2 (some (.int v)) (hH L xs J s2 F2)) → mm_call mm_Ex 9 k_X6_on [.ref 75, .int a] (hH L xs J s1 F1) K2) → K (some (.int v)) (hH L xs J s1 F1)) : mm_call mm_Ex 9 k_X5_on [.ref 2, .int a] (hH L xs J s F) K := by
  obtain ⟨hx, ⟨n, hn, hc⟩, hkw, ⟨n0, hn0, hd⟩, hJ⟩ := hI
  have h9 := hc.1
  have hw : W2 F := ⟨⟨n, hn, hc⟩, hkw⟩
  refine x_on hx hn hc (fun F1 hT => ?_)
  obtain ⟨eF, hn1, hc1, hG, hK⟩ := side hx (fun k hk => hT.1 k (Or.inl hk)) hn hc
  have hT2 := hT.two hn0 hd
  have hW : W2 (S_on F a).2 := w_on hw hx
  obtain ⟨P, hP⟩ : ∃ P, S_on F a = P := ⟨_, rfl⟩
  rw [hP] at hT2 hW ⊢
  have hnt : S_on F1 a = (P.1, cm F1 P.2) := by
    have h : NT F1 (S_on F a) (S_on (cm F1 F) a) := n_on
    unfold NT at h
    rw [eF, hP] at h
    exact h
  refine hk _ F1 s (fun K2 h2 => m_on hK ?_)
  rw [hnt]
  exact h2 _ s (inv_next hT2 hW CE.rf hJ)
theorem l_due (hI : INV F J) {a : Int32} (hk : ∀ v F1 s1, (∀ K2 : mm_K, (∀ F2 s2, INV F2 J → K2 (some (.int v)) (hH L xs J s2 F2)) → mm_call mm_Ex 9 k_X6_due [.ref 75, .int a] (hH L xs J s1 F1) K2) → K (some (.int v)) (hH L xs J s1 F1)) : mm_call mm_Ex 9 k_X5_due [.ref 2, .int a] (hH L xs J s F) K := by
  obtain ⟨hx, ⟨n, hn, hc⟩, hkw, ⟨n0, hn0, hd⟩, hJ⟩ := hI
  have h9 := hc.1
  have hw : W2 F := ⟨⟨n, hn, hc⟩, hkw⟩
  refine x_due hx hn hc (fun F1 hT => ?_)
  obtain ⟨eF, hn1, hc1, hG, hK⟩ := side hx (fun k hk => hT.1 k (Or.inl hk)) hn hc
  have hT2 := hT.two hn0 hd
  have hW : W2 (S_due F a).2 := w_due hw
  obtain ⟨P, hP⟩ : ∃ P, S_due F a = P := ⟨_, rfl⟩
  rw [hP] at hT2 hW ⊢
  have hnt : S_due F1 a = (P.1, cm F1 P.2) := by
    have h : NT F1 (S_due F a) (S_due (cm F1 F) a) := n_due
    unfold NT at h
    rw [eF, hP] at h
    exact h
  refine hk _ F1 s (fun K2 h2 => m_due hn1 hc1 (fun F2 hce => ?_))
  rw [hnt] at hce ⊢
  exact h2 F2 s (inv_next hT2 hW hce hJ)
theorem l_ways (hI : INV F J) (hk : ∀ v F1 s1, (∀ K2 : mm_K, (∀ F2 s2, INV F2 J → K2 (some (.int v)) (hH L xs J s2 F2)) → mm_call mm_Ex 9 k_X6_ways [.ref 75] (hH L xs J s1 F1) K2) → K (some (.int v)) (hH L xs J s1 F1)) : mm_call mm_Ex 9 k_X5_ways [.ref 2] (hH L xs J s F) K := by
  obtain ⟨hx, ⟨n, hn, hc⟩, hkw, ⟨n0, hn0, hd⟩, hJ⟩ := hI
  have h9 := hc.1
  have hw : W2 F := ⟨⟨n, hn, hc⟩, hkw⟩
  refine x_ways hx hn hc (fun F1 hT => ?_)
  obtain ⟨eF, hn1, hc1, hG, hK⟩ := side hx (fun k hk => hT.1 k (Or.inl hk)) hn hc
  have hT2 := hT.two hn0 hd
  have hW : W2 (S_ways F).2 := w_ways hw
  obtain ⟨P, hP⟩ : ∃ P, S_ways F = P := ⟨_, rfl⟩
  rw [hP] at hT2 hW ⊢
  have hnt : S_ways F1 = (P.1, cm F1 P.2) := by
    have h : NT F1 (S_ways F) (S_ways (cm F1 F)) := n_ways
    unfold NT at h
    rw [eF, hP] at h
    exact h
  refine hk _ F1 s (fun K2 h2 => m_ways hn1 hc1 (fun F2 hce => ?_))
  rw [hnt] at hce ⊢
  exact h2 F2 s (inv_next hT2 hW hce hJ)
theorem l_nth (hI : INV F J) {a : Int32} (hk : ∀ v F1 s1, (∀ K2 : mm_K, (∀ F2 s2, INV F2 J → K2 (some (.int v)) (hH L xs J s2 F2)) → mm_call mm_Ex 9 k_X6_nth [.ref 75, .int a] (hH L xs J s1 F1) K2) → K (some (.int v)) (hH L xs J s1 F1)) : mm_call mm_Ex 9 k_X5_nth [.ref 2, .int a] (hH L xs J s F) K := by
  obtain ⟨hx, ⟨n, hn, hc⟩, hkw, ⟨n0, hn0, hd⟩, hJ⟩ := hI
  have h9 := hc.1
  have hw : W2 F := ⟨⟨n, hn, hc⟩, hkw⟩
  refine x_nth hx hn hc (fun F1 hT => ?_)
  obtain ⟨eF, hn1, hc1, hG, hK⟩ := side hx (fun k hk => hT.1 k (Or.inl hk)) hn hc
  have hT2 := hT.two hn0 hd
  have hW : W2 (S_nth F a).2 := w_nth hw
  obtain ⟨P, hP⟩ : ∃ P, S_nth F a = P := ⟨_, rfl⟩
  rw [hP] at hT2 hW ⊢
  have hnt : S_nth F1 a = (P.1, cm F1 P.2) := by
    have h : NT F1 (S_nth F a) (S_nth (cm F1 F) a) := n_nth
    unfold NT at h
    rw [eF, hP] at h
    exact h
  refine hk _ F1 s (fun K2 h2 => m_nth hn1 hc1 (fun F2 hce => ?_))
  rw [hnt] at hce ⊢
  exact h2 F2 s (inv_next hT2 hW hce hJ)
theorem l_sure (hI : INV F J) (hk : ∀ v F1 s1, (∀ K2 : mm_K, (∀ F2 s2, INV F2 J → K2 (some (.int v)) (hH L xs J s2 F2)) → mm_call mm_Ex 9 k_X6_sure [.ref 75] (hH L xs J s1 F1) K2) → K (some (.int v)) (hH L xs J s1 F1)) : mm_call mm_Ex 9 k_X5_sure [.ref 2] (hH L xs J s F) K := by
  obtain ⟨hx, ⟨n, hn, hc⟩, hkw, ⟨n0, hn0, hd⟩, hJ⟩ := hI
  have h9 := hc.1
  have hw : W2 F := ⟨⟨n, hn, hc⟩, hkw⟩
  refine x_sure hx hn hc (fun F1 hT => ?_)
  obtain ⟨eF, hn1, hc1, hG, hK⟩ := side hx (fun k hk => hT.1 k (Or.inl hk)) hn hc
  have hT2 := hT.two hn0 hd
  have hW : W2 (S_sure F).2 := w_sure hw
  obtain ⟨P, hP⟩ : ∃ P, S_sure F = P := ⟨_, rfl⟩
  rw [hP] at hT2 hW ⊢
  have hnt : S_sure F1 = (P.1, cm F1 P.2) := by
    have h : NT F1 (S_sure F) (S_sure (cm F1 F)) := n_sure
    unfold NT at h
    rw [eF, hP] at h
    exact h
  refine hk _ F1 s (fun K2 h2 => m_sure hn1 hc1 (fun F2 hce => ?_))
  rw [hnt] at hce ⊢
  exact h2 F2 s (inv_next hT2 hW hce hJ)
theorem l_together (hI : INV F J) {a : Int32} (hk : ∀ v F1 s1, (∀ K2 : mm_K, (∀ F2 s2, INV F2 J → K2 (some (.int v)) (hH L xs J s2 F2)) → mm_call mm_Ex 9 k_X6_together [.ref 75, .int a] (hH L xs J s1 F1) K2) → K (some (.int v)) (hH L xs J s1 F1)) : mm_call mm_Ex 9 k_X5_together [.ref 2, .int a] (hH L xs J s F) K := by
  obtain ⟨hx, ⟨n, hn, hc⟩, hkw, ⟨n0, hn0, hd⟩, hJ⟩ := hI
  have h9 := hc.1
  have hw : W2 F := ⟨⟨n, hn, hc⟩, hkw⟩
  refine x_together hx hn hc (fun F1 hT => ?_)
  obtain ⟨eF, hn1, hc1, hG, hK⟩ := side hx (fun k hk => hT.1 k (Or.inl hk)) hn hc
  have hT2 := hT.two hn0 hd
  have hW : W2 (S_together F a).2 := w_together hw
  obtain ⟨P, hP⟩ : ∃ P, S_together F a = P := ⟨_, rfl⟩
  rw [hP] at hT2 hW ⊢
  have hnt : S_together F1 a = (P.1, cm F1 P.2) := by
    have h : NT F1 (S_together F a) (S_together (cm F1 F) a) := n_together
    unfold NT at h
    rw [eF, hP] at h
    exact h
  refine hk _ F1 s (fun K2 h2 => m_together hn1 hc1 (fun F2 hce => ?_))
  rw [hnt] at hce ⊢
  exact h2 F2 s (inv_next hT2 hW hce hJ)
theorem l_till (hI : INV F J) {a : Int32} (hk : ∀ v F1 s1, (∀ K2 : mm_K, (∀ F2 s2, INV F2 J → K2 (some (.int v)) (hH L xs J s2 F2)) → mm_call mm_Ex 9 k_X6_till [.ref 75, .int a] (hH L xs J s1 F1) K2) → K (some (.int v)) (hH L xs J s1 F1)) : mm_call mm_Ex 9 k_X5_till [.ref 2, .int a] (hH L xs J s F) K := by
  obtain ⟨hx, ⟨n, hn, hc⟩, hkw, ⟨n0, hn0, hd⟩, hJ⟩ := hI
  have h9 := hc.1
  have hw : W2 F := ⟨⟨n, hn, hc⟩, hkw⟩
  refine x_till hx hn hc (fun F1 hT => ?_)
  obtain ⟨eF, hn1, hc1, hG, hK⟩ := side hx (fun k hk => hT.1 k (Or.inl hk)) hn hc
  have hT2 := hT.two hn0 hd
  have hW : W2 (S_till F a).2 := w_till hw
  obtain ⟨P, hP⟩ : ∃ P, S_till F a = P := ⟨_, rfl⟩
  rw [hP] at hT2 hW ⊢
  have hnt : S_till F1 a = (P.1, cm F1 P.2) := by
    have h : NT F1 (S_till F a) (S_till (cm F1 F) a) := n_till
    unfold NT at h
    rw [eF, hP] at h
    exact h
  refine hk _ F1 s (fun K2 h2 => m_till hn1 hc1 (fun F2 hce => ?_))
  rw [hnt] at hce ⊢
  exact h2 F2 s (inv_next hT2 hW hce hJ)
theorem l_flips (hI : INV F J) {a : Int32} (hk : ∀ v F1 s1, (∀ K2 : mm_K, (∀ F2 s2, INV F2 J → K2 (some (.int v)) (hH L xs J s2 F2)) → mm_call mm_Ex 9 k_X6_flips [.ref 75, .int a] (hH L xs J s1 F1) K2) → K (some (.int v)) (hH L xs J s1 F1)) : mm_call mm_Ex 9 k_X5_flips [.ref 2, .int a] (hH L xs J s F) K := by
  obtain ⟨hx, ⟨n, hn, hc⟩, hkw, ⟨n0, hn0, hd⟩, hJ⟩ := hI
  have h9 := hc.1
  have hw : W2 F := ⟨⟨n, hn, hc⟩, hkw⟩
  refine x_flips hx hn hc (fun F1 hT => ?_)
  obtain ⟨eF, hn1, hc1, hG, hK⟩ := side hx (fun k hk => hT.1 k (Or.inl hk)) hn hc
  have hT2 := hT.two hn0 hd
  have hW : W2 (S_flips F a).2 := w_flips hw
  obtain ⟨P, hP⟩ : ∃ P, S_flips F a = P := ⟨_, rfl⟩
  rw [hP] at hT2 hW ⊢
  have hnt : S_flips F1 a = (P.1, cm F1 P.2) := by
    have h : NT F1 (S_flips F a) (S_flips (cm F1 F) a) := n_flips
    unfold NT at h
    rw [eF, hP] at h
    exact h
  refine hk _ F1 s (fun K2 h2 => m_flips hn1 hc1 (fun F2 hce => ?_))
  rw [hnt] at hce ⊢
  exact h2 F2 s (inv_next hT2 hW hce hJ)
theorem l_jam (hI : INV F J) (hk : ∀ v F1 s1, (∀ K2 : mm_K, (∀ F2 s2, INV F2 J → K2 (some (.int v)) (hH L xs J s2 F2)) → mm_call mm_Ex 9 k_X6_jam [.ref 75] (hH L xs J s1 F1) K2) → K (some (.int v)) (hH L xs J s1 F1)) : mm_call mm_Ex 9 k_X5_jam [.ref 2] (hH L xs J s F) K := by
  obtain ⟨hx, ⟨n, hn, hc⟩, hkw, ⟨n0, hn0, hd⟩, hJ⟩ := hI
  have h9 := hc.1
  have hw : W2 F := ⟨⟨n, hn, hc⟩, hkw⟩
  refine x_jam hx hn hc (fun F1 hT => ?_)
  obtain ⟨eF, hn1, hc1, hG, hK⟩ := side hx (fun k hk => hT.1 k (Or.inl hk)) hn hc
  have hT2 := hT.two hn0 hd
  have hW : W2 (S_jam F).2 := w_jam hw
  obtain ⟨P, hP⟩ : ∃ P, S_jam F = P := ⟨_, rfl⟩
  rw [hP] at hT2 hW ⊢
  have hnt : S_jam F1 = (P.1, cm F1 P.2) := by
    have h : NT F1 (S_jam F) (S_jam (cm F1 F)) := n_jam
    unfold NT at h
    rw [eF, hP] at h
    exact h
  refine hk _ F1 s (fun K2 h2 => m_jam hn1 hc1 (fun F2 hce => ?_))
  rw [hnt] at hce ⊢
  exact h2 F2 s (inv_next hT2 hW hce hJ)
theorem l_fell (hI : INV F J) {a b : Int32} (hk : ∀ v F1 s1, (∀ K2 : mm_K, (∀ F2 s2, INV F2 J → K2 (some (.int v)) (hH L xs J s2 F2)) → mm_call mm_Ex 9 k_X6_fell [.ref 75, .int a, .int b] (hH L xs J s1 F1) K2) → K (some (.int v)) (hH L xs J s1 F1)) : mm_call mm_Ex 9 k_X5_fell [.ref 2, .int a, .int b] (hH L xs J s F) K := by
  obtain ⟨hx, ⟨n, hn, hc⟩, hkw, ⟨n0, hn0, hd⟩, hJ⟩ := hI
  have h9 := hc.1
  have hw : W2 F := ⟨⟨n, hn, hc⟩, hkw⟩
  refine x_fell hx hn hc (fun F1 hT => ?_)
  obtain ⟨eF, hn1, hc1, hG, hK⟩ := side hx (fun k hk => hT.1 k (Or.inl hk)) hn hc
  have hT2 := hT.two hn0 hd
  have hW : W2 (S_fell F a b 0).2 := w_fell hw
  obtain ⟨P, hP⟩ : ∃ P, S_fell F a b 0 = P := ⟨_, rfl⟩
  rw [hP] at hT2 hW ⊢
  have hnt : S_fell F1 a b 0 = (P.1, cm F1 P.2) := by
    have h : NT F1 (S_fell F a b 0) (S_fell (cm F1 F) a b 0) := n_fell
    unfold NT at h
    rw [eF, hP] at h
    exact h
  refine hk _ F1 s (fun K2 h2 => m_fell hn1 hc1 (fun F2 hce => ?_))
  rw [hnt] at hce ⊢
  exact h2 F2 s (inv_next hT2 hW hce hJ)
theorem l_guard (hI : INV F J) {a b : Int32} (hk : ∀ v F1 s1, (∀ K2 : mm_K, (∀ F2 s2, INV F2 J → K2 (some (.int v)) (hH L xs J s2 F2)) → mm_call mm_Ex 9 k_X6_guard [.ref 75, .int a, .int b] (hH L xs J s1 F1) K2) → K (some (.int v)) (hH L xs J s1 F1)) : mm_call mm_Ex 9 k_X5_guard [.ref 2, .int a, .int b] (hH L xs J s F) K := by
  obtain ⟨hx, ⟨n, hn, hc⟩, hkw, ⟨n0, hn0, hd⟩, hJ⟩ := hI
  have h9 := hc.1
  have hw : W2 F := ⟨⟨n, hn, hc⟩, hkw⟩
  refine x_guard hx hn hc (fun F1 hT => ?_)
  obtain ⟨eF, hn1, hc1, hG, hK⟩ := side hx (fun k hk => hT.1 k (Or.inl hk)) hn hc
  have hT2 := hT.two hn0 hd
  have hW : W2 (S_fell F a b 1).2 := w_fell hw
  obtain ⟨P, hP⟩ : ∃ P, S_fell F a b 1 = P := ⟨_, rfl⟩
  rw [hP] at hT2 hW ⊢
  have hnt : S_fell F1 a b 1 = (P.1, cm F1 P.2) := by
    have h : NT F1 (S_fell F a b 1) (S_fell (cm F1 F) a b 1) := n_fell
    unfold NT at h
    rw [eF, hP] at h
    exact h
  refine hk _ F1 s (fun K2 h2 => m_guard hn1 hc1 (fun F2 hce => ?_))
  rw [hnt] at hce ⊢
  exact h2 F2 s (inv_next hT2 hW hce hJ)
theorem l_settle (hI : INV F J) {a : Int32} (hk : ∀ v F1 s1, (∀ K2 : mm_K, (∀ F2 s2, INV F2 J → K2 (some (.int v)) (hH L xs J s2 F2)) → mm_call mm_Ex 9 k_X6_settle [.ref 75, .int a] (hH L xs J s1 F1) K2) → K (some (.int v)) (hH L xs J s1 F1)) : mm_call mm_Ex 9 k_X5_settle [.ref 2, .int a] (hH L xs J s F) K := by
  obtain ⟨hx, ⟨n, hn, hc⟩, hkw, ⟨n0, hn0, hd⟩, hJ⟩ := hI
  have h9 := hc.1
  have hw : W2 F := ⟨⟨n, hn, hc⟩, hkw⟩
  refine x_settle hx hn hc (fun F1 hT => ?_)
  obtain ⟨eF, hn1, hc1, hG, hK⟩ := side hx (fun k hk => hT.1 k (Or.inl hk)) hn hc
  have hT2 := hT.two hn0 hd
  have hW : W2 (S_settle F a).2 := w_settle hw
  obtain ⟨P, hP⟩ : ∃ P, S_settle F a = P := ⟨_, rfl⟩
  rw [hP] at hT2 hW ⊢
  have hnt : S_settle F1 a = (P.1, cm F1 P.2) := by
    have h : NT F1 (S_settle F a) (S_settle (cm F1 F) a) := n_settle
    unfold NT at h
    rw [eF, hP] at h
    exact h
  refine hk _ F1 s (fun K2 h2 => m_settle hn1 hc1 (fun F2 hce => ?_))
  rw [hnt] at hce ⊢
  exact h2 F2 s (inv_next hT2 hW hce hJ)
theorem l_matter (hI : INV F J) {a : Int32} (hk : ∀ v F1 s1, (∀ K2 : mm_K, (∀ F2 s2, INV F2 J → K2 (some (.int v)) (hH L xs J s2 F2)) → mm_call mm_Ex 9 k_X6_matter [.ref 75, .int a] (hH L xs J s1 F1) K2) → K (some (.int v)) (hH L xs J s1 F1)) : mm_call mm_Ex 9 k_X5_matter [.ref 2, .int a] (hH L xs J s F) K := by
  obtain ⟨hx, ⟨n, hn, hc⟩, hkw, ⟨n0, hn0, hd⟩, hJ⟩ := hI
  have h9 := hc.1
  have hw : W2 F := ⟨⟨n, hn, hc⟩, hkw⟩
  refine x_matter hx hn hc (fun F1 hT => ?_)
  obtain ⟨eF, hn1, hc1, hG, hK⟩ := side hx (fun k hk => hT.1 k (Or.inl hk)) hn hc
  have hT2 := hT.two hn0 hd
  have hW : W2 (S_matter F a).2 := w_matter hw
  obtain ⟨P, hP⟩ : ∃ P, S_matter F a = P := ⟨_, rfl⟩
  rw [hP] at hT2 hW ⊢
  have hnt : S_matter F1 a = (P.1, cm F1 P.2) := by
    have h : NT F1 (S_matter F a) (S_matter (cm F1 F) a) := n_matter
    unfold NT at h
    rw [eF, hP] at h
    exact h
  refine hk _ F1 s (fun K2 h2 => m_matter hn1 hc1 (fun F2 hce => ?_))
  rw [hnt] at hce ⊢
  exact h2 F2 s (inv_next hT2 hW hce hJ)
theorem l_judge (hI : INV F J) (hk : ∀ v F1 s1, (∀ K2 : mm_K, (∀ F2 s2, INV F2 J → K2 (some (.int v)) (hH L xs J s2 F2)) → mm_call mm_Ex 9 k_X6_judge [.ref 75] (hH L xs J s1 F1) K2) → K (some (.int v)) (hH L xs J s1 F1)) : mm_call mm_Ex 9 k_X5_judge [.ref 2] (hH L xs J s F) K := by
  obtain ⟨hx, ⟨n, hn, hc⟩, hkw, ⟨n0, hn0, hd⟩, hJ⟩ := hI
  have h9 := hc.1
  have hw : W2 F := ⟨⟨n, hn, hc⟩, hkw⟩
  refine x_judge hx hn hc (fun F1 hT => ?_)
  obtain ⟨eF, hn1, hc1, hG, hK⟩ := side hx (fun k hk => hT.1 k (Or.inl hk)) hn hc
  have hT2 := hT.two hn0 hd
  have hW : W2 (S_judge F).2 := w_judge hw
  obtain ⟨P, hP⟩ : ∃ P, S_judge F = P := ⟨_, rfl⟩
  rw [hP] at hT2 hW ⊢
  have hnt : S_judge F1 = (P.1, cm F1 P.2) := by
    have h : NT F1 (S_judge F) (S_judge (cm F1 F)) := n_judge
    unfold NT at h
    rw [eF, hP] at h
    exact h
  refine hk _ F1 s (fun K2 h2 => m_judge hn1 hc1 (fun F2 hce => ?_))
  rw [hnt] at hce ⊢
  exact h2 F2 s (inv_next hT2 hW hce hJ)
theorem l_like (hI : INV F J) {a b : Int32} (hk : ∀ v F1 s1, (∀ K2 : mm_K, (∀ F2 s2, INV F2 J → K2 (some (.int v)) (hH L xs J s2 F2)) → mm_call mm_Ex 9 k_X6_like [.ref 75, .int a, .int b] (hH L xs J s1 F1) K2) → K (some (.int v)) (hH L xs J s1 F1)) : mm_call mm_Ex 9 k_X5_like [.ref 2, .int a, .int b] (hH L xs J s F) K := by
  obtain ⟨hx, ⟨n, hn, hc⟩, hkw, ⟨n0, hn0, hd⟩, hJ⟩ := hI
  have h9 := hc.1
  have hw : W2 F := ⟨⟨n, hn, hc⟩, hkw⟩
  refine x_like hx hn hc (fun F1 hT => ?_)
  obtain ⟨eF, hn1, hc1, hG, hK⟩ := side hx (fun k hk => hT.1 k (Or.inl hk)) hn hc
  have hT2 := hT.two hn0 hd
  have hW : W2 (S_like F a b).2 := w_like hw
  obtain ⟨P, hP⟩ : ∃ P, S_like F a b = P := ⟨_, rfl⟩
  rw [hP] at hT2 hW ⊢
  have hnt : S_like F1 a b = (P.1, cm F1 P.2) := by
    have h : NT F1 (S_like F a b) (S_like (cm F1 F) a b) := n_like
    unfold NT at h
    rw [eF, hP] at h
    exact h
  refine hk _ F1 s (fun K2 h2 => m_like hn1 hc1 ?_)
  rw [hnt]
  exact h2 _ s (inv_next hT2 hW CE.rf hJ)
theorem l_verdict (hI : INV F J) {a b : Int32} (hk : ∀ v F1 s1, (∀ K2 : mm_K, (∀ F2 s2, INV F2 J → K2 (some (.int v)) (hH L xs J s2 F2)) → mm_call mm_Ex 9 k_X6_verdict [.ref 75, .int a, .int b] (hH L xs J s1 F1) K2) → K (some (.int v)) (hH L xs J s1 F1)) : mm_call mm_Ex 9 k_X5_verdict [.ref 2, .int a, .int b] (hH L xs J s F) K := by
  obtain ⟨hx, ⟨n, hn, hc⟩, hkw, ⟨n0, hn0, hd⟩, hJ⟩ := hI
  have h9 := hc.1
  have hw : W2 F := ⟨⟨n, hn, hc⟩, hkw⟩
  refine x_verdict hx hn hc (fun F1 hT => ?_)
  obtain ⟨eF, hn1, hc1, hG, hK⟩ := side hx (fun k hk => hT.1 k (Or.inl hk)) hn hc
  have hT2 := hT.two hn0 hd
  have hW : W2 (S_verdict F a b).2 := w_verdict hw
  obtain ⟨P, hP⟩ : ∃ P, S_verdict F a b = P := ⟨_, rfl⟩
  rw [hP] at hT2 hW ⊢
  have hnt : S_verdict F1 a b = (P.1, cm F1 P.2) := by
    have h : NT F1 (S_verdict F a b) (S_verdict (cm F1 F) a b) := n_verdict
    unfold NT at h
    rw [eF, hP] at h
    exact h
  refine hk _ F1 s (fun K2 h2 => m_verdict hn1 hc1 ?_)
  rw [hnt]
  exact h2 _ s (inv_next hT2 hW CE.rf hJ)
theorem l_surely (hI : INV F J) {a : Int32} (hk : ∀ v F1 s1, (∀ K2 : mm_K, (∀ F2 s2, INV F2 J → K2 (some (.int v)) (hH L xs J s2 F2)) → mm_call mm_Ex 9 k_X6_surely [.ref 75, .int a] (hH L xs J s1 F1) K2) → K (some (.int v)) (hH L xs J s1 F1)) : mm_call mm_Ex 9 k_X5_surely [.ref 2, .int a] (hH L xs J s F) K := by
  obtain ⟨hx, ⟨n, hn, hc⟩, hkw, ⟨n0, hn0, hd⟩, hJ⟩ := hI
  have h9 := hc.1
  have hw : W2 F := ⟨⟨n, hn, hc⟩, hkw⟩
  refine x_surely hx hn hc (fun F1 hT => ?_)
  obtain ⟨eF, hn1, hc1, hG, hK⟩ := side hx (fun k hk => hT.1 k (Or.inl hk)) hn hc
  have hT2 := hT.two hn0 hd
  have hW : W2 (S_surely F a).2 := w_surely hw
  obtain ⟨P, hP⟩ : ∃ P, S_surely F a = P := ⟨_, rfl⟩
  rw [hP] at hT2 hW ⊢
  have hnt : S_surely F1 a = (P.1, cm F1 P.2) := by
    have h : NT F1 (S_surely F a) (S_surely (cm F1 F) a) := n_surely
    unfold NT at h
    rw [eF, hP] at h
    exact h
  refine hk _ F1 s (fun K2 h2 => m_surely hn1 hc1 (fun F2 hce => ?_))
  rw [hnt] at hce ⊢
  exact h2 F2 s (inv_next hT2 hW hce hJ)
theorem l_freed (hI : INV F J) {a : Int32} (hk : ∀ v F1 s1, (∀ K2 : mm_K, (∀ F2 s2, INV F2 J → K2 (some (.int v)) (hH L xs J s2 F2)) → mm_call mm_Ex 9 k_X6_freed [.ref 75, .int a] (hH L xs J s1 F1) K2) → K (some (.int v)) (hH L xs J s1 F1)) : mm_call mm_Ex 9 k_X5_freed [.ref 2, .int a] (hH L xs J s F) K := by
  obtain ⟨hx, ⟨n, hn, hc⟩, hkw, ⟨n0, hn0, hd⟩, hJ⟩ := hI
  have h9 := hc.1
  have hw : W2 F := ⟨⟨n, hn, hc⟩, hkw⟩
  refine x_freed hx hn hc (fun F1 hT => ?_)
  obtain ⟨eF, hn1, hc1, hG, hK⟩ := side hx (fun k hk => hT.1 k (Or.inl hk)) hn hc
  have hT2 := hT.two hn0 hd
  have hW : W2 (S_freed F a).2 := w_freed hw
  obtain ⟨P, hP⟩ : ∃ P, S_freed F a = P := ⟨_, rfl⟩
  rw [hP] at hT2 hW ⊢
  have hnt : S_freed F1 a = (P.1, cm F1 P.2) := by
    have h : NT F1 (S_freed F a) (S_freed (cm F1 F) a) := n_freed
    unfold NT at h
    rw [eF, hP] at h
    exact h
  refine hk _ F1 s (fun K2 h2 => m_freed hn1 hc1 (fun F2 hce => ?_))
  rw [hnt] at hce ⊢
  exact h2 F2 s (inv_next hT2 hW hce hJ)
theorem l_code (hI : INV F J) (hk : ∀ v F1 s1, (∀ K2 : mm_K, (∀ F2 s2, INV F2 J → K2 (some (.int v)) (hH L xs J s2 F2)) → mm_call mm_Ex 9 k_X6_code [.ref 75] (hH L xs J s1 F1) K2) → K (some (.int v)) (hH L xs J s1 F1)) : mm_call mm_Ex 9 k_X5_code [.ref 2] (hH L xs J s F) K := by
  obtain ⟨hx, ⟨n, hn, hc⟩, hkw, ⟨n0, hn0, hd⟩, hJ⟩ := hI
  have h9 := hc.1
  have hw : W2 F := ⟨⟨n, hn, hc⟩, hkw⟩
  refine x_code hx hn hc (fun F1 hT => ?_)
  obtain ⟨eF, hn1, hc1, hG, hK⟩ := side hx (fun k hk => hT.1 k (Or.inl hk)) hn hc
  have hT2 := hT.two hn0 hd
  have hW : W2 (S_code F).2 := w_code hw
  obtain ⟨P, hP⟩ : ∃ P, S_code F = P := ⟨_, rfl⟩
  rw [hP] at hT2 hW ⊢
  have hnt : S_code F1 = (P.1, cm F1 P.2) := by
    have h : NT F1 (S_code F) (S_code (cm F1 F)) := n_code
    unfold NT at h
    rw [eF, hP] at h
    exact h
  refine hk _ F1 s (fun K2 h2 => m_code hn1 hc1 (fun F2 hce => ?_))
  rw [hnt] at hce ⊢
  exact h2 F2 s (inv_next hT2 hW hce hJ)
theorem l_kinds (hI : INV F J) {a b : Int32} (hk : ∀ v F1 s1, (∀ K2 : mm_K, (∀ F2 s2, INV F2 J → K2 (some (.int v)) (hH L xs J s2 F2)) → mm_call mm_Ex 9 k_X6_kinds [.ref 75, .int a, .int b] (hH L xs J s1 F1) K2) → K (some (.int v)) (hH L xs J s1 F1)) : mm_call mm_Ex 9 k_X5_kinds [.ref 2, .int a, .int b] (hH L xs J s F) K := by
  obtain ⟨hx, ⟨n, hn, hc⟩, hkw, ⟨n0, hn0, hd⟩, hJ⟩ := hI
  have h9 := hc.1
  have hw : W2 F := ⟨⟨n, hn, hc⟩, hkw⟩
  refine x_kinds hx hn hc (fun F1 hT => ?_)
  obtain ⟨eF, hn1, hc1, hG, hK⟩ := side hx (fun k hk => hT.1 k (Or.inl hk)) hn hc
  have hT2 := hT.two hn0 hd
  have hW : W2 (S_kinds F a b).2 := w_kinds hw
  obtain ⟨P, hP⟩ : ∃ P, S_kinds F a b = P := ⟨_, rfl⟩
  rw [hP] at hT2 hW ⊢
  have hnt : S_kinds F1 a b = (P.1, cm F1 P.2) := by
    have h : NT F1 (S_kinds F a b) (S_kinds (cm F1 F) a b) := n_kinds
    unfold NT at h
    rw [eF, hP] at h
    exact h
  refine hk _ F1 s (fun K2 h2 => m_kinds hn1 hc1 (fun F2 hce => ?_))
  rw [hnt] at hce ⊢
  exact h2 F2 s (inv_next hT2 hW hce hJ)
theorem l_forged (hI : INV F J) {a : Int32} (hk : ∀ v F1 s1, (∀ K2 : mm_K, (∀ F2 s2, INV F2 J → K2 (some (.int v)) (hH L xs J s2 F2)) → mm_call mm_Ex 9 k_X6_forged [.ref 75, .int a] (hH L xs J s1 F1) K2) → K (some (.int v)) (hH L xs J s1 F1)) : mm_call mm_Ex 9 k_X5_forged [.ref 2, .int a] (hH L xs J s F) K := by
  obtain ⟨hx, ⟨n, hn, hc⟩, hkw, ⟨n0, hn0, hd⟩, hJ⟩ := hI
  have h9 := hc.1
  have hw : W2 F := ⟨⟨n, hn, hc⟩, hkw⟩
  refine x_forged hx hn hc (fun F1 hT => ?_)
  obtain ⟨eF, hn1, hc1, hG, hK⟩ := side hx (fun k hk => hT.1 k (Or.inl hk)) hn hc
  have hT2 := hT.two hn0 hd
  have hW : W2 (S_forged F a).2 := w_forged hw
  obtain ⟨P, hP⟩ : ∃ P, S_forged F a = P := ⟨_, rfl⟩
  rw [hP] at hT2 hW ⊢
  have hnt : S_forged F1 a = (P.1, cm F1 P.2) := by
    have h : NT F1 (S_forged F a) (S_forged (cm F1 F) a) := n_forged
    unfold NT at h
    rw [eF, hP] at h
    exact h
  refine hk _ F1 s (fun K2 h2 => m_forged hn1 hc1 (fun F2 hce => ?_))
  rw [hnt] at hce ⊢
  exact h2 F2 s (inv_next hT2 hW hce hJ)
theorem l_torn (hI : INV F J) {a b : Int32} (hk : ∀ v F1 s1, (∀ K2 : mm_K, (∀ F2 s2, INV F2 J → K2 (some (.int v)) (hH L xs J s2 F2)) → mm_call mm_Ex 9 k_X6_torn [.ref 75, .int a, .int b] (hH L xs J s1 F1) K2) → K (some (.int v)) (hH L xs J s1 F1)) : mm_call mm_Ex 9 k_X5_torn [.ref 2, .int a, .int b] (hH L xs J s F) K := by
  obtain ⟨hx, ⟨n, hn, hc⟩, hkw, ⟨n0, hn0, hd⟩, hJ⟩ := hI
  have h9 := hc.1
  have hw : W2 F := ⟨⟨n, hn, hc⟩, hkw⟩
  refine x_torn hx hn hc (fun F1 hT => ?_)
  obtain ⟨eF, hn1, hc1, hG, hK⟩ := side hx (fun k hk => hT.1 k (Or.inl hk)) hn hc
  have hT2 := hT.two hn0 hd
  have hW : W2 (S_torn F a b).2 := w_torn hw
  obtain ⟨P, hP⟩ : ∃ P, S_torn F a b = P := ⟨_, rfl⟩
  rw [hP] at hT2 hW ⊢
  have hnt : S_torn F1 a b = (P.1, cm F1 P.2) := by
    have h : NT F1 (S_torn F a b) (S_torn (cm F1 F) a b) := n_torn
    unfold NT at h
    rw [eF, hP] at h
    exact h
  refine hk _ F1 s (fun K2 h2 => m_torn hn1 hc1 (fun F2 hce => ?_))
  rw [hnt] at hce ⊢
  exact h2 F2 s (inv_next hT2 hW hce hJ)
theorem l_lots (hI : INV F J) {a b : Int32} (hk : ∀ v F1 s1, (∀ K2 : mm_K, (∀ F2 s2, INV F2 J → K2 (some (.int v)) (hH L xs J s2 F2)) → mm_call mm_Ex 9 k_X6_lots [.ref 75, .int a, .int b] (hH L xs J s1 F1) K2) → K (some (.int v)) (hH L xs J s1 F1)) : mm_call mm_Ex 9 k_X5_lots [.ref 2, .int a, .int b] (hH L xs J s F) K := by
  obtain ⟨hx, ⟨n, hn, hc⟩, hkw, ⟨n0, hn0, hd⟩, hJ⟩ := hI
  have h9 := hc.1
  have hw : W2 F := ⟨⟨n, hn, hc⟩, hkw⟩
  refine x_lots hx hn hc (fun F1 hT => ?_)
  obtain ⟨eF, hn1, hc1, hG, hK⟩ := side hx (fun k hk => hT.1 k (Or.inl hk)) hn hc
  have hT2 := hT.two hn0 hd
  have hW : W2 (S_lots F a b).2 := w_lots hw
  obtain ⟨P, hP⟩ : ∃ P, S_lots F a b = P := ⟨_, rfl⟩
  rw [hP] at hT2 hW ⊢
  have hnt : S_lots F1 a b = (P.1, cm F1 P.2) := by
    have h : NT F1 (S_lots F a b) (S_lots (cm F1 F) a b) := n_lots
    unfold NT at h
    rw [eF, hP] at h
    exact h
  refine hk _ F1 s (fun K2 h2 => m_lots hn1 h9 ?_)
  rw [hnt]
  exact h2 _ s (inv_next hT2 hW CE.rf hJ)
theorem l_count (hI : INV F J) {a : Int32} (hk : ∀ v F1 s1, (∀ K2 : mm_K, (∀ F2 s2, INV F2 J → K2 (some (.int v)) (hH L xs J s2 F2)) → mm_call mm_Ex 9 k_X6_count [.ref 75, .int a] (hH L xs J s1 F1) K2) → K (some (.int v)) (hH L xs J s1 F1)) : mm_call mm_Ex 9 k_X5_count [.ref 2, .int a] (hH L xs J s F) K := by
  obtain ⟨hx, ⟨n, hn, hc⟩, hkw, ⟨n0, hn0, hd⟩, hJ⟩ := hI
  have h9 := hc.1
  have hw : W2 F := ⟨⟨n, hn, hc⟩, hkw⟩
  refine x_count hx hn hc (fun F1 hT => ?_)
  obtain ⟨eF, hn1, hc1, hG, hK⟩ := side hx (fun k hk => hT.1 k (Or.inl hk)) hn hc
  have hT2 := hT.two hn0 hd
  have hW : W2 (S_count F a).2 := w_count hw
  obtain ⟨P, hP⟩ : ∃ P, S_count F a = P := ⟨_, rfl⟩
  rw [hP] at hT2 hW ⊢
  have hnt : S_count F1 a = (P.1, cm F1 P.2) := by
    have h : NT F1 (S_count F a) (S_count (cm F1 F) a) := n_count
    unfold NT at h
    rw [eF, hP] at h
    exact h
  refine hk _ F1 s (fun K2 h2 => m_count hn1 h9 ?_)
  rw [hnt]
  exact h2 _ s (inv_next hT2 hW CE.rf hJ)
theorem l_findings (hI : INV F J) {a : Int32} (hk : ∀ v F1 s1, (∀ K2 : mm_K, (∀ F2 s2, INV F2 J → K2 (some (.int v)) (hH L xs J s2 F2)) → mm_call mm_Ex 9 k_X6_findings [.ref 75, .int a] (hH L xs J s1 F1) K2) → K (some (.int v)) (hH L xs J s1 F1)) : mm_call mm_Ex 9 k_X5_findings [.ref 2, .int a] (hH L xs J s F) K := by
  obtain ⟨hx, ⟨n, hn, hc⟩, hkw, ⟨n0, hn0, hd⟩, hJ⟩ := hI
  have h9 := hc.1
  have hw : W2 F := ⟨⟨n, hn, hc⟩, hkw⟩
  refine x_findings hx (fun F1 hT => ?_)
  obtain ⟨eF, hn1, hc1, hG, hK⟩ := side hx (fun k hk => hT.1 k (Or.inl hk)) hn hc
  have hT2 := hT.two hn0 hd
  have hW : W2 (S_findings F a).2 := w_findings hw
  obtain ⟨P, hP⟩ : ∃ P, S_findings F a = P := ⟨_, rfl⟩
  rw [hP] at hT2 hW ⊢
  have hnt : S_findings F1 a = (P.1, cm F1 P.2) := by
    have h : NT F1 (S_findings F a) (S_findings (cm F1 F) a) := n_findings
    unfold NT at h
    rw [eF, hP] at h
    exact h
  refine hk _ F1 s (fun K2 h2 => m_findings  ?_)
  rw [hnt]
  exact h2 _ s (inv_next hT2 hW CE.rf hJ)
end LO
