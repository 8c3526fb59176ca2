/-! the reference: what to file -/
def rchB (n : Nat) (q : Rq) (sk : Nat → Nat) (aim : Int32) (i : Nat) : Bool :=
  let w := wayB n q sk (2 ^ n - 1)
  if aim = 2 then decide (fa_cnt w (2 ^ n) = 1) else if aim = 0 then (flS n (2 ^ n - 1) w).testBit i else (stS n (2 ^ n - 1) w).testBit i
/-- a row of rulings as a number: its digits, how often each, whether it rises -/
def dgt (N code j : Nat) : Nat := code / N ^ j % N
def skC (N code : Nat) : Nat → Nat → Nat
  | 0, _ => 0
  | k + 1, c => skC N code k c + if dgt N code k = c then 1 else 0
def rsC (N code : Nat) : Nat → Bool
  | 0 => true
  | 1 => true
  | k + 2 => rsC N code (k + 1) && decide (dgt N code (k + 1) ≤ dgt N code k)
theorem skC_s (N code k c : Nat) : skC N code (k + 1) c = skC N code k c + if dgt N code k = c then 1 else 0 := rfl
theorem skC_le (N code c : Nat) : ∀ k, skC N code k c ≤ k
  | 0 => Nat.le_refl 0
  | k + 1 => by
    have := skC_le N code c k
    unfold skC
    split <;> omega
def fiP (n : Nat) (q : Rq) (aim : Int32) (i m code : Nat) : Bool := rsC n code m && rchB n q (skC n code m) aim i
def lev (n : Nat) (q : Rq) (aim : Int32) (i m : Nat) : Nat := fa_first (fiP n q aim i m) (n ^ m)
def rwF (g : Nat → Int32) (r m N code : Nat) : Nat → Nat → Int32
  | 0 => g
  | j + 1 => upd (rwF g r m N code j) (40 * r + (m - 1 - j)) (nI (dgt N code j))
def fiF (F : Nat → Nat → Int32) (n r m code : Nat) : Nat → Nat → Int32 := upF (up2 F 76 r (nI m)) 77 (rwF (fil (F 77) (40 * r) 40 0) r m n code m)
def S_files (F : Nat → Nat → Int32) (n i r : Nat) (aim : Int32) : Int32 × (Nat → Nat → Int32) :=
  let m := fa_first (fun m => decide (lev n (mq F) aim i m < n ^ m)) 4
  if m < 4 then (nI m, fiF F n r m (lev n (mq F) aim i m)) else (-9, F)
def S_fell (F : Nat → Nat → Int32) (i r aim : Int32) : Int32 × (Nat → Nat → Int32) :=
  if (0 ≤ i ∧ i ≤ F 75 10 - 1) ∧ (0 ≤ r ∧ r ≤ 5) then S_files F (F 75 10).toNatClampNeg i.toNatClampNeg r.toNatClampNeg aim else (-1, F)
def S_settle (F : Nat → Nat → Int32) (r : Int32) : Int32 × (Nat → Nat → Int32) :=
  if 0 ≤ r ∧ r ≤ 5 then S_files F (F 75 10).toNatClampNeg 0 r.toNatClampNeg 2 else (-1, F)
theorem CE.c76 {F G : Nat → Nat → Int32} (h : CE F G) : F 76 = G 76 := h.1 76 (by decide) (by decide) (by decide) (by decide) (by decide)
theorem CE.c77 {F G : Nat → Nat → Int32} (h : CE F G) : F 77 = G 77 := h.1 77 (by decide) (by decide) (by decide) (by decide) (by decide)
theorem CE.upF {F G : Nat → Nat → Int32} (h : CE F G) {k : Nat} (hk : k ≠ 75) (g : Nat → Int32) : CE (upF F k g) (upF G k g) := by
  refine ⟨fun a h1 h2 h3 h4 h5 => ?_, fun j h1 h2 h3 h4 h5 => ?_⟩
  · by_cases e : a = k
    · simp only [CBackCourtLaw_law_r1553_0a7f92.upF, if_pos e]
    · simp only [CBackCourtLaw_law_r1553_0a7f92.upF, if_neg e]
      exact h.1 a h1 h2 h3 h4 h5
  · have e : ¬ 75 = k := fun z => hk z.symm
    simp only [CBackCourtLaw_law_r1553_0a7f92.upF, if_neg e]
    exact h.2 j h1 h2 h3 h4 h5
theorem CE.fiF {F G : Nat → Nat → Int32} (h : CE F G) {n r m code : Nat} : CE (fiF F n r m code) (fiF G n r m code) := by
  unfold CBackCourtLaw_law_r1553_0a7f92.fiF up2
  rw [h.c76, h.c77]
  exact (h.upF (by decide) _).upF (by decide) _
section MFi
variable {d L s : Nat} {xs : Nat → Int32} {J : Nat → Int64} {F : Nat → Nat → Int32} {K : mm_K} {h : mm_H} {n t : Nat} {sk : Nat → Nat}
theorem s_power {b k : Nat} (hb : k < 2 ^ 31) (hk : K (some (.int (nI (b ^ k)))) h) : mm_call mm_Ex d k_X6_power [.int (nI b), .int (nI k)] h K := by
  refine mm_run 60 (lp (n := k) (P := fun j => ∀ x a, x = nI j → a = nI (b ^ j) → mm_Ex d k_X6_power 4 (0, 0) [.int (nI b), .int (nI k), .int a, .int x] [] h K) ?_ ?_ 0 1 rfl rfl)
  · intro x a hx ha
    subst hx ha
    exact mm_run 60 (And.intro (fun _ => hk) (fun q => absurd ((nI_leI hb hb).mpr (Nat.le_refl k)) q))
  · intro j hj ih x a hx ha
    subst hx
    refine mm_run 60 (And.intro (fun q => absurd q (nleI hj hb)) (fun _ => ih _ _ (nI_1 j) ?_))
    rw [ha, pk_mul, Nat.pow_succ]
theorem s_isReached (hx : Cx F n (2 ^ n - 1) sk) {i aim : Int32} {j : Nat} (hj : ¬ aim = 2 → j < n ∧ i = nI j) (hk : ∀ F', CE F' F → K (some (.int (b2i (rchB n (mq F) sk aim j = true)))) (hH L xs J s F')) : mm_call mm_Ex (d + 5) k_X6_isReached [.ref 75, .int i, .int aim] (hH L xs J s F) K := by
  have h9 := hx.2.1.1
  have hp9 := pw9 h9
  unfold rchB at hk
  dsimp only at hk
  obtain ⟨w, hw⟩ : ∃ w, wayB n (mq F) sk (2 ^ n - 1) = w := ⟨_, rfl⟩
  rw [hw] at hk
  refine mm_run 60 (And.intro (fun q => s_findsSure hx ?_) (fun q => s_wayMany hx.1 hx.2.1 hx.2.2.1 hx.t31 ?_))
  · obtain ⟨hjn, rfl⟩ := hj q
    rw [hw]
    obtain ⟨st, hst⟩ : ∃ st, stS n (2 ^ n - 1) w = st := ⟨_, rfl⟩
    obtain ⟨fl, hfl⟩ : ∃ fl, flS n (2 ^ n - 1) w = fl := ⟨_, rfl⟩
    rw [if_neg q, hst, hfl] at hk
    rw [hst, hfl]
    have hce : CE (up2 (up2 F 75 25 (nI st)) 75 26 (nI fl)) F := (CE.up (by decide)).trans (CE.up (by decide))
    have J20 : ∀ y z : Nat, z = (if aim = 0 then fl else st) → mm_Ex (d + 5) k_X6_isReached 20 (0, 0) [.ref 75, .int (nI j), .int aim] [.int (nI z)] (hH L xs J s (up2 (up2 F 75 25 (nI st)) 75 26 (nI fl))) K := fun y z hz => by
      refine mm_run 60 (s_hasN (by omega) ⟨b2i_01, ?_⟩)
      have := hk _ hce
      by_cases a0 : aim = 0
      · rw [if_pos a0] at this hz
        rw [hz]
        exact this
      · rw [if_neg a0] at this hz
        rw [hz]
        exact this
    exact And.intro (fun q2 => J20 0 st (if_neg q2).symm) (fun q2 => J20 0 fl (if_pos q2).symm)
  · rw [if_pos q] at hk
    rw [hw]
    have hcl := fa_cnt_le w (2 ^ n)
    refine And.intro (fun q2 => ?_) (fun q2 => ?_)
    · refine mm_run 5 ⟨Or.inl rfl, ?_⟩
      have := hk _ CE.rf
      rw [b2i_f] at this
      · exact this
      · simp only [decide_eq_true_eq]
        exact fun z => q2 (by rw [z]; rfl)
    · refine mm_run 5 ⟨Or.inr rfl, ?_⟩
      have := hk _ CE.rf
      rw [b2i_t] at this
      · exact this
      · simp only [decide_eq_true_eq]
        exact (nI_eq (b := 1) (by omega) (by decide)).mp q2
theorem s_strikes (hn : F 75 10 = nI n) (hc : Cw n (mq F)) {code m : Nat} (hm : m ≤ 3) (hcd : code < 2 ^ 30) (hn0 : 0 < m → 0 < n) (hk : ∀ F', CE F' F → Cx F' n (2 ^ n - 1) (skC n code m) → K (some (.int (b2i (rsC n code m = true)))) (hH L xs J s F')) : mm_call mm_Ex (d + 1) k_X6_strikes [.ref 75, .int (nI code), .int (nI m)] (hH L xs J s F) K := by
  have h9 := hc.1
  have hp9 := pw9 h9
  have hx0 := Cx.all hn hc
  refine mm_run 60 (s_all hn h9 ?_)
  refine lp (n := m) (P := fun k => ∀ (x v la ri : Int32) (w7 : Value) G, x = nI k → v = nI (code / n ^ k) → la = nI (if k = 0 then n else dgt n code (k - 1)) → ri = b2i (rsC n code k = true) → CE G F → Cx G n (2 ^ n - 1) (skC n code k) → mm_Ex (d + 1) k_X6_strikes 11 (0, 0) [.ref 75, .int (nI code), .int (nI m), .int v, .int la, .int ri, .int x, w7] [] (hH L xs J s G) K) ?_ ?_ _ _ _ _ _ _ rfl ?_ ?_ rfl CE.all hx0
  · intro x v la ri w7 G hx hv hla hri hce hxG
    subst hx hri
    exact mm_run 60 (And.intro (fun _ => ⟨b2i_01, hk _ hce hxG⟩) (fun q => absurd ((nI_leI (by omega) (by omega)).mpr (Nat.le_refl m)) q))
  · intro k hkm ih x v la ri w7 G hx hv hla hri hce hxG
    subst hx
    have hn1 : 0 < n := hn0 (by omega)
    have hvl : code / n ^ k < 2 ^ 31 := Nat.lt_of_le_of_lt (Nat.div_le_self _ _) (by omega)
    have eg : G 75 10 = nI n := hxG.1
    have hdl : dgt n code k < n := Nat.mod_lt _ hn1
    have e1 : v - v / G 75 10 * G 75 10 = nI (dgt n code k) := by
      rw [hv, eg]
      exact pk_rem hvl hn1 (by omega)
    have e2 : v / G 75 10 = nI (code / n ^ (k + 1)) := by
      rw [hv, eg, pk_div hvl hn1 (by omega), Nat.div_div_eq_div_mul, ← Nat.pow_succ]
    have ed : (nI (dgt n code k)).toNatClampNeg = dgt n code k := tn_nI (by omega)
    have hvd : vp_in (nI (dgt n code k)) 9 := vp_in_nI (by omega) (by decide)
    have hnz : ¬ G 75 10 = 0 := by
      rw [eg]
      exact nI_ne0 hn1 (by omega)
    have hsk : G 90 (dgt n code k) = nI (skC n code k (dgt n code k)) := (hxG.2.2.1.2 _ (by omega)).1
    have hx2 : Cx (up2 G 90 (dgt n code k) (nI (skC n code k (dgt n code k) + 1))) n (2 ^ n - 1) (skC n code (k + 1)) := by
      refine ⟨eg, ?_, ⟨hxG.2.2.1.1, fun c hc9 => ⟨?_, ?_⟩⟩, hxG.2.2.2⟩
      · rw [up2, mq_up (by decide)]
        exact hxG.2.1
      · show upd (G 90) (dgt n code k) (nI (skC n code k (dgt n code k) + 1)) c = _
        rw [skC_s]
        unfold upd
        by_cases e : c = dgt n code k
        · rw [if_pos e, if_pos e.symm, e]
        · rw [if_neg e, if_neg (fun z => e z.symm)]
          exact (hxG.2.2.1.2 c hc9).1
      · have := skC_le n code c (k + 1)
        omega
    have hce2 : CE (up2 G 90 (dgt n code k) (nI (skC n code k (dgt n code k) + 1))) F := by
      refine ⟨fun a h1 h2 h3 h4 h5 => ?_, fun j h1 h2 h3 h4 h5 => hce.2 j h1 h2 h3 h4 h5⟩
      have : up2 G 90 (dgt n code k) (nI (skC n code k (dgt n code k) + 1)) a = G a := if_neg h3
      rw [this]
      exact hce.1 a h1 h2 h3 h4 h5
    have J27 : ∀ y, y = b2i (rsC n code (k + 1) = true) → mm_Ex (d + 1) k_X6_strikes 27 (0, 0) [.ref 75, .int (nI code), .int (nI m), .int v, .int la, .int ri, .int (nI k), .int (nI (dgt n code k))] [.int y] (hH L xs J s G) K := fun y hy => by
      refine mm_run 60 ⟨hvd, hvd, hnz, ?_⟩
      refine kx ((hp1 (g := upd (G 90) (nI (dgt n code k)).toNatClampNeg (G 90 (nI (dgt n code k)).toNatClampNeg + 1)) rfl).trans (hHx (F' := up2 G 90 (dgt n code k) (nI (skC n code k (dgt n code k) + 1))) fun z => ?_)) (ih _ _ _ _ _ _ (nI_1 k) ?_ ?_ hy hce2 hx2)
      · rw [ed, hsk, nI_1]
        rfl
      · exact e2
      · rw [if_neg (by omega)]
        rfl
    have J26 : ¬ rsC n code (k + 1) = true → mm_Ex (d + 1) k_X6_strikes 26 (0, 0) [.ref 75, .int (nI code), .int (nI m), .int v, .int la, .int ri, .int (nI k), .int (nI (dgt n code k))] [] (hH L xs J s G) K := fun q => mm_run 5 (J27 0 (b2i_f q).symm)
    have er : rsC n code (k + 1) = (rsC n code k && decide (dgt n code k ≤ (if k = 0 then n else dgt n code (k - 1)))) := by
      rcases k with _ | k
      · have : dgt n code 0 ≤ n := by omega
        show true = (true && decide (dgt n code 0 ≤ n))
        rw [decide_eq_true this]
        rfl
      · rfl
    have hla2 : (if k = 0 then n else dgt n code (k - 1)) ≤ 9 := by
      split
      · exact h9
      · have : dgt n code (k - 1) < n := Nat.mod_lt _ hn1
        omega
    refine mm_run 60 (And.intro (fun q => absurd q (nleI hkm (by omega))) (fun _ => ⟨hnz, ?_⟩))
    rw [e1]
    refine And.intro (fun q => J26 ?_) (fun q => And.intro (fun q2 => J26 ?_) (fun q2 => J27 1 (b2i_t ?_).symm))
    · rw [hri, b2i_0] at q
      rw [er]
      simp [q]
    · rw [hla] at q2
      have q2 := (nI_ltI (by omega) (by omega)).mp q2
      rw [er, decide_eq_false (by omega)]
      simp
    · rw [hri] at q
      rw [hla] at q2
      have q2 : dgt n code k ≤ (if k = 0 then n else dgt n code (k - 1)) := Nat.le_of_not_lt fun z => q2 ((nI_ltI (by omega) (by omega)).mpr z)
      rw [er, b2i_p q, decide_eq_true q2]
      rfl
  · show nI code = nI (code / n ^ 0)
    rw [Nat.pow_zero, Nat.div_one]
  · show (S_all F n) 75 10 = nI n
    exact hn
theorem s_row3 {r m : Nat} (hr : r < 6) (hm : m ≤ 3) (hk : K (some (.int (nI m))) (hH L xs J s (upF (up2 F 76 r (nI m)) 77 (fil (F 77) (40 * r) 40 0)))) : mm_call mm_Ex (d + 2) k_X6_row [.ref 75, .int (nI r), .int (nI m)] (hH L xs J s F) K := by
  have er : (nI r).toNatClampNeg = r := tn_nI (by omega)
  have e : S_row F (nI r) (nI m) = (nI m, upF (up2 F 76 r (nI m)) 77 (fil (F 77) (40 * r) 40 0)) := by
    unfold S_row
    rw [if_pos ⟨⟨nle0 (by omega), (nI_leI (b := 5) (by omega) (by decide)).mpr (by omega)⟩, (nI_leI (b := 40) (by omega) (by decide)).mpr (by omega)⟩, if_pos (nle0 (by omega)), er]
  refine m_row ?_
  rw [e]
  exact hk
theorem files_end (hn : F 75 10 = nI n) (h9 : n ≤ 9) {r m code : Nat} {i aim : Int32} (hr : r < 6) (hm : m ≤ 3) (hcd : code < 2 ^ 30) (hn0 : 0 < m → 0 < n) (hk : K (some (.int (nI m))) (hH L xs J s (fiF F n r m code))) : mm_Ex (d + 6) k_X6_files 34 (0, 0) [.ref 75, .int i, .int (nI r), .int aim, .int (nI m), .int (nI code), .int (nI code), .int (nI m - 1)] [] (hH L xs J s (upF (up2 F 76 r (nI m)) 77 (fil (F 77) (40 * r) 40 0))) K := by
  obtain ⟨G, hG⟩ : ∃ G, up2 F 76 r (nI m) = G := ⟨_, rfl⟩
  unfold fiF at hk
  rw [hG] at hk ⊢
  have eg : ∀ g, (upF G 77 g) 75 10 = nI n := fun g => by
    show G 75 10 = nI n
    rw [← hG]
    exact hn
  refine lp (n := m) (P := fun j => ∀ (x v : Int32) h, x + nI (j + 1) = nI m → v = nI (code / n ^ j) → h = hH L xs J s (upF G 77 (rwF (fil (F 77) (40 * r) 40 0) r m n code j)) → mm_Ex (d + 6) k_X6_files 34 (0, 0) [.ref 75, .int i, .int (nI r), .int aim, .int (nI m), .int (nI code), .int v, .int x] [] h K) ?_ ?_ _ _ _ ?_ ?_ rfl
  · intro x v h hx hv hh
    subst hh
    have hx2 : x = -1 := (Int32.add_left_inj (nI (m + 1))).mp (hx.trans ((Int32.add_comm _ _).trans (pk_m1 m)).symm)
    subst hx2
    exact mm_run 60 (And.intro (fun _ => hk) (fun q => absurd (show (-1 : Int32) < 0 by decide) q))
  · intro j hj ih x v h hx hv hh
    subst hh
    have hn1 : 0 < n := hn0 (by omega)
    have hx2 : x = nI (m - 1 - j) := by
      have e := nI_add (m - 1 - j) (j + 1)
      rw [show m - 1 - j + (j + 1) = m by omega, ← hx] at e
      exact ((Int32.add_left_inj _).mp e).symm
    subst hx2
    have hvl : code / n ^ j < 2 ^ 31 := Nat.lt_of_le_of_lt (Nat.div_le_self _ _) (by omega)
    have hdl : dgt n code j < n := Nat.mod_lt _ hn1
    have e : (40 : Int32) * nI r + nI (m - 1 - j) = nI (40 * r + (m - 1 - j)) := ix (c := 40)
    obtain ⟨g, hg⟩ : ∃ g, rwF (fil (F 77) (40 * r) 40 0) r m n code j = g := ⟨_, rfl⟩
    have eg' := eg g
    rw [hg]
    have hnz : ¬ (upF G 77 g) 75 10 = 0 := by
      rw [eg']
      exact nI_ne0 hn1 (by omega)
    have e1 : v - v / (upF G 77 g) 75 10 * (upF G 77 g) 75 10 = nI (dgt n code j) := by
      rw [hv, eg']
      exact pk_rem hvl hn1 (by omega)
    have e2 : v / (upF G 77 g) 75 10 = nI (code / n ^ (j + 1)) := by
      rw [hv, eg', pk_div hvl hn1 (by omega), Nat.div_div_eq_div_mul, ← Nat.pow_succ]
    refine mm_run 60 (And.intro (fun q => absurd q (nI_pos (by omega))) (fun _ => ⟨hnz, by rw [e]; exact vp_in_nI (by omega) (by decide), hnz, ih _ _ _ ?_ e2 ?_⟩))
    · rw [← hx, ← nI_1 (j + 1)]
      show nI (m - 1 - j) + (-1) + (nI (j + 1) + 1) = _
      rw [Int32.add_comm (nI (j + 1)) 1, ← Int32.add_assoc, Int32.add_assoc (nI (m - 1 - j)) (-1) 1]
      show nI (m - 1 - j) + 0 + nI (j + 1) = _
      rw [Int32.add_zero]
    · refine (hp1 (g := upd g ((40 : Int32) * nI r + nI (m - 1 - j)).toNatClampNeg (v - v / (upF G 77 g) 75 10 * (upF G 77 g) 75 10)) rfl).trans (hHx fun a => ?_)
      rw [upF_same, e1, e, tn_nI (by omega), ← hg]
      rfl
  · show nI m - 1 + nI (0 + 1) = nI m
    rw [Nat.zero_add]
    show nI m - 1 + 1 = nI m
    exact Int32.sub_add_cancel _ _
  · rw [Nat.pow_zero, Nat.div_one]
theorem s_files (hn : F 75 10 = nI n) (hc : Cw n (mq F)) {i aim : Int32} {j r : Nat} (hj : ¬ aim = 2 → j < n ∧ i = nI j) (hr : r < 6) (hk : ∀ F', CE F' (S_files F n j r aim).2 → K (some (.int (S_files F n j r aim).1)) (hH L xs J s F')) : mm_call mm_Ex (d + 6) k_X6_files [.ref 75, .int i, .int (nI r), .int aim] (hH L xs J s F) K := by
  have h9 := hc.1
  unfold S_files at hk
  dsimp only at hk
  have hpow : ∀ m, m ≤ 3 → n ^ m ≤ 729 := fun m hm => Nat.le_trans (Nat.pow_le_pow_left h9 m) (Nat.le_trans (Nat.pow_le_pow_right (by decide) hm) (by decide))
  obtain ⟨M, hM⟩ : ∃ M, fa_first (fun m => decide (lev n (mq F) aim j m < n ^ m)) 4 = M := ⟨_, rfl⟩
  have hMl : M ≤ 4 := hM ▸ fa_first_le _ _
  rw [hM] at hk
  have hn0 : ∀ m code, code < n ^ m → 0 < m → 0 < n := fun m code h1 h2 => by
    rcases n with _ | n
    · rw [Nat.zero_pow h2] at h1
      omega
    · omega
  -- one code
  have one : ∀ m code (w6 w7 : Value) G, m ≤ 3 → code < n ^ m → CE G F → (∀ (w6 w7 : Value) G', fiP n (mq F) aim j m code = false → CE G' F → mm_Ex (d + 6) k_X6_files 57 (0, 0) [.ref 75, .int i, .int (nI r), .int aim, .int (nI m), .int (nI code), w6, w7] [] (hH L xs J s G') K) → (∀ G', fiP n (mq F) aim j m code = true → CE G' F → K (some (.int (nI m))) (hH L xs J s (fiF G' n r m code))) → mm_Ex (d + 6) k_X6_files 7 (0, 0) [.ref 75, .int i, .int (nI r), .int aim, .int (nI m), .int (nI code), w6, w7] [] (hH L xs J s G) K := by
    intro m code w6 w7 G hm hcd hG hno hyes
    have hp7 := hpow m hm
    have gn : G 75 10 = nI n := hG.nn.trans hn
    refine mm_run 60 ?_
    show mm_call mm_Ex (d + 5) k_X6_power [.int (G 75 10), .int (nI m)] _ _
    rw [gn]
    refine s_power (by omega) (And.intro (fun q => ?_) (fun _ => s_strikes (n := n) (code := code) gn (by rw [hG.mq]; exact hc) hm (by omega) (hn0 m code hcd) fun G1 hG1 hx1 => And.intro (fun q => ?_) (fun q => s_isReached (j := j) hx1 hj fun G2 hG2 => And.intro (fun q2 => ?_) (fun q2 => ?_))))
    · exact absurd q (nleI hcd (by omega))
    · rw [b2i_0] at q
      refine hno _ _ _ ?_ (hG1.trans hG)
      unfold fiP
      simp [q]
    · have e : mq G1 = mq F := hG1.mq.trans hG.mq
      rw [b2i_0, e] at q2
      refine hno _ _ _ ?_ (hG2.trans (hG1.trans hG))
      unfold fiP
      simp [q2]
    · have e : mq G1 = mq F := hG1.mq.trans hG.mq
      rw [e] at q2
      have hce : CE G2 F := hG2.trans (hG1.trans hG)
      have hy : fiP n (mq F) aim j m code = true := by
        unfold fiP
        rw [b2i_p q, b2i_p q2]
        rfl
      have g2n : G2 75 10 = nI n := hce.nn.trans hn
      exact s_row3 hr hm (files_end g2n h9 hr hm (by omega) (hn0 m code hcd) (hyes G2 hy hce))
  refine mm_run 60 (lp (n := M) (P := fun m => ∀ (x : Int32) (w5 w6 w7 : Value) G, x = nI m → CE G F → mm_Ex (d + 6) k_X6_files 2 (0, 0) [.ref 75, .int i, .int (nI r), .int aim, .int x, w5, w6, w7] [] (hH L xs J s G) K) ?_ ?_ _ _ _ _ _ rfl CE.rf)
  · intro x w5 w6 w7 G hx hG
    subst hx
    refine mm_run 60 (And.intro (fun q => ?_) (fun q => ?_))
    · have q := (nI_leI (a := 4) (by decide) (by omega)).mp q
      rw [if_neg (by omega)] at hk
      exact hk _ hG
    · have hlt : M < 4 := Nat.lt_of_not_le fun z => q ((nI_leI (a := 4) (by decide) (by omega)).mpr z)
      rw [if_pos hlt] at hk
      have hy : lev n (mq F) aim j M < n ^ M := by
        have := fa_first_yes (fun m => decide (lev n (mq F) aim j m < n ^ m)) 4 (by rw [hM]; exact hlt)
        rw [hM] at this
        simpa using this
      refine lp (n := lev n (mq F) aim j M) (P := fun c => ∀ (x : Int32) (w6 w7 : Value) G, x = nI c → CE G F → mm_Ex (d + 6) k_X6_files 7 (0, 0) [.ref 75, .int i, .int (nI r), .int aim, .int (nI M), .int x, w6, w7] [] (hH L xs J s G) K) ?_ ?_ _ _ _ _ rfl hG
      · intro x w6 w7 G hx hG
        subst hx
        refine one M _ _ _ G (by omega) hy hG (fun w6 w7 G' z hG' => ?_) (fun G' z hG' => hk _ hG'.fiF)
        have := fa_first_yes (fiP n (mq F) aim j M) (n ^ M) hy
        rw [show fa_first (fiP n (mq F) aim j M) (n ^ M) = lev n (mq F) aim j M from rfl, z] at this
        cases this
      · intro c hcl ih x w6 w7 G hx hG
        subst hx
        refine one M c _ _ G (by omega) (by omega) hG (fun w6 w7 G' z hG' => mm_run 60 (ih _ _ _ _ (nI_1 c) hG')) (fun G' z hG' => ?_)
        have := fa_first_no (fiP n (mq F) aim j M) (n ^ M) c hcl
        rw [z] at this
        cases this
  · intro m hm ih x w5 w6 w7 G hx hG
    subst hx
    have hno : lev n (mq F) aim j m = n ^ m := by
      have := fa_first_no (fun m => decide (lev n (mq F) aim j m < n ^ m)) 4 m (by rw [hM]; exact hm)
      have this : ¬ lev n (mq F) aim j m < n ^ m := by simpa using this
      have h2 : lev n (mq F) aim j m ≤ n ^ m := fa_first_le _ _
      omega
    have hp7 := hpow m (by omega)
    refine mm_run 60 (And.intro (fun q => absurd q (nleI (b := 4) (by omega) (by decide))) (fun _ => ?_))
    refine lp (n := n ^ m) (P := fun c => ∀ (x : Int32) (w6 w7 : Value) G, x = nI c → CE G F → mm_Ex (d + 6) k_X6_files 7 (0, 0) [.ref 75, .int i, .int (nI r), .int aim, .int (nI m), .int x, w6, w7] [] (hH L xs J s G) K) ?_ ?_ _ _ _ _ rfl hG
    · intro x w6 w7 G hx hG
      subst hx
      have gn : G 75 10 = nI n := hG.nn.trans hn
      refine mm_run 60 ?_
      show mm_call mm_Ex (d + 5) k_X6_power [.int (G 75 10), .int (nI m)] _ _
      rw [gn]
      exact s_power (by omega) (And.intro (fun _ => ih _ _ _ _ _ (nI_1 m) hG) (fun q => absurd ((nI_leI (by omega) (by omega)).mpr (Nat.le_refl _)) q))
    · intro c hcl ih2 x w6 w7 G hx hG
      subst hx
      refine one m c _ _ G (by omega) hcl hG (fun w6 w7 G' z hG' => mm_run 60 (ih2 _ _ _ _ (nI_1 c) hG')) (fun G' z hG' => ?_)
      have := fa_first_no (fiP n (mq F) aim j m) (n ^ m) c (by rw [show fa_first (fiP n (mq F) aim j m) (n ^ m) = lev n (mq F) aim j m from rfl, hno]; exact hcl)
      rw [z] at this
      cases this
theorem m_fell (hn : F 75 10 = nI n) (hc : Cw n (mq F)) {i r : Int32} (hk : ∀ F', CE F' (S_fell F i r 0).2 → K (some (.int (S_fell F i r 0).1)) (hH L xs J s F')) : mm_call mm_Ex (d + 7) k_X6_fell [.ref 75, .int i, .int r] (hH L xs J s F) K := by
  have h9 := hc.1
  have en : (F 75 10).toNatClampNeg = n := by rw [hn]; exact tn_nI (by omega)
  unfold S_fell at hk
  rw [en] at hk
  have B : ¬ ((0 ≤ i ∧ i ≤ F 75 10 - 1) ∧ (0 ≤ r ∧ r ≤ 5)) → mm_Ex (d + 7) k_X6_fell 13 (0, 0) [.ref 75, .int i, .int r] [] (hH L xs J s F) K := by
    intro c
    rw [if_neg c] at hk
    exact mm_run 5 (mm_run 5 (hk _ CE.rf))
  refine mm_run 60 (s_isRuling (And.intro (fun c => B fun q => b2i_0.mp c q.1) (fun c => s_isRow (And.intro (fun c2 => B fun q => b2i_0.mp c2 q.2) (fun c2 => ?_)))))
  rw [if_pos ⟨not_not_b c, not_not_b c2⟩] at hk
  rw [hn] at c
  obtain ⟨j, hj, rfl⟩ := isRu_of h9 c
  obtain ⟨k, hk6, rfl⟩ := isRow_of c2
  rw [tn_nI (n := j) (by omega), tn_nI (n := k) (by omega)] at hk
  exact s_files (j := j) hn hc (fun _ => ⟨hj, rfl⟩) hk6 fun F' hF => mm_run 5 (hk _ hF)
theorem m_guard (hn : F 75 10 = nI n) (hc : Cw n (mq F)) {i r : Int32} (hk : ∀ F', CE F' (S_fell F i r 1).2 → K (some (.int (S_fell F i r 1).1)) (hH L xs J s F')) : mm_call mm_Ex (d + 7) k_X6_guard [.ref 75, .int i, .int r] (hH L xs J s F) K := by
  have h9 := hc.1
  have en : (F 75 10).toNatClampNeg = n := by rw [hn]; exact tn_nI (by omega)
  unfold S_fell at hk
  rw [en] at hk
  have B : ¬ ((0 ≤ i ∧ i ≤ F 75 10 - 1) ∧ (0 ≤ r ∧ r ≤ 5)) → mm_Ex (d + 7) k_X6_guard 13 (0, 0) [.ref 75, .int i, .int r] [] (hH L xs J s F) K := by
    intro c
    rw [if_neg c] at hk
    exact mm_run 5 (mm_run 5 (hk _ CE.rf))
  refine mm_run 60 (s_isRuling (And.intro (fun c => B fun q => b2i_0.mp c q.1) (fun c => s_isRow (And.intro (fun c2 => B fun q => b2i_0.mp c2 q.2) (fun c2 => ?_)))))
  rw [if_pos ⟨not_not_b c, not_not_b c2⟩] at hk
  rw [hn] at c
  obtain ⟨j, hj, rfl⟩ := isRu_of h9 c
  obtain ⟨k, hk6, rfl⟩ := isRow_of c2
  rw [tn_nI (n := j) (by omega), tn_nI (n := k) (by omega)] at hk
  exact s_files (j := j) hn hc (fun _ => ⟨hj, rfl⟩) hk6 fun F' hF => mm_run 5 (hk _ hF)
theorem m_settle (hn : F 75 10 = nI n) (hc : Cw n (mq F)) {r : Int32} (hk : ∀ F', CE F' (S_settle F r).2 → K (some (.int (S_settle F r).1)) (hH L xs J s F')) : mm_call mm_Ex (d + 7) k_X6_settle [.ref 75, .int r] (hH L xs J s F) K := by
  have h9 := hc.1
  have en : (F 75 10).toNatClampNeg = n := by rw [hn]; exact tn_nI (by omega)
  unfold S_settle at hk
  rw [en] at hk
  refine mm_run 60 (s_isRow (And.intro (fun c => ?_) (fun c => ?_)))
  · rw [if_neg (b2i_0.mp c)] at hk
    exact mm_run 5 (hk _ CE.rf)
  · rw [if_pos (not_not_b c)] at hk
    obtain ⟨k, hk6, rfl⟩ := isRow_of c
    rw [tn_nI (n := k) (by omega)] at hk
    exact s_files (j := 0) hn hc (fun q => absurd rfl q) hk6 fun F' hF => mm_run 5 (hk _ hF)
end MFi
