/-! the class: ruling, reverse, marks, file, strike, lots -/
theorem XRc.ctU {F F1 M M1 : Nat → Nat → Int32} (h : XRc F M) (h1 : ∀ k, k < 75 → ¬ (5 ≤ k ∧ k ≤ 11) → ¬ (13 ≤ k ∧ k < 33) → F1 k = F k) (h2 : ∀ k, 76 ≤ k → ¬ (82 ≤ k ∧ k ≤ 87) → M1 k = M k) (h3 : M1 75 5 = M 75 5) (h4 : M1 75 7 = M 75 7) (h5 : XCt F1 M1) : XRc F1 M1 := by
  obtain ⟨a, b, c, e, f⟩ := h
  refine ⟨fun r hr => ?_, fun t ht => ?_, h5, fun k hk => ?_, ?_⟩
  · have := a r hr
    unfold XRow at this ⊢
    rw [h1 (34 + 2 * r) (by omega) (by omega) (by omega), h1 (35 + 2 * r) (by omega) (by omega) (by omega), h2 76 (by decide) (by decide), h2 77 (by decide) (by decide)]
    exact this
  · have := b t ht
    unfold XTxt at this ⊢
    rw [h1 (46 + 2 * t) (by omega) (by omega) (by omega), h1 (47 + 2 * t) (by omega) (by omega) (by omega), h2 78 (by decide) (by decide), h2 79 (by decide) (by decide)]
    exact this
  · have := e k hk
    unfold XKp at this ⊢
    rw [h1 (54 + 7 * k) (by omega) (by omega) (by omega), h2 88 (by decide) (by decide), h2 89 (by decide) (by decide)]
    rcases this with z | ⟨m, m0, m9, k1, k2, k3⟩
    · exact Or.inl z
    · refine Or.inr ⟨m, m0, m9, k1, k2, fun w hw i hi => ?_⟩
      rw [h1 (55 + 7 * k + w) (by omega) (by omega) (by omega)]
      exact k3 w hw i hi
  · unfold XTd at f ⊢
    rw [h1 2 (by decide) (by decide) (by decide), h1 33 (by decide) (by decide) (by decide), h3, h4, h2 81 (by decide) (by decide)]
    exact f
theorem XRc.adds {F M : Nat → Nat → Int32} (h : XRc F M) {n : Nat} (hn : F 5 6 = nI n) (h9 : n < 9) {a b c e f g : Int32} : XRc (add7 F 5 n (itF a b c e f g)) (S_adds M n a b c e f g) := by
  have hk : ∀ k, S_adds M n a b c e f g k = if 82 ≤ k ∧ k ≤ 87 then upd (M k) n (itF a b c e f g (k - 82)) else if k = 75 then upd (M 75) 10 (nI (n + 1)) else M k := S_adds_k
  refine h.ctU (fun k k1 k2 k3 => ?_) (fun k k1 k2 => ?_) ?_ ?_ ⟨n + 1, by omega, rfl, ?_, fun w hw i hi => ?_⟩
  · unfold add7
    rw [if_neg (by omega), if_neg (by omega)]
  · rw [hk, if_neg k2, if_neg (by omega)]
  · rw [hk, if_neg (by decide), if_pos rfl, upd_ne (by decide)]
  · rw [hk, if_neg (by decide), if_pos rfl, upd_ne (by decide)]
  · rw [hk, if_neg (by decide), if_pos rfl, upd_at]
  · unfold add7
    rw [if_pos (by omega), hk, if_pos (by omega), show 6 + w - (5 + 1) = w by omega, show 82 + w - 82 = w by omega]
    by_cases e2 : i = n
    · rw [e2, upd_at, upd_at]
    · rw [upd_ne e2, upd_ne e2]
      obtain ⟨m, m9, e1, e3, e4⟩ := h.2.2.1
      have : m = n := (nI_eq (by omega) (by omega)).mp (e1.symm.trans hn)
      exact e4 w hw i (by omega)
theorem Cw_add {n : Nat} {Q Q' : Rq} (h : Cw n Q) (h9 : n < 9) (e : ∀ w, w < 6 → ∀ i, i < n → Q' w i = Q w i) (hnew : (∃ k, k ≤ 5 ∧ Q' 0 n = nI k) ∧ (∃ d, d ≤ 9 ∧ Q' 1 n = nI d) ∧ (Q' 2 n = 0 ∨ Q' 2 n = 1) ∧ ((Q' 3 n = -9 ∧ Q' 4 n = 0) ∨ ∃ j, j < n ∧ Q' 3 n = nI j ∧ (Q' 4 n = 1 ∨ Q' 4 n = -1) ∧ Q' 1 j < Q' 1 n) ∧ ∃ m, m < 32 ∧ Q' 5 n = nI m) : Cw (n + 1) Q' := by
  refine ⟨by omega, fun i hi => ?_⟩
  by_cases e2 : i = n
  · rw [e2]; exact hnew
  · obtain ⟨a, b, c, f, g⟩ := h.2 i (by omega)
    rw [e 0 (by decide) i (by omega), e 1 (by decide) i (by omega), e 2 (by decide) i (by omega), e 3 (by decide) i (by omega), e 4 (by decide) i (by omega), e 5 (by decide) i (by omega)]
    refine ⟨a, b, c, ?_, g⟩
    rcases f with f | ⟨j, j1, j2, j3, j4⟩
    · exact Or.inl f
    · exact Or.inr ⟨j, j1, j2, j3, by rw [e 1 (by decide) j (by omega)]; exact j4⟩
theorem mq_adds {M : Nat → Nat → Int32} {n : Nat} {a b c e f g : Int32} {w : Nat} (hw : w < 6) (i : Nat) : mq (S_adds M n a b c e f g) w i = if i = n then itF a b c e f g w else mq M w i := by
  match w, hw with
  | 0, _ => rfl
  | 1, _ => rfl
  | 2, _ => rfl
  | 3, _ => rfl
  | 4, _ => rfl
  | 5, _ => rfl
theorem Cw_adds {M : Nat → Nat → Int32} {n : Nat} (h : Cw n (mq M)) (h9 : n < 9) {a b c e f g : Int32} (ha : ∃ k, k ≤ 5 ∧ a = nI k) (hb : ∃ d, d ≤ 9 ∧ b = nI d) (hc : c = 0 ∨ c = 1) (hef : (e = -9 ∧ f = 0) ∨ ∃ j, j < n ∧ e = nI j ∧ (f = 1 ∨ f = -1) ∧ mq M 1 j < b) (hg : ∃ m, m < 32 ∧ g = nI m) : Cw (n + 1) (mq (S_adds M n a b c e f g)) := by
  refine Cw_add h h9 (fun w hw i hi => by rw [mq_adds hw, if_neg (by omega)]) ?_
  rw [mq_adds (by decide), mq_adds (by decide), mq_adds (by decide), mq_adds (by decide), mq_adds (by decide), mq_adds (by decide)]
  simp only [if_pos]
  refine ⟨ha, hb, hc, ?_, hg⟩
  rcases hef with z | ⟨j, j1, j2, j3, j4⟩
  · exact Or.inl z
  · refine Or.inr ⟨j, j1, j2, j3, ?_⟩
    rw [mq_adds (by decide), if_neg (by omega)]
    exact j4
theorem cnt_two {p r : Nat → Bool} : ∀ {n : Nat}, (∀ k, k < n → ¬ (p k = true ∧ r k = true)) → fa_cnt p n + fa_cnt r n = fa_cnt (fun k => p k || r k) n
  | 0, _ => rfl
  | n + 1, h => by
    have ih := cnt_two (n := n) (p := p) (r := r) (fun k hk => h k (by omega))
    have hn := h n (by omega)
    unfold fa_cnt
    rw [← ih]
    cases hp : p n <;> cases hr : r n
    · simp
    · simp; omega
    · simp; omega
    · exact absurd ⟨hp, hr⟩ hn
theorem sshrI {x k : Nat} (hx : x < 2 ^ 31) (hk : k < 31) : nI x >>> (nI k &&& 31) = nI (x / 2 ^ k) := by
  apply b_ext
  intro i hi
  rw [b_sshr k (by omega) _ hi, bt_nI, bt_nI, bt_nI, Nat.testBit_div_two_pow]
  have hb : ∀ j, 31 ≤ j → x.testBit j = false := fun j hj => Nat.testBit_lt_two_pow (Nat.lt_of_lt_of_le hx (Nat.pow_le_pow_right (by decide) hj))
  by_cases c : k + i < 32
  · rw [if_pos c, Nat.add_comm i k]
    simp [hi]
    omega
  · rw [if_neg c, hb 31 (by decide), hb (i + k) (by omega)]
    simp
section XCl
variable {d L s : Nat} {xs : Nat → Int32} {J : Nat → Int64} {F : Nat → Nat → Int32} {K : mm_K} {h : mm_H} {n : Nat} {q : Rq}
theorem x_detail (hc : CC F n q) {i : Nat} (hi : i < n) {what : Int32} (hk : K (some (.int (toldV n q (nI i) what))) (hH L xs J s F)) : mm_call mm_Ex (d + 1) k_X1_detail [.ref 5, .int (nI i), .int what] (hH L xs J s F) K := by
  have h9 := hc.2.1.1
  have hv : vp_in (nI i) 9 := vp_in_nI (by omega) (by decide)
  have ei : (nI i).toNatClampNeg = i := tn_nI (by omega)
  have ew : ∀ w, w < 6 → F (6 + w) (nI i).toNatClampNeg = q w (nI i).toNatClampNeg := fun w hw => by rw [ei]; exact hc.2.2 w hw i hi
  unfold toldV at hk
  refine mm_run 60 ⟨fun c => ⟨hv, ?_⟩, fun c0 => ⟨fun c => ⟨hv, ?_⟩, fun c1 => ⟨fun c => ⟨hv, ?_⟩, fun c2 => ⟨fun c => ⟨hv, ?_⟩, fun c3 => ⟨fun c => ⟨hv, ?_⟩, fun c4 => ⟨fun c => ⟨hv, ?_⟩, fun c5 => ?_⟩⟩⟩⟩⟩⟩
  · rw [if_pos c, ← ew 0 (by decide)] at hk
    exact hk
  · rw [if_neg c0, if_pos c, ← ew 1 (by decide)] at hk
    exact hk
  · rw [if_neg c0, if_neg c1, if_pos c, ← ew 2 (by decide)] at hk
    exact hk
  · rw [if_neg c0, if_neg c1, if_neg c2, if_pos c, ← ew 3 (by decide)] at hk
    exact hk
  · rw [if_neg c0, if_neg c1, if_neg c2, if_neg c3, if_pos c, ← ew 4 (by decide)] at hk
    exact hk
  · rw [if_neg c0, if_neg c1, if_neg c2, if_neg c3, if_neg c4, if_pos c, ← ew 5 (by decide)] at hk
    exact hk
  · rw [if_neg c0, if_neg c1, if_neg c2, if_neg c3, if_neg c4, if_neg c5] at hk
    refine x_citations hc (x_citations hc ?_)
    have e : fa_cnt (fun j => decide (q 3 j = nI i) && decide (q 4 j = 1)) n + fa_cnt (fun j => decide (q 3 j = nI i) && decide (q 4 j = -1)) n = citeN n q (nI i) 0 := by
      rw [cnt_two (fun k hk => ?_)]
      · unfold citeN
        refine fa_cnt_cong fun k hk => ?_
        by_cases e : q 3 k = nI i
        · rcases (hc.2.1.2 k hk).2.2.2.1 with ⟨y, -⟩ | ⟨j, j1, j2, j3, -⟩
          · rw [y] at e
            exact absurd e.symm (nI_n9 (by omega))
          · rcases j3 with j3 | j3 <;> simp [e, j3]
        · simp [e]
      · simp only [Bool.and_eq_true, decide_eq_true_eq]
        intro y
        rw [y.1.2] at y
        exact absurd y.2.2 (by decide)
    rw [← e, ← nI_add] at hk
    exact hk
theorem in7 {x : Int32} : (0 ≤ x ∧ x < 7) ↔ (0 ≤ x ∧ x ≤ 6) := lt_in (n := 7) (by decide)
theorem in2 {x : Int32} : (0 ≤ x ∧ x < 2) ↔ (0 ≤ x ∧ x ≤ 1) := lt_in (n := 2) (by decide)
theorem x_ruling (hx : XRc F F) (hn : F 75 10 = nI n) (hc : Cw n (mq F)) {i what : Int32} (hk : ∀ F1, XT F F1 (S_ruling F i what).2 → K (some (.int (S_ruling F i what).1)) (hH L xs J s F1)) : mm_call mm_Ex (d + 5) k_X5_ruling [.ref 2, .int i, .int what] (hH L xs J s F) K := by
  have hcc := hx.cc hn hc
  have h9 := hc.1
  unfold S_ruling at hk
  rw [en_of hn h9, hn] at hk
  have B : ¬ ((0 ≤ i ∧ i ≤ nI n - 1) ∧ (0 ≤ what ∧ what ≤ 6)) → mm_Ex (d + 5) k_X5_ruling 9 (0, 0) [.ref 2, .int i, .int what] [] (hH L xs J s F) K := fun c => by
    rw [if_neg c] at hk
    exact mm_run 5 (hk _ (XT.same hx))
  refine mm_run 60 (x_has0 hcc (fun j hj e hh => And.intro (fun z => absurd z (by decide)) (fun _ => x_within (And.intro (fun c => ?_) (fun c => B fun y => b2i_0.mp c (in7.mpr y.2))))) (fun hh => And.intro (fun _ => B fun y => hh y.1) (fun z => absurd rfl z)))
  rw [if_pos ⟨hh, in7.mp (b2i_p c)⟩] at hk
  subst e
  exact x_detail hcc hj (x_tell (hk _ ((XT.same hx).te)))
theorem XRc.one {F : Nat → Nat → Int32} (hx : XRc F F) (hn : F 75 10 = nI n) (h9 : n ≤ 9) {w j : Nat} (hw : w < 6) (v : Int32) : XRc (up2 F (6 + w) j v) (up2 F (82 + w) j v) := by
  obtain ⟨m, m9, e1, e2, e3⟩ := hx.2.2.1
  refine hx.ctU (fun k h1 h2 h3 => up2_ne (by omega)) (fun k h1 h2 => up2_ne (by omega)) (by rw [up2_ne (by omega)]) (by rw [up2_ne (by omega)]) ⟨m, m9, by rw [up2_ne (by omega)]; exact e1, by rw [up2_ne (by omega)]; exact e2, fun w' hw' i hi => ?_⟩
  by_cases e : w' = w
  · subst e
    by_cases ei : i = j
    · subst ei
      rw [up2_at, up2_at]
    · rw [up2_ne2 ei, up2_ne2 ei]
      exact e3 w' hw' i hi
  · rw [up2_ne (by omega), up2_ne (by omega)]
    exact e3 w' hw' i hi
theorem x_reverse (hx : XRc F F) (hn : F 75 10 = nI n) (hc : Cw n (mq F)) {i v : Int32} (hk : ∀ F1, XT F F1 (S_reverse F i v).2 → K (some (.int (S_reverse F i v).1)) (hH L xs J s F1)) : mm_call mm_Ex (d + 5) k_X5_reverse [.ref 2, .int i, .int v] (hH L xs J s F) K := by
  have hcc := hx.cc hn hc
  have h9 := hc.1
  unfold S_reverse at hk
  rw [hn] at hk
  have B : ¬ ((0 ≤ i ∧ i ≤ nI n - 1) ∧ (0 ≤ v ∧ v ≤ 1)) → mm_Ex (d + 5) k_X5_reverse 9 (0, 0) [.ref 2, .int i, .int v, .null] [] (hH L xs J s F) K := fun c => by
    rw [if_neg c] at hk
    exact mm_run 5 (hk _ (XT.same hx))
  refine mm_run 60 (x_has0 hcc (fun j hj e hh => And.intro (fun z => absurd z (by decide)) (fun _ => x_within (And.intro (fun c => ?_) (fun c => B fun y => b2i_0.mp c (in2.mpr y.2))))) (fun hh => And.intro (fun _ => B fun y => hh y.1) (fun z => absurd rfl z)))
  rw [if_pos ⟨hh, in2.mp (b2i_p c)⟩] at hk
  subst e
  have ej : (nI j).toNatClampNeg = j := tn_nI (by omega)
  have hv : vp_in (nI j) 9 := vp_in_nI (by omega) (by decide)
  rw [ej] at hk
  have e8 : F 8 (nI j).toNatClampNeg = F 84 j := by rw [ej]; exact hcc.2.2 2 (by decide) j hj
  rw [← e8] at hk
  refine ⟨hv, hv, kh (K := K) (hp1 (F := F) (k := 8) (g := upd (F 8) j v) (by show mI 9 (upd (F 8) j v) = mI 9 (upd (F 8) (nI j).toNatClampNeg v); rw [ej])) (hk _ ⟨fun k hk => up2_ne (by omega), hx.one (w := 2) hn h9 (by decide) v⟩)⟩
theorem x_marks (hx : XRc F F) (hn : F 75 10 = nI n) (hc : Cw n (mq F)) {i v : Int32} (hk : ∀ F1, XT F F1 (S_marks F i v).2 → K (some (.int (S_marks F i v).1)) (hH L xs J s F1)) : mm_call mm_Ex (d + 5) k_X5_marks [.ref 2, .int i, .int v] (hH L xs J s F) K := by
  have hcc := hx.cc hn hc
  have h9 := hc.1
  unfold S_marks at hk
  rw [hn] at hk
  have B : ¬ ((0 ≤ i ∧ i ≤ nI n - 1) ∧ (0 ≤ v ∧ v ≤ 31)) → mm_Ex (d + 5) k_X5_marks 9 (0, 0) [.ref 2, .int i, .int v, .null] [] (hH L xs J s F) K := fun c => by
    rw [if_neg c] at hk
    exact mm_run 5 (hk _ (XT.same hx))
  refine mm_run 60 (x_has0 hcc (fun j hj e hh => And.intro (fun z => absurd z (by decide)) (fun _ => x_within (And.intro (fun c => ?_) (fun c => B fun y => b2i_0.mp c (in32.mpr y.2))))) (fun hh => And.intro (fun _ => B fun y => hh y.1) (fun z => absurd rfl z)))
  rw [if_pos ⟨hh, in32.mp (b2i_p c)⟩] at hk
  subst e
  have ej : (nI j).toNatClampNeg = j := tn_nI (by omega)
  have hv : vp_in (nI j) 9 := vp_in_nI (by omega) (by decide)
  rw [ej] at hk
  have e8 : F 11 (nI j).toNatClampNeg = F 87 j := by rw [ej]; exact hcc.2.2 5 (by decide) j hj
  rw [← e8] at hk
  refine ⟨hv, hv, kh (K := K) (hp1 (F := F) (k := 11) (g := upd (F 11) j v) (by show mI 9 (upd (F 11) j v) = mI 9 (upd (F 11) (nI j).toNatClampNeg v); rw [ej])) (hk _ ⟨fun k hk => up2_ne (by omega), hx.one (w := 5) hn h9 (by decide) v⟩)⟩
theorem x_strike (hx : XRc F F) (hn : F 75 10 = nI n) (hc : Cw n (mq F)) {m : Int32} (hk : ∀ F1, XT F F1 (S_strike F m).2 → K (some (.int (S_strike F m).1)) (hH L xs J s F1)) : mm_call mm_Ex (d + 5) k_X5_strike [.ref 2, .int m] (hH L xs J s F) K := by
  have hcc := hx.cc hn hc
  have h9 := hc.1
  have e5 := hcc.1
  unfold S_strike at hk
  rw [hn] at hk
  have B : ¬ (0 ≤ m ∧ m ≤ nI n) → mm_Ex (d + 5) k_X5_strike 7 (0, 0) [.ref 2, .int m, .null] [] (hH L xs J s F) K := fun c => by
    rw [if_neg c] at hk
    exact mm_run 5 (hk _ (XT.same hx))
  refine mm_run 60 (And.intro (fun c => B fun y => Int32.not_le.mpr c y.1) (fun c => And.intro (fun c2 => ?_) (fun c2 => B fun y => c2 (by show m ≤ F 5 6; rw [e5]; exact y.2))))
  have c : 0 ≤ m := Int32.not_lt.mp c
  have c2 : m ≤ nI n := e5 ▸ c2
  rw [if_pos ⟨c, c2⟩] at hk
  obtain ⟨t, ht, rfl⟩ := in_nI (by omega) c c2
  rw [← e5] at hk
  refine x_cutTo_5 e5 h9 ht (hk _ ⟨fun k hk => up2_ne (by omega), hx.ctU (fun k h1 h2 h3 => up2_ne (by omega)) (fun k h1 h2 => up2_ne (by omega)) rfl rfl ⟨t, by omega, rfl, rfl, fun w hw i hi => ?_⟩⟩)
  show up2 F 5 6 (nI t) (6 + w) i = up2 F 75 10 (nI t) (82 + w) i
  rw [up2_ne (by omega), up2_ne (by omega)]
  obtain ⟨m, m9, e1, e2, e3⟩ := hx.2.2.1
  have : m = n := (nI_eq (by omega) (by omega)).mp (e1.symm.trans e5)
  exact e3 w hw i (by omega)
theorem x_canBeCited (hc : CC F n q) {i la : Int32} (hk : K (some (.int (b2i ((0 ≤ i ∧ i ≤ nI n - 1) ∧ q 1 i.toNatClampNeg < la)))) (hH L xs J s F)) : mm_call mm_Ex (d + 2) k_X1_canBeCited [.ref 5, .int i, .int la] (hH L xs J s F) K := by
  have h9 := hc.2.1.1
  have J13 : ∀ v, v = b2i ((0 ≤ i ∧ i ≤ nI n - 1) ∧ q 1 i.toNatClampNeg < la) → mm_Ex (d + 2) k_X1_canBeCited 13 (0, 0) [.ref 5, .int i, .int la] [.int v] (hH L xs J s F) K := fun v e => by
    refine mm_run 5 ⟨?_, ?_⟩
    · rw [e]; exact b2i_01
    · rw [e]; exact hk
  have J12 : ¬ ((0 ≤ i ∧ i ≤ nI n - 1) ∧ q 1 i.toNatClampNeg < la) → mm_Ex (d + 2) k_X1_canBeCited 12 (0, 0) [.ref 5, .int i, .int la] [] (hH L xs J s F) K := fun y => mm_run 5 (J13 0 (b2i_f y).symm)
  refine mm_run 60 (x_has0 hc (fun j hj e hh => And.intro (fun z => absurd z (by decide)) (fun _ => ⟨by subst e; exact vp_in_nI (by omega) (by decide), And.intro (fun c => J12 ?_) (fun c => J13 1 (b2i_t ?_).symm)⟩)) (fun hh => And.intro (fun _ => J12 fun y => hh y.1) (fun z => absurd rfl z)))
  · have e1 : F 7 i.toNatClampNeg = q 1 i.toNatClampNeg := by rw [e, tn_nI (by omega)]; exact hc.2.2 1 (by decide) j hj
    have c : la ≤ q 1 i.toNatClampNeg := e1 ▸ c
    exact fun y => Int32.not_le.mpr y.2 c
  · have e1 : F 7 i.toNatClampNeg = q 1 i.toNatClampNeg := by rw [e, tn_nI (by omega)]; exact hc.2.2 1 (by decide) j hj
    have c : ¬ la ≤ q 1 i.toNatClampNeg := e1 ▸ c
    exact ⟨hh, Int32.not_le.mp c⟩
theorem x_file (hx : XRc F F) (hn : F 75 10 = nI n) (hc : Cw n (mq F)) {k dy v c hw : Int32} (hk : ∀ F1, XT F F1 (S_file F k dy v c hw).2 → K (some (.int (S_file F k dy v c hw).1)) (hH L xs J s F1)) : mm_call mm_Ex (d + 5) k_X5_file [.ref 2, .int k, .int dy, .int v, .int c, .int hw] (hH L xs J s F) K := by
  have hcc := hx.cc hn hc
  have h9 := hc.1
  have e5 := hcc.1
  unfold S_file at hk
  rw [en_of hn h9, hn] at hk
  have cond : (((0 ≤ c ∧ c ≤ nI n - 1) ∧ (hw = 1 ∨ hw = -1) ∧ F 83 c.toNatClampNeg < dy) ∨ (¬ ((0 ≤ c ∧ c ≤ nI n - 1) ∧ (hw = 1 ∨ hw = -1)) ∧ c = -9 ∧ hw = 0)) ↔ ((c = -9 ∧ hw = 0) ∨ (((0 ≤ c ∧ c ≤ nI n - 1) ∧ mq F 1 c.toNatClampNeg < dy) ∧ (hw = 1 ∨ hw = -1))) := by
    constructor
    · rintro (⟨a, b, e⟩ | ⟨a, b⟩)
      · exact Or.inr ⟨⟨a, e⟩, b⟩
      · exact Or.inl b
    · rintro (b | ⟨⟨a, e⟩, b⟩)
      · refine Or.inr ⟨fun y => ?_, b⟩
        rw [b.1] at y
        exact absurd y.1.1 (by decide)
      · exact Or.inl ⟨a, b, e⟩
  have B12 : ¬ ((0 ≤ k ∧ k ≤ 5) ∧ (0 ≤ dy ∧ dy ≤ 9) ∧ (0 ≤ v ∧ v ≤ 1)) → mm_Ex (d + 5) k_X5_file 12 (0, 0) [.ref 2, .int k, .int dy, .int v, .int c, .int hw, .null, .null] [] (hH L xs J s F) K := fun z => by
    rw [if_neg (fun y => z y.1)] at hk
    exact mm_run 5 (hk _ (XT.same hx))
  refine mm_run 60 (x_within (And.intro (fun z => B12 fun y => b2i_0.mp z (in6.mpr y.1)) (fun z1 => x_within (And.intro (fun z => B12 fun y => b2i_0.mp z (in10.mpr y.2.1)) (fun z2 => x_within (And.intro (fun z3 => ?_) (fun z => B12 fun y => b2i_0.mp z (in2.mpr y.2.2))))))))
  have hA : (0 ≤ k ∧ k ≤ 5) ∧ (0 ≤ dy ∧ dy ≤ 9) ∧ (0 ≤ v ∧ v ≤ 1) := ⟨in6.mp (b2i_p z1), in10.mp (b2i_p z2), in2.mp (b2i_p z3)⟩
  have J45 : ((c = -9 ∧ hw = 0) ∨ (((0 ≤ c ∧ c ≤ nI n - 1) ∧ mq F 1 c.toNatClampNeg < dy) ∧ (hw = 1 ∨ hw = -1))) → ∀ a b : Int32, mm_Ex (d + 5) k_X5_file 45 (0, 0) [.ref 2, .int k, .int dy, .int v, .int c, .int hw, .int a, .int b] [] (hH L xs J s F) K := fun hz a b => by
    rw [if_pos ⟨hA, cond.mpr hz⟩] at hk
    refine mm_run 60 (And.intro (fun z => ?_) (fun z => ?_))
    · have z : nI n < nI 9 := e5 ▸ z
      have z := (nI_ltI (by omega) (by decide)).mp z
      have n9 : ¬ nI n = 9 := fun y => absurd ((nI_eq (a := n) (b := 9) (by omega) (by decide)).mp y) (by omega)
      rw [if_neg n9] at hk
      refine x_add_5 e5 z ?_
      have := hk _ ⟨fun k' hk' => by unfold add7; rw [if_neg (by omega), if_neg (by omega)], hx.adds e5 z⟩
      rw [← nI_pred] at this
      exact this
    · have z : ¬ nI n < nI 9 := e5 ▸ z
      have z : ¬ n < 9 := fun y => z ((nI_ltI (by omega) (by decide)).mpr y)
      rw [if_pos (by rw [show n = 9 by omega]; rfl)] at hk
      exact hk _ (XT.same hx)
  have J38 : ∀ a b : Int32, (¬ a = 0 ↔ (c = -9 ∧ hw = 0)) → (¬ b = 0 ↔ (((0 ≤ c ∧ c ≤ nI n - 1) ∧ mq F 1 c.toNatClampNeg < dy) ∧ (hw = 1 ∨ hw = -1))) → ∀ w7 : Value, mm_Ex (d + 5) k_X5_file 38 (0, 0) [.ref 2, .int k, .int dy, .int v, .int c, .int hw, .int a, w7] [.int b] (hH L xs J s F) K := fun a b ha hb w7 => by
    refine mm_run 60 (And.intro (fun z => J45 (Or.inl (ha.mp z)) _ _) (fun z => And.intro (fun z2 => J45 (Or.inr (hb.mp z2)) _ _) (fun z2 => ?_)))
    rw [if_neg (fun y => (cond.mp y.2).elim (fun y => ha.mpr y z) (fun y => hb.mpr y z2))] at hk
    exact hk _ (XT.same hx)
  have J22 : ∀ a : Int32, (¬ a = 0 ↔ (c = -9 ∧ hw = 0)) → mm_Ex (d + 5) k_X5_file 22 (0, 0) [.ref 2, .int k, .int dy, .int v, .int c, .int hw, .null, .null] [.int a] (hH L xs J s F) K := fun a ha => by
    have J37 : ¬ (((0 ≤ c ∧ c ≤ nI n - 1) ∧ mq F 1 c.toNatClampNeg < dy) ∧ (hw = 1 ∨ hw = -1)) → mm_Ex (d + 5) k_X5_file 37 (0, 0) [.ref 2, .int k, .int dy, .int v, .int c, .int hw, .int a, .null] [] (hH L xs J s F) K := fun y => mm_run 5 (J38 a 0 ha ⟨fun z => absurd rfl z, fun z => absurd z y⟩ _)
    have J35 : (((0 ≤ c ∧ c ≤ nI n - 1) ∧ mq F 1 c.toNatClampNeg < dy) ∧ (hw = 1 ∨ hw = -1)) → mm_Ex (d + 5) k_X5_file 35 (0, 0) [.ref 2, .int k, .int dy, .int v, .int c, .int hw, .int a, .null] [] (hH L xs J s F) K := fun y => mm_run 5 (J38 a 1 ha ⟨fun _ => y, fun _ => by decide⟩ _)
    exact mm_run 60 (x_canBeCited hcc (And.intro (fun z => J37 fun y => b2i_0.mp z y.1) (fun z => And.intro (fun z2 => J35 ⟨b2i_p z, Or.inl z2⟩) (fun z2 => And.intro (fun z3 => J37 fun y => y.2.elim z2 z3) (fun z3 => J35 ⟨b2i_p z, Or.inr z3⟩)))))
  have J21 : ¬ (c = -9 ∧ hw = 0) → mm_Ex (d + 5) k_X5_file 21 (0, 0) [.ref 2, .int k, .int dy, .int v, .int c, .int hw, .null, .null] [] (hH L xs J s F) K := fun y => mm_run 5 (J22 0 ⟨fun z => absurd rfl z, fun z => absurd z y⟩)
  exact And.intro (fun z => J21 fun y => z y.1) (fun z => And.intro (fun z2 => J21 fun y => z2 y.2) (fun z2 => J22 1 ⟨fun _ => ⟨z, z2⟩, fun _ => by decide⟩))
end XCl
