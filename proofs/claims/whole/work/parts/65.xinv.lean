/-! what holds between calls -/
def CW (M : Nat → Nat → Int32) : Prop := ∃ n, M 75 10 = nI n ∧ Cw n (mq M)
def kq (M : Nat → Nat → Int32) (k : Nat) : Rq := fun w i => M 89 (54 * k + 6 * i + w)
def KW (M : Nat → Nat → Int32) : Prop := ∀ k, k < 3 → ∀ m, m ≤ 9 → M 88 k = nI m → Cw m (kq M k)
def W2 (M : Nat → Nat → Int32) : Prop := CW M ∧ KW M
def INV (F : Nat → Nat → Int32) (J : Nat → Int64) : Prop := XRc F F ∧ CW F ∧ KW F ∧ (∃ m, m ≤ 9 ∧ F 14 6 = nI m) ∧ J 0 = J 2 ∧ J 1 = J 3
theorem Cw_cong {n : Nat} {q q' : Rq} (h : Cw n q) (e : ∀ w, w < 6 → ∀ i, i < n → q' w i = q w i) : Cw n q' := by
  refine ⟨h.1, fun i hi => ?_⟩
  obtain ⟨a, b, c, f, g⟩ := h.2 i hi
  rw [e 0 (by decide) i hi, e 1 (by decide) i hi, e 2 (by decide) i hi, e 3 (by decide) i hi, e 4 (by decide) i hi, e 5 (by decide) i hi]
  refine ⟨a, b, c, ?_, g⟩
  rcases f with f | ⟨j, j1, j2, j3, j4⟩
  · exact Or.inl f
  · exact Or.inr ⟨j, j1, j2, j3, by rw [e 1 (by decide) j (by omega)]; exact j4⟩
theorem Cw_le {n m : Nat} {q : Rq} (h : Cw n q) (hm : m ≤ n) : Cw m q := ⟨Nat.le_trans hm h.1, fun i hi => h.2 i (by omega)⟩
theorem W2.c {F M : Nat → Nat → Int32} (h : W2 F) (e1 : M 75 10 = F 75 10) (e2 : ∀ k, 82 ≤ k → k ≤ 89 → M k = F k) : W2 M := by
  obtain ⟨⟨n, hn, hc⟩, hk⟩ := h
  refine ⟨⟨n, by rw [e1]; exact hn, ?_⟩, fun k hk3 m hm he => ?_⟩
  · rw [mq_c (F := M) (F' := F) fun k h1 h2 => e2 k h1 (by omega)]
    exact hc
  · rw [e2 88 (by decide) (by decide)] at he
    have := hk k hk3 m hm he
    unfold kq at this ⊢
    rw [e2 89 (by decide) (by decide)]
    exact this
theorem W2.fi {F : Nat → Nat → Int32} (h : W2 F) {w : Nat} : W2 (S_fi F w) := h.c rfl (fun k h1 h2 => by unfold S_fi; rw [up2_ne (by omega), up2_ne (by omega)])
theorem W2.te {F : Nat → Nat → Int32} (h : W2 F) {v : Int32} : W2 (S_te F v) := h.c rfl (fun k h1 h2 => up2_ne (by omega))
theorem W2.up {F : Nat → Nat → Int32} (h : W2 F) {k j : Nat} {v : Int32} (hk : k ≠ 75 ∧ ¬ (82 ≤ k ∧ k ≤ 89)) : W2 (up2 F k j v) := h.c (by rw [up2_ne (fun e => hk.1 e.symm)]) (fun a h1 h2 => up2_ne (by omega))
theorem W2.uF {F : Nat → Nat → Int32} (h : W2 F) {k : Nat} {g : Nat → Int32} (hk : k ≠ 75 ∧ ¬ (82 ≤ k ∧ k ≤ 89)) : W2 (upF F k g) := h.c (by rw [upF_ne (fun e => hk.1 e.symm)]) (fun a h1 h2 => upF_ne (by omega))
theorem W2.ite {c : Prop} [Decidable c] {p r : Int32 × (Nat → Nat → Int32)} (h1 : c → W2 p.2) (h2 : W2 r.2) : W2 (if c then p else r).2 := by
  by_cases h : c
  · rw [if_pos h]; exact h1 h
  · rw [if_neg h]; exact h2
theorem W2.it2 {c : Prop} [Decidable c] {p r : Int32 × (Nat → Nat → Int32)} (h1 : W2 p.2) (h2 : ¬ c → W2 r.2) : W2 (if c then p else r).2 := by
  by_cases h : c
  · rw [if_pos h]; exact h1
  · rw [if_neg h]; exact h2 h
section XI
variable {F : Nat → Nat → Int32}
theorem w_row (h : W2 F) {r n : Int32} : W2 (S_row F r n).2 := W2.ite (fun _ => W2.ite (fun _ => (h.up (by decide)).uF (by decide)) h.fi) h
theorem w_lay (h : W2 F) {r i v : Int32} : W2 (S_lay F r i v).2 := W2.ite (fun _ => W2.ite (fun _ => W2.ite (fun _ => (h.up (by decide)).te) h.fi) h.fi) h
theorem w_at (h : W2 F) {r i : Int32} : W2 (S_at F r i).2 := W2.ite (fun _ => W2.ite (fun _ => W2.ite (fun _ => h.te) h.fi) h.fi) h
theorem w_tear (h : W2 F) {r : Int32} : W2 (S_tear F r).2 := W2.ite (fun _ => W2.ite (fun _ => h.up (by decide)) h.fi) h
theorem w_copy (h : W2 F) {r i to j n : Int32} : W2 (S_copy F r i to j n).2 := W2.ite (fun _ => W2.ite (fun _ => W2.ite (fun _ => W2.ite (fun _ => h.uF (by decide)) h.fi) h.fi) h.fi) h
theorem w_mean (h : W2 F) {r : Int32} : W2 (S_mean F r).2 := W2.ite (fun _ => W2.ite (fun _ => W2.ite (fun _ => h.fi) h.te) h.fi) h
theorem w_text (h : W2 F) {r n : Int32} : W2 (S_text F r n).2 := W2.ite (fun _ => W2.ite (fun _ => (h.up (by decide)).uF (by decide)) h.fi) h
theorem w_put (h : W2 F) {r i v : Int32} : W2 (S_put F r i v).2 := W2.ite (fun _ => W2.ite (fun _ => W2.ite (fun _ => h.up (by decide)) h.fi) h.fi) h
theorem w_ruling (h : W2 F) {i w : Int32} : W2 (S_ruling F i w).2 := W2.ite (fun _ => h.te) h
theorem w_mark (h : W2 F) {i w : Int32} : W2 (S_mark F i w).2 := W2.ite (fun _ => W2.ite (fun _ => h) h.fi) h
theorem w_one (h : W2 F) {n w j : Nat} {v : Int32} (hn : F 75 10 = nI n) (hc : Cw n (mq F)) (hw : w < 6) (hq : ∀ q : Rq, (∀ w' i, ¬ (w' = w ∧ i = j) → q w' i = mq F w' i) → q w j = v → Cw n q) : W2 (up2 F (82 + w) j v) := by
  refine ⟨⟨n, by rw [up2_ne (by omega)]; exact hn, hq _ (fun w' i hne => ?_) ?_⟩, fun k hk m hm he => ?_⟩
  · by_cases h6 : w' < 6
    · rw [mq_w h6, mq_w h6]
      by_cases e : w' = w
      · rw [e, up2_ne2 (fun y => hne ⟨e, y⟩)]
      · rw [up2_ne (by omega)]
    · have : ∀ G : Nat → Nat → Int32, mq G w' i = 0 := fun G => by
        rcases w' with _ | _ | _ | _ | _ | _ | w'
        · omega
        · omega
        · omega
        · omega
        · omega
        · omega
        · rfl
      rw [this, this]
  · rw [mq_w hw, up2_at]
  · rw [up2_ne (by omega)] at he
    have := h.2 k hk m hm he
    unfold kq at this ⊢
    rw [up2_ne (by omega)]
    exact this
theorem Cw_set {n w j : Nat} {v : Int32} {q q' : Rq} (hc : Cw n q) (hw : (w = 2 ∧ (v = 0 ∨ v = 1)) ∨ (w = 5 ∧ ∃ m, m < 32 ∧ v = nI m)) (e : ∀ w' i, ¬ (w' = w ∧ i = j) → q' w' i = q w' i) (ev : q' w j = v) : Cw n q' := by
  refine ⟨hc.1, fun i hi => ?_⟩
  obtain ⟨a, b, c, f, g⟩ := hc.2 i hi
  have e0 : ∀ i, q' 0 i = q 0 i := fun i => e 0 i (by omega)
  have e1 : ∀ i, q' 1 i = q 1 i := fun i => e 1 i (by omega)
  have e3 : ∀ i, q' 3 i = q 3 i := fun i => e 3 i (by omega)
  have e4 : ∀ i, q' 4 i = q 4 i := fun i => e 4 i (by omega)
  rw [e0, e1, e3, e4]
  refine ⟨a, b, ?_, ?_, ?_⟩
  · by_cases h : 2 = w ∧ i = j
    · rcases hw with ⟨w2, hv⟩ | ⟨w5, -⟩
      · rw [h.2, h.1, ev]; exact hv
      · omega
    · rw [e 2 i h]; exact c
  · rcases f with f | ⟨t, t1, t2, t3, t4⟩
    · exact Or.inl f
    · exact Or.inr ⟨t, t1, t2, t3, by rw [e1]; exact t4⟩
  · by_cases h : 5 = w ∧ i = j
    · rcases hw with ⟨w2, -⟩ | ⟨w5, hv⟩
      · omega
      · rw [h.2, h.1, ev]; exact hv
    · rw [e 5 i h]; exact g
theorem w_reverse (h : W2 F) {i v : Int32} : W2 (S_reverse F i v).2 := by
  obtain ⟨n, hn, hc⟩ := h.1
  refine W2.ite (fun c => ?_) h
  refine w_one (w := 2) h hn hc (by decide) (fun q e ev => Cw_set hc (Or.inl ⟨rfl, ?_⟩) e ev)
  obtain ⟨t, ht, rfl⟩ := in_nI (n := 1) (by decide) c.2.1 c.2.2
  rcases t with _ | _ | t
  · exact Or.inl rfl
  · exact Or.inr rfl
  · omega
theorem w_marks (h : W2 F) {i v : Int32} : W2 (S_marks F i v).2 := by
  obtain ⟨n, hn, hc⟩ := h.1
  refine W2.ite (fun c => ?_) h
  obtain ⟨t, ht, rfl⟩ := in_nI (n := 31) (by decide) c.2.1 c.2.2
  exact w_one (w := 5) h hn hc (by decide) (fun q e ev => Cw_set hc (Or.inr ⟨rfl, t, by omega, rfl⟩) e ev)
theorem adds_89 {n : Nat} {a b c e f g : Int32} {k : Nat} (h : 88 ≤ k) : S_adds F n a b c e f g k = F k := by
  rw [S_adds_k, if_neg (by omega), if_neg (by omega)]
theorem W2.kw {M : Nat → Nat → Int32} (h : W2 F) (e : ∀ k, 88 ≤ k → k ≤ 89 → M k = F k) : KW M := fun k hk m hm he => by
  rw [e 88 (by decide) (by decide)] at he
  have := h.2 k hk m hm he
  unfold kq at this ⊢
  rw [e 89 (by decide) (by decide)]
  exact this
theorem w_file (h : W2 F) {k dy v c hw : Int32} : W2 (S_file F k dy v c hw).2 := by
  obtain ⟨n, hn, hc⟩ := h.1
  have h9 := hc.1
  unfold S_file
  refine W2.ite (fun cc => W2.it2 h fun c9 => ?_) h
  rw [en_of hn h9]
  have n9 : n < 9 := by
    refine Nat.lt_of_le_of_ne h9 fun e => c9 ?_
    rw [hn, e]
    rfl
  obtain ⟨⟨ck, cd, cv⟩, cc⟩ := cc
  rw [hn] at cc
  obtain ⟨k', hk', rfl⟩ := in_nI (n := 5) (by decide) ck.1 ck.2
  obtain ⟨d', hd', rfl⟩ := in_nI (n := 9) (by decide) cd.1 cd.2
  obtain ⟨v', hv', rfl⟩ := in_nI (n := 1) (by decide) cv.1 cv.2
  refine ⟨⟨n + 1, rfl, Cw_adds hc n9 ⟨k', hk', rfl⟩ ⟨d', hd', rfl⟩ ?_ ?_ ⟨0, by decide, rfl⟩⟩, h.kw (fun k h1 h2 => adds_89 h1)⟩
  · rcases v' with _ | _ | v'
    · exact Or.inl rfl
    · exact Or.inr rfl
    · omega
  · rcases cc with ⟨a, b, e⟩ | ⟨-, b, e⟩
    · obtain ⟨j, hj, rfl⟩ := pl_of (by omega) a
      rw [tn_nI (by omega)] at e
      exact Or.inr ⟨j, hj, rfl, b, e⟩
    · exact Or.inl ⟨b, e⟩
theorem w_strike (h : W2 F) {m : Int32} : W2 (S_strike F m).2 := by
  obtain ⟨n, hn, hc⟩ := h.1
  have h9 := hc.1
  refine W2.ite (fun c => ?_) h
  rw [hn] at c
  obtain ⟨t, ht, rfl⟩ := in_nI (by omega) c.1 c.2
  show W2 (up2 F 75 10 (nI t))
  refine ⟨⟨t, up2_at, ?_⟩, h.kw (fun k h1 h2 => up2_ne (by omega))⟩
  rw [mq_75]
  exact Cw_le hc ht
theorem w_keep (h : W2 F) {k : Int32} : W2 (S_keep F k).2 := by
  obtain ⟨n, hn, hc⟩ := h.1
  have h9 := hc.1
  unfold S_keep
  refine W2.ite (fun c => W2.it2 h fun c0 => ?_) h
  obtain ⟨t, ht, rfl⟩ := in_nI (n := 2) (by decide) c.1 c.2
  rw [tn_nI (by omega), en_of hn h9]
  show W2 (upF (up2 F 88 t (F 75 10)) 89 (keepF F t n))
  refine ⟨⟨n, by rw [upF_ne (by decide), up2_ne (by decide)]; exact hn, ?_⟩, fun k hk m hm he => ?_⟩
  · rw [mq_up (by decide)]
    unfold up2
    rw [mq_up (by decide)]
    exact hc
  · rw [upF_ne (by decide)] at he
    unfold kq
    rw [upF_at]
    by_cases e : k = t
    · rw [e, up2_at, hn] at he
      have em : n = m := (nI_eq (by omega) (by omega)).mp he
      subst em
      refine Cw_cong hc fun w hw i hi => ?_
      rw [e, keep_at hw hi]
    · rw [up2_ne2 e] at he
      refine Cw_cong (h.2 k hk m hm he) fun w hw i hi => ?_
      unfold keepF kq
      rw [if_neg (by omega)]
theorem w_on (h : W2 F) (hx : XRc F F) {k : Int32} : W2 (S_on F k).2 := by
  unfold S_on
  refine W2.ite (fun c => W2.ite (fun c0 => ?_) h.fi) h
  obtain ⟨t, ht, rfl⟩ := in_nI (n := 2) (by decide) c.1 c.2
  rw [tn_nI (by omega)] at c0 ⊢
  rcases hx.2.2.2.1 t (by omega) with ⟨a, -⟩ | ⟨m, m0, m9, k1, -, -⟩
  · rw [a] at c0
    exact absurd c0 (by decide)
  · rw [k1, tn_nI (by omega)]
    show W2 (onF F t m)
    refine ⟨⟨m, by rw [onF_k]; rfl, ?_⟩, h.kw (fun k h1 h2 => by rw [onF_k, if_neg (by omega), if_neg (by omega)])⟩
    refine Cw_cong (h.2 t (by omega) m m9 k1) fun w hw i hi => ?_
    rw [mq_w hw, onF_k, if_pos (by omega), fa_fill_in hi, show 82 + w - 82 = w by omega]
    rfl
theorem w_due (h : W2 F) {i : Int32} : W2 (S_due F i).2 := W2.ite (fun _ => h) h
theorem w_ways (h : W2 F) : W2 (S_ways F).2 := h.te
theorem w_sure (h : W2 F) : W2 (S_sure F).2 := h.te
theorem w_nth (h : W2 F) {i : Int32} : W2 (S_nth F i).2 := W2.ite (fun _ => W2.ite (fun _ => h) h.fi) h
theorem w_together (h : W2 F) {i : Int32} : W2 (S_together F i).2 := W2.ite (fun _ => W2.ite (fun _ => h) h.fi) h
theorem w_till (h : W2 F) {i : Int32} : W2 (S_till F i).2 := W2.ite (fun _ => h.te) h
theorem w_flips (h : W2 F) {i : Int32} : W2 (S_flips F i).2 := W2.ite (fun _ => h) h
theorem w_jam (h : W2 F) : W2 (S_jam F).2 := h
theorem w_files (h : W2 F) {n i r : Nat} {aim : Int32} : W2 (S_files F n i r aim).2 := W2.ite (fun _ => (h.up (by decide)).uF (by decide)) h
theorem w_fell (h : W2 F) {i r aim : Int32} : W2 (S_fell F i r aim).2 := W2.ite (fun _ => w_files h) h
theorem w_settle (h : W2 F) {r : Int32} : W2 (S_settle F r).2 := W2.ite (fun _ => w_files h) h
theorem w_matter (h : W2 F) {i : Int32} : W2 (S_matter F i).2 := W2.ite (fun _ => h) h
theorem w_judge (h : W2 F) : W2 (S_judge F).2 := W2.ite (fun _ => h) h.te
theorem w_like (h : W2 F) {i m : Int32} : W2 (S_like F i m).2 := W2.ite (fun _ => h.te) h
theorem w_verdict (h : W2 F) {i m : Int32} : W2 (S_verdict F i m).2 := W2.ite (fun _ => h) h
theorem w_surely (h : W2 F) {i : Int32} : W2 (S_surely F i).2 := W2.ite (fun _ => W2.ite (fun _ => h.fi) h.te) h
theorem w_freed (h : W2 F) {i : Int32} : W2 (S_freed F i).2 := W2.ite (fun _ => W2.ite (fun _ => h) h.fi) h
theorem w_code (h : W2 F) : W2 (S_code F).2 := W2.ite (fun _ => h.te) h.fi
theorem w_kinds (h : W2 F) {i m : Int32} : W2 (S_kinds F i m).2 := W2.ite (fun _ => h) h
theorem w_forged (h : W2 F) {i : Int32} : W2 (S_forged F i).2 := W2.ite (fun _ => h) h
theorem w_torn (h : W2 F) {i m : Int32} : W2 (S_torn F i m).2 := W2.ite (fun _ => h.te) h
theorem lot_89 {n x k : Nat} (h : 88 ≤ k) : ∀ m, lotF F n x m k = F k
  | 0 => rfl
  | m + 1 => by
    show lot1 (lotF F n x m) (n + m) (lotX x (m + 1)) k = F k
    rw [lot1_eq, adds_89 h]
    exact lot_89 h m
theorem w_lots (h : W2 F) {m sd : Int32} : W2 (S_lots F m sd).2 := by
  obtain ⟨n, hn, hc⟩ := h.1
  have h9 := hc.1
  unfold S_lots
  refine W2.ite (fun c => W2.ite (fun c9 => ?_) h) h
  obtain ⟨t, ht, rfl⟩ := in_nI (n := 9) (by decide) (Int32.le_trans (by decide) c.1.1) c.1.2
  rw [hn, nI_add] at c9
  have c9 := (nI_leI (b := 9) (by omega) (by decide)).mp c9
  rw [en_of hn h9, tn_nI (n := t) (by omega)]
  exact ⟨⟨n + t, lotF_n hn t, Cw_lots hc t c9⟩, h.kw (fun k h1 h2 => lot_89 h1 t)⟩
theorem w_count (h : W2 F) {i : Int32} : W2 (S_count F i).2 := W2.ite (fun _ => h) h
theorem w_findings (h : W2 F) {i : Int32} : W2 (S_findings F i).2 := W2.ite (fun _ => h) h
theorem w_fault (h : W2 F) {i : Int32} : W2 (S_fault F i).2 := W2.ite (fun _ => W2.ite (fun _ => h) h.fi) h
theorem fgC_ok {b hi : Int32} {m : Nat} (hm : m < 2 ^ 31) (hi' : hi = nI m) (h : ¬ fgC b hi = -9) : ∃ k, k ≤ m ∧ fgC b hi = nI k := by
  unfold fgC at h ⊢
  subst hi'
  by_cases c : 0 ≤ b - 48 ∧ b - 48 ≤ nI m
  · rw [if_pos c]
    obtain ⟨j, hj, e⟩ := in_nI hm c.1 c.2
    exact ⟨j, hj, e⟩
  · rw [if_neg c] at h
    exact absurd rfl h
theorem kdC_ok {c : Int32} (h : ¬ kdC c = -9) : ∃ k, k ≤ 5 ∧ kdC c = nI k := by
  unfold kdC at h ⊢
  by_cases c0 : c = 114
  · rw [if_pos c0]; exact ⟨0, by decide, rfl⟩
  rw [if_neg c0] at h ⊢
  by_cases c1 : c = 98
  · rw [if_pos c1]; exact ⟨1, by decide, rfl⟩
  rw [if_neg c1] at h ⊢
  by_cases c2 : c = 102
  · rw [if_pos c2]; exact ⟨2, by decide, rfl⟩
  rw [if_neg c2] at h ⊢
  by_cases c3 : c = 117
  · rw [if_pos c3]; exact ⟨3, by decide, rfl⟩
  rw [if_neg c3] at h ⊢
  by_cases c4 : c = 99
  · rw [if_pos c4]; exact ⟨4, by decide, rfl⟩
  rw [if_neg c4] at h ⊢
  by_cases c5 : c = 107
  · rw [if_pos c5]; exact ⟨5, by decide, rfl⟩
  rw [if_neg c5] at h
  exact absurd rfl h
theorem pI_ok {B : Nat → Int32} {n a e : Nat} {Q : Rq} {it : Nat → Int32} (hc : Cw n Q) (h : pI B n (Q 1) a = .inr (it, e)) : Cw (n + 1) (qUp Q n it) := by
  have h9 := hc.1
  unfold pI at h
  split at h
  · cases h
  rename_i h1
  split at h
  · cases h
  rename_i h2
  split at h
  · cases h
  rename_i h3
  split at h
  · cases h
  rename_i ci hw e' hp
  split at h
  · cases h
  cases h
  have n9 : n < 9 := Nat.lt_of_le_of_ne h9 fun y => h1 (Or.inr y)
  obtain ⟨k, k5, ek⟩ := kdC_ok (fun y => h1 (Or.inl y))
  obtain ⟨dd, d9, ed⟩ := fgC_ok (m := 9) (by decide) rfl h2
  obtain ⟨v, v1, ev⟩ := fgC_ok (m := 1) (by decide) rfl h3
  refine Cw_add hc n9 (fun w hw i hi => if_neg (by omega)) ?_
  have at' : ∀ w, qUp Q n (itF (kdC (B a)) (fgC (B (a + 1)) 9) (fgC (B (a + 2)) 1) ci hw (nI (mF B e' 5).1)) w n = itF (kdC (B a)) (fgC (B (a + 1)) 9) (fgC (B (a + 2)) 1) ci hw (nI (mF B e' 5).1) w := fun w => if_pos rfl
  rw [at', at', at', at', at', at']
  refine ⟨⟨k, k5, ek⟩, ⟨dd, d9, ed⟩, ?_, ?_, ⟨(mF B e' 5).1, (mF_le B e' 5).2.2, rfl⟩⟩
  · show fgC (B (a + 2)) 1 = 0 ∨ fgC (B (a + 2)) 1 = 1
    have ev : fgC (B (a + 2)) 1 = nI v := ev
    rw [ev]
    rcases v with _ | _ | v
    · exact Or.inl rfl
    · exact Or.inr rfl
    · omega
  · show (ci = -9 ∧ hw = 0) ∨ ∃ j, j < n ∧ ci = nI j ∧ (hw = 1 ∨ hw = -1) ∧ qUp Q n _ 1 j < fgC (B (a + 1)) 9
    unfold pC at hp
    split at hp
    · split at hp
      · cases hp
      rename_i hz
      split at hp
      · cases hp
        obtain ⟨j, hj, ej⟩ := fg_lt (n := n) h9 (fun y => hz (Or.inl y))
        refine Or.inr ⟨j, hj, ej, ?_, ?_⟩
        · split
          · exact Or.inl rfl
          · exact Or.inr rfl
        · unfold qUp
          rw [if_neg (by omega)]
          have hz2 := Int32.not_le.mp fun y => hz (Or.inr y)
          rw [ej, tn_nI (by omega)] at hz2
          exact hz2
      · cases hp
    · split at hp
      · cases hp
        exact Or.inl ⟨rfl, rfl⟩
      · cases hp
theorem rd_cw {B : Nat → Int32} {Z : Nat} : ∀ {f a n m : Nat} {Q Q' : Rq}, Cw n Q → rdS B Z f a n Q = .inr (m, Q') → Cw m Q'
  | 0, a, n, m, Q, Q', _, h => by
    unfold rdS at h
    cases h
  | f + 1, a, n, m, Q, Q', hc, h => by
    rw [rdS] at h
    split at h
    · cases h
      exact hc
    · split at h
      · exact rd_cw hc h
      · split at h
        · cases h
        · rename_i it e hp
          exact rd_cw (pI_ok hc hp) h
theorem w_court (h : W2 F) {i : Int32} : W2 (S_court F i).2 := by
  unfold S_court
  refine W2.ite (fun _ => W2.ite (fun _ => ?_) h.fi) h
  split
  · exact h
  · rename_i n Q hr
    have hc := rd_cw (n := 0) (Q := Q0) ⟨by decide, fun i hi => absurd hi (Nat.not_lt_zero i)⟩ hr
    have eM : ∀ k, crF F Q n k = if k = 88 then fil (F 88) 0 3 (-9) else if 82 ≤ k ∧ k ≤ 87 then fa_fill (Q (k - 82)) (F k) n else if k = 75 then upd (F 75) 10 (nI n) else F k := fun k => by
      unfold crF
      by_cases e : k = 88
      · rw [e, upF_at, if_pos rfl]
      · rw [upF_ne e, if_neg e]
        rfl
    show W2 (crF F Q n)
    refine ⟨⟨n, by rw [eM 75]; rfl, Cw_cong hc fun w hw i hi => ?_⟩, fun k hk m hm he => ?_⟩
    · rw [mq_w hw, eM, if_neg (by omega), if_pos (by omega), fa_fill_in hi, show 82 + w - 82 = w by omega]
    · rw [eM 88, if_pos rfl] at he
      unfold fil at he
      rw [if_pos (by omega)] at he
      exact absurd he.symm (ne9 (by omega))
theorem inv_next {F1 M F2 : Nat → Nat → Int32} {J : Nat → Int64} (hx : XT2 F F1 M) (hw : W2 M) (hc : CE F2 (cm F1 M)) (hJ : J 0 = J 2 ∧ J 1 = J 3) : INV F2 J := by
  have lo : ∀ k, k < 75 → F2 k = F1 k := fun k hk => by rw [hc.1 k (by omega) (by omega) (by omega) (by omega) (by omega)]; exact cm_lo hk
  have hi : ∀ k, 76 ≤ k → k ≠ 80 → k ≠ 90 → k ≠ 91 → k ≠ 92 → F2 k = M k := fun k h1 h2 h3 h4 h5 => by rw [hc.1 k (by omega) h2 h3 h4 h5]; exact cm_hi (by omega)
  have h75 : ∀ j, j ≠ 19 → j ≠ 21 → j ≠ 22 → j ≠ 25 → j ≠ 26 → F2 75 j = M 75 j := fun j h1 h2 h3 h4 h5 => by rw [hc.2 j h1 h2 h3 h4 h5]; exact congrFun (cm_hi (by decide)) j
  obtain ⟨h1, ⟨a, b, c, e, f⟩, hd⟩ := hx
  have hW : W2 F2 := hw.c (h75 10 (by decide) (by decide) (by decide) (by decide) (by decide)) (fun k k1 k2 => hi k (by omega) (by omega) (by omega) (by omega) (by omega))
  refine ⟨⟨fun r hr => ?_, fun t ht => ?_, ?_, fun k hk => ?_, ?_⟩, hW.1, hW.2, ?_, hJ⟩
  · have := a r hr
    unfold XRow at this ⊢
    rw [lo (34 + 2 * r) (by omega), lo (35 + 2 * r) (by omega), hi 76 (by decide) (by decide) (by decide) (by decide) (by decide), hi 77 (by decide) (by decide) (by decide) (by decide) (by decide)]
    exact this
  · have := b t ht
    unfold XTxt at this ⊢
    rw [lo (46 + 2 * t) (by omega), lo (47 + 2 * t) (by omega), hi 78 (by decide) (by decide) (by decide) (by decide) (by decide), hi 79 (by decide) (by decide) (by decide) (by decide) (by decide)]
    exact this
  · obtain ⟨n, n9, e1, e2, e3⟩ := c
    refine ⟨n, n9, ?_, ?_, fun w hw i hi' => ?_⟩
    · rw [lo 5 (by decide)]
      exact e1
    · rw [h75 10 (by decide) (by decide) (by decide) (by decide) (by decide)]
      exact e2
    · rw [lo (6 + w) (by omega), hi (82 + w) (by omega) (by omega) (by omega) (by omega) (by omega)]
      exact e3 w hw i hi'
  · have := e k hk
    unfold XKp at this ⊢
    rw [lo (54 + 7 * k) (by omega), hi 88 (by decide) (by decide) (by decide) (by decide) (by decide), hi 89 (by decide) (by decide) (by decide) (by decide) (by decide)]
    rcases this with z | ⟨m, m0, m9, k1, k2, k3⟩
    · exact Or.inl z
    · refine Or.inr ⟨m, m0, m9, k1, k2, fun w hw i hi' => ?_⟩
      rw [lo (55 + 7 * k + w) (by omega)]
      exact k3 w hw i hi'
  · unfold XTd at f ⊢
    rw [lo 2 (by decide), lo 33 (by decide), h75 5 (by decide) (by decide) (by decide) (by decide) (by decide), h75 7 (by decide) (by decide) (by decide) (by decide) (by decide), hi 81 (by decide) (by decide) (by decide) (by decide) (by decide)]
    exact f
  · rw [lo 14 (by decide)]
    exact hd
theorem side {F1 : Nat → Nat → Int32} {n : Nat} (hx : XRc F F) (hT : ∀ k, 75 ≤ k → F1 k = F k) (hn : F 75 10 = nI n) (hc : Cw n (mq F)) : cm F1 F = F1 ∧ F1 75 10 = nI n ∧ Cw n (mq F1) ∧ G_sz F1 ∧ ∀ k, k < 3 → szOk (F1 88 k) 9 := by
  refine ⟨?_, by rw [hT 75 (by decide)]; exact hn, ?_, ⟨fun r hr => ?_, fun t ht => ?_⟩, fun k hk => ?_⟩
  · funext k
    by_cases h : k < 75
    · exact cm_lo h
    · rw [cm_hi (by omega), hT k (by omega)]
  · rw [mq_c (F := F1) (F' := F) fun k h1 h2 => hT k (by omega)]
    exact hc
  · rw [hT 76 (by decide)]
    rcases hx.1 r hr with ⟨a, -⟩ | ⟨z, z1, z2, -⟩
    · exact Or.inl a
    · exact Or.inr ⟨z, z1, z2⟩
  · rw [hT 78 (by decide)]
    rcases hx.2.1 t ht with ⟨a, -⟩ | ⟨z, z1, z2, -⟩
    · exact Or.inl a
    · exact Or.inr ⟨z, z1, z2⟩
  · rw [hT 88 (by decide)]
    rcases hx.2.2.2.1 k hk with ⟨a, -⟩ | ⟨m, m0, m9, k1, -⟩
    · exact Or.inl a
    · exact Or.inr ⟨m, m9, k1⟩
end XI
