/-! the reference: file, keep, on -/
section MG
variable {d L s : Nat} {xs : Nat → Int32} {J : Nat → Int64} {F : Nat → Nat → Int32} {K : mm_K} {h : mm_H} {n : Nat}
theorem m_file (hn : F 75 10 = nI n) (h9 : n ≤ 9) {k dy v c hw : Int32} (hk : K (some (.int (S_file F k dy v c hw).1)) (hH L xs J s (S_file F k dy v c hw).2)) : mm_call mm_Ex (d + 2) k_X6_file [.ref 75, .int k, .int dy, .int v, .int c, .int hw] (hH L xs J s F) K := by
  unfold S_file at hk
  have en : (F 75 10).toNatClampNeg = n := by rw [hn]; exact tn_nI (by omega)
  obtain ⟨Wl, hW⟩ : ∃ Wl : Prop, ((0 ≤ k ∧ k ≤ 5) ∧ (0 ≤ dy ∧ dy ≤ 9) ∧ (0 ≤ v ∧ v ≤ 1)) = Wl := ⟨_, rfl⟩
  obtain ⟨Cl, hQ⟩ : ∃ Cl : Prop, ((0 ≤ c ∧ c ≤ F 75 10 - 1) ∧ (hw = 1 ∨ hw = -1)) = Cl := ⟨_, rfl⟩
  have hB : ∀ w1 w2 : Value, ¬ (Wl ∧ ((Cl ∧ F 83 c.toNatClampNeg < dy) ∨ (¬ Cl ∧ c = -9 ∧ hw = 0))) → mm_Ex (d + 2) k_X6_file 50 (0, 0) [.ref 75, .int k, .int dy, .int v, .int c, .int hw, w1, w2] [] (hH L xs J s F) K := by
    intro w1 w2 q
    rw [if_neg (fun z => q ⟨by rw [← hW]; exact z.1, by
      rw [← hQ]
      rcases z.2 with ⟨a, b, e⟩ | ⟨a, b, e⟩
      · exact Or.inl ⟨⟨a, b⟩, e⟩
      · exact Or.inr ⟨a, b, e⟩⟩)] at hk
    exact mm_run 5 hk
  have hG : ∀ w1 w2 : Value, Wl → ((Cl ∧ F 83 c.toNatClampNeg < dy) ∨ (¬ Cl ∧ c = -9 ∧ hw = 0)) → mm_Ex (d + 2) k_X6_file 52 (0, 0) [.ref 75, .int k, .int dy, .int v, .int c, .int hw, w1, w2] [] (hH L xs J s F) K := by
    intro w1 w2 q1 q2
    rw [if_pos ⟨by rw [hW]; exact q1, by
      rw [← hQ] at q2
      rcases q2 with ⟨⟨a, b⟩, e⟩ | ⟨a, b, e⟩
      · exact Or.inl ⟨a, b, e⟩
      · exact Or.inr ⟨a, b, e⟩⟩] at hk
    refine mm_run 60 (And.intro (fun z => ?_) (fun z => ?_))
    · rw [if_neg z, en] at hk
      have h8 : n < 9 := by
        rcases Nat.lt_or_ge n 9 with q | q
        · exact q
        · have : n = 9 := by omega
          subst this
          exact absurd hn z
      refine s_adds hn h8 ?_
      have e1 : S_adds F n k dy v c hw 0 75 10 - 1 = F 75 10 := by
        show nI (n + 1) - 1 = _
        rw [nI_pred, hn]
      show K (some (.int (S_adds F n k dy v c hw 0 75 10 - 1))) _
      rw [e1]
      exact hk
    · rw [if_pos z] at hk
      exact hk
  -- at 33: both booleans known
  have h33 : ∀ x y : Int32, (x = 0 ↔ ¬ Wl) → (y = 0 ↔ ¬ Cl) → mm_Ex (d + 2) k_X6_file 32 (0, 0) [.ref 75, .int k, .int dy, .int v, .int c, .int hw, .int x, .null] [.int y] (hH L xs J s F) K := by
    intro x y hx hy
    have h42 : Wl → (Cl ∨ (c = -9 ∧ hw = 0)) → mm_Ex (d + 2) k_X6_file 42 (0, 0) [.ref 75, .int k, .int dy, .int v, .int c, .int hw, .int x, .int y] [] (hH L xs J s F) K := by
      intro q1 q2
      refine mm_run 60 (And.intro (fun z => hG _ _ q1 ?_) (fun z => ?_))
      · have z := hy.mp z
        rcases q2 with q2 | q2
        · exact absurd q2 z
        · exact Or.inr ⟨z, q2⟩
      · have hC : Cl := Classical.not_not.mp (fun w => z (hy.mpr w))
        have hC2 := hC
        rw [← hQ] at hC2
        have c9 : vp_in c 9 := by
          have q := hC2.1
          rw [hn] at q
          obtain ⟨p, hp', rfl⟩ := pl_of (by omega) q
          exact vp_in_nI (by omega) (by decide)
        exact ⟨c9, And.intro (fun w => hG _ _ q1 (Or.inl ⟨hC, w⟩)) (fun w => hB _ _ (fun u => by
          rcases u.2 with u2 | u2
          · exact w u2.2
          · exact u2.1 hC))⟩
    refine mm_run 60 (And.intro (fun z => hB _ _ (fun u => hx.mp z u.1)) (fun z => ?_))
    have q1 : Wl := Classical.not_not.mp (fun w => z (hx.mpr w))
    refine And.intro (fun w => h42 q1 (Or.inl (Classical.not_not.mp (fun u => w (hy.mpr u))))) (fun w => ?_)
    have q2 := hy.mp w
    exact And.intro (fun u => hB _ _ (fun r => by
      rcases r.2 with r2 | r2
      · exact q2 r2.1
      · exact u r2.2.1)) (fun u => And.intro (fun t => hB _ _ (fun r => by
      rcases r.2 with r2 | r2
      · exact q2 r2.1
      · exact t r2.2.2)) (fun t => h42 q1 (Or.inr ⟨u, t⟩)))
  have h18 : ∀ x : Int32, (x = 0 ↔ ¬ Wl) → mm_Ex (d + 2) k_X6_file 18 (0, 0) [.ref 75, .int k, .int dy, .int v, .int c, .int hw, .null, .null] [.int x] (hH L xs J s F) K := by
    intro x hx
    have h31 : ¬ Cl → mm_Ex (d + 2) k_X6_file 31 (0, 0) [.ref 75, .int k, .int dy, .int v, .int c, .int hw, .int x, .null] [] (hH L xs J s F) K := fun q => mm_run 5 (h33 x 0 hx ⟨fun _ => q, fun _ => rfl⟩)
    have h29 : Cl → mm_Ex (d + 2) k_X6_file 29 (0, 0) [.ref 75, .int k, .int dy, .int v, .int c, .int hw, .int x, .null] [] (hH L xs J s F) K := fun q => mm_run 5 (h33 x 1 hx ⟨fun w => absurd w (by decide), fun w => absurd q w⟩)
    rw [← hQ] at h31 h29
    exact mm_run 60 (s_isRuling (And.intro (fun z => h31 (fun w => b2i_0.mp z w.1)) (fun z => And.intro (fun u => h29 ⟨not_not_b z, Or.inl u⟩) (fun u => And.intro (fun t => h31 (fun w => by
      rcases w.2 with w2 | w2
      · exact u w2
      · exact t w2)) (fun t => h29 ⟨not_not_b z, Or.inr t⟩)))))
  have h17 : ¬ Wl → mm_Ex (d + 2) k_X6_file 17 (0, 0) [.ref 75, .int k, .int dy, .int v, .int c, .int hw, .null, .null] [] (hH L xs J s F) K := fun q => mm_run 5 (h18 0 ⟨fun _ => q, fun _ => rfl⟩)
  have hw18 : Wl → mm_Ex (d + 2) k_X6_file 18 (0, 0) [.ref 75, .int k, .int dy, .int v, .int c, .int hw, .null, .null] [.int 1] (hH L xs J s F) K := fun q => h18 1 ⟨fun w => absurd w (by decide), fun w => absurd q w⟩
  rw [← hW] at h17 hw18
  exact mm_run 60 (s_in (And.intro (fun z => h17 (fun w => b2i_0.mp z w.1)) (fun z => s_in (And.intro (fun y => h17 (fun w => b2i_0.mp y w.2.1)) (fun y => s_in (And.intro (fun t => h17 (fun w => b2i_0.mp t w.2.2)) (fun t => hw18 ⟨not_not_b z, not_not_b y, not_not_b t⟩)))))))
theorem isK_of {v : Int32} (c : ¬ b2i (0 ≤ v ∧ v ≤ 2) = 0) : ∃ r, r < 3 ∧ v = nI r := by
  obtain ⟨j, h1, h2⟩ := in_nI (n := 2) (by decide) (not_not_b c).1 (not_not_b c).2
  exact ⟨j, by omega, h2⟩
theorem toldV_mq {i w : Nat} {q : Rq} (hi : i < 9) (hw : w < 6) : toldV n q (nI i) (nI w) = q w i := by
  have ei : (nI i).toNatClampNeg = i := tn_nI (by omega)
  unfold toldV
  rw [ei]
  rcases w with _ | _ | _ | _ | _ | _ | w
  · rfl
  · rfl
  · rfl
  · rfl
  · rfl
  · rfl
  · omega
theorem m_keep (hn : F 75 10 = nI n) (h9 : n ≤ 9) {k : Int32} (hk : K (some (.int (S_keep F k).1)) (hH L xs J s (S_keep F k).2)) : mm_call mm_Ex (d + 2) k_X6_keep [.ref 75, .int k] (hH L xs J s F) K := by
  unfold S_keep at hk
  have en : (F 75 10).toNatClampNeg = n := by rw [hn]; exact tn_nI (by omega)
  refine mm_run 60 (s_in (And.intro (fun c => And.intro (fun c2 => ?_) (fun c2 => ?_)) (fun c => ?_)))
  · rw [if_pos (not_not_b c), if_neg c2, en] at hk
    obtain ⟨j, hj, rfl⟩ := isK_of c
    have ej : (nI j).toNatClampNeg = j := tn_nI (by omega)
    rw [ej] at hk
    refine ⟨vp_in_nI hj (by decide), ?_⟩
    refine lp (n := n) (P := fun i => ∀ x (w : Value) h, x = nI i → h = hH L xs J s (upF (up2 F 88 j (F 75 10)) 89 (keepF F j i)) → mm_Ex (d + 2) k_X6_keep 20 (0, 0) [.ref 75, .int (nI j), .int x, w] [] h K) ?_ ?_ 0 _ _ rfl ?_
    · intro x w h hx hh
      subst hx hh
      refine mm_run 60 (And.intro (fun _ => hk) (fun c => absurd ?_ c))
      show F 75 10 ≤ nI n
      rw [hn]
      exact (nI_leI (by omega) (by omega)).mpr (Nat.le_refl n)
    · intro i hi ih x w h hx hh
      subst hx hh
      refine mm_run 60 (And.intro (fun c => absurd ?_ (nleI hi (by omega))) (fun c => ?_))
      · have c : F 75 10 ≤ nI i := c
        rw [hn] at c
        exact c
      · refine lp (n := 6) (P := fun w => ∀ x h, x = nI w → h = hH L xs J s (upF (up2 F 88 j (F 75 10)) 89 (fun x => if 54 * j ≤ x ∧ x < 54 * j + (6 * i + w) then mq F ((x - 54 * j) % 6) ((x - 54 * j) / 6) else F 89 x)) → mm_Ex (d + 2) k_X6_keep 26 (0, 0) [.ref 75, .int (nI j), .int (nI i), .int x] [] h K) ?_ ?_ 0 _ rfl rfl
        · intro x h hx hh
          subst hx hh
          refine mm_run 60 (And.intro (fun _ => ih _ _ _ (nI_1 i) ?_) (fun c => absurd (show (6 : Int32) ≤ nI 6 by decide) c))
          exact hHx fun a => rfl
        · intro w hw ih2 x h hx hh
          subst hx hh
          have e1 : (54 : Int32) * nI j + 6 * nI i + nI w = nI (54 * j + 6 * i + w) := by
            rw [show (6 : Int32) * nI i = nI (6 * i) from pk_mul 6 i, show (54 : Int32) * nI j + nI (6 * i) = nI (54 * j + 6 * i) from ix (c := 54), nI_add]
          have e2 : ((54 : Int32) * nI j + 6 * nI i + nI w).toNatClampNeg = 54 * j + 6 * i + w := by rw [e1]; exact tn_nI (by omega)
          refine mm_run 60 (And.intro (fun c => absurd c (nleI (b := 6) hw (by decide))) (fun c => s_told (i := nI i) (n := n) (F := upF (up2 F 88 j (F 75 10)) 89 (fun x => if 54 * j ≤ x ∧ x < 54 * j + (6 * i + w) then mq F ((x - 54 * j) % 6) ((x - 54 * j) / 6) else F 89 x)) hn h9 (vp_in_nI (by omega) (by decide)) ⟨by rw [e1]; exact vp_in_nI (by omega) (by decide), ?_⟩))
          refine ih2 _ _ (nI_1 w) ((hp1 rfl).trans (hHx fun a => ?_))
          rw [upF_same]
          congr 1
          funext y
          have e5 : mq (upF (up2 F 88 j (F 75 10)) 89 (fun x => if 54 * j ≤ x ∧ x < 54 * j + (6 * i + w) then mq F ((x - 54 * j) % 6) ((x - 54 * j) / 6) else F 89 x)) = mq F := by rw [mq_up (by decide)]; exact mq_up (by decide)
          rw [e5, e2, toldV_mq (by omega) hw]
          simp only [upd]
          by_cases hy : y = 54 * j + 6 * i + w
          · subst hy
            rw [if_pos rfl, if_pos (by omega)]
            have a1 : (54 * j + 6 * i + w - 54 * j) % 6 = w := by omega
            have a2 : (54 * j + 6 * i + w - 54 * j) / 6 = i := by omega
            rw [a1, a2]
          · rw [if_neg hy]
            show (if 54 * j ≤ y ∧ y < 54 * j + (6 * i + w) then mq F ((y - 54 * j) % 6) ((y - 54 * j) / 6) else F 89 y) = _
            by_cases h3 : 54 * j ≤ y ∧ y < 54 * j + (6 * i + w)
            · rw [if_pos h3, if_pos (by omega)]
            · rw [if_neg h3, if_neg (by omega)]
    · refine (hp1 rfl).trans (hHx fun a => ?_)
      rw [ej]
      have e0 : keepF F j 0 = F 89 := by
        funext y
        unfold keepF
        rw [if_neg (by omega)]
      rw [e0]
      exact congrFun (upF_id (F := up2 F 88 j (F 75 10)) (k := 89)).symm a
  · rw [if_pos (not_not_b c), if_pos c2] at hk
    exact hk
  · rw [if_neg (b2i_0.mp c)] at hk
    exact hk
end MG
