/-! the class: seats, ways -/
def SI (F G : Nat → Nat → Int32) (n : Nat) (q : Rq) (i : Nat) : Prop := XS F G ∧ G 23 7 = nI n ∧ G 23 6 = nI 0 ∧ ∀ j, j < i → G 24 j = q 0 j ∧ G 25 j = nI 0 ∧ G 26 j = nI 0 ∧ G 27 j = nI 0 ∧ G 28 j = nI (sdS n q j) ∧ G 29 j = nI 0
def SI2 (F G : Nat → Nat → Int32) (n : Nat) (q : Rq) (i : Nat) : Prop := XS F G ∧ G 23 7 = nI n ∧ G 23 6 = nI 0 ∧ ∀ j, j < n → G 24 j = q 0 j ∧ G 25 j = nI (agS i q (-9) j) ∧ G 26 j = nI (prS i q (-9) j) ∧ G 27 j = nI (if j < i then cdS q (-9) j else 0) ∧ G 28 j = nI (sdS n q j) ∧ G 29 j = nI 0
theorem ag_0 {i : Nat} {q : Rq} {j : Nat} (h : ¬ q 3 i = nI j) : agS (i + 1) q (-9) j = agS i q (-9) j := by
  unfold agS
  rw [setB]
  simp [h]
theorem pr_0 {i : Nat} {q : Rq} {j : Nat} (h : ¬ q 3 i = nI j) : prS (i + 1) q (-9) j = prS i q (-9) j := by
  unfold prS
  rw [setB]
  simp [h]
theorem ag_1 {i : Nat} {q : Rq} {j : Nat} (hi : i < 9) (h : q 3 i = nI j) : nI (agS i q (-9) j) ||| (if q 4 i < 0 then nI (2 ^ i) else 0) = nI (agS (i + 1) q (-9) j) := by
  unfold agS
  rw [← setI]
  simp [h, nI_n9 hi]
theorem pr_1 {i : Nat} {q : Rq} {j : Nat} (hi : i < 9) (h : q 3 i = nI j) : nI (prS i q (-9) j) ||| (if 0 < q 4 i then nI (2 ^ i) else 0) = nI (prS (i + 1) q (-9) j) := by
  unfold prS
  rw [← setI]
  simp [h, nI_n9 hi]
theorem upF_at {F : Nat → Nat → Int32} {k : Nat} {g : Nat → Int32} : upF F k g k = g := if_pos rfl
theorem upd_at {f : Nat → Int32} {i : Nat} {x : Int32} : upd f i x i = x := if_pos rfl
theorem upd_ne {f : Nat → Int32} {i j : Nat} {x : Int32} (h : j ≠ i) : upd f i x j = f j := if_neg h
theorem up2_ne2 {F : Nat → Nat → Int32} {k i j : Nat} {x : Int32} (h : j ≠ i) : up2 F k i x k j = F k j := by
  show upF F k (upd (F k) i x) k j = _
  rw [upF_at, upd_ne h]
section XSe
variable {d L s : Nat} {xs : Nat → Int32} {J : Nat → Int64} {F : Nat → Nat → Int32} {K : mm_K} {h : mm_H} {n : Nat} {q : Rq} {lf : Int32} {ab : Nat} {fl : Nat → Nat}
theorem x_seat (hc : CC F n q) (hk : ∀ G, XS F G → BR G n q (-9) 0 (fun _ => 0) → K none (hH L xs J s G)) : mm_call mm_Ex (d + 2) k_X0_seat [.ref 23, .ref 5] (hH L xs J s F) K := by
  have hw := hc.2.1
  have h9 := hw.1
  have L2 : ∀ x w3 G, x = nI 0 → SI2 F G n q 0 → mm_Ex (d + 2) k_X0_seat 52 (0, 0) [.ref 23, .ref 5, .int x, w3] [] (hH L xs J s G) K := by
    refine lp (n := n) (P := fun i => ∀ x (w3 : Value) G, x = nI i → SI2 F G n q i → mm_Ex (d + 2) k_X0_seat 52 (0, 0) [.ref 23, .ref 5, .int x, w3] [] (hH L xs J s G) K) ?_ ?_
    · intro x w3 G hx hG
      subst hx
      refine mm_run 20 (And.intro (fun _ => hk _ hG.1 ⟨hG.2.1, hG.2.2.1, hw, fun i hi => ?_⟩) (fun c => absurd ?_ c))
      · obtain ⟨a, b, c, e, f, g⟩ := hG.2.2.2 i hi
        rw [if_pos hi] at e
        exact ⟨a, b, c, e, f, g, Nat.zero_le _⟩
      · show G 23 7 ≤ nI n
        rw [hG.2.1]
        exact (nI_leI (by omega) (by omega)).mpr (Nat.le_refl n)
    · intro i hi ih x w3 G hx hG
      subst hx
      have ei : (nI i).toNatClampNeg = i := tn_nI (by omega)
      have hv : vp_in (nI i) 9 := vp_in_nI (by omega) (by decide)
      have hcG := hG.1.cc hc
      have e9 : G 9 (nI i).toNatClampNeg = q 3 i := by rw [ei]; exact hcG.2.2 3 (by decide) i hi
      have e7 : G 23 7 = nI n := hG.2.1
      have J107 : ∀ (w3 : Value) G', SI2 F G' n q (i + 1) → mm_Ex (d + 2) k_X0_seat 107 (0, 0) [.ref 23, .ref 5, .int (nI i), w3] [] (hH L xs J s G') K := fun w3 G' hG' => mm_run 5 (ih _ _ _ (nI_1 i) hG')
      refine mm_run 60 (And.intro (fun c => ?_) (fun _ => ⟨hv, ?_⟩))
      · have c : G 23 7 ≤ nI i := c
        rw [e7] at c
        exact absurd c (nleI hi (by omega))
      · show mm_call mm_Ex (d + 1) k_X5_within [.int (G 9 (nI i).toNatClampNeg), .int (G 23 7)] _ _
        rw [e9, e7]
        refine x_within (And.intro (fun c => J107 _ _ ?_) (fun c => ⟨hv, ?_⟩))
        · have c := b2i_0.mp c
          have e39 : q 3 i = -9 := by
            rcases (hw.2 i hi).2.2.2.1 with ⟨y, -⟩ | ⟨j, hj, e, -, -⟩
            · exact y
            · exact absurd ⟨by rw [e]; exact nle0 (by omega), by rw [e]; exact (nI_ltI (by omega) (by omega)).mpr (by omega)⟩ c
          refine ⟨hG.1, e7, hG.2.2.1, fun j hj => ?_⟩
          obtain ⟨a1, a2, a3, a4, a5, a6⟩ := hG.2.2.2 j hj
          have hne : ¬ q 3 i = nI j := fun y => absurd (y.symm.trans e39) (nI_n9 (by omega))
          refine ⟨a1, by rw [ag_0 hne]; exact a2, by rw [pr_0 hne]; exact a3, ?_, a5, a6⟩
          rw [a4]
          by_cases e : j = i
          · subst e
            rw [if_neg (by omega), if_pos (by omega)]
            unfold cdS
            rw [if_pos (Or.inl e39)]
          · by_cases e2 : j < i
            · rw [if_pos e2, if_pos (by omega)]
            · rw [if_neg e2, if_neg (by omega)]
        · have c := b2i_p c
          rcases (hw.2 i hi).2.2.2.1 with ⟨y, -⟩ | ⟨t, ht, e, hh, -⟩
          · rw [y] at c
            exact absurd c.1 (by decide)
          · have et : (nI t).toNatClampNeg = t := tn_nI (by omega)
            have vt : vp_in (nI t) 9 := vp_in_nI (by omega) (by decide)
            have eh : G 10 (nI i).toNatClampNeg = q 4 i := by rw [ei]; exact hcG.2.2 4 (by decide) i hi
            rw [e]
            obtain ⟨b1, b2, b3, b4, b5, b6⟩ := hG.2.2.2 t (by omega)
            have J105 : ∀ y, y = (if 0 < q 4 i then nI (2 ^ i) else 0) → ∀ G', G' = upF (upF G 27 (upd (G 27) i (nI (2 ^ t)))) 25 (upd (G 25) t (nI (agS (i + 1) q (-9) t))) → mm_Ex (d + 2) k_X0_seat 105 (0, 0) [.ref 23, .ref 5, .int (nI i), .int (nI t)] [.int y, .int (G 26 t), .int (nI t), .ref 26] (hH L xs J s G') K := fun y hy G' hG' => by
              subst hG'
              refine mm_run 20 ⟨vt, ?_⟩
              refine kx (hp1 (g := upd (G 26) t (nI (prS (i + 1) q (-9) t))) ?_) (J107 _ _ ?_)
              · show mI 9 (upd (G 26) t _) = mI 9 (upd (G 26) (nI t).toNatClampNeg (G 26 t ||| y))
                rw [et, b3, hy, pr_1 (by omega) e]
              · refine ⟨((hG.1.tr (XS.up (by omega))).tr (XS.up (by omega))).tr (XS.up (by omega)), e7, hG.2.2.1, fun j hj => ?_⟩
                obtain ⟨a1, a2, a3, a4, a5, a6⟩ := hG.2.2.2 j hj
                refine ⟨a1, ?_, ?_, ?_, a5, a6⟩
                · show upd (G 25) t (nI (agS (i + 1) q (-9) t)) j = _
                  by_cases e2 : j = t
                  · rw [e2, upd_at]
                  · rw [upd_ne e2, a2, ag_0 (fun y => e2 ((nI_eq (by omega) (by omega)).mp (e.symm.trans y)).symm)]
                · show upd (G 26) t (nI (prS (i + 1) q (-9) t)) j = _
                  by_cases e2 : j = t
                  · rw [e2, upd_at]
                  · rw [upd_ne e2, a3, pr_0 (fun y => e2 ((nI_eq (by omega) (by omega)).mp (e.symm.trans y)).symm)]
                · show upd (G 27) i (nI (2 ^ t)) j = _
                  by_cases e2 : j = i
                  · rw [e2, upd_at, if_pos (by omega)]
                    unfold cdS
                    rw [if_neg (fun z => z.elim (by rw [e]; exact nI_n9 (by omega)) (nI_n9 (by omega))), e, et]
                  · rw [upd_ne e2, a4]
                    by_cases e3 : j < i
                    · rw [if_pos e3, if_pos (by omega)]
                    · rw [if_neg e3, if_neg (by omega)]
            have J88 : ∀ y, y = (if q 4 i < 0 then nI (2 ^ i) else 0) → ∀ G', G' = upF G 27 (upd (G 27) i (nI (2 ^ t))) → mm_Ex (d + 2) k_X0_seat 88 (0, 0) [.ref 23, .ref 5, .int (nI i), .int (nI t)] [.int y, .int (G 25 t), .int (nI t), .ref 25] (hH L xs J s G') K := fun y hy G' hG' => by
              subst hG'
              have E : ((93, mU (hH L xs J s (upF G 27 (upd (G 27) i (nI (2 ^ t))))).2 25 (mI 9 (upd (G 25) (nI t).toNatClampNeg (G 25 t ||| y)))) : mm_H) = hH L xs J s (upF (upF G 27 (upd (G 27) i (nI (2 ^ t)))) 25 (upd (G 25) t (nI (agS (i + 1) q (-9) t)))) := hp1 (by
                show mI 9 (upd (G 25) t _) = _
                rw [et, b2, hy, ag_1 (by omega) e])
              refine mm_run 60 ⟨vt, vt, hv, And.intro (fun g => ?_) (fun g => ?_)⟩
              · have g : q 4 i ≤ 0 := eh ▸ g
                refine kx E ?_
                have := J105 0 (by rw [if_neg (Int32.not_lt.mpr g)]) _ rfl
                rw [show G 26 t = G 26 (nI t).toNatClampNeg by rw [et]] at this
                exact this
              · have g : ¬ q 4 i ≤ 0 := eh ▸ g
                refine kx E ?_
                have := J105 ((1 : Int32) <<< (nI i &&& 31)) (by rw [if_pos (Int32.not_le.mp g), shl1 (by omega)]) _ rfl
                rw [show G 26 t = G 26 (nI t).toNatClampNeg by rw [et]] at this
                exact this
            have E0 : ((93, mU (hH L xs J s G).2 27 (mI 9 (upd (G 27) (nI i).toNatClampNeg ((1 : Int32) <<< (nI t &&& 31))))) : mm_H) = hH L xs J s (upF G 27 (upd (G 27) i (nI (2 ^ t)))) := hp1 (by
              show mI 9 (upd (G 27) i _) = _
              rw [ei, shl1 (by omega)])
            refine ⟨vt, hv, And.intro (fun g => ?_) (fun g => ?_)⟩
            · have g : 0 ≤ q 4 i := eh ▸ g
              refine kx E0 ?_
              have := J88 0 (by rw [if_neg (Int32.not_lt.mpr g)]) _ rfl
              rw [show G 25 t = G 25 (nI t).toNatClampNeg by rw [et]] at this
              exact this
            · have g : ¬ 0 ≤ q 4 i := eh ▸ g
              refine kx E0 ?_
              have := J88 ((1 : Int32) <<< (nI i &&& 31)) (by rw [if_pos (Int32.not_le.mp g), shl1 (by omega)]) _ rfl
              rw [show G 25 t = G 25 (nI t).toNatClampNeg by rw [et]] at this
              exact this
  have L1 : ∀ x (w3 : Value) G, x = nI 0 → SI F G n q 0 → mm_Ex (d + 2) k_X0_seat 9 (0, 0) [.ref 23, .ref 5, .int x, w3] [] (hH L xs J s G) K := by
    refine lp (n := n) (P := fun i => ∀ x (w3 : Value) G, x = nI i → SI F G n q i → mm_Ex (d + 2) k_X0_seat 9 (0, 0) [.ref 23, .ref 5, .int x, w3] [] (hH L xs J s G) K) ?_ ?_
    · intro x w3 G hx hG
      subst hx
      refine mm_run 20 (And.intro (fun _ => L2 _ _ _ rfl ⟨hG.1, hG.2.1, hG.2.2.1, fun j hj => ?_⟩) (fun c => absurd ?_ c))
      · obtain ⟨a1, a2, a3, a4, a5, a6⟩ := hG.2.2.2 j hj
        exact ⟨a1, a2, a3, a4, a5, a6⟩
      · show G 23 7 ≤ nI n
        rw [hG.2.1]
        exact (nI_leI (by omega) (by omega)).mpr (Nat.le_refl n)
    · intro i hi ih x w3 G hx hG
      subst hx
      have ei : (nI i).toNatClampNeg = i := tn_nI (by omega)
      have hv : vp_in (nI i) 9 := vp_in_nI (by omega) (by decide)
      have hcG := hG.1.cc hc
      have e7 : G 23 7 = nI n := hG.2.1
      refine mm_run 60 (And.intro (fun c => ?_) (fun _ => ⟨hv, hv, hv, hv, hv, ?_⟩))
      · have c : G 23 7 ≤ nI i := c
        rw [e7] at c
        exact absurd c (nleI hi (by omega))
      · refine kc (hp4 (g := upd (G 24) i (q 0 i)) (g2 := upd (G 25) i 0) (g3 := upd (G 26) i 0) (g4 := upd (G 27) i 0) ?_ ?_ ?_ ?_) ?_
        · show mI 9 (upd (G 24) i (q 0 i)) = mI 9 (upd (G 24) (nI i).toNatClampNeg (G 6 (nI i).toNatClampNeg))
          rw [ei, hcG.2.2 0 (by decide) i hi]
        · show mI 9 (upd (G 25) i 0) = mI 9 (upd (G 25) (nI i).toNatClampNeg 0)
          rw [ei]
        · show mI 9 (upd (G 26) i 0) = mI 9 (upd (G 26) (nI i).toNatClampNeg 0)
          rw [ei]
        · show mI 9 (upd (G 27) i 0) = mI 9 (upd (G 27) (nI i).toNatClampNeg 0)
          rw [ei]
        · have hX : XS F (upF (upF (upF (upF G 24 (upd (G 24) i (q 0 i))) 25 (upd (G 25) i 0)) 26 (upd (G 26) i 0)) 27 (upd (G 27) i 0)) := (((hG.1.tr (XS.up (by omega))).tr (XS.up (by omega))).tr (XS.up (by omega))).tr (XS.up (by omega))
          refine x_othersOfItsDay (hX.cc hc) hi ⟨hv, hv, ?_⟩
          refine kx (hp2 (g := upd (G 28) i (nI (sdS n q i))) (g2 := upd (G 29) i 0) ?_ ?_) (ih _ _ _ (nI_1 i) ⟨(hX.tr (XS.up (by omega))).tr (XS.up (by omega)), e7, hG.2.2.1, fun j hj => ?_⟩)
          · show mI 9 (upd (G 28) i _) = mI 9 (upd (G 28) (nI i).toNatClampNeg _)
            rw [ei]
            rfl
          · show mI 9 (upd (G 29) i 0) = mI 9 (upd (G 29) (nI i).toNatClampNeg 0)
            rw [ei]
          · show upd (G 24) i (q 0 i) j = _ ∧ upd (G 25) i 0 j = _ ∧ upd (G 26) i 0 j = _ ∧ upd (G 27) i 0 j = _ ∧ upd (G 28) i (nI (sdS n q i)) j = _ ∧ upd (G 29) i 0 j = _
            by_cases e : j = i
            · subst e
              simp only [upd_at]
              exact ⟨trivial, rfl, rfl, rfl, trivial, rfl⟩
            · simp only [upd_ne e]
              exact hG.2.2.2 j (by omega)
  refine mm_run 20 (kx (hp2 (g := upd (F 23) 7 (F 5 6)) (g2 := upd (upd (F 23) 7 (F 5 6)) 6 0) rfl rfl) (L1 _ _ _ rfl ⟨(XS.up (by omega)).tr (XS.up (by omega)), ?_, rfl, fun j hj => by omega⟩))
  exact hc.1
end XSe
