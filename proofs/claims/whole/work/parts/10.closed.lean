/-! every step of the mini machine is one of the real machine -/
theorem mm_cal_inv {μ k a n : Nat} (h : mm_cal μ k a n = true) : a < 211 ∧ (Cond.methodLink (mm_ow μ) k (mm_y a) ∈ mm_gt ∨ (Cond.methodLinkNest (mm_ow μ) k (mm_y a) "BackCourt" ∈ lw_tbl)) ∧ (parseMethodDescriptor (mm_y a).desc).map (fun d => d.parameters.length) = some n := by
  unfold mm_cal at h
  simp only [Bool.and_eq_true, Bool.or_eq_true] at h
  obtain ⟨h1, h2, h3⟩ := h
  refine ⟨by simpa [Nat.blt_eq] using h1, ?_, of_decide_eq_true h3⟩
  rcases h2 with h2 | h2
  · exact Or.inl (mm_wd_in h2)
  · exact Or.inr (mm_nw_in h2).2
theorem mm_rest_W {g : mm_G} {m : MethodId} {pc : Nat} {sl : Array Slot} {st rest : List Value} (h : mm_csum rest ≤ 8) : 2 * (F0 m pc sl st).monitorRoom + ((rest.map (mm_tr g)).map fun v => v.category).sum ≤ 8 := lv_room (mm_cats rest h g)
theorem mm_map_rev {g : mm_G} {as rest : List Value} : (as.reverse ++ rest).map (mm_tr g) = (as.map (mm_tr g)).reverse ++ rest.map (mm_tr g) := by simp
theorem mm_al_small (a : Nat) (h : a < 211) : (mm_al a).2 ≤ 7302250 ∧ mm_pc a 0 = some 0 := by
  have H : ((List.range 211).all (fun a => Nat.ble (mm_al a).2 7302250 && decide (mm_pc a 0 = some 0))) = true := by decide +kernel
  have := List.all_eq_true.mp H a (List.mem_range.mpr h)
  rw [Bool.and_eq_true] at this
  exact ⟨Nat.le_of_ble_eq_true this.1, of_decide_eq_true this.2⟩
section MC
variable {p : Program} {l : Launch} {e : Env} {R : Room} {s : State} {m : MethodId} {args : Array Value} {below : List Frame} {meth : Method} {c : Code} {H : Heap} {locs : List Loc} {cells slots : Nat} {Z : State → Prop}
/-- a call, whatever its kind: hrun is its row -/
theorem mm_inv_W {g : mm_G} {d μ nx a pc mc ms : Nat} {al : Nat × Nat} {ls : List Value} {h : mm_H} {Q : mm_K} {As rest : List Value} {st0 : List Value} {sl : Array Slot}
    (hq : mm_inv (mm_Re l g) (mm_Re l g) d μ nx al ls h Q a As rest) (ha : a < 211) (hm : mm_mth a = true)
    (hC : mm_Cx g d μ p R s m args meth c) (hRt : mm_Rt l g μ p e R s m args below meth c mc ms Z Q) (hR : mm_R g H h) (hS : va_S (mm_A g) s.heap H locs) (hL : mm_L g sl (mm_ml μ) ls) (h1 : cells + al.1 ≤ mc) (h2 : slots + al.2 ≤ ms) (h3 : mc ≤ R.cells) (h4 : ms ≤ R.slots) (hnx : mm_pc μ nx = some (pc + 3))
    (hrun : ∀ (d' : Nat) (K : mm_K), d = d' + 1 → mm_csum rest ≤ 8 → Met l (mm_y a) (mm_wsm a) (mm_rm d' a) (mm_Pc g h As) (mm_Qc g K) (mm_al a).1 (mm_al a).2 (mm_A g) → (mm_rm d' a).frames + 1 ≤ R.frames ∧ 8 + (mm_ml a + 11) + (mm_rm d' a).locals ≤ R.locals → cells + (mm_al a).1 ≤ R.cells ∧ slots + (mm_al a).2 ≤ R.slots → ∃ av, va_Run p l e R s m args below meth c H locs cells slots (mm_al a).1 (mm_al a).2 (F0 m pc sl st0) (rest.map (mm_tr g)) (mm_Qc g K av) (mm_A g)) : W p l e R s m args below meth c H locs cells slots Z (F0 m pc sl st0) := by
  unfold mm_inv at hq
  obtain ⟨hfew, hq⟩ := mm_few_inv hq
  obtain ⟨hb1, hq⟩ := mm_b1_inv hq
  rw [Bool.and_eq_true] at hb1
  obtain ⟨t1, t2, hq⟩ := mm_tk_inv hq
  obtain ⟨d', rfl, hq⟩ := mm_dd_inv hq
  obtain ⟨mz, mp⟩ := mm_al_small a ha
  have hM := mm_met hq hm (Nat.lt_trans ha (by decide)) mz hb1.1 (Nat.le_of_ble_eq_true hb1.2) mp
  have hml := (mm_mth_inv hm).2.2.1
  have hC0 := hC
  obtain ⟨hx, hb, hmx, hown, hts, hT, hin, hfr, hlo, hμ, hsl⟩ := hC
  obtain ⟨av, hr⟩ := hrun d' _ rfl hfew hM ⟨hfr, by show 8 + (mm_ml a + 11) + 38 * d' ≤ R.locals; omega⟩ ⟨by omega, by omega⟩
  refine mm_go hr hS (fun r h' H1 locs1 hk hR1 hS1 => ?_)
  cases r with
  | none => exact hk p e R s m args below meth c H1 locs1 _ _ mc ms sl Z hC0 hRt hR1 hS1 hL (by show cells + (mm_al a).1 + (al.1 - (mm_al a).1) ≤ mc; omega) (by show slots + (mm_al a).2 + (al.2 - (mm_al a).2) ≤ ms; omega) h3 h4 _ hnx
  | some v => exact hk p e R s m args below meth c H1 locs1 _ _ mc ms sl Z hC0 hRt hR1 hS1 hL (by show cells + (mm_al a).1 + (al.1 - (mm_al a).1) ≤ mc; omega) (by show slots + (mm_al a).2 + (al.2 - (mm_al a).2) ≤ ms; omega) h3 h4 _ hnx
end MC

set_option maxHeartbeats 8000000 in
theorem mm_closed (l : Launch) (g : mm_G) (hall : ∀ μ, μ < mm_cnt → ∀ ip q, mm_at μ ip = some q → mm_ok μ q = true) (hmth : ∀ a, a < 211 → mm_mth a = true) (d μ ip : Nat) (al : Nat × Nat) (ls st : List Value) (h : mm_H) (Q : mm_K) : mm_step (mm_Re l g) (mm_Re l g) d μ ip al ls st h Q → mm_Re l g d μ ip al ls st h Q := by
  intro hq p e R s m args below meth c H locs cells slots mc ms sl Z hC hRt hR hS hL h1 h2 h3 h4 pc hpc
  obtain ⟨hx, hb, hml, hown, hts, hT, hin, hfr, hlo, hμ, hsl⟩ := hC
  have hC : mm_Cx g d μ p R s m args meth c := ⟨hx, hb, hml, hown, hts, hT, hin, hfr, hlo, hμ, hsl⟩
  unfold mm_step at hq
  cases hat : mm_at μ ip with
  | none => rw [hat] at hq; exact hq.elim
  | some z =>
    rw [hat] at hq
    have hok := hall μ hμ ip z hat
    obtain ⟨pc', i, nx, a, b, cv, cut⟩ := z
    have hpc' : pc' = pc := by
      unfold mm_pc at hpc
      rw [hat] at hpc
      exact Option.some.inj hpc
    subst hpc'
    have hgo : ∀ {nx : Nat} {ls : List Value} {st : List Value} {n : Nat}, mm_Re l g d μ nx al ls st h Q → mm_L g sl (mm_ml μ) ls → mm_pc μ nx = some n → W p l e R s m args below meth c H locs cells slots Z (F0 m n sl (st.map (mm_tr g))) := fun hk hL hn => hk p e R s m args below meth c H locs cells slots mc ms sl Z hC hRt hR hS hL h1 h2 h3 h4 _ hn
    cases i
    case iload_n k =>
      simp only [mm_ok, Bool.and_eq_true] at hok
      obtain ⟨hd, hn, hk⟩ := hok
      obtain ⟨x, hl, hz⟩ := mm_ldI_inv hq
      refine lv_iload_n hx hb (dcT hd) (of_decide_eq_true hk) (hL.2.2.2 a _ hl rfl) ?_
      exact hgo hz hL (nxT hn)
    case iload k =>
      simp only [mm_ok, Bool.and_eq_true] at hok
      obtain ⟨hd, hn, hk⟩ := hok
      obtain ⟨x, hl, hz⟩ := mm_ldI_inv hq
      have hk := of_decide_eq_true hk
      subst hk
      refine lv_iload hx hb (dcT hd) (hL.2.2.2 _ _ hl rfl) ?_
      exact hgo hz hL (nxT hn)
    case lload_n k =>
      simp only [mm_ok, Bool.and_eq_true] at hok
      obtain ⟨hd, hn, hk⟩ := hok
      obtain ⟨x, hl, hz⟩ := mm_ldL_inv hq
      refine lv_lload_n hx hb (dcT hd) (of_decide_eq_true hk) (hL.2.2.2 a _ hl rfl) ?_
      exact hgo hz hL (nxT hn)
    case lload k =>
      simp only [mm_ok, Bool.and_eq_true] at hok
      obtain ⟨hd, hn, hk⟩ := hok
      obtain ⟨x, hl, hz⟩ := mm_ldL_inv hq
      have hk := of_decide_eq_true hk
      subst hk
      refine lv_lload hx hb (dcT hd) (hL.2.2.2 _ _ hl rfl) ?_
      exact hgo hz hL (nxT hn)
    case aload_n k =>
      simp only [mm_ok, Bool.and_eq_true] at hok
      obtain ⟨hd, hn, hk⟩ := hok
      obtain ⟨x, hl, hz⟩ := mm_ldR_inv hq
      refine lv_aload_n hx hb (dcT hd) (of_decide_eq_true hk) (hL.2.2.2 a _ hl rfl) ?_
      exact hgo hz hL (nxT hn)
    case aload k =>
      simp only [mm_ok, Bool.and_eq_true] at hok
      obtain ⟨hd, hn, hk⟩ := hok
      obtain ⟨x, hl, hz⟩ := mm_ldR_inv hq
      have hk := of_decide_eq_true hk
      subst hk
      refine lv_aload hx hb (dcT hd) (hL.2.2.2 _ _ hl rfl) ?_
      exact hgo hz hL (nxT hn)
    case istore_n k =>
      simp only [mm_ok, Bool.and_eq_true] at hok
      obtain ⟨hd, hn, hk⟩ := hok
      obtain ⟨x, r, rfl, hz⟩ := mm_i1_inv hq
      obtain ⟨hi, hz, hlg⟩ := mm_st_inv hz
      have hk := of_decide_eq_true hk
      subst hk
      refine lv_istore_n hx hb (dcT hd) rfl hL.has (by rw [← hL.2.1]; exact hi) rfl (fun sl2 hl2 => ?_)
      exact hz p e R s m args below meth c H locs cells slots mc ms sl2 Z hC hRt hR hS (hL.st hi hlg hl2) h1 h2 h3 h4 _ (nxT hn)
    case istore k =>
      simp only [mm_ok, Bool.and_eq_true] at hok
      obtain ⟨hd, hn, hk⟩ := hok
      obtain ⟨x, r, rfl, hz⟩ := mm_i1_inv hq
      obtain ⟨hi, hz, hlg⟩ := mm_st_inv hz
      have hk := of_decide_eq_true hk
      subst hk
      refine lv_istore hx hb (dcT hd) hL.has (by rw [← hL.2.1]; exact hi) rfl (fun sl2 hl2 => ?_)
      exact hz p e R s m args below meth c H locs cells slots mc ms sl2 Z hC hRt hR hS (hL.st hi hlg hl2) h1 h2 h3 h4 _ (nxT hn)
    case astore_n k =>
      simp only [mm_ok, Bool.and_eq_true] at hok
      obtain ⟨hd, hn, hk⟩ := hok
      obtain ⟨x, r, rfl, hz⟩ := mm_r1_inv hq
      obtain ⟨hi, hz, hlg⟩ := mm_st_inv hz
      have hk := of_decide_eq_true hk
      subst hk
      refine lv_astore_n hx hb (dcT hd) rfl hL.has (by rw [← hL.2.1]; exact hi) rfl (fun sl2 hl2 => ?_)
      exact hz p e R s m args below meth c H locs cells slots mc ms sl2 Z hC hRt hR hS (hL.st hi hlg hl2) h1 h2 h3 h4 _ (nxT hn)
    case astore k =>
      simp only [mm_ok, Bool.and_eq_true] at hok
      obtain ⟨hd, hn, hk⟩ := hok
      obtain ⟨x, r, rfl, hz⟩ := mm_r1_inv hq
      obtain ⟨hi, hz, hlg⟩ := mm_st_inv hz
      have hk := of_decide_eq_true hk
      subst hk
      refine lv_astore hx hb (dcT hd) hL.has (by rw [← hL.2.1]; exact hi) rfl (fun sl2 hl2 => ?_)
      exact hz p e R s m args below meth c H locs cells slots mc ms sl2 Z hC hRt hR hS (hL.st hi hlg hl2) h1 h2 h3 h4 _ (nxT hn)
    case lstore_n k =>
      simp only [mm_ok, Bool.and_eq_true] at hok
      obtain ⟨hd, hn, hk⟩ := hok
      obtain ⟨x, r, rfl, hz⟩ := mm_l1_inv hq
      obtain ⟨hi, hz, hlg⟩ := mm_st2_inv hz
      have hk := of_decide_eq_true hk
      subst hk
      refine lv_lstore_n hx hb (dcT hd) rfl hL.has (by rw [← hL.2.1]; exact hi) rfl (fun sl2 hl2 => ?_)
      exact hz p e R s m args below meth c H locs cells slots mc ms sl2 Z hC hRt hR hS (hL.st2 hi hlg hl2) h1 h2 h3 h4 _ (nxT hn)
    case lstore k =>
      simp only [mm_ok, Bool.and_eq_true] at hok
      obtain ⟨hd, hn, hk⟩ := hok
      obtain ⟨x, r, rfl, hz⟩ := mm_l1_inv hq
      obtain ⟨hi, hz, hlg⟩ := mm_st2_inv hz
      have hk := of_decide_eq_true hk
      subst hk
      refine lv_lstore hx hb (dcT hd) hL.has (by rw [← hL.2.1]; exact hi) rfl (fun sl2 hl2 => ?_)
      exact hz p e R s m args below meth c H locs cells slots mc ms sl2 Z hC hRt hR hS (hL.st2 hi hlg hl2) h1 h2 h3 h4 _ (nxT hn)
    case iinc k n =>
      simp only [mm_ok, Bool.and_eq_true] at hok
      obtain ⟨hd, hn, hk, hv⟩ := hok
      have hk := of_decide_eq_true hk
      subst hk
      have hv : cv = _ := of_decide_eq_true hv
      subst hv
      obtain ⟨x, hl, hz⟩ := mm_ldI_inv hq
      obtain ⟨hi, hz, hlg⟩ := mm_st_inv hz
      obtain ⟨k2, hk2⟩ := List.getElem?_of_mem (mm_pl_in (g := g) hl rfl)
      refine lv_iinc hx hb (dcT hd) hL.has hk2 rfl (by rw [← hL.2.1]; exact hi) rfl (fun sl2 hl2 => ?_)
      exact hz p e R s m args below meth c H locs cells slots mc ms sl2 Z hC hRt hR hS (hL.st hi hlg hl2) h1 h2 h3 h4 _ (nxT hn)
    case iconst n =>
      simp only [mm_ok, Bool.and_eq_true] at hok
      obtain ⟨hd, hn, hv⟩ := hok
      have hv : cv = _ := of_decide_eq_true hv
      subst hv
      refine lv_iconst hx hb (dcT hd) rfl ?_
      exact hgo hq hL (nxT hn)
    case bipush n =>
      simp only [mm_ok, Bool.and_eq_true] at hok
      obtain ⟨hd, hn, hv⟩ := hok
      have hv : cv = _ := of_decide_eq_true hv
      subst hv
      refine lv_bipush hx hb (dcT hd) rfl ?_
      exact hgo hq hL (nxT hn)
    case sipush n =>
      simp only [mm_ok, Bool.and_eq_true] at hok
      obtain ⟨hd, hn, hv⟩ := hok
      have hv : cv = _ := of_decide_eq_true hv
      subst hv
      refine lv_sipush hx hb (dcT hd) rfl ?_
      exact hgo hq hL (nxT hn)
    case lconst n =>
      simp only [mm_ok, Bool.and_eq_true] at hok
      obtain ⟨hd, hn, hv⟩ := hok
      have hv : cv = _ := of_decide_eq_true hv
      subst hv
      refine lv_lconst hx hb (dcT hd) rfl ?_
      exact hgo hq hL (nxT hn)
    case ldc k =>
      simp only [mm_ok, Bool.and_eq_true] at hok
      obtain ⟨hd, hn, hv⟩ := hok
      cases cv <;> first
        | (cases hv; done)
        | (refine lv_ldc hx hb hown (hts _ (mm_wd_in hv)) (dcT hd) ?_
           exact hgo hq hL (nxT hn))
    case ldc_w k =>
      simp only [mm_ok, Bool.and_eq_true] at hok
      obtain ⟨hd, hn, hv⟩ := hok
      cases cv <;> first
        | (cases hv; done)
        | (refine lv_ldcw hx hb hown (hts _ (mm_wd_in hv)) (dcT hd) ?_
           exact hgo hq hL (nxT hn))
    case ldc2_w k =>
      simp only [mm_ok, Bool.and_eq_true] at hok
      obtain ⟨hd, hn, hv⟩ := hok
      cases cv <;> first
        | (cases hv; done)
        | (refine lv_ldc2 hx hb hown (hts _ (mm_wd_in hv)) (dcT hd) ?_
           exact hgo hq hL (nxT hn))
    case getstatic k =>
      simp only [mm_ok, Bool.and_eq_true] at hok
      obtain ⟨hd, hn, hv⟩ := hok
      obtain ⟨hv1, hv2⟩ := mm_nw_in hv
      refine va_getsN hx hb hT.2.2.2.2.1 hS hown (va_Nw.use (mm_nest_tab hv1) (hT.2.1 _ hv2 hv1)) (fun _ z => z) (dcT hd) ?_
      exact hgo hq hL (nxT hn)
    case iadd =>
      simp only [mm_ok, Bool.and_eq_true] at hok
      obtain ⟨hd, hn⟩ := hok
      obtain ⟨x0, x1, r, rfl, hz⟩ := mm_i2_inv hq
      refine lv_iadd hx hb (dcT hd) ?_
      exact hgo hz hL (nxT hn)
    case isub =>
      simp only [mm_ok, Bool.and_eq_true] at hok
      obtain ⟨hd, hn⟩ := hok
      obtain ⟨x0, x1, r, rfl, hz⟩ := mm_i2_inv hq
      refine lv_isub hx hb (dcT hd) ?_
      exact hgo hz hL (nxT hn)
    case imul =>
      simp only [mm_ok, Bool.and_eq_true] at hok
      obtain ⟨hd, hn⟩ := hok
      obtain ⟨x0, x1, r, rfl, hz⟩ := mm_i2_inv hq
      refine lv_imul hx hb (dcT hd) ?_
      exact hgo hz hL (nxT hn)
    case iand =>
      simp only [mm_ok, Bool.and_eq_true] at hok
      obtain ⟨hd, hn⟩ := hok
      obtain ⟨x0, x1, r, rfl, hz⟩ := mm_i2_inv hq
      refine lv_iand hx hb (dcT hd) ?_
      exact hgo hz hL (nxT hn)
    case ior =>
      simp only [mm_ok, Bool.and_eq_true] at hok
      obtain ⟨hd, hn⟩ := hok
      obtain ⟨x0, x1, r, rfl, hz⟩ := mm_i2_inv hq
      refine lv_ior hx hb (dcT hd) ?_
      exact hgo hz hL (nxT hn)
    case ixor =>
      simp only [mm_ok, Bool.and_eq_true] at hok
      obtain ⟨hd, hn⟩ := hok
      obtain ⟨x0, x1, r, rfl, hz⟩ := mm_i2_inv hq
      refine lv_ixor hx hb (dcT hd) ?_
      exact hgo hz hL (nxT hn)
    case ishl =>
      simp only [mm_ok, Bool.and_eq_true] at hok
      obtain ⟨hd, hn⟩ := hok
      obtain ⟨x0, x1, r, rfl, hz⟩ := mm_i2_inv hq
      refine lv_ishl hx hb (dcT hd) ?_
      exact hgo hz hL (nxT hn)
    case ishr =>
      simp only [mm_ok, Bool.and_eq_true] at hok
      obtain ⟨hd, hn⟩ := hok
      obtain ⟨x0, x1, r, rfl, hz⟩ := mm_i2_inv hq
      refine lv_ishr hx hb (dcT hd) ?_
      exact hgo hz hL (nxT hn)
    case iushr =>
      simp only [mm_ok, Bool.and_eq_true] at hok
      obtain ⟨hd, hn⟩ := hok
      obtain ⟨x0, x1, r, rfl, hz⟩ := mm_i2_inv hq
      refine lv_iushr hx hb (dcT hd) rfl ?_
      exact hgo hz hL (nxT hn)
    case idiv =>
      simp only [mm_ok, Bool.and_eq_true] at hok
      obtain ⟨hd, hn⟩ := hok
      obtain ⟨x0, x1, r, rfl, hz⟩ := mm_i2_inv hq
      refine lv_idiv hx hb (dcT hd) hz.1 ?_
      exact hgo hz.2 hL (nxT hn)
    case irem =>
      simp only [mm_ok, Bool.and_eq_true] at hok
      obtain ⟨hd, hn⟩ := hok
      obtain ⟨x0, x1, r, rfl, hz⟩ := mm_i2_inv hq
      refine lv_irem hx hb (dcT hd) hz.1 ?_
      exact hgo hz.2 hL (nxT hn)
    case ladd =>
      simp only [mm_ok, Bool.and_eq_true] at hok
      obtain ⟨hd, hn⟩ := hok
      obtain ⟨x0, x1, r, rfl, hz⟩ := mm_l2_inv hq
      refine lv_ladd hx hb (dcT hd) ?_
      exact hgo hz hL (nxT hn)
    case lmul =>
      simp only [mm_ok, Bool.and_eq_true] at hok
      obtain ⟨hd, hn⟩ := hok
      obtain ⟨x0, x1, r, rfl, hz⟩ := mm_l2_inv hq
      refine lv_lmul hx hb (dcT hd) ?_
      exact hgo hz hL (nxT hn)
    case lcmp =>
      simp only [mm_ok, Bool.and_eq_true] at hok
      obtain ⟨hd, hn⟩ := hok
      obtain ⟨x0, x1, r, rfl, hz⟩ := mm_l2_inv hq
      refine W.lcmp hx hb (dcT hd) ?_
      exact hgo hz hL (nxT hn)
    case ldiv =>
      simp only [mm_ok, Bool.and_eq_true] at hok
      obtain ⟨hd, hn⟩ := hok
      obtain ⟨x0, x1, r, rfl, hz⟩ := mm_l2_inv hq
      refine lv_ldiv hx hb (dcT hd) hz.1 ?_
      exact hgo hz.2 hL (nxT hn)
    case lrem =>
      simp only [mm_ok, Bool.and_eq_true] at hok
      obtain ⟨hd, hn⟩ := hok
      obtain ⟨x0, x1, r, rfl, hz⟩ := mm_l2_inv hq
      refine lv_lrem hx hb (dcT hd) hz.1 ?_
      exact hgo hz.2 hL (nxT hn)
    case ineg =>
      simp only [mm_ok, Bool.and_eq_true] at hok
      obtain ⟨hd, hn⟩ := hok
      obtain ⟨x0, r, rfl, hz⟩ := mm_i1_inv hq
      refine lv_ineg hx hb (dcT hd) ?_
      exact hgo hz hL (nxT hn)
    case i2l =>
      simp only [mm_ok, Bool.and_eq_true] at hok
      obtain ⟨hd, hn⟩ := hok
      obtain ⟨x0, r, rfl, hz⟩ := mm_i1_inv hq
      refine lv_i2l hx hb (dcT hd) rfl ?_
      exact hgo hz hL (nxT hn)
    case i2b =>
      simp only [mm_ok, Bool.and_eq_true] at hok
      obtain ⟨hd, hn⟩ := hok
      obtain ⟨x0, r, rfl, hz⟩ := mm_i1_inv hq
      refine lv_i2b hx hb (dcT hd) rfl ?_
      exact hgo hz hL (nxT hn)
    case l2i =>
      simp only [mm_ok, Bool.and_eq_true] at hok
      obtain ⟨hd, hn⟩ := hok
      obtain ⟨x0, r, rfl, hz⟩ := mm_l1_inv hq
      refine lv_l2i hx hb (dcT hd) rfl ?_
      exact hgo hz hL (nxT hn)
    case dup =>
      simp only [mm_ok, Bool.and_eq_true] at hok
      obtain ⟨hd, hn⟩ := hok
      obtain ⟨x0, r, rfl, hz⟩ := mm_v1_inv hq
      obtain ⟨hc, hz⟩ := mm_b1_inv hz
      refine lv_dup hx hb (dcT hd) (by rw [mm_tr_cat]; exact Nat.eq_of_beq_eq_true hc) ?_
      exact hgo hz hL (nxT hn)
    case pop =>
      simp only [mm_ok, Bool.and_eq_true] at hok
      obtain ⟨hd, hn⟩ := hok
      obtain ⟨x0, r, rfl, hz⟩ := mm_v1_inv hq
      obtain ⟨hc, hz⟩ := mm_b1_inv hz
      refine lv_pop hx hb (dcT hd) (by rw [mm_tr_cat]; exact Nat.eq_of_beq_eq_true hc) ?_
      exact hgo hz hL (nxT hn)
    case dup2 =>
      simp only [mm_ok, Bool.and_eq_true] at hok
      obtain ⟨hd, hn⟩ := hok
      obtain ⟨x0, x1, r, rfl, hz⟩ := mm_v2_inv hq
      obtain ⟨hc, hz⟩ := mm_b1_inv hz
      rw [Bool.and_eq_true] at hc
      refine lv_dup2_11 hx hb (dcT hd) (by rw [mm_tr_cat]; exact Nat.eq_of_beq_eq_true hc.1) (by rw [mm_tr_cat]; exact Nat.eq_of_beq_eq_true hc.2) ?_
      exact hgo hz hL (nxT hn)
    case ifCond cd off =>
      simp only [mm_ok, Bool.and_eq_true] at hok
      obtain ⟨hd, hn, ht⟩ := hok
      obtain ⟨t, t1, t2⟩ := mm_tgt_inv ht
      cases cd
      case eq =>
        obtain ⟨x0, r, rfl, hz⟩ := mm_i1_inv hq
        exact lv_if_eq hx hb (dcT hd) t2 (fun q => hgo (hz.1 q) hL t1) (fun q => hgo (hz.2 q) hL (nxT hn))
      case ne =>
        obtain ⟨x0, r, rfl, hz⟩ := mm_i1_inv hq
        exact lv_if_ne hx hb (dcT hd) t2 (fun q => hgo (hz.1 q) hL t1) (fun q => hgo (hz.2 q) hL (nxT hn))
      case lt =>
        obtain ⟨x0, r, rfl, hz⟩ := mm_i1_inv hq
        exact lv_if_lt hx hb (dcT hd) t2 (fun q => hgo (hz.1 q) hL t1) (fun q => hgo (hz.2 q) hL (nxT hn))
      case ge =>
        obtain ⟨x0, r, rfl, hz⟩ := mm_i1_inv hq
        exact lv_if_ge hx hb (dcT hd) t2 (fun q => hgo (hz.1 q) hL t1) (fun q => hgo (hz.2 q) hL (nxT hn))
      case gt =>
        obtain ⟨x0, r, rfl, hz⟩ := mm_i1_inv hq
        exact lv_if_gt hx hb (dcT hd) t2 (fun q => hgo (hz.1 q) hL t1) (fun q => hgo (hz.2 q) hL (nxT hn))
      case le =>
        obtain ⟨x0, r, rfl, hz⟩ := mm_i1_inv hq
        exact lv_if_le hx hb (dcT hd) t2 (fun q => hgo (hz.1 q) hL t1) (fun q => hgo (hz.2 q) hL (nxT hn))
    case if_icmp cd off =>
      simp only [mm_ok, Bool.and_eq_true] at hok
      obtain ⟨hd, hn, ht⟩ := hok
      obtain ⟨t, t1, t2⟩ := mm_tgt_inv ht
      cases cd
      case eq =>
        obtain ⟨x0, x1, r, rfl, hz⟩ := mm_i2_inv hq
        exact lv_icmp_eq hx hb (dcT hd) t2 (fun q => hgo (hz.1 q) hL t1) (fun q => hgo (hz.2 q) hL (nxT hn))
      case ne =>
        obtain ⟨x0, x1, r, rfl, hz⟩ := mm_i2_inv hq
        exact lv_icmp_ne hx hb (dcT hd) t2 (fun q => hgo (hz.1 q) hL t1) (fun q => hgo (hz.2 q) hL (nxT hn))
      case lt =>
        obtain ⟨x0, x1, r, rfl, hz⟩ := mm_i2_inv hq
        exact lv_icmp_lt hx hb (dcT hd) t2 (fun q => hgo (hz.1 q) hL t1) (fun q => hgo (hz.2 q) hL (nxT hn))
      case ge =>
        obtain ⟨x0, x1, r, rfl, hz⟩ := mm_i2_inv hq
        exact lv_icmp_ge hx hb (dcT hd) t2 (fun q => hgo (hz.1 q) hL t1) (fun q => hgo (hz.2 q) hL (nxT hn))
      case gt =>
        obtain ⟨x0, x1, r, rfl, hz⟩ := mm_i2_inv hq
        exact lv_icmp_gt hx hb (dcT hd) t2 (fun q => hgo (hz.1 q) hL t1) (fun q => hgo (hz.2 q) hL (nxT hn))
      case le =>
        obtain ⟨x0, x1, r, rfl, hz⟩ := mm_i2_inv hq
        exact lv_icmp_le hx hb (dcT hd) t2 (fun q => hgo (hz.1 q) hL t1) (fun q => hgo (hz.2 q) hL (nxT hn))
    case goto off =>
      simp only [mm_ok, Bool.and_eq_true] at hok
      obtain ⟨hd, ht⟩ := hok
      obtain ⟨t, t1, t2⟩ := mm_tgt_inv ht
      exact lv_goto hx hb (dcT hd) t2 (hgo hq hL t1)
    case tableswitch df lo hi offs =>
      simp only [mm_ok, Bool.and_eq_true] at hok
      obtain ⟨hd, ht, hsw, hhi⟩ := hok
      have hhi : hi + 1 = lo + (offs.size : Int) := of_decide_eq_true hhi
      obtain ⟨x0, r, rfl, hz⟩ := mm_i1_inv hq
      have hdec : ∃ len, decode (mm_by μ) pc' = .ok (.tableswitch df lo hi offs, len) := by
        split at hd
        · rename_i j len ej
          have e2 : j = _ := of_decide_eq_true hd
          subst e2
          exact ⟨len, ej⟩
        · cases hd
      obtain ⟨len, hdec⟩ := hdec
      obtain ⟨t, t1, t2⟩ := mm_tgt_inv ht
      rcases mm_sw_hit hsw hz with ⟨q1, q2⟩ | ⟨k, off, t', tp, q1, q2, q3, q4, q5⟩
      · refine lv_tableOut hx hb hdec ?_ t2 (hgo q2 hL t1)
        simp only [Array.length_toList] at q1
        omega
      · have hkl : k < offs.size := by
          have := (List.getElem?_eq_some_iff.mp q2).1
          simpa using this
        refine lv_tableIn hx hb hdec (by omega) (by omega) (off := off) ?_ q5 (hgo q3 hL q4)
        have e1 : (x0.toInt - lo).toNat = k := by omega
        rw [e1, ← Array.getElem?_toList]
        exact q2
    case newarray t =>
      simp only [mm_ok, Bool.and_eq_true] at hok
      obtain ⟨hd, hn, hty, hwd⟩ := hok
      have hty := of_decide_eq_true hty
      subst hty
      obtain ⟨n, r, rfl, z1, z2, z3, z4, hz⟩ := mm_i1_inv hq
      refine mm_newi hx hb (hts _ (mm_wd_in hwd)) hT.1 hR hS z1 z2 (by omega) (by omega) (by omega) (dcT hd) (fun H1 hR1 hS1 => ?_)
      exact hz p e R s m args below meth c H1 locs _ _ mc ms sl Z hC hRt hR1 hS1 hL (by show cells + 1 + (al.1 - 1) ≤ mc; omega) (by show slots + n.toNatClampNeg + (al.2 - n.toNatClampNeg) ≤ ms; omega) h3 h4 _ (nxT hn)
    case anewarray k =>
      simp only [mm_ok, Bool.and_eq_true, Bool.or_eq_true] at hok
      obtain ⟨hd, hn, hcl⟩ := hok
      obtain ⟨n, r, rfl, z1, z2, z3, z4, hz⟩ := mm_i1_inv hq
      have key : ∃ r : vw_C, (a = 1 ∨ a = 3) ∧ mm_cls[a]? = some r ∧ (Cond.classLink (mm_ow μ) k r.1).before args s = true ∧ va_AO r.1 s := by
        rcases hcl with ⟨e1, e2⟩ | ⟨e1, e2⟩
        · have e1 := Nat.eq_of_beq_eq_true e1
          subst e1
          exact ⟨_, Or.inl rfl, rfl, hts _ (mm_wd_in e2), hT.2.2.1⟩
        · have e1 := Nat.eq_of_beq_eq_true e1
          subst e1
          exact ⟨_, Or.inr rfl, rfl, hts _ (mm_wd_in e2), hT.2.2.2.1⟩
      obtain ⟨rc, ka, kb, kc, kd⟩ := key
      refine mm_newr hx hb hown ka kb kc kd hT.1 hR hS z1 z2 (by omega) (by omega) (by omega) (dcT hd) (fun H1 hR1 hS1 => ?_)
      exact hz p e R s m args below meth c H1 locs _ _ mc ms sl Z hC hRt hR1 hS1 hL (by show cells + 1 + (al.1 - 1) ≤ mc; omega) (by show slots + n.toNatClampNeg + (al.2 - n.toNatClampNeg) ≤ ms; omega) h3 h4 _ (nxT hn)
    case new k =>
      simp only [mm_ok, Bool.and_eq_true] at hok
      obtain ⟨hd, hn, hkl⟩ := hok
      obtain ⟨C, T, N, hcl, hw⟩ := mm_kl_inv hkl
      simp only [Bool.and_eq_true] at hw
      obtain ⟨w1, w2, w3, w4⟩ := hw
      have w4 : (mm_def a).length = N := of_decide_eq_true w4
      obtain ⟨z1, z2, z3, hz⟩ := hq
      refine mm_new hx hb hts hown hT.1 hR hS hcl (hts _ (mm_wd_in w1)) (hts _ (mm_wd_in w2)) (hts _ (mm_wd_in w3)) z1 (by omega) (by omega) (dcT hd) (fun H1 hR1 hS1 => ?_)
      exact hz p e R s m args below meth c H1 locs _ _ mc ms sl Z hC hRt hR1 hS1 hL (by show cells + 1 + (al.1 - 1) ≤ mc; omega) (by show slots + N + (al.2 - (mm_def a).length) ≤ ms; omega) h3 h4 _ (nxT hn)
    case getfield k =>
      simp only [mm_ok, Bool.and_eq_true] at hok
      obtain ⟨hd, hn, hkl⟩ := hok
      obtain ⟨C, T, N, hcl, hw⟩ := mm_kl_inv hkl
      simp only [Bool.and_eq_true] at hw
      obtain ⟨w1, w2⟩ := hw
      have w1 : b < N := by simpa [Nat.blt_eq] using w1
      obtain ⟨o, r, rfl, hz⟩ := mm_r1_inv hq
      obtain ⟨fs, eo, hz⟩ := mm_obj_inv hz
      obtain ⟨v, hv, hz⟩ := mm_ld_inv hz
      obtain ⟨ha7, hkn⟩ := mm_kn_of hcl
      obtain ⟨o2, o3, hws⟩ := hR.obj eo (by omega)
      refine va_get (D := gvD g) (ci := a) (C := C) (T := T) (N := N) (Ts := mm_gt) hx hb hts hkn.1 hown hT.1 hR.2.2.2.2.2 (o - 2) hws hcl b w1 (hts _ (mm_wd_in w2)) (fun _ z => z) (v := mm_tr g v) (by rw [List.getElem?_map, hv]; rfl) (dcT hd) ?_
      exact hgo hz hL (nxT hn)
    case putfield k =>
      simp only [mm_ok, Bool.and_eq_true] at hok
      obtain ⟨hd, hn, hkl⟩ := hok
      obtain ⟨C, T, N, hcl, hw⟩ := mm_kl_inv hkl
      simp only [Bool.and_eq_true, Bool.or_eq_true] at hw
      obtain ⟨w1, w2, w3, w4⟩ := hw
      have w1 : b < N := by simpa [Nat.blt_eq] using w1
      obtain ⟨v, o, r, rfl, hz⟩ := mm_vr_inv hq
      obtain ⟨fs, eo, hz⟩ := mm_obj_inv hz
      obtain ⟨dv, hdv, hz⟩ := mm_ld_inv hz
      obtain ⟨hfit, hz⟩ := mm_b1_inv hz
      obtain ⟨hl, hz⟩ := mm_set_inv hz
      rw [hdv] at w3
      have hfin : (T b).2.2.2 = false ∨ ((T b).2.2.2 = true ∧ meth.name = "<init>" ∧ (T b).1 = mm_ow μ) := by
        cases hf : (T b).2.2.2 with
        | false => exact Or.inl rfl
        | true =>
          rw [hf] at w4
          rcases w4 with w4 | ⟨w4, w5⟩
          · cases w4
          · exact Or.inr ⟨rfl, hin w4, of_decide_eq_true w5⟩
      refine mm_put hx hb hts hown hT.1 hR hS hcl w1 (hts _ (mm_wd_in w2)) w3 hfin eo hfit hl (dcT hd) (fun H1 locs1 hR1 hS1 => ?_)
      exact hz p e R s m args below meth c H1 locs1 _ _ mc ms sl Z hC hRt hR1 hS1 hL h1 h2 h3 h4 _ (nxT hn)
    case iaload =>
      simp only [mm_ok, Bool.and_eq_true] at hok
      obtain ⟨hd, hn⟩ := hok
      obtain ⟨i, o, r, rfl, hz⟩ := mm_ir_inv hq
      obtain ⟨n, f, eo, hi, hz⟩ := mm_arr_inv hz
      rcases eo with eo | eo
      · obtain ⟨o2, o3, hws⟩ := hR.ints eo
        refine va_iald (D := gvD g) hx hb hT.1 hR.2.2.2.2.2 (o - 2) 0 hws rfl hi (dcT hd) ?_
        exact hgo hz hL (nxT hn)
      · have nb : ¬ mm_A g (gvb g) := Nat.not_le.mpr hT.2.2.2.2.2.2.2.2.1
        have nt : ¬ mm_A g (gvt g) := Nat.not_le.mpr hT.2.2.2.2.2.2.2.1
        have hz9 := hT.2.2.2.2.2.2.2.2.2
        have hb9 := hT.2.2.2.2.2.2.2.2.1
        have ht9 := hT.2.2.2.2.2.2.2.1
        rcases hR.ext eo with ⟨rfl, rfl, rfl⟩ | ⟨rfl, rfl, rfl⟩
        · refine va_sld hx hb hT.2.2.2.2.2.2.1 (Nat.lt_of_lt_of_le hb9 hz9) nb hS hi (dcT hd) ?_
          exact hgo hz hL (nxT hn)
        · refine va_ti hx hb hT.2.2.2.2.2.1 hS hi rfl (dcT hd) ?_
          exact hgo hz hL (nxT hn)
    case iastore =>
      simp only [mm_ok, Bool.and_eq_true] at hok
      obtain ⟨hd, hn⟩ := hok
      obtain ⟨x, i, o, r, rfl, hz⟩ := mm_iir_inv hq
      obtain ⟨n, f, eo, hi, hz⟩ := mm_arw_inv hz
      refine mm_iast hx hb hT.1 hR hS eo hi (dcT hd) (fun H1 locs1 hR1 hS1 => ?_)
      exact hz p e R s m args below meth c H1 locs1 _ _ mc ms sl Z hC hRt hR1 hS1 hL h1 h2 h3 h4 _ (nxT hn)
    case aaload =>
      simp only [mm_ok, Bool.and_eq_true] at hok
      obtain ⟨hd, hn⟩ := hok
      obtain ⟨i, o, r, rfl, hz⟩ := mm_ir_inv hq
      obtain ⟨cc, n, f, eo, hi, k, hk, hz⟩ := mm_rar_inv hz
      obtain ⟨o2, o3, hci, hws⟩ := hR.refs eo
      obtain ⟨t0, rc, hc, ht⟩ := mm_ca_ty (g := g) hci
      refine va_aldq (D := gvD g) hx hb hT.1 hR.2.2.2.2.2 (o - 2) t0 hws ht hi (dcT hd) ?_
      rw [hk]
      exact hgo hz hL (nxT hn)
    case aastore =>
      simp only [mm_ok, Bool.and_eq_true] at hok
      obtain ⟨hd, hn⟩ := hok
      obtain ⟨v, i, o, r, rfl, hz⟩ := mm_rir_inv hq
      obtain ⟨cc, n, f, eo, hi, hz⟩ := mm_rar_inv hz
      obtain ⟨fs, ev, hz⟩ := mm_obj_inv hz
      refine mm_aast hx hb hT.1 hR hS eo ev hi (dcT hd) (fun H1 locs1 hR1 hS1 => ?_)
      exact hz p e R s m args below meth c H1 locs1 _ _ mc ms sl Z hC hRt hR1 hS1 hL h1 h2 h3 h4 _ (nxT hn)
    case arraylength =>
      simp only [mm_ok, Bool.and_eq_true] at hok
      obtain ⟨hd, hn⟩ := hok
      obtain ⟨o, r, rfl, hz⟩ := mm_r1_inv hq
      unfold mm_alen at hz
      split at hz
      · rename_i n f eo
        obtain ⟨o2, o3, hws⟩ := hR.ints (o := o) (n := n) (f := f) eo
        refine va_alen (D := gvD g) hx hb hT.1 hR.2.2.2.2.2 (o - 2) 0 hws (ty := .int) rfl rfl (dcT hd) ?_
        exact hgo hz hL (nxT hn)
      · rename_i n f eo
        have nb : ¬ mm_A g (gvb g) := Nat.not_le.mpr hT.2.2.2.2.2.2.2.2.1
        have nt : ¬ mm_A g (gvt g) := Nat.not_le.mpr hT.2.2.2.2.2.2.2.1
        have hz9 := hT.2.2.2.2.2.2.2.2.2
        have hb9 := hT.2.2.2.2.2.2.2.2.1
        have ht9 := hT.2.2.2.2.2.2.2.1
        rcases hR.ext (o := o) (n := n) (f := f) eo with ⟨rfl, rfl, rfl⟩ | ⟨rfl, rfl, rfl⟩
        · refine va_slen hx hb hT.2.2.2.2.2.2.1 (Nat.lt_of_lt_of_le hb9 hz9) nb hS (dcT hd) ?_
          exact hgo hz hL (nxT hn)
        · refine va_tlen hx hb hT.2.2.2.2.2.1 hS rfl (dcT hd) ?_
          exact hgo hz hL (nxT hn)
      · rename_i ci n f eo
        obtain ⟨o2, o3, hci, hws⟩ := hR.refs (o := o) (ci := ci) (n := n) (f := f) eo
        obtain ⟨t0, rc, hc, ht⟩ := mm_ca_ty (g := g) hci
        refine va_alen (D := gvD g) hx hb hT.1 hR.2.2.2.2.2 (o - 2) t0 hws ht rfl (dcT hd) ?_
        exact hgo hz hL (nxT hn)
      · exact hz.elim
    case ireturn =>
      simp only [mm_ok, Bool.and_eq_true, Bool.or_eq_true] at hok
      obtain ⟨hd, hrt⟩ := hok
      unfold mm_stepI at hq
      dsimp only at hq
      split at hq
      · rename_i x
        rcases hrt with hrt | hrt
        · have hrt : mm_rt μ = some .int := of_decide_eq_true hrt
          rw [hrt] at hq
          exact hRt H locs cells slots pc' sl (some (.int x)) h .ireturn hq hR hS (by omega) (by omega) (dcT hd) (Or.inl ⟨rfl, x, rfl, Or.inl hrt⟩)
        · have hrt : mm_rt μ = some .boolean := of_decide_eq_true hrt
          rw [hrt] at hq
          exact hRt H locs cells slots pc' sl (some (.int x)) h .ireturn hq.2 hR hS (by omega) (by omega) (dcT hd) (Or.inl ⟨rfl, x, rfl, Or.inr ⟨hrt, hq.1⟩⟩)
      · exact hq.elim
    case lreturn =>
      simp only [mm_ok, Bool.and_eq_true] at hok
      obtain ⟨hd, hrt⟩ := hok
      have hrt : mm_rt μ = some .long := of_decide_eq_true hrt
      unfold mm_stepI at hq
      dsimp only at hq
      split at hq
      · rename_i x
        exact hRt H locs cells slots pc' sl (some (.long x)) h .lreturn hq hR hS (by omega) (by omega) (dcT hd) (Or.inr (Or.inl ⟨rfl, hrt, x, rfl⟩))
      · exact hq.elim
    case return_ =>
      simp only [mm_ok, Bool.and_eq_true] at hok
      obtain ⟨hd, hrt⟩ := hok
      have hrt : mm_rt μ = none := of_decide_eq_true hrt
      unfold mm_stepI at hq
      dsimp only at hq
      split at hq
      · exact hRt H locs cells slots pc' sl none h .return_ hq hR hS (by omega) (by omega) (dcT hd) (Or.inr (Or.inr ⟨rfl, hrt, rfl⟩))
      · exact hq.elim
    case invokestatic k =>
      simp only [mm_ok, Bool.and_eq_true] at hok
      obtain ⟨hd, hn, hok⟩ := hok
      have hq : mm_bb (Nat.beq a 1001) _ _ := hq
      cases hba : Nat.beq a 1001 with
      | true =>
        rw [hba] at hq hok
        simp only [cond_true, Bool.and_eq_true] at hok
        obtain ⟨w1, w2, w3, w4⟩ := hok
        obtain ⟨n, dp, o1, sp, o0, r, rfl, hz⟩ := mm_iirir_inv hq
        obtain ⟨hfew, hz⟩ := mm_few_inv hz
        obtain ⟨d', rfl, hz⟩ := mm_dd_inv hz
        obtain ⟨n0, f, e0, hz⟩ := mm_arw_inv hz
        obtain ⟨n1, f1, e1, hful, ⟨c1, c2, c3, c4, c5⟩, hz⟩ := mm_arw_inv hz
        obtain ⟨o02, o03, hw0⟩ := hR.ints e0
        obtain ⟨o12, o13, hw1⟩ := hR.ints e1
        have hcat := mm_cats r hfew g
        refine va_copyi (D := gvD g) hx hb (by rw [hml, hL.1]) hown (hts _ (mm_wd_in w1)) (hts _ (mm_wd_in w2)) (hts _ (mm_wd_in w3)) (hts _ (mm_wd_in w4)) hT.1 hR.2.2.2.2.2 (mm_ws_D g h) hS (o0 - 2) (o1 - 2) 0 0 hw0 hw1 (ty := .int) rfl rfl rfl c1 c2 c3 c4 c5 (fun _ _ => rfl) (by omega) ?_ (dcT hd) (fun H1 locs1 hP1 hD1 hS1 => ?_)
        · have : nativeFrameWords "java/lang/System" "arraycopy" 5 = 7 := by decide
          rw [this]
          omega
        · exact hz p e R s m args below meth c H1 locs1 _ _ mc ms sl Z hC hRt (hR.put o12 o13 (fun q => absurd q (by omega)) hP1) hS1 hL h1 h2 h3 h4 _ (nxT hn)
      | false =>
        rw [hba] at hq hok
        simp only [cond_false] at hok
        have hq : mm_bb (Nat.beq a 1002) _ _ := hq
        cases hb2 : Nat.beq a 1002 with
        | true =>
          rw [hb2] at hq hok
          simp only [cond_true, Bool.and_eq_true] at hok
          obtain ⟨w1, w2, w3, w4⟩ := hok
          obtain ⟨y, x, r, rfl, hz⟩ := mm_i2_inv hq
          obtain ⟨hfew, hz⟩ := mm_few_inv hz
          obtain ⟨d', rfl, hz⟩ := mm_dd_inv hz
          have hcat := mm_cats r hfew g
          refine va_mmax hx hb (by rw [hml, hL.1]) hown (hts _ (mm_wd_in w1)) (hts _ (mm_wd_in w2)) (hts _ (mm_wd_in w3)) (hts _ (mm_wd_in w4)) (by omega) (by omega) (by omega) (by omega) (dcT hd) ?_
          exact hgo hz hL (nxT hn)
        | false =>
          rw [hb2] at hq hok
          simp only [cond_false] at hok
          have hq : mm_bb (Nat.beq a 1003) _ _ := hq
          cases hb3 : Nat.beq a 1003 with
          | true =>
            rw [hb3] at hq hok
            simp only [cond_true, Bool.and_eq_true] at hok
            obtain ⟨w1, w2, w3, w4⟩ := hok
            obtain ⟨y, x, r, rfl, hz⟩ := mm_i2_inv hq
            obtain ⟨hfew, hz⟩ := mm_few_inv hz
            obtain ⟨d', rfl, hz⟩ := mm_dd_inv hz
            have hcat := mm_cats r hfew g
            refine va_mmin hx hb (by rw [hml, hL.1]) hown (hts _ (mm_wd_in w1)) (hts _ (mm_wd_in w2)) (hts _ (mm_wd_in w3)) (hts _ (mm_wd_in w4)) (by omega) (by omega) (by omega) (by omega) (dcT hd) ?_
            exact hgo hz hL (nxT hn)
          | false =>
            rw [hb3] at hq hok
            simp only [cond_false, Bool.and_eq_true] at hok
            obtain ⟨hcal, w1⟩ := hok
            obtain ⟨ha, hlk, hpar⟩ := mm_cal_inv hcal
            have hm := hmth a ha
            obtain ⟨m1, m2, m3, m4, m5, m6, m7, m8⟩ := mm_mth_inv hm
            obtain ⟨as, rest, hlen, rfl, hz⟩ := mm_pop_inv hq
            rw [List.append_nil] at hz
            refine mm_inv_W hz ha hm hC hRt hR hS hL h1 h2 h3 h4 (nxT hn) (fun d' K hdd hfew hM hroom hcs => ?_)
            rw [mm_map_rev]
            rcases hlk with hlk | hlk
            · exact ⟨_, va_runS (As := as.map (mm_tr g)) ⟨hx, hb, hml, hown, hts⟩ hM ⟨callB_of b hts (mm_wsm_good hm) rfl rfl rfl (hts _ m1) (hts _ hlk) ⟨m5, m6, hpar⟩ hroom, hts _ (mm_wd_in w1)⟩ ⟨mm_Pc_blind g h as, mm_Pc_at hT hS hR⟩ rfl (by rw [List.length_map]; exact hlen) hL.1 rfl (mm_rest_W hfew) (dcT hd) hcs⟩
            · exact ⟨_, va_runSN (As := as.map (mm_tr g)) ⟨hx, hb, hml, hown, hts⟩ hM ⟨va_cnB b hts (mm_wsm_good hm) rfl rfl rfl (hT.2.1 _ hlk rfl) (hts _ m1) ⟨m5, m6, hpar⟩ hroom, hts _ (mm_wd_in w1), trivial⟩ ⟨mm_Pc_blind g h as, mm_Pc_at hT hS hR⟩ rfl (by rw [List.length_map]; exact hlen) hL.1 rfl (mm_rest_W hfew) (dcT hd) hcs⟩
    case invokevirtual k =>
      simp only [mm_ok, Bool.and_eq_true] at hok
      obtain ⟨hd, hn, hb1, hcal, w1, w2, w3⟩ := hok
      have hb1 : 1 ≤ b := of_decide_eq_true hb1
      obtain ⟨C, T, N, hcl, hC9⟩ := mm_kl_inv w3
      have hC9 : C = (mm_y a).cls := of_decide_eq_true hC9
      obtain ⟨ha, hlk, hpar⟩ := mm_cal_inv hcal
      have hm := hmth a ha
      obtain ⟨m1, m2, m3, m4, m5, m6, m7, m8⟩ := mm_mth_inv hm
      obtain ⟨as, rest, hlen, rfl, hz⟩ := mm_pop_inv hq
      rw [List.append_nil] at hz
      obtain ⟨o, as', rfl, hz⟩ := mm_r1_inv hz
      obtain ⟨fs, eo, hz⟩ := mm_obj_inv hz
      obtain ⟨ha7, hkn⟩ := mm_kn_of hcl
      obtain ⟨o2, o3, hws⟩ := hR.obj eo (by omega)
      have hrecv := va_recv hT.1 hR.2.2.2.2.2 hcl hws
      have hlen' : as'.length = b - 1 := by simp at hlen; omega
      refine mm_inv_W hz ha hm hC hRt hR hS hL h1 h2 h3 h4 (nxT hn) (fun d' K hdd hfew hM hroom hcs => ?_)
      have hst : ((Value.ref o :: as').reverse ++ rest).map (mm_tr g) = (as'.map (mm_tr g)).reverse ++ .ref (mm_ad g o) :: rest.map (mm_tr g) := by simp [mm_tr]
      rw [hst]
      rcases hlk with hlk | hlk
      · exact ⟨_, va_runV (As := as'.map (mm_tr g)) (b := mm_ad g o) (C := (mm_y a).cls) ⟨hx, hb, hml, hown, hts⟩ hM ⟨callB_of (b - 1) hts (mm_wsm_good hm) rfl rfl rfl (hts _ m1) (hts _ hlk) ⟨m5, m6, hpar⟩ hroom, hts _ (mm_wd_in w1), hts _ (mm_wd_in w2)⟩ ⟨mm_Pc_blind g h _, by rw [← hC9]; exact hrecv, mm_Pc_at hT hS hR⟩ rfl (by rw [List.length_map]; exact hlen') hL.1 rfl (mm_rest_W hfew) (dcT hd) hcs⟩
      · exact ⟨_, va_runVN (As := as'.map (mm_tr g)) (b := mm_ad g o) (C := (mm_y a).cls) ⟨hx, hb, hml, hown, hts⟩ hM ⟨va_cnB (b - 1) hts (mm_wsm_good hm) rfl rfl rfl (hT.2.1 _ hlk rfl) (hts _ m1) ⟨m5, m6, hpar⟩ hroom, hts _ (mm_wd_in w1), hts _ (mm_wd_in w2)⟩ ⟨mm_Pc_blind g h _, by rw [← hC9]; exact hrecv, mm_Pc_at hT hS hR⟩ rfl (by rw [List.length_map]; exact hlen') hL.1 rfl (mm_rest_W hfew) (dcT hd) hcs⟩
    case invokespecial k =>
      simp only [mm_ok, Bool.and_eq_true] at hok
      obtain ⟨hd, hn, hok⟩ := hok
      have hq : mm_bb (Nat.beq a 1000) _ _ := hq
      cases hba : Nat.beq a 1000 with
      | true =>
        rw [hba] at hq hok
        simp only [cond_true, Bool.and_eq_true] at hok
        obtain ⟨w1, w2, w3⟩ := hok
        obtain ⟨o, r, rfl, hz⟩ := mm_r1_inv hq
        obtain ⟨hfew, hz⟩ := mm_few_inv hz
        obtain ⟨d', rfl, hz⟩ := mm_dd_inv hz
        have hcat := mm_cats r hfew g
        refine W.objInit hx hb hown (hts _ (mm_wd_in w1)) (hts _ (mm_wd_in w2)) (hts _ (mm_wd_in w3)) rfl (by rw [hml]; exact hL.1) (rest := r.map (mm_tr g)) rfl (dcT hd) (by omega) (by show 2 * 0 + _ + 12 ≤ _; omega) ?_
        exact hgo hz hL (nxT hn)
      | false =>
        rw [hba] at hq hok
        simp only [cond_false, Bool.and_eq_true] at hok
        obtain ⟨hb1, hcal, w1, w2, w3⟩ := hok
        have hb1 : 1 ≤ b := of_decide_eq_true hb1
        have w2 : (mm_y a).name = "<init>" := of_decide_eq_true w2
        have w3 : mm_rt a = none := of_decide_eq_true w3
        obtain ⟨ha, hlk, hpar⟩ := mm_cal_inv hcal
        have hm := hmth a ha
        obtain ⟨m1, m2, m3, m4, m5, m6, m7, m8⟩ := mm_mth_inv hm
        obtain ⟨as, rest, hlen, rfl, hz⟩ := mm_pop_inv hq
        rw [List.append_nil] at hz
        obtain ⟨o, as', rfl, hz⟩ := mm_r1_inv hz
        have hlen' : as'.length = b - 1 := by simp at hlen; omega
        have hws9 : mm_wsm a = Cond.code (mm_y a) (mm_by a) (mm_ml a) none :: mm_gt := by unfold mm_wsm; rw [w3]
        refine mm_inv_W hz ha hm hC hRt hR hS hL h1 h2 h3 h4 (nxT hn) (fun d' K hdd hfew hM hroom hcs => ?_)
        have hst : ((Value.ref o :: as').reverse ++ rest).map (mm_tr g) = (as'.map (mm_tr g)).reverse ++ .ref (mm_ad g o) :: rest.map (mm_tr g) := by simp [mm_tr]
        rw [hst]
        rcases hlk with hlk | hlk
        · exact ⟨_, va_runI (As := as'.map (mm_tr g)) (b := mm_ad g o) (bytes := mm_by a) (maxL := mm_ml a) ⟨hx, hb, hml, hown, hts⟩ hM ⟨callB_of (b - 1) hts (mm_wsm_good hm) hws9 rfl rfl (hts _ m1) (hts _ hlk) ⟨m5, m6, hpar⟩ hroom, w2, hts _ (mm_wd_in w1)⟩ ⟨mm_Pc_blind g h _, mm_Pc_at hT hS hR⟩ rfl (by rw [List.length_map]; exact hlen') hL.1 rfl (mm_rest_W hfew) (dcT hd) hcs⟩
        · exact ⟨_, va_runIN (As := as'.map (mm_tr g)) (b := mm_ad g o) (bytes := mm_by a) (maxL := mm_ml a) ⟨hx, hb, hml, hown, hts⟩ hM ⟨va_cnB (b - 1) hts (mm_wsm_good hm) hws9 rfl rfl (hT.2.1 _ hlk rfl) (hts _ m1) ⟨m5, m6, hpar⟩ hroom, w2, hts _ (mm_wd_in w1)⟩ ⟨mm_Pc_blind g h _, mm_Pc_at hT hS hR⟩ rfl (by rw [List.length_map]; exact hlen') hL.1 rfl (mm_rest_W hfew) (dcT hd) hcs⟩
    all_goals exact hq.elim
/-- what the mini machine comes to, the real one comes to -/
theorem mm_sound (l : Launch) (g : mm_G) (hall : ∀ μ, μ < mm_cnt → ∀ ip q, mm_at μ ip = some q → mm_ok μ q = true) (hmth : ∀ a, a < 211 → mm_mth a = true) {d μ ip : Nat} {al : Nat × Nat} {ls st : List Value} {h : mm_H} {Q : mm_K} (q : mm_Ex d μ ip al ls st h Q) : mm_Re l g d μ ip al ls st h Q :=
  q (mm_Re l g) (mm_Re_mono l g) (mm_closed l g hall hmth)

