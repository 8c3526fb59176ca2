def mm_uw : List Cond → List Nat → Bool
  | [], _ => true
  | x :: ws, p :: ps => mm_wd p x && mm_uw ws ps
  | _ :: _, [] => false
theorem mm_uw_in : ∀ {ws : List Cond} {ps : List Nat}, mm_uw ws ps = true → ∀ x ∈ ws, x ∈ mm_gt
  | [], _, _, x, hx => by cases hx
  | y :: ws, [], h, x, hx => by cases h
  | y :: ws, p :: ps, h, x, hx => by
    unfold mm_uw at h
    rw [Bool.and_eq_true] at h
    rcases List.mem_cons.mp hx with e | e
    · rw [e]
      exact mm_wd_in h.1
    · exact mm_uw_in h.2 x e
theorem mm_uw0 : mm_uw (u_ws RX0 TX0 8) [171, 173, 175, 177, 179, 181, 183, 185] = true := by decide +kernel
theorem mm_df0 : ∀ j, j < 8 → defaultValue (tyX0 j) = vp_V (mm_def 0) j := by decide +kernel
theorem mm_uw1 : mm_uw (u_ws RX1 TX1 7) [99, 101, 103, 105, 107, 109, 111] = true := by decide +kernel
theorem mm_df1 : ∀ j, j < 7 → defaultValue (tyX1 j) = vp_V (mm_def 1) j := by decide +kernel
theorem mm_uw2 : mm_uw (u_ws RX2 TX2 3) [147, 149, 151] = true := by decide +kernel
theorem mm_df2 : ∀ j, j < 3 → defaultValue (tyX2 j) = vp_V (mm_def 2) j := by decide +kernel
theorem mm_uw3 : mm_uw (u_ws RX3 TX3 2) [138, 140] = true := by decide +kernel
theorem mm_df3 : ∀ j, j < 2 → defaultValue (tyX3 j) = vp_V (mm_def 3) j := by decide +kernel
theorem mm_uw4 : mm_uw (u_ws RX4 TX4 5) [201, 203, 205, 207, 209] = true := by decide +kernel
theorem mm_df4 : ∀ j, j < 5 → defaultValue (tyX4 j) = vp_V (mm_def 4) j := by decide +kernel
theorem mm_uw5 : mm_uw (u_ws RX5 TX5 13) [226, 228, 230, 232, 234, 236, 238, 240, 242, 244, 246, 248, 250] = true := by decide +kernel
theorem mm_df5 : ∀ j, j < 13 → defaultValue (tyX5 j) = vp_V (mm_def 5) j := by decide +kernel
theorem mm_uw6 : mm_uw (u_ws RX6 TX6 27) [779, 781, 783, 785, 787, 789, 791, 793, 795, 797, 799, 801, 803, 805, 807, 809, 811, 813, 815, 817, 819, 821, 823, 825, 827, 829, 831] = true := by decide +kernel
theorem mm_df6 : ∀ j, j < 27 → defaultValue (tyX6 j) = vp_V (mm_def 6) j := by decide +kernel
/-- what is known of a kind: its layout words, its types, its names, its defaults -/
def mm_kn (a : Nat) (C : String) (T : u_T) (N : Nat) : Prop := (∀ x ∈ u_ws C T N, x ∈ mm_gt) ∧ (∀ i, i < N → ∀ j, j < N → i ≠ j → (T i).2.1 ≠ (T j).2.1) ∧ ∃ ty : Nat → FieldType, (∀ k, k < N → parseFieldDescriptor (T k).2.2.1 = some (ty k)) ∧ ∀ j, j < N → defaultValue (ty j) = vp_V (mm_def a) j
theorem mm_kn_of {a : Nat} {C : String} {T : u_T} {N : Nat} (h : mm_cls[a]? = some (C, T, N)) : a < 7 ∧ mm_kn a C T N := by
  have ha : a < 7 := (List.getElem?_eq_some_iff.mp h).1
  refine ⟨ha, ?_⟩
  rcases a with _ | _ | _ | _ | _ | _ | _ | a
  · cases h
    exact ⟨mm_uw_in mm_uw0, nmX0, tyX0, tyX0_ok, mm_df0⟩
  · cases h
    exact ⟨mm_uw_in mm_uw1, nmX1, tyX1, tyX1_ok, mm_df1⟩
  · cases h
    exact ⟨mm_uw_in mm_uw2, nmX2, tyX2, tyX2_ok, mm_df2⟩
  · cases h
    exact ⟨mm_uw_in mm_uw3, nmX3, tyX3, tyX3_ok, mm_df3⟩
  · cases h
    exact ⟨mm_uw_in mm_uw4, nmX4, tyX4, tyX4_ok, mm_df4⟩
  · cases h
    exact ⟨mm_uw_in mm_uw5, nmX5, tyX5, tyX5_ok, mm_df5⟩
  · cases h
    exact ⟨mm_uw_in mm_uw6, nmX6, tyX6, tyX6_ok, mm_df6⟩
  · omega
theorem mm_kl_inv {ci : Nat} {f : String → u_T → Nat → Bool} (h : mm_kl ci f = true) : ∃ C T N, mm_cls[ci]? = some (C, T, N) ∧ f C T N = true := by
  unfold mm_kl at h
  split at h
  · rename_i C T N e
    exact ⟨C, T, N, e, h⟩
  · cases h
theorem mm_def_tr (g : mm_G) (a : Nat) : (mm_def a).map (mm_tr g) = mm_def a := by
  unfold mm_def
  split <;> rfl
theorem dcT {μ pc : Nat} {i : Instr} {n : Nat} (h : mm_dc μ pc i n = true) : decode (mm_by μ) pc = .ok (i, n) := of_decide_eq_true h
theorem nxT {μ nx pc : Nat} (h : mm_nx μ nx pc = true) : mm_pc μ nx = some pc := of_decide_eq_true h
theorem mm_tgt_inv {μ a pc : Nat} {off : Int} (h : mm_tgt μ a pc off = true) : ∃ t, mm_pc μ a = some t ∧ (pc : Int) + off = (t : Int) := by
  unfold mm_tgt at h
  split at h
  · rename_i t e
    exact ⟨t, e, of_decide_eq_true h⟩
  · cases h
theorem mm_sw_hit {μ pc : Nat} {x : Int32} {K : Nat → Prop} {b : Nat} : ∀ {l : List (Int32 × Nat)} {offs : List Int} {lo : Int}, mm_sws μ pc l offs lo = true → mm_sw x K b l → ((x.toInt < lo ∨ lo + (offs.length : Int) ≤ x.toInt) ∧ K b) ∨ ∃ (k : Nat) (off : Int) (t tp : Nat), x.toInt = lo + (k : Int) ∧ offs[k]? = some off ∧ K t ∧ mm_pc μ t = some tp ∧ (pc : Int) + off = (tp : Int)
  | [], [], lo, _, h => Or.inl ⟨by simp; omega, h⟩
  | [], _ :: _, lo, h, _ => by cases h
  | _ :: _, [], lo, h, _ => by simp [mm_sws] at h
  | (v, t) :: l, off :: offs, lo, h, hs => by
    simp only [mm_sws, Bool.and_eq_true] at h
    obtain ⟨h1, h2, h3⟩ := h
    have h1 : v.toInt = lo := of_decide_eq_true h1
    obtain ⟨tp, e1, e2⟩ := mm_tgt_inv h2
    by_cases hx : x = v
    · exact Or.inr ⟨0, off, t, tp, by rw [hx, h1]; simp, rfl, hs.1 hx, e1, e2⟩
    · have hne : x.toInt ≠ lo := fun e => hx (Int32.toInt_inj.mp (e.trans h1.symm))
      rcases mm_sw_hit h3 (hs.2 hx) with ⟨q1, q2⟩ | ⟨k, off', t', tp', q1, q2, q3⟩
      · refine Or.inl ⟨?_, q2⟩
        simp only [List.length_cons]
        omega
      · exact Or.inr ⟨k + 1, off', t', tp', by rw [q1]; simp; omega, by simpa using q2, q3⟩
theorem mm_cats (r : List Value) (h : mm_csum r ≤ 8) (g : mm_G) : ((r.map (mm_tr g)).map fun v => v.category).sum ≤ 8 := by
  have hk : ∀ l : List Value, ((l.map (mm_tr g)).map fun v => v.category).sum ≤ mm_csum l := by
    intro l
    induction l with
    | nil => simp [mm_csum]
    | cons a l ih =>
      have : (mm_tr g a).category = a.category := by cases a <;> rfl
      rw [List.map_cons, List.map_cons, List.sum_cons, this]
      exact Nat.add_le_add_left ih _
  have := hk r
  omega
/-! what is known of a state, of a method, of its end -/
def mm_T (g : mm_G) (U : State) (H : Heap) : Prop := va_K (gvD g) mm_cls (mm_tys g) U ∧ (∀ x ∈ lw_tbl, mm_nest x = true → va_Nw x U) ∧ va_AO RX1 U ∧ va_AO RX3 U ∧ va_Z RX5 "LETTERS" "[I" (.ref (gvt g)) (mm_A g) U H ∧ va_T .int (gvt g) 6 (fun j => .int (mm_let j)) (mm_A g) U H ∧ va_X (gvb g) (gvL g) (gvx g) U H ∧ gvt g < gvz g ∧ gvb g < gvz g ∧ gvz g ≤ H.size
theorem mm_T.moved {g : mm_G} {s U : State} {H H1 : Heap} (h : mm_T g s H) (hW : s.WarmedH U.vm) (hk : ∀ q, q < H.size → ¬ mm_A g q → H1[q]? = H[q]?) (hz : gvz g ≤ H1.size) : mm_T g U H1 := by
  obtain ⟨h1, h2, h3, h4, h5, h6, h7, h8, h9, h10⟩ := h
  have n1 : ¬ mm_A g (gvt g) := Nat.not_le.mpr h8
  have n2 : ¬ mm_A g (gvb g) := Nat.not_le.mpr h9
  refine ⟨va_K.moved hW.alike h1, fun x hx hn => ?_, va_AO.moved hW.alike h3, va_AO.moved hW.alike h4, (va_Z.moved hW.alike h5).kept hk, (va_T.moved hW.alike h6).kept hk, (va_X.moved hW.alike h7).kept (hk _ (by omega) n2), h8, h9, hz⟩
  have h0 := h2 x hx hn
  cases x <;> first
    | exact va_Nw.warmM hW h0
    | exact va_Nw.warmF hW h0
    | cases hn
theorem mm_nest_tab {x : Cond} (h : mm_nest x = true) : x.onTables = true := by
  cases x <;> first
    | rfl
    | cases h
theorem mm_T.called {g : mm_G} {U : State} {f : JFrame} {mk : MethodId} {a : Array Value} (h : mm_T g U U.heap) : mm_T g (U.calling f mk a) (U.calling f mk a).heap := by
  obtain ⟨h1, h2, h3, h4, h5, h6, h7, h8, h9, h10⟩ := h
  exact ⟨va_K.moved (u := U) (U := U.calling f mk a) (Vm.Alike.refl U.vm) h1, fun x hx hn => va_Nw.same (u := U) (U := U.calling f mk a) (mm_nest_tab hn) rfl (h2 x hx hn), va_AO.moved (u := U) (U := U.calling f mk a) (Vm.Alike.refl U.vm) h3, va_AO.moved (u := U) (U := U.calling f mk a) (Vm.Alike.refl U.vm) h4, va_Z.moved (u := U) (U := U.calling f mk a) (Vm.Alike.refl U.vm) h5, va_T.moved (u := U) (U := U.calling f mk a) (Vm.Alike.refl U.vm) h6, va_X.moved (u := U) (U := U.calling f mk a) (Vm.Alike.refl U.vm) h7, h8, h9, h10⟩
def mm_Cx (g : mm_G) (d μ : Nat) (p : Program) (R : Room) (s : State) (m : MethodId) (args : Array Value) (meth : Method) (c : Code) : Prop :=
  p.tables.exec = Jvm.exec ∧ c.code = mm_by μ ∧ c.maxLocals = mm_ml μ ∧ s.vm.findClass (mm_ow μ) = some m.cls ∧ (∀ x ∈ mm_gt, x.before args s = true) ∧ mm_T g s s.heap ∧ (mm_in μ = true → meth.name = "<init>") ∧ d ≤ R.frames ∧ 38 * d ≤ R.locals ∧ μ < mm_cnt ∧ R.slots ≤ 7302250
def mm_rk (μ : Nat) (i : Instr) (r : Option Value) : Prop := (i = .ireturn ∧ ∃ x : Int32, r = some (.int x) ∧ (mm_rt μ = some .int ∨ (mm_rt μ = some .boolean ∧ (x = 0 ∨ x = 1)))) ∨ (i = .lreturn ∧ mm_rt μ = some .long ∧ ∃ x : Int64, r = some (.long x)) ∨ (i = .return_ ∧ mm_rt μ = none ∧ r = none)
def mm_Rt (l : Launch) (g : mm_G) (μ : Nat) (p : Program) (e : Env) (R : Room) (s : State) (m : MethodId) (args : Array Value) (below : List Frame) (meth : Method) (c : Code) (mc ms : Nat) (Z : State → Prop) (Q : mm_K) : Prop :=
  ∀ (H' : Heap) (locs' : List Loc) (cells' slots' pc : Nat) (sl : Array Slot) (r : Option Value) (h' : mm_H) (i : Instr), Q r h' → mm_R g H' h' → va_S (mm_A g) s.heap H' locs' → cells' ≤ mc → slots' ≤ ms → decode (mm_by μ) pc = .ok (i, 1) → mm_rk μ i r → W p l e R s m args below meth c H' locs' cells' slots' Z (F0 m pc sl (r.toList.map (mm_tr g)))
def mm_Re (l : Launch) (g : mm_G) : mm_X := fun d μ ip al ls st h Q =>
  ∀ (p : Program) (e : Env) (R : Room) (s : State) (m : MethodId) (args : Array Value) (below : List Frame) (meth : Method) (c : Code) (H : Heap) (locs : List Loc) (cells slots mc ms : Nat) (sl : Array Slot) (Z : State → Prop),
    mm_Cx g d μ p R s m args meth c → mm_Rt l g μ p e R s m args below meth c mc ms Z Q → mm_R g H h → va_S (mm_A g) s.heap H locs → mm_L g sl (mm_ml μ) ls → cells + al.1 ≤ mc → slots + al.2 ≤ ms → mc ≤ R.cells → ms ≤ R.slots →
    ∀ pc, mm_pc μ ip = some pc → W p l e R s m args below meth c H locs cells slots Z (F0 m pc sl (st.map (mm_tr g)))
theorem mm_Re_mono (l : Launch) (g : mm_G) : mm_mono (mm_Re l g) := by
  intro d μ ip al ls st h Q Q' hq hX p e R s m args below meth c H locs cells slots mc ms sl Z hC hRt
  exact hX p e R s m args below meth c H locs cells slots mc ms sl Z hC (fun H' locs' cells' slots' pc sl r h' i z => hRt H' locs' cells' slots' pc sl r h' i (hq _ _ z))
def mm_rm (d μ : Nat) : Room := { frames := d, cells := (mm_al μ).1, slots := (mm_al μ).2, locals := 38 * d }
def mm_wsm (μ : Nat) : List Cond := Cond.code (mm_y μ) (mm_by μ) (mm_ml μ) (mm_rt μ) :: mm_gt
def mm_Pc (g : mm_G) (h : mm_H) (As : List Value) : Array Value → State → Prop := va_Pc (As.map (mm_tr g)) (fun U => mm_T g U U.heap ∧ mm_R g U.heap h)
def mm_Qc (g : mm_G) (K : mm_K) : Array Value → State → Outcome → State → Prop := fun _ st o t => ∃ r h', o = .returned (r.map (mm_tr g)) ∧ K r h' ∧ mm_R g t.heap h' ∧ va_F (mm_A g) st t
theorem mm_mth_inv {a : Nat} (h : mm_mth a = true) : Cond.initialized (mm_y a).cls ∈ mm_gt ∧ Cond.code (mm_y a) (mm_by a) (mm_ml a) (mm_rt a) ∈ mm_gt ∧ mm_ml a ≤ 19 ∧ plainName (mm_y a).cls = true ∧ (mm_y a).cls ≠ "java/lang/invoke/MethodHandle" ∧ (mm_y a).cls ≠ "java/lang/invoke/VarHandle" ∧ (mm_y a).cls = mm_ow a ∧ (mm_in a = true → (mm_y a).name = "<init>") := by
  unfold mm_mth at h
  simp only [Bool.and_eq_true] at h
  obtain ⟨h1, h2, h3, h4, h5, h6, h7, h8⟩ := h
  exact ⟨mm_wd_in h1, mm_wd_in h2, Nat.le_of_ble_eq_true h3, h4, of_decide_eq_true h5, of_decide_eq_true h6, of_decide_eq_true h7, of_decide_eq_true h8⟩
set_option maxHeartbeats 4000000 in
/-- a method's contract out of what its code does in the mini machine -/
theorem mm_met {l : Launch} {g : mm_G} {d a : Nat} {As : List Value} {h : mm_H} {K : mm_K} (hX : mm_Re l g d a 0 (mm_al a) (mm_ent (mm_ml a) As) [] h K) (hm : mm_mth a = true) (ha : a < mm_cnt) (hz : (mm_al a).2 ≤ 7302250) (hA : mm_akd As = true) (hn : (mm_ex As).length ≤ mm_ml a) (hpc : mm_pc a 0 = some 0) : Met l (mm_y a) (mm_wsm a) (mm_rm d a) (mm_Pc g h As) (mm_Qc g K) (mm_al a).1 (mm_al a).2 (mm_A g) := by
  obtain ⟨m1, m2, m3, m4, m5, m6, m7, m8⟩ := mm_mth_inv hm
  refine Met.ofW (cc := mm_by a) (maxL := mm_ml a) (ret := mm_rt a) m4 rfl ?_
  intro p e s m args below meth c s₁ B hml hv
  obtain ⟨rfl, hT, hR⟩ := hv
  have hx := B.exec
  have hb := B.bytes
  have hr := B.returns
  have hlocks := B.notSynchronized
  have hts := atoms_spec (ws := mm_wsm a) B.pre
  have hown : s.vm.findClass (mm_y a).cls = some m.cls := findClass_of_methodNamed B.named
  have hnm : meth.name = (mm_y a).name := (name_of_methodNamed B.named B.method).1
  rw [lg_entry_eq]
  refine hX p e (mm_rm d a) s m _ below meth c s.heap [] 0 0 (mm_al a).1 (mm_al a).2 _ _ ⟨hx, hb, hml, by rw [← m7]; exact hown, fun x hx => hts x (List.mem_cons_of_mem _ hx), hT, fun z => hnm.trans (m8 z), Nat.le_refl _, Nat.le_refl _, ha, hz⟩ ?_ hR va_S.rf (mm_L.entry g hA hn) (by omega) (by omega) (Nat.le_refl _) (Nat.le_refl _) 0 hpc
  intro H' locs' cells' slots' pc sl r h' i hq hR' hS' hc hs hd hk
  refine W.widen hc hs ?_
  rcases hk with ⟨rfl, x, rfl, hrt | ⟨hrt, hx01⟩⟩ | ⟨rfl, hrt, x, rfl⟩ | ⟨rfl, hrt, rfl⟩
  · exact W.iret hx hb (hr.trans hrt) (fun t ht hW => ⟨some (.int x), h', rfl, hq, by rw [ht]; exact hR', hS'.F ht⟩) (fun q hq => hS'.2.2 q hq) hd
  · exact W.zret hx hb (hr.trans hrt) (by rcases hx01 with rfl | rfl <;> rfl) (fun t ht hW => ⟨some (.int x), h', rfl, hq, by rw [ht]; exact hR', hS'.F ht⟩) (fun q hq => hS'.2.2 q hq) hd
  · exact W.lret hx hb (hr.trans hrt) (fun t ht hW => ⟨some (.long x), h', rfl, hq, by rw [ht]; exact hR', hS'.F ht⟩) (fun q hq => hS'.2.2 q hq) hd
  · exact W.vret hx hb (hr.trans hrt) (fun t ht hW => ⟨none, h', rfl, hq, by rw [ht]; exact hR', hS'.F ht⟩) (fun q hq => hS'.2.2 q hq) hd
section MG
variable {p : Program} {l : Launch} {e : Env} {R : Room} {s : State} {m : MethodId} {args : Array Value} {below : List Frame} {meth : Method} {c : Code} {H : Heap} {locs : List Loc} {cells slots : Nat} {Z : State → Prop}
/-- behind a call -/
theorem mm_go {g : mm_G} {K : mm_K} {a : Array Value} {pc mc ms : Nat} {sl : Array Slot} {st0 rest : List Value} (hr : va_Run p l e R s m args below meth c H locs cells slots mc ms (F0 m pc sl st0) rest (mm_Qc g K a) (mm_A g)) (hS : va_S (mm_A g) s.heap H locs)
    (kk : ∀ (r : Option Value) (h' : mm_H) (H1 : Heap) (locs1 : List Loc), K r h' → mm_R g H1 h' → va_S (mm_A g) s.heap H1 locs1 → W p l e R s m args below meth c H1 locs1 (cells + mc) (slots + ms) Z (F0 m (pc + 3) sl ((r.map (mm_tr g)).toList ++ rest))) : W p l e R s m args below meth c H locs cells slots Z (F0 m pc sl st0) := by
  intro T hT X
  obtain ⟨v, st₀, t, T', L, h0, X', hL, e1, e2, ⟨r, h', hv, hK, hR, hz, hk⟩, st⟩ := hr T hT X
  cases hv
  rw [h0] at hz hk
  obtain ⟨t2, a1, b1⟩ := kk r h' T'.heap (locs ++ L) hK (by rw [e1]; exact hR)
    ⟨Nat.le_trans hS.1 (by rw [e1]; exact hz), fun q h1 h2 => by rw [e1, hk q (Nat.lt_of_lt_of_le h1 hS.1) h2]; exact hS.2.1 q h1 h2, fun q hq => by
      rcases List.mem_append.mp hq with h | h
      · exact hS.2.2 q h
      · exact hL q h⟩ T' rfl X'
  exact ⟨t2, st t2 a1, b1⟩
end MG
theorem mm_gt_good : GoodIn mm_gt mm_gt := fun x hx => ⟨hx, good_of_word (List.mem_filter.mp hx).2⟩
theorem mm_wsm_good {a : Nat} (hm : mm_mth a = true) : GoodIn mm_gt (mm_wsm a) := fun x hx => by
  rcases List.mem_cons.mp hx with e | e
  · rw [e]
    exact mm_gt_good _ (mm_mth_inv hm).2.1
  · exact mm_gt_good x e
theorem mm_Pc_blind (g : mm_G) (h : mm_H) (As : List Value) : FrameBlind (mm_Pc g h As) := by
  intro a U f mk q
  obtain ⟨q1, q2, q3⟩ := q
  exact ⟨q1, q2.called, q3⟩
theorem mm_Pc_at {g : mm_G} {s : State} {H : Heap} {h : mm_H} {As : List Value} {locs : List Loc} (hT : mm_T g s s.heap) (hS : va_S (mm_A g) s.heap H locs) (hR : mm_R g H h) : ∀ U : State, U.heap = H → s.WarmedH U.vm → mm_Pc g h As (As.map (mm_tr g)).toArray U := by
  intro U hU hW
  have hz : gvz g ≤ H.size := Nat.le_trans hT.2.2.2.2.2.2.2.2.2 hS.1
  exact ⟨rfl, by rw [hU]; exact hT.moved hW (fun q h1 h2 => hS.2.1 q h1 h2) hz, by rw [hU]; exact hR⟩

