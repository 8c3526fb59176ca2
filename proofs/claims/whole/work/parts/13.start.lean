/-! the law's entry, out of the mini machine -/
def mm_h0 (L : Nat) (xs : Nat → Int32) : mm_H := (2, fun k => match k with | 0 => mE L xs | 1 => mE 6 mm_let | _ => mO 99 [])
def law_says : Prop := ∀ (L : Nat) (xs : Nat → Int32), L ≤ 384 → mm_Ex 10 k_L_law 0 (600000, 7302250) [.ref 0, .null, .null, .null] [] (mm_h0 L xs) (fun r _ => r = some (.int 1))
theorem ok_mth (a : Nat) (h : a < 211) : mm_mth a = true := by
  have H : ∀ (n : Nat), n * 20 ≤ a → a < n * 20 + 20 → ((List.range (min (n * 20 + 20) 211)).drop (n * 20)).all mm_mth = true → mm_mth a = true := by
    intro n h1 h2 h3
    refine List.all_eq_true.mp h3 a ?_
    refine List.mem_of_getElem? (i := a - n * 20) ?_
    rw [List.getElem?_drop, List.getElem?_range (by omega)]
    congr 1
    omega
  have hn : a / 20 < 11 := by omega
  have h1 : a / 20 * 20 ≤ a := by omega
  have h2 : a < a / 20 * 20 + 20 := by omega
  rcases hq : a / 20 with _ | _ | _ | _ | _ | _ | _ | _ | _ | _ | _ | n
  · exact H 0 (by omega) (by omega) ok_m0
  · exact H 1 (by omega) (by omega) ok_m1
  · exact H 2 (by omega) (by omega) ok_m2
  · exact H 3 (by omega) (by omega) ok_m3
  · exact H 4 (by omega) (by omega) ok_m4
  · exact H 5 (by omega) (by omega) ok_m5
  · exact H 6 (by omega) (by omega) ok_m6
  · exact H 7 (by omega) (by omega) ok_m7
  · exact H 8 (by omega) (by omega) ok_m8
  · exact H 9 (by omega) (by omega) ok_m9
  · exact H 10 (by omega) (by omega) ok_m10
  · omega
theorem ok_all (μ : Nat) (hμ : μ < mm_cnt) (ip : Nat) (q : mm_N) (h : mm_at μ ip = some q) : mm_ok μ q = true := by
  unfold mm_at at h
  split at h
  · rename_i l e
    rw [mm_get_eq] at e h
    exact List.all_eq_true.mp (ok_code μ hμ l (List.mem_of_getElem? e)) q (List.mem_of_getElem? h)
  · cases h
/-! THE CLAIM OUT OF ONE WALK OF THE LAW'S BODY. Your part is whole_start (and what it stands on); all else here is the same for every law, but numbers. -/
def R_law : String := "BackCourtLaw"
def lw_P (b : Addr) (xs : List Int32) (args : Array Value) (s : State) : Prop := args = #[.ref b] ∧ s.IntsAt b xs ∧ xs.length ≤ 384 ∧ (Jvm.Cond.and given_1 narrow_1).before args s = true
def lw_Q (_ : Array Value) (s : State) (o : Outcome) (t : State) : Prop := o = .returned (some (.int 1)) ∧ Framed s o t [] 600000 7302250
def lw_Z (below : List Frame) (a : Array Value) (s : State) : State → Prop := fun t => ∃ o, t.status = .running ∧ Ended t below o ∧ lw_Q a s o t
/-- the law's own end, with 1 on the stack, nothing written that was there before, its room as the claim has it -/
theorem lw_ret {p : Program} {l : Launch} {e : Env} {s : State} {m : MethodId} {below : List Frame} {meth : Method} {c : Code} {b : Nat} (hx : p.tables.exec = Jvm.exec) (hb : c.code = code) (hr : meth.sig.returnType = ret) (hlocks : meth.locks = false) {pc : Nat} {H : Heap} {ls : Array Slot} (hdg : decode code pc = .ok (.ireturn, 1)) : W p l e room_1 s m #[Value.ref b] below meth c H [] 600000 7302250 (lw_Z below #[Value.ref b] s) (F0 m pc ls [.int 1]) := by
  intro T hT X
  obtain ⟨fs, hret, hrun, hended, hW, hframe⟩ := X.leave (v := some (.int 1)) (hlocks := hlocks) (fun h => by rw [hr] at h; cases h)
  have hmeth' : T.vm.method? m = some meth := X.method'
  refine ⟨T.setFrames fs, ?_, .returned (some (.int 1)), hrun, hended, rfl, ⟨_, rfl⟩, hW, hframe⟩
  jvm_step X.here [X.here.top, hx, hb, hdg, hmeth', hr, ret, narrow_b1]
  (try refine ⟨rfl, ?_⟩); (try refine ⟨rfl, ?_⟩)
  first | (intro acts; rw [hret _ acts rfl rfl rfl]) | rw [hret _ _ rfl rfl rfl]
  exact Steps.refl _
/-- what holds at the law's entry: the machine, the code, the tables' words (any of lw_tbl by 'hts w (by decide +kernel)'), the script of L ints xs at the cell b, what the Statement gives of the start (any of its parts by flat_of_before) -/
def lw_At (p : Program) (s : State) (m : MethodId) (meth : Method) (c : Code) (b L : Nat) (xs : Nat → Int32) : Prop :=
  p.tables.exec = Jvm.exec ∧ c.code = code ∧ meth.sig.returnType = ret ∧ c.maxLocals = 4 ∧ s.vm.findClass R_law = some m.cls ∧ (∀ w ∈ lw_tbl, w.before #[Value.ref b] s = true) ∧ va_X b L xs s s.heap ∧ b < s.heap.size ∧ meth.locks = false ∧ (Jvm.Cond.and given_1 narrow_1).before #[Value.ref b] s = true
-- ===== YOUR PART BEGINS =====
theorem mm_arrI {s : State} {cA : ClassId} {kA : Class} {comp : ClassId} {ty : FieldType} (h2 : s.vm.classes[cA]? = some kA) (h3 : kA.kind = .array comp ty) : ArrOfT s cA ty := fun n z => ⟨fun k h => (by cases h), kA, h2, comp, h3⟩
def mm_dC (c0 c1 c2 c3 c4 c5 c6 : ClassId) : Nat → ClassId
  | 0 => c0
  | 1 => c1
  | 2 => c2
  | 3 => c3
  | 4 => c4
  | 5 => c5
  | _ => c6
def mm_dI (c0 c1 c2 c3 c4 c5 c6 : Nat → Nat) : Nat → Nat → Nat
  | 0 => c0
  | 1 => c1
  | 2 => c2
  | 3 => c3
  | 4 => c4
  | 5 => c5
  | _ => c6
set_option maxHeartbeats 4000000 in
set_option maxRecDepth 20000 in
theorem whole_of (hlaw : law_says) {p : Program} {e : Env} {s : State} {m : MethodId} {below : List Frame} {meth : Method} {c : Code} (l : Launch) {b L : Nat} {xs : Nat → Int32} (hL : L ≤ 384) (C0 : lw_At p s m meth c b L xs) : W p l e room_1 s m #[Value.ref b] below meth c s.heap [] 0 0 (lw_Z below #[Value.ref b] s) (entryFrame m ([Value.ref b] : List Value).toArray 4) := by
  obtain ⟨hx, hb, hr, hml, hown, hts, hX, hbl, hlocks, hgv⟩ := C0
  have hgt : ∀ x ∈ mm_gt, x.before #[Value.ref b] s = true := fun x hx => hts x (List.mem_filter.mp hx).1
  have hs := flat_of_before _ hgv
  have hA : ∀ a : Nat, a < s.heap.size → ¬ (fun q : Nat => s.heap.size ≤ q) a := fun a h => Nat.not_le.mpr h
  obtain ⟨c0, i0, k0⟩ := u_known hgt (mm_uw_in mm_uw0) (n := 8) (hts _ (mm_isw_in (n := 155) (by decide +kernel)))
  obtain ⟨c1, i1, k1⟩ := u_known hgt (mm_uw_in mm_uw1) (n := 7) (hts _ (mm_isw_in (n := 76) (by decide +kernel)))
  obtain ⟨c2, i2, k2⟩ := u_known hgt (mm_uw_in mm_uw2) (n := 3) (hts _ (mm_isw_in (n := 117) (by decide +kernel)))
  obtain ⟨c3, i3, k3⟩ := u_known hgt (mm_uw_in mm_uw3) (n := 2) (hts _ (mm_isw_in (n := 125) (by decide +kernel)))
  obtain ⟨c4, i4, k4⟩ := u_known hgt (mm_uw_in mm_uw4) (n := 5) (hts _ (mm_isw_in (n := 189) (by decide +kernel)))
  obtain ⟨c5, i5, k5⟩ := u_known hgt (mm_uw_in mm_uw5) (n := 13) (hts _ (mm_isw_in (n := 66) (by decide +kernel)))
  obtain ⟨c6, i6, k6⟩ := u_known hgt (mm_uw_in mm_uw6) (n := 27) (hts _ (mm_isw_in (n := 747) (by decide +kernel)))
  have wI : (Cond.arrayClass .int).before #[Value.ref b] s = true := hts _ (mm_isw_in (n := 114) (by decide +kernel))
  have wC : (Cond.arrayOver (.object RX1)).before #[Value.ref b] s = true := hts _ (mm_isw_in (n := 115) (by decide +kernel))
  have wR : (Cond.arrayOver (.object RX3)).before #[Value.ref b] s = true := hts _ (mm_isw_in (n := 74) (by decide +kernel))
  obtain ⟨cI, kI, cmI, a1, a2, a3⟩ := Cond.arrayClass_spec wI
  obtain ⟨cmC, cC, kC, b1, -, b2, b3, b4⟩ := Cond.arrayOver_spec wC
  obtain ⟨cmR, cR, kR, r1, -, r2, r3, r4⟩ := Cond.arrayOver_spec wR
  obtain ⟨t, ht, hTt⟩ := va_Tof (args := #[Value.ref b]) (s := s) (tm := .static RX5 "LETTERS" "[I") (ty := .int) (N := 6) (f := fun j => .int (mm_let j)) (A := fun q : Nat => s.heap.size ≤ q) (by decide) (hs _ (by decide +kernel)) (va_eqt (hs _ (by decide +kernel))) (fun j hj => by
    rcases j with _ | _ | _ | _ | _ | _ | j
    · exact va_eqt (z := 114) (hs _ (by decide +kernel))
    · exact va_eqt (z := 98) (hs _ (by decide +kernel))
    · exact va_eqt (z := 102) (hs _ (by decide +kernel))
    · exact va_eqt (z := 117) (hs _ (by decide +kernel))
    · exact va_eqt (z := 99) (hs _ (by decide +kernel))
    · exact va_eqt (z := 107) (hs _ (by decide +kernel))
    · omega) hA
  have htl : t < s.heap.size := by
    obtain ⟨cell, h1, -⟩ := hTt
    exact (Array.getElem?_eq_some_iff.mp h1).1
  have hZ : va_Z RX5 "LETTERS" "[I" (.ref t) (fun q : Nat => s.heap.size ≤ q) s s.heap := va_Zof (hts _ (mm_isw_in (n := 376) (by decide +kernel))) (hts _ (mm_isw_in (n := 55) (by decide +kernel))) ht hA
  let g : mm_G := ((mm_dC c0 c1 c2 c3 c4 c5 c6, mm_dI i0 i1 i2 i3 i4 i5 i6), (cI, cC, cR), (b, t, L, s.heap.size), xs)
  have hT : mm_T g s s.heap := by
    refine ⟨⟨fun c q hq => ?_, fun k q hq => ?_⟩, fun x hx hn => va_Nw.of (mm_nest_tab hn) (hts x hx), va_AO.of wC, va_AO.of wR, hZ, hTt, hX, htl, hbl, Nat.le_refl _⟩
    · rcases c with _ | _ | _ | _ | _ | _ | _ | c
      · cases hq; exact k0
      · cases hq; exact k1
      · cases hq; exact k2
      · cases hq; exact k3
      · cases hq; exact k4
      · cases hq; exact k5
      · cases hq; exact k6
      · cases hq
    · rcases k with _ | _ | _ | k
      · cases hq; exact ⟨mm_arrI a2 a3, a1⟩
      · cases hq; exact ⟨mm_arrI b2 b3, kC, cmC, b2, b3, b1, b4⟩
      · cases hq; exact ⟨mm_arrI r2 r3, kR, cmR, r2, r3, r1, r4⟩
      · cases hq
  have hR : mm_R g s.heap (mm_h0 L xs) := by
    refine ⟨fun _ => rfl, Nat.le_refl _, rfl, rfl, fun k hk => ?_, fun k q hq => ?_⟩
    · have hk' : 2 ≤ k := hk
      rcases k with _ | _ | k
      · omega
      · omega
      · rfl
    · cases hq
  rw [lg_entry_eq]
  have hent := mm_L.entry g (args := [Value.ref 0]) (n := 4) rfl (by decide)
  refine mm_sound l g ok_all ok_mth (hlaw L xs hL) p e room_1 s m #[Value.ref b] below meth c s.heap [] 0 0 600000 7302250 _ _ ⟨hx, hb, hml, hown, hgt, hT, fun z => absurd z (by decide), by decide, by decide, by decide, Nat.le_refl _⟩ ?_ hR va_S.rf hent (Nat.le_refl _) (Nat.le_refl _) (Nat.le_refl _) (Nat.le_refl _) 0 (by decide +kernel)
  intro H' locs' cells' slots' pc sl r h' i hq hR' hS' hc hs' hd hk
  have hr1 : r = some (.int 1) := hq
  subst hr1
  refine va_forget (fun q hq => hS'.2.2 q hq) ?_
  refine W.widen hc hs' ?_
  rcases hk with ⟨rfl, -⟩ | ⟨-, -, x, hx9⟩ | ⟨-, -, hx9⟩
  · exact lw_ret hx hb hr hlocks hd
  · cases hx9
  · cases hx9
