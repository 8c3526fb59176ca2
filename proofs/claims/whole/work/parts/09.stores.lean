/-! rows of stores that say that nothing is made -/
section MST
variable {p : Program} {l : Launch} {e : Env} {R : Room} {s : State} {m : MethodId} {args : Array Value} {below : List Frame} {meth : Method} {c : Code} {H : Heap} {locs : List Loc} {cells slots : Nat} {Z : State → Prop}
theorem mm_iast {g : mm_G} {h : mm_H} {cc : ByteArray} (hx : p.tables.exec = Jvm.exec) (hb : c.code = cc) (hK : va_K (gvD g) mm_cls (mm_tys g) s) (hR : mm_R g H h) (hS : va_S (mm_A g) s.heap H locs) {o n : Nat} {f : Nat → Int32} (eo : h.2 o = mI n f) {i x : Int32} (hin : vp_in i n) {pc : Nat} {sl : Array Slot} {rest : List Value} (hdg : decode cc pc = .ok (.iastore, 1))
    (kk : ∀ (H1 : Heap) (locs1 : List Loc), mm_R g H1 (h.1, mU h.2 o (mI n (upd f i.toNatClampNeg x))) → va_S (mm_A g) s.heap H1 locs1 → W p l e R s m args below meth c H1 locs1 cells slots Z (F0 m (pc + 1) sl rest)) : W p l e R s m args below meth c H locs cells slots Z (F0 m pc sl (.int x :: .int i :: .ref (mm_ad g o) :: rest)) := by
  obtain ⟨h2, ho, hw⟩ := hR.ints eo
  have hP := hR.2.2.2.2.2
  have hcell : H[mm_ad g o]? = some (vp_cell (gvI g) (n, .inl f)) := hP _ _ hw
  refine W.iast hx hb hcell ((hK.2 0 _ rfl).1 n (fun j => .int (f j))) (fun q => by cases q) (by show ¬ (i < 0 ∨ (arrV _ _ _).slots.size ≤ _); rw [arrV_size]; exact hin) rfl rfl hdg fun H1 e1 z1 o1 => ?_
  refine kk H1 _ (hR.put h2 ho (fun _ => z1) (hP.set (mm_ws_D g h) hw ?_ o1)) (hS.put z1 o1 ((mm_ws_D g h).2 _ _ hw))
  show H1[mm_ad g o]? = some (vp_cell _ _)
  rw [e1, vp_cell_i, vp_cell_i, arrV_store]
  congr 2
  funext q
  by_cases hq : q = i.toNatClampNeg
  · subst hq
    simp [updV, upd]
  · simp [updV, upd, hq]
theorem mm_fits {ty : FieldType} {w v : Value} (g : mm_G) (h1 : mm_fty (some ty) (some w) = true) (h2 : mm_fit w v = true) : narrow ty (mm_tr g v) = mm_tr g v ∧ fits ty (mm_tr g v) = true := by
  cases w <;> cases v <;> first
    | (exfalso; simp [mm_fit] at h2; done)
    | (cases ty <;> first
        | (exfalso; simp [mm_fty] at h1; done)
        | exact ⟨rfl, rfl⟩)
theorem mm_put {g : mm_G} {h : mm_H} {cc : ByteArray} {own C : String} {T : u_T} {N index a b : Nat} (hx : p.tables.exec = Jvm.exec) (hb : c.code = cc) (hts : ∀ x ∈ mm_gt, x.before args s = true) (hown : s.vm.findClass own = some m.cls) (hK : va_K (gvD g) mm_cls (mm_tys g) s) (hR : mm_R g H h) (hS : va_S (mm_A g) s.heap H locs) (hcl : mm_cls[a]? = some (C, T, N)) (hbN : b < N) (hlink : (Cond.fieldLink own index (T b).1 (T b).2.1 (T b).2.2.1).before args s = true) {fw : Value} (hty0 : mm_fty (parseFieldDescriptor (T b).2.2.1) (some fw) = true) (hfin : (T b).2.2.2 = false ∨ ((T b).2.2.2 = true ∧ meth.name = "<init>" ∧ (T b).1 = own)) {o : Nat} {fs : List Value} (eo : h.2 o = mO a fs) {v : Value} (hv : mm_fit fw v = true) (hl : b < fs.length) {pc : Nat} {sl : Array Slot} {rest : List Value} (hdg : decode cc pc = .ok (.putfield index, 3))
    (kk : ∀ (H1 : Heap) (locs1 : List Loc), mm_R g H1 (h.1, mU h.2 o (mO a (fs.set b v))) → va_S (mm_A g) s.heap H1 locs1 → W p l e R s m args below meth c H1 locs1 cells slots Z (F0 m (pc + 3) sl rest)) : W p l e R s m args below meth c H locs cells slots Z (F0 m pc sl (mm_tr g v :: .ref (mm_ad g o) :: rest)) := by
  obtain ⟨ha7, hin, hnm, ty0, hty, hdf⟩ := mm_kn_of hcl
  have hd : parseFieldDescriptor (T b).2.2.1 = some (ty0 b) := hty b hbN
  rw [hd] at hty0
  obtain ⟨hn, hfit⟩ := mm_fits g hty0 hv
  obtain ⟨h2, ho, hw⟩ := hR.obj eo (by omega)
  have hP := hR.2.2.2.2.2
  have hap := va_apart (own := own) (args := args) hts hin ty0 hty hnm hK hcl
  obtain ⟨r, h1, cell, q1, q2, q3, q4⟩ := hP _ _ hw
  have hr : r = (C, T, N) := Option.some.inj (h1.symm.trans hcl)
  subst hr
  obtain ⟨hSl, hfc, kC, hkC, hkind⟩ := hK.1 a _ hcl
  obtain ⟨cf, kf, fi, f, hi, hsl⟩ := hSl b hbN
  have hlay := hts _ (hin _ (u_in_lay hbN))
  have hst := (u_facts hfc hkC (u_lays hts hin hbN) hi).1
  have hfin9 : ∀ (H' : Heap), H'[mm_ad g o]? = some (cell.setSlot f.slot (mm_tr g v)) → H'.size = H.size → (∀ q, q ≠ mm_ad g o → H'[q]? = H[q]?) → W p l e R s m args below meth c H' (locs ++ [⟨mm_ad g o, f.slot⟩]) cells slots Z (F0 m (pc + 3) sl rest) := by
    intro H' e1 z1 o1
    refine kk H' _ (hR.put h2 ho (fun _ => z1) ?_) (hS.put z1 o1 ((mm_ws_D g h).2 _ _ hw))
    refine hP.set (mm_ws_D g h) hw ?_ o1
    refine ⟨_, hcl, ?_⟩
    rw [hsl] at e1
    have hl' : b < (fs.map (mm_tr g)).length := by rw [List.length_map]; exact hl
    refine t_OB.to (V := updV (vp_V (fs.map (mm_tr g))) b (mm_tr g v)) ⟨_, e1, q2, q3, t_set q4 hap hbN (mm_tr g v)⟩ (fun j _ => ?_)
    rw [vp_updV_set hl' (mm_tr g v) j, ← List.map_set]
  rcases hfin with hf0 | ⟨hf1, hf2, hf3⟩
  · unfold u_lay at hlay
    rw [if_neg (by rw [hf0]; decide)] at hlay
    have h6 := u_store hfc hkC hkind hlay hi hd hn hfit
    exact W.putK hx hb (f := f) ⟨hown, hlink, ⟨_, _, _, hi⟩, hst⟩ (by rw [q2]; exact h6) q1 q3 (by rw [hsl]; exact k2_hasslot (q4 b hbN)) rfl rfl hdg hfin9
  · unfold u_lay at hlay
    rw [if_pos hf1] at hlay
    have hcf : m.cls = cf := by
      obtain ⟨_, _, c', _, _, _, -, -, hf', -, -, -, hown2, -⟩ := Cond.laysFinal_spec hlay
      have e1 : c' = cf := by have := hi.symm.trans hf'; simp at this; exact this.1.symm
      rw [hf3] at hown2
      rw [← e1]
      exact Option.some.inj (hown.symm.trans hown2)
    have h6 := u_fits hfc hkC hkind (Or.inr hlay) hi hd hn hfit
    exact W.putFinK hx hb hown hlink hi hst hcf hf2 (by rw [q2]; exact h6) q1 q3 (by rw [hsl]; exact k2_hasslot (q4 b hbN)) rfl rfl hdg hfin9
theorem mm_ca_ty {g : mm_G} {ci : Nat} (h : ci = 1 ∨ ci = 3) : ∃ (t0 : Nat) (r : vw_C), mm_cls[ci]? = some r ∧ (mm_tys g)[t0]? = some (mm_ca g ci, .object r.1) := by
  rcases h with rfl | rfl
  · exact ⟨1, _, rfl, rfl⟩
  · exact ⟨2, _, rfl, rfl⟩
theorem mm_aast {g : mm_G} {h : mm_H} {cc : ByteArray} (hx : p.tables.exec = Jvm.exec) (hb : c.code = cc) (hK : va_K (gvD g) mm_cls (mm_tys g) s) (hR : mm_R g H h) (hS : va_S (mm_A g) s.heap H locs) {o n v ci : Nat} {f : Nat → Option Nat} (eo : h.2 o = mR ci n f) {fs : List Value} (ev : h.2 v = mO ci fs) {i : Int32} (hin : vp_in i n) {pc : Nat} {sl : Array Slot} {rest : List Value} (hdg : decode cc pc = .ok (.aastore, 1))
    (kk : ∀ (H1 : Heap) (locs1 : List Loc), mm_R g H1 (h.1, mU h.2 o (mR ci n (va_up f i.toNatClampNeg (some v)))) → va_S (mm_A g) s.heap H1 locs1 → W p l e R s m args below meth c H1 locs1 cells slots Z (F0 m (pc + 1) sl rest)) : W p l e R s m args below meth c H locs cells slots Z (F0 m pc sl (.ref (mm_ad g v) :: .int i :: .ref (mm_ad g o) :: rest)) := by
  obtain ⟨h2, ho, hci, hw⟩ := hR.refs eo
  obtain ⟨t0, r, hc, ht⟩ := mm_ca_ty (g := g) hci
  obtain ⟨h2v, hov, hwv⟩ := hR.obj ev (by omega)
  have hP := hR.2.2.2.2.2
  have hlt : i.toNatClampNeg < n := Nat.not_le.mp fun q => hin (Or.inr q)
  have h0 : ¬ i < 0 := fun q => hin (Or.inl q)
  obtain ⟨r', hr', cellV, g1, g2, g3, -⟩ := hP _ _ hwv
  have hcls := (hK.1 ci r hc).2
  obtain ⟨kA, comp, k1, k2, k3, -⟩ := (hK.2 t0 _ ht).2
  have hcomp : comp = (gvD g).1 ci := Option.some.inj (k3.symm.trans hcls.1)
  subst hcomp
  obtain ⟨kC, hkC, -⟩ := hcls.2
  have hcell : H[mm_ad g o]? = some (vp_cell (mm_ca g ci) (n, mm_q g f)) := hP _ _ hw
  refine W.aast hx hb hcell (fun q h => by cases h) (fun h => by cases h) k1 k2 rfl hkC ⟨h0, by show _ < (arrV _ _ _).slots.size; rw [arrV_size]; exact hlt⟩ g1 (fun q h => by rw [g3] at h; cases h) (by rw [g2]; exact hkC) (by rw [g2]; exact va_assign hcls) rfl rfl hdg fun H1 e1 z1 o1 => ?_
  refine kk H1 _ (hR.put h2 ho (fun _ => z1) (hP.set (mm_ws_D g h) hw ?_ o1)) (hS.put z1 o1 ((mm_ws_D g h).2 _ _ hw))
  have en : mm_en g (mR ci n (va_up f i.toNatClampNeg (some v))) = .inl (mm_ca g ci, n, mm_q g (va_up f i.toNatClampNeg (some v))) := by
    rcases hci with rfl | rfl <;> rfl
  rw [en]
  show H1[mm_ad g o]? = some (vp_cell _ _)
  rw [e1]
  unfold mm_q
  rw [vp_cell_q, vp_cell_q, arrV_store]
  congr 2
  funext q
  by_cases hq : q = i.toNatClampNeg
  · subst hq
    simp [updV, va_up, va_rf]
  · simp [updV, va_up, hq]
theorem mm_new {g : mm_G} {h : mm_H} {cc : ByteArray} {own C : String} {T : u_T} {N index a : Nat} (hx : p.tables.exec = Jvm.exec) (hb : c.code = cc) (hts : ∀ x ∈ mm_gt, x.before args s = true) (hown : s.vm.findClass own = some m.cls) (hK : va_K (gvD g) mm_cls (mm_tys g) s) (hR : mm_R g H h) (hS : va_S (mm_A g) s.heap H locs) (hcl : mm_cls[a]? = some (C, T, N)) (w1 : (Cond.classLink own index C).before args s = true) (w2 : (Cond.instantiable C N).before args s = true) (w3 : (Cond.initialized C).before args s = true) (hf : h.1 < mm_full) (hc1 : cells + 1 ≤ R.cells) (hc2 : slots + N ≤ R.slots) {pc : Nat} {sl : Array Slot} {st : List Value} (hdg : decode cc pc = .ok (.new index, 3))
    (kk : ∀ (H1 : Heap), mm_R g H1 (h.1 + 1, mU h.2 h.1 (mO a (mm_def a))) → va_S (mm_A g) s.heap H1 locs → W p l e R s m args below meth c H1 locs (cells + 1) (slots + N) Z (F0 m (pc + 3) sl (.ref (mm_ad g h.1) :: st))) : W p l e R s m args below meth c H locs cells slots Z (F0 m pc sl st) := by
  obtain ⟨ha7, hin, hnm, ty0, hty, hdf⟩ := mm_kn_of hcl
  have hKn := hK.1 a _ hcl
  have had := mm_ad_top hR hf
  refine W.newcK hx hb hown w1 w2 w3 rfl hdg hc1 hc2 hKn.2.1 rfl fun H1 kC hkC e1 z1 o1 => ?_
  have hK2 := kk H1 (hR.push hf z1 o1 ?_) ⟨Nat.le_trans hS.1 (by omega), fun q h1 h2 => (o1 q (Nat.lt_of_lt_of_le h1 hS.1)).trans (hS.2.1 q h1 h2), hS.2.2⟩
  · rw [had] at hK2
    exact hK2
  · rw [had]
    refine ⟨_, hcl, ?_⟩
    refine (u_born ty0 hts hin hKn hkC e1 hty).to (fun j hj => ?_)
    rw [mm_def_tr]
    exact hdf j hj
theorem mm_newi {g : mm_G} {h : mm_H} {cc : ByteArray} (hx : p.tables.exec = Jvm.exec) (hb : c.code = cc) (w1 : (Cond.arrayClass .int).before args s = true) (hK : va_K (gvD g) mm_cls (mm_tys g) s) (hR : mm_R g H h) (hS : va_S (mm_A g) s.heap H locs) (hf : h.1 < mm_full) {n : Int32} (hn : ¬ n < 0) (hn2 : n.toNatClampNeg ≤ 7302250) (hc1 : cells + 1 ≤ R.cells) (hc2 : slots + n.toNatClampNeg ≤ R.slots) {pc : Nat} {sl : Array Slot} {st : List Value} (hdg : decode cc pc = .ok (.newarray .int, 2))
    (kk : ∀ (H1 : Heap), mm_R g H1 (h.1 + 1, mU h.2 h.1 (mI n.toNatClampNeg (fun _ => 0))) → va_S (mm_A g) s.heap H1 locs → W p l e R s m args below meth c H1 locs (cells + 1) (slots + n.toNatClampNeg) Z (F0 m (pc + 2) sl (.ref (mm_ad g h.1) :: st))) : W p l e R s m args below meth c H locs cells slots Z (F0 m pc sl (.int n :: st)) := by
  have had := mm_ad_top hR hf
  refine va_newaK hx hb (atype := .int) w1 rfl hdg rfl hn rfl (by show n.toNatClampNeg * 4 ≤ _; omega) hc1 hc2 rfl fun H1 cA e1 z1 o1 hAr hNm => ?_
  have hcA : cA = gvI g := by
    have z : s.vm.findClass ("[" ++ (FieldType.int).toString) = some (gvI g) := (hK.2 0 _ rfl).2
    exact Option.some.inj (hNm.symm.trans z)
  subst hcA
  have hK2 := kk H1 (hR.push hf z1 o1 ?_) ⟨Nat.le_trans hS.1 (by omega), fun q h1 h2 => (o1 q (Nat.lt_of_lt_of_le h1 hS.1)).trans (hS.2.1 q h1 h2), hS.2.2⟩
  · rw [had] at hK2
    exact hK2
  · rw [had]
    exact e1
theorem mm_newr {g : mm_G} {h : mm_H} {cc : ByteArray} {own : String} {index a : Nat} {r : vw_C} (hx : p.tables.exec = Jvm.exec) (hb : c.code = cc) (hown : s.vm.findClass own = some m.cls) (ha : a = 1 ∨ a = 3) (hcl : mm_cls[a]? = some r) (w1 : (Cond.classLink own index r.1).before args s = true) (w2 : va_AO r.1 s) (hK : va_K (gvD g) mm_cls (mm_tys g) s) (hR : mm_R g H h) (hS : va_S (mm_A g) s.heap H locs) (hf : h.1 < mm_full) {n : Int32} (hn : ¬ n < 0) (hn2 : n.toNatClampNeg ≤ 7302250) (hc1 : cells + 1 ≤ R.cells) (hc2 : slots + n.toNatClampNeg ≤ R.slots) {pc : Nat} {sl : Array Slot} {st : List Value} (hdg : decode cc pc = .ok (.anewarray index, 3))
    (kk : ∀ (H1 : Heap), mm_R g H1 (h.1 + 1, mU h.2 h.1 (mR a n.toNatClampNeg (fun _ => none))) → va_S (mm_A g) s.heap H1 locs → W p l e R s m args below meth c H1 locs (cells + 1) (slots + n.toNatClampNeg) Z (F0 m (pc + 3) sl (.ref (mm_ad g h.1) :: st))) : W p l e R s m args below meth c H locs cells slots Z (F0 m pc sl (.int n :: st)) := by
  have had := mm_ad_top hR hf
  refine W.anew hx hb hown w1 (va_AO.use w2) rfl hdg rfl hn (by omega) hc1 hc2 fun cA kA comp f1 f2 f3 f4 => ?_
  have hcA : cA = mm_ca g a := by
    obtain ⟨t0, r', hr', ht⟩ := mm_ca_ty (g := g) ha
    have er : r' = r := Option.some.inj (hr'.symm.trans hcl)
    subst er
    obtain ⟨_, _, _, _, _, k4⟩ := (hK.2 t0 _ ht).2
    exact Option.some.inj (f1.symm.trans k4)
  subst hcA
  generalize hH1 : H.push ({ cls := mm_ca g a, slots := Array.replicate n.toNatClampNeg .null, vm := .none } : Cell) = H1
  have z1 : H1.size = H.size + 1 := by rw [← hH1, Array.size_push]
  have e1 : H1[H.size]? = some (arrV (mm_ca g a) n.toNatClampNeg (fun _ => .null)) := by rw [← hH1, Array.getElem?_push_size, ← arrV_new]
  have o1 : ∀ q : Nat, q < H.size → H1[q]? = H[q]? := fun q hq => by rw [← hH1, Array.getElem?_push, if_neg (Nat.ne_of_lt hq)]
  have hK2 := kk H1 (hR.push hf z1 o1 ?_) ⟨Nat.le_trans hS.1 (by omega), fun q h1 h2 => (o1 q (Nat.lt_of_lt_of_le h1 hS.1)).trans (hS.2.1 q h1 h2), hS.2.2⟩
  · rw [had] at hK2
    exact hK2
  · rw [had]
    have en : mm_en g (mR a n.toNatClampNeg (fun _ => none)) = .inl (mm_ca g a, n.toNatClampNeg, mm_q g (fun _ => none)) := by
      rcases ha with rfl | rfl <;> rfl
    rw [en]
    exact e1
end MST

