/-! the mini machine's heap as a world of the real one -/
abbrev mm_G : Type := va_G × (ClassId × ClassId × ClassId) × (Nat × Nat × Nat × Nat) × (Nat → Int32)
def gvD (g : mm_G) : va_G := g.1
def gvI (g : mm_G) : ClassId := g.2.1.1
def gvC (g : mm_G) : ClassId := g.2.1.2.1
def gvR (g : mm_G) : ClassId := g.2.1.2.2
def gvb (g : mm_G) : Nat := g.2.2.1.1
def gvt (g : mm_G) : Nat := g.2.2.1.2.1
def gvL (g : mm_G) : Nat := g.2.2.1.2.2.1
def gvz (g : mm_G) : Nat := g.2.2.1.2.2.2
def gvx (g : mm_G) : Nat → Int32 := g.2.2.2
def mm_ad (g : mm_G) : Nat → Nat
  | 0 => gvb g
  | 1 => gvt g
  | k + 2 => gvz g + k
def mm_tr (g : mm_G) : Value → Value
  | .ref k => .ref (mm_ad g k)
  | v => v
def mm_let : Nat → Int32
  | 0 => 114
  | 1 => 98
  | 2 => 102
  | 3 => 117
  | 4 => 99
  | _ => 107
def mm_q (g : mm_G) (f : Nat → Option Nat) : (Nat → Int32) ⊕ (Nat → Int64) ⊕ (Nat → UInt32) ⊕ (Nat → UInt64) ⊕ (Nat → Option Nat) := .inr (.inr (.inr (.inr (fun j => (f j).map (mm_ad g)))))
def mm_ca (g : mm_G) (ci : Nat) : ClassId := bif Nat.beq ci 1 then gvC g else gvR g
def mm_en (g : mm_G) : mm_C → va_E
  | .inl (ci, fs) => .inr (ci, fs.map (mm_tr g))
  | .inr (.inl (n, f)) => .inl (gvI g, n, .inl f)
  | .inr (.inr (.inl (ci, n, f))) => bif (Nat.beq ci 1 || Nat.beq ci 3) then .inl (mm_ca g ci, n, mm_q g f) else .inr (99, [])
  | .inr (.inr (.inr _)) => .inr (99, [])
def mm_ws (g : mm_G) (h : mm_H) : va_W := (List.range (h.1 - 2)).map (fun k => (gvz g + k, mm_en g (h.2 (k + 2))))
def mm_A (g : mm_G) : Nat → Prop := fun q => gvz g ≤ q
def mm_R (g : mm_G) (H : Heap) (h : mm_H) : Prop := (h.1 < mm_full → H.size = gvz g + (h.1 - 2)) ∧ 2 ≤ h.1 ∧ h.2 0 = mE (gvL g) (gvx g) ∧ h.2 1 = mE 6 mm_let ∧ (∀ k, h.1 ≤ k → h.2 k = mO 99 []) ∧ va_P (gvD g) mm_cls (mm_ws g h) H
def mm_tys (g : mm_G) : List (ClassId × FieldType) := [(gvI g, .int), (gvC g, .object RX1), (gvR g, .object RX3)]
theorem mm_ws_get (g : mm_G) (h : mm_H) {k : Nat} (h2 : 2 ≤ k) (hk : k < h.1) : (mm_ws g h)[k - 2]? = some (mm_ad g k, mm_en g (h.2 k)) := by
  obtain ⟨j, rfl⟩ : ∃ j, k = j + 2 := ⟨k - 2, by omega⟩
  have e : j + 2 - 2 = j := by omega
  rw [e]
  unfold mm_ws
  rw [List.getElem?_map, List.getElem?_range (by omega)]
  rfl
theorem mm_ws_len (g : mm_G) (h : mm_H) : (mm_ws g h).length = h.1 - 2 := by simp [mm_ws]
theorem mm_ws_at (g : mm_G) (h : mm_H) (k : Nat) : (mm_ws g h)[k]? = if k < h.1 - 2 then some (gvz g + k, mm_en g (h.2 (k + 2))) else none := by
  unfold mm_ws
  rw [List.getElem?_map]
  by_cases hk : k < h.1 - 2
  · rw [List.getElem?_range hk, if_pos hk]
    rfl
  · rw [if_neg hk, List.getElem?_eq_none (by simpa using hk)]
    rfl
theorem mm_ws_D (g : mm_G) (h : mm_H) : va_D (mm_A g) (mm_ws g h) := by
  refine ⟨fun i j p q hi hj e => ?_, fun k q hk => ?_⟩
  · rw [mm_ws_at] at hi hj
    split at hi
    · split at hj
      · cases hi
        cases hj
        simp at e
        omega
      · cases hj
    · cases hi
  · rw [mm_ws_at] at hk
    split at hk
    · cases hk
      show gvz g ≤ gvz g + k
      omega
    · cases hk
theorem mm_ws_set (g : mm_G) (h : mm_H) {o : Nat} (c : mm_C) (h2 : 2 ≤ o) (ho : o < h.1) : (mm_ws g h).set (o - 2) (mm_ad g o, mm_en g c) = mm_ws g (h.1, mU h.2 o c) := by
  apply List.ext_getElem?
  intro k
  rw [mm_ws_at]
  obtain ⟨j, rfl⟩ : ∃ j, o = j + 2 := ⟨o - 2, by omega⟩
  have e : j + 2 - 2 = j := by omega
  rw [e]
  by_cases hkj : k = j
  · subst hkj
    rw [List.getElem?_set_self (by rw [mm_ws_len]; omega), if_pos (by show k < h.1 - 2; omega)]
    simp [mU, mm_ad]
  · rw [List.getElem?_set_ne (Ne.symm hkj), mm_ws_at]
    by_cases hk : k < h.1 - 2
    · rw [if_pos hk, if_pos hk]
      simp [mU, hkj]
    · rw [if_neg hk, if_neg hk]
theorem mm_ws_push (g : mm_G) (h : mm_H) (c : mm_C) (h2 : 2 ≤ h.1) : mm_ws g h ++ [(mm_ad g h.1, mm_en g c)] = mm_ws g (h.1 + 1, mU h.2 h.1 c) := by
  apply List.ext_getElem?
  intro k
  rw [mm_ws_at]
  obtain ⟨n, hn⟩ : ∃ n, h.1 = n + 2 := ⟨h.1 - 2, by omega⟩
  show _ = if k < h.1 + 1 - 2 then _ else _
  by_cases hk : k < n
  · rw [List.getElem?_append_left (by rw [mm_ws_len]; omega), mm_ws_at, if_pos (by omega), if_pos (by omega)]
    have : ¬ k + 2 = h.1 := by omega
    simp [mU, this]
  · by_cases hk2 : k = n
    · subst hk2
      rw [List.getElem?_append_right (by rw [mm_ws_len]; omega), mm_ws_len, if_pos (by omega)]
      have e1 : k - (h.1 - 2) = 0 := by omega
      rw [e1, hn]
      simp [mU, mm_ad]
    · rw [List.getElem?_eq_none (by simp [mm_ws_len]; omega), if_neg (by omega)]
/-- an object, an array of the mini heap has its place in the world -/
theorem mm_R.obj {g : mm_G} {H : Heap} {h : mm_H} (hR : mm_R g H h) {o ci : Nat} {fs : List Value} (e : h.2 o = mO ci fs) (hc : ci ≠ 99) : 2 ≤ o ∧ o < h.1 ∧ (mm_ws g h)[o - 2]? = some (mm_ad g o, .inr (ci, fs.map (mm_tr g))) := by
  obtain ⟨-, h2, e0, e1, hd, -⟩ := hR
  have ho : o < h.1 := Nat.lt_of_not_le fun q => by
    have z := (hd o q).symm.trans e
    simp [mO] at z
    exact hc z.1.symm
  have h3 : 2 ≤ o := by
    rcases o with _ | _ | o
    · rw [e0] at e; cases e
    · rw [e1] at e; cases e
    · omega
  refine ⟨h3, ho, ?_⟩
  rw [mm_ws_get g h h3 ho, e]
  rfl
theorem mm_R.ints {g : mm_G} {H : Heap} {h : mm_H} (hR : mm_R g H h) {o n : Nat} {f : Nat → Int32} (e : h.2 o = mI n f) : 2 ≤ o ∧ o < h.1 ∧ (mm_ws g h)[o - 2]? = some (mm_ad g o, .inl (gvI g, n, .inl f)) := by
  obtain ⟨-, h2, e0, e1, hd, -⟩ := hR
  have ho : o < h.1 := Nat.lt_of_not_le fun q => by
    have z := (hd o q).symm.trans e
    cases z
  have h3 : 2 ≤ o := by
    rcases o with _ | _ | o
    · rw [e0] at e; cases e
    · rw [e1] at e; cases e
    · omega
  refine ⟨h3, ho, ?_⟩
  rw [mm_ws_get g h h3 ho, e]
  rfl
theorem mm_R.refs {g : mm_G} {H : Heap} {h : mm_H} (hR : mm_R g H h) {o ci n : Nat} {f : Nat → Option Nat} (e : h.2 o = mR ci n f) : 2 ≤ o ∧ o < h.1 ∧ (ci = 1 ∨ ci = 3) ∧ (mm_ws g h)[o - 2]? = some (mm_ad g o, .inl (mm_ca g ci, n, mm_q g f)) := by
  obtain ⟨-, h2, e0, e1, hd, hP⟩ := hR
  have ho : o < h.1 := Nat.lt_of_not_le fun q => by
    have z := (hd o q).symm.trans e
    cases z
  have h3 : 2 ≤ o := by
    rcases o with _ | _ | o
    · rw [e0] at e; cases e
    · rw [e1] at e; cases e
    · omega
  have hw := mm_ws_get g h h3 ho
  rw [e] at hw
  by_cases hc : ci = 1 ∨ ci = 3
  · refine ⟨h3, ho, hc, ?_⟩
    rcases hc with rfl | rfl <;> exact hw
  · exfalso
    have hq := hP _ _ hw
    have en : mm_en g (mR ci n f) = .inr (99, []) := by
      have b1 : (Nat.beq ci 1 || Nat.beq ci 3) = false := by
        rw [Bool.or_eq_false_iff]
        constructor
        · cases z : Nat.beq ci 1 with
          | false => rfl
          | true => exact absurd (Or.inl (Nat.eq_of_beq_eq_true z)) hc
        · cases z : Nat.beq ci 3 with
          | false => rfl
          | true => exact absurd (Or.inr (Nat.eq_of_beq_eq_true z)) hc
      show (bif (Nat.beq ci 1 || Nat.beq ci 3) then _ else _) = _
      rw [b1]
      rfl
    rw [en] at hq
    obtain ⟨r, hr, -⟩ := hq
    cases hr
theorem mm_R.ext {g : mm_G} {H : Heap} {h : mm_H} (hR : mm_R g H h) {o n : Nat} {f : Nat → Int32} (e : h.2 o = mE n f) : (o = 0 ∧ n = gvL g ∧ f = gvx g) ∨ (o = 1 ∧ n = 6 ∧ f = mm_let) := by
  obtain ⟨-, h2, e0, e1, hd, hP⟩ := hR
  rcases o with _ | _ | o
  · have z := e.symm.trans e0
    simp [mE] at z
    exact Or.inl ⟨rfl, z.1, z.2⟩
  · have z := e.symm.trans e1
    simp [mE] at z
    exact Or.inr ⟨rfl, z.1, z.2⟩
  · exfalso
    by_cases ho : o + 2 < h.1
    · have hw := mm_ws_get g h (by omega) ho
      rw [e] at hw
      obtain ⟨r, hr, -⟩ := hP _ _ hw
      cases hr
    · have z := (hd (o + 2) (by omega)).symm.trans e
      cases z
/-- a cell of the world is another one -/
theorem mm_R.put {g : mm_G} {H H1 : Heap} {h : mm_H} (hR : mm_R g H h) {o : Nat} {c : mm_C} (h2 : 2 ≤ o) (ho : o < h.1) (hz : h.1 < mm_full → H1.size = H.size) (hP : va_P (gvD g) mm_cls ((mm_ws g h).set (o - 2) (mm_ad g o, mm_en g c)) H1) : mm_R g H1 (h.1, mU h.2 o c) := by
  obtain ⟨hs, h2', e0, e1, hd, -⟩ := hR
  refine ⟨fun q => by rw [hz q]; exact hs q, h2', ?_, ?_, fun k hk => ?_, ?_⟩
  · show (if 0 = o then c else h.2 0) = _
    rw [if_neg (by omega)]; exact e0
  · show (if 1 = o then c else h.2 1) = _
    rw [if_neg (by omega)]; exact e1
  · show (if k = o then c else h.2 k) = _
    have hk' : h.1 ≤ k := hk
    rw [if_neg (by omega)]
    exact hd k hk'
  · rw [← mm_ws_set g h c h2 ho]
    exact hP
theorem mm_R.push {g : mm_G} {H H1 : Heap} {h : mm_H} (hR : mm_R g H h) {c : mm_C} (hf : h.1 < mm_full) (hz : H1.size = H.size + 1) (hk : ∀ q, q < H.size → H1[q]? = H[q]?) (hc : va_at (gvD g) mm_cls (mm_ad g h.1, mm_en g c) H1) : mm_R g H1 (h.1 + 1, mU h.2 h.1 c) := by
  obtain ⟨hs, h2, e0, e1, hd, hP⟩ := hR
  have hs := hs hf
  refine ⟨fun q => by rw [hz, hs]; show _ = gvz g + (h.1 + 1 - 2); omega, by show 2 ≤ h.1 + 1; omega, ?_, ?_, fun k hk => ?_, ?_⟩
  · show (if 0 = h.1 then c else h.2 0) = _
    rw [if_neg (by omega)]; exact e0
  · show (if 1 = h.1 then c else h.2 1) = _
    rw [if_neg (by omega)]; exact e1
  · show (if k = h.1 then c else h.2 k) = _
    have hk' : h.1 + 1 ≤ k := hk
    rw [if_neg (by omega)]
    exact hd k (by omega)
  · rw [← mm_ws_push g h c h2]
    refine va_P.app (hP.kept fun k q hq => hk q.1 (hP k q hq).lt) ?_
    intro k q hq
    have hk0 : k < 1 := (List.getElem?_eq_some_iff.mp hq).1
    have e : k = 0 := by omega
    subst e
    cases hq
    exact hc
theorem mm_ad_top {g : mm_G} {H : Heap} {h : mm_H} (hR : mm_R g H h) (hf : h.1 < mm_full) : mm_ad g h.1 = H.size := by
  obtain ⟨hs, h2, -⟩ := hR
  have hs := hs hf
  obtain ⟨n, hn⟩ : ∃ n, h.1 = n + 2 := ⟨h.1 - 2, by omega⟩
  rw [hs, hn]
  rfl
/-- locals: what the list has, the slots have -/
def mm_L (g : mm_G) (sl : Array Slot) (n : Nat) (ls : List Value) : Prop := sl.size = n ∧ ls.length = n ∧ lv_wf sl ∧ ∀ (i : Nat) (v : Value), ls[i]? = some v → mm_kd v = true → sl[i]? = some (Slot.val (mm_tr g v))
def mm_pl1 (g : mm_G) (ls : List Value) (i : Nat) : Option (Nat × Value) := match ls[i]? with | some v => (match mm_kd v with | true => some (i, mm_tr g v) | false => none) | none => none
def mm_pl (g : mm_G) (ls : List Value) : List (Nat × Value) := (List.range ls.length).filterMap (mm_pl1 g ls)
theorem mm_pl_in {g : mm_G} {ls : List Value} {i : Nat} {v : Value} (h : ls[i]? = some v) (hv : mm_kd v = true) : (i, mm_tr g v) ∈ mm_pl g ls := by
  refine List.mem_filterMap.mpr ⟨i, List.mem_range.mpr (List.getElem?_eq_some_iff.mp h).1, ?_⟩
  unfold mm_pl1
  rw [h]
  show (match mm_kd v with | true => some (i, mm_tr g v) | false => none) = _
  rw [hv]
theorem mm_L.has {g : mm_G} {sl : Array Slot} {n : Nat} {ls : List Value} (h : mm_L g sl n ls) : lv_has sl n (mm_pl g ls) := by
  refine ⟨h.1, h.2.2.1, fun q hq => ?_⟩
  obtain ⟨i, -, hi⟩ := List.mem_filterMap.mp hq
  unfold mm_pl1 at hi
  split at hi
  · rename_i v e
    split at hi
    · rename_i e2
      cases hi
      exact h.2.2.2 i _ e e2
    · cases hi
  · cases hi
theorem mm_tr_cat (g : mm_G) (v : Value) : (mm_tr g v).category = v.category := by cases v <;> rfl
theorem mm_cat_long {v : Value} (hv : mm_kd v = true) (h : ∀ x, v ≠ .long x) : v.category = 1 := by
  cases v <;> first | rfl | exact absurd rfl (h _) | cases hv
theorem mm_L.st {g : mm_G} {sl sl' : Array Slot} {n : Nat} {ls : List Value} (h : mm_L g sl n ls) {i : Nat} {v : Value} (hi : i < ls.length) (hn : ∀ j x, j + 1 = i → ls[j]? ≠ some (.long x)) (h' : lv_has sl' n ((i, mm_tr g v) :: (mm_pl g ls).filter (fun q => !(q.1 == i) && !(q.1 + 1 == i && q.2.category == 2)))) : mm_L g sl' n (ls.set i v) := by
  refine ⟨h'.1, by rw [List.length_set]; exact h.2.1, h'.2.1, fun j w hj hw => ?_⟩
  by_cases hji : j = i
  · subst hji
    rw [List.getElem?_set_self hi] at hj
    cases hj
    exact h'.2.2 (j, mm_tr g v) List.mem_cons_self
  · rw [List.getElem?_set_ne (Ne.symm hji)] at hj
    refine h'.2.2 (j, mm_tr g w) (List.mem_cons_of_mem _ (List.mem_filter.mpr ⟨mm_pl_in hj hw, ?_⟩))
    by_cases h1 : j + 1 = i
    · have hc : (mm_tr g w).category = 1 := by
        rw [mm_tr_cat]
        exact mm_cat_long hw (fun x e => hn j x h1 (by rw [hj, e]))
      simp [hji, hc]
    · simp [hji, h1]
theorem mm_L.st2 {g : mm_G} {sl sl' : Array Slot} {n : Nat} {ls : List Value} (h : mm_L g sl n ls) {i : Nat} {v : Value} (hi : i + 1 < ls.length) (hn : ∀ j x, j + 1 = i → ls[j]? ≠ some (.long x)) (h' : lv_has sl' n ((i, mm_tr g v) :: (mm_pl g ls).filter (fun q => !(q.1 == i) && (!(q.1 == i + 1) && !(q.1 + 1 == i && q.2.category == 2))))) : mm_L g sl' n ((ls.set i v).set (i + 1) .null) := by
  refine ⟨h'.1, by rw [List.length_set, List.length_set]; exact h.2.1, h'.2.1, fun j w hj hw => ?_⟩
  by_cases hj1 : j = i + 1
  · subst hj1
    rw [List.getElem?_set_self (by rw [List.length_set]; exact hi)] at hj
    cases hj
    cases hw
  · rw [List.getElem?_set_ne (Ne.symm hj1)] at hj
    by_cases hji : j = i
    · subst hji
      rw [List.getElem?_set_self (by omega)] at hj
      cases hj
      exact h'.2.2 (j, mm_tr g v) List.mem_cons_self
    · rw [List.getElem?_set_ne (Ne.symm hji)] at hj
      refine h'.2.2 (j, mm_tr g w) (List.mem_cons_of_mem _ (List.mem_filter.mpr ⟨mm_pl_in hj hw, ?_⟩))
      by_cases h1 : j + 1 = i
      · have hc : (mm_tr g w).category = 1 := by
          rw [mm_tr_cat]
          exact mm_cat_long hw (fun x e => hn j x h1 (by rw [hj, e]))
        simp [hji, hj1, hc]
      · simp [hji, hj1, h1]
/-- a method's first locals -/
theorem mm_ex_len (g : mm_G) : ∀ (args : List Value), mm_akd args = true → (lg_sl (args.map (mm_tr g))).length = (mm_ex args).length
  | [], _ => rfl
  | v :: l, h => by
    have ih := mm_ex_len g l
    cases v <;> simp [mm_akd, mm_kd] at h <;> simp [mm_ex, lg_sl, mm_tr, Value.category] at ih ⊢ <;> exact ih h
theorem mm_ex_in (g : mm_G) : ∀ (args : List Value) (off i : Nat) (v : Value), mm_akd args = true → (mm_ex args)[i]? = some v → mm_kd v = true → (off + i, mm_tr g v) ∈ lv_args off (args.map (mm_tr g))
  | [], off, i, v, _, h, _ => by simp [mm_ex] at h
  | .int x :: l, off, i, v, ha, h, hv => by
    have ih := mm_ex_in g l (off + 1)
    simp [mm_akd, mm_kd] at ha
    cases i with
    | zero =>
      simp [mm_ex] at h
      subst h
      exact List.mem_cons_self
    | succ i =>
      have := ih i v ha (by simpa [mm_ex] using h) hv
      refine List.mem_cons_of_mem _ ?_
      show _ ∈ lv_args (off + 1) _
      have e : off + (i + 1) = off + 1 + i := by omega
      rw [e]
      exact this
  | .ref x :: l, off, i, v, ha, h, hv => by
    have ih := mm_ex_in g l (off + 1)
    simp [mm_akd, mm_kd] at ha
    cases i with
    | zero =>
      simp [mm_ex] at h
      subst h
      exact List.mem_cons_self
    | succ i =>
      have := ih i v ha (by simpa [mm_ex] using h) hv
      refine List.mem_cons_of_mem _ ?_
      show _ ∈ lv_args (off + 1) _
      have e : off + (i + 1) = off + 1 + i := by omega
      rw [e]
      exact this
  | .long x :: l, off, i, v, ha, h, hv => by
    have ih := mm_ex_in g l (off + 2)
    simp [mm_akd, mm_kd] at ha
    rcases i with _ | _ | i
    · simp [mm_ex] at h
      subst h
      exact List.mem_cons_self
    · simp [mm_ex] at h
      subst h
      cases hv
    · have := ih i v ha (by simpa [mm_ex] using h) hv
      refine List.mem_cons_of_mem _ ?_
      show _ ∈ lv_args (off + 2) _
      have e : off + (i + 1 + 1) = off + 2 + i := by omega
      rw [e]
      exact this
  | .float _ :: _, _, _, _, ha, _, _ => by simp [mm_akd, mm_kd] at ha
  | .double _ :: _, _, _, _, ha, _, _ => by simp [mm_akd, mm_kd] at ha
  | .null :: _, _, _, _, ha, _, _ => by simp [mm_akd, mm_kd] at ha
  | .retAddr _ :: _, _, _, _, ha, _, _ => by simp [mm_akd, mm_kd] at ha
theorem mm_L.entry (g : mm_G) {args : List Value} {n : Nat} (ha : mm_akd args = true) (hn : (mm_ex args).length ≤ n) : mm_L g ((lg_sl (args.map (mm_tr g)) ++ List.replicate (n - (lg_sl (args.map (mm_tr g))).length) Slot.unset).toArray) n (mm_ent n args) := by
  have hl := mm_ex_len g args ha
  have h := lv_entry (args.map (mm_tr g)) (n := n) (by rw [hl]; exact hn)
  refine ⟨h.1, ?_, h.2.1, fun i v hi hv => ?_⟩
  · simp [mm_ent]
    omega
  · refine h.2.2 (i, mm_tr g v) ?_
    unfold mm_ent at hi
    by_cases hlt : i < (mm_ex args).length
    · rw [List.getElem?_append_left hlt] at hi
      have := mm_ex_in g args 0 i v ha hi hv
      rwa [Nat.zero_add] at this
    · rw [List.getElem?_append_right (by omega)] at hi
      have e := List.mem_of_getElem? hi
      rw [List.mem_replicate] at e
      rw [e.2] at hv
      cases hv
