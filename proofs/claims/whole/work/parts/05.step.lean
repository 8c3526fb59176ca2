/-! reading forms: each with its inversion and its monotony -/
def mm_get {α : Type} : List α → Nat → Option α
  | [], _ => none
  | a :: _, 0 => some a
  | _ :: l, k + 1 => mm_get l k
theorem mm_get_eq {α : Type} : ∀ (l : List α) (k : Nat), mm_get l k = l[k]?
  | [], k => by simp [mm_get]
  | a :: l, 0 => by simp [mm_get]
  | a :: l, k + 1 => by simp [mm_get, mm_get_eq l k]
theorem mm_ld_inv : ∀ {l : List Value} {k : Nat} {K : Value → Prop}, mm_ld l k K → ∃ v, l[k]? = some v ∧ K v
  | [], _, _, h => h.elim
  | v :: _, 0, _, h => ⟨v, rfl, h⟩
  | _ :: l, k + 1, _, h => by
    obtain ⟨v, h1, h2⟩ := mm_ld_inv (l := l) (k := k) h
    exact ⟨v, by simpa using h1, h2⟩
theorem mm_ld_of : ∀ {l : List Value} {k : Nat} {v : Value} {K : Value → Prop}, l[k]? = some v → K v → mm_ld l k K
  | [], _, _, _, h, _ => by simp at h
  | a :: _, 0, v, K, h, hk => by
    have e : a = v := by simpa using h
    subst e
    exact hk
  | _ :: l, k + 1, v, _, h, hk => mm_ld_of (l := l) (k := k) (v := v) (by simpa using h) hk
theorem mm_set_inv : ∀ {l : List Value} {k : Nat} {v : Value} {K : List Value → Prop}, mm_set l k v K → k < l.length ∧ K (l.set k v)
  | [], _, _, _, h => h.elim
  | _ :: l, 0, _, _, h => ⟨by simp, h⟩
  | a :: l, k + 1, v, K, h => by
    obtain ⟨h1, h2⟩ := mm_set_inv (l := l) (k := k) (v := v) (K := fun l' => K (a :: l')) h
    exact ⟨by simpa using h1, by simpa using h2⟩
theorem mm_set_of : ∀ {l : List Value} {k : Nat} {v : Value} {K : List Value → Prop}, k < l.length → K (l.set k v) → mm_set l k v K
  | [], _, _, _, h, _ => by simp at h
  | _ :: l, 0, _, _, _, h => h
  | a :: l, k + 1, v, K, h, hk => mm_set_of (l := l) (k := k) (v := v) (K := fun l' => K (a :: l')) (by simpa using h) (by simpa using hk)
theorem mm_st_inv : ∀ {l : List Value} {k : Nat} {v : Value} {K : List Value → Prop}, mm_st l k v K → k < l.length ∧ K (l.set k v) ∧ ∀ j x, j + 1 = k → l[j]? ≠ some (.long x)
  | [], _, _, _, h => h.elim
  | _ :: l, 0, _, _, h => ⟨by simp, h, fun j x e => by omega⟩
  | a :: l, 1, v, K, h => by
    cases a <;> first
      | exact h.elim
      | (obtain ⟨h1, h2, h3⟩ := mm_st_inv (l := l) (k := 0) (v := v) h
         refine ⟨by simpa using h1, by simpa using h2, fun j x e => ?_⟩
         have hj : j = 0 := by omega
         subst hj
         simp)
  | a :: l, k + 2, v, K, h => by
    have h' : mm_st l (k + 1) v (fun l' => K (a :: l')) := by
      cases a <;> exact h
    obtain ⟨h1, h2, h3⟩ := mm_st_inv (l := l) (k := k + 1) (v := v) h'
    refine ⟨by simp; omega, by simpa using h2, fun j x e => ?_⟩
    cases j with
    | zero => omega
    | succ j => simpa using h3 j x (by omega)
theorem mm_st_of : ∀ {l : List Value} {k : Nat} {v : Value} {K : List Value → Prop}, k < l.length → K (l.set k v) → (∀ j x, j + 1 = k → l[j]? ≠ some (.long x)) → mm_st l k v K
  | [], _, _, _, h, _, _ => by simp at h
  | _ :: l, 0, _, _, _, h, _ => h
  | a :: l, 1, v, K, h, hk, hn => by
    have hr : mm_st l 0 v (fun l' => K (a :: l')) := mm_st_of (by simpa using h) (by simpa using hk) (fun j x e => by omega)
    cases a <;> first
      | exact hr
      | exact absurd rfl (hn 0 _ rfl)
  | a :: l, k + 2, v, K, h, hk, hn => by
    have hr : mm_st l (k + 1) v (fun l' => K (a :: l')) := mm_st_of (by simp at h; omega) (by simpa using hk) (fun j x e => by simpa using hn (j + 1) x (by omega))
    cases a <;> exact hr
theorem mm_st2_inv : ∀ {l : List Value} {k : Nat} {v : Value} {K : List Value → Prop}, mm_st2 l k v K → k + 1 < l.length ∧ K ((l.set k v).set (k + 1) .null) ∧ ∀ j x, j + 1 = k → l[j]? ≠ some (.long x)
  | [], _, _, _, h => h.elim
  | [_], k, _, _, h => by cases k <;> exact h.elim
  | _ :: _ :: l, 0, _, _, h => ⟨by simp, h, fun j x e => by omega⟩
  | a :: b :: l, 1, v, K, h => by
    cases a <;> first
      | exact h.elim
      | (obtain ⟨h1, h2, h3⟩ := mm_st2_inv (l := b :: l) (k := 0) (v := v) h
         refine ⟨by simpa using h1, by simpa using h2, fun j x e => ?_⟩
         have hj : j = 0 := by omega
         subst hj
         simp)
  | a :: b :: l, k + 2, v, K, h => by
    have h' : mm_st2 (b :: l) (k + 1) v (fun l' => K (a :: l')) := by
      cases a <;> exact h
    obtain ⟨h1, h2, h3⟩ := mm_st2_inv (l := b :: l) (k := k + 1) (v := v) h'
    refine ⟨by simp at h1 ⊢; omega, by simpa using h2, fun j x e => ?_⟩
    cases j with
    | zero => omega
    | succ j => simpa using h3 j x (by omega)
theorem mm_st2_of : ∀ {l : List Value} {k : Nat} {v : Value} {K : List Value → Prop}, k + 1 < l.length → K ((l.set k v).set (k + 1) .null) → (∀ j x, j + 1 = k → l[j]? ≠ some (.long x)) → mm_st2 l k v K
  | [], _, _, _, h, _, _ => by simp at h
  | [_], k, _, _, h, _, _ => by simp at h
  | _ :: _ :: l, 0, _, _, _, h, _ => h
  | a :: b :: l, 1, v, K, h, hk, hn => by
    have hr : mm_st2 (b :: l) 0 v (fun l' => K (a :: l')) := mm_st2_of (by simpa using h) (by simpa using hk) (fun j x e => by omega)
    cases a <;> first
      | exact hr
      | exact absurd rfl (hn 0 _ rfl)
  | a :: b :: l, k + 2, v, K, h, hk, hn => by
    have hr : mm_st2 (b :: l) (k + 1) v (fun l' => K (a :: l')) := mm_st2_of (by simp at h ⊢; omega) (by simpa using hk) (fun j x e => by simpa using hn (j + 1) x (by omega))
    cases a <;> exact hr
theorem mm_pop_inv : ∀ {n : Nat} {st acc : List Value} {K : List Value → List Value → Prop}, mm_pop n st acc K → ∃ as rest, as.length = n ∧ st = as.reverse ++ rest ∧ K (as ++ acc) rest
  | 0, st, acc, _, h => ⟨[], st, rfl, rfl, h⟩
  | _ + 1, [], _, _, h => h.elim
  | n + 1, v :: st, acc, K, h => by
    obtain ⟨as, rest, h1, h2, h3⟩ := mm_pop_inv (n := n) (st := st) (acc := v :: acc) h
    exact ⟨as ++ [v], rest, by simp [h1], by simp [h2], by simpa using h3⟩
theorem mm_pop_of : ∀ {n : Nat} {as acc rest : List Value} {K : List Value → List Value → Prop}, as.length = n → K (as ++ acc) rest → mm_pop n (as.reverse ++ rest) acc K
  | 0, as, acc, rest, K, h, hk => by
    have e : as = [] := List.length_eq_zero_iff.mp h
    subst e
    exact hk
  | n + 1, as, acc, rest, K, h, hk => by
    rcases List.eq_nil_or_concat as with e | ⟨bs, v, e⟩
    · subst e
      simp at h
    · subst e
      have hr := mm_pop_of (n := n) (as := bs) (acc := v :: acc) (rest := rest) (K := K) (by simpa using h) (by simpa using hk)
      simpa [mm_pop] using hr
theorem mm_pop_mono {n : Nat} {st acc : List Value} {K K' : List Value → List Value → Prop} (hK : ∀ a b, K a b → K' a b) (h : mm_pop n st acc K) : mm_pop n st acc K' := by
  obtain ⟨as, rest, h1, h2, h3⟩ := mm_pop_inv h
  subst h2
  exact mm_pop_of h1 (hK _ _ h3)

def mm_ldI (l : List Value) (k : Nat) (K : Int32 → Prop) : Prop := mm_ld l k (fun v => match v with | .int x => K x | _ => False)
theorem mm_ldI_inv {l : List Value} {k : Nat} {K : Int32 → Prop} (h : mm_ldI l k K) : ∃ x, l[k]? = some (.int x) ∧ K x := by
  obtain ⟨v, h1, h2⟩ := mm_ld_inv h
  cases v <;> first | exact h2.elim | exact ⟨_, h1, h2⟩
theorem mm_ldI_of {l : List Value} {k : Nat} {x : Int32} {K : Int32 → Prop} (h : l[k]? = some (.int x)) (hk : K x) : mm_ldI l k K := mm_ld_of (v := .int x) h hk
theorem mm_ldI_mono {l : List Value} {k : Nat} {K K' : Int32 → Prop} (hK : ∀ x, K x → K' x) (h : mm_ldI l k K) : mm_ldI l k K' := by
  obtain ⟨x, h1, h2⟩ := mm_ldI_inv h
  exact mm_ldI_of h1 (hK x h2)
def mm_ldL (l : List Value) (k : Nat) (K : Int64 → Prop) : Prop := mm_ld l k (fun v => match v with | .long x => K x | _ => False)
theorem mm_ldL_inv {l : List Value} {k : Nat} {K : Int64 → Prop} (h : mm_ldL l k K) : ∃ x, l[k]? = some (.long x) ∧ K x := by
  obtain ⟨v, h1, h2⟩ := mm_ld_inv h
  cases v <;> first | exact h2.elim | exact ⟨_, h1, h2⟩
theorem mm_ldL_of {l : List Value} {k : Nat} {x : Int64} {K : Int64 → Prop} (h : l[k]? = some (.long x)) (hk : K x) : mm_ldL l k K := mm_ld_of (v := .long x) h hk
theorem mm_ldL_mono {l : List Value} {k : Nat} {K K' : Int64 → Prop} (hK : ∀ x, K x → K' x) (h : mm_ldL l k K) : mm_ldL l k K' := by
  obtain ⟨x, h1, h2⟩ := mm_ldL_inv h
  exact mm_ldL_of h1 (hK x h2)
def mm_ldR (l : List Value) (k : Nat) (K : Nat → Prop) : Prop := mm_ld l k (fun v => match v with | .ref x => K x | _ => False)
theorem mm_ldR_inv {l : List Value} {k : Nat} {K : Nat → Prop} (h : mm_ldR l k K) : ∃ x, l[k]? = some (.ref x) ∧ K x := by
  obtain ⟨v, h1, h2⟩ := mm_ld_inv h
  cases v <;> first | exact h2.elim | exact ⟨_, h1, h2⟩
theorem mm_ldR_of {l : List Value} {k : Nat} {x : Nat} {K : Nat → Prop} (h : l[k]? = some (.ref x)) (hk : K x) : mm_ldR l k K := mm_ld_of (v := .ref x) h hk
theorem mm_ldR_mono {l : List Value} {k : Nat} {K K' : Nat → Prop} (hK : ∀ x, K x → K' x) (h : mm_ldR l k K) : mm_ldR l k K' := by
  obtain ⟨x, h1, h2⟩ := mm_ldR_inv h
  exact mm_ldR_of h1 (hK x h2)
def mm_i1 (st : List Value) (K : Int32 → List Value → Prop) : Prop := match st with | .int x0 :: r => K x0 r | _ => False
theorem mm_i1_inv {st : List Value} {K : Int32 → List Value → Prop} (h : mm_i1 st K) : ∃ x0 r, st = .int x0 :: r ∧ K x0 r := by
  unfold mm_i1 at h
  split at h
  · exact ⟨_, _, rfl, h⟩
  · exact h.elim
theorem mm_i1_mono {st : List Value} {K K' : Int32 → List Value → Prop} (hK : ∀ x0 r, K x0 r → K' x0 r) (h : mm_i1 st K) : mm_i1 st K' := by
  obtain ⟨x0, r, e, h⟩ := mm_i1_inv h
  subst e
  exact hK _ _ h
def mm_i2 (st : List Value) (K : Int32 → Int32 → List Value → Prop) : Prop := match st with | .int x0 :: .int x1 :: r => K x0 x1 r | _ => False
theorem mm_i2_inv {st : List Value} {K : Int32 → Int32 → List Value → Prop} (h : mm_i2 st K) : ∃ x0 x1 r, st = .int x0 :: .int x1 :: r ∧ K x0 x1 r := by
  unfold mm_i2 at h
  split at h
  · exact ⟨_, _, _, rfl, h⟩
  · exact h.elim
theorem mm_i2_mono {st : List Value} {K K' : Int32 → Int32 → List Value → Prop} (hK : ∀ x0 x1 r, K x0 x1 r → K' x0 x1 r) (h : mm_i2 st K) : mm_i2 st K' := by
  obtain ⟨x0, x1, r, e, h⟩ := mm_i2_inv h
  subst e
  exact hK _ _ _ h
def mm_i3 (st : List Value) (K : Int32 → Int32 → Int32 → List Value → Prop) : Prop := match st with | .int x0 :: .int x1 :: .int x2 :: r => K x0 x1 x2 r | _ => False
theorem mm_i3_inv {st : List Value} {K : Int32 → Int32 → Int32 → List Value → Prop} (h : mm_i3 st K) : ∃ x0 x1 x2 r, st = .int x0 :: .int x1 :: .int x2 :: r ∧ K x0 x1 x2 r := by
  unfold mm_i3 at h
  split at h
  · exact ⟨_, _, _, _, rfl, h⟩
  · exact h.elim
theorem mm_i3_mono {st : List Value} {K K' : Int32 → Int32 → Int32 → List Value → Prop} (hK : ∀ x0 x1 x2 r, K x0 x1 x2 r → K' x0 x1 x2 r) (h : mm_i3 st K) : mm_i3 st K' := by
  obtain ⟨x0, x1, x2, r, e, h⟩ := mm_i3_inv h
  subst e
  exact hK _ _ _ _ h
def mm_l1 (st : List Value) (K : Int64 → List Value → Prop) : Prop := match st with | .long x0 :: r => K x0 r | _ => False
theorem mm_l1_inv {st : List Value} {K : Int64 → List Value → Prop} (h : mm_l1 st K) : ∃ x0 r, st = .long x0 :: r ∧ K x0 r := by
  unfold mm_l1 at h
  split at h
  · exact ⟨_, _, rfl, h⟩
  · exact h.elim
theorem mm_l1_mono {st : List Value} {K K' : Int64 → List Value → Prop} (hK : ∀ x0 r, K x0 r → K' x0 r) (h : mm_l1 st K) : mm_l1 st K' := by
  obtain ⟨x0, r, e, h⟩ := mm_l1_inv h
  subst e
  exact hK _ _ h
def mm_l2 (st : List Value) (K : Int64 → Int64 → List Value → Prop) : Prop := match st with | .long x0 :: .long x1 :: r => K x0 x1 r | _ => False
theorem mm_l2_inv {st : List Value} {K : Int64 → Int64 → List Value → Prop} (h : mm_l2 st K) : ∃ x0 x1 r, st = .long x0 :: .long x1 :: r ∧ K x0 x1 r := by
  unfold mm_l2 at h
  split at h
  · exact ⟨_, _, _, rfl, h⟩
  · exact h.elim
theorem mm_l2_mono {st : List Value} {K K' : Int64 → Int64 → List Value → Prop} (hK : ∀ x0 x1 r, K x0 x1 r → K' x0 x1 r) (h : mm_l2 st K) : mm_l2 st K' := by
  obtain ⟨x0, x1, r, e, h⟩ := mm_l2_inv h
  subst e
  exact hK _ _ _ h
def mm_r1 (st : List Value) (K : Nat → List Value → Prop) : Prop := match st with | .ref x0 :: r => K x0 r | _ => False
theorem mm_r1_inv {st : List Value} {K : Nat → List Value → Prop} (h : mm_r1 st K) : ∃ x0 r, st = .ref x0 :: r ∧ K x0 r := by
  unfold mm_r1 at h
  split at h
  · exact ⟨_, _, rfl, h⟩
  · exact h.elim
theorem mm_r1_mono {st : List Value} {K K' : Nat → List Value → Prop} (hK : ∀ x0 r, K x0 r → K' x0 r) (h : mm_r1 st K) : mm_r1 st K' := by
  obtain ⟨x0, r, e, h⟩ := mm_r1_inv h
  subst e
  exact hK _ _ h
def mm_ir (st : List Value) (K : Int32 → Nat → List Value → Prop) : Prop := match st with | .int x0 :: .ref x1 :: r => K x0 x1 r | _ => False
theorem mm_ir_inv {st : List Value} {K : Int32 → Nat → List Value → Prop} (h : mm_ir st K) : ∃ x0 x1 r, st = .int x0 :: .ref x1 :: r ∧ K x0 x1 r := by
  unfold mm_ir at h
  split at h
  · exact ⟨_, _, _, rfl, h⟩
  · exact h.elim
theorem mm_ir_mono {st : List Value} {K K' : Int32 → Nat → List Value → Prop} (hK : ∀ x0 x1 r, K x0 x1 r → K' x0 x1 r) (h : mm_ir st K) : mm_ir st K' := by
  obtain ⟨x0, x1, r, e, h⟩ := mm_ir_inv h
  subst e
  exact hK _ _ _ h
def mm_iir (st : List Value) (K : Int32 → Int32 → Nat → List Value → Prop) : Prop := match st with | .int x0 :: .int x1 :: .ref x2 :: r => K x0 x1 x2 r | _ => False
theorem mm_iir_inv {st : List Value} {K : Int32 → Int32 → Nat → List Value → Prop} (h : mm_iir st K) : ∃ x0 x1 x2 r, st = .int x0 :: .int x1 :: .ref x2 :: r ∧ K x0 x1 x2 r := by
  unfold mm_iir at h
  split at h
  · exact ⟨_, _, _, _, rfl, h⟩
  · exact h.elim
theorem mm_iir_mono {st : List Value} {K K' : Int32 → Int32 → Nat → List Value → Prop} (hK : ∀ x0 x1 x2 r, K x0 x1 x2 r → K' x0 x1 x2 r) (h : mm_iir st K) : mm_iir st K' := by
  obtain ⟨x0, x1, x2, r, e, h⟩ := mm_iir_inv h
  subst e
  exact hK _ _ _ _ h
def mm_rir (st : List Value) (K : Nat → Int32 → Nat → List Value → Prop) : Prop := match st with | .ref x0 :: .int x1 :: .ref x2 :: r => K x0 x1 x2 r | _ => False
theorem mm_rir_inv {st : List Value} {K : Nat → Int32 → Nat → List Value → Prop} (h : mm_rir st K) : ∃ x0 x1 x2 r, st = .ref x0 :: .int x1 :: .ref x2 :: r ∧ K x0 x1 x2 r := by
  unfold mm_rir at h
  split at h
  · exact ⟨_, _, _, _, rfl, h⟩
  · exact h.elim
theorem mm_rir_mono {st : List Value} {K K' : Nat → Int32 → Nat → List Value → Prop} (hK : ∀ x0 x1 x2 r, K x0 x1 x2 r → K' x0 x1 x2 r) (h : mm_rir st K) : mm_rir st K' := by
  obtain ⟨x0, x1, x2, r, e, h⟩ := mm_rir_inv h
  subst e
  exact hK _ _ _ _ h
def mm_v1 (st : List Value) (K : Value → List Value → Prop) : Prop := match st with | x0 :: r => K x0 r | _ => False
theorem mm_v1_inv {st : List Value} {K : Value → List Value → Prop} (h : mm_v1 st K) : ∃ x0 r, st = x0 :: r ∧ K x0 r := by
  unfold mm_v1 at h
  split at h
  · exact ⟨_, _, rfl, h⟩
  · exact h.elim
theorem mm_v1_mono {st : List Value} {K K' : Value → List Value → Prop} (hK : ∀ x0 r, K x0 r → K' x0 r) (h : mm_v1 st K) : mm_v1 st K' := by
  obtain ⟨x0, r, e, h⟩ := mm_v1_inv h
  subst e
  exact hK _ _ h
def mm_v2 (st : List Value) (K : Value → Value → List Value → Prop) : Prop := match st with | x0 :: x1 :: r => K x0 x1 r | _ => False
theorem mm_v2_inv {st : List Value} {K : Value → Value → List Value → Prop} (h : mm_v2 st K) : ∃ x0 x1 r, st = x0 :: x1 :: r ∧ K x0 x1 r := by
  unfold mm_v2 at h
  split at h
  · exact ⟨_, _, _, rfl, h⟩
  · exact h.elim
theorem mm_v2_mono {st : List Value} {K K' : Value → Value → List Value → Prop} (hK : ∀ x0 x1 r, K x0 x1 r → K' x0 x1 r) (h : mm_v2 st K) : mm_v2 st K' := by
  obtain ⟨x0, x1, r, e, h⟩ := mm_v2_inv h
  subst e
  exact hK _ _ _ h
def mm_vr (st : List Value) (K : Value → Nat → List Value → Prop) : Prop := match st with | x0 :: .ref x1 :: r => K x0 x1 r | _ => False
theorem mm_vr_inv {st : List Value} {K : Value → Nat → List Value → Prop} (h : mm_vr st K) : ∃ x0 x1 r, st = x0 :: .ref x1 :: r ∧ K x0 x1 r := by
  unfold mm_vr at h
  split at h
  · exact ⟨_, _, _, rfl, h⟩
  · exact h.elim
theorem mm_vr_mono {st : List Value} {K K' : Value → Nat → List Value → Prop} (hK : ∀ x0 x1 r, K x0 x1 r → K' x0 x1 r) (h : mm_vr st K) : mm_vr st K' := by
  obtain ⟨x0, x1, r, e, h⟩ := mm_vr_inv h
  subst e
  exact hK _ _ _ h
def mm_iirir (st : List Value) (K : Int32 → Int32 → Nat → Int32 → Nat → List Value → Prop) : Prop := match st with | .int x0 :: .int x1 :: .ref x2 :: .int x3 :: .ref x4 :: r => K x0 x1 x2 x3 x4 r | _ => False
theorem mm_iirir_inv {st : List Value} {K : Int32 → Int32 → Nat → Int32 → Nat → List Value → Prop} (h : mm_iirir st K) : ∃ x0 x1 x2 x3 x4 r, st = .int x0 :: .int x1 :: .ref x2 :: .int x3 :: .ref x4 :: r ∧ K x0 x1 x2 x3 x4 r := by
  unfold mm_iirir at h
  split at h
  · exact ⟨_, _, _, _, _, _, rfl, h⟩
  · exact h.elim
theorem mm_iirir_mono {st : List Value} {K K' : Int32 → Int32 → Nat → Int32 → Nat → List Value → Prop} (hK : ∀ x0 x1 x2 x3 x4 r, K x0 x1 x2 x3 x4 r → K' x0 x1 x2 x3 x4 r) (h : mm_iirir st K) : mm_iirir st K' := by
  obtain ⟨x0, x1, x2, x3, x4, r, e, h⟩ := mm_iirir_inv h
  subst e
  exact hK _ _ _ _ _ _ h
def mm_obj (h : Nat → mm_C) (o ci : Nat) (K : List Value → Prop) : Prop := match h o with | .inl (c, fs) => (match Nat.beq c ci with | true => K fs | false => False) | _ => False
theorem mm_obj_inv {h : Nat → mm_C} {o ci : Nat} {K : List Value → Prop} (q : mm_obj h o ci K) : ∃ fs, h o = mO ci fs ∧ K fs := by
  unfold mm_obj at q
  split at q
  · rename_i c fs e
    split at q
    · rename_i e2
      have e3 : c = ci := Nat.eq_of_beq_eq_true e2
      subst e3
      exact ⟨fs, e, q⟩
    · exact q.elim
  · exact q.elim
theorem mm_obj_of {h : Nat → mm_C} {o ci : Nat} {fs : List Value} {K : List Value → Prop} (e : h o = mO ci fs) (q : K fs) : mm_obj h o ci K := by
  unfold mm_obj
  rw [e]
  show (match Nat.beq ci ci with | true => K fs | false => False)
  rw [Nat.beq_refl]
  exact q
theorem mm_obj_mono {h : Nat → mm_C} {o ci : Nat} {K K' : List Value → Prop} (hK : ∀ x, K x → K' x) (q : mm_obj h o ci K) : mm_obj h o ci K' := by
  obtain ⟨fs, e, q⟩ := mm_obj_inv q
  exact mm_obj_of e (hK _ q)
def mm_arr (h : Nat → mm_C) (o : Nat) (K : Nat → (Nat → Int32) → Prop) : Prop := match h o with | .inr (.inl (n, f)) => K n f | .inr (.inr (.inr (n, f))) => K n f | _ => False
theorem mm_arr_inv {h : Nat → mm_C} {o : Nat} {K : Nat → (Nat → Int32) → Prop} (q : mm_arr h o K) : ∃ n f, (h o = mI n f ∨ h o = mE n f) ∧ K n f := by
  unfold mm_arr at q
  split at q
  · rename_i n f e
    exact ⟨n, f, Or.inl e, q⟩
  · rename_i n f e
    exact ⟨n, f, Or.inr e, q⟩
  · exact q.elim
theorem mm_arr_of {h : Nat → mm_C} {o n : Nat} {f : Nat → Int32} {K : Nat → (Nat → Int32) → Prop} (e : h o = mI n f ∨ h o = mE n f) (q : K n f) : mm_arr h o K := by
  unfold mm_arr
  rcases e with e | e <;> rw [e] <;> exact q
theorem mm_arr_mono {h : Nat → mm_C} {o : Nat} {K K' : Nat → (Nat → Int32) → Prop} (hK : ∀ n f, K n f → K' n f) (q : mm_arr h o K) : mm_arr h o K' := by
  obtain ⟨n, f, e, q⟩ := mm_arr_inv q
  exact mm_arr_of e (hK _ _ q)
def mm_arw (h : Nat → mm_C) (o : Nat) (K : Nat → (Nat → Int32) → Prop) : Prop := match h o with | .inr (.inl (n, f)) => K n f | _ => False
theorem mm_arw_inv {h : Nat → mm_C} {o : Nat} {K : Nat → (Nat → Int32) → Prop} (q : mm_arw h o K) : ∃ n f, h o = mI n f ∧ K n f := by
  unfold mm_arw at q
  split at q
  · rename_i n f e
    exact ⟨n, f, e, q⟩
  · exact q.elim
theorem mm_arw_of {h : Nat → mm_C} {o n : Nat} {f : Nat → Int32} {K : Nat → (Nat → Int32) → Prop} (e : h o = mI n f) (q : K n f) : mm_arw h o K := by
  unfold mm_arw
  rw [e]
  exact q
theorem mm_arw_mono {h : Nat → mm_C} {o : Nat} {K K' : Nat → (Nat → Int32) → Prop} (hK : ∀ n f, K n f → K' n f) (q : mm_arw h o K) : mm_arw h o K' := by
  obtain ⟨n, f, e, q⟩ := mm_arw_inv q
  exact mm_arw_of e (hK _ _ q)
def mm_rar (h : Nat → mm_C) (o : Nat) (K : Nat → Nat → (Nat → Option Nat) → Prop) : Prop := match h o with | .inr (.inr (.inl (c, n, f))) => K c n f | _ => False
theorem mm_rar_inv {h : Nat → mm_C} {o : Nat} {K : Nat → Nat → (Nat → Option Nat) → Prop} (q : mm_rar h o K) : ∃ c n f, h o = mR c n f ∧ K c n f := by
  unfold mm_rar at q
  split at q
  · rename_i c n f e
    exact ⟨c, n, f, e, q⟩
  · exact q.elim
theorem mm_rar_of {h : Nat → mm_C} {o c n : Nat} {f : Nat → Option Nat} {K : Nat → Nat → (Nat → Option Nat) → Prop} (e : h o = mR c n f) (q : K c n f) : mm_rar h o K := by
  unfold mm_rar
  rw [e]
  exact q
theorem mm_rar_mono {h : Nat → mm_C} {o : Nat} {K K' : Nat → Nat → (Nat → Option Nat) → Prop} (hK : ∀ c n f, K c n f → K' c n f) (q : mm_rar h o K) : mm_rar h o K' := by
  obtain ⟨c, n, f, e, q⟩ := mm_rar_inv q
  exact mm_rar_of e (hK _ _ _ q)
def mm_alen (h : Nat → mm_C) (o : Nat) (K : Nat → Prop) : Prop := match h o with | .inr (.inl (n, _)) => K n | .inr (.inr (.inr (n, _))) => K n | .inr (.inr (.inl (_, n, _))) => K n | .inl _ => False
theorem mm_alen_mono {h : Nat → mm_C} {o : Nat} {K K' : Nat → Prop} (hK : ∀ n, K n → K' n) (q : mm_alen h o K) : mm_alen h o K' := by
  unfold mm_alen at q ⊢
  split at q <;> first | exact hK _ q | exact q.elim
def mm_sw (x : Int32) (K : Nat → Prop) (b : Nat) : List (Int32 × Nat) → Prop
  | [] => K b
  | (v, t) :: l => (x = v → K t) ∧ (¬ x = v → mm_sw x K b l)
theorem mm_sw_mono {x : Int32} {K K' : Nat → Prop} {b : Nat} (hK : ∀ t, K t → K' t) : ∀ {l : List (Int32 × Nat)}, mm_sw x K b l → mm_sw x K' b l
  | [], h => hK _ h
  | (_, _) :: _, h => ⟨fun e => hK _ (h.1 e), fun e => mm_sw_mono hK (h.2 e)⟩
def mm_b1 (b : Bool) (P : Prop) : Prop := match b with | true => P | false => False
theorem mm_b1_inv {b : Bool} {P : Prop} (h : mm_b1 b P) : b = true ∧ P := by cases b <;> first | exact h.elim | exact ⟨rfl, h⟩
theorem mm_b1_mono {b : Bool} {P P' : Prop} (hK : P → P') (h : mm_b1 b P) : mm_b1 b P' := by cases b <;> first | exact h.elim | exact hK h
def mm_bb (b : Bool) (P P' : Prop) : Prop := match b with | true => P | false => P'
theorem mm_bb_mono {b : Bool} {P P' R R' : Prop} (h1 : P → R) (h2 : P' → R') (h : mm_bb b P P') : mm_bb b R R' := by cases b <;> first | exact h2 h | exact h1 h
def mm_dd (d : Nat) (K : Nat → Prop) : Prop := match d with | 0 => False | k + 1 => K k
theorem mm_dd_inv {d : Nat} {K : Nat → Prop} (h : mm_dd d K) : ∃ k, d = k + 1 ∧ K k := by cases d <;> first | exact h.elim | exact ⟨_, rfl, h⟩
theorem mm_dd_mono {d : Nat} {K K' : Nat → Prop} (hK : ∀ k, K k → K' k) (h : mm_dd d K) : mm_dd d K' := by cases d <;> first | exact h.elim | exact hK _ h
/-- few things lie below a call's arguments -/
def mm_csum : List Value → Nat
  | [] => 0
  | v :: l => v.category + mm_csum l
theorem mm_csum_le : ∀ r : List Value, mm_csum r ≤ 2 * r.length
  | [] => Nat.le_refl 0
  | v :: l => by
    have h1 : v.category ≤ 2 := by cases v <;> simp [Value.category]
    have h2 := mm_csum_le l
    show v.category + mm_csum l ≤ 2 * (l.length + 1)
    omega
def mm_few (r : List Value) (P : Prop) : Prop := match r.drop 4 with | [] => P | _ :: _ => mm_b1 (Nat.ble (mm_csum r) 8) P
theorem mm_few_inv {r : List Value} {P : Prop} (h : mm_few r P) : mm_csum r ≤ 8 ∧ P := by
  unfold mm_few at h
  split at h
  · rename_i e
    have h1 : r.length ≤ 4 := by simpa using e
    have h2 := mm_csum_le r
    exact ⟨by omega, h⟩
  · obtain ⟨a, b⟩ := mm_b1_inv h
    exact ⟨Nat.le_of_ble_eq_true a, b⟩
theorem mm_few_mono {r : List Value} {P P' : Prop} (hK : P → P') (h : mm_few r P) : mm_few r P' := by
  revert h
  unfold mm_few
  cases r.drop 4 with
  | nil => exact hK
  | cons a l => exact mm_b1_mono hK
def mm_at (μ ip : Nat) : Option mm_N := match mm_get (mm_code μ) (ip / 32) with | some l => mm_get l (ip % 32) | none => none
def mm_call (E : mm_X) (d μ : Nat) (args : List Value) (h : mm_H) (K : mm_K) : Prop := E d μ 0 (mm_al μ) (mm_ent (mm_ml μ) args) [] h K
def mm_tk (al : Nat × Nat) (c s : Nat) (K : Nat × Nat → Prop) : Prop := match c, s with | 0, 0 => K al | c, s => c ≤ al.1 ∧ s ≤ al.2 ∧ K (al.1 - c, al.2 - s)
theorem mm_tk_inv {al : Nat × Nat} {c s : Nat} {K : Nat × Nat → Prop} (h : mm_tk al c s K) : c ≤ al.1 ∧ s ≤ al.2 ∧ K (al.1 - c, al.2 - s) := by
  cases c <;> cases s <;> first | exact h | exact ⟨Nat.zero_le _, Nat.zero_le _, h⟩
theorem mm_tk_mono {al : Nat × Nat} {c s : Nat} {K K' : Nat × Nat → Prop} (hK : ∀ a, K a → K' a) (h : mm_tk al c s K) : mm_tk al c s K' := by
  cases c <;> cases s <;> first | exact ⟨h.1, h.2.1, hK _ h.2.2⟩ | exact hK _ h
def mm_ret (rest : List Value) (K : List Value → mm_H → Prop) : mm_K := fun rv h' => match rv with | some v => K (v :: rest) h' | none => K rest h'
def mm_inv (X E : mm_X) (d μ nx : Nat) (al : Nat × Nat) (ls : List Value) (h : mm_H) (Q : mm_K) (μ' : Nat) (args rest : List Value) : Prop :=
  mm_few rest (mm_b1 (mm_akd args && Nat.ble (mm_ex args).length (mm_ml μ')) (mm_tk al (mm_al μ').1 (mm_al μ').2 (fun al' => mm_dd d (fun d' => mm_call E d' μ' args h (mm_ret rest (fun st h' => X d μ nx al' ls st h' Q))))))
def mm_cpc (n0 n1 : Nat) (sp dp n : Int32) : Prop := ¬ sp < 0 ∧ ¬ dp < 0 ∧ ¬ n < 0 ∧ sp.toNatClampNeg + n.toNatClampNeg ≤ n0 ∧ dp.toNatClampNeg + n.toNatClampNeg ≤ n1

theorem mm_inv_mono {X E Y F : mm_X} (hX : ∀ d μ ip al ls st h Q, X d μ ip al ls st h Q → Y d μ ip al ls st h Q) (hE : ∀ d μ ip al ls st h Q, E d μ ip al ls st h Q → F d μ ip al ls st h Q) (hF : ∀ d μ ip al ls st h Q Q', (∀ r h', Q r h' → Q' r h') → F d μ ip al ls st h Q → F d μ ip al ls st h Q')
    {d μ nx : Nat} {al : Nat × Nat} {ls : List Value} {h : mm_H} {Q : mm_K} {μ' : Nat} {args rest : List Value} : mm_inv X E d μ nx al ls h Q μ' args rest → mm_inv Y F d μ nx al ls h Q μ' args rest := by
  unfold mm_inv
  refine mm_few_mono (mm_b1_mono (mm_tk_mono (fun al' => mm_dd_mono (fun d' q => ?_))))
  refine hF _ _ _ _ _ _ _ _ _ ?_ (hE _ _ _ _ _ _ _ _ q)
  intro r h' z
  cases r <;> exact hX _ _ _ _ _ _ _ _ z
def mm_stepI (q : mm_N) (X E : mm_X) (d μ : Nat) (al : Nat × Nat) (ls st : List Value) (h : mm_H) (Q : mm_K) : Prop := match q with
  | (_, i, nx, a, b, cv, _) => match i with
    | .iload_n _ => (mm_ldI ls a (fun x => X d μ nx al ls (.int x :: st) h Q))
    | .iload _ => (mm_ldI ls a (fun x => X d μ nx al ls (.int x :: st) h Q))
    | .lload_n _ => (mm_ldL ls a (fun x => X d μ nx al ls (.long x :: st) h Q))
    | .lload _ => (mm_ldL ls a (fun x => X d μ nx al ls (.long x :: st) h Q))
    | .aload_n _ => (mm_ldR ls a (fun x => X d μ nx al ls (.ref x :: st) h Q))
    | .aload _ => (mm_ldR ls a (fun x => X d μ nx al ls (.ref x :: st) h Q))
    | .istore_n _ => (mm_i1 st (fun x r => mm_st ls a (.int x) (fun ls => X d μ nx al ls r h Q)))
    | .istore _ => (mm_i1 st (fun x r => mm_st ls a (.int x) (fun ls => X d μ nx al ls r h Q)))
    | .astore_n _ => (mm_r1 st (fun x r => mm_st ls a (.ref x) (fun ls => X d μ nx al ls r h Q)))
    | .astore _ => (mm_r1 st (fun x r => mm_st ls a (.ref x) (fun ls => X d μ nx al ls r h Q)))
    | .lstore_n _ => (mm_l1 st (fun x r => mm_st2 ls a (.long x) (fun ls => X d μ nx al ls r h Q)))
    | .lstore _ => (mm_l1 st (fun x r => mm_st2 ls a (.long x) (fun ls => X d μ nx al ls r h Q)))
    | .iinc _ _ => (mm_ldI ls a (fun x => match cv with | .int y => mm_st ls a (.int (x + y)) (fun ls => X d μ nx al ls st h Q) | _ => False))
    | .iconst _ => (X d μ nx al ls (cv :: st) h Q)
    | .bipush _ => (X d μ nx al ls (cv :: st) h Q)
    | .sipush _ => (X d μ nx al ls (cv :: st) h Q)
    | .ldc _ => (X d μ nx al ls (cv :: st) h Q)
    | .ldc_w _ => (X d μ nx al ls (cv :: st) h Q)
    | .lconst _ => (X d μ nx al ls (cv :: st) h Q)
    | .ldc2_w _ => (X d μ nx al ls (cv :: st) h Q)
    | .getstatic _ => (X d μ nx al ls (.ref 1 :: st) h Q)
    | .iadd => (mm_i2 st (fun x0 x1 r => X d μ nx al ls (.int (x1 + x0) :: r) h Q))
    | .isub => (mm_i2 st (fun x0 x1 r => X d μ nx al ls (.int (x1 - x0) :: r) h Q))
    | .imul => (mm_i2 st (fun x0 x1 r => X d μ nx al ls (.int (x1 * x0) :: r) h Q))
    | .iand => (mm_i2 st (fun x0 x1 r => X d μ nx al ls (.int (x1 &&& x0) :: r) h Q))
    | .ior => (mm_i2 st (fun x0 x1 r => X d μ nx al ls (.int (x1 ||| x0) :: r) h Q))
    | .ixor => (mm_i2 st (fun x0 x1 r => X d μ nx al ls (.int (x1 ^^^ x0) :: r) h Q))
    | .ishl => (mm_i2 st (fun x0 x1 r => X d μ nx al ls (.int (x1 <<< (x0 &&& 31)) :: r) h Q))
    | .ishr => (mm_i2 st (fun x0 x1 r => X d μ nx al ls (.int (x1 >>> (x0 &&& 31)) :: r) h Q))
    | .iushr => (mm_i2 st (fun x0 x1 r => X d μ nx al ls (.int ((x1.toUInt32 >>> (x0.toUInt32 &&& Int32.toUInt32 31)).toInt32) :: r) h Q))
    | .idiv => (mm_i2 st (fun x0 x1 r => ¬ x0 = 0 ∧ X d μ nx al ls (.int (x1 / x0) :: r) h Q))
    | .irem => (mm_i2 st (fun x0 x1 r => ¬ x0 = 0 ∧ X d μ nx al ls (.int (x1 - x1 / x0 * x0) :: r) h Q))
    | .ladd => (mm_l2 st (fun x0 x1 r => X d μ nx al ls (.long (x1 + x0) :: r) h Q))
    | .lmul => (mm_l2 st (fun x0 x1 r => X d μ nx al ls (.long (x1 * x0) :: r) h Q))
    | .ldiv => (mm_l2 st (fun x0 x1 r => ¬ x0 = 0 ∧ X d μ nx al ls (.long (x1 / x0) :: r) h Q))
    | .lrem => (mm_l2 st (fun x0 x1 r => ¬ x0 = 0 ∧ X d μ nx al ls (.long (x1 - x1 / x0 * x0) :: r) h Q))
    | .lcmp => (mm_l2 st (fun x0 x1 r => X d μ nx al ls (.int (lg_cmp x1 x0) :: r) h Q))
    | .ineg => (mm_i1 st (fun x r => X d μ nx al ls (.int (-x) :: r) h Q))
    | .i2l => (mm_i1 st (fun x r => X d μ nx al ls (.long x.toInt64 :: r) h Q))
    | .i2b => (mm_i1 st (fun x r => X d μ nx al ls (.int x.toInt8.toInt32 :: r) h Q))
    | .l2i => (mm_l1 st (fun x r => X d μ nx al ls (.int x.toInt32 :: r) h Q))
    | .dup => (mm_v1 st (fun x r => mm_b1 (Nat.beq x.category 1) (X d μ nx al ls (x :: x :: r) h Q)))
    | .pop => (mm_v1 st (fun x r => mm_b1 (Nat.beq x.category 1) (X d μ nx al ls r h Q)))
    | .dup2 => (mm_v2 st (fun x y r => mm_b1 (Nat.beq x.category 1 && Nat.beq y.category 1) (X d μ nx al ls (x :: y :: x :: y :: r) h Q)))
    | .ifCond .eq _ => (mm_i1 st (fun x r => (x = 0 → X d μ a al ls r h Q) ∧ (¬ x = 0 → X d μ nx al ls r h Q)))
    | .ifCond .ne _ => (mm_i1 st (fun x r => (¬ x = 0 → X d μ a al ls r h Q) ∧ (x = 0 → X d μ nx al ls r h Q)))
    | .ifCond .lt _ => (mm_i1 st (fun x r => (x < 0 → X d μ a al ls r h Q) ∧ (¬ x < 0 → X d μ nx al ls r h Q)))
    | .ifCond .ge _ => (mm_i1 st (fun x r => (0 ≤ x → X d μ a al ls r h Q) ∧ (¬ 0 ≤ x → X d μ nx al ls r h Q)))
    | .ifCond .gt _ => (mm_i1 st (fun x r => (0 < x → X d μ a al ls r h Q) ∧ (¬ 0 < x → X d μ nx al ls r h Q)))
    | .ifCond .le _ => (mm_i1 st (fun x r => (x ≤ 0 → X d μ a al ls r h Q) ∧ (¬ x ≤ 0 → X d μ nx al ls r h Q)))
    | .if_icmp .eq _ => (mm_i2 st (fun y x r => (x = y → X d μ a al ls r h Q) ∧ (¬ x = y → X d μ nx al ls r h Q)))
    | .if_icmp .ne _ => (mm_i2 st (fun y x r => (¬ x = y → X d μ a al ls r h Q) ∧ (x = y → X d μ nx al ls r h Q)))
    | .if_icmp .lt _ => (mm_i2 st (fun y x r => (x < y → X d μ a al ls r h Q) ∧ (¬ x < y → X d μ nx al ls r h Q)))
    | .if_icmp .ge _ => (mm_i2 st (fun y x r => (y ≤ x → X d μ a al ls r h Q) ∧ (¬ y ≤ x → X d μ nx al ls r h Q)))
    | .if_icmp .gt _ => (mm_i2 st (fun y x r => (y < x → X d μ a al ls r h Q) ∧ (¬ y < x → X d μ nx al ls r h Q)))
    | .if_icmp .le _ => (mm_i2 st (fun y x r => (x ≤ y → X d μ a al ls r h Q) ∧ (¬ x ≤ y → X d μ nx al ls r h Q)))
    | .goto _ => (X d μ a al ls st h Q)
    | .tableswitch _ _ _ _ => (mm_i1 st (fun x r => mm_sw x (fun t => X d μ t al ls r h Q) b (mm_tg μ)))
    | .newarray _ => (mm_i1 st (fun n r => h.1 < mm_full ∧ ¬ n < 0 ∧ 1 ≤ al.1 ∧ n.toNatClampNeg ≤ al.2 ∧ X d μ nx (al.1 - 1, al.2 - n.toNatClampNeg) ls (.ref h.1 :: r) (h.1 + 1, mU h.2 h.1 (mI n.toNatClampNeg (fun _ => 0))) Q))
    | .anewarray _ => (mm_i1 st (fun n r => h.1 < mm_full ∧ ¬ n < 0 ∧ 1 ≤ al.1 ∧ n.toNatClampNeg ≤ al.2 ∧ X d μ nx (al.1 - 1, al.2 - n.toNatClampNeg) ls (.ref h.1 :: r) (h.1 + 1, mU h.2 h.1 (mR a n.toNatClampNeg (fun _ => none))) Q))
    | .new _ => (h.1 < mm_full ∧ 1 ≤ al.1 ∧ (mm_def a).length ≤ al.2 ∧ X d μ nx (al.1 - 1, al.2 - (mm_def a).length) ls (.ref h.1 :: st) (h.1 + 1, mU h.2 h.1 (mO a (mm_def a))) Q)
    | .getfield _ => (mm_r1 st (fun o r => mm_obj h.2 o a (fun fs => mm_ld fs b (fun v => X d μ nx al ls (v :: r) h Q))))
    | .putfield _ => (mm_vr st (fun v o r => mm_obj h.2 o a (fun fs => mm_ld (mm_def a) b (fun w => mm_b1 (mm_fit w v) (mm_set fs b v (fun fs => X d μ nx al ls r (h.1, mU h.2 o (mO a fs)) Q))))))
    | .iaload => (mm_ir st (fun i o r => mm_arr h.2 o (fun n f => vp_in i n ∧ X d μ nx al ls (.int (f i.toNatClampNeg) :: r) h Q)))
    | .iastore => (mm_iir st (fun x i o r => mm_arw h.2 o (fun n f => vp_in i n ∧ X d μ nx al ls r (h.1, mU h.2 o (mI n (upd f i.toNatClampNeg x))) Q)))
    | .aaload => (mm_ir st (fun i o r => mm_rar h.2 o (fun _ n f => vp_in i n ∧ ∃ k, f i.toNatClampNeg = some k ∧ X d μ nx al ls (.ref k :: r) h Q)))
    | .aastore => (mm_rir st (fun v i o r => mm_rar h.2 o (fun c n f => vp_in i n ∧ mm_obj h.2 v c (fun _ => X d μ nx al ls r (h.1, mU h.2 o (mR c n (va_up f i.toNatClampNeg (some v)))) Q))))
    | .arraylength => (mm_r1 st (fun o r => mm_alen h.2 o (fun n => X d μ nx al ls (.int (Int32.ofNat n) :: r) h Q)))
    | .invokestatic _ => (mm_bb (Nat.beq a 1001) (mm_iirir st (fun n dp o1 sp o0 r => mm_few r (mm_dd d (fun _ => mm_arw h.2 o0 (fun n0 f => mm_arw h.2 o1 (fun n1 g => mm_full ≤ h.1 ∧ mm_cpc n0 n1 sp dp n ∧ X d μ nx al ls r (h.1, mU h.2 o1 (mI n1 (va_cpy f g sp.toNatClampNeg dp.toNatClampNeg n.toNatClampNeg))) Q)))))) (mm_bb (Nat.beq a 1002) (mm_i2 st (fun y x r => mm_few r (mm_dd d (fun _ => X d μ nx al ls (.int (if x < y then y else x) :: r) h Q)))) (mm_bb (Nat.beq a 1003) (mm_i2 st (fun y x r => mm_few r (mm_dd d (fun _ => X d μ nx al ls (.int (if y < x then y else x) :: r) h Q)))) (mm_pop b st [] (fun args rest => mm_inv X E d μ nx al ls h Q a args rest)))))
    | .invokevirtual _ => (mm_pop b st [] (fun args rest => mm_r1 args (fun o _ => mm_obj h.2 o (mm_rc a) (fun _ => mm_inv X E d μ nx al ls h Q a args rest))))
    | .invokespecial _ => (mm_bb (Nat.beq a 1000) (mm_r1 st (fun _ r => mm_few r (mm_dd d (fun _ => X d μ nx al ls r h Q)))) (mm_pop b st [] (fun args rest => mm_r1 args (fun _ _ => mm_inv X E d μ nx al ls h Q a args rest))))
    | .ireturn => (match st with
    | [.int x] => (match mm_rt μ with | some .boolean => (x = 0 ∨ x = 1) ∧ Q (some (.int x)) h | _ => Q (some (.int x)) h)
    | _ => False)
    | .lreturn => (match st with
    | [.long x] => Q (some (.long x)) h
    | _ => False)
    | .return_ => (match st with
    | [] => Q none h
    | _ => False)
    | _ => False
theorem mm_stepI_mono {X E Y F : mm_X} (hX : ∀ d μ ip al ls st h Q, X d μ ip al ls st h Q → Y d μ ip al ls st h Q) (hE : ∀ d μ ip al ls st h Q, E d μ ip al ls st h Q → F d μ ip al ls st h Q) (hF : ∀ d μ ip al ls st h Q Q', (∀ r h', Q r h' → Q' r h') → F d μ ip al ls st h Q → F d μ ip al ls st h Q')
    {q : mm_N} {d μ : Nat} {al : Nat × Nat} {ls st : List Value} {h : mm_H} {Q : mm_K} : mm_stepI q X E d μ al ls st h Q → mm_stepI q Y F d μ al ls st h Q := by
  obtain ⟨pc, i, nx, a, b, cv, cut⟩ := q
  cases i
  case iload_n => exact mm_ldI_mono (fun _ => hX _ _ _ _ _ _ _ _)
  case iload => exact mm_ldI_mono (fun _ => hX _ _ _ _ _ _ _ _)
  case lload_n => exact mm_ldL_mono (fun _ => hX _ _ _ _ _ _ _ _)
  case lload => exact mm_ldL_mono (fun _ => hX _ _ _ _ _ _ _ _)
  case aload_n => exact mm_ldR_mono (fun _ => hX _ _ _ _ _ _ _ _)
  case aload => exact mm_ldR_mono (fun _ => hX _ _ _ _ _ _ _ _)
  case istore_n => exact mm_i1_mono (fun x r q => (mm_st_of (mm_st_inv q).1 (hX _ _ _ _ _ _ _ _ (mm_st_inv q).2.1) (mm_st_inv q).2.2))
  case istore => exact mm_i1_mono (fun x r q => (mm_st_of (mm_st_inv q).1 (hX _ _ _ _ _ _ _ _ (mm_st_inv q).2.1) (mm_st_inv q).2.2))
  case astore_n => exact mm_r1_mono (fun x r q => (mm_st_of (mm_st_inv q).1 (hX _ _ _ _ _ _ _ _ (mm_st_inv q).2.1) (mm_st_inv q).2.2))
  case astore => exact mm_r1_mono (fun x r q => (mm_st_of (mm_st_inv q).1 (hX _ _ _ _ _ _ _ _ (mm_st_inv q).2.1) (mm_st_inv q).2.2))
  case lstore_n => exact mm_l1_mono (fun x r q => (mm_st2_of (mm_st2_inv q).1 (hX _ _ _ _ _ _ _ _ (mm_st2_inv q).2.1) (mm_st2_inv q).2.2))
  case lstore => exact mm_l1_mono (fun x r q => (mm_st2_of (mm_st2_inv q).1 (hX _ _ _ _ _ _ _ _ (mm_st2_inv q).2.1) (mm_st2_inv q).2.2))
  case iinc => exact mm_ldI_mono (fun x q => by
      cases cv <;> first
        | exact q.elim
        | exact mm_st_of (mm_st_inv q).1 (hX _ _ _ _ _ _ _ _ (mm_st_inv q).2.1) (mm_st_inv q).2.2)
  case iconst => exact hX _ _ _ _ _ _ _ _
  case bipush => exact hX _ _ _ _ _ _ _ _
  case sipush => exact hX _ _ _ _ _ _ _ _
  case ldc => exact hX _ _ _ _ _ _ _ _
  case ldc_w => exact hX _ _ _ _ _ _ _ _
  case lconst => exact hX _ _ _ _ _ _ _ _
  case ldc2_w => exact hX _ _ _ _ _ _ _ _
  case getstatic => exact hX _ _ _ _ _ _ _ _
  case iadd => exact mm_i2_mono (fun _ _ _ => hX _ _ _ _ _ _ _ _)
  case isub => exact mm_i2_mono (fun _ _ _ => hX _ _ _ _ _ _ _ _)
  case imul => exact mm_i2_mono (fun _ _ _ => hX _ _ _ _ _ _ _ _)
  case iand => exact mm_i2_mono (fun _ _ _ => hX _ _ _ _ _ _ _ _)
  case ior => exact mm_i2_mono (fun _ _ _ => hX _ _ _ _ _ _ _ _)
  case ixor => exact mm_i2_mono (fun _ _ _ => hX _ _ _ _ _ _ _ _)
  case ishl => exact mm_i2_mono (fun _ _ _ => hX _ _ _ _ _ _ _ _)
  case ishr => exact mm_i2_mono (fun _ _ _ => hX _ _ _ _ _ _ _ _)
  case iushr => exact mm_i2_mono (fun _ _ _ => hX _ _ _ _ _ _ _ _)
  case idiv => exact mm_i2_mono (fun _ _ _ q => ⟨q.1, hX _ _ _ _ _ _ _ _ q.2⟩)
  case irem => exact mm_i2_mono (fun _ _ _ q => ⟨q.1, hX _ _ _ _ _ _ _ _ q.2⟩)
  case ladd => exact mm_l2_mono (fun _ _ _ => hX _ _ _ _ _ _ _ _)
  case lmul => exact mm_l2_mono (fun _ _ _ => hX _ _ _ _ _ _ _ _)
  case ldiv => exact mm_l2_mono (fun _ _ _ q => ⟨q.1, hX _ _ _ _ _ _ _ _ q.2⟩)
  case lrem => exact mm_l2_mono (fun _ _ _ q => ⟨q.1, hX _ _ _ _ _ _ _ _ q.2⟩)
  case lcmp => exact mm_l2_mono (fun _ _ _ => hX _ _ _ _ _ _ _ _)
  case ineg => exact mm_i1_mono (fun _ _ => hX _ _ _ _ _ _ _ _)
  case i2l => exact mm_i1_mono (fun _ _ => hX _ _ _ _ _ _ _ _)
  case i2b => exact mm_i1_mono (fun _ _ => hX _ _ _ _ _ _ _ _)
  case l2i => exact mm_l1_mono (fun _ _ => hX _ _ _ _ _ _ _ _)
  case dup => exact mm_v1_mono (fun _ _ => mm_b1_mono (hX _ _ _ _ _ _ _ _))
  case pop => exact mm_v1_mono (fun _ _ => mm_b1_mono (hX _ _ _ _ _ _ _ _))
  case dup2 => exact mm_v2_mono (fun _ _ _ => mm_b1_mono (hX _ _ _ _ _ _ _ _))
  case ifCond c off => cases c <;> exact mm_i1_mono (fun _ _ q => ⟨fun e => hX _ _ _ _ _ _ _ _ (q.1 e), fun e => hX _ _ _ _ _ _ _ _ (q.2 e)⟩)
  case if_icmp c off => cases c <;> exact mm_i2_mono (fun _ _ _ q => ⟨fun e => hX _ _ _ _ _ _ _ _ (q.1 e), fun e => hX _ _ _ _ _ _ _ _ (q.2 e)⟩)
  case goto => exact hX _ _ _ _ _ _ _ _
  case tableswitch => exact mm_i1_mono (fun _ _ => mm_sw_mono (fun _ => hX _ _ _ _ _ _ _ _))
  case newarray => exact mm_i1_mono (fun _ _ q => ⟨q.1, q.2.1, q.2.2.1, q.2.2.2.1, hX _ _ _ _ _ _ _ _ q.2.2.2.2⟩)
  case anewarray => exact mm_i1_mono (fun _ _ q => ⟨q.1, q.2.1, q.2.2.1, q.2.2.2.1, hX _ _ _ _ _ _ _ _ q.2.2.2.2⟩)
  case new => exact fun q => ⟨q.1, q.2.1, q.2.2.1, hX _ _ _ _ _ _ _ _ q.2.2.2⟩
  case getfield => exact mm_r1_mono (fun _ _ => mm_obj_mono (fun _ q => by
      obtain ⟨v, q1, q2⟩ := mm_ld_inv q
      exact mm_ld_of q1 (hX _ _ _ _ _ _ _ _ q2)))
  case putfield => exact mm_vr_mono (fun _ _ _ => mm_obj_mono (fun _ q => by
      obtain ⟨v, q1, q2⟩ := mm_ld_inv q
      exact mm_ld_of q1 (mm_b1_mono (fun q3 => mm_set_of (mm_set_inv q3).1 (hX _ _ _ _ _ _ _ _ (mm_set_inv q3).2)) q2)))
  case iaload => exact mm_ir_mono (fun _ _ _ => mm_arr_mono (fun _ _ q => ⟨q.1, hX _ _ _ _ _ _ _ _ q.2⟩))
  case iastore => exact mm_iir_mono (fun _ _ _ _ => mm_arw_mono (fun _ _ q => ⟨q.1, hX _ _ _ _ _ _ _ _ q.2⟩))
  case aaload => exact mm_ir_mono (fun _ _ _ => mm_rar_mono (fun _ _ _ q => ⟨q.1, by
      obtain ⟨k, q1, q2⟩ := q.2
      exact ⟨k, q1, hX _ _ _ _ _ _ _ _ q2⟩⟩))
  case aastore => exact mm_rir_mono (fun _ _ _ _ => mm_rar_mono (fun _ _ _ q => ⟨q.1, mm_obj_mono (fun _ => hX _ _ _ _ _ _ _ _) q.2⟩))
  case arraylength => exact mm_r1_mono (fun _ _ => mm_alen_mono (fun _ => hX _ _ _ _ _ _ _ _))
  case invokestatic => exact mm_bb_mono (mm_iirir_mono (fun _ _ _ _ _ _ => mm_few_mono (mm_dd_mono (fun _ => mm_arw_mono (fun _ _ => mm_arw_mono (fun _ _ q => ⟨q.1, q.2.1, hX _ _ _ _ _ _ _ _ q.2.2⟩)))))) (mm_bb_mono (mm_i2_mono (fun _ _ _ => mm_few_mono (mm_dd_mono (fun _ => hX _ _ _ _ _ _ _ _)))) (mm_bb_mono (mm_i2_mono (fun _ _ _ => mm_few_mono (mm_dd_mono (fun _ => hX _ _ _ _ _ _ _ _)))) (mm_pop_mono (fun _ _ => mm_inv_mono hX hE hF))))
  case invokevirtual => exact mm_pop_mono (fun _ _ => mm_r1_mono (fun _ _ => mm_obj_mono (fun _ => mm_inv_mono hX hE hF)))
  case invokespecial => exact mm_bb_mono (mm_r1_mono (fun _ _ => mm_few_mono (mm_dd_mono (fun _ => hX _ _ _ _ _ _ _ _)))) (mm_pop_mono (fun _ _ => mm_r1_mono (fun _ _ => mm_inv_mono hX hE hF)))
  case ireturn => exact id
  case lreturn => exact id
  case return_ => exact id
  all_goals exact fun q => q.elim
def mm_mono (X : mm_X) : Prop := ∀ d μ ip al ls st h Q Q', (∀ r h', Q r h' → Q' r h') → X d μ ip al ls st h Q → X d μ ip al ls st h Q'
def mm_step (X E : mm_X) : mm_X := fun d μ ip al ls st h Q => match mm_at μ ip with | some q => mm_stepI q X E d μ al ls st h Q | none => False
theorem mm_step_mono {X E Y F : mm_X} (hX : ∀ d μ ip al ls st h Q, X d μ ip al ls st h Q → Y d μ ip al ls st h Q) (hE : ∀ d μ ip al ls st h Q, E d μ ip al ls st h Q → F d μ ip al ls st h Q) (hF : mm_mono F)
    {d μ ip : Nat} {al : Nat × Nat} {ls st : List Value} {h : mm_H} {Q : mm_K} : mm_step X E d μ ip al ls st h Q → mm_step Y F d μ ip al ls st h Q := by
  unfold mm_step
  cases mm_at μ ip with
  | none => exact id
  | some q => exact mm_stepI_mono hX hE hF
/-- the least that is closed under steps -/
def mm_Ex : mm_X := fun d μ ip al ls st h Q => ∀ X : mm_X, mm_mono X → (∀ d μ ip al ls st h Q, mm_step X X d μ ip al ls st h Q → X d μ ip al ls st h Q) → X d μ ip al ls st h Q
theorem mm_Ex_mono : mm_mono mm_Ex := fun _ _ _ _ _ _ _ _ _ hq h X hm hc => hm _ _ _ _ _ _ _ _ _ hq (h X hm hc)
theorem mm_Ex_step {d μ ip : Nat} {al : Nat × Nat} {ls st : List Value} {h : mm_H} {Q : mm_K} (q : mm_step mm_Ex mm_Ex d μ ip al ls st h Q) : mm_Ex d μ ip al ls st h Q :=
  fun X hm hc => hc _ _ _ _ _ _ _ _ (mm_step_mono (fun _ _ _ _ _ _ _ _ z => z X hm hc) (fun _ _ _ _ _ _ _ _ z => z X hm hc) hm q)
def mm_wp : Nat → mm_X
  | 0 => mm_Ex
  | n + 1 => fun d μ ip al ls st h Q => match mm_at μ ip with
    | some (pc, i, nx, a, b, cv, cut) => (match cut with | true => mm_Ex d μ ip al ls st h Q | false => mm_stepI (pc, i, nx, a, b, cv, cut) (mm_wp n) mm_Ex d μ al ls st h Q)
    | none => False
theorem mm_wp_Ex : ∀ (n d μ ip : Nat) (al : Nat × Nat) (ls st : List Value) (h : mm_H) (Q : mm_K), mm_wp n d μ ip al ls st h Q → mm_Ex d μ ip al ls st h Q
  | 0, _, _, _, _, _, _, _, _, q => q
  | n + 1, d, μ, ip, al, ls, st, h, Q, q => by
    unfold mm_wp at q
    cases e : mm_at μ ip with
    | none => rw [e] at q; exact q.elim
    | some z =>
      rw [e] at q
      obtain ⟨pc, i, nx, a, b, cv, cut⟩ := z
      cases cut with
      | true => exact q
      | false =>
        refine mm_Ex_step ?_
        unfold mm_step
        rw [e]
        exact mm_stepI_mono (mm_wp_Ex n) (fun _ _ _ _ _ _ _ _ z => z) mm_Ex_mono q
/-- a run of at most n + 1 instructions, the first one a cut or not -/
theorem mm_run (n : Nat) {d μ ip : Nat} {al : Nat × Nat} {ls st : List Value} {h : mm_H} {Q : mm_K} (q : mm_step (mm_wp n) mm_Ex d μ ip al ls st h Q) : mm_Ex d μ ip al ls st h Q :=
  mm_Ex_step (mm_step_mono (mm_wp_Ex n) (fun _ _ _ _ _ _ _ _ z => z) mm_Ex_mono q)

