/-! the machine of numbers: cells, values, instructions as data -/
abbrev mm_C : Type := (Nat × List Value) ⊕ ((Nat × (Nat → Int32)) ⊕ ((Nat × Nat × (Nat → Option Nat)) ⊕ (Nat × (Nat → Int32))))
abbrev mm_H : Type := Nat × (Nat → mm_C)
abbrev mm_N : Type := Nat × Instr × Nat × Nat × Nat × Value × Bool
abbrev mm_K : Type := Option Value → mm_H → Prop
abbrev mm_X : Type := Nat → Nat → Nat → (Nat × Nat) → List Value → List Value → mm_H → mm_K → Prop
/-- an object of a kind, its fields -/
def mO (ci : Nat) (fs : List Value) : mm_C := .inl (ci, fs)
/-- an array of ints -/
def mI (n : Nat) (f : Nat → Int32) : mm_C := .inr (.inl (n, f))
/-- an array of references to objects of a kind -/
def mR (ci n : Nat) (f : Nat → Option Nat) : mm_C := .inr (.inr (.inl (ci, n, f)))
/-- an array of ints that nobody writes -/
def mE (n : Nat) (f : Nat → Int32) : mm_C := .inr (.inr (.inr (n, f)))
def mU (h : Nat → mm_C) (k : Nat) (c : mm_C) : Nat → mm_C := fun j => if j = k then c else h j
def mm_ld : List Value → Nat → (Value → Prop) → Prop
  | [], _, _ => False
  | v :: _, 0, K => K v
  | _ :: l, k + 1, K => mm_ld l k K
def mm_set : List Value → Nat → Value → (List Value → Prop) → Prop
  | [], _, _, _ => False
  | _ :: l, 0, v, K => K (v :: l)
  | a :: l, k + 1, v, K => mm_set l k v (fun l' => K (a :: l'))
def mm_st : List Value → Nat → Value → (List Value → Prop) → Prop
  | [], _, _, _ => False
  | _ :: l, 0, v, K => K (v :: l)
  | .long _ :: _, 1, _, _ => False
  | a :: l, k + 1, v, K => mm_st l k v (fun l' => K (a :: l'))
def mm_st2 : List Value → Nat → Value → (List Value → Prop) → Prop
  | [], _, _, _ => False
  | [_], _, _, _ => False
  | _ :: _ :: l, 0, v, K => K (v :: .null :: l)
  | .long _ :: _ :: _, 1, _, _ => False
  | a :: l, k + 1, v, K => mm_st2 l k v (fun l' => K (a :: l'))
def mm_ex : List Value → List Value
  | [] => []
  | .long x :: l => .long x :: .null :: mm_ex l
  | v :: l => v :: mm_ex l
def mm_ent (n : Nat) (args : List Value) : List Value := mm_ex args ++ List.replicate (n - (mm_ex args).length) .null
def mm_pop : Nat → List Value → List Value → (List Value → List Value → Prop) → Prop
  | 0, st, acc, K => K acc st
  | _ + 1, [], _, _ => False
  | n + 1, v :: st, acc, K => mm_pop n st (v :: acc) K
/-- the default fields of an object of a kind -/
def mm_def : Nat → List Value
  | 0 => [.null, .null, .null, .null, .null, .null, .int 0, .int 0]
  | 1 => [.null, .null, .null, .null, .null, .null, .int 0]
  | 2 => [.null, .null, .int 0]
  | 3 => [.null, .int 0]
  | 4 => [.null, .int 0, .int 0, .int 0, .int 0]
  | 5 => [.null, .null, .null, .null, .null, .null, .null, .null, .null, .int 0, .int 0, .long 0, .long 0]
  | 6 => [.null, .null, .null, .null, .null, .int 0, .null, .int 0, .long 0, .long 0, .int 0, .null, .null, .null, .null, .null, .null, .null, .null, .int 0, .null, .int 0, .int 0, .null, .null, .int 0, .int 0]
  | _ => []
/-- what a field of a kind may hold, told by what stands there by default: an int, a long, a reference -/
def mm_fit : Value → Value → Bool
  | .int _, .int _ => true
  | .long _, .long _ => true
  | .null, .ref _ => true
  | _, _ => false
/-- the values that locals and arguments hold -/
def mm_kd : Value → Bool
  | .int _ => true
  | .long _ => true
  | .ref _ => true
  | _ => false
def mm_akd : List Value → Bool
  | [] => true
  | v :: l => mm_kd v && mm_akd l
/-- so many cells there are when the two objects are made; none is made later -/
def mm_full : Nat := 93
